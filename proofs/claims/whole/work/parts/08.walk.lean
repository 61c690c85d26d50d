/-! the walk: rules in a bundled context -/
/-- p, l, e, R, s, m, args, below, meth, c, A, D, cA, ad, K, n, cells, slots, Q -/
abbrev ct_Ctx : Type := Program × Launch × Env × Room × State × MethodId × Array Value × List Frame × Method × Code × (Nat → Prop) × va_G × (Nat → ClassId) × (Nat → Nat) × (Nat → Nat) × Nat × Nat × Nat × (State → Prop)
def ct_v (x : ct_Ctx) (M : ct_M) (G : ct_G) (k : Nat) (ls : ct_L) (st : List ct_PV) (h : ct_H) : Prop := match x with
  | (p, l, e, R, s, m, args, below, meth, c, A, D, cA, ad, K, n, cells, slots, Q) => ct_V p l e R s m args below meth c M.2.2.1 A D cA ad G K n cells slots Q (ct_pc M.2.2.2.2 k) ls st h
def ct_c (x : ct_Ctx) (M : ct_M) (G : ct_G) (d : Nat) : Prop := match x with
  | (p, _, _, R, s, m, args, _, meth, c, A, D, cA, ad, K, n, cells, slots, _) => ct_MOk M ∧ ct_Cx p R s m args c M.2.1 M.2.2.1 M.1.cls A D cA ad G K n d cells slots ∧ meth.sig.returnType = M.2.2.2.1 ∧ meth.locks = false
def ct_q (x : ct_Ctx) (G : ct_G) (r : Option ct_PV × ct_H) : Prop := match x with
  | (_, _, _, _, s, _, args, below, _, _, A, D, cA, ad, K, n, cells, slots, Q) => cells = 0 ∧ slots = 0 ∧ Q = MQ below (ct_Qc A D cA ad G K n r) args s 0 0 A
def ct_Z {α : Type} (x : ct_Ctx) (M : ct_M) (G : ct_G) (k : Nat) (ls : ct_L) (st : List ct_PV) (h : ct_H) (P : α → Prop) (o : Option α) : Prop := ∀ a, o = some a → P a → ct_v x M G k ls st h
/-- M's contract: from its entry, with these locals, it returns what o says -/
def ct_E {α : Type} (M : ct_M) (d : Nat) (G : ct_G) (ls : ct_L) (h : ct_H) (ρ : α → Option ct_PV × ct_H) (o : Option α) : Prop := ∀ x, ct_c x M G d → ct_Z x M G 0 ls [] h (fun a => ct_q x G (ρ a)) o
theorem ct_E.toX {α : Type} {M : ct_M} {d : Nat} {G : ct_G} {ls : ct_L} {h : ct_H} {ρ : α → Option ct_PV × ct_H} {o : Option α} (hM : ct_MOk M) (hE : ct_E M d G ls h ρ o) : ct_X M d G 0 ls [] h ρ o := by
  intro a ha p l e R s m args below meth c A D cA ad K n C hr hl
  exact hE (p, l, e, R, s, m, args, below, meth, c, A, D, cA, ad, K, n, 0, 0, MQ below (ct_Qc A D cA ad G K n (ρ a)) args s 0 0 A) ⟨hM, C, hr, hl⟩ a ha ⟨rfl, rfl, rfl⟩
section
variable {α : Type} {x : ct_Ctx} {M : ct_M} {G : ct_G} {d k : Nat} {ls : ct_L} {st : List ct_PV} {h : ct_H} {P : α → Prop} {o : Option α}
theorem ct_znone : ct_Z x M G k ls st h P none := fun _ h0 _ => by cases h0
theorem ct_zrun (C : ct_c x M G d) {k' : Nat} {y : ct_S} (j : Nat) (hr : ct_run G M.2.2.1 j (M.2.2.2.2.drop k) ls st h = some y) (hk : k + j = k') (hlt : Nat.blt k' M.2.2.2.2.length = true) (z : ct_Z x M G k' y.1 y.2.1 y.2.2 P o) : ct_Z x M G k ls st h P o := by
  intro a ha hp
  have hz := z a ha hp
  obtain ⟨p, l, e, R, s, m, args, below, meth, c, A, D, cA, ad, K, n, cells, slots, Q⟩ := x
  obtain ⟨hM, hC, -⟩ := C
  subst hk
  exact ct_Vrun hC hM.2.2.1 j k ls st h y hr (by simpa using hlt) hz
theorem ct_zsub {ls' : ct_L} (ks : List Nat) (hl' : ks.filterMap (fun i => ls[i]?) = ls') (z : ct_Z x M G k ls' st h P o) : ct_Z x M G k ls st h P o := by
  intro a ha hp
  have hz := z a ha hp
  obtain ⟨p, l, e, R, s, m, args, below, meth, c, A, D, cA, ad, K, n, cells, slots, Q⟩ := x
  exact ct_Vsub ks hl' hz
theorem ct_row (hM : ct_MOk M) {q : ct_I} (hk : M.2.2.2.2[k]? = some q) : decode M.2.1 q.1 = .ok (q.2.1, q.2.2.1) ∧ ct_pc M.2.2.2.2 k = q.1 := ⟨(hM.2.2.1.1 q (List.mem_of_getElem? hk)).1, ct_pc_get hk⟩
theorem ct_next (hM : ct_MOk M) {q : ct_I} (hk : M.2.2.2.2[k]? = some q) (hlt : Nat.blt (k + 1) M.2.2.2.2.length = true) : ct_pc M.2.2.2.2 (k + 1) = q.1 + q.2.2.1 := by
  have hl : k + 1 < M.2.2.2.2.length := by simpa using hlt
  have hg : M.2.2.2.2[k + 1]? = some M.2.2.2.2[k + 1] := List.getElem?_eq_getElem hl
  rw [ct_pc_get hg]
  exact hM.2.2.1.2 k q _ hk hg
theorem ct_zrd (C : ct_c x M G d) {pc a cd aux : Nat} {i : Int} {ins : Instr} {F : Int → Option α} (hk : M.2.2.2.2[k]? = some (pc, ins, 1, aux)) (hlt : Nat.blt (k + 1) M.2.2.2.2.length = true) (hcd : (cd = 8 ∧ ins = .iaload) ∨ (cd = 9 ∧ ins = .baload) ∨ (cd = 10 ∧ ins = .baload)) (z : ∀ v, ct_Z x M G (k + 1) ls (.inl v :: st) h P (F v)) : ct_Z x M G k ls (.inl i :: .inr (.inr (cd, a)) :: st) h P ((ct_rd G h a i).bind F) := by
  intro b hb hp
  obtain ⟨v, h1, h2⟩ := Option.bind_eq_some_iff.mp hb
  have hz := z v b h2 hp
  obtain ⟨p, l, e, R, s, m, args, below, meth, c, A, D, cA, ad, K, n, cells, slots, Q⟩ := x
  obtain ⟨hM, hC, -⟩ := C
  obtain ⟨r1, r2⟩ := ct_row hM hk
  unfold ct_v at hz ⊢
  dsimp only at hz ⊢ r1 r2
  rw [ct_next hM hk hlt] at hz
  rw [r2]
  exact ct_Vrd hC hcd r1 h1 hz
theorem ct_zrdL (C : ct_c x M G d) {pc a aux : Nat} {i : Int} {F : Int64 → Option α} (hk : M.2.2.2.2[k]? = some (pc, .laload, 1, aux)) (hlt : Nat.blt (k + 1) M.2.2.2.2.length = true) (z : ∀ v, ct_Z x M G (k + 1) ls (.inr (.inl v) :: st) h P (F v)) : ct_Z x M G k ls (.inl i :: .inr (.inr (11, a)) :: st) h P ((ct_rdL G h a i).bind F) := by
  intro b hb hp
  obtain ⟨v, h1, h2⟩ := Option.bind_eq_some_iff.mp hb
  have hz := z v b h2 hp
  obtain ⟨p, l, e, R, s, m, args, below, meth, c, A, D, cA, ad, K, n, cells, slots, Q⟩ := x
  obtain ⟨hM, hC, -⟩ := C
  obtain ⟨r1, r2⟩ := ct_row hM hk
  unfold ct_v at hz ⊢
  dsimp only at hz ⊢ r1 r2
  rw [ct_next hM hk hlt] at hz
  rw [r2]
  exact ct_VrdL hC r1 h1 hz
theorem ct_zrdR (C : ct_c x M G d) {pc a cd aux : Nat} {i : Int} {F : Nat → Option α} (hk : M.2.2.2.2[k]? = some (pc, .aaload, 1, aux)) (hlt : Nat.blt (k + 1) M.2.2.2.2.length = true) (hcd : cd = 12 ∨ cd = 13 ∨ cd = 14) (z : ∀ v, ct_Z x M G (k + 1) ls (.inr (.inr (ct_et cd, v)) :: st) h P (F v)) : ct_Z x M G k ls (.inl i :: .inr (.inr (cd, a)) :: st) h P ((ct_rdR G a i).bind F) := by
  intro b hb hp
  obtain ⟨v, h1, h2⟩ := Option.bind_eq_some_iff.mp hb
  have hz := z v b h2 hp
  obtain ⟨p, l, e, R, s, m, args, below, meth, c, A, D, cA, ad, K, n, cells, slots, Q⟩ := x
  obtain ⟨hM, hC, -⟩ := C
  obtain ⟨r1, r2⟩ := ct_row hM hk
  unfold ct_v at hz ⊢
  dsimp only at hz ⊢ r1 r2
  rw [ct_next hM hk hlt] at hz
  rw [r2]
  exact ct_VrdR hC hcd r1 h1 hz
theorem ct_zwt (C : ct_c x M G d) {pc a aux : Nat} {i v : Int} {F : ct_H → Option α} (hk : M.2.2.2.2[k]? = some (pc, .iastore, 1, aux)) (hlt : Nat.blt (k + 1) M.2.2.2.2.length = true) (z : ∀ h', ct_Z x M G (k + 1) ls st h' P (F h')) : ct_Z x M G k ls (.inl v :: .inl i :: .inr (.inr (8, a)) :: st) h P ((ct_wt G h a i v).bind F) := by
  intro b hb hp
  obtain ⟨h', h1, h2⟩ := Option.bind_eq_some_iff.mp hb
  have hz := z h' b h2 hp
  obtain ⟨p, l, e, R, s, m, args, below, meth, c, A, D, cA, ad, K, n, cells, slots, Q⟩ := x
  obtain ⟨hM, hC, -⟩ := C
  obtain ⟨r1, r2⟩ := ct_row hM hk
  unfold ct_v at hz ⊢
  dsimp only at hz ⊢ r1 r2
  rw [ct_next hM hk hlt] at hz
  rw [r2]
  exact ct_Vwt hC r1 h1 hz
theorem ct_zwtB (C : ct_c x M G d) {pc a aux : Nat} {i v : Int} {F : ct_H → Option α} (hk : M.2.2.2.2[k]? = some (pc, .bastore, 1, aux)) (hlt : Nat.blt (k + 1) M.2.2.2.2.length = true) (z : ∀ h', ct_Z x M G (k + 1) ls st h' P (F h')) : ct_Z x M G k ls (.inl v :: .inl i :: .inr (.inr (9, a)) :: st) h P ((ct_wtB G h a i v).bind F) := by
  intro b hb hp
  obtain ⟨h', h1, h2⟩ := Option.bind_eq_some_iff.mp hb
  have hz := z h' b h2 hp
  obtain ⟨p, l, e, R, s, m, args, below, meth, c, A, D, cA, ad, K, n, cells, slots, Q⟩ := x
  obtain ⟨hM, hC, -⟩ := C
  obtain ⟨r1, r2⟩ := ct_row hM hk
  unfold ct_v at hz ⊢
  dsimp only at hz ⊢ r1 r2
  rw [ct_next hM hk hlt] at hz
  rw [r2]
  exact ct_VwtB hC r1 h1 hz
theorem ct_zwtZ (C : ct_c x M G d) {pc a aux : Nat} {i v : Int} {F : ct_H → Option α} (hk : M.2.2.2.2[k]? = some (pc, .bastore, 1, aux)) (hlt : Nat.blt (k + 1) M.2.2.2.2.length = true) (z : ∀ h', ct_Z x M G (k + 1) ls st h' P (F h')) : ct_Z x M G k ls (.inl v :: .inl i :: .inr (.inr (10, a)) :: st) h P ((ct_wtZ G h a i v).bind F) := by
  intro b hb hp
  obtain ⟨h', h1, h2⟩ := Option.bind_eq_some_iff.mp hb
  have hz := z h' b h2 hp
  obtain ⟨p, l, e, R, s, m, args, below, meth, c, A, D, cA, ad, K, n, cells, slots, Q⟩ := x
  obtain ⟨hM, hC, -⟩ := C
  obtain ⟨r1, r2⟩ := ct_row hM hk
  unfold ct_v at hz ⊢
  dsimp only at hz ⊢ r1 r2
  rw [ct_next hM hk hlt] at hz
  rw [r2]
  exact ct_VwtZ hC r1 h1 hz
theorem ct_zwtL (C : ct_c x M G d) {pc a aux : Nat} {i : Int} {v : Int64} {F : ct_H → Option α} (hk : M.2.2.2.2[k]? = some (pc, .lastore, 1, aux)) (hlt : Nat.blt (k + 1) M.2.2.2.2.length = true) (z : ∀ h', ct_Z x M G (k + 1) ls st h' P (F h')) : ct_Z x M G k ls (.inr (.inl v) :: .inl i :: .inr (.inr (11, a)) :: st) h P ((ct_wtL G h a i v).bind F) := by
  intro b hb hp
  obtain ⟨h', h1, h2⟩ := Option.bind_eq_some_iff.mp hb
  have hz := z h' b h2 hp
  obtain ⟨p, l, e, R, s, m, args, below, meth, c, A, D, cA, ad, K, n, cells, slots, Q⟩ := x
  obtain ⟨hM, hC, -⟩ := C
  obtain ⟨r1, r2⟩ := ct_row hM hk
  unfold ct_v at hz ⊢
  dsimp only at hz ⊢ r1 r2
  rw [ct_next hM hk hlt] at hz
  rw [r2]
  exact ct_VwtL hC r1 h1 hz
theorem ct_zdv (C : ct_c x M G d) {pc aux : Nat} {a b : Int} {F : Int → Option α} (hk : M.2.2.2.2[k]? = some (pc, .idiv, 1, aux)) (hlt : Nat.blt (k + 1) M.2.2.2.2.length = true) (z : ∀ v, ct_Z x M G (k + 1) ls (.inl v :: st) h P (F v)) : ct_Z x M G k ls (.inl b :: .inl a :: st) h P ((ct_dv a b).bind F) := by
  intro b hb hp
  obtain ⟨v, h1, h2⟩ := Option.bind_eq_some_iff.mp hb
  have hz := z v b h2 hp
  obtain ⟨p, l, e, R, s, m, args, below, meth, c, A, D, cA, ad, K, n, cells, slots, Q⟩ := x
  obtain ⟨hM, hC, -⟩ := C
  obtain ⟨r1, r2⟩ := ct_row hM hk
  unfold ct_v at hz ⊢
  dsimp only at hz ⊢ r1 r2
  rw [ct_next hM hk hlt] at hz
  rw [r2]
  exact ct_Vdv hC r1 h1 hz
theorem ct_zmd (C : ct_c x M G d) {pc aux : Nat} {a b : Int} {F : Int → Option α} (hk : M.2.2.2.2[k]? = some (pc, .irem, 1, aux)) (hlt : Nat.blt (k + 1) M.2.2.2.2.length = true) (z : ∀ v, ct_Z x M G (k + 1) ls (.inl v :: st) h P (F v)) : ct_Z x M G k ls (.inl b :: .inl a :: st) h P ((ct_md a b).bind F) := by
  intro b hb hp
  obtain ⟨v, h1, h2⟩ := Option.bind_eq_some_iff.mp hb
  have hz := z v b h2 hp
  obtain ⟨p, l, e, R, s, m, args, below, meth, c, A, D, cA, ad, K, n, cells, slots, Q⟩ := x
  obtain ⟨hM, hC, -⟩ := C
  obtain ⟨r1, r2⟩ := ct_row hM hk
  unfold ct_v at hz ⊢
  dsimp only at hz ⊢ r1 r2
  rw [ct_next hM hk hlt] at hz
  rw [r2]
  exact ct_Vmd hC r1 h1 hz
theorem ct_zsplit {b : Prop} {dp : Decidable b} {o1 o2 : Option α} (z1 : b → ct_Z x M G k ls st h P o1) (z2 : ¬ b → ct_Z x M G k ls st h P o2) : ct_Z x M G k ls st h P (@ite _ b dp o1 o2) := by
  by_cases hb : b
  · rw [if_pos hb]; exact z1 hb
  · rw [if_neg hb]; exact z2 hb
/-- a branch on two ints; the condition of the function is the branch's own (zt), or its opposite (zf) -/
theorem ct_zt (C : ct_c x M G d) {pc aux k' : Nat} {a b off : Int} {cn : Jvm.ClassFile.Cond} {q : Prop} {dp : Decidable q} {o1 o2 : Option α} (hq : ct_cmp cn a b ↔ q) (hk : M.2.2.2.2[k]? = some (pc, .if_icmp cn off, 3, aux)) (hlt : Nat.blt (k + 1) M.2.2.2.2.length = true) (ht : (pc : Int) + off = (ct_pc M.2.2.2.2 k' : Int)) (z1 : q → ct_Z x M G k' ls st h P o1) (z2 : ¬ q → ct_Z x M G (k + 1) ls st h P o2) : ct_Z x M G k ls (.inl b :: .inl a :: st) h P (@ite _ q dp o1 o2) := by
  intro r hr hp
  have hz1 : q → ct_v x M G k' ls st h := fun hq' => z1 hq' r (by rw [if_pos hq'] at hr; exact hr) hp
  have hz2 : ¬ q → ct_v x M G (k + 1) ls st h := fun hq' => z2 hq' r (by rw [if_neg hq'] at hr; exact hr) hp
  obtain ⟨p, l, e, R, s, m, args, below, meth, c, A, D, cA, ad, K, n, cells, slots, Q⟩ := x
  obtain ⟨hM, hC, -⟩ := C
  obtain ⟨r1, r2⟩ := ct_row hM hk
  unfold ct_v at hz1 hz2 ⊢
  dsimp only at hz1 hz2 ⊢ r1 r2
  rw [ct_next hM hk hlt] at hz2
  rw [r2]
  exact ct_Vicmp hC r1 ht (fun w => hz1 (hq.mp w)) (fun w => hz2 (fun v => w (hq.mpr v)))
theorem ct_zf (C : ct_c x M G d) {pc aux k' : Nat} {a b off : Int} {cn : Jvm.ClassFile.Cond} {q : Prop} {dp : Decidable q} {o1 o2 : Option α} (hq : ct_cmp cn a b ↔ ¬ q) (hk : M.2.2.2.2[k]? = some (pc, .if_icmp cn off, 3, aux)) (hlt : Nat.blt (k + 1) M.2.2.2.2.length = true) (ht : (pc : Int) + off = (ct_pc M.2.2.2.2 k' : Int)) (z1 : q → ct_Z x M G (k + 1) ls st h P o1) (z2 : ¬ q → ct_Z x M G k' ls st h P o2) : ct_Z x M G k ls (.inl b :: .inl a :: st) h P (@ite _ q dp o1 o2) := by
  intro r hr hp
  have hz1 : q → ct_v x M G (k + 1) ls st h := fun hq' => z1 hq' r (by rw [if_pos hq'] at hr; exact hr) hp
  have hz2 : ¬ q → ct_v x M G k' ls st h := fun hq' => z2 hq' r (by rw [if_neg hq'] at hr; exact hr) hp
  obtain ⟨p, l, e, R, s, m, args, below, meth, c, A, D, cA, ad, K, n, cells, slots, Q⟩ := x
  obtain ⟨hM, hC, -⟩ := C
  obtain ⟨r1, r2⟩ := ct_row hM hk
  unfold ct_v at hz1 hz2 ⊢
  dsimp only at hz1 hz2 ⊢ r1 r2
  rw [ct_next hM hk hlt] at hz1
  rw [r2]
  exact ct_Vicmp hC r1 ht (fun w => hz2 (hq.mp w)) (fun w => hz1 (Classical.byContradiction fun v => w (hq.mpr v)))
theorem ct_zt0 (C : ct_c x M G d) {pc aux k' : Nat} {a off : Int} {cn : Jvm.ClassFile.Cond} {q : Prop} {dp : Decidable q} {o1 o2 : Option α} (hq : ct_cmp cn a 0 ↔ q) (hk : M.2.2.2.2[k]? = some (pc, .ifCond cn off, 3, aux)) (hlt : Nat.blt (k + 1) M.2.2.2.2.length = true) (ht : (pc : Int) + off = (ct_pc M.2.2.2.2 k' : Int)) (z1 : q → ct_Z x M G k' ls st h P o1) (z2 : ¬ q → ct_Z x M G (k + 1) ls st h P o2) : ct_Z x M G k ls (.inl a :: st) h P (@ite _ q dp o1 o2) := by
  intro r hr hp
  have hz1 : q → ct_v x M G k' ls st h := fun hq' => z1 hq' r (by rw [if_pos hq'] at hr; exact hr) hp
  have hz2 : ¬ q → ct_v x M G (k + 1) ls st h := fun hq' => z2 hq' r (by rw [if_neg hq'] at hr; exact hr) hp
  obtain ⟨p, l, e, R, s, m, args, below, meth, c, A, D, cA, ad, K, n, cells, slots, Q⟩ := x
  obtain ⟨hM, hC, -⟩ := C
  obtain ⟨r1, r2⟩ := ct_row hM hk
  unfold ct_v at hz1 hz2 ⊢
  dsimp only at hz1 hz2 ⊢ r1 r2
  rw [ct_next hM hk hlt] at hz2
  rw [r2]
  exact ct_Vcond hC r1 ht (fun w => hz1 (hq.mp w)) (fun w => hz2 (fun v => w (hq.mpr v)))
theorem ct_zf0 (C : ct_c x M G d) {pc aux k' : Nat} {a off : Int} {cn : Jvm.ClassFile.Cond} {q : Prop} {dp : Decidable q} {o1 o2 : Option α} (hq : ct_cmp cn a 0 ↔ ¬ q) (hk : M.2.2.2.2[k]? = some (pc, .ifCond cn off, 3, aux)) (hlt : Nat.blt (k + 1) M.2.2.2.2.length = true) (ht : (pc : Int) + off = (ct_pc M.2.2.2.2 k' : Int)) (z1 : q → ct_Z x M G (k + 1) ls st h P o1) (z2 : ¬ q → ct_Z x M G k' ls st h P o2) : ct_Z x M G k ls (.inl a :: st) h P (@ite _ q dp o1 o2) := by
  intro r hr hp
  have hz1 : q → ct_v x M G (k + 1) ls st h := fun hq' => z1 hq' r (by rw [if_pos hq'] at hr; exact hr) hp
  have hz2 : ¬ q → ct_v x M G k' ls st h := fun hq' => z2 hq' r (by rw [if_neg hq'] at hr; exact hr) hp
  obtain ⟨p, l, e, R, s, m, args, below, meth, c, A, D, cA, ad, K, n, cells, slots, Q⟩ := x
  obtain ⟨hM, hC, -⟩ := C
  obtain ⟨r1, r2⟩ := ct_row hM hk
  unfold ct_v at hz1 hz2 ⊢
  dsimp only at hz1 hz2 ⊢ r1 r2
  rw [ct_next hM hk hlt] at hz1
  rw [r2]
  exact ct_Vcond hC r1 ht (fun w => hz2 (hq.mp w)) (fun w => hz1 (Classical.byContradiction fun v => w (hq.mpr v)))
theorem ct_zgoto (C : ct_c x M G d) {pc aux k' : Nat} {off : Int} (hk : M.2.2.2.2[k]? = some (pc, .goto off, 3, aux)) (ht : (pc : Int) + off = (ct_pc M.2.2.2.2 k' : Int)) (z : ct_Z x M G k' ls st h P o) : ct_Z x M G k ls st h P o := by
  intro r hr hp
  have hz := z r hr hp
  obtain ⟨p, l, e, R, s, m, args, below, meth, c, A, D, cA, ad, K, n, cells, slots, Q⟩ := x
  obtain ⟨hM, hC, -⟩ := C
  obtain ⟨r1, r2⟩ := ct_row hM hk
  unfold ct_v at hz ⊢
  dsimp only at hz ⊢ r1 r2
  rw [r2]
  exact ct_Vgoto hC r1 ht hz
theorem ct_zsw (C : ct_c x M G d) {q : ct_I} {k' : Nat} {a off : Int} (hk : M.2.2.2.2[k]? = some q) (hsw : ct_sw q.2.1 a = some off) (ht : (q.1 : Int) + off = (ct_pc M.2.2.2.2 k' : Int)) (z : ct_Z x M G k' ls st h P o) : ct_Z x M G k ls (.inl a :: st) h P o := by
  intro r hr hp
  have hz := z r hr hp
  obtain ⟨p, l, e, R, s, m, args, below, meth, c, A, D, cA, ad, K, n, cells, slots, Q⟩ := x
  obtain ⟨hM, hC, -⟩ := C
  obtain ⟨r1, r2⟩ := ct_row hM hk
  unfold ct_v at hz ⊢
  dsimp only at hz ⊢ r1 r2
  rw [r2]
  exact ct_Vsw hC r1 hsw ht hz
theorem ct_zV {β : Type} (C : ct_c x M G (d + 1)) {N : ct_M} {pc aux idx nA cc b : Nat} {S : List ct_PV} (as st : List ct_PV) {ρ : β → Option ct_PV × ct_H} {ob : Option β} {F : β → Option α} (hN : ct_MOk N) (hL : ct_LkV M.1.cls idx N nA) (hE : ct_E N d G (ct_args 0 (.inr (.inr (cc, b)) :: as)) h ρ ob) (hk : M.2.2.2.2[k]? = some (pc, .invokevirtual idx, 3, aux)) (hlt : Nat.blt (k + 1) M.2.2.2.2.length = true) (hS : S = as.reverse ++ .inr (.inr (cc, b)) :: st) (hnA : as.length = nA) (hcc : Nat.blt cc 8 = true) (hcn : ct_R cc = N.1.cls) (hlen : Nat.ble (1 + (as.map ct_cat).sum) N.2.2.1 = true) (hrest : Nat.ble (st.map ct_cat).sum 8 = true)
    (z : ∀ r, ct_Z x M G (k + 1) ls ((ρ r).1.toList ++ st) (ρ r).2 P (F r)) : ct_Z x M G k ls S h P (ob.bind F) := by
  intro r hr hp
  obtain ⟨v, h1, h2⟩ := Option.bind_eq_some_iff.mp hr
  have hz := z v r h2 hp
  subst hS
  obtain ⟨p, l, e, R, s, m, args, below, meth, c, A, D, cA, ad, K, n, cells, slots, Q⟩ := x
  obtain ⟨hM, hC, -⟩ := C
  obtain ⟨r1, r2⟩ := ct_row hM hk
  unfold ct_v at hz ⊢
  dsimp only at hz ⊢ r1 r2
  rw [ct_next hM hk hlt] at hz
  rw [r2]
  exact ct_VcallV hC hN r1 hL (hE.toX hN) h1 hnA (by simpa using hcc) hcn (Nat.le_of_ble_eq_true hlen) (Nat.le_of_ble_eq_true hrest) hz
theorem ct_zS {β : Type} (C : ct_c x M G (d + 1)) {N : ct_M} {pc aux idx nA : Nat} {S : List ct_PV} (as st : List ct_PV) {ρ : β → Option ct_PV × ct_H} {ob : Option β} {F : β → Option α} (hN : ct_MOk N) (hL : ct_LkS M.1.cls idx N nA) (hE : ct_E N d G (ct_args 0 as) h ρ ob) (hk : M.2.2.2.2[k]? = some (pc, .invokestatic idx, 3, aux)) (hlt : Nat.blt (k + 1) M.2.2.2.2.length = true) (hS : S = as.reverse ++ st) (hnA : as.length = nA) (hlen : Nat.ble (as.map ct_cat).sum N.2.2.1 = true) (hrest : Nat.ble (st.map ct_cat).sum 8 = true)
    (z : ∀ r, ct_Z x M G (k + 1) ls ((ρ r).1.toList ++ st) (ρ r).2 P (F r)) : ct_Z x M G k ls S h P (ob.bind F) := by
  intro r hr hp
  obtain ⟨v, h1, h2⟩ := Option.bind_eq_some_iff.mp hr
  have hz := z v r h2 hp
  subst hS
  obtain ⟨p, l, e, R, s, m, args, below, meth, c, A, D, cA, ad, K, n, cells, slots, Q⟩ := x
  obtain ⟨hM, hC, -⟩ := C
  obtain ⟨r1, r2⟩ := ct_row hM hk
  unfold ct_v at hz ⊢
  dsimp only at hz ⊢ r1 r2
  rw [ct_next hM hk hlt] at hz
  rw [r2]
  exact ct_VcallS hC hN r1 hL (hE.toX hN) h1 hnA (Nat.le_of_ble_eq_true hlen) (Nat.le_of_ble_eq_true hrest) hz
theorem ct_zret (C : ct_c x M G d) {ρ : α → Option ct_PV × ct_H} {pc aux : Nat} {ins : Instr} {S : List ct_PV} {a : α} (v : Option ct_PV) (hk : M.2.2.2.2[k]? = some (pc, ins, 1, aux)) (hS : S = v.toList) (hρ : ρ a = (v, h))
    (hv : ct_rv v ins M.2.2.2.1) : ct_Z x M G k ls S h (fun a => ct_q x G (ρ a)) (some a) := by
  intro r hr hp
  cases hr
  subst hS
  obtain ⟨p, l, e, R, s, m, args, below, meth, c, A, D, cA, ad, K, n, cells, slots, Q⟩ := x
  obtain ⟨hM, hC, hr, hl⟩ := C
  obtain ⟨r1, r2⟩ := ct_row hM hk
  obtain ⟨q1, q2, q3⟩ := hp
  subst q1; subst q2; subst q3
  unfold ct_v
  dsimp only at r1 r2 ⊢
  rw [r2, hρ]
  exact ct_Vret hC hr hl r1 hv
def ct_bz (a : Int) : Option Int := if a = 0 ∨ a = 1 then some a else none
theorem ct_zbz {r : Int} {F : Int → Option α} (z : (r = 0 ∨ r = 1) → ct_Z x M G k ls st h P (F r)) : ct_Z x M G k ls st h P ((ct_bz r).bind F) := by
  intro b hb hp
  obtain ⟨v, h1, h2⟩ := Option.bind_eq_some_iff.mp hb
  unfold ct_bz at h1
  split at h1
  · rename_i hr
    cases h1
    exact z hr b h2 hp
  · cases h1
theorem ct_zleaf {L : α → ct_L} {S : α → List ct_PV} {Hh : α → ct_H} {a : α} (h1 : L a = ls) (h2 : S a = st) (h3 : Hh a = h) : ct_Z x M G k ls st h (fun a => ct_v x M G k (L a) (S a) (Hh a)) (some a) := by
  intro r hr hp
  cases hr
  subst h1; subst h2; subst h3
  exact hp
theorem ct_zbind {β : Type} {k' : Nat} {L : β → ct_L} {S : β → List ct_PV} {Hh : β → ct_H} {ob : Option β} {F : β → Option α} (z1 : ct_Z x M G k ls st h (fun b => ct_v x M G k' (L b) (S b) (Hh b)) ob) (z2 : ∀ b, ct_Z x M G k' (L b) (S b) (Hh b) P (F b)) : ct_Z x M G k ls st h P (ob.bind F) := by
  intro r hr hp
  obtain ⟨v, h1, h2⟩ := Option.bind_eq_some_iff.mp hr
  exact z1 v h1 (z2 v r h2 hp)
end
