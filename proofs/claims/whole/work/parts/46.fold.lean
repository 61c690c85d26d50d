/-! lines as one fold, for both sides -/
theorem sm_up {f g : Nat → Int} {j : Nat} (h : ∀ e, e ≠ j → f e = g e) : ∀ {m i : Nat}, i ≤ j → j < i + m → sm f i m = sm g i m + (f j - g j)
  | 0, _, _, _ => by omega
  | m + 1, i, h1, h2 => by
    rw [sm, sm]
    by_cases e : i = j
    · subst e
      rw [sm_congr (f := f) (g := g) (fun k k1 k2 => h k (by omega))]
      omega
    · rw [h i e, sm_up h (m := m) (i := i + 1) (by omega) (by omega)]
      omega
def unm (lf : Nat → Int) : Int := sm (fun e => if lf e = -5 then 1 else 0) 0 162
def fol (nxt : Nat → Nat) (l : Int) : Nat → Nat → (Nat → Int) → (Nat → Int) → Nat → (Nat → Int) × (Nat → Int) × Nat
  | 0, _, lf, od, nd => (lf, od, nd)
  | n + 1, e, lf, od, nd => if lf e = -5 then fol nxt l n (nxt e) (up lf e l) (up od nd (e : Int)) (nd + 1) else (lf, od, nd)
theorem unm_nonneg (lf : Nat → Int) : 0 ≤ unm lf := sm_nonneg (fun j _ _ => by split <;> omega)
theorem unm_up {lf : Nat → Int} {e : Nat} {l : Int} (he : e < 162) (hl : 0 ≤ l) (hm : lf e = -5) : unm (up lf e l) = unm lf - 1 := by
  unfold unm
  rw [sm_up (f := fun j => if up lf e l j = -5 then 1 else 0) (g := fun j => if lf j = -5 then 1 else 0) (j := e) (fun j hj => by rw [up_other _ _ hj]) (by omega) (by omega)]
  rw [up_same, if_pos hm, if_neg (by omega)]
  omega
theorem unm_pos {lf : Nat → Int} {e : Nat} (he : e < 162) (hm : lf e = -5) : 1 ≤ unm lf := by
  have := unm_up (l := 0) he (by omega) hm
  have := unm_nonneg (up lf e 0)
  omega
/-- the stretch b .. b + c - 1 of od is line l -/
def LnP (nxt : Nat → Nat) (C : Nat → Prop) (lf od : Nat → Int) (l : Int) (b c : Nat) : Prop :=
  (∀ i, i < c → ∃ e : Nat, od (b + i) = e ∧ C e ∧ lf e = l) ∧ (∀ i, i + 1 < c → od (b + (i + 1)) = ((nxt (od (b + i)).toNat : Nat) : Int)) ∧ (∀ P : Nat → Int, sm (fun i => P (od i).toNat) b c = sm (fun e => if lf e = l then P e else 0) 0 162)
def MI (nxt : Nat → Nat) (C : Nat → Prop) (l : Int) (e0 b : Nat) (lf od : Nat → Int) (nd e : Nat) : Prop :=
  C e ∧ (nd : Int) + unm lf = 162 ∧ (∀ j, j < 162 → lf j = -5 ∨ (C j ∧ 0 ≤ lf j ∧ lf j ≤ l)) ∧ (C e0 ∧ lf e0 ≠ -5 ∧ od b = (e0 : Int)) ∧ ∃ c, nd = b + (c + 1) ∧ LnP nxt C lf od l b (c + 1) ∧ ∃ last, C last ∧ lf last ≠ -5 ∧ nxt last = e ∧ od (b + c) = (last : Int) ∧ ∀ m, m < 162 → lf m ≠ -5 → m ≠ e0 → ∃ m', C m' ∧ lf m' ≠ -5 ∧ m' ≠ last ∧ nxt m' = m
section
variable {nxt : Nat → Nat} {C : Nat → Prop}
theorem LnP_add (hC : ∀ e, C e → e < 162 ∧ C (nxt e)) {lf od : Nat → Int} {l : Int} {b c e : Nat} (hl : 0 ≤ l) (h : LnP nxt C lf od l b c) (he : C e) (hm : lf e = -5) (hnx : ∀ k, c = k + 1 → od (b + k) = (((od (b + k)).toNat : Nat) : Int) ∧ nxt (od (b + k)).toNat = e) : LnP nxt C (up lf e l) (up od (b + c) (e : Int)) l b (c + 1) := by
  obtain ⟨p1, p2, p3⟩ := h
  refine ⟨fun i hi => ?_, fun i hi => ?_, fun P => ?_⟩
  · by_cases z : i = c
    · subst z
      exact ⟨e, up_same _ _ _, he, up_same _ _ _⟩
    · obtain ⟨e', q1, q2, q3⟩ := p1 i (by omega)
      refine ⟨e', by rw [up_other _ _ (by omega)]; exact q1, q2, ?_⟩
      by_cases y : e' = e
      · subst y; exact up_same _ _ _
      · rw [up_other _ _ y]; exact q3
  · by_cases z : i + 1 = c
    · have := hnx i z.symm
      rw [z, up_same, up_other _ _ (by omega), this.2]
    · rw [up_other _ _ (by omega), up_other _ _ (by omega)]
      exact p2 i (by omega)
  · rw [sm_last, up_same, Int.toNat_natCast, sm_up (f := fun j => if up lf e l j = l then P j else 0) (g := fun j => if lf j = l then P j else 0) (j := e) (fun j hj => by rw [up_other _ _ hj]) (by omega) (by have := (hC e he).1; omega), ← p3 P]
    rw [up_same, if_pos rfl, if_neg (by omega), sm_congr (f := fun i => P (up od (b + c) (e : Int) i).toNat) (g := fun i => P (od i).toNat) (fun j j1 j2 => by rw [up_other _ _ (by omega)])]
    omega
theorem LnP_keep (hC : ∀ e, C e → e < 162 ∧ C (nxt e)) {lf od : Nat → Int} {l l' : Int} {b c e nd : Nat} (h : LnP nxt C lf od l' b c) (hl : l' ≠ l) (h5 : l' ≠ -5) (hb : b + c ≤ nd) (he : C e) (hm : lf e = -5) : LnP nxt C (up lf e l) (up od nd (e : Int)) l' b c := by
  obtain ⟨p1, p2, p3⟩ := h
  refine ⟨fun i hi => ?_, fun i hi => ?_, fun P => ?_⟩
  · obtain ⟨e', q1, q2, q3⟩ := p1 i (by omega)
    refine ⟨e', by rw [up_other _ _ (by omega)]; exact q1, q2, ?_⟩
    by_cases y : e' = e
    · subst y; omega
    · rw [up_other _ _ y]; exact q3
  · rw [up_other _ _ (by omega), up_other _ _ (by omega)]
    exact p2 i (by omega)
  · rw [sm_up (f := fun j => if up lf e l j = l' then P j else 0) (g := fun j => if lf j = l' then P j else 0) (j := e) (fun j hj => by rw [up_other _ _ hj]) (by omega) (by have := (hC e he).1; omega), ← p3 P]
    rw [up_same, if_neg (show ¬ l = l' from fun z => hl z.symm), if_neg (by omega), sm_congr (f := fun i => P (up od nd (e : Int) i).toNat) (g := fun i => P (od i).toNat) (fun j j1 j2 => by rw [up_other _ _ (by omega)])]
    omega
theorem MI_step (hC : ∀ e, C e → e < 162 ∧ C (nxt e)) {l : Int} {e0 b : Nat} {lf od : Nat → Int} {nd e : Nat} (hl : 0 ≤ l) (h : MI nxt C l e0 b lf od nd e) (hm : lf e = -5) : MI nxt C l e0 b (up lf e l) (up od nd (e : Int)) (nd + 1) (nxt e) := by
  obtain ⟨he, hu, hr, ⟨z1, z2, z3⟩, c, hc, hlp, last, l1, l2, l3, l4, l5⟩ := h
  have he1 := hC e he
  have hee : e ≠ e0 := fun z => z2 (by rw [← z]; exact hm)
  have hel : e ≠ last := fun z => l2 (by rw [← z]; exact hm)
  have mk : ∀ j, up lf e l j ≠ -5 ↔ (j = e ∨ lf j ≠ -5) := by
    intro j
    by_cases y : j = e
    · subst y; rw [up_same]; simp; omega
    · rw [up_other _ _ y]; simp [y]
  refine ⟨he1.2, ?_, ?_, ⟨z1, ?_, ?_⟩, c + 1, by omega, ?_, e, he, ?_, rfl, ?_, ?_⟩
  · rw [unm_up he1.1 hl hm]; omega
  · intro j hj
    by_cases y : j = e
    · subst y; rw [up_same]; exact Or.inr ⟨he, hl, by omega⟩
    · rw [up_other _ _ y]; exact hr j hj
  · rw [up_other _ _ (fun z => hee z.symm)]; exact z2
  · rw [up_other _ _ (by omega)]; exact z3
  · rw [hc]
    refine LnP_add hC hl hlp he hm (fun k hk => ?_)
    have : k = c := by omega
    subst this
    rw [l4, Int.toNat_natCast]
    exact ⟨rfl, l3⟩
  · rw [up_same]; omega
  · rw [hc, up_same]
  · intro m m1 m2 m3
    rcases (mk m).mp m2 with y | y
    · subst y
      exact ⟨last, l1, (mk last).mpr (Or.inr l2), fun z => hel z.symm, l3⟩
    · obtain ⟨m', a1, a2, a3, a4⟩ := l5 m m1 y m3
      refine ⟨m', a1, (mk m').mpr (Or.inr a2), fun z => a2 (by rw [z]; exact hm), a4⟩
theorem fol_mid (hC : ∀ e, C e → e < 162 ∧ C (nxt e)) {l : Int} {e0 b : Nat} (hl : 0 ≤ l) : ∀ (n : Nat) (e : Nat) (lf od : Nat → Int) (nd : Nat), MI nxt C l e0 b lf od nd e → unm lf < n → ∃ e', MI nxt C l e0 b (fol nxt l n e lf od nd).1 (fol nxt l n e lf od nd).2.1 (fol nxt l n e lf od nd).2.2 e' ∧ (fol nxt l n e lf od nd).1 e' ≠ -5
  | 0, e, lf, od, nd, h, hu => by have := unm_nonneg lf; omega
  | n + 1, e, lf, od, nd, h, hu => by
    rw [fol]
    by_cases z : lf e = -5
    · rw [if_pos z]
      exact fol_mid hC hl n _ _ _ _ (MI_step hC hl h z) (by rw [unm_up (hC e h.1).1 hl z]; omega)
    · rw [if_neg z]
      exact ⟨e, h, z⟩
theorem fol_keep {l : Int} (hl : 0 ≤ l) : ∀ (n : Nat) (e : Nat) (lf od : Nat → Int) (nd : Nat), (∀ j, lf j ≠ -5 → (fol nxt l n e lf od nd).1 j = lf j) ∧ (∀ i, i < nd → (fol nxt l n e lf od nd).2.1 i = od i) ∧ nd ≤ (fol nxt l n e lf od nd).2.2
  | 0, e, lf, od, nd => ⟨fun _ _ => rfl, fun _ _ => rfl, Nat.le_refl _⟩
  | n + 1, e, lf, od, nd => by
    rw [fol]
    by_cases z : lf e = -5
    · rw [if_pos z]
      have ih := fol_keep hl n (nxt e) (up lf e l) (up od nd (e : Int)) (nd + 1)
      refine ⟨fun j hj => ?_, fun i hi => ?_, by omega⟩
      · have y : j ≠ e := fun y => hj (by rw [y]; exact z)
        rw [ih.1 j (by rw [up_other _ _ y]; exact hj), up_other _ _ y]
      · rw [ih.2.1 i (by omega), up_other _ _ (by omega)]
    · rw [if_neg z]
      exact ⟨fun _ _ => rfl, fun _ _ => rfl, Nat.le_refl _⟩
theorem fol_LnP (hC : ∀ e, C e → e < 162 ∧ C (nxt e)) {l l' : Int} {b c : Nat} (hl : l' ≠ l) (h5 : l' ≠ -5) : ∀ (n : Nat) (e : Nat) (lf od : Nat → Int) (nd : Nat), C e → b + c ≤ nd → LnP nxt C lf od l' b c → LnP nxt C (fol nxt l n e lf od nd).1 (fol nxt l n e lf od nd).2.1 l' b c
  | 0, e, lf, od, nd, _, _, h => h
  | n + 1, e, lf, od, nd, he, hb, h => by
    rw [fol]
    by_cases z : lf e = -5
    · rw [if_pos z]
      exact fol_LnP hC hl h5 n _ _ _ _ (hC e he).2 (by omega) (LnP_keep hC h hl h5 hb he z)
    · rw [if_neg z]
      exact h
def LI (nxt : Nat → Nat) (C : Nat → Prop) (lf od bg : Nat → Int) (nl nd : Nat) : Prop :=
  bg 0 = 0 ∧ bg nl = nd ∧ (nd : Int) + unm lf = 162 ∧ (∀ l, l < nl → ∃ b c : Nat, bg l = b ∧ bg (l + 1) = ((b + c : Nat) : Int) ∧ 3 ≤ c ∧ b + c ≤ nd ∧ LnP nxt C lf od l b c) ∧ (∀ j, j < 162 → lf j = -5 ∨ (C j ∧ 0 ≤ lf j ∧ lf j < nl)) ∧ (∀ m, m < 162 → lf m ≠ -5 → ∃ m', C m' ∧ lf m' ≠ -5 ∧ nxt m' = m)
theorem LI_step (hC : ∀ e, C e → e < 162 ∧ C (nxt e)) (hI : ∀ a b, C a → C b → nxt a = nxt b → a = b) (hN : ∀ e, C e → nxt e ≠ e ∧ nxt (nxt e) ≠ e) {lf od bg : Nat → Int} {nl nd e0 : Nat} (h : LI nxt C lf od bg nl nd) (he : C e0) (hm : lf e0 = -5) : LI nxt C (fol nxt nl 200 e0 lf od nd).1 (fol nxt nl 200 e0 lf od nd).2.1 (up bg (nl + 1) (fol nxt nl 200 e0 lf od nd).2.2) (nl + 1) (fol nxt nl 200 e0 lf od nd).2.2 ∧ (fol nxt nl 200 e0 lf od nd).1 e0 ≠ -5 := by
  obtain ⟨i1, i2, i3, i4, i5, i6⟩ := h
  have he1 := hC e0 he
  have mk : ∀ j, up lf e0 nl j ≠ -5 ↔ (j = e0 ∨ lf j ≠ -5) := by
    intro j
    by_cases y : j = e0
    · subst y; rw [up_same]; simp
    · rw [up_other _ _ y]; simp [y]
  have lp0 : LnP nxt C lf od nl nd 0 := by
    refine ⟨fun i hi => absurd hi (by omega), fun i hi => absurd hi (by omega), fun P => ?_⟩
    rw [sm_congr (f := fun e => if lf e = (nl : Int) then P e else 0) (g := fun _ => 0) (fun j _ j2 => by rw [if_neg]; intro y; have := i5 j (by omega); omega)]
    rw [sm]
    have : ∀ m i, sm (fun _ => 0) i m = 0 := by
      intro m
      induction m with
      | zero => intro i; rfl
      | succ m ih => intro i; rw [sm, ih]; rfl
    rw [this]
  have hmi : MI nxt C nl e0 nd (up lf e0 nl) (up od nd (e0 : Int)) (nd + 1) (nxt e0) := by
    refine ⟨he1.2, by rw [unm_up he1.1 (by omega) hm]; omega, ?_, ⟨he, by rw [up_same]; omega, up_same _ _ _⟩, 0, rfl, ?_, e0, he, by rw [up_same]; omega, rfl, up_same _ _ _, ?_⟩
    · intro j hj
      by_cases y : j = e0
      · subst y; rw [up_same]; exact Or.inr ⟨he, by omega, by omega⟩
      · rw [up_other _ _ y]; exact (i5 j hj).imp id (fun w => ⟨w.1, w.2.1, by omega⟩)
    · exact LnP_add hC (by omega) lp0 he hm (fun k hk => absurd hk (by omega))
    · intro m m1 m2 m3
      rcases (mk m).mp m2 with y | y
      · exact absurd y m3
      · obtain ⟨m', a1, a2, a3⟩ := i6 m m1 y
        exact ⟨m', a1, (mk m').mpr (Or.inr a2), fun z => a2 (by rw [z]; exact hm), a3⟩
  have eq : fol nxt nl 200 e0 lf od nd = fol nxt nl 199 (nxt e0) (up lf e0 nl) (up od nd (e0 : Int)) (nd + 1) := by
    rw [show (200 : Nat) = 199 + 1 from rfl, fol, if_pos hm]
  have hu : unm (up lf e0 nl) < 199 := by rw [unm_up he1.1 (by omega) hm]; omega
  obtain ⟨e', mi, mm⟩ := fol_mid hC (l := nl) (by omega) 199 _ _ _ _ hmi hu
  have kp := fol_keep (nxt := nxt) (l := nl) (by omega) 200 e0 lf od nd
  have lpk := fun {l' : Int} {b c : Nat} (a : l' ≠ nl) (b1 : l' ≠ -5) (hb : b + c ≤ nd) (hlp : LnP nxt C lf od l' b c) => fol_LnP hC (l := nl) a b1 200 e0 lf od nd he hb hlp
  rw [← eq] at mi mm
  generalize fol nxt nl 200 e0 lf od nd = R at mi mm kp lpk ⊢
  obtain ⟨lf', od', nd'⟩ := R
  dsimp only at mi mm kp lpk ⊢
  obtain ⟨c1, c2, c3, ⟨z1, z2, z3⟩, c, hc, hlp, last, l1, l2, l3, l4, l5⟩ := mi
  have hlast : e' = e0 := Classical.byContradiction fun y => by
    obtain ⟨m', a1, a2, a3, a4⟩ := l5 e' (hC e' c1).1 mm y
    exact a3 (hI m' last a1 l1 (a4.trans l3.symm))
  subst hlast
  have hc3 : 3 ≤ c + 1 := by
    apply Classical.byContradiction
    intro y
    have : c = 0 ∨ c = 1 := by omega
    rcases this with rfl | rfl
    · rw [Nat.add_zero, z3] at l4
      have : e' = last := by omega
      rw [← this] at l3
      exact (hN e' he).1 l3
    · have q := hlp.2.1 0 (by omega)
      rw [Nat.zero_add, show nd + 0 = nd from rfl, z3, Int.toNat_natCast, l4] at q
      have : last = nxt e' := by omega
      rw [this] at l3
      exact (hN e' he).2 l3
  refine ⟨⟨?_, up_same _ _ _, c2, ?_, ?_, ?_⟩, z2⟩
  · rw [up_other _ _ (by omega)]; exact i1
  · intro l hl
    by_cases y : l = nl
    · subst y
      refine ⟨nd, c + 1, by rw [up_other _ _ (by omega)]; exact i2, by rw [up_same, hc], hc3, by omega, hlp⟩
    · obtain ⟨b, k, b1, b2, b3, b4, b5⟩ := i4 l (by omega)
      exact ⟨b, k, by rw [up_other _ _ (by omega)]; exact b1, by rw [up_other _ _ (by omega)]; exact b2, b3, by omega, lpk (by omega) (by omega) b4 b5⟩
  · intro j hj
    exact (c3 j hj).imp id (fun w => ⟨w.1, w.2.1, by omega⟩)
  · intro m m1 m2
    by_cases y : m = e'
    · subst y
      exact ⟨last, l1, l2, l3⟩
    · obtain ⟨m', a1, a2, a3, a4⟩ := l5 m m1 m2 y
      exact ⟨m', a1, a2, a4⟩
theorem LI_3 {lf od bg : Nat → Int} {nl nd : Nat} (h : LI nxt C lf od bg nl nd) : (∀ l, l ≤ nl → ∃ b : Nat, bg l = b ∧ 3 * l ≤ b ∧ b ≤ nd) := by
  intro l
  induction l with
  | zero => intro _; exact ⟨0, h.1, by omega, by omega⟩
  | succ l ih =>
    intro hl
    obtain ⟨b, b1, b2, b3⟩ := ih (by omega)
    obtain ⟨b', c, q1, q2, q3, q4, q5⟩ := h.2.2.2.1 l (by omega)
    exact ⟨b' + c, q2, by omega, q4⟩
end
