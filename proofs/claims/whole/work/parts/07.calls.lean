/-! methods, their contracts, calls -/
abbrev ct_M : Type := MethodName × ByteArray × Nat × Option FieldType × List ct_I
def ct_MOk (M : ct_M) : Prop := Cond.code M.1 M.2.1 M.2.2.1 M.2.2.2.1 ∈ ct_GW ∧ Cond.initialized M.1.cls ∈ ct_GW ∧ ct_TK M.1.cls M.2.1 M.2.2.2.2 ∧ M.2.2.1 ≤ 20 ∧ plainName M.1.cls = true ∧ (M.1.cls ≠ "java/lang/invoke/MethodHandle" ∧ M.1.cls ≠ "java/lang/invoke/VarHandle") ∧ ct_pc M.2.2.2.2 0 = 0
def ct_rm (d : Nat) : Room := { frames := d, cells := 0, slots := 0, locals := 40 * d }
def ct_args : Nat → List ct_PV → ct_L
  | _, [] => []
  | i, v :: vs => (i, v) :: ct_args (if ct_cat v = 2 then i + 2 else i + 1) vs
theorem ct_args_map (ad : Nat → Nat) : ∀ (as : List ct_PV) (i : Nat), lv_args i (as.map (ct_mv ad)) = (ct_args i as).map fun q => (q.1, ct_mv ad q.2)
  | [], i => rfl
  | v :: vs, i => by
    show (i, ct_mv ad v) :: lv_args (if (ct_mv ad v).category = 2 then i + 2 else i + 1) (vs.map (ct_mv ad)) = _
    rw [ct_cat_mv, ct_args_map ad vs]
    rfl
theorem ct_sl_len (ad : Nat → Nat) : ∀ (as : List ct_PV), (lg_sl (as.map (ct_mv ad))).length = (as.map ct_cat).sum
  | [] => rfl
  | v :: vs => by
    have ih := ct_sl_len ad vs
    unfold lg_sl at ih ⊢
    simp only [List.map_cons, List.flatMap_cons, List.length_append, List.sum_cons, ih, ct_cat_mv]
    rcases v with a | x | q <;> rfl
theorem ct_args_ok {K : Nat → Nat} {n : Nat} : ∀ (as : List ct_PV) (i : Nat), (∀ v ∈ as, ct_ok K n v) → ∀ q ∈ ct_args i as, ct_ok K n q.2
  | [], i, _, q, hq => by cases hq
  | v :: vs, i, h, q, hq => by
    rcases List.mem_cons.mp hq with e | e
    · rw [e]; exact h v List.mem_cons_self
    · exact ct_args_ok vs _ (fun w hw => h w (List.mem_cons_of_mem _ hw)) q e
def ct_Pc (A : Nat → Prop) (D : va_G) (cA : Nat → ClassId) (ad : Nat → Nat) (G : ct_G) (K : Nat → Nat) (n : Nat) (as : List ct_PV) (h : ct_H) : Array Value → State → Prop := fun v U => v = (as.map (ct_mv ad)).toArray ∧ va_P D ct_cl (ct_ws cA ad G K n h) U.heap ∧ va_K D ct_cl (ct_tys cA) U ∧ ct_Str ad A U
def ct_Qc (A : Nat → Prop) (D : va_G) (cA : Nat → ClassId) (ad : Nat → Nat) (G : ct_G) (K : Nat → Nat) (n : Nat) (r : Option ct_PV × ct_H) : Array Value → State → Outcome → State → Prop := fun _ st oc t => oc = .returned (r.1.map (ct_mv ad)) ∧ va_P D ct_cl (ct_ws cA ad G K n r.2) t.heap ∧ va_F A st t ∧ ct_hin r.2 ∧ ∀ v, r.1 = some v → ct_ok K n v
/-- from row k of M's list, with these locals, this stack, this heap: M returns what o says -/
def ct_X {α : Type} (M : ct_M) (d : Nat) (G : ct_G) (k : Nat) (ls : ct_L) (st : List ct_PV) (h : ct_H) (ρ : α → Option ct_PV × ct_H) (o : Option α) : Prop :=
  ∀ a, o = some a → ∀ (p : Program) (l : Launch) (e : Env) (R : Room) (s : State) (m : MethodId) (args : Array Value) (below : List Frame) (meth : Method) (c : Code) (A : Nat → Prop) (D : va_G) (cA : Nat → ClassId) (ad : Nat → Nat) (K : Nat → Nat) (n : Nat),
    ct_Cx p R s m args c M.2.1 M.2.2.1 M.1.cls A D cA ad G K n d 0 0 → meth.sig.returnType = M.2.2.2.1 → meth.locks = false →
    ct_V p l e R s m args below meth c M.2.2.1 A D cA ad G K n 0 0 (MQ below (ct_Qc A D cA ad G K n (ρ a)) args s 0 0 A) (ct_pc M.2.2.2.2 k) ls st h
theorem ct_Str_to {ad : Nat → Nat} {A : Nat → Prop} {s U : State} {H : Heap} {locs : List Loc} (h : ct_Str ad A s) (hS : va_S A s.heap H locs) (hU : U.heap = H) (hW : s.WarmedH U.vm) : ct_Str ad A U := by
  obtain ⟨h1, h2, h3, h4⟩ := h
  refine ⟨?_, ?_, fun q hq => (h3 q hq).warm hW, ?_⟩
  · rw [hU]; exact (h1.moved hW.alike).kept hS.2.1
  · rw [hU]; exact (h2.moved hW.alike).kept hS.2.1
  · rw [hU]; exact (h4.moved hW.alike).kept hS.2.1
theorem ct_blind {A : Nat → Prop} {D : va_G} {cA : Nat → ClassId} {ad : Nat → Nat} {G : ct_G} {K : Nat → Nat} {n : Nat} {as : List ct_PV} {h : ct_H} : FrameBlind (ct_Pc A D cA ad G K n as h) := by
  intro a U g mk q
  obtain ⟨q0, qP, qK, q1, q2, q3, q4⟩ := q
  exact ⟨q0, qP, va_K.moved (u := U) (U := U.calling g mk a) (Vm.Alike.refl U.vm) qK, vk_S.moved (u := U) (U := U.calling g mk a) (Vm.Alike.refl U.vm) q1, va_Z.moved (u := U) (U := U.calling g mk a) (Vm.Alike.refl U.vm) q2, fun q hq => vk_R.same (u := U) (U := U.calling g mk a) rfl (q3 q hq), va_Zq.moved (u := U) (U := U.calling g mk a) (Vm.Alike.refl U.vm) q4⟩
theorem ct_Met {α : Type} {M : ct_M} (hM : ct_MOk M) {d : Nat} {G : ct_G} {as : List ct_PV} {h : ct_H} {ρ : α → Option ct_PV × ct_H} {o : Option α} {a : α} (l : Launch) {A : Nat → Prop} {D : va_G} {cA : Nat → ClassId} {ad : Nat → Nat} {K : Nat → Nat} {n : Nat} (hX : ct_X M d G 0 (ct_args 0 as) [] h ρ o) (ho : o = some a) (hlen : (as.map ct_cat).sum ≤ M.2.2.1) (hh : ct_hin h) (hok : ∀ v ∈ as, ct_ok K n v) (hWT : ct_WT G K n) (hD : (∀ i j, i < n → j < n → ad i = ad j → i = j) ∧ ∀ i, i < n → A (ad i)) :
    Met l M.1 (Cond.code M.1 M.2.1 M.2.2.1 M.2.2.2.1 :: ct_GW) (ct_rm d) (ct_Pc A D cA ad G K n as h) (ct_Qc A D cA ad G K n (ρ a)) 0 0 A := by
  obtain ⟨-, -, -, -, hpl, -, hpc⟩ := hM
  refine Met.ofW (cc := M.2.1) (maxL := M.2.2.1) (ret := M.2.2.2.1) hpl rfl ?_
  intro p e s m args below meth c s₁ B hml hv
  obtain ⟨rfl, hP, hK, hStr⟩ := hv
  have hts := atoms_spec (ws := Cond.code M.1 M.2.1 M.2.2.1 M.2.2.2.1 :: ct_GW) B.pre
  have hown : s.vm.findClass M.1.cls = some m.cls := findClass_of_methodNamed B.named
  have hl := lv_entry (as.map (ct_mv ad)) (n := M.2.2.1) (by rw [ct_sl_len]; exact hlen)
  rw [lg_entry_eq]
  rw [ct_args_map] at hl
  have hC : ct_Cx p (ct_rm d) s m (as.map (ct_mv ad)).toArray c M.2.1 M.2.2.1 M.1.cls A D cA ad G K n d 0 0 := ⟨B.exec, B.bytes, hml, hown, fun w hw => hts w (List.mem_cons_of_mem _ hw), hK, hD, hWT, ⟨Nat.le_refl _, Nat.le_refl _, Nat.zero_le _, Nat.zero_le _⟩, hStr⟩
  have kk := hX a ho p l e (ct_rm d) s m (as.map (ct_mv ad)).toArray below meth c A D cA ad K n hC B.returns B.notSynchronized s.heap [] _ hP va_S.rf hl (ct_args_ok as 0 hok) (fun v hv => by cases hv) hh
  rw [hpc] at kk
  exact kk
section
variable {p : Program} {l : Launch} {e : Env} {R : Room} {s : State} {m : MethodId} {args : Array Value} {below : List Frame} {meth : Method} {c : Code} {maxL : Nat} {bytes : ByteArray} {own : String} {A : Nat → Prop} {D : va_G} {cA : Nat → ClassId} {ad : Nat → Nat} {G : ct_G} {K : Nat → Nat} {n d cells slots : Nat} {Q : State → Prop} {T : List ct_I} {k : Nat} {ls : ct_L} {st : List ct_PV} {h : ct_H}
theorem ct_callQ {H : Heap} {locs : List Loc} {pc : Nat} {lm : Array Slot} {st0 rest : List Value} {a0 : Array Value} {r : Option ct_PV × ct_H} (hr : va_Run p l e R s m args below meth c H locs cells slots 0 0 (F0 m pc lm st0) rest (ct_Qc A D cA ad G K n r a0) A) (hS : va_S A s.heap H locs)
    (kk : ∀ (H1 : Heap) (locs1 : List Loc), va_P D ct_cl (ct_ws cA ad G K n r.2) H1 → va_S A s.heap H1 locs1 → ct_hin r.2 → (∀ v, r.1 = some v → ct_ok K n v) → W p l e R s m args below meth c H1 locs1 cells slots Q (F0 m (pc + 3) lm (r.1.toList.map (ct_mv ad) ++ rest))) : W p l e R s m args below meth c H locs cells slots Q (F0 m pc lm st0) := by
  intro T hT X
  obtain ⟨v, st₀, t, T', L, h0, X', hL, e1, e2, ⟨hv, hP, ⟨hz, hk⟩, hh, hok⟩, stp⟩ := hr T hT X
  rw [h0] at hz hk
  rw [← e1] at hP
  have hv2 : v = r.1.map (ct_mv ad) := by cases hv; rfl
  subst hv2
  obtain ⟨t2, a1, b1⟩ := kk T'.heap (locs ++ L) hP ⟨Nat.le_trans hS.1 (by rw [e1]; exact hz), fun q h1 h2 => by rw [e1, hk q (Nat.lt_of_lt_of_le h1 hS.1) h2]; exact hS.2.1 q h1 h2, fun q hq => by
      rcases List.mem_append.mp hq with h | h
      · exact hS.2.2 q h
      · exact hL q h⟩ hh hok T' rfl X'
  refine ⟨t2, stp t2 ?_, b1⟩
  have e3 : (r.1.map (ct_mv ad)).toList = r.1.toList.map (ct_mv ad) := by cases r.1 <;> rfl
  rw [e3]
  exact a1
/-- what the tables say of a call of M by a pool number -/
def ct_LkV (own : String) (idx : Nat) (M : ct_M) (nA : Nat) : Prop := Cond.methodLink own idx M.1 ∈ ct_GW ∧ Cond.instanceMethod M.1 ∈ ct_GW ∧ Cond.selects M.1.cls M.1 M.1 ∈ ct_GW ∧ (parseMethodDescriptor M.1.desc).map (fun d => d.parameters.length) = some nA
def ct_LkS (own : String) (idx : Nat) (M : ct_M) (nA : Nat) : Prop := Cond.methodLink own idx M.1 ∈ ct_GW ∧ Cond.static M.1 ∈ ct_GW ∧ (parseMethodDescriptor M.1.desc).map (fun d => d.parameters.length) = some nA
theorem ct_CallB (C : ct_Cx p R s m args c bytes maxL own A D cA ad G K n (d + 1) cells slots) {M : ct_M} (hM : ct_MOk M) {idx nA : Nat} (hl : Cond.methodLink own idx M.1 ∈ ct_GW) (hn : (parseMethodDescriptor M.1.desc).map (fun d => d.parameters.length) = some nA) : CallB R s args own idx M.1 M.2.1 M.2.2.1 M.2.2.2.1 (Cond.code M.1 M.2.1 M.2.2.1 M.2.2.2.1 :: ct_GW) (ct_rm d) 0 0 nA := by
  obtain ⟨m1, m2, m3, m4, m5, m6, m7⟩ := hM
  obtain ⟨-, -, -, -, hts, -, -, -, ⟨r1, r2, r3, r4⟩, -⟩ := C
  have hin : ∀ w ∈ (Cond.code M.1 M.2.1 M.2.2.1 M.2.2.2.1 :: ct_GW), w ∈ ct_GW := by
    intro w hw
    rcases List.mem_cons.mp hw with e | e
    · rw [e]; exact m1
    · exact e
  refine ⟨rfl, rfl, r1, ?_, fun w hw a' U hW => word_at hW (ct_GW_good (hin w hw)) (hts w (hin w hw)), List.mem_cons_self, hts _ m1, hts _ m2, m6, fun sig hsig => ?_, hts _ hl⟩
  · show 8 + (M.2.2.1 + 11) + 40 * d ≤ R.locals
    omega
  · rw [hsig] at hn
    exact (Option.some.inj hn).symm
theorem ct_sum_map (ad : Nat → Nat) (st : List ct_PV) : ((st.map (ct_mv ad)).map fun v => v.category).sum = (st.map ct_cat).sum := by
  rw [List.map_map]
  congr 1
  apply List.map_congr_left
  intro v _
  exact ct_cat_mv ad v
theorem ct_VcallV {α : Type} (C : ct_Cx p R s m args c bytes maxL own A D cA ad G K n (d + 1) cells slots) {M : ct_M} (hM : ct_MOk M) {pc idx nA cc b : Nat} {as : List ct_PV} {ρ : α → Option ct_PV × ct_H} {o : Option α} {a : α} (hdec : decode bytes pc = .ok (.invokevirtual idx, 3)) (hL : ct_LkV own idx M nA) (hX : ct_X M d G 0 (ct_args 0 (.inr (.inr (cc, b)) :: as)) [] h ρ o) (ho : o = some a) (hnA : as.length = nA) (hcc : cc < 8) (hcn : ct_R cc = M.1.cls) (hlen : 1 + (as.map ct_cat).sum ≤ M.2.2.1) (hrest : (st.map ct_cat).sum ≤ 8)
    (kk : ct_V p l e R s m args below meth c maxL A D cA ad G K n cells slots Q (pc + 3) ls ((ρ a).1.toList ++ st) (ρ a).2) : ct_V p l e R s m args below meth c maxL A D cA ad G K n cells slots Q pc ls (as.reverse ++ .inr (.inr (cc, b)) :: st) h := by
  intro H locs lm hP hS hl hol hos hh
  obtain ⟨hx, hb, hml, hown, hts, hK, hD, hWT, hR, hStr⟩ := id C
  have hos1 : ∀ v ∈ as, ct_ok K n v := fun v hv => hos v (List.mem_append_left _ (List.mem_reverse.mpr hv))
  have hos2 : ∀ v ∈ (.inr (.inr (cc, b)) :: st : List ct_PV), ct_ok K n v := fun v hv => hos v (List.mem_append_right _ hv)
  have hasok : ∀ v ∈ (.inr (.inr (cc, b)) :: as : List ct_PV), ct_ok K n v := ct_cons_ok (ct_hd hos2) hos1
  have hq0 := ct_hd hos2
  rcases hq0 with ⟨hn, hk⟩ | ⟨hk, -⟩
  case inr => dsimp only at hk; omega
  dsimp only at hn hk
  have hcell := ct_ws_get (cA := cA) (ad := ad) (G := G) (K := K) (h := h) hn
  rw [ct_cell_obj (by omega), hk] at hcell
  have hmet := ct_Met hM l (A := A) (D := D) (cA := cA) (ad := ad) (K := K) (n := n) hX ho (by simpa [ct_cat] using hlen) hh hasok hWT hD
  have hcw : CallW R s args own M.1.cls idx M.1 M.2.1 M.2.2.1 M.2.2.2.1 (Cond.code M.1 M.2.1 M.2.2.1 M.2.2.2.1 :: ct_GW) (ct_rm d) 0 0 nA := ⟨ct_CallB C hM hL.1 hL.2.2.2, hts _ hL.2.1, hts _ hL.2.2.1⟩
  have hrecv := va_recv hK hP (ct_cl_get cc hcc) hcell
  rw [show (ct_R cc, ct_T cc, ct_N cc).1 = M.1.cls from hcn] at hrecv
  have hrun := va_runV (As := as.map (ct_mv ad)) (rest := st.map (ct_mv ad)) (Ts := ct_GW) (g := F0 m pc lm ((as.map (ct_mv ad)).reverse ++ .ref (ad b) :: st.map (ct_mv ad))) (H := H) (locs := locs) (cells := cells) (slots := slots) (e := e) (below := below) (meth := meth) ⟨hx, hb, hml, hown, hts⟩ hmet hcw ⟨ct_blind, hrecv, fun U hU hW => ⟨rfl, by rw [hU]; exact hP, va_K.moved hW.alike hK, ct_Str_to hStr hS hU hW⟩⟩ rfl (by rw [List.length_map]; exact hnA) hl.1 rfl (by show 2 * 0 + _ ≤ 8; rw [ct_sum_map]; omega) hdec ⟨hR.2.2.1, hR.2.2.2⟩
  have e0 : (as.reverse ++ .inr (.inr (cc, b)) :: st).map (ct_mv ad) = (as.map (ct_mv ad)).reverse ++ .ref (ad b) :: st.map (ct_mv ad) := by
    rw [List.map_append, List.map_reverse, List.map_cons]; rfl
  rw [e0]
  refine ct_callQ hrun hS (fun H1 locs1 hP1 hS1 hh1 hok1 => ?_)
  have k2 := kk H1 locs1 lm hP1 hS1 hl hol (fun v hv => by
    rcases List.mem_append.mp hv with h1 | h1
    · exact hok1 v (by simpa using h1)
    · exact ct_tl hos2 v h1) hh1
  rw [List.map_append] at k2
  exact k2
theorem ct_VcallS {α : Type} (C : ct_Cx p R s m args c bytes maxL own A D cA ad G K n (d + 1) cells slots) {M : ct_M} (hM : ct_MOk M) {pc idx nA : Nat} {as : List ct_PV} {ρ : α → Option ct_PV × ct_H} {o : Option α} {a : α} (hdec : decode bytes pc = .ok (.invokestatic idx, 3)) (hL : ct_LkS own idx M nA) (hX : ct_X M d G 0 (ct_args 0 as) [] h ρ o) (ho : o = some a) (hnA : as.length = nA) (hlen : (as.map ct_cat).sum ≤ M.2.2.1) (hrest : (st.map ct_cat).sum ≤ 8)
    (kk : ct_V p l e R s m args below meth c maxL A D cA ad G K n cells slots Q (pc + 3) ls ((ρ a).1.toList ++ st) (ρ a).2) : ct_V p l e R s m args below meth c maxL A D cA ad G K n cells slots Q pc ls (as.reverse ++ st) h := by
  intro H locs lm hP hS hl hol hos hh
  obtain ⟨hx, hb, hml, hown, hts, hK, hD, hWT, hR, hStr⟩ := id C
  have hos1 : ∀ v ∈ as, ct_ok K n v := fun v hv => hos v (List.mem_append_left _ (List.mem_reverse.mpr hv))
  have hos2 : ∀ v ∈ st, ct_ok K n v := fun v hv => hos v (List.mem_append_right _ hv)
  have hmet := ct_Met hM l (A := A) (D := D) (cA := cA) (ad := ad) (K := K) (n := n) hX ho hlen hh hos1 hWT hD
  have hrun := va_runS (As := as.map (ct_mv ad)) (rest := st.map (ct_mv ad)) (Ts := ct_GW) (g := F0 m pc lm ((as.map (ct_mv ad)).reverse ++ st.map (ct_mv ad))) (H := H) (locs := locs) (cells := cells) (slots := slots) (e := e) (below := below) (meth := meth) ⟨hx, hb, hml, hown, hts⟩ hmet ⟨ct_CallB C hM hL.1 hL.2.2, hts _ hL.2.1⟩ ⟨ct_blind, fun U hU hW => ⟨rfl, by rw [hU]; exact hP, va_K.moved hW.alike hK, ct_Str_to hStr hS hU hW⟩⟩ rfl (by rw [List.length_map]; exact hnA) hl.1 rfl (by show 2 * 0 + _ ≤ 8; rw [ct_sum_map]; omega) hdec ⟨hR.2.2.1, hR.2.2.2⟩
  have e0 : (as.reverse ++ st).map (ct_mv ad) = (as.map (ct_mv ad)).reverse ++ st.map (ct_mv ad) := by
    rw [List.map_append, List.map_reverse]
  rw [e0]
  refine ct_callQ hrun hS (fun H1 locs1 hP1 hS1 hh1 hok1 => ?_)
  have k2 := kk H1 locs1 lm hP1 hS1 hl hol (fun v hv => by
    rcases List.mem_append.mp hv with h1 | h1
    · exact hok1 v (by simpa using h1)
    · exact hos2 v h1) hh1
  rw [List.map_append] at k2
  exact k2
def ct_rv (v : Option ct_PV) (ins : Instr) (ret : Option FieldType) : Prop := match v with
  | none => ins = .return_ ∧ ret = none
  | some (.inl a) => ins = .ireturn ∧ (ret = some .int ∨ (ret = some .boolean ∧ (a = 0 ∨ a = 1)))
  | some (.inr (.inl _)) => ins = .lreturn ∧ ret = some .long
  | some (.inr (.inr _)) => ins = .areturn ∧ ∃ rt, ret = some rt ∧ ((∃ n, rt = .object n) ∨ ∃ t, rt = .array t)
theorem ct_Vret (C : ct_Cx p R s m args c bytes maxL own A D cA ad G K n d 0 0) {pc : Nat} {v : Option ct_PV} {ins : Instr} {ret : Option FieldType} (hr : meth.sig.returnType = ret) (hlk : meth.locks = false) (hdec : decode bytes pc = .ok (ins, 1))
    (hk : ct_rv v ins ret) :
    ct_V p l e R s m args below meth c maxL A D cA ad G K n 0 0 (MQ below (ct_Qc A D cA ad G K n (v, h)) args s 0 0 A) pc ls v.toList h := by
  intro H locs lm hP hS hl hol hos hh
  have hq : ∀ (w : Option Value), w = v.map (ct_mv ad) → ∀ t : State, t.heap = H → s.WarmedH t.vm → ct_Qc A D cA ad G K n (v, h) args s (.returned w) t := fun w hw t ht hW => ⟨by rw [hw], by rw [ht]; exact hP, hS.F ht, hh, fun x hx => hos x (by dsimp only at hx; rw [hx]; exact List.mem_singleton.mpr rfl)⟩
  rcases v with _ | a | x | q
  · obtain ⟨rfl, h2⟩ := hk
    exact W.vret C.1 C.2.1 (hr.trans h2) (hq none rfl) hS.2.2 hdec
  · obtain ⟨rfl, h2 | ⟨h2, h3⟩⟩ := hk
    · exact W.iret C.1 C.2.1 (hr.trans h2) (hq _ rfl) hS.2.2 hdec
    · exact W.zret C.1 C.2.1 (hr.trans h2) (ct_fitB h3).1 (hq _ rfl) hS.2.2 hdec
  · obtain ⟨rfl, h2⟩ := hk
    exact W.lret C.1 C.2.1 (hr.trans h2) (hq _ rfl) hS.2.2 hdec
  · obtain ⟨rfl, rt, h2, h3⟩ := hk
    exact W.aret C.1 C.2.1 (hr.trans h2) h3 (Or.inr ⟨_, rfl⟩) (hq _ rfl) hS.2.2 hdec
end
