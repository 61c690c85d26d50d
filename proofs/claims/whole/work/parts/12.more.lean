/-! joins, lets, and the JDK's own leaves -/
def ct_lt {β α : Type} (a : β) (F : β → Option α) : Option α := F a
def ct_jn {β α : Type} (f : (β → Option α) → Option α) (k : β → Option α) : Option α := f k
def ct_abs (a : Int) : Int := if 0 ≤ a then a else ct_wr (0 - a)
def ct_max (a b : Int) : Int := if a < b then b else a
def ct_min (a b : Int) : Int := if b < a then b else a
def ct_cpI (G : ct_G) (h : ct_H) (a : Nat) (sp : Int) (b : Nat) (dp n : Int) : Option ct_H := if 0 ≤ sp ∧ 0 ≤ dp ∧ 0 ≤ n ∧ sp + n ≤ (G.2 a : Int) ∧ dp + n ≤ (G.2 b : Int) then some (fun c j => if c = b then va_cpy (h.1 a) (h.1 b) sp.toNat dp.toNat n.toNat j else h.1 c j, h.2) else none
def ct_cpL (G : ct_G) (h : ct_H) (a : Nat) (sp : Int) (b : Nat) (dp n : Int) : Option ct_H := if 0 ≤ sp ∧ 0 ≤ dp ∧ 0 ≤ n ∧ sp + n ≤ (G.2 a : Int) ∧ dp + n ≤ (G.2 b : Int) then some (h.1, fun c j => if c = b then va_cpy (h.2 a) (h.2 b) sp.toNat dp.toNat n.toNat j else h.2 c j) else none
theorem ct_ofInt_max {a b : Int} (ha : ct_in a) (hb : ct_in b) : (if Int32.ofInt a < Int32.ofInt b then Int32.ofInt b else Int32.ofInt a) = Int32.ofInt (ct_max a b) := by
  unfold ct_max
  by_cases h : a < b
  · rw [if_pos ((ct_lt32 ha hb).mpr h), if_pos h]
  · rw [if_neg (fun z => h ((ct_lt32 ha hb).mp z)), if_neg h]
theorem ct_ofInt_min {a b : Int} (ha : ct_in a) (hb : ct_in b) : (if Int32.ofInt b < Int32.ofInt a then Int32.ofInt b else Int32.ofInt a) = Int32.ofInt (ct_min a b) := by
  unfold ct_min
  by_cases h : b < a
  · rw [if_pos ((ct_lt32 hb ha).mpr h), if_pos h]
  · rw [if_neg (fun z => h ((ct_lt32 hb ha).mp z)), if_neg h]
theorem ct_max_in {a b : Int} (ha : ct_in a) (hb : ct_in b) : ct_in (ct_max a b) := by
  unfold ct_max; split
  · exact hb
  · exact ha
theorem ct_min_in {a b : Int} (ha : ct_in a) (hb : ct_in b) : ct_in (ct_min a b) := by
  unfold ct_min; split
  · exact hb
  · exact ha
theorem ct_abs_in {a : Int} (ha : ct_in a) : ct_in (ct_abs a) := by
  unfold ct_abs; split
  · exact ha
  · exact ct_wr_in _
theorem ct_ofInt_abs {a : Int} (ha : ct_in a) : (if (0 : Int32) ≤ Int32.ofInt a then Int32.ofInt a else 0 - Int32.ofInt a) = Int32.ofInt (ct_abs a) := by
  have h0 : ((0 : Int32) ≤ Int32.ofInt a) ↔ 0 ≤ a := by
    have := ct_le32 ct_in0 ha
    rwa [ct_of0] at this
  unfold ct_abs
  by_cases h : 0 ≤ a
  · rw [if_pos (h0.mpr h), if_pos h]
  · rw [if_neg (fun z => h (h0.mp z)), if_neg h, ← ct_ofInt_sub, ct_of0]
section
variable {p : Program} {l : Launch} {e : Env} {R : Room} {s : State} {m : MethodId} {args : Array Value} {below : List Frame} {meth : Method} {c : Code} {maxL : Nat} {bytes : ByteArray} {own : String} {A : Nat → Prop} {D : va_G} {cA : Nat → ClassId} {ad : Nat → Nat} {G : ct_G} {K : Nat → Nat} {n d cells slots : Nat} {Q : State → Prop} {ls : ct_L} {st : List ct_PV} {h : ct_H}
theorem ct_gmx1 : Cond.static Lib.Math.max.name ∈ ct_GW := ct_GW_of 526 (by decide +kernel) (by decide +kernel)
theorem ct_gmx2 : Cond.code Lib.Math.max.name Lib.Math.max.code 2 (some .int) ∈ ct_GW := ct_GW_of 527 (by decide +kernel) (by decide +kernel)
theorem ct_gmn1 : Cond.static Lib.Math.min.name ∈ ct_GW := ct_GW_of 675 (by decide +kernel) (by decide +kernel)
theorem ct_gmn2 : Cond.code Lib.Math.min.name Lib.Math.min.code 2 (some .int) ∈ ct_GW := ct_GW_of 676 (by decide +kernel) (by decide +kernel)
theorem ct_gab1 : Cond.static Lib.Math.abs.name ∈ ct_GW := ct_GW_of 522 (by decide +kernel) (by decide +kernel)
theorem ct_gab2 : Cond.code Lib.Math.abs.name Lib.Math.abs.code 1 (some .int) ∈ ct_GW := ct_GW_of 523 (by decide +kernel) (by decide +kernel)
theorem ct_gm0 : Cond.initialized "java/lang/Math" ∈ ct_GW := ct_GW_of 88 (by decide +kernel) (by decide +kernel)
theorem ct_gcp1 : Cond.static arraycopyName ∈ ct_GW := ct_GW_of 902 (by decide +kernel) (by decide +kernel)
theorem ct_gcp2 : Cond.native arraycopyName ∈ ct_GW := ct_GW_of 903 (by decide +kernel) (by decide +kernel)
theorem ct_rsum {st : List ct_PV} (ad : Nat → Nat) (h : (st.map ct_cat).sum ≤ 8) : ((st.map (ct_mv ad)).map fun v => v.category).sum ≤ 8 := by rw [ct_sum_map]; exact h
theorem ct_Vmax (C : ct_Cx p R s m args c bytes maxL own A D cA ad G K n (d + 1) cells slots) {pc idx : Nat} {a b : Int} (hL : Cond.methodLink own idx Lib.Math.max.name ∈ ct_GW) (hdec : decode bytes pc = .ok (.invokestatic idx, 3)) (hr : (st.map ct_cat).sum ≤ 8)
    (kk : ct_V p l e R s m args below meth c maxL A D cA ad G K n cells slots Q (pc + 3) ls (.inl (ct_max a b) :: st) h) : ct_V p l e R s m args below meth c maxL A D cA ad G K n cells slots Q pc ls (.inl b :: .inl a :: st) h := by
  obtain ⟨hx, hb, hml, hown, hts, hK, hD, hWT, hR, -⟩ := C
  intro H locs lm hP hS hl ho hs hh
  have hb0 : ct_in b := ct_hd hs
  have ha0 : ct_in a := ct_hd (ct_tl hs)
  have hr' := ct_rsum ad hr
  refine va_mmax hx hb (hml.trans hl.1.symm) hown (hts _ hL) (hts _ ct_gmx1) (hts _ ct_gm0) (hts _ ct_gmx2) (by omega) (by omega) hR.2.2.1 hR.2.2.2 hdec ?_
  rw [ct_ofInt_max ha0 hb0]
  exact kk H locs lm hP hS hl ho (ct_cons_ok (ct_max_in ha0 hb0) (ct_tl (ct_tl hs))) hh
theorem ct_Vmin (C : ct_Cx p R s m args c bytes maxL own A D cA ad G K n (d + 1) cells slots) {pc idx : Nat} {a b : Int} (hL : Cond.methodLink own idx Lib.Math.min.name ∈ ct_GW) (hdec : decode bytes pc = .ok (.invokestatic idx, 3)) (hr : (st.map ct_cat).sum ≤ 8)
    (kk : ct_V p l e R s m args below meth c maxL A D cA ad G K n cells slots Q (pc + 3) ls (.inl (ct_min a b) :: st) h) : ct_V p l e R s m args below meth c maxL A D cA ad G K n cells slots Q pc ls (.inl b :: .inl a :: st) h := by
  obtain ⟨hx, hb, hml, hown, hts, hK, hD, hWT, hR, -⟩ := C
  intro H locs lm hP hS hl ho hs hh
  have hb0 : ct_in b := ct_hd hs
  have ha0 : ct_in a := ct_hd (ct_tl hs)
  have hr' := ct_rsum ad hr
  refine va_mmin hx hb (hml.trans hl.1.symm) hown (hts _ hL) (hts _ ct_gmn1) (hts _ ct_gm0) (hts _ ct_gmn2) (by omega) (by omega) hR.2.2.1 hR.2.2.2 hdec ?_
  rw [ct_ofInt_min ha0 hb0]
  exact kk H locs lm hP hS hl ho (ct_cons_ok (ct_min_in ha0 hb0) (ct_tl (ct_tl hs))) hh
theorem ct_Vabs (C : ct_Cx p R s m args c bytes maxL own A D cA ad G K n (d + 1) cells slots) {pc idx : Nat} {a : Int} (hL : Cond.methodLink own idx Lib.Math.abs.name ∈ ct_GW) (hdec : decode bytes pc = .ok (.invokestatic idx, 3)) (hr : (st.map ct_cat).sum ≤ 8)
    (kk : ct_V p l e R s m args below meth c maxL A D cA ad G K n cells slots Q (pc + 3) ls (.inl (ct_abs a) :: st) h) : ct_V p l e R s m args below meth c maxL A D cA ad G K n cells slots Q pc ls (.inl a :: st) h := by
  obtain ⟨hx, hb, hml, hown, hts, hK, hD, hWT, hR, -⟩ := C
  intro H locs lm hP hS hl ho hs hh
  have ha0 : ct_in a := ct_hd hs
  have hr' := ct_rsum ad hr
  refine va_mabs hx hb (hml.trans hl.1.symm) hown (hts _ hL) (hts _ ct_gab1) (hts _ ct_gm0) (hts _ ct_gab2) (by omega) (by omega) hR.2.2.1 hR.2.2.2 hdec ?_
  rw [ct_ofInt_abs ha0]
  exact kk H locs lm hP hS hl ho (ct_cons_ok (ct_abs_in ha0) (ct_tl hs)) hh
theorem ct_Vldc2 (C : ct_Cx p R s m args c bytes maxL own A D cA ad G K n d cells slots) {pc idx : Nat} {v : Int64} (hL : Cond.constantLong own idx v ∈ ct_GW) (hdec : decode bytes pc = .ok (.ldc2_w idx, 3))
    (kk : ct_V p l e R s m args below meth c maxL A D cA ad G K n cells slots Q (pc + 3) ls (.inr (.inl v) :: st) h) : ct_V p l e R s m args below meth c maxL A D cA ad G K n cells slots Q pc ls st h := by
  obtain ⟨hx, hb, hml, hown, hts, hK, hD, hWT, hR, -⟩ := C
  intro H locs lm hP hS hl ho hs hh
  exact lv_ldc2 hx hb hown (hts _ hL) hdec (kk H locs lm hP hS hl ho (ct_cons_ok trivial hs) hh)
theorem ct_nz {i : Int} (h : ct_in i) (h0 : 0 ≤ i) : ¬ Int32.ofInt i < 0 := by
  have := ct_lt32 h ct_in0
  rw [ct_of0] at this
  exact fun z => by have := this.mp z; omega
theorem ct_nfw : nativeFrameWords "java/lang/System" "arraycopy" 5 + 11 ≤ 32 := by decide +kernel
theorem ct_Vcopy (C : ct_Cx p R s m args c bytes maxL own A D cA ad G K n (d + 1) cells slots) {pc idx a b : Nat} {sp dp k : Int} {h' : ct_H} (hL : Cond.methodLink own idx arraycopyName ∈ ct_GW) (hI : Cond.initialized "java/lang/System" ∈ ct_GW) (hdec : decode bytes pc = .ok (.invokestatic idx, 3)) (hr : (st.map ct_cat).sum ≤ 8) (hv : ct_cpI G h a sp b dp k = some h')
    (kk : ct_V p l e R s m args below meth c maxL A D cA ad G K n cells slots Q (pc + 3) ls st h') : ct_V p l e R s m args below meth c maxL A D cA ad G K n cells slots Q pc ls (.inl k :: .inl dp :: .inr (.inr (8, b)) :: .inl sp :: .inr (.inr (8, a)) :: st) h := by
  obtain ⟨hx, hb, hml, hown, hts, hK, hD, hWT, hR, -⟩ := C
  intro H locs lm hP hS hl ho hs hh
  have hk0 : ct_in k := ct_hd hs
  have hd0 : ct_in dp := ct_hd (ct_tl hs)
  have hs0 : ct_in sp := ct_hd (ct_tl (ct_tl (ct_tl hs)))
  have hq1 := ct_hd (ct_tl (ct_tl hs))
  have hq0 := ct_hd (ct_tl (ct_tl (ct_tl (ct_tl hs))))
  rcases hq1 with ⟨hn1, hk1⟩ | ⟨hk1, -⟩
  case inr => dsimp only at hk1; omega
  rcases hq0 with ⟨hn0, hk00⟩ | ⟨hk00, -⟩
  case inr => dsimp only at hk00; omega
  dsimp only at hn1 hk1 hn0 hk00
  unfold ct_cpI at hv
  split at hv
  case isFalse => cases hv
  rename_i hin
  cases hv
  obtain ⟨i1, i2, i3, i4, i5⟩ := hin
  have hr' := ct_rsum ad hr
  have hnf := ct_nfw
  have hc0 := ct_ws_get (cA := cA) (ad := ad) (G := G) (K := K) (h := h) hn0
  rw [ct_cell_int (by omega) (by omega)] at hc0
  have hc1 := ct_ws_get (cA := cA) (ad := ad) (G := G) (K := K) (h := h) hn1
  rw [ct_cell_int (by omega) (by omega)] at hc1
  refine va_copyi hx hb (hml.trans hl.1.symm) hown (hts _ hL) (hts _ ct_gcp2) (hts _ ct_gcp1) (hts _ hI) hK hP (ct_wsD hD.1 hD.2) hS a b 0 0 (ty := .int) hc0 hc1 (by rw [hk00]; rfl) (by rw [hk1]; rfl) rfl (ct_nz hs0 i1) (ct_nz hd0 i2) (ct_nz hk0 i3) (by rw [ct_clamp hs0 i1, ct_clamp hk0 i3]; omega) (by rw [ct_clamp hd0 i2, ct_clamp hk0 i3]; omega) (fun _ _ => rfl) (by omega) (by show (List.map (fun v => v.category) (List.map (ct_mv ad) st)).sum + _ ≤ _; omega) hdec (fun H1 locs1 hP1 hD1 hS1 => ?_)
  refine kk H1 locs1 lm ?_ hS1 hl ho (ct_tl (ct_tl (ct_tl (ct_tl (ct_tl hs))))) ?_
  · rw [ct_clamp hs0 i1, ct_clamp hk0 i3, ct_clamp hd0 i2] at hP1
    rw [← ct_ws_set (h := h) (i := b) (e := .inl (cA (K b), G.2 b, .inl (va_cpy (fun j => Int32.ofInt (h.1 a j)) (fun j => Int32.ofInt (h.1 b j)) sp.toNat dp.toNat k.toNat))) ?_ ?_]
    · exact hP1
    · rw [ct_cell_int (by omega) (by omega)]
      congr 4
      funext j
      dsimp only
      rw [if_pos rfl]
      unfold va_cpy
      split <;> rfl
    · intro j hj
      unfold ct_cell
      simp [hj]
  · intro i j
    dsimp only
    split
    · unfold va_cpy
      split
      · exact hh _ _
      · exact hh _ _
    · exact hh _ _
theorem ct_VcopyL (C : ct_Cx p R s m args c bytes maxL own A D cA ad G K n (d + 1) cells slots) {pc idx a b : Nat} {sp dp k : Int} {h' : ct_H} (hL : Cond.methodLink own idx arraycopyName ∈ ct_GW) (hI : Cond.initialized "java/lang/System" ∈ ct_GW) (hdec : decode bytes pc = .ok (.invokestatic idx, 3)) (hr : (st.map ct_cat).sum ≤ 8) (hv : ct_cpL G h a sp b dp k = some h')
    (kk : ct_V p l e R s m args below meth c maxL A D cA ad G K n cells slots Q (pc + 3) ls st h') : ct_V p l e R s m args below meth c maxL A D cA ad G K n cells slots Q pc ls (.inl k :: .inl dp :: .inr (.inr (11, b)) :: .inl sp :: .inr (.inr (11, a)) :: st) h := by
  obtain ⟨hx, hb, hml, hown, hts, hK, hD, hWT, hR, -⟩ := C
  intro H locs lm hP hS hl ho hs hh
  have hk0 : ct_in k := ct_hd hs
  have hd0 : ct_in dp := ct_hd (ct_tl hs)
  have hs0 : ct_in sp := ct_hd (ct_tl (ct_tl (ct_tl hs)))
  have hq1 := ct_hd (ct_tl (ct_tl hs))
  have hq0 := ct_hd (ct_tl (ct_tl (ct_tl (ct_tl hs))))
  rcases hq1 with ⟨hn1, hk1⟩ | ⟨hk1, -⟩
  case inr => dsimp only at hk1; omega
  rcases hq0 with ⟨hn0, hk00⟩ | ⟨hk00, -⟩
  case inr => dsimp only at hk00; omega
  dsimp only at hn1 hk1 hn0 hk00
  unfold ct_cpL at hv
  split at hv
  case isFalse => cases hv
  rename_i hin
  cases hv
  obtain ⟨i1, i2, i3, i4, i5⟩ := hin
  have hr' := ct_rsum ad hr
  have hnf := ct_nfw
  have hc0 := ct_ws_get (cA := cA) (ad := ad) (G := G) (K := K) (h := h) hn0
  rw [ct_cell_long hk00] at hc0
  have hc1 := ct_ws_get (cA := cA) (ad := ad) (G := G) (K := K) (h := h) hn1
  rw [ct_cell_long hk1] at hc1
  refine va_copyl hx hb (hml.trans hl.1.symm) hown (hts _ hL) (hts _ ct_gcp2) (hts _ ct_gcp1) (hts _ hI) hK hP (ct_wsD hD.1 hD.2) hS a b 3 3 (ty := .long) hc0 hc1 rfl rfl rfl (ct_nz hs0 i1) (ct_nz hd0 i2) (ct_nz hk0 i3) (by rw [ct_clamp hs0 i1, ct_clamp hk0 i3]; omega) (by rw [ct_clamp hd0 i2, ct_clamp hk0 i3]; omega) (fun _ _ => rfl) (by omega) (by show (List.map (fun v => v.category) (List.map (ct_mv ad) st)).sum + _ ≤ _; omega) hdec (fun H1 locs1 hP1 hD1 hS1 => ?_)
  refine kk H1 locs1 lm ?_ hS1 hl ho (ct_tl (ct_tl (ct_tl (ct_tl (ct_tl hs))))) (fun i j => hh i j)
  rw [ct_clamp hs0 i1, ct_clamp hk0 i3, ct_clamp hd0 i2] at hP1
  rw [← ct_ws_set (h := h) (i := b) (e := .inl (cA 11, G.2 b, .inr (.inl (va_cpy (fun j => h.2 a j) (fun j => h.2 b j) sp.toNat dp.toNat k.toNat)))) ?_ ?_]
  · exact hP1
  · rw [ct_cell_long hk1]
    congr 5
    funext j
    dsimp only
    rw [if_pos rfl]
  · intro j hj
    unfold ct_cell
    simp [hj]
end
section
variable {α : Type} {x : ct_Ctx} {M : ct_M} {G : ct_G} {d k : Nat} {ls : ct_L} {st : List ct_PV} {h : ct_H} {P : α → Prop} {o : Option α}
theorem ct_zlet {β : Type} {a : β} {F : β → Option α} {L : β → ct_L} {S : β → List ct_PV} {Hh : β → ct_H} (z : ∀ v, ct_Z x M G k (L v) (S v) (Hh v) P (F v)) : ct_Z x M G k (L a) (S a) (Hh a) P (ct_lt a F) := z a
theorem ct_zjn {β : Type} {kJ : Nat} {L : β → ct_L} {S : β → List ct_PV} {Hh : β → ct_H} {f : (β → Option α) → Option α} {F : β → Option α} (z2 : ∀ b, ct_Z x M G kJ (L b) (S b) (Hh b) P (F b)) (z1 : ∀ F' : β → Option α, (∀ b, ct_Z x M G kJ (L b) (S b) (Hh b) P (F' b)) → ct_Z x M G k ls st h P (f F')) : ct_Z x M G k ls st h P (ct_jn f F) := z1 F z2
theorem ct_zmax (C : ct_c x M G (d + 1)) {pc aux idx : Nat} {a b : Int} (hL : Cond.methodLink M.1.cls idx Lib.Math.max.name ∈ ct_GW) (hk : M.2.2.2.2[k]? = some (pc, .invokestatic idx, 3, aux)) (hlt : Nat.blt (k + 1) M.2.2.2.2.length = true) (hrest : Nat.ble (st.map ct_cat).sum 8 = true) (z : ct_Z x M G (k + 1) ls (.inl (ct_max a b) :: st) h P o) : ct_Z x M G k ls (.inl b :: .inl a :: st) h P o := by
  intro r hr hp
  have hz := z r hr hp
  obtain ⟨p, l, e, R, s, m, args, below, meth, c, A, D, cA, ad, K, n, cells, slots, Q⟩ := x
  obtain ⟨hM, hC, -⟩ := C
  obtain ⟨r1, r2⟩ := ct_row hM hk
  unfold ct_v at hz ⊢
  dsimp only at hz ⊢ r1 r2
  rw [ct_next hM hk hlt] at hz
  rw [r2]
  exact ct_Vmax hC hL r1 (Nat.le_of_ble_eq_true hrest) hz
theorem ct_zmin (C : ct_c x M G (d + 1)) {pc aux idx : Nat} {a b : Int} (hL : Cond.methodLink M.1.cls idx Lib.Math.min.name ∈ ct_GW) (hk : M.2.2.2.2[k]? = some (pc, .invokestatic idx, 3, aux)) (hlt : Nat.blt (k + 1) M.2.2.2.2.length = true) (hrest : Nat.ble (st.map ct_cat).sum 8 = true) (z : ct_Z x M G (k + 1) ls (.inl (ct_min a b) :: st) h P o) : ct_Z x M G k ls (.inl b :: .inl a :: st) h P o := by
  intro r hr hp
  have hz := z r hr hp
  obtain ⟨p, l, e, R, s, m, args, below, meth, c, A, D, cA, ad, K, n, cells, slots, Q⟩ := x
  obtain ⟨hM, hC, -⟩ := C
  obtain ⟨r1, r2⟩ := ct_row hM hk
  unfold ct_v at hz ⊢
  dsimp only at hz ⊢ r1 r2
  rw [ct_next hM hk hlt] at hz
  rw [r2]
  exact ct_Vmin hC hL r1 (Nat.le_of_ble_eq_true hrest) hz
theorem ct_zabs (C : ct_c x M G (d + 1)) {pc aux idx : Nat} {a : Int} (hL : Cond.methodLink M.1.cls idx Lib.Math.abs.name ∈ ct_GW) (hk : M.2.2.2.2[k]? = some (pc, .invokestatic idx, 3, aux)) (hlt : Nat.blt (k + 1) M.2.2.2.2.length = true) (hrest : Nat.ble (st.map ct_cat).sum 8 = true) (z : ct_Z x M G (k + 1) ls (.inl (ct_abs a) :: st) h P o) : ct_Z x M G k ls (.inl a :: st) h P o := by
  intro r hr hp
  have hz := z r hr hp
  obtain ⟨p, l, e, R, s, m, args, below, meth, c, A, D, cA, ad, K, n, cells, slots, Q⟩ := x
  obtain ⟨hM, hC, -⟩ := C
  obtain ⟨r1, r2⟩ := ct_row hM hk
  unfold ct_v at hz ⊢
  dsimp only at hz ⊢ r1 r2
  rw [ct_next hM hk hlt] at hz
  rw [r2]
  exact ct_Vabs hC hL r1 (Nat.le_of_ble_eq_true hrest) hz
theorem ct_zldc2 (C : ct_c x M G d) {pc aux idx : Nat} {v : Int64} (hL : Cond.constantLong M.1.cls idx v ∈ ct_GW) (hk : M.2.2.2.2[k]? = some (pc, .ldc2_w idx, 3, aux)) (hlt : Nat.blt (k + 1) M.2.2.2.2.length = true) (z : ct_Z x M G (k + 1) ls (.inr (.inl v) :: st) h P o) : ct_Z x M G k ls st h P o := by
  intro r hr hp
  have hz := z r hr hp
  obtain ⟨p, l, e, R, s, m, args, below, meth, c, A, D, cA, ad, K, n, cells, slots, Q⟩ := x
  obtain ⟨hM, hC, -⟩ := C
  obtain ⟨r1, r2⟩ := ct_row hM hk
  unfold ct_v at hz ⊢
  dsimp only at hz ⊢ r1 r2
  rw [ct_next hM hk hlt] at hz
  rw [r2]
  exact ct_Vldc2 hC hL r1 hz
theorem ct_zcopy (C : ct_c x M G (d + 1)) {pc aux idx a b : Nat} {sp dp n : Int} {F : ct_H → Option α} (hL : Cond.methodLink M.1.cls idx arraycopyName ∈ ct_GW) (hI : Cond.initialized "java/lang/System" ∈ ct_GW) (hk : M.2.2.2.2[k]? = some (pc, .invokestatic idx, 3, aux)) (hlt : Nat.blt (k + 1) M.2.2.2.2.length = true) (hrest : Nat.ble (st.map ct_cat).sum 8 = true) (z : ∀ h', ct_Z x M G (k + 1) ls st h' P (F h')) : ct_Z x M G k ls (.inl n :: .inl dp :: .inr (.inr (8, b)) :: .inl sp :: .inr (.inr (8, a)) :: st) h P ((ct_cpI G h a sp b dp n).bind F) := by
  intro r hr hp
  obtain ⟨v, h1, h2⟩ := Option.bind_eq_some_iff.mp hr
  have hz := z v r h2 hp
  obtain ⟨p, l, e, R, s, m, args, below, meth, c, A, D, cA, ad, K, n, cells, slots, Q⟩ := x
  obtain ⟨hM, hC, -⟩ := C
  obtain ⟨r1, r2⟩ := ct_row hM hk
  unfold ct_v at hz ⊢
  dsimp only at hz ⊢ r1 r2
  rw [ct_next hM hk hlt] at hz
  rw [r2]
  exact ct_Vcopy hC hL hI r1 (Nat.le_of_ble_eq_true hrest) h1 hz
theorem ct_zcopyL (C : ct_c x M G (d + 1)) {pc aux idx a b : Nat} {sp dp n : Int} {F : ct_H → Option α} (hL : Cond.methodLink M.1.cls idx arraycopyName ∈ ct_GW) (hI : Cond.initialized "java/lang/System" ∈ ct_GW) (hk : M.2.2.2.2[k]? = some (pc, .invokestatic idx, 3, aux)) (hlt : Nat.blt (k + 1) M.2.2.2.2.length = true) (hrest : Nat.ble (st.map ct_cat).sum 8 = true) (z : ∀ h', ct_Z x M G (k + 1) ls st h' P (F h')) : ct_Z x M G k ls (.inl n :: .inl dp :: .inr (.inr (11, b)) :: .inl sp :: .inr (.inr (11, a)) :: st) h P ((ct_cpL G h a sp b dp n).bind F) := by
  intro r hr hp
  obtain ⟨v, h1, h2⟩ := Option.bind_eq_some_iff.mp hr
  have hz := z v r h2 hp
  obtain ⟨p, l, e, R, s, m, args, below, meth, c, A, D, cA, ad, K, n, cells, slots, Q⟩ := x
  obtain ⟨hM, hC, -⟩ := C
  obtain ⟨r1, r2⟩ := ct_row hM hk
  unfold ct_v at hz ⊢
  dsimp only at hz ⊢ r1 r2
  rw [ct_next hM hk hlt] at hz
  rw [r2]
  exact ct_VcopyL hC hL hI r1 (Nat.le_of_ble_eq_true hrest) h1 hz
end
