/-! from the law's entry to its loop -/
theorem dsc_L6 : (parseMethodDescriptor yX6_init.desc).map (fun d => d.parameters.length) = some 0 := by decide +kernel
theorem dsc_L7 : (parseMethodDescriptor yX7_init.desc).map (fun d => d.parameters.length) = some 0 := by decide +kernel
set_option maxHeartbeats 4000000 in
set_option maxRecDepth 100000 in
theorem whole_start {p : Program} {e : Env} {s : State} {m : MethodId} {below : List Frame} {meth : Method} {c : Code} (l : Launch) (hflags : l.flags = flags0) {b L : Nat} {xs : Nat → Int32} (hL : L ≤ 3072) (C0 : lw_At p s m meth c b L xs) : W p l e room_1 s m #[Value.ref b] below meth c s.heap [] 0 0 (lw_Z below #[Value.ref b] s) (entryFrame m ([Value.ref b] : List Value).toArray 4) := by
  obtain ⟨hx, hb, hr, hml, hown, hts0, hX, hbl, hlk, hgv⟩ := C0
  have hts : ∀ w ∈ ct_GW, w.before #[Value.ref b] s = true := fun w hw => hts0 w (ct_GW_sub hw)
  obtain ⟨D, cA, hK, hAO⟩ := st_K hts0
  obtain ⟨adS, hStr, hb3⟩ := st_Str hts0 hgv b
  obtain ⟨A, hAe⟩ : ∃ A : Nat → Prop, A = fun q => s.heap.size ≤ q := ⟨_, rfl⟩
  rw [← hAe] at hStr
  have hA : ∀ q, s.heap.size ≤ q → A q := fun q h => by rw [hAe]; exact h
  have hA2 : ∀ q, A q → s.heap.size ≤ q := fun q h => by rw [hAe] at h; exact h
  have C : ci_Cx p s m #[Value.ref b] meth c code 4 R_law A D cA adS := ⟨hx, hb, hml, hown, hts, hK, hA, hStr, hAO⟩
  have hl := lv_entry ([.ref b]) (n := 4) (Nat.le_of_ble_eq_true rfl)
  rw [lg_entry_eq]
  generalize (lg_sl ([.ref b]) ++ List.replicate (4 - (lg_sl ([.ref b])).length) Slot.unset).toArray = lm at hl ⊢
  have hl : lv_has lm 4 [(0, .ref b)] := hl
  have hS : va_S A s.heap s.heap [] := va_S.rf
  have hP : va_P D ct_cl [] s.heap := fun k q hk => by simp at hk
  have hD : va_D A ([] : va_W) := ⟨fun i j p q hi => by simp at hi, fun k q hk => by simp at hk⟩
  refine va_new (ci := 6) (fs := [.null, .null, .null, .null, .null, .null, .null, .null, .null, .null, .null, .null, .int 0, .null, .null, .null, .null]) (C := RX6) (T := TX6) (N := 17) hx hb hts (ct_lays 6 (by decide)) tyX6 tyX6_ok hown (hts (.classLink R_law 7 RX6) (ct_GW_of 91 (by decide +kernel) (by decide +kernel))) (hts (.instantiable RX6 17) (ct_GW_of 92 (by decide +kernel) (by decide +kernel))) (hts (.initialized RX6) (ct_GW_of 75 (by decide +kernel) (by decide +kernel))) hK hP hD hS hA rfl zf_X6 (Nat.le_of_ble_eq_true rfl) (Nat.le_of_ble_eq_true rfl) (show decode code 0 = .ok (.new 7, 3) from by decide +kernel) (fun a0 H hP hD hS => ?_)
  refine lv_dup hx hb (show decode code 3 = .ok (.dup, 1) from by decide +kernel) rfl ?_
  refine ci_call C (As := []) (rest := [.ref a0]) (pre := []) (ci_X6 l D cA adS a0) hP hD hS (ct_GW_of 93 (by decide +kernel) (by decide +kernel)) (ct_GW_of 94 (by decide +kernel) (by decide +kernel)) (ct_GW_of 95 (by decide +kernel) (by decide +kernel)) (ct_GW_of 75 (by decide +kernel) (by decide +kernel)) rfl (by decide) dsc_L6 ⟨Nat.le_of_ble_eq_true rfl, Nat.le_of_ble_eq_true rfl⟩ (Nat.le_of_ble_eq_true rfl) (Nat.le_of_ble_eq_true rfl) (Nat.le_of_ble_eq_true rfl) hl.1 (show decode code 4 = .ok (.invokespecial 9, 3) from by decide +kernel) (fun u1 H locs hP hD hS => ?_)
  have hP : va_P D ct_cl (ct_ws cA u1.1 G0 K0 73 hz) H := hP
  have hD : va_D A (ct_ws cA u1.1 G0 K0 73 hz) := hD
  refine lv_astore_n (lv' := [(1, .ref a0), (0, .ref b)]) hx hb (show decode code 7 = .ok (.astore_n 1, 1) from by decide +kernel) rfl hl (by omega) rfl (fun lm hl => ?_)
  refine va_new (ci := 7) (fs := [.int 0, .int 0, .int 0, .null, .null, .int 0, .null, .null, .int 0, .int 0, .null, .null, .null, .null, .int 0, .int 0, .null, .null, .int 0, .int 0, .null, .null, .null, .null, .int 0, .null, .null, .int 0, .null, .null, .null, .int 0, .null, .null, .null, .int 0, .null, .null, .null]) (C := RX7) (T := TX7) (N := 39) hx hb hts (ct_lays 7 (by decide)) tyX7 tyX7_ok hown (hts (.classLink R_law 10 RX7) (ct_GW_of 991 (by decide +kernel) (by decide +kernel))) (hts (.instantiable RX7 39) (ct_GW_of 992 (by decide +kernel) (by decide +kernel))) (hts (.initialized RX7) (ct_GW_of 83 (by decide +kernel) (by decide +kernel))) hK hP hD hS hA rfl zf_X7 (Nat.le_of_ble_eq_true rfl) (Nat.le_of_ble_eq_true rfl) (show decode code 8 = .ok (.new 10, 3) from by decide +kernel) (fun a1 H hP hD hS => ?_)
  refine lv_dup hx hb (show decode code 11 = .ok (.dup, 1) from by decide +kernel) rfl ?_
  refine ci_call C (As := []) (rest := [.ref a1]) (pre := ct_ws cA u1.1 G0 K0 73 hz) (ci_X7 l D cA adS a1) hP hD hS (ct_GW_of 993 (by decide +kernel) (by decide +kernel)) (ct_GW_of 994 (by decide +kernel) (by decide +kernel)) (ct_GW_of 995 (by decide +kernel) (by decide +kernel)) (ct_GW_of 83 (by decide +kernel) (by decide +kernel)) rfl (by decide) dsc_L7 ⟨Nat.le_of_ble_eq_true rfl, Nat.le_of_ble_eq_true rfl⟩ (Nat.le_of_ble_eq_true rfl) (Nat.le_of_ble_eq_true rfl) (Nat.le_of_ble_eq_true rfl) hl.1 (show decode code 12 = .ok (.invokespecial 12, 3) from by decide +kernel) (fun u2 H locs hP hD hS => ?_)
  rw [st_join cA u1.1 u2.1 adS] at hP hD
  refine lv_astore_n (lv' := [(2, .ref a1), (1, .ref a0), (0, .ref b)]) hx hb (show decode code 15 = .ok (.astore_n 2, 1) from by decide +kernel) rfl hl (by omega) rfl (fun lm hl => ?_)
  refine lv_iconst (v := 0) hx hb (show decode code 16 = .ok (.iconst 0, 1) from by decide +kernel) (by decide) ?_
  refine lv_istore_n (lv' := [(3, .int 0), (2, .ref a1), (1, .ref a0), (0, .ref b)]) hx hb (show decode code 17 = .ok (.istore_n 3, 1) from by decide +kernel) rfl hl (by omega) rfl (fun lm hl => ?_)
  refine W.widen (k := 600000) (n := 7302250) (Nat.le_of_ble_eq_true rfl) (Nat.le_of_ble_eq_true rfl) ?_
  obtain ⟨ad, hade⟩ : ∃ ad : Nat → Nat, ad = st_ad u1.1 u2.1 adS := ⟨_, rfl⟩
  rw [← hade] at hP hD
  have e0 : ad 0 = a0 := by rw [hade]; exact u1.2
  have e1 : ad 73 = a1 := by rw [hade]; exact u2.2
  have e2 : ∀ i, 1000 ≤ i → ad i = adS i := fun i hi => by rw [hade]; unfold st_ad; rw [if_neg (by omega), if_neg (by omega)]
  have e3 : ad 3000 = b := (e2 3000 (by omega)).trans hb3
  have C2 : la_C p s m b c A D cA ad := ⟨hx, hb, hml, hown, hts, hK, ⟨fun i j hi hj e => hD.1 i j _ _ (ct_ws_get hi) (ct_ws_get hj) e, fun i hi => hD.2 i _ (ct_ws_get hi)⟩, WT0, ⟨by decide, by decide, by decide, by decide⟩, ct_Str_ad e2 hStr⟩
  have X : la_X s A ad b L xs := ⟨hX, hbl, fun h => absurd (hA2 b h) (Nat.not_le.mpr hbl), e3, hL⟩
  have key := la_loop (p := p) (l := l) (e := e) (s := s) (m := m) (below := below) (meth := meth) (c := c) (A := A) (D := D) (cA := cA) (ad := ad) (b := b) (L := L) (xs := xs) C2 X GS0 hA2 hr hlk L 0 hz 6 6 1000 (by omega) (by omega) INV0
  refine key H locs lm hP hS ?_ ?_ (fun v hv => by cases hv) hin0
  · show lv_has lm 4 [(3, .int (Int32.ofInt ((0 : Nat) : Int))), (2, .ref (ad 73)), (1, .ref (ad 0)), (0, .ref (ad 3000))]
    rw [e0, e1, e3, show Int32.ofInt ((0 : Nat) : Int) = 0 by decide]
    exact hl
  · intro q hq
    simp only [la_ls, List.mem_cons, List.not_mem_nil, or_false] at hq
    rcases hq with rfl | rfl | rfl | rfl
    · show ct_in ((0 : Nat) : Int)
      exact ct_in0
    · exact Or.inl ⟨by decide, by decide +kernel⟩
    · exact Or.inl ⟨by decide, by decide +kernel⟩
    · exact Or.inr ⟨⟨by decide, by decide⟩, by decide, by decide⟩
