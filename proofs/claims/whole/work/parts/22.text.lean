def mt_len : ct_M := (yJ0_length_8abf5, cJ0_length_8abf5, 1, (some .int), [])
set_option maxRecDepth 100000 in
theorem okt_len : ct_MOk mt_len := ⟨ct_GW_of 434 (by decide +kernel) (by decide +kernel), ct_GW_of 84 (by decide +kernel) (by decide +kernel), ⟨fun q hq => (nomatch hq), fun k q r hq _ => (nomatch hq)⟩, by decide +kernel, by decide +kernel, by decide +kernel, rfl⟩
def mt_emp : ct_M := (yJ0_isEmpty_aae02, cJ0_isEmpty_aae02, 1, (some .boolean), [])
set_option maxRecDepth 100000 in
theorem okt_emp : ct_MOk mt_emp := ⟨ct_GW_of 430 (by decide +kernel) (by decide +kernel), ct_GW_of 84 (by decide +kernel) (by decide +kernel), ⟨fun q hq => (nomatch hq), fun k q r hq _ => (nomatch hq)⟩, by decide +kernel, by decide +kernel, by decide +kernel, rfl⟩
def mt_chr : ct_M := (yJ0_charAt_5068e, cJ0_charAt_5068e, 2, (some .char), [])
set_option maxRecDepth 100000 in
theorem okt_chr : ct_MOk mt_chr := ⟨ct_GW_of 444 (by decide +kernel) (by decide +kernel), ct_GW_of 84 (by decide +kernel) (by decide +kernel), ⟨fun q hq => (nomatch hq), fun k q r hq _ => (nomatch hq)⟩, by decide +kernel, by decide +kernel, by decide +kernel, rfl⟩
def mt_cod : ct_M := (yJ0_coder_7d493, cJ0_coder_7d493, 1, (some .byte), [])
set_option maxRecDepth 100000 in
theorem okt_cod : ct_MOk mt_cod := ⟨ct_GW_of 438 (by decide +kernel) (by decide +kernel), ct_GW_of 84 (by decide +kernel) (by decide +kernel), ⟨fun q hq => (nomatch hq), fun k q r hq _ => (nomatch hq)⟩, by decide +kernel, by decide +kernel, by decide +kernel, rfl⟩
def mt_lat : ct_M := (yJ0_isLatin1_aae02, cJ0_isLatin1_aae02, 1, (some .boolean), [])
set_option maxRecDepth 100000 in
theorem okt_lat : ct_MOk mt_lat := ⟨ct_GW_of 448 (by decide +kernel) (by decide +kernel), ct_GW_of 84 (by decide +kernel) (by decide +kernel), ⟨fun q hq => (nomatch hq), fun k q r hq _ => (nomatch hq)⟩, by decide +kernel, by decide +kernel, by decide +kernel, rfl⟩
def mt_cix : ct_M := (yJ0_checkIndex_df160, cJ0_checkIndex_df160, 2, none, [])
set_option maxRecDepth 100000 in
theorem okt_cix : ct_MOk mt_cix := ⟨ct_GW_of 454 (by decide +kernel) (by decide +kernel), ct_GW_of 84 (by decide +kernel) (by decide +kernel), ⟨fun q hq => (nomatch hq), fun k q r hq _ => (nomatch hq)⟩, by decide +kernel, by decide +kernel, by decide +kernel, rfl⟩
def mt_lch : ct_M := (yJ1_charAt_3b067, cJ1_charAt_3b067, 2, (some .char), [])
set_option maxRecDepth 100000 in
theorem okt_lch : ct_MOk mt_lch := ⟨ct_GW_of 451 (by decide +kernel) (by decide +kernel), ct_GW_of 85 (by decide +kernel) (by decide +kernel), ⟨fun q hq => (nomatch hq), fun k q r hq _ => (nomatch hq)⟩, by decide +kernel, by decide +kernel, by decide +kernel, rfl⟩
set_option maxRecDepth 100000 in
theorem lkt_cod : ct_LkV RJ0 335 mt_cod 0 := ct_LkV_of 435 436 437 (by decide +kernel) (by decide +kernel) (by decide +kernel) (by decide +kernel)
set_option maxRecDepth 100000 in
theorem lkt_lat : ct_LkV RJ0 492 mt_lat 0 := ct_LkV_of 445 446 447 (by decide +kernel) (by decide +kernel) (by decide +kernel) (by decide +kernel)
set_option maxRecDepth 100000 in
theorem lkt_lch : ct_LkS RJ0 495 mt_lch 2 := ct_LkS_of 449 450 (by decide +kernel) (by decide +kernel) (by decide +kernel)
set_option maxRecDepth 100000 in
theorem lkt_cix : ct_LkS RJ1 9 mt_cix 2 := ct_LkS_of 452 453 (by decide +kernel) (by decide +kernel) (by decide +kernel)
theorem flt_val : Cond.fieldLink "java/lang/String" 9 "java/lang/String" "value" "[B" ∈ ct_GW := ct_GW_of 1595 (by decide +kernel) (by decide +kernel)
theorem flt_cod : Cond.fieldLink "java/lang/String" 15 "java/lang/String" "coder" "B" ∈ ct_GW := ct_GW_of 1596 (by decide +kernel) (by decide +kernel)
theorem flt_com : Cond.fieldLink "java/lang/String" 38 "java/lang/String" "COMPACT_STRINGS" "Z" ∈ ct_GW := ct_GW_of 439 (by decide +kernel) (by decide +kernel)
theorem flt_sio : Cond.fieldLink "java/lang/String" 1053 "jdk/internal/util/Preconditions" "SIOOBE_FORMATTER" "Ljava/util/function/BiFunction;" ∈ ct_GW := ct_GW_of 455 (by decide +kernel) (by decide +kernel)
def mt_pre : ct_M := (yJ3_checkIndex_8e157, cJ3_checkIndex_8e157, 3, (some .int), [])
set_option maxRecDepth 100000 in
theorem okt_pre : ct_MOk mt_pre := ⟨ct_GW_of 459 (by decide +kernel) (by decide +kernel), ct_GW_of 86 (by decide +kernel) (by decide +kernel), ⟨fun q hq => (nomatch hq), fun k q r hq _ => (nomatch hq)⟩, by decide +kernel, by decide +kernel, by decide +kernel, rfl⟩
theorem gw_p1 : Cond.code yJ3_checkIndex_8e157 cJ3_checkIndex_8e157 3 (some .int) ∈ ct_GW := ct_GW_of 459 (by decide +kernel) (by decide +kernel)
theorem gw_p2 : Cond.initialized "jdk/internal/util/Preconditions" ∈ ct_GW := ct_GW_of 86 (by decide +kernel) (by decide +kernel)
theorem gw_p3 : Cond.methodLink "java/lang/String" 1059 yJ3_checkIndex_8e157 ∈ ct_GW := ct_GW_of 457 (by decide +kernel) (by decide +kernel)
theorem gw_p4 : Cond.static yJ3_checkIndex_8e157 ∈ ct_GW := ct_GW_of 458 (by decide +kernel) (by decide +kernel)
section
variable {p : Program} {l : Launch} {e : Env} {R : Room} {s : State} {m : MethodId} {args : Array Value} {below : List Frame} {meth : Method} {c : Code} {maxL : Nat} {bytes : ByteArray} {own : String} {A : Nat → Prop} {D : va_G} {cA : Nat → ClassId} {ad : Nat → Nat} {G : ct_G} {K : Nat → Nat} {n d cells slots : Nat} {Q : State → Prop} {ls : ct_L} {st : List ct_PV} {h : ct_H}
def ct_tl0 (i : Nat) : Int := ((ct_sL.getD i 0 : Nat) : Int)
def ct_tb0 (i j : Nat) : Int := ((ct_sB.getD i []).getD j 0).toInt
theorem ct_ok15 {i : Nat} (hi : i < 7) : ct_ok K n (.inr (.inr (15, 1000 + i))) := Or.inr ⟨⟨by show 15 ≤ 15; omega, by show 15 ≤ 17; omega⟩, by show 1000 * (15 - 14) ≤ 1000 + i; omega, by show 1000 + i < 1000 * (15 - 14) + 7; omega⟩
theorem ct_ok16 {i : Nat} (hi : i < 7) : ct_ok K n (.inr (.inr (16, 2000 + i))) := Or.inr ⟨⟨by show 15 ≤ 16; omega, by show 16 ≤ 17; omega⟩, by show 1000 * (16 - 14) ≤ 2000 + i; omega, by show 2000 + i < 1000 * (16 - 14) + 7; omega⟩
theorem ct_VgetSV (C : ct_Cx p R s m args c bytes maxL own A D cA ad G K n d cells slots) {pc idx i : Nat} (hi : i < 7) (hL : Cond.fieldLink own idx "java/lang/String" "value" "[B" ∈ ct_GW) (hdec : decode bytes pc = .ok (.getfield idx, 3))
    (kk : ct_V p l e R s m args below meth c maxL A D cA ad G K n cells slots Q (pc + 3) ls (.inr (.inr (16, 2000 + i)) :: st) h) : ct_V p l e R s m args below meth c maxL A D cA ad G K n cells slots Q pc ls (.inr (.inr (15, 1000 + i)) :: st) h := by
  obtain ⟨hx, hb, hml, hown, hts, hK, hD, hWT, hR, hStr⟩ := C
  intro H locs lm hP hS hl ho hs hh
  exact vk_getf hx hb (hStr.1.1 i hi).2.2.1 hS hown (hts _ hL) (fun _ h => h) hdec (kk H locs lm hP hS hl ho (ct_cons_ok (ct_ok16 hi) (ct_tl hs)) hh)
theorem ct_VgetSC (C : ct_Cx p R s m args c bytes maxL own A D cA ad G K n d cells slots) {pc idx i : Nat} (hi : i < 7) (hL : Cond.fieldLink own idx "java/lang/String" "coder" "B" ∈ ct_GW) (hdec : decode bytes pc = .ok (.getfield idx, 3))
    (kk : ct_V p l e R s m args below meth c maxL A D cA ad G K n cells slots Q (pc + 3) ls (.inl 0 :: st) h) : ct_V p l e R s m args below meth c maxL A D cA ad G K n cells slots Q pc ls (.inr (.inr (15, 1000 + i)) :: st) h := by
  obtain ⟨hx, hb, hml, hown, hts, hK, hD, hWT, hR, hStr⟩ := C
  intro H locs lm hP hS hl ho hs hh
  exact vk_getf hx hb (hStr.1.1 i hi).2.1 hS hown (hts _ hL) (fun _ h => h) hdec (kk H locs lm hP hS hl ho (ct_cons_ok ct_in0 (ct_tl hs)) hh)
theorem ct_VgetCm (C : ct_Cx p R s m args c bytes maxL own A D cA ad G K n d cells slots) {pc idx : Nat} (hL : Cond.fieldLink own idx "java/lang/String" "COMPACT_STRINGS" "Z" ∈ ct_GW) (hdec : decode bytes pc = .ok (.getstatic idx, 3))
    (kk : ct_V p l e R s m args below meth c maxL A D cA ad G K n cells slots Q (pc + 3) ls (.inl 1 :: st) h) : ct_V p l e R s m args below meth c maxL A D cA ad G K n cells slots Q pc ls st h := by
  obtain ⟨hx, hb, hml, hown, hts, hK, hD, hWT, hR, hStr⟩ := C
  intro H locs lm hP hS hl ho hs hh
  exact va_gets hx hb hStr.2.1 hS hown (hts _ hL) (fun _ h => h) hdec (kk H locs lm hP hS hl ho (ct_cons_ok (show ct_in 1 by unfold ct_in; omega) hs) hh)
theorem ct_tl0v : ∀ i, i < 7 → Int32.ofNat (ct_sL.getD i 0) = Int32.ofInt (ct_tl0 i) ∧ 0 ≤ ct_tl0 i ∧ ct_tl0 i ≤ 5 := by decide
theorem ct_tb0v : ∀ i, i < 7 → ∀ j, j < 5 → 0 ≤ ct_tb0 i j ∧ ct_tb0 i j ≤ 127 ∧ ((Int32.ofInt ((Int32.ofInt (ct_tb0 i j) &&& 255).toInt)).toUInt32 % 65536).toInt32.toInt = ct_tb0 i j := by decide +kernel
theorem ct_VlenS (C : ct_Cx p R s m args c bytes maxL own A D cA ad G K n d cells slots) {pc i : Nat} (hi : i < 7) (hdec : decode bytes pc = .ok (.arraylength, 1))
    (kk : ct_V p l e R s m args below meth c maxL A D cA ad G K n cells slots Q (pc + 1) ls (.inl (ct_tl0 i) :: st) h) : ct_V p l e R s m args below meth c maxL A D cA ad G K n cells slots Q pc ls (.inr (.inr (16, 2000 + i)) :: st) h := by
  obtain ⟨hx, hb, hml, hown, hts, hK, hD, hWT, hR, hStr⟩ := C
  intro H locs lm hP hS hl ho hs hh
  have hv := ct_tl0v i hi
  exact va_tlen hx hb (hStr.1.1 i hi).2.2.2 hS hv.1 hdec (kk H locs lm hP hS hl ho (ct_cons_ok (show ct_in (ct_tl0 i) by unfold ct_in; omega) (ct_tl hs)) hh)
theorem ct_VbaS (C : ct_Cx p R s m args c bytes maxL own A D cA ad G K n d cells slots) {pc i : Nat} {j : Int} (hi : i < 7) (hj : 0 ≤ j ∧ j < ct_tl0 i) (hdec : decode bytes pc = .ok (.baload, 1))
    (kk : ct_V p l e R s m args below meth c maxL A D cA ad G K n cells slots Q (pc + 1) ls (.inl (ct_tb0 i j.toNat) :: st) h) : ct_V p l e R s m args below meth c maxL A D cA ad G K n cells slots Q pc ls (.inl j :: .inr (.inr (16, 2000 + i)) :: st) h := by
  obtain ⟨hx, hb, hml, hown, hts, hK, hD, hWT, hR, hStr⟩ := C
  intro H locs lm hP hS hl ho hs hh
  have hji : ct_in j := ct_hd hs
  have hv := ct_tl0v i hi
  have hb0 := ct_tb0v i hi j.toNat (by omega)
  refine va_tb hx hb (hStr.1.1 i hi).2.2.2 hS (ct_vpin hji hj) (v := .int (Int32.ofInt (ct_tb0 i j.toNat))) ?_ hdec (kk H locs lm hP hS hl ho (ct_cons_ok (show ct_in (ct_tb0 i j.toNat) by unfold ct_in; omega) (ct_tl (ct_tl hs))) hh)
  show Value.int _ = _
  rw [ct_clamp hji hj.1]
  unfold ct_tb0
  rw [ct_of_toInt]
theorem ct_VldcS (C : ct_Cx p R s m args c bytes maxL own A D cA ad G K n d cells slots) {pc idx i : Nat} {tx : String} (hi : i < 7) (hL : (own, idx, tx, i) ∈ ct_sR) (hdec : decode bytes pc = .ok (.ldc idx, 2))
    (kk : ct_V p l e R s m args below meth c maxL A D cA ad G K n cells slots Q (pc + 2) ls (.inr (.inr (15, 1000 + i)) :: st) h) : ct_V p l e R s m args below meth c maxL A D cA ad G K n cells slots Q pc ls st h := by
  obtain ⟨hx, hb, hml, hown, hts, hK, hD, hWT, hR, hStr⟩ := C
  intro H locs lm hP hS hl ho hs hh
  exact va_ldcS hx hb hown (hStr.2.2.1 _ hL) hdec (kk H locs lm hP hS hl ho (ct_cons_ok (ct_ok15 hi) hs) hh)
/-- a call on a text -/
theorem ct_VcallT {α : Type} (C : ct_Cx p R s m args c bytes maxL own A D cA ad G K n (d + 1) cells slots) {M : ct_M} (hM : ct_MOk M) {pc idx nA i : Nat} {as : List ct_PV} {ρ : α → Option ct_PV × ct_H} {o : Option α} {a : α} (hdec : decode bytes pc = .ok (.invokevirtual idx, 3)) (hL : ct_LkV own idx M nA) (hX : ct_X M d G 0 (ct_args 0 (.inr (.inr (15, 1000 + i)) :: as)) [] h ρ o) (ho : o = some a) (hnA : as.length = nA) (hi : i < 7) (hcn : "java/lang/String" = M.1.cls) (hlen : 1 + (as.map ct_cat).sum ≤ M.2.2.1) (hrest : (st.map ct_cat).sum ≤ 8)
    (kk : ct_V p l e R s m args below meth c maxL A D cA ad G K n cells slots Q (pc + 3) ls ((ρ a).1.toList ++ st) (ρ a).2) : ct_V p l e R s m args below meth c maxL A D cA ad G K n cells slots Q pc ls (as.reverse ++ .inr (.inr (15, 1000 + i)) :: st) h := by
  intro H locs lm hP hS hl hol hos hh
  obtain ⟨hx, hb, hml, hown, hts, hK, hD, hWT, hR, hStr⟩ := id C
  have hos1 : ∀ v ∈ as, ct_ok K n v := fun v hv => hos v (List.mem_append_left _ (List.mem_reverse.mpr hv))
  have hos2 : ∀ v ∈ (.inr (.inr (15, 1000 + i)) :: st : List ct_PV), ct_ok K n v := fun v hv => hos v (List.mem_append_right _ hv)
  have hasok : ∀ v ∈ (.inr (.inr (15, 1000 + i)) :: as : List ct_PV), ct_ok K n v := ct_cons_ok (ct_hd hos2) hos1
  have hmet := ct_Met hM l (A := A) (D := D) (cA := cA) (ad := ad) (K := K) (n := n) hX ho (by simpa [ct_cat] using hlen) hh hasok hWT hD
  have hcw : CallW R s args own M.1.cls idx M.1 M.2.1 M.2.2.1 M.2.2.2.1 (Cond.code M.1 M.2.1 M.2.2.1 M.2.2.2.1 :: ct_GW) (ct_rm d) 0 0 nA := ⟨ct_CallB C hM hL.1 hL.2.2.2, hts _ hL.2.1, hts _ hL.2.2.1⟩
  have hrecv := vk_recv hStr.1 hi hS
  rw [hcn] at hrecv
  have hrun := va_runV (As := as.map (ct_mv ad)) (rest := st.map (ct_mv ad)) (Ts := ct_GW) (g := F0 m pc lm ((as.map (ct_mv ad)).reverse ++ .ref (ad (1000 + i)) :: st.map (ct_mv ad))) (H := H) (locs := locs) (cells := cells) (slots := slots) (e := e) (below := below) (meth := meth) ⟨hx, hb, hml, hown, hts⟩ hmet hcw ⟨ct_blind, hrecv, fun U hU hW => ⟨rfl, by rw [hU]; exact hP, va_K.moved hW.alike hK, ct_Str_to hStr hS hU hW⟩⟩ rfl (by rw [List.length_map]; exact hnA) hl.1 rfl (by show 2 * 0 + _ ≤ 8; rw [ct_sum_map]; omega) hdec ⟨hR.2.2.1, hR.2.2.2⟩
  have e0 : (as.reverse ++ .inr (.inr (15, 1000 + i)) :: st).map (ct_mv ad) = (as.map (ct_mv ad)).reverse ++ .ref (ad (1000 + i)) :: st.map (ct_mv ad) := by
    rw [List.map_append, List.map_reverse, List.map_cons]; rfl
  rw [e0]
  refine ct_callQ hrun hS (fun H1 locs1 hP1 hS1 hh1 hok1 => ?_)
  have k2 := kk H1 locs1 lm hP1 hS1 hl hol (fun v hv => by
    rcases List.mem_append.mp hv with h1 | h1
    · exact hok1 v (by simpa using h1)
    · exact ct_tl hos2 v h1) hh1
  rw [List.map_append] at k2
  exact k2
end
/-- Preconditions.checkIndex, where the index is good -/
theorem ct_preMet (l : Launch) (d : Nat) {A : Nat → Prop} {D : va_G} {ws : va_W} {i n : Int} {v : Value} (hi : ct_in i) (hn : ct_in n) (h0 : 0 ≤ i) (h1 : i < n) (hv : v = .null ∨ ∃ t, v = .ref t) : Met l yJ3_checkIndex_8e157 (Cond.code yJ3_checkIndex_8e157 cJ3_checkIndex_8e157 3 (some .int)   :: ct_GW) (ct_rm d) (fun a U => a = #[.int (Int32.ofInt i), .int (Int32.ofInt n), v] ∧ va_P D ct_cl ws U.heap) (fun _ st oc t => oc = .returned (some (.int (Int32.ofInt i))) ∧ va_P D ct_cl ws t.heap ∧ va_F A st t) 0 0 A := by
  refine Met.ofW (cc := cJ3_checkIndex_8e157) (maxL := 3) (ret := some .int) (by decide +kernel) rfl ?_
  intro p e s m args below meth c s₁ B hml hv0
  obtain ⟨rfl, hP⟩ := hv0
  have hle : (lg_sl [.int (Int32.ofInt i), .int (Int32.ofInt n), v]).length ≤ 3 := by
    rcases hv with rfl | ⟨t, rfl⟩ <;> exact Nat.le_refl 3
  have hl := lv_entry [.int (Int32.ofInt i), .int (Int32.ofInt n), v] (n := 3) hle
  have hae : (#[.int (Int32.ofInt i), .int (Int32.ofInt n), v] : Array Value) = [.int (Int32.ofInt i), .int (Int32.ofInt n), v].toArray := rfl
  rw [hae, lg_entry_eq]
  have x0 := ct_lt32 hi ct_in0
  rw [ct_of0] at x0
  have x1 := ct_lt32 hi hn
  refine lv_iload_n B.exec B.bytes (show decode cJ3_checkIndex_8e157 0 = .ok (.iload_n 0, 1) from by decide +kernel) rfl (lv_at hl 0 rfl) ?_
  refine lv_if_lt (tgt := 9) B.exec B.bytes (show decode cJ3_checkIndex_8e157 1 = .ok (.ifCond .lt 8, 3) from by decide +kernel) rfl (fun z => absurd (x0.mp z) (by omega)) (fun _ => ?_)
  refine lv_iload_n B.exec B.bytes (show decode cJ3_checkIndex_8e157 4 = .ok (.iload_n 0, 1) from by decide +kernel) rfl (lv_at hl 0 rfl) ?_
  refine lv_iload_n B.exec B.bytes (show decode cJ3_checkIndex_8e157 5 = .ok (.iload_n 1, 1) from by decide +kernel) rfl (lv_at hl 1 rfl) ?_
  refine lv_icmp_lt (tgt := 16) B.exec B.bytes (show decode cJ3_checkIndex_8e157 6 = .ok (.if_icmp .lt 10, 3) from by decide +kernel) rfl (fun _ => ?_) (fun z => absurd (x1.mpr h1) z)
  refine lv_iload_n B.exec B.bytes (show decode cJ3_checkIndex_8e157 16 = .ok (.iload_n 0, 1) from by decide +kernel) rfl (lv_at hl 0 rfl) ?_
  exact W.iret B.exec B.bytes B.returns (fun t ht _ => ⟨rfl, by rw [ht]; exact hP, va_S.rf.F ht⟩) (fun _ h => by cases h) (show decode cJ3_checkIndex_8e157 17 = .ok (.ireturn, 1) from by decide +kernel)
section
variable {p : Program} {l : Launch} {e : Env} {R : Room} {s : State} {m : MethodId} {args : Array Value} {below : List Frame} {meth : Method} {c : Code} {maxL : Nat} {bytes : ByteArray} {own : String} {A : Nat → Prop} {D : va_G} {cA : Nat → ClassId} {ad : Nat → Nat} {G : ct_G} {K : Nat → Nat} {n d cells slots : Nat} {Q : State → Prop} {ls : ct_L} {st : List ct_PV} {h : ct_H}
theorem ct_VretN (C : ct_Cx p R s m args c bytes maxL own A D cA ad G K n d 0 0) {pc : Nat} {a : Int} {ty : FieldType} (hr : meth.sig.returnType = some ty) (hlk : meth.locks = false) (hdec : decode bytes pc = .ok (.ireturn, 1)) (hn : narrow ty (.int (Int32.ofInt a)) = .int (Int32.ofInt a)) :
    ct_V p l e R s m args below meth c maxL A D cA ad G K n 0 0 (MQ below (ct_Qc A D cA ad G K n (some (.inl a), h)) args s 0 0 A) pc ls [.inl a] h := by
  intro H locs lm hP hS hl hol hos hh
  exact W.zret C.1 C.2.1 hr hn (fun t ht _ => ⟨rfl, by rw [ht]; exact hP, hS.F ht, hh, fun x hx => by cases hx; exact ct_hd hos⟩) hS.2.2 hdec
end
theorem xt_cod {d : Nat} {G : ct_G} {h : ct_H} {i : Nat} (hi : i < 7) : ct_X mt_cod d G 0 (ct_args 0 [.inr (.inr (15, 1000 + i))]) [] h (fun r : Int => (some (.inl r), h)) (some 0) := by
  intro a ha p l e R s m args below meth c A D cA ad K n C hr hlk
  cases ha
  show ct_V p l e R s m args below meth c 1 A D cA ad G K n 0 0 _ 0 [(0, .inr (.inr (15, 1000 + i)))] [] h
  refine ct_VgetCm C flt_com (show decode cJ0_coder_7d493 0 = .ok (.getstatic 38, 3) from by decide +kernel) ?_
  refine ct_Vcond (tgt := 13) C (show decode cJ0_coder_7d493 3 = .ok (.ifCond .eq 10, 3) from by decide +kernel) rfl (fun z => absurd (show (1 : Int) = 0 from z) (by omega)) (fun _ => ?_)
  refine ct_st1_ok C (q := (6, .aload_n 0, 1, 0)) (show decode cJ0_coder_7d493 6 = .ok (.aload_n 0, 1) from by decide +kernel) rfl trivial rfl ?_
  refine ct_VgetSC C hi flt_cod (show decode cJ0_coder_7d493 7 = .ok (.getfield 15, 3) from by decide +kernel) ?_
  refine ct_Vgoto (tgt := 14) C (show decode cJ0_coder_7d493 10 = .ok (.goto 4, 3) from by decide +kernel) rfl ?_
  exact ct_VretN C hr hlk (show decode cJ0_coder_7d493 14 = .ok (.ireturn, 1) from by decide +kernel) rfl
theorem xt_lat {d : Nat} {G : ct_G} {h : ct_H} {i : Nat} (hi : i < 7) : ct_X mt_lat d G 0 (ct_args 0 [.inr (.inr (15, 1000 + i))]) [] h (fun r : Int => (some (.inl r), h)) (some 1) := by
  intro a ha p l e R s m args below meth c A D cA ad K n C hr hlk
  cases ha
  show ct_V p l e R s m args below meth c 1 A D cA ad G K n 0 0 _ 0 [(0, .inr (.inr (15, 1000 + i)))] [] h
  refine ct_VgetCm C flt_com (show decode cJ0_isLatin1_aae02 0 = .ok (.getstatic 38, 3) from by decide +kernel) ?_
  refine ct_Vcond (tgt := 17) C (show decode cJ0_isLatin1_aae02 3 = .ok (.ifCond .eq 14, 3) from by decide +kernel) rfl (fun z => absurd (show (1 : Int) = 0 from z) (by omega)) (fun _ => ?_)
  refine ct_st1_ok C (q := (6, .aload_n 0, 1, 0)) (show decode cJ0_isLatin1_aae02 6 = .ok (.aload_n 0, 1) from by decide +kernel) rfl trivial rfl ?_
  refine ct_VgetSC C hi flt_cod (show decode cJ0_isLatin1_aae02 7 = .ok (.getfield 15, 3) from by decide +kernel) ?_
  refine ct_Vcond (tgt := 17) C (show decode cJ0_isLatin1_aae02 10 = .ok (.ifCond .ne 7, 3) from by decide +kernel) rfl (fun z => absurd rfl (show ¬ (0 : Int) = 0 from z)) (fun _ => ?_)
  refine ct_st1_ok C (q := (13, .iconst 1, 1, 0)) (show decode cJ0_isLatin1_aae02 13 = .ok (.iconst 1, 1) from by decide +kernel) rfl trivial rfl ?_
  refine ct_Vgoto (tgt := 18) C (show decode cJ0_isLatin1_aae02 14 = .ok (.goto 4, 3) from by decide +kernel) rfl ?_
  exact ct_VretN C hr hlk (show decode cJ0_isLatin1_aae02 18 = .ok (.ireturn, 1) from by decide +kernel) rfl
theorem ct_shr0 : ∀ i, i < 7 → ct_bop (fun x y => x >>> (y &&& 31)) (ct_tl0 i) 0 = ct_tl0 i := by decide +kernel
theorem xt_len {d : Nat} {G : ct_G} {h : ct_H} {i : Nat} (hi : i < 7) : ct_X mt_len (d + 1) G 0 (ct_args 0 [.inr (.inr (15, 1000 + i))]) [] h (fun r : Int => (some (.inl r), h)) (some (ct_tl0 i)) := by
  intro a ha p l e R s m args below meth c A D cA ad K n C hr hlk
  cases ha
  show ct_V p l e R s m args below meth c 1 A D cA ad G K n 0 0 _ 0 [(0, .inr (.inr (15, 1000 + i)))] [] h
  refine ct_st1_ok C (q := (0, .aload_n 0, 1, 0)) (show decode cJ0_length_8abf5 0 = .ok (.aload_n 0, 1) from by decide +kernel) rfl trivial rfl ?_
  refine ct_VgetSV C hi flt_val (show decode cJ0_length_8abf5 1 = .ok (.getfield 9, 3) from by decide +kernel) ?_
  refine ct_VlenS C hi (show decode cJ0_length_8abf5 4 = .ok (.arraylength, 1) from by decide +kernel) ?_
  refine ct_st1_ok C (q := (5, .aload_n 0, 1, 0)) (show decode cJ0_length_8abf5 5 = .ok (.aload_n 0, 1) from by decide +kernel) rfl trivial rfl ?_
  refine ct_VcallT C okt_cod (show decode cJ0_length_8abf5 6 = .ok (.invokevirtual 335, 3) from by decide +kernel) lkt_cod (xt_cod hi) rfl (as := []) (st := [.inl (ct_tl0 i)]) rfl hi rfl (Nat.le_of_ble_eq_true rfl) (Nat.le_of_ble_eq_true rfl) ?_
  refine ct_st1_ok C (q := (9, .ishr, 1, 0)) (st' := [.inl (ct_bop (fun x y => x >>> (y &&& 31)) (ct_tl0 i) 0)]) (show decode cJ0_length_8abf5 9 = .ok (.ishr, 1) from by decide +kernel) rfl trivial rfl ?_
  rw [ct_shr0 i hi]
  exact ct_VretN C hr hlk (show decode cJ0_length_8abf5 10 = .ok (.ireturn, 1) from by decide +kernel) rfl
theorem xt_emp {d : Nat} {G : ct_G} {h : ct_H} {i : Nat} (hi : i < 7) : ct_X mt_emp d G 0 (ct_args 0 [.inr (.inr (15, 1000 + i))]) [] h (fun r : Int => (some (.inl r), h)) (some (if ct_tl0 i = 0 then 1 else 0)) := by
  intro a ha p l e R s m args below meth c A D cA ad K n C hr hlk
  cases ha
  show ct_V p l e R s m args below meth c 1 A D cA ad G K n 0 0 _ 0 [(0, .inr (.inr (15, 1000 + i)))] [] h
  refine ct_st1_ok C (q := (0, .aload_n 0, 1, 0)) (show decode cJ0_isEmpty_aae02 0 = .ok (.aload_n 0, 1) from by decide +kernel) rfl trivial rfl ?_
  refine ct_VgetSV C hi flt_val (show decode cJ0_isEmpty_aae02 1 = .ok (.getfield 9, 3) from by decide +kernel) ?_
  refine ct_VlenS C hi (show decode cJ0_isEmpty_aae02 4 = .ok (.arraylength, 1) from by decide +kernel) ?_
  refine ct_Vcond (tgt := 12) C (show decode cJ0_isEmpty_aae02 5 = .ok (.ifCond .ne 7, 3) from by decide +kernel) rfl (fun z => ?_) (fun z => ?_)
  · rw [if_neg (show ¬ ct_tl0 i = 0 from z)]
    refine ct_st1_ok C (q := (12, .iconst 0, 1, 0)) (show decode cJ0_isEmpty_aae02 12 = .ok (.iconst 0, 1) from by decide +kernel) rfl trivial rfl ?_
    exact ct_VretN C hr hlk (show decode cJ0_isEmpty_aae02 13 = .ok (.ireturn, 1) from by decide +kernel) rfl
  · rw [if_pos (Classical.not_not.mp (show ¬ ¬ ct_tl0 i = 0 from z))]
    refine ct_st1_ok C (q := (8, .iconst 1, 1, 0)) (show decode cJ0_isEmpty_aae02 8 = .ok (.iconst 1, 1) from by decide +kernel) rfl trivial rfl ?_
    refine ct_Vgoto (tgt := 13) C (show decode cJ0_isEmpty_aae02 9 = .ok (.goto 4, 3) from by decide +kernel) rfl ?_
    exact ct_VretN C hr hlk (show decode cJ0_isEmpty_aae02 13 = .ok (.ireturn, 1) from by decide +kernel) rfl
theorem xt_cix {d : Nat} {G : ct_G} {h : ct_H} {i j : Int} (h0 : 0 ≤ i) (h1 : i < j) : ct_X mt_cix (d + 1) G 0 (ct_args 0 [.inl i, .inl j]) [] h (fun _ : Unit => (none, h)) (some ()) := by
  intro a ha p l e R s m args below meth c A D cA ad K n C hr hlk
  cases ha
  show ct_V p l e R s m args below meth c 2 A D cA ad G K n 0 0 _ 0 [(0, .inl i), (1, .inl j)] [] h
  refine ct_st1_ok C (q := (0, .iload_n 0, 1, 0)) (show decode cJ0_checkIndex_df160 0 = .ok (.iload_n 0, 1) from by decide +kernel) rfl trivial rfl ?_
  refine ct_st1_ok C (q := (1, .iload_n 1, 1, 0)) (show decode cJ0_checkIndex_df160 1 = .ok (.iload_n 1, 1) from by decide +kernel) rfl trivial rfl ?_
  intro H locs lm hP hS hl ho hs hh
  have hj0 : ct_in j := ct_hd hs
  have hi0 : ct_in i := ct_hd (ct_tl hs)
  obtain ⟨hx, hb, hml, hown, hts, hK, hD, hWT, hR, hStr⟩ := id C
  have kk : ∀ (H1 : Heap) (locs1 : List Loc), va_P D ct_cl (ct_ws cA ad G K n h) H1 → va_S A s.heap H1 locs1 → W p l e R s m args below meth c H1 locs1 0 0 (MQ below (ct_Qc A D cA ad G K n (none, h)) args s 0 0 A) (F0 m 8 lm [.int (Int32.ofInt i)]) := fun H1 locs1 hP1 hS1 => lv_pop hx hb (show decode cJ0_checkIndex_df160 8 = .ok (.pop, 1) from by decide +kernel) rfl (W.vret hx hb hr (fun t ht hW => ⟨rfl, by rw [ht]; exact hP1, hS1.F ht, hh, fun v hv => by cases hv⟩) hS1.2.2 (show decode cJ0_checkIndex_df160 9 = .ok (.return_, 1) from by decide +kernel))
  have go : ∀ v : Value, (v = .null ∨ ∃ t, v = .ref t) → W p l e R s m args below meth c H locs 0 0 (MQ below (ct_Qc A D cA ad G K n (none, h)) args s 0 0 A) (F0 m 5 lm [v, .int (Int32.ofInt j), .int (Int32.ofInt i)]) := by
    intro v hv
    have hmet := ct_preMet l d (A := A) (D := D) (ws := ct_ws cA ad G K n h) hi0 hj0 h0 h1 hv
    have hrun := va_runS (As := [.int (Int32.ofInt i), .int (Int32.ofInt j), v]) (rest := []) (Ts := ct_GW) (g := F0 m 5 lm [v, .int (Int32.ofInt j), .int (Int32.ofInt i)]) (H := H) (locs := locs) (cells := 0) (slots := 0) (e := e) (below := below) (meth := meth) ⟨hx, hb, hml, hown, hts⟩ hmet ⟨ct_CallB C okt_pre (nA := 3) gw_p3 (by decide +kernel), hts _ gw_p4⟩ ⟨fun a U g mk q => q, fun U hU hW => ⟨rfl, by rw [hU]; exact hP⟩⟩ rfl rfl hl.1 rfl (by show 2 * 0 + 0 ≤ 8; omega) (show decode cJ0_checkIndex_df160 5 = .ok (.invokestatic 1059, 3) from by decide +kernel) ⟨hR.2.2.1, hR.2.2.2⟩
    intro T hT X
    obtain ⟨w, st₀, t, T', L, q0, X', hL, e1, e2, ⟨hw, hP', hz, hk⟩, stp⟩ := hrun T hT X
    rw [q0] at hz hk
    rw [← e1] at hP'
    cases hw
    obtain ⟨t2, a1, b1⟩ := kk T'.heap (locs ++ L) hP' ⟨Nat.le_trans hS.1 (by rw [e1]; exact hz), fun q h1 h2 => by rw [e1, hk q (Nat.lt_of_lt_of_le h1 hS.1) h2]; exact hS.2.1 q h1 h2, fun q hq => by
      rcases List.mem_append.mp hq with h | h
      · exact hS.2.2 q h
      · exact hL q h⟩ T' rfl X'
    exact ⟨t2, stp t2 a1, b1⟩
  rcases hStr.2.2.2 with hZ | ⟨t, hZ⟩
  · exact va_gets hx hb hZ hS hown (hts _ flt_sio) (fun _ h => h) (show decode cJ0_checkIndex_df160 2 = .ok (.getstatic 1053, 3) from by decide +kernel) (go _ (Or.inl rfl))
  · exact va_gets hx hb hZ hS hown (hts _ flt_sio) (fun _ h => h) (show decode cJ0_checkIndex_df160 2 = .ok (.getstatic 1053, 3) from by decide +kernel) (go _ (Or.inr ⟨t, rfl⟩))
theorem xt_lch {d : Nat} {G : ct_G} {h : ct_H} {i : Nat} {j : Int} (hi : i < 7) (hj : 0 ≤ j ∧ j < ct_tl0 i) : ct_X mt_lch (d + 2) G 0 (ct_args 0 [.inr (.inr (16, 2000 + i)), .inl j]) [] h (fun r : Int => (some (.inl r), h)) (some (ct_tb0 i j.toNat)) := by
  intro a ha p l e R s m args below meth c A D cA ad K n C hr hlk
  cases ha
  have hv := ct_tl0v i hi
  have hb0 := ct_tb0v i hi j.toNat (by omega)
  show ct_V p l e R s m args below meth c 2 A D cA ad G K n 0 0 _ 0 [(0, .inr (.inr (16, 2000 + i))), (1, .inl j)] [] h
  refine ct_st1_ok C (q := (0, .iload_n 1, 1, 0)) (show decode cJ1_charAt_3b067 0 = .ok (.iload_n 1, 1) from by decide +kernel) rfl trivial rfl ?_
  refine ct_st1_ok C (q := (1, .aload_n 0, 1, 0)) (show decode cJ1_charAt_3b067 1 = .ok (.aload_n 0, 1) from by decide +kernel) rfl trivial rfl ?_
  refine ct_VlenS C hi (show decode cJ1_charAt_3b067 2 = .ok (.arraylength, 1) from by decide +kernel) ?_
  refine ct_VcallS C okt_cix (show decode cJ1_charAt_3b067 3 = .ok (.invokestatic 9, 3) from by decide +kernel) lkt_cix (xt_cix hj.1 hj.2) rfl (as := [.inl j, .inl (ct_tl0 i)]) (st := []) rfl (Nat.le_of_ble_eq_true rfl) (Nat.le_of_ble_eq_true rfl) ?_
  refine ct_st1_ok C (q := (6, .aload_n 0, 1, 0)) (show decode cJ1_charAt_3b067 6 = .ok (.aload_n 0, 1) from by decide +kernel) rfl trivial rfl ?_
  refine ct_st1_ok C (q := (7, .iload_n 1, 1, 0)) (show decode cJ1_charAt_3b067 7 = .ok (.iload_n 1, 1) from by decide +kernel) rfl trivial rfl ?_
  refine ct_VbaS C hi hj (show decode cJ1_charAt_3b067 8 = .ok (.baload, 1) from by decide +kernel) ?_
  refine ct_st1_ok C (q := (9, .sipush 255, 3, 0)) (show decode cJ1_charAt_3b067 9 = .ok (.sipush 255, 3) from by decide +kernel) rfl trivial rfl ?_
  refine ct_st1_ok C (q := (12, .iand, 1, 0)) (show decode cJ1_charAt_3b067 12 = .ok (.iand, 1) from by decide +kernel) rfl trivial rfl ?_
  refine ct_st1_ok C (q := (13, .i2c, 1, 0)) (st' := [.inl (((Int32.ofInt ((Int32.ofInt (ct_tb0 i j.toNat) &&& 255).toInt)).toUInt32 % 65536).toInt32.toInt)]) (show decode cJ1_charAt_3b067 13 = .ok (.i2c, 1) from by decide +kernel) rfl trivial rfl ?_
  rw [hb0.2.2]
  refine ct_VretN C hr hlk (show decode cJ1_charAt_3b067 14 = .ok (.ireturn, 1) from by decide +kernel) ?_
  obtain ⟨k1, k2, -⟩ := hb0
  generalize ct_tb0 i j.toNat = z at k1 k2 ⊢
  have hz : ∀ k : Nat, k < 128 → narrow .char (.int (Int32.ofInt (k : Int))) = .int (Int32.ofInt (k : Int)) := by decide +kernel
  have := hz z.toNat (by omega)
  rwa [Int.toNat_of_nonneg k1] at this
theorem xt_chr {d : Nat} {G : ct_G} {h : ct_H} {i : Nat} {j : Int} (hi : i < 7) (hj : 0 ≤ j ∧ j < ct_tl0 i) : ct_X mt_chr (d + 3) G 0 (ct_args 0 [.inr (.inr (15, 1000 + i)), .inl j]) [] h (fun r : Int => (some (.inl r), h)) (some (ct_tb0 i j.toNat)) := by
  intro a ha p l e R s m args below meth c A D cA ad K n C hr hlk
  cases ha
  have hv := ct_tl0v i hi
  have hb0 := ct_tb0v i hi j.toNat (by omega)
  show ct_V p l e R s m args below meth c 2 A D cA ad G K n 0 0 _ 0 [(0, .inr (.inr (15, 1000 + i))), (1, .inl j)] [] h
  refine ct_st1_ok C (q := (0, .aload_n 0, 1, 0)) (show decode cJ0_charAt_5068e 0 = .ok (.aload_n 0, 1) from by decide +kernel) rfl trivial rfl ?_
  refine ct_VcallT C okt_lat (show decode cJ0_charAt_5068e 1 = .ok (.invokevirtual 492, 3) from by decide +kernel) lkt_lat (xt_lat hi) rfl (as := []) (st := []) rfl hi rfl (Nat.le_of_ble_eq_true rfl) (Nat.le_of_ble_eq_true rfl) ?_
  refine ct_Vcond (a := 1) (tgt := 16) C (show decode cJ0_charAt_5068e 4 = .ok (.ifCond .eq 12, 3) from by decide +kernel) rfl (fun z => absurd (show (1 : Int) = 0 from z) (by omega)) (fun _ => ?_)
  refine ct_st1_ok C (q := (7, .aload_n 0, 1, 0)) (show decode cJ0_charAt_5068e 7 = .ok (.aload_n 0, 1) from by decide +kernel) rfl trivial rfl ?_
  refine ct_VgetSV C hi flt_val (show decode cJ0_charAt_5068e 8 = .ok (.getfield 9, 3) from by decide +kernel) ?_
  refine ct_st1_ok C (q := (11, .iload_n 1, 1, 0)) (show decode cJ0_charAt_5068e 11 = .ok (.iload_n 1, 1) from by decide +kernel) rfl trivial rfl ?_
  refine ct_VcallS C okt_lch (show decode cJ0_charAt_5068e 12 = .ok (.invokestatic 495, 3) from by decide +kernel) lkt_lch (xt_lch hi hj) rfl (as := [.inr (.inr (16, 2000 + i)), .inl j]) (st := []) rfl (Nat.le_of_ble_eq_true rfl) (Nat.le_of_ble_eq_true rfl) ?_
  refine ct_VretN C hr hlk (show decode cJ0_charAt_5068e 15 = .ok (.ireturn, 1) from by decide +kernel) ?_
  obtain ⟨k1, k2, -⟩ := hb0
  generalize ct_tb0 i j.toNat = z at k1 k2 ⊢
  have hz : ∀ k : Nat, k < 128 → narrow .char (.int (Int32.ofInt (k : Int))) = .int (Int32.ofInt (k : Int)) := by decide +kernel
  have := hz z.toNat (by omega)
  rwa [Int.toNat_of_nonneg k1] at this
def ct_slen (q : Nat) : Option Int := if 1000 ≤ q ∧ q < 1007 then some (ct_tl0 (q - 1000)) else none
def ct_semp (q : Nat) : Option Int := if 1000 ≤ q ∧ q < 1007 then some (if ct_tl0 (q - 1000) = 0 then 1 else 0) else none
def ct_schr (q : Nat) (j : Int) : Option Int := if (1000 ≤ q ∧ q < 1007) ∧ 0 ≤ j ∧ j < ct_tl0 (q - 1000) then some (ct_tb0 (q - 1000) j.toNat) else none
section
variable {α : Type} {x : ct_Ctx} {M : ct_M} {G : ct_G} {d k : Nat} {ls : ct_L} {st : List ct_PV} {h : ct_H} {P : α → Prop} {o : Option α}
theorem ct_zldcS (C : ct_c x M G d) {pc aux idx i : Nat} (tx : String) (hi : Nat.blt i 7 = true) (hL : (M.1.cls, idx, tx, i) ∈ ct_sR) (hk : M.2.2.2.2[k]? = some (pc, .ldc idx, 2, aux)) (hlt : Nat.blt (k + 1) M.2.2.2.2.length = true) (z : ct_Z x M G (k + 1) ls (.inr (.inr (15, 1000 + i)) :: st) h P o) : ct_Z x M G k ls st h P o := by
  intro r hr hp
  have hz := z r hr hp
  obtain ⟨p, l, e, R, s, m, args, below, meth, c, A, D, cA, ad, K, n, cells, slots, Q⟩ := x
  obtain ⟨hM, hC, -⟩ := C
  obtain ⟨r1, r2⟩ := ct_row hM hk
  unfold ct_v at hz ⊢
  dsimp only at hz ⊢ r1 r2
  rw [ct_next hM hk hlt] at hz
  rw [r2]
  exact ct_VldcS hC (by simpa using hi) hL r1 hz
theorem ct_zslen (C : ct_c x M G (d + 2)) {pc aux idx q : Nat} {F : Int → Option α} (hL : ct_LkV M.1.cls idx mt_len 0) (hk : M.2.2.2.2[k]? = some (pc, .invokevirtual idx, 3, aux)) (hlt : Nat.blt (k + 1) M.2.2.2.2.length = true) (hrest : Nat.ble (st.map ct_cat).sum 8 = true) (z : ∀ r, ct_Z x M G (k + 1) ls (.inl r :: st) h P (F r)) : ct_Z x M G k ls (.inr (.inr (15, q)) :: st) h P ((ct_slen q).bind F) := by
  intro r hr hp
  obtain ⟨v, h1, h2⟩ := Option.bind_eq_some_iff.mp hr
  have hz := z v r h2 hp
  unfold ct_slen at h1
  split at h1
  case isFalse => cases h1
  rename_i hq
  obtain ⟨i, rfl⟩ := Nat.exists_eq_add_of_le hq.1
  rw [Nat.add_sub_cancel_left] at h1
  cases h1
  obtain ⟨p, l, e, R, s, m, args, below, meth, c, A, D, cA, ad, K, n, cells, slots, Q⟩ := x
  obtain ⟨hM, hC, -⟩ := C
  obtain ⟨r1, r2⟩ := ct_row hM hk
  unfold ct_v at hz ⊢
  dsimp only at hz ⊢ r1 r2
  rw [ct_next hM hk hlt] at hz
  rw [r2]
  exact ct_VcallT hC okt_len r1 hL (xt_len (by omega)) rfl (as := []) rfl (by omega) rfl (Nat.le_of_ble_eq_true rfl) (Nat.le_of_ble_eq_true hrest) hz
theorem ct_zsemp (C : ct_c x M G (d + 2)) {pc aux idx q : Nat} {F : Int → Option α} (hL : ct_LkV M.1.cls idx mt_emp 0) (hk : M.2.2.2.2[k]? = some (pc, .invokevirtual idx, 3, aux)) (hlt : Nat.blt (k + 1) M.2.2.2.2.length = true) (hrest : Nat.ble (st.map ct_cat).sum 8 = true) (z : ∀ r, ct_Z x M G (k + 1) ls (.inl r :: st) h P (F r)) : ct_Z x M G k ls (.inr (.inr (15, q)) :: st) h P ((ct_semp q).bind F) := by
  intro r hr hp
  obtain ⟨v, h1, h2⟩ := Option.bind_eq_some_iff.mp hr
  have hz := z v r h2 hp
  unfold ct_semp at h1
  split at h1
  case isFalse => cases h1
  rename_i hq
  obtain ⟨i, rfl⟩ := Nat.exists_eq_add_of_le hq.1
  rw [Nat.add_sub_cancel_left] at h1
  cases h1
  obtain ⟨p, l, e, R, s, m, args, below, meth, c, A, D, cA, ad, K, n, cells, slots, Q⟩ := x
  obtain ⟨hM, hC, -⟩ := C
  obtain ⟨r1, r2⟩ := ct_row hM hk
  unfold ct_v at hz ⊢
  dsimp only at hz ⊢ r1 r2
  rw [ct_next hM hk hlt] at hz
  rw [r2]
  exact ct_VcallT hC okt_emp r1 hL (xt_emp (by omega)) rfl (as := []) rfl (by omega) rfl (Nat.le_of_ble_eq_true rfl) (Nat.le_of_ble_eq_true hrest) hz
theorem ct_zschr (C : ct_c x M G (d + 4)) {pc aux idx q : Nat} {j : Int} {F : Int → Option α} (hL : ct_LkV M.1.cls idx mt_chr 1) (hk : M.2.2.2.2[k]? = some (pc, .invokevirtual idx, 3, aux)) (hlt : Nat.blt (k + 1) M.2.2.2.2.length = true) (hrest : Nat.ble (st.map ct_cat).sum 8 = true) (z : ∀ r, ct_Z x M G (k + 1) ls (.inl r :: st) h P (F r)) : ct_Z x M G k ls (.inl j :: .inr (.inr (15, q)) :: st) h P ((ct_schr q j).bind F) := by
  intro r hr hp
  obtain ⟨v, h1, h2⟩ := Option.bind_eq_some_iff.mp hr
  have hz := z v r h2 hp
  unfold ct_schr at h1
  split at h1
  case isFalse => cases h1
  rename_i hq
  obtain ⟨i, rfl⟩ := Nat.exists_eq_add_of_le hq.1.1
  have hq2 := hq.2
  rw [Nat.add_sub_cancel_left] at h1 hq2
  cases h1
  obtain ⟨p, l, e, R, s, m, args, below, meth, c, A, D, cA, ad, K, n, cells, slots, Q⟩ := x
  obtain ⟨hM, hC, -⟩ := C
  obtain ⟨r1, r2⟩ := ct_row hM hk
  unfold ct_v at hz ⊢
  dsimp only at hz ⊢ r1 r2
  rw [ct_next hM hk hlt] at hz
  rw [r2]
  exact ct_VcallT hC okt_chr r1 hL (xt_chr (by omega) hq2) rfl (as := [.inl j]) rfl (by omega) rfl (Nat.le_of_ble_eq_true rfl) (Nat.le_of_ble_eq_true hrest) hz
end
