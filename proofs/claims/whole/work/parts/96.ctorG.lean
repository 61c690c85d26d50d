/-! the constructor of Ground -/
def gd_G : ct_G := (fun i j => if i = 0 ∧ j = 0 then 1 else 0, fun i => if i = 1 then 81 else 0)
def gd_K : Nat → Nat := fun i => if i = 0 then 0 else 8
def gd_h : ct_H := (fun _ _ => 0, fun _ _ => 0)
def gd_ad (h0 q1 : Nat) (ad : Nat → Nat) : Nat → Nat := fun i => if i = 0 then h0 else if i = 1 then q1 else ad i
def gd_F : Nat → Int := flat (fun _ => 0) 6 6
theorem gd_WT : ct_WT gd_G gd_K 2 := by
  unfold ct_WT
  decide +kernel
theorem gd_lay : f_X0_layOut gd_G gd_h 0 6 6 = some (hs (hs gd_h 1 gd_F) 0 (up (lay0 (gd_h.1 0) 6 6) 6 36)) := by
  have := g_layOut (G := gd_G) (h := gd_h) (o := 0) (c := 1) (nh := 6) (nw := 6) rfl rfl (by decide) (by omega) (by omega) (Int.le_refl 0) (by show (0 : Int) < 2147480000; omega)
  exact this
set_option maxHeartbeats 4000000 in
set_option maxRecDepth 100000 in
theorem ci_X0 (l : Launch) (D : va_G) (cA : Nat → ClassId) (ad : Nat → Nat) (h0 : Nat) : ci_K l yX0_init cX0_init 1 ({ frames := 3, cells := 1, slots := 81, locals := 120 }) D cA ad h0 (.inr (0, [.null, .int 0, .int 0, .int 0, .int 0, .int 0, .int 0])) [] (fun u : Nat => [(h0, .inr (0, [.ref u, .int 6, .int 6, .int 8, .int 64, .int 0, .int 36])), (u, .inl (cA 8, 81, .inl (fun j => Int32.ofInt (gd_F j))))]) := by
  refine ci_Met (by decide) rfl (Nat.le_of_ble_eq_true rfl) l ?_
  intro p e s m args below meth c A lm C hr hlocks hin hP hD hl
  obtain ⟨hx, hb, hml, hown, hts, hK, hA, hStr, hAO⟩ := id C
  have hl : lv_has lm 1 [(0, .ref h0)] := hl
  have hS : va_S A s.heap s.heap [] := va_S.rf
  refine lv_aload_n hx hb (show decode cX0_init 0 = .ok (.aload_n 0, 1) from by decide +kernel) rfl (lv_at hl 0 rfl) ?_
  refine W.objInit hx hb hown (hts (.methodLink RX0 5 objectInit) (ct_GW_of 104 (by decide +kernel) (by decide +kernel))) (hts (.instanceMethod objectInit) (ct_GW_of 97 (by decide +kernel) (by decide +kernel))) (hts (.code objectInit ⟨#[0xb1]⟩ 1 none) (ct_GW_of 98 (by decide +kernel) (by decide +kernel))) rfl (by rw [hml]; exact hl.1) rfl (show decode cX0_init 1 = .ok (.invokespecial 5, 3) from by decide +kernel) (Nat.le_of_ble_eq_true rfl) (Nat.le_of_ble_eq_true rfl) ?_
  refine W.eq (g2 := F0 m 4 lm []) rfl ?_
  refine lv_aload_n hx hb (show decode cX0_init 4 = .ok (.aload_n 0, 1) from by decide +kernel) rfl (lv_at hl 0 rfl) ?_
  refine lv_bipush (v := 81) hx hb (show decode cX0_init 5 = .ok (.bipush 81, 2) from by decide +kernel) (by decide) ?_
  refine ci_newa C (atype := .int) (ty := .int) rfl (ct_GW_of 157 (by decide +kernel) (by decide +kernel)) 0 8 rfl hP hD hS (a0 := (81, .inl (fun _ => 0))) (fun _ => rfl) (by decide) rfl (Nat.le_of_ble_eq_true rfl) (Nat.le_of_ble_eq_true rfl) (Nat.le_of_ble_eq_true rfl) (show decode cX0_init 7 = .ok (.newarray .int, 2) from by decide +kernel) (fun q1 H hP hD hS => ?_)
  have hP : va_P D ct_cl [(h0, .inr (0, [.null, .int 0, .int 0, .int 0, .int 0, .int 0, .int 0])), (q1, .inl (cA 8, 81, .inl (fun _ => 0)))] H := hP
  have hD : va_D A [(h0, .inr (0, [.null, .int 0, .int 0, .int 0, .int 0, .int 0, .int 0])), (q1, .inl (cA 8, 81, .inl (fun _ => 0)))] := hD
  refine va_putF (D := D) (ci := 0) (v := .ref q1) (ty := .array .int) (C := RX0) (T := TX0) (N := 7) hx hb hts (ct_lays 0 (by decide)) tyX0 tyX0_ok nmX0 hown hK hP hD hS 0 rfl rfl 0 (by decide) (hts (.fieldLink RX0 11 "ContourTracer$Ground" "heights" "[I") (ct_GW_of 124 (by decide +kernel) (by decide +kernel))) (fun _ h9 => h9) rfl hin rfl (by decide +kernel) rfl rfl (Nat.le_of_ble_eq_true rfl) (show decode cX0_init 9 = .ok (.putfield 11, 3) from by decide +kernel) (fun H locs hP hD hS => ?_)
  have hP : va_P D ct_cl [(h0, .inr (0, [.ref q1, .int 0, .int 0, .int 0, .int 0, .int 0, .int 0])), (q1, .inl (cA 8, 81, .inl (fun _ => 0)))] H := hP
  have hD : va_D A [(h0, .inr (0, [.ref q1, .int 0, .int 0, .int 0, .int 0, .int 0, .int 0])), (q1, .inl (cA 8, 81, .inl (fun _ => 0)))] := hD
  refine lv_aload_n hx hb (show decode cX0_init 12 = .ok (.aload_n 0, 1) from by decide +kernel) rfl (lv_at hl 0 rfl) ?_
  refine lv_iconst (v := 0) hx hb (show decode cX0_init 13 = .ok (.iconst 0, 1) from by decide +kernel) (by decide) ?_
  refine va_put (D := D) (ci := 0) (v := .int 0) (ty := .int) (C := RX0) (T := TX0) (N := 7) hx hb hts (ct_lays 0 (by decide)) tyX0 tyX0_ok nmX0 hown hK hP hD hS 0 rfl rfl 5 (by decide) (hts (.fieldLink RX0 15 "ContourTracer$Ground" "kind" "I") (ct_GW_of 137 (by decide +kernel) (by decide +kernel))) (fun _ h9 => h9) rfl (by decide +kernel) rfl rfl (Nat.le_of_ble_eq_true rfl) (show decode cX0_init 14 = .ok (.putfield 15, 3) from by decide +kernel) (fun H locs hP hD hS => ?_)
  have hP : va_P D ct_cl [(h0, .inr (0, [.ref q1, .int 0, .int 0, .int 0, .int 0, .int 0, .int 0])), (q1, .inl (cA 8, 81, .inl (fun _ => 0)))] H := hP
  have hD : va_D A [(h0, .inr (0, [.ref q1, .int 0, .int 0, .int 0, .int 0, .int 0, .int 0])), (q1, .inl (cA 8, 81, .inl (fun _ => 0)))] := hD
  refine lv_aload_n hx hb (show decode cX0_init 17 = .ok (.aload_n 0, 1) from by decide +kernel) rfl (lv_at hl 0 rfl) ?_
  refine lv_iconst (v := 0) hx hb (show decode cX0_init 18 = .ok (.iconst 0, 1) from by decide +kernel) (by decide) ?_
  refine va_put (D := D) (ci := 0) (v := .int 0) (ty := .int) (C := RX0) (T := TX0) (N := 7) hx hb hts (ct_lays 0 (by decide)) tyX0 tyX0_ok nmX0 hown hK hP hD hS 0 rfl rfl 6 (by decide) (hts (.fieldLink RX0 19 "ContourTracer$Ground" "changes" "I") (ct_GW_of 139 (by decide +kernel) (by decide +kernel))) (fun _ h9 => h9) rfl (by decide +kernel) rfl rfl (Nat.le_of_ble_eq_true rfl) (show decode cX0_init 19 = .ok (.putfield 19, 3) from by decide +kernel) (fun H locs hP hD hS => ?_)
  have hP : va_P D ct_cl [(h0, .inr (0, [.ref q1, .int 0, .int 0, .int 0, .int 0, .int 0, .int 0])), (q1, .inl (cA 8, 81, .inl (fun _ => 0)))] H := hP
  have hD : va_D A [(h0, .inr (0, [.ref q1, .int 0, .int 0, .int 0, .int 0, .int 0, .int 0])), (q1, .inl (cA 8, 81, .inl (fun _ => 0)))] := hD
  refine lv_aload_n hx hb (show decode cX0_init 22 = .ok (.aload_n 0, 1) from by decide +kernel) rfl (lv_at hl 0 rfl) ?_
  refine lv_bipush (v := 6) hx hb (show decode cX0_init 23 = .ok (.bipush 6, 2) from by decide +kernel) (by decide) ?_
  refine lv_bipush (v := 6) hx hb (show decode cX0_init 25 = .ok (.bipush 6, 2) from by decide +kernel) (by decide) ?_
  have hne : h0 ≠ q1 := fun z => absurd (hD.1 0 1 (h0, _) (q1, _) rfl rfl z) (by decide)
  have hC : ct_Cx p ({ frames := 3, cells := 1, slots := 81, locals := 120 } : Room) s m args c cX0_init 1 RX0 A D cA (gd_ad h0 q1 ad) gd_G gd_K 2 3 (0 + 1) (0 + 81) := by
    refine ⟨hx, hb, hml, hown, hts, hK, ⟨fun i j hi hj z => ?_, fun i hi => ?_⟩, gd_WT, ⟨Nat.le_of_ble_eq_true rfl, Nat.le_of_ble_eq_true rfl, Nat.le_of_ble_eq_true rfl, Nat.le_of_ble_eq_true rfl⟩, ?_⟩
    · rcases (show i = 0 ∨ i = 1 by omega) with rfl | rfl <;> rcases (show j = 0 ∨ j = 1 by omega) with rfl | rfl
      · rfl
      · exact absurd z hne
      · exact absurd z.symm hne
      · rfl
    · rcases (show i = 0 ∨ i = 1 by omega) with rfl | rfl
      · exact hD.2 0 (h0, _) rfl
      · exact hD.2 1 (q1, _) rfl
    · have e1 : (fun i => gd_ad h0 q1 ad (1000 + i)) = fun i => ad (1000 + i) := by
        funext i; unfold gd_ad; rw [if_neg (by omega), if_neg (by omega)]
      have e2 : (fun i => gd_ad h0 q1 ad (2000 + i)) = fun i => ad (2000 + i) := by
        funext i; unfold gd_ad; rw [if_neg (by omega), if_neg (by omega)]
      unfold ct_Str
      rw [e1, e2]
      refine ⟨hStr.1, hStr.2.1, fun q hq => ?_, hStr.2.2.2⟩
      have := hStr.2.2.1 q hq
      unfold gd_ad
      rw [if_neg (by omega), if_neg (by omega)]
      exact this
  have hV := ct_VcallV (Q := MQ below (va_Qv (fun _ : Nat => True) (fun u t => va_P D ct_cl [(h0, .inr (0, [.ref u, .int 6, .int 6, .int 8, .int 64, .int 0, .int 36])), (u, .inl (cA 8, 81, .inl (fun j => Int32.ofInt (gd_F j))))] t.heap ∧ va_D A [(h0, .inr (0, [.ref u, .int 6, .int 6, .int 8, .int 64, .int 0, .int 36])), (u, .inl (cA 8, 81, .inl (fun j => Int32.ofInt (gd_F j))))]) A) args s 1 81 A) (p := p) (l := l) (e := e) (below := below) (meth := meth) (ls := []) (st := []) (h := gd_h) hC ok_X0_layOut (pc := 27) (cc := 0) (b := 0) (as := [.inl 6, .inl 6]) (show decode cX0_init 27 = .ok (.invokevirtual 22, 3) from by decide +kernel) lk_X0_22 ((e_X0_layOut (d := 0) 0 6 6).toX ok_X0_layOut) gd_lay rfl (by omega) rfl (Nat.le_of_ble_eq_true rfl) (Nat.le_of_ble_eq_true rfl) ?_
  · refine hV H locs lm hP hS ⟨hl.1, hl.2.1, fun q hq => by cases hq⟩ (fun q hq => by cases hq) (fun v hv => ?_) (fun i j => ct_in0)
    rcases List.mem_cons.mp hv with rfl | hv
    · show ct_in 6; unfold ct_in; omega
    · rcases List.mem_cons.mp hv with rfl | hv
      · show ct_in 6; unfold ct_in; omega
      · rcases List.mem_cons.mp hv with rfl | hv
        · exact Or.inl ⟨by show 0 < 2; omega, rfl⟩
        · cases hv
  · intro H locs lm hP hS hl _ _ _
    have hP : va_P D ct_cl [(h0, .inr (0, [.ref q1, .int 6, .int 6, .int 8, .int 64, .int 0, .int 36])), (q1, .inl (cA 8, 81, .inl (fun j => Int32.ofInt (gd_F j))))] H := hP
    have hD : va_D A [(h0, .inr (0, [.ref q1, .int 6, .int 6, .int 8, .int 64, .int 0, .int 36])), (q1, .inl (cA 8, 81, .inl (fun j => Int32.ofInt (gd_F j))))] := (hD.set (p := 0) (a := h0) (e := .inr (0, [.ref q1, .int 6, .int 6, .int 8, .int 64, .int 0, .int 36])) rfl).set (p := 1) (a := q1) (e := .inl (cA 8, 81, .inl (fun j => Int32.ofInt (gd_F j)))) rfl
    exact W.vret hx hb hr (fun t ht _ => ⟨⟨q1, rfl, trivial, by rw [ht]; exact hP, hD⟩, hS.F ht⟩) hS.2.2 (show decode cX0_init 30 = .ok (.return_, 1) from by decide +kernel)
