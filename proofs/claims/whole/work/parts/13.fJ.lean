theorem lc_J13_314 : Cond.constantLong RJ13 314 (6148914691236517205) ∈ ct_GW := ct_GW_of 650 (by decide +kernel) (by decide +kernel)
theorem lc_J13_316 : Cond.constantLong RJ13 316 (3689348814741910323) ∈ ct_GW := ct_GW_of 651 (by decide +kernel) (by decide +kernel)
theorem lc_J13_318 : Cond.constantLong RJ13 318 (1085102592571150095) ∈ ct_GW := ct_GW_of 652 (by decide +kernel) (by decide +kernel)
def l_J7_fill_53178_5 (G : ct_G) (a0 : Nat) (a1 : Int) (v1 : Int) : Nat → (Int × ct_H) → Option (ct_H)
  | 0, _ => none
  | n3 + 1, b2 => if v1 ≤ b2.1 then (some (b2.2)) else (ct_wt G b2.2 a0 b2.1 a1).bind fun h4 => l_J7_fill_53178_5 G a0 a1 v1 n3 ((ct_wr (b2.1 + 1)), h4)
set_option maxRecDepth 100000 in
theorem zl_J7_fill_53178_5 {x : ct_Ctx} {d : Nat} {G : ct_G} (C : ct_c x m_J7_fill_53178 G d) (a0 : Nat) (a1 : Int) (v1 : Int) : ∀ (n3 : Nat) (b2 : Int × ct_H), ct_Z x m_J7_fill_53178 G 5 [(0, .inr (.inr (8, a0))), (1, .inl a1), (2, .inl (b2.1)), (3, .inl v1)] [] b2.2 (fun a => ct_q x G ((fun r : ct_H => ((none : Option ct_PV), r)) a)) (l_J7_fill_53178_5 G a0 a1 v1 n3 b2) := by
  intro n3
  induction n3 with
  | zero => intro b2; exact ct_znone
  | succ n3 ih =>
    intro b2
    rw [l_J7_fill_53178_5]
    refine ct_zrun C (k' := 7) (y := ([(0, .inr (.inr (8, a0))), (1, .inl a1), (2, .inl (b2.1)), (3, .inl v1)], [.inl v1, .inl (b2.1)], b2.2)) 2 rfl rfl rfl ?_
    refine ct_zt C (pc := 7) (aux := 0) (cn := .ge) (off := 13) (k' := 14) (a := b2.1) (b := v1) Iff.rfl rfl rfl rfl (fun e5 => ?_) (fun e5 => ?_)
    · exact ct_zret C (pc := 20) (aux := 0) (ins := .return_) (ρ := (fun r : ct_H => ((none : Option ct_PV), r))) none rfl rfl rfl ⟨rfl, rfl⟩
    · refine ct_zrun C (k' := 11) (y := ([(0, .inr (.inr (8, a0))), (1, .inl a1), (2, .inl (b2.1)), (3, .inl v1)], [.inl a1, .inl (b2.1), .inr (.inr (8, a0))], b2.2)) 3 rfl rfl rfl ?_
      refine ct_zwt C (pc := 13) (aux := 0) rfl rfl (fun h4 => ?_)
      refine ct_zrun C (k' := 13) (y := ([(2, .inl (ct_wr (b2.1 + 1))), (0, .inr (.inr (8, a0))), (1, .inl a1), (3, .inl v1)], [], h4)) 1 rfl rfl rfl ?_
      refine ct_zgoto C (pc := 17) (aux := 0) (off := (-12)) (k' := 5) rfl rfl ?_
      exact ct_zsub [1, 2, 0, 3] rfl (ih ((ct_wr (b2.1 + 1)), h4))
def f_J7_fill_53178 (G : ct_G) (h : ct_H) (a0 : Nat) (a1 : Int) : Option (ct_H) := ct_lt ((G.2 a0 : Nat) : Int) fun v1 => l_J7_fill_53178_5 G a0 a1 v1 200 (0, h)
set_option maxRecDepth 100000 in
theorem e_J7_fill_53178 {d : Nat} {G : ct_G} {h : ct_H} (a0 : Nat) (a1 : Int) : ct_E m_J7_fill_53178 d G (ct_args 0 [.inr (.inr (8, a0)), .inl a1]) h (fun r : ct_H => ((none : Option ct_PV), r)) (f_J7_fill_53178 G h a0 a1) := by
  intro x C
  unfold f_J7_fill_53178
  show ct_Z x m_J7_fill_53178 G 0 [(0, .inr (.inr (8, a0))), (1, .inl a1)] [] h (fun a => ct_q x G ((fun r : ct_H => ((none : Option ct_PV), r)) a)) _
  refine ct_zrun C (k' := 5) (y := ([(3, .inl ((G.2 a0 : Nat) : Int)), (2, .inl 0), (0, .inr (.inr (8, a0))), (1, .inl a1)], [], h)) 5 rfl rfl rfl ?_
  refine ct_zlet (L := fun v1 => [(3, .inl v1), (2, .inl 0), (0, .inr (.inr (8, a0))), (1, .inl a1)]) (S := fun _ => []) (Hh := fun _ => h) (a := ((G.2 a0 : Nat) : Int)) (fun v1 => ?_)
  exact ct_zsub [2, 3, 1, 0] rfl (zl_J7_fill_53178_5 C a0 a1 v1 200 (0, h))
def f_J13_bitCount_95d88 (G : ct_G) (h : ct_H) (a0 : Int64) : Option (Int) := ct_lt (a0 - ((((a0).toUInt64 >>> ((Int32.ofInt 1).toInt64.toUInt64 &&& Int64.toUInt64 63)).toInt64) &&& (6148914691236517205 : Int64))) fun v1 => ct_lt ((v1 &&& (3689348814741910323 : Int64)) + ((((v1).toUInt64 >>> ((Int32.ofInt 2).toInt64.toUInt64 &&& Int64.toUInt64 63)).toInt64) &&& (3689348814741910323 : Int64))) fun v2 => ct_lt ((v2 + (((v2).toUInt64 >>> ((Int32.ofInt 4).toInt64.toUInt64 &&& Int64.toUInt64 63)).toInt64)) &&& (1085102592571150095 : Int64)) fun v3 => ct_lt (v3 + (((v3).toUInt64 >>> ((Int32.ofInt 8).toInt64.toUInt64 &&& Int64.toUInt64 63)).toInt64)) fun v4 => ct_lt (v4 + (((v4).toUInt64 >>> ((Int32.ofInt 16).toInt64.toUInt64 &&& Int64.toUInt64 63)).toInt64)) fun v5 => ct_lt (v5 + (((v5).toUInt64 >>> ((Int32.ofInt 32).toInt64.toUInt64 &&& Int64.toUInt64 63)).toInt64)) fun v6 => some (ct_bop (fun x y => x &&& y) ((v6).toInt32.toInt) 127)
set_option maxRecDepth 100000 in
theorem e_J13_bitCount_95d88 {d : Nat} {G : ct_G} {h : ct_H} (a0 : Int64) : ct_E m_J13_bitCount_95d88 d G (ct_args 0 [.inr (.inl a0)]) h (fun r : Int => (some (.inl r : ct_PV), h)) (f_J13_bitCount_95d88 G h a0) := by
  intro x C
  unfold f_J13_bitCount_95d88
  show ct_Z x m_J13_bitCount_95d88 G 0 [(0, .inr (.inl a0))] [] h (fun a => ct_q x G ((fun r : Int => (some (.inl r : ct_PV), h)) a)) _
  refine ct_zrun C (k' := 4) (y := ([(0, .inr (.inl a0))], [.inr (.inl (((a0).toUInt64 >>> ((Int32.ofInt 1).toInt64.toUInt64 &&& Int64.toUInt64 63)).toInt64)), .inr (.inl a0)], h)) 4 rfl rfl rfl ?_
  refine ct_zldc2 C (pc := 4) (aux := 0) (v := 6148914691236517205) lc_J13_314 rfl rfl ?_
  refine ct_zrun C (k' := 8) (y := ([(0, .inr (.inl (a0 - ((((a0).toUInt64 >>> ((Int32.ofInt 1).toInt64.toUInt64 &&& Int64.toUInt64 63)).toInt64) &&& (6148914691236517205 : Int64)))))], [], h)) 3 rfl rfl rfl ?_
  refine ct_zlet (L := fun v1 => [(0, .inr (.inl v1))]) (S := fun _ => []) (Hh := fun _ => h) (a := (a0 - ((((a0).toUInt64 >>> ((Int32.ofInt 1).toInt64.toUInt64 &&& Int64.toUInt64 63)).toInt64) &&& (6148914691236517205 : Int64)))) (fun v1 => ?_)
  refine ct_zrun C (k' := 9) (y := ([(0, .inr (.inl v1))], [.inr (.inl v1)], h)) 1 rfl rfl rfl ?_
  refine ct_zldc2 C (pc := 11) (aux := 0) (v := 3689348814741910323) lc_J13_316 rfl rfl ?_
  refine ct_zrun C (k' := 14) (y := ([(0, .inr (.inl v1))], [.inr (.inl (((v1).toUInt64 >>> ((Int32.ofInt 2).toInt64.toUInt64 &&& Int64.toUInt64 63)).toInt64)), .inr (.inl (v1 &&& (3689348814741910323 : Int64)))], h)) 4 rfl rfl rfl ?_
  refine ct_zldc2 C (pc := 18) (aux := 0) (v := 3689348814741910323) lc_J13_316 rfl rfl ?_
  refine ct_zrun C (k' := 18) (y := ([(0, .inr (.inl ((v1 &&& (3689348814741910323 : Int64)) + ((((v1).toUInt64 >>> ((Int32.ofInt 2).toInt64.toUInt64 &&& Int64.toUInt64 63)).toInt64) &&& (3689348814741910323 : Int64)))))], [], h)) 3 rfl rfl rfl ?_
  refine ct_zlet (L := fun v2 => [(0, .inr (.inl v2))]) (S := fun _ => []) (Hh := fun _ => h) (a := ((v1 &&& (3689348814741910323 : Int64)) + ((((v1).toUInt64 >>> ((Int32.ofInt 2).toInt64.toUInt64 &&& Int64.toUInt64 63)).toInt64) &&& (3689348814741910323 : Int64)))) (fun v2 => ?_)
  refine ct_zrun C (k' := 23) (y := ([(0, .inr (.inl v2))], [.inr (.inl (v2 + (((v2).toUInt64 >>> ((Int32.ofInt 4).toInt64.toUInt64 &&& Int64.toUInt64 63)).toInt64)))], h)) 5 rfl rfl rfl ?_
  refine ct_zldc2 C (pc := 29) (aux := 0) (v := 1085102592571150095) lc_J13_318 rfl rfl ?_
  refine ct_zrun C (k' := 26) (y := ([(0, .inr (.inl ((v2 + (((v2).toUInt64 >>> ((Int32.ofInt 4).toInt64.toUInt64 &&& Int64.toUInt64 63)).toInt64)) &&& (1085102592571150095 : Int64))))], [], h)) 2 rfl rfl rfl ?_
  refine ct_zlet (L := fun v3 => [(0, .inr (.inl v3))]) (S := fun _ => []) (Hh := fun _ => h) (a := ((v2 + (((v2).toUInt64 >>> ((Int32.ofInt 4).toInt64.toUInt64 &&& Int64.toUInt64 63)).toInt64)) &&& (1085102592571150095 : Int64))) (fun v3 => ?_)
  refine ct_zrun C (k' := 32) (y := ([(0, .inr (.inl (v3 + (((v3).toUInt64 >>> ((Int32.ofInt 8).toInt64.toUInt64 &&& Int64.toUInt64 63)).toInt64))))], [], h)) 6 rfl rfl rfl ?_
  refine ct_zlet (L := fun v4 => [(0, .inr (.inl v4))]) (S := fun _ => []) (Hh := fun _ => h) (a := (v3 + (((v3).toUInt64 >>> ((Int32.ofInt 8).toInt64.toUInt64 &&& Int64.toUInt64 63)).toInt64))) (fun v4 => ?_)
  refine ct_zrun C (k' := 38) (y := ([(0, .inr (.inl (v4 + (((v4).toUInt64 >>> ((Int32.ofInt 16).toInt64.toUInt64 &&& Int64.toUInt64 63)).toInt64))))], [], h)) 6 rfl rfl rfl ?_
  refine ct_zlet (L := fun v5 => [(0, .inr (.inl v5))]) (S := fun _ => []) (Hh := fun _ => h) (a := (v4 + (((v4).toUInt64 >>> ((Int32.ofInt 16).toInt64.toUInt64 &&& Int64.toUInt64 63)).toInt64))) (fun v5 => ?_)
  refine ct_zrun C (k' := 44) (y := ([(0, .inr (.inl (v5 + (((v5).toUInt64 >>> ((Int32.ofInt 32).toInt64.toUInt64 &&& Int64.toUInt64 63)).toInt64))))], [], h)) 6 rfl rfl rfl ?_
  refine ct_zlet (L := fun v6 => [(0, .inr (.inl v6))]) (S := fun _ => []) (Hh := fun _ => h) (a := (v5 + (((v5).toUInt64 >>> ((Int32.ofInt 32).toInt64.toUInt64 &&& Int64.toUInt64 63)).toInt64))) (fun v6 => ?_)
  refine ct_zrun C (k' := 48) (y := ([(0, .inr (.inl v6))], [.inl (ct_bop (fun x y => x &&& y) ((v6).toInt32.toInt) 127)], h)) 4 rfl rfl rfl ?_
  exact ct_zret C (pc := 60) (aux := 0) (ins := .ireturn) (ρ := (fun r : Int => (some (.inl r : ct_PV), h))) (some (.inl (ct_bop (fun x y => x &&& y) ((v6).toInt32.toInt) 127))) rfl rfl rfl ⟨rfl, Or.inl rfl⟩
def l_J7_fill_d0a16_5 (G : ct_G) (a0 : Nat) (a1 : Int64) (v1 : Int) : Nat → (Int × ct_H) → Option (ct_H)
  | 0, _ => none
  | n3 + 1, b2 => if v1 ≤ b2.1 then (some (b2.2)) else (ct_wtL G b2.2 a0 b2.1 a1).bind fun h4 => l_J7_fill_d0a16_5 G a0 a1 v1 n3 ((ct_wr (b2.1 + 1)), h4)
set_option maxRecDepth 100000 in
theorem zl_J7_fill_d0a16_5 {x : ct_Ctx} {d : Nat} {G : ct_G} (C : ct_c x m_J7_fill_d0a16 G d) (a0 : Nat) (a1 : Int64) (v1 : Int) : ∀ (n3 : Nat) (b2 : Int × ct_H), ct_Z x m_J7_fill_d0a16 G 5 [(0, .inr (.inr (11, a0))), (1, .inr (.inl a1)), (3, .inl (b2.1)), (4, .inl v1)] [] b2.2 (fun a => ct_q x G ((fun r : ct_H => ((none : Option ct_PV), r)) a)) (l_J7_fill_d0a16_5 G a0 a1 v1 n3 b2) := by
  intro n3
  induction n3 with
  | zero => intro b2; exact ct_znone
  | succ n3 ih =>
    intro b2
    rw [l_J7_fill_d0a16_5]
    refine ct_zrun C (k' := 7) (y := ([(0, .inr (.inr (11, a0))), (1, .inr (.inl a1)), (3, .inl (b2.1)), (4, .inl v1)], [.inl v1, .inl (b2.1)], b2.2)) 2 rfl rfl rfl ?_
    refine ct_zt C (pc := 9) (aux := 0) (cn := .ge) (off := 13) (k' := 14) (a := b2.1) (b := v1) Iff.rfl rfl rfl rfl (fun e5 => ?_) (fun e5 => ?_)
    · exact ct_zret C (pc := 22) (aux := 0) (ins := .return_) (ρ := (fun r : ct_H => ((none : Option ct_PV), r))) none rfl rfl rfl ⟨rfl, rfl⟩
    · refine ct_zrun C (k' := 11) (y := ([(0, .inr (.inr (11, a0))), (1, .inr (.inl a1)), (3, .inl (b2.1)), (4, .inl v1)], [.inr (.inl a1), .inl (b2.1), .inr (.inr (11, a0))], b2.2)) 3 rfl rfl rfl ?_
      refine ct_zwtL C (pc := 15) (aux := 0) rfl rfl (fun h4 => ?_)
      refine ct_zrun C (k' := 13) (y := ([(3, .inl (ct_wr (b2.1 + 1))), (0, .inr (.inr (11, a0))), (1, .inr (.inl a1)), (4, .inl v1)], [], h4)) 1 rfl rfl rfl ?_
      refine ct_zgoto C (pc := 19) (aux := 0) (off := (-13)) (k' := 5) rfl rfl ?_
      exact ct_zsub [1, 2, 0, 3] rfl (ih ((ct_wr (b2.1 + 1)), h4))
def f_J7_fill_d0a16 (G : ct_G) (h : ct_H) (a0 : Nat) (a1 : Int64) : Option (ct_H) := ct_lt ((G.2 a0 : Nat) : Int) fun v1 => l_J7_fill_d0a16_5 G a0 a1 v1 200 (0, h)
set_option maxRecDepth 100000 in
theorem e_J7_fill_d0a16 {d : Nat} {G : ct_G} {h : ct_H} (a0 : Nat) (a1 : Int64) : ct_E m_J7_fill_d0a16 d G (ct_args 0 [.inr (.inr (11, a0)), .inr (.inl a1)]) h (fun r : ct_H => ((none : Option ct_PV), r)) (f_J7_fill_d0a16 G h a0 a1) := by
  intro x C
  unfold f_J7_fill_d0a16
  show ct_Z x m_J7_fill_d0a16 G 0 [(0, .inr (.inr (11, a0))), (1, .inr (.inl a1))] [] h (fun a => ct_q x G ((fun r : ct_H => ((none : Option ct_PV), r)) a)) _
  refine ct_zrun C (k' := 5) (y := ([(4, .inl ((G.2 a0 : Nat) : Int)), (3, .inl 0), (0, .inr (.inr (11, a0))), (1, .inr (.inl a1))], [], h)) 5 rfl rfl rfl ?_
  refine ct_zlet (L := fun v1 => [(4, .inl v1), (3, .inl 0), (0, .inr (.inr (11, a0))), (1, .inr (.inl a1))]) (S := fun _ => []) (Hh := fun _ => h) (a := ((G.2 a0 : Nat) : Int)) (fun v1 => ?_)
  exact ct_zsub [2, 3, 1, 0] rfl (zl_J7_fill_d0a16_5 C a0 a1 v1 200 (0, h))
