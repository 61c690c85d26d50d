set_option maxRecDepth 100000 in
theorem lk_X0_61 : ct_LkV RX0 61 m_X0_placeOf 1 := ct_LkV_of 120 121 122 (by decide +kernel) (by decide +kernel) (by decide +kernel) (by decide +kernel)
set_option maxRecDepth 100000 in
theorem lk_X0_38 : ct_LkS RX0 38 m_J7_fill_53178 2 := ct_LkS_of 109 110 (by decide +kernel) (by decide +kernel) (by decide +kernel)
set_option maxRecDepth 100000 in
theorem lk_X0_44 : ct_LkV RX0 44 m_X0_points 0 := ct_LkV_of 112 113 114 (by decide +kernel) (by decide +kernel) (by decide +kernel) (by decide +kernel)
set_option maxRecDepth 100000 in
theorem lk_X0_48 : ct_LkV RX0 48 m_X0_putHeight 2 := ct_LkV_of 116 117 118 (by decide +kernel) (by decide +kernel) (by decide +kernel) (by decide +kernel)
set_option maxRecDepth 100000 in
theorem lk_X0_22 : ct_LkV RX0 22 m_X0_layOut 2 := ct_LkV_of 105 106 107 (by decide +kernel) (by decide +kernel) (by decide +kernel) (by decide +kernel)
theorem lk_X0_51 : Cond.methodLink RX0 51 arraycopyName ∈ ct_GW := ct_GW_of 901 (by decide +kernel) (by decide +kernel)
theorem ct_gsys : Cond.initialized "java/lang/System" ∈ ct_GW := ct_GW_of 90 (by decide +kernel) (by decide +kernel)
set_option maxRecDepth 100000 in
theorem lk_X0_57 : ct_LkV RX0 57 m_X0_putKind 1 := ct_LkV_of 904 387 388 (by decide +kernel) (by decide +kernel) (by decide +kernel) (by decide +kernel)
theorem lk_X0_65 : Cond.methodLink RX0 65 Lib.Math.max.name ∈ ct_GW := ct_GW_of 525 (by decide +kernel) (by decide +kernel)
set_option maxRecDepth 100000 in
theorem lk_X0_71 : ct_LkV RX0 71 m_X0_heightOf 1 := ct_LkV_of 524 375 376 (by decide +kernel) (by decide +kernel) (by decide +kernel) (by decide +kernel)
set_option maxRecDepth 100000 in
theorem lk_X0_74 : ct_LkV RX0 74 m_X0_isPoint 1 := ct_LkV_of 516 368 369 (by decide +kernel) (by decide +kernel) (by decide +kernel) (by decide +kernel)
theorem lk_X0_78 : Cond.methodLink RX0 78 Lib.Math.abs.name ∈ ct_GW := ct_GW_of 521 (by decide +kernel) (by decide +kernel)
set_option maxRecDepth 100000 in
theorem lk_X0_81 : ct_LkV RX0 81 m_X0_caseOf 2 := ct_LkV_of 681 595 596 (by decide +kernel) (by decide +kernel) (by decide +kernel) (by decide +kernel)
set_option maxRecDepth 100000 in
theorem lk_X0_84 : ct_LkS RX0 84 m_X0_isSaddle 1 := ct_LkS_of 682 599 (by decide +kernel) (by decide +kernel) (by decide +kernel)
set_option maxRecDepth 100000 in
theorem lk_X0_87 : ct_LkV RX0 87 m_X0_isJoined 2 := ct_LkV_of 683 602 603 (by decide +kernel) (by decide +kernel) (by decide +kernel) (by decide +kernel)
set_option maxRecDepth 100000 in
theorem lk_X0_91 : ct_LkV RX0 91 m_X0_cornerOf 1 := ct_LkV_of 696 697 698 (by decide +kernel) (by decide +kernel) (by decide +kernel) (by decide +kernel)
def f_X0_isSize (G : ct_G) (h : ct_H) (a0 : Int) : Option (Int) := if a0 < 2 then (some 0) else if 7 < a0 then (some 0) else some 1
set_option maxRecDepth 100000 in
theorem e_X0_isSize {d : Nat} {G : ct_G} {h : ct_H} (a0 : Int) : ct_E m_X0_isSize d G (ct_args 0 [.inl a0]) h (fun r : Int => (some (.inl r : ct_PV), h)) (f_X0_isSize G h a0) := by
  intro x C
  unfold f_X0_isSize
  show ct_Z x m_X0_isSize G 0 [(0, .inl a0)] [] h (fun a => ct_q x G ((fun r : Int => (some (.inl r : ct_PV), h)) a)) _
  refine ct_zrun C (k' := 2) (y := ([(0, .inl a0)], [.inl 2, .inl a0], h)) 2 rfl rfl rfl ?_
  refine ct_zt C (pc := 2) (aux := 0) (cn := .lt) (off := 13) (k' := 8) (a := a0) (b := 2) Iff.rfl rfl rfl rfl (fun e2 => ?_) (fun e2 => ?_)
  · refine ct_zrun C (k' := 9) (y := ([(0, .inl a0)], [.inl 0], h)) 1 rfl rfl rfl ?_
    exact ct_zret C (pc := 16) (aux := 0) (ins := .ireturn) (ρ := (fun r : Int => (some (.inl r : ct_PV), h))) (some (.inl 0)) rfl rfl rfl ⟨rfl, Or.inr ⟨rfl, Or.inl rfl⟩⟩
  · refine ct_zrun C (k' := 5) (y := ([(0, .inl a0)], [.inl 7, .inl a0], h)) 2 rfl rfl rfl ?_
    refine ct_zt C (pc := 8) (aux := 0) (cn := .gt) (off := 7) (k' := 8) (a := a0) (b := 7) Iff.rfl rfl rfl rfl (fun e1 => ?_) (fun e1 => ?_)
    · refine ct_zrun C (k' := 9) (y := ([(0, .inl a0)], [.inl 0], h)) 1 rfl rfl rfl ?_
      exact ct_zret C (pc := 16) (aux := 0) (ins := .ireturn) (ρ := (fun r : Int => (some (.inl r : ct_PV), h))) (some (.inl 0)) rfl rfl rfl ⟨rfl, Or.inr ⟨rfl, Or.inl rfl⟩⟩
    · refine ct_zrun C (k' := 7) (y := ([(0, .inl a0)], [.inl 1], h)) 1 rfl rfl rfl ?_
      refine ct_zgoto C (pc := 12) (aux := 0) (off := 4) (k' := 9) rfl rfl ?_
      exact ct_zret C (pc := 16) (aux := 0) (ins := .ireturn) (ρ := (fun r : Int => (some (.inl r : ct_PV), h))) (some (.inl 1)) rfl rfl rfl ⟨rfl, Or.inr ⟨rfl, Or.inr rfl⟩⟩
def f_X0_points (G : ct_G) (h : ct_H) (o : Nat) : Option (Int) := some (ct_wr ((h.1 o 1) * (h.1 o 2)))
set_option maxRecDepth 100000 in
theorem e_X0_points {d : Nat} {G : ct_G} {h : ct_H} (o : Nat) : ct_E m_X0_points d G (ct_args 0 [.inr (.inr (0, o))]) h (fun r : Int => (some (.inl r : ct_PV), h)) (f_X0_points G h o) := by
  intro x C
  unfold f_X0_points
  show ct_Z x m_X0_points G 0 [(0, .inr (.inr (0, o)))] [] h (fun a => ct_q x G ((fun r : Int => (some (.inl r : ct_PV), h)) a)) _
  refine ct_zrun C (k' := 5) (y := ([(0, .inr (.inr (0, o)))], [.inl (ct_wr ((h.1 o 1) * (h.1 o 2)))], h)) 5 rfl rfl rfl ?_
  exact ct_zret C (pc := 9) (aux := 0) (ins := .ireturn) (ρ := (fun r : Int => (some (.inl r : ct_PV), h))) (some (.inl (ct_wr ((h.1 o 1) * (h.1 o 2))))) rfl rfl rfl ⟨rfl, Or.inl rfl⟩
def f_X0_placeOf (G : ct_G) (h : ct_H) (o : Nat) (a1 : Int) : Option (Int) := (ct_dv a1 (h.1 o 2)).bind fun v1 => (ct_md a1 (h.1 o 2)).bind fun v2 => some (ct_wr ((ct_wr ((ct_wr ((h.1 o 3) * (ct_wr (v1 + 1)))) + v2)) + 1))
set_option maxRecDepth 100000 in
theorem e_X0_placeOf {d : Nat} {G : ct_G} {h : ct_H} (o : Nat) (a1 : Int) : ct_E m_X0_placeOf d G (ct_args 0 [.inr (.inr (0, o)), .inl a1]) h (fun r : Int => (some (.inl r : ct_PV), h)) (f_X0_placeOf G h o a1) := by
  intro x C
  unfold f_X0_placeOf
  show ct_Z x m_X0_placeOf G 0 [(0, .inr (.inr (0, o))), (1, .inl a1)] [] h (fun a => ct_q x G ((fun r : Int => (some (.inl r : ct_PV), h)) a)) _
  refine ct_zrun C (k' := 5) (y := ([(0, .inr (.inr (0, o))), (1, .inl a1)], [.inl (h.1 o 2), .inl a1, .inl (h.1 o 3)], h)) 5 rfl rfl rfl ?_
  refine ct_zdv C (pc := 9) (aux := 0) rfl rfl (fun v1 => ?_)
  refine ct_zrun C (k' := 12) (y := ([(0, .inr (.inr (0, o))), (1, .inl a1)], [.inl (h.1 o 2), .inl a1, .inl (ct_wr ((h.1 o 3) * (ct_wr (v1 + 1))))], h)) 6 rfl rfl rfl ?_
  refine ct_zmd C (pc := 18) (aux := 0) rfl rfl (fun v2 => ?_)
  refine ct_zrun C (k' := 16) (y := ([(0, .inr (.inr (0, o))), (1, .inl a1)], [.inl (ct_wr ((ct_wr ((ct_wr ((h.1 o 3) * (ct_wr (v1 + 1)))) + v2)) + 1))], h)) 3 rfl rfl rfl ?_
  exact ct_zret C (pc := 22) (aux := 0) (ins := .ireturn) (ρ := (fun r : Int => (some (.inl r : ct_PV), h))) (some (.inl (ct_wr ((ct_wr ((ct_wr ((h.1 o 3) * (ct_wr (v1 + 1)))) + v2)) + 1)))) rfl rfl rfl ⟨rfl, Or.inl rfl⟩
def f_X0_putHeight (G : ct_G) (h : ct_H) (o : Nat) (a1 : Int) (a2 : Int) : Option (ct_H) := (f_X0_placeOf G h o a1).bind fun v1 => (ct_wt G h (G.1 o 0) v1 a2).bind fun h2 => ct_lt (ct_wF h2 o 6 (ct_wr ((h2.1 o 6) + 1))) fun h3 => some h3
set_option maxRecDepth 100000 in
theorem e_X0_putHeight {d : Nat} {G : ct_G} {h : ct_H} (o : Nat) (a1 : Int) (a2 : Int) : ct_E m_X0_putHeight (d + 1) G (ct_args 0 [.inr (.inr (0, o)), .inl a1, .inl a2]) h (fun r : ct_H => ((none : Option ct_PV), r)) (f_X0_putHeight G h o a1 a2) := by
  intro x C
  unfold f_X0_putHeight
  show ct_Z x m_X0_putHeight G 0 [(0, .inr (.inr (0, o))), (1, .inl a1), (2, .inl a2)] [] h (fun a => ct_q x G ((fun r : ct_H => ((none : Option ct_PV), r)) a)) _
  refine ct_zrun C (k' := 4) (y := ([(0, .inr (.inr (0, o))), (1, .inl a1), (2, .inl a2)], [.inl a1, .inr (.inr (0, o)), .inr (.inr (8, (G.1 o 0)))], h)) 4 rfl rfl rfl ?_
  refine ct_zV C (pc := 6) (aux := 0) [.inl a1] [.inr (.inr (8, (G.1 o 0)))] ok_X0_placeOf lk_X0_61 (e_X0_placeOf o a1) rfl rfl rfl rfl rfl rfl rfl rfl (fun v1 => ?_)
  refine ct_zrun C (k' := 6) (y := ([(0, .inr (.inr (0, o))), (1, .inl a1), (2, .inl a2)], [.inl a2, .inl v1, .inr (.inr (8, (G.1 o 0)))], h)) 1 rfl rfl rfl ?_
  refine ct_zwt C (pc := 10) (aux := 0) rfl rfl (fun h2 => ?_)
  refine ct_zrun C (k' := 13) (y := ([(0, .inr (.inr (0, o))), (1, .inl a1), (2, .inl a2)], [], (ct_wF h2 o 6 (ct_wr ((h2.1 o 6) + 1))))) 6 rfl rfl rfl ?_
  refine ct_zlet (L := fun _ => [(0, .inr (.inr (0, o))), (1, .inl a1), (2, .inl a2)]) (S := fun _ => []) (Hh := fun h3 => h3) (a := (ct_wF h2 o 6 (ct_wr ((h2.1 o 6) + 1)))) (fun h3 => ?_)
  exact ct_zret C (pc := 21) (aux := 0) (ins := .return_) (ρ := (fun r : ct_H => ((none : Option ct_PV), r))) none rfl rfl rfl ⟨rfl, rfl⟩
def l_X0_layOut_28 (G : ct_G) (o : Nat) (v6 : Int) : Nat → (Int × ct_H) → Option (ct_H)
  | 0, _ => none
  | n8 + 1, b7 => if v6 ≤ b7.1 then (some (b7.2)) else (f_X0_putHeight G b7.2 o b7.1 0).bind fun r9 => l_X0_layOut_28 G o v6 n8 ((ct_wr (b7.1 + 1)), r9)
set_option maxRecDepth 100000 in
theorem zl_X0_layOut_28 {x : ct_Ctx} {d : Nat} {G : ct_G} (C : ct_c x m_X0_layOut G (d + 2)) (o : Nat) (v6 : Int) : ∀ (n8 : Nat) (b7 : Int × ct_H), ct_Z x m_X0_layOut G 28 [(0, .inr (.inr (0, o))), (3, .inl v6), (4, .inl (b7.1))] [] b7.2 (fun a => ct_q x G ((fun r : ct_H => ((none : Option ct_PV), r)) a)) (l_X0_layOut_28 G o v6 n8 b7) := by
  intro n8
  induction n8 with
  | zero => intro b7; exact ct_znone
  | succ n8 ih =>
    intro b7
    rw [l_X0_layOut_28]
    refine ct_zrun C (k' := 30) (y := ([(0, .inr (.inr (0, o))), (3, .inl v6), (4, .inl (b7.1))], [.inl v6, .inl (b7.1)], b7.2)) 2 rfl rfl rfl ?_
    refine ct_zt C (pc := 48) (aux := 0) (cn := .ge) (off := 16) (k' := 37) (a := b7.1) (b := v6) Iff.rfl rfl rfl rfl (fun e10 => ?_) (fun e10 => ?_)
    · exact ct_zret C (pc := 64) (aux := 0) (ins := .return_) (ρ := (fun r : ct_H => ((none : Option ct_PV), r))) none rfl rfl rfl ⟨rfl, rfl⟩
    · refine ct_zrun C (k' := 34) (y := ([(0, .inr (.inr (0, o))), (3, .inl v6), (4, .inl (b7.1))], [.inl 0, .inl (b7.1), .inr (.inr (0, o))], b7.2)) 3 rfl rfl rfl ?_
      refine ct_zV C (pc := 55) (aux := 0) [.inl (b7.1), .inl 0] [] ok_X0_putHeight lk_X0_48 (e_X0_putHeight o (b7.1) 0) rfl rfl rfl rfl rfl rfl rfl rfl (fun r9 => ?_)
      refine ct_zrun C (k' := 36) (y := ([(4, .inl (ct_wr (b7.1 + 1))), (0, .inr (.inr (0, o))), (3, .inl v6)], [], r9)) 1 rfl rfl rfl ?_
      refine ct_zgoto C (pc := 61) (aux := 0) (off := (-16)) (k' := 28) rfl rfl ?_
      exact ct_zsub [1, 2, 0] rfl (ih ((ct_wr (b7.1 + 1)), r9))
def f_X0_layOut (G : ct_G) (h : ct_H) (o : Nat) (a1 : Int) (a2 : Int) : Option (ct_H) := ct_lt (ct_wF h o 1 a1) fun h1 => ct_lt (ct_wF h1 o 2 a2) fun h2 => ct_lt (ct_wF h2 o 3 (ct_wr (a2 + 2))) fun h3 => ct_lt (ct_wF h3 o 4 (ct_wr ((ct_wr (a1 + 2)) * (h3.1 o 3)))) fun h4 => (f_J7_fill_53178 G h4 (G.1 o 0) (-1)).bind fun r5 => (f_X0_points G r5 o).bind fun v6 => l_X0_layOut_28 G o v6 200 (0, r5)
set_option maxRecDepth 100000 in
theorem e_X0_layOut {d : Nat} {G : ct_G} {h : ct_H} (o : Nat) (a1 : Int) (a2 : Int) : ct_E m_X0_layOut (d + 2) G (ct_args 0 [.inr (.inr (0, o)), .inl a1, .inl a2]) h (fun r : ct_H => ((none : Option ct_PV), r)) (f_X0_layOut G h o a1 a2) := by
  intro x C
  unfold f_X0_layOut
  show ct_Z x m_X0_layOut G 0 [(0, .inr (.inr (0, o))), (1, .inl a1), (2, .inl a2)] [] h (fun a => ct_q x G ((fun r : ct_H => ((none : Option ct_PV), r)) a)) _
  refine ct_zrun C (k' := 3) (y := ([(0, .inr (.inr (0, o))), (1, .inl a1), (2, .inl a2)], [], (ct_wF h o 1 a1))) 3 rfl rfl rfl ?_
  refine ct_zlet (L := fun _ => [(0, .inr (.inr (0, o))), (1, .inl a1), (2, .inl a2)]) (S := fun _ => []) (Hh := fun h1 => h1) (a := (ct_wF h o 1 a1)) (fun h1 => ?_)
  refine ct_zrun C (k' := 6) (y := ([(0, .inr (.inr (0, o))), (1, .inl a1), (2, .inl a2)], [], (ct_wF h1 o 2 a2))) 3 rfl rfl rfl ?_
  refine ct_zlet (L := fun _ => [(0, .inr (.inr (0, o))), (1, .inl a1), (2, .inl a2)]) (S := fun _ => []) (Hh := fun h2 => h2) (a := (ct_wF h1 o 2 a2)) (fun h2 => ?_)
  refine ct_zrun C (k' := 11) (y := ([(0, .inr (.inr (0, o))), (1, .inl a1), (2, .inl a2)], [], (ct_wF h2 o 3 (ct_wr (a2 + 2))))) 5 rfl rfl rfl ?_
  refine ct_zlet (L := fun _ => [(0, .inr (.inr (0, o))), (1, .inl a1), (2, .inl a2)]) (S := fun _ => []) (Hh := fun h3 => h3) (a := (ct_wF h2 o 3 (ct_wr (a2 + 2)))) (fun h3 => ?_)
  refine ct_zrun C (k' := 19) (y := ([(0, .inr (.inr (0, o))), (1, .inl a1), (2, .inl a2)], [], (ct_wF h3 o 4 (ct_wr ((ct_wr (a1 + 2)) * (h3.1 o 3)))))) 8 rfl rfl rfl ?_
  refine ct_zlet (L := fun _ => [(0, .inr (.inr (0, o))), (1, .inl a1), (2, .inl a2)]) (S := fun _ => []) (Hh := fun h4 => h4) (a := (ct_wF h3 o 4 (ct_wr ((ct_wr (a1 + 2)) * (h3.1 o 3))))) (fun h4 => ?_)
  refine ct_zrun C (k' := 22) (y := ([(0, .inr (.inr (0, o))), (1, .inl a1), (2, .inl a2)], [.inl (-1), .inr (.inr (8, (G.1 o 0)))], h4)) 3 rfl rfl rfl ?_
  refine ct_zS C (pc := 34) (aux := 0) [.inr (.inr (8, (G.1 o 0))), .inl (-1)] [] ok_J7_fill_53178 lk_X0_38 (e_J7_fill_53178 (G.1 o 0) (-1)) rfl rfl rfl rfl rfl rfl (fun r5 => ?_)
  refine ct_zrun C (k' := 24) (y := ([(0, .inr (.inr (0, o))), (1, .inl a1), (2, .inl a2)], [.inr (.inr (0, o))], r5)) 1 rfl rfl rfl ?_
  refine ct_zV C (pc := 38) (aux := 0) [] [] ok_X0_points lk_X0_44 (e_X0_points o) rfl rfl rfl rfl rfl rfl rfl rfl (fun v6 => ?_)
  refine ct_zrun C (k' := 28) (y := ([(4, .inl 0), (3, .inl v6), (0, .inr (.inr (0, o))), (1, .inl a1), (2, .inl a2)], [], r5)) 3 rfl rfl rfl ?_
  exact ct_zsub [2, 1, 0] rfl (zl_X0_layOut_28 C o v6 200 (0, r5))
def f_X0_putKind (G : ct_G) (h : ct_H) (o : Nat) (a1 : Int) : Option (ct_H) := ct_lt (ct_wF h o 5 a1) fun h1 => ct_lt (ct_wF h1 o 6 (ct_wr ((h1.1 o 6) + 1))) fun h2 => some h2
set_option maxRecDepth 100000 in
theorem e_X0_putKind {d : Nat} {G : ct_G} {h : ct_H} (o : Nat) (a1 : Int) : ct_E m_X0_putKind d G (ct_args 0 [.inr (.inr (0, o)), .inl a1]) h (fun r : ct_H => ((none : Option ct_PV), r)) (f_X0_putKind G h o a1) := by
  intro x C
  unfold f_X0_putKind
  show ct_Z x m_X0_putKind G 0 [(0, .inr (.inr (0, o))), (1, .inl a1)] [] h (fun a => ct_q x G ((fun r : ct_H => ((none : Option ct_PV), r)) a)) _
  refine ct_zrun C (k' := 3) (y := ([(0, .inr (.inr (0, o))), (1, .inl a1)], [], (ct_wF h o 5 a1))) 3 rfl rfl rfl ?_
  refine ct_zlet (L := fun _ => [(0, .inr (.inr (0, o))), (1, .inl a1)]) (S := fun _ => []) (Hh := fun h1 => h1) (a := (ct_wF h o 5 a1)) (fun h1 => ?_)
  refine ct_zrun C (k' := 9) (y := ([(0, .inr (.inr (0, o))), (1, .inl a1)], [], (ct_wF h1 o 6 (ct_wr ((h1.1 o 6) + 1))))) 6 rfl rfl rfl ?_
  refine ct_zlet (L := fun _ => [(0, .inr (.inr (0, o))), (1, .inl a1)]) (S := fun _ => []) (Hh := fun h2 => h2) (a := (ct_wF h1 o 6 (ct_wr ((h1.1 o 6) + 1)))) (fun h2 => ?_)
  exact ct_zret C (pc := 15) (aux := 0) (ins := .return_) (ρ := (fun r : ct_H => ((none : Option ct_PV), r))) none rfl rfl rfl ⟨rfl, rfl⟩
def f_X0_copyFrom (G : ct_G) (h : ct_H) (o : Nat) (a1 : Nat) : Option (ct_H) := (f_X0_layOut G h o (h.1 a1 1) (h.1 a1 2)).bind fun r1 => (ct_cpI G r1 (G.1 a1 0) 0 (G.1 o 0) 0 81).bind fun h2 => (f_X0_putKind G h2 o (h2.1 a1 5)).bind fun r3 => some r3
set_option maxRecDepth 100000 in
theorem e_X0_copyFrom {d : Nat} {G : ct_G} {h : ct_H} (o : Nat) (a1 : Nat) : ct_E m_X0_copyFrom (d + 3) G (ct_args 0 [.inr (.inr (0, o)), .inr (.inr (0, a1))]) h (fun r : ct_H => ((none : Option ct_PV), r)) (f_X0_copyFrom G h o a1) := by
  intro x C
  unfold f_X0_copyFrom
  show ct_Z x m_X0_copyFrom G 0 [(0, .inr (.inr (0, o))), (1, .inr (.inr (0, a1)))] [] h (fun a => ct_q x G ((fun r : ct_H => ((none : Option ct_PV), r)) a)) _
  refine ct_zrun C (k' := 5) (y := ([(0, .inr (.inr (0, o))), (1, .inr (.inr (0, a1)))], [.inl (h.1 a1 2), .inl (h.1 a1 1), .inr (.inr (0, o))], h)) 5 rfl rfl rfl ?_
  refine ct_zV C (pc := 9) (aux := 0) [.inl (h.1 a1 1), .inl (h.1 a1 2)] [] ok_X0_layOut lk_X0_22 (e_X0_layOut o (h.1 a1 1) (h.1 a1 2)) rfl rfl rfl rfl rfl rfl rfl rfl (fun r1 => ?_)
  refine ct_zrun C (k' := 13) (y := ([(0, .inr (.inr (0, o))), (1, .inr (.inr (0, a1)))], [.inl 81, .inl 0, .inr (.inr (8, (G.1 o 0))), .inl 0, .inr (.inr (8, (G.1 a1 0)))], r1)) 7 rfl rfl rfl ?_
  refine ct_zcopy C (pc := 24) (aux := 0) lk_X0_51 ct_gsys rfl rfl rfl (fun h2 => ?_)
  refine ct_zrun C (k' := 17) (y := ([(0, .inr (.inr (0, o))), (1, .inr (.inr (0, a1)))], [.inl (h2.1 a1 5), .inr (.inr (0, o))], h2)) 3 rfl rfl rfl ?_
  refine ct_zV C (pc := 32) (aux := 0) [.inl (h2.1 a1 5)] [] ok_X0_putKind lk_X0_57 (e_X0_putKind o (h2.1 a1 5)) rfl rfl rfl rfl rfl rfl rfl rfl (fun r3 => ?_)
  exact ct_zret C (pc := 35) (aux := 0) (ins := .return_) (ρ := (fun r : ct_H => ((none : Option ct_PV), r))) none rfl rfl rfl ⟨rfl, rfl⟩
def f_X0_isPoint (G : ct_G) (h : ct_H) (o : Nat) (a1 : Int) : Option (Int) := if a1 < 0 then (some 0) else (f_X0_points G h o).bind fun v1 => if v1 ≤ a1 then (some 0) else some 1
set_option maxRecDepth 100000 in
theorem e_X0_isPoint {d : Nat} {G : ct_G} {h : ct_H} (o : Nat) (a1 : Int) : ct_E m_X0_isPoint (d + 1) G (ct_args 0 [.inr (.inr (0, o)), .inl a1]) h (fun r : Int => (some (.inl r : ct_PV), h)) (f_X0_isPoint G h o a1) := by
  intro x C
  unfold f_X0_isPoint
  show ct_Z x m_X0_isPoint G 0 [(0, .inr (.inr (0, o))), (1, .inl a1)] [] h (fun a => ct_q x G ((fun r : Int => (some (.inl r : ct_PV), h)) a)) _
  refine ct_zrun C (k' := 1) (y := ([(0, .inr (.inr (0, o))), (1, .inl a1)], [.inl a1], h)) 1 rfl rfl rfl ?_
  refine ct_zt0 C (pc := 1) (aux := 0) (cn := .lt) (off := 15) (k' := 8) (a := a1) Iff.rfl rfl rfl rfl (fun e3 => ?_) (fun e3 => ?_)
  · refine ct_zrun C (k' := 9) (y := ([(0, .inr (.inr (0, o))), (1, .inl a1)], [.inl 0], h)) 1 rfl rfl rfl ?_
    exact ct_zret C (pc := 17) (aux := 0) (ins := .ireturn) (ρ := (fun r : Int => (some (.inl r : ct_PV), h))) (some (.inl 0)) rfl rfl rfl ⟨rfl, Or.inr ⟨rfl, Or.inl rfl⟩⟩
  · refine ct_zrun C (k' := 4) (y := ([(0, .inr (.inr (0, o))), (1, .inl a1)], [.inr (.inr (0, o)), .inl a1], h)) 2 rfl rfl rfl ?_
    refine ct_zV C (pc := 6) (aux := 0) [] [.inl a1] ok_X0_points lk_X0_44 (e_X0_points o) rfl rfl rfl rfl rfl rfl rfl rfl (fun v1 => ?_)
    refine ct_zt C (pc := 9) (aux := 0) (cn := .ge) (off := 7) (k' := 8) (a := a1) (b := v1) Iff.rfl rfl rfl rfl (fun e2 => ?_) (fun e2 => ?_)
    · refine ct_zrun C (k' := 9) (y := ([(0, .inr (.inr (0, o))), (1, .inl a1)], [.inl 0], h)) 1 rfl rfl rfl ?_
      exact ct_zret C (pc := 17) (aux := 0) (ins := .ireturn) (ρ := (fun r : Int => (some (.inl r : ct_PV), h))) (some (.inl 0)) rfl rfl rfl ⟨rfl, Or.inr ⟨rfl, Or.inl rfl⟩⟩
    · refine ct_zrun C (k' := 7) (y := ([(0, .inr (.inr (0, o))), (1, .inl a1)], [.inl 1], h)) 1 rfl rfl rfl ?_
      refine ct_zgoto C (pc := 13) (aux := 0) (off := 4) (k' := 9) rfl rfl ?_
      exact ct_zret C (pc := 17) (aux := 0) (ins := .ireturn) (ρ := (fun r : Int => (some (.inl r : ct_PV), h))) (some (.inl 1)) rfl rfl rfl ⟨rfl, Or.inr ⟨rfl, Or.inr rfl⟩⟩
def f_X0_pointOf (G : ct_G) (h : ct_H) (o : Nat) (a1 : Int) : Option (Int) := (ct_dv a1 (h.1 o 3)).bind fun v1 => (ct_md a1 (h.1 o 3)).bind fun v2 => some (ct_wr ((ct_wr ((ct_wr ((h.1 o 2) * (ct_wr (v1 - 1)))) + v2)) - 1))
set_option maxRecDepth 100000 in
theorem e_X0_pointOf {d : Nat} {G : ct_G} {h : ct_H} (o : Nat) (a1 : Int) : ct_E m_X0_pointOf d G (ct_args 0 [.inr (.inr (0, o)), .inl a1]) h (fun r : Int => (some (.inl r : ct_PV), h)) (f_X0_pointOf G h o a1) := by
  intro x C
  unfold f_X0_pointOf
  show ct_Z x m_X0_pointOf G 0 [(0, .inr (.inr (0, o))), (1, .inl a1)] [] h (fun a => ct_q x G ((fun r : Int => (some (.inl r : ct_PV), h)) a)) _
  refine ct_zrun C (k' := 5) (y := ([(0, .inr (.inr (0, o))), (1, .inl a1)], [.inl (h.1 o 3), .inl a1, .inl (h.1 o 2)], h)) 5 rfl rfl rfl ?_
  refine ct_zdv C (pc := 9) (aux := 0) rfl rfl (fun v1 => ?_)
  refine ct_zrun C (k' := 12) (y := ([(0, .inr (.inr (0, o))), (1, .inl a1)], [.inl (h.1 o 3), .inl a1, .inl (ct_wr ((h.1 o 2) * (ct_wr (v1 - 1))))], h)) 6 rfl rfl rfl ?_
  refine ct_zmd C (pc := 18) (aux := 0) rfl rfl (fun v2 => ?_)
  refine ct_zrun C (k' := 16) (y := ([(0, .inr (.inr (0, o))), (1, .inl a1)], [.inl (ct_wr ((ct_wr ((ct_wr ((h.1 o 2) * (ct_wr (v1 - 1)))) + v2)) - 1))], h)) 3 rfl rfl rfl ?_
  exact ct_zret C (pc := 22) (aux := 0) (ins := .ireturn) (ρ := (fun r : Int => (some (.inl r : ct_PV), h))) (some (.inl (ct_wr ((ct_wr ((ct_wr ((h.1 o 2) * (ct_wr (v1 - 1)))) + v2)) - 1)))) rfl rfl rfl ⟨rfl, Or.inl rfl⟩
def f_X0_heightOf (G : ct_G) (h : ct_H) (o : Nat) (a1 : Int) : Option (Int) := (f_X0_placeOf G h o a1).bind fun v1 => (ct_rd G h (G.1 o 0) v1).bind fun v2 => some v2
set_option maxRecDepth 100000 in
theorem e_X0_heightOf {d : Nat} {G : ct_G} {h : ct_H} (o : Nat) (a1 : Int) : ct_E m_X0_heightOf (d + 1) G (ct_args 0 [.inr (.inr (0, o)), .inl a1]) h (fun r : Int => (some (.inl r : ct_PV), h)) (f_X0_heightOf G h o a1) := by
  intro x C
  unfold f_X0_heightOf
  show ct_Z x m_X0_heightOf G 0 [(0, .inr (.inr (0, o))), (1, .inl a1)] [] h (fun a => ct_q x G ((fun r : Int => (some (.inl r : ct_PV), h)) a)) _
  refine ct_zrun C (k' := 4) (y := ([(0, .inr (.inr (0, o))), (1, .inl a1)], [.inl a1, .inr (.inr (0, o)), .inr (.inr (8, (G.1 o 0)))], h)) 4 rfl rfl rfl ?_
  refine ct_zV C (pc := 6) (aux := 0) [.inl a1] [.inr (.inr (8, (G.1 o 0)))] ok_X0_placeOf lk_X0_61 (e_X0_placeOf o a1) rfl rfl rfl rfl rfl rfl rfl rfl (fun v1 => ?_)
  refine ct_zrd C (pc := 9) (aux := 0) (ins := .iaload) (cd := 8) rfl rfl (Or.inl ⟨rfl, rfl⟩) (fun v2 => ?_)
  exact ct_zret C (pc := 10) (aux := 0) (ins := .ireturn) (ρ := (fun r : Int => (some (.inl r : ct_PV), h))) (some (.inl v2)) rfl rfl rfl ⟨rfl, Or.inl rfl⟩
def l_X0_greatest_4 (G : ct_G) (o : Nat) (h : ct_H) : Nat → (Int × Int) → Option (Int)
  | 0, _ => none
  | n2 + 1, b1 => if (h.1 o 4) ≤ b1.2 then (some (b1.1)) else (ct_rd G h (G.1 o 0) b1.2).bind fun v3 => ct_lt (ct_max b1.1 v3) fun v4 => l_X0_greatest_4 G o h n2 (v4, (ct_wr (b1.2 + 1)))
set_option maxRecDepth 100000 in
theorem zl_X0_greatest_4 {x : ct_Ctx} {d : Nat} {G : ct_G} (C : ct_c x m_X0_greatest G (d + 1)) (o : Nat) (h : ct_H) : ∀ (n2 : Nat) (b1 : Int × Int), ct_Z x m_X0_greatest G 4 [(0, .inr (.inr (0, o))), (1, .inl (b1.1)), (2, .inl (b1.2))] [] h (fun a => ct_q x G ((fun r : Int => (some (.inl r : ct_PV), h)) a)) (l_X0_greatest_4 G o h n2 b1) := by
  intro n2
  induction n2 with
  | zero => intro b1; exact ct_znone
  | succ n2 ih =>
    intro b1
    rw [l_X0_greatest_4]
    refine ct_zrun C (k' := 7) (y := ([(0, .inr (.inr (0, o))), (1, .inl (b1.1)), (2, .inl (b1.2))], [.inl (h.1 o 4), .inl (b1.2)], h)) 3 rfl rfl rfl ?_
    refine ct_zt C (pc := 9) (aux := 0) (cn := .ge) (off := 20) (k' := 17) (a := b1.2) (b := (h.1 o 4)) Iff.rfl rfl rfl rfl (fun e5 => ?_) (fun e5 => ?_)
    · refine ct_zrun C (k' := 18) (y := ([(0, .inr (.inr (0, o))), (1, .inl (b1.1)), (2, .inl (b1.2))], [.inl (b1.1)], h)) 1 rfl rfl rfl ?_
      exact ct_zret C (pc := 30) (aux := 0) (ins := .ireturn) (ρ := (fun r : Int => (some (.inl r : ct_PV), h))) (some (.inl (b1.1))) rfl rfl rfl ⟨rfl, Or.inl rfl⟩
    · refine ct_zrun C (k' := 12) (y := ([(0, .inr (.inr (0, o))), (1, .inl (b1.1)), (2, .inl (b1.2))], [.inl (b1.2), .inr (.inr (8, (G.1 o 0))), .inl (b1.1)], h)) 4 rfl rfl rfl ?_
      refine ct_zrd C (pc := 18) (aux := 0) (ins := .iaload) (cd := 8) rfl rfl (Or.inl ⟨rfl, rfl⟩) (fun v3 => ?_)
      refine ct_zmax C (pc := 19) (aux := 0) lk_X0_65 rfl rfl rfl ?_
      refine ct_zrun C (k' := 15) (y := ([(1, .inl (ct_max b1.1 v3)), (0, .inr (.inr (0, o))), (2, .inl (b1.2))], [], h)) 1 rfl rfl rfl ?_
      refine ct_zlet (L := fun v4 => [(1, .inl v4), (0, .inr (.inr (0, o))), (2, .inl (b1.2))]) (S := fun _ => []) (Hh := fun _ => h) (a := (ct_max b1.1 v3)) (fun v4 => ?_)
      refine ct_zrun C (k' := 16) (y := ([(2, .inl (ct_wr (b1.2 + 1))), (1, .inl v4), (0, .inr (.inr (0, o)))], [], h)) 1 rfl rfl rfl ?_
      refine ct_zgoto C (pc := 26) (aux := 0) (off := (-22)) (k' := 4) rfl rfl ?_
      exact ct_zsub [2, 1, 0] rfl (ih (v4, (ct_wr (b1.2 + 1))))
def f_X0_greatest (G : ct_G) (h : ct_H) (o : Nat) : Option (Int) := l_X0_greatest_4 G o h 200 ((-1), 0)
set_option maxRecDepth 100000 in
theorem e_X0_greatest {d : Nat} {G : ct_G} {h : ct_H} (o : Nat) : ct_E m_X0_greatest (d + 1) G (ct_args 0 [.inr (.inr (0, o))]) h (fun r : Int => (some (.inl r : ct_PV), h)) (f_X0_greatest G h o) := by
  intro x C
  unfold f_X0_greatest
  show ct_Z x m_X0_greatest G 0 [(0, .inr (.inr (0, o)))] [] h (fun a => ct_q x G ((fun r : Int => (some (.inl r : ct_PV), h)) a)) _
  refine ct_zrun C (k' := 4) (y := ([(2, .inl 0), (1, .inl (-1)), (0, .inr (.inr (0, o)))], [], h)) 4 rfl rfl rfl ?_
  exact ct_zsub [2, 1, 0] rfl (zl_X0_greatest_4 C o h 200 ((-1), 0))
def l_X0_firstOf_5 (G : ct_G) (o : Nat) (a1 : Int) (h : ct_H) (v1 : Int) : Nat → Int → Option (Int)
  | 0, _ => none
  | n3 + 1, b2 => if v1 ≤ b2 then (some b2) else (f_X0_heightOf G h o b2).bind fun v4 => if v4 = a1 then (some b2) else l_X0_firstOf_5 G o a1 h v1 n3 (ct_wr (b2 + 1))
set_option maxRecDepth 100000 in
theorem zl_X0_firstOf_5 {x : ct_Ctx} {d : Nat} {G : ct_G} (C : ct_c x m_X0_firstOf G (d + 2)) (o : Nat) (a1 : Int) (h : ct_H) (v1 : Int) : ∀ (n3 : Nat) (b2 : Int), ct_Z x m_X0_firstOf G 5 [(0, .inr (.inr (0, o))), (1, .inl a1), (2, .inl v1), (3, .inl b2)] [] h (fun a => ct_q x G ((fun r : Int => (some (.inl r : ct_PV), h)) a)) (l_X0_firstOf_5 G o a1 h v1 n3 b2) := by
  intro n3
  induction n3 with
  | zero => intro b2; exact ct_znone
  | succ n3 ih =>
    intro b2
    rw [l_X0_firstOf_5]
    refine ct_zrun C (k' := 7) (y := ([(0, .inr (.inr (0, o))), (1, .inl a1), (2, .inl v1), (3, .inl b2)], [.inl v1, .inl b2], h)) 2 rfl rfl rfl ?_
    refine ct_zt C (pc := 9) (aux := 0) (cn := .ge) (off := 18) (k' := 15) (a := b2) (b := v1) Iff.rfl rfl rfl rfl (fun e6 => ?_) (fun e6 => ?_)
    · refine ct_zrun C (k' := 16) (y := ([(0, .inr (.inr (0, o))), (1, .inl a1), (2, .inl v1), (3, .inl b2)], [.inl b2], h)) 1 rfl rfl rfl ?_
      exact ct_zret C (pc := 28) (aux := 0) (ins := .ireturn) (ρ := (fun r : Int => (some (.inl r : ct_PV), h))) (some (.inl b2)) rfl rfl rfl ⟨rfl, Or.inl rfl⟩
    · refine ct_zrun C (k' := 10) (y := ([(0, .inr (.inr (0, o))), (1, .inl a1), (2, .inl v1), (3, .inl b2)], [.inl b2, .inr (.inr (0, o))], h)) 2 rfl rfl rfl ?_
      refine ct_zV C (pc := 14) (aux := 0) [.inl b2] [] ok_X0_heightOf lk_X0_71 (e_X0_heightOf o b2) rfl rfl rfl rfl rfl rfl rfl rfl (fun v4 => ?_)
      refine ct_zrun C (k' := 12) (y := ([(0, .inr (.inr (0, o))), (1, .inl a1), (2, .inl v1), (3, .inl b2)], [.inl a1, .inl v4], h)) 1 rfl rfl rfl ?_
      refine ct_zt C (pc := 18) (aux := 0) (cn := .eq) (off := 9) (k' := 15) (a := v4) (b := a1) Iff.rfl rfl rfl rfl (fun e5 => ?_) (fun e5 => ?_)
      · refine ct_zrun C (k' := 16) (y := ([(0, .inr (.inr (0, o))), (1, .inl a1), (2, .inl v1), (3, .inl b2)], [.inl b2], h)) 1 rfl rfl rfl ?_
        exact ct_zret C (pc := 28) (aux := 0) (ins := .ireturn) (ρ := (fun r : Int => (some (.inl r : ct_PV), h))) (some (.inl b2)) rfl rfl rfl ⟨rfl, Or.inl rfl⟩
      · refine ct_zrun C (k' := 14) (y := ([(3, .inl (ct_wr (b2 + 1))), (0, .inr (.inr (0, o))), (1, .inl a1), (2, .inl v1)], [], h)) 1 rfl rfl rfl ?_
        refine ct_zgoto C (pc := 24) (aux := 0) (off := (-17)) (k' := 5) rfl rfl ?_
        exact ct_zsub [1, 2, 3, 0] rfl (ih (ct_wr (b2 + 1)))
def f_X0_firstOf (G : ct_G) (h : ct_H) (o : Nat) (a1 : Int) : Option (Int) := (f_X0_points G h o).bind fun v1 => l_X0_firstOf_5 G o a1 h v1 200 0
set_option maxRecDepth 100000 in
theorem e_X0_firstOf {d : Nat} {G : ct_G} {h : ct_H} (o : Nat) (a1 : Int) : ct_E m_X0_firstOf (d + 2) G (ct_args 0 [.inr (.inr (0, o)), .inl a1]) h (fun r : Int => (some (.inl r : ct_PV), h)) (f_X0_firstOf G h o a1) := by
  intro x C
  unfold f_X0_firstOf
  show ct_Z x m_X0_firstOf G 0 [(0, .inr (.inr (0, o))), (1, .inl a1)] [] h (fun a => ct_q x G ((fun r : Int => (some (.inl r : ct_PV), h)) a)) _
  refine ct_zrun C (k' := 1) (y := ([(0, .inr (.inr (0, o))), (1, .inl a1)], [.inr (.inr (0, o))], h)) 1 rfl rfl rfl ?_
  refine ct_zV C (pc := 1) (aux := 0) [] [] ok_X0_points lk_X0_44 (e_X0_points o) rfl rfl rfl rfl rfl rfl rfl rfl (fun v1 => ?_)
  refine ct_zrun C (k' := 5) (y := ([(3, .inl 0), (2, .inl v1), (0, .inr (.inr (0, o))), (1, .inl a1)], [], h)) 3 rfl rfl rfl ?_
  exact ct_zsub [2, 3, 1, 0] rfl (zl_X0_firstOf_5 C o a1 h v1 200 0)
def l_X0_together_7 (G : ct_G) (o : Nat) (h : ct_H) (v1 : Int) : Nat → (Int × Int) → Option (Int)
  | 0, _ => none
  | n3 + 1, b2 => if v1 ≤ b2.2 then (some (b2.1)) else (f_X0_heightOf G h o b2.2).bind fun v4 => ct_lt (ct_wr (b2.1 + v4)) fun v5 => l_X0_together_7 G o h v1 n3 (v5, (ct_wr (b2.2 + 1)))
set_option maxRecDepth 100000 in
theorem zl_X0_together_7 {x : ct_Ctx} {d : Nat} {G : ct_G} (C : ct_c x m_X0_together G (d + 2)) (o : Nat) (h : ct_H) (v1 : Int) : ∀ (n3 : Nat) (b2 : Int × Int), ct_Z x m_X0_together G 7 [(0, .inr (.inr (0, o))), (1, .inl (b2.1)), (2, .inl v1), (3, .inl (b2.2))] [] h (fun a => ct_q x G ((fun r : Int => (some (.inl r : ct_PV), h)) a)) (l_X0_together_7 G o h v1 n3 b2) := by
  intro n3
  induction n3 with
  | zero => intro b2; exact ct_znone
  | succ n3 ih =>
    intro b2
    rw [l_X0_together_7]
    refine ct_zrun C (k' := 9) (y := ([(0, .inr (.inr (0, o))), (1, .inl (b2.1)), (2, .inl v1), (3, .inl (b2.2))], [.inl v1, .inl (b2.2)], h)) 2 rfl rfl rfl ?_
    refine ct_zt C (pc := 11) (aux := 0) (cn := .ge) (off := 17) (k' := 18) (a := b2.2) (b := v1) Iff.rfl rfl rfl rfl (fun e6 => ?_) (fun e6 => ?_)
    · refine ct_zrun C (k' := 19) (y := ([(0, .inr (.inr (0, o))), (1, .inl (b2.1)), (2, .inl v1), (3, .inl (b2.2))], [.inl (b2.1)], h)) 1 rfl rfl rfl ?_
      exact ct_zret C (pc := 29) (aux := 0) (ins := .ireturn) (ρ := (fun r : Int => (some (.inl r : ct_PV), h))) (some (.inl (b2.1))) rfl rfl rfl ⟨rfl, Or.inl rfl⟩
    · refine ct_zrun C (k' := 13) (y := ([(0, .inr (.inr (0, o))), (1, .inl (b2.1)), (2, .inl v1), (3, .inl (b2.2))], [.inl (b2.2), .inr (.inr (0, o)), .inl (b2.1)], h)) 3 rfl rfl rfl ?_
      refine ct_zV C (pc := 17) (aux := 0) [.inl (b2.2)] [.inl (b2.1)] ok_X0_heightOf lk_X0_71 (e_X0_heightOf o (b2.2)) rfl rfl rfl rfl rfl rfl rfl rfl (fun v4 => ?_)
      refine ct_zrun C (k' := 16) (y := ([(1, .inl (ct_wr (b2.1 + v4))), (0, .inr (.inr (0, o))), (2, .inl v1), (3, .inl (b2.2))], [], h)) 2 rfl rfl rfl ?_
      refine ct_zlet (L := fun v5 => [(1, .inl v5), (0, .inr (.inr (0, o))), (2, .inl v1), (3, .inl (b2.2))]) (S := fun _ => []) (Hh := fun _ => h) (a := (ct_wr (b2.1 + v4))) (fun v5 => ?_)
      refine ct_zrun C (k' := 17) (y := ([(3, .inl (ct_wr (b2.2 + 1))), (1, .inl v5), (0, .inr (.inr (0, o))), (2, .inl v1)], [], h)) 1 rfl rfl rfl ?_
      refine ct_zgoto C (pc := 25) (aux := 0) (off := (-16)) (k' := 7) rfl rfl ?_
      exact ct_zsub [2, 1, 3, 0] rfl (ih (v5, (ct_wr (b2.2 + 1))))
def f_X0_together (G : ct_G) (h : ct_H) (o : Nat) : Option (Int) := (f_X0_points G h o).bind fun v1 => l_X0_together_7 G o h v1 200 (0, 0)
set_option maxRecDepth 100000 in
theorem e_X0_together {d : Nat} {G : ct_G} {h : ct_H} (o : Nat) : ct_E m_X0_together (d + 2) G (ct_args 0 [.inr (.inr (0, o))]) h (fun r : Int => (some (.inl r : ct_PV), h)) (f_X0_together G h o) := by
  intro x C
  unfold f_X0_together
  show ct_Z x m_X0_together G 0 [(0, .inr (.inr (0, o)))] [] h (fun a => ct_q x G ((fun r : Int => (some (.inl r : ct_PV), h)) a)) _
  refine ct_zrun C (k' := 3) (y := ([(1, .inl 0), (0, .inr (.inr (0, o)))], [.inr (.inr (0, o))], h)) 3 rfl rfl rfl ?_
  refine ct_zV C (pc := 3) (aux := 0) [] [] ok_X0_points lk_X0_44 (e_X0_points o) rfl rfl rfl rfl rfl rfl rfl rfl (fun v1 => ?_)
  refine ct_zrun C (k' := 7) (y := ([(3, .inl 0), (2, .inl v1), (1, .inl 0), (0, .inr (.inr (0, o)))], [], h)) 3 rfl rfl rfl ?_
  exact ct_zsub [3, 2, 1, 0] rfl (zl_X0_together_7 C o h v1 200 (0, 0))
def l_X0_pointsIn_4 (G : ct_G) (o : Nat) (a1 : Int) (h : ct_H) : Nat → (Int × Int) → Option (Int)
  | 0, _ => none
  | n2 + 1, b1 => if (h.1 o 4) ≤ b1.2 then (some (b1.1)) else (ct_rd G h (G.1 o 0) b1.2).bind fun v3 => ct_jn (β := Int) (fun k5 => if v3 < a1 then (k5 (b1.1)) else k5 (ct_wr (b1.1 + 1))) (fun b4 => l_X0_pointsIn_4 G o a1 h n2 (b4, (ct_wr (b1.2 + 1))))
set_option maxRecDepth 100000 in
theorem zl_X0_pointsIn_4 {x : ct_Ctx} {d : Nat} {G : ct_G} (C : ct_c x m_X0_pointsIn G d) (o : Nat) (a1 : Int) (h : ct_H) : ∀ (n2 : Nat) (b1 : Int × Int), ct_Z x m_X0_pointsIn G 4 [(0, .inr (.inr (0, o))), (1, .inl a1), (2, .inl (b1.1)), (3, .inl (b1.2))] [] h (fun a => ct_q x G ((fun r : Int => (some (.inl r : ct_PV), h)) a)) (l_X0_pointsIn_4 G o a1 h n2 b1) := by
  intro n2
  induction n2 with
  | zero => intro b1; exact ct_znone
  | succ n2 ih =>
    intro b1
    rw [l_X0_pointsIn_4]
    refine ct_zrun C (k' := 7) (y := ([(0, .inr (.inr (0, o))), (1, .inl a1), (2, .inl (b1.1)), (3, .inl (b1.2))], [.inl (h.1 o 4), .inl (b1.2)], h)) 3 rfl rfl rfl ?_
    refine ct_zt C (pc := 9) (aux := 0) (cn := .ge) (off := 22) (k' := 17) (a := b1.2) (b := (h.1 o 4)) Iff.rfl rfl rfl rfl (fun e8 => ?_) (fun e8 => ?_)
    · refine ct_zrun C (k' := 18) (y := ([(0, .inr (.inr (0, o))), (1, .inl a1), (2, .inl (b1.1)), (3, .inl (b1.2))], [.inl (b1.1)], h)) 1 rfl rfl rfl ?_
      exact ct_zret C (pc := 32) (aux := 0) (ins := .ireturn) (ρ := (fun r : Int => (some (.inl r : ct_PV), h))) (some (.inl (b1.1))) rfl rfl rfl ⟨rfl, Or.inl rfl⟩
    · refine ct_zrun C (k' := 11) (y := ([(0, .inr (.inr (0, o))), (1, .inl a1), (2, .inl (b1.1)), (3, .inl (b1.2))], [.inl (b1.2), .inr (.inr (8, (G.1 o 0)))], h)) 3 rfl rfl rfl ?_
      refine ct_zrd C (pc := 17) (aux := 0) (ins := .iaload) (cd := 8) rfl rfl (Or.inl ⟨rfl, rfl⟩) (fun v3 => ?_)
      refine ct_zrun C (k' := 13) (y := ([(0, .inr (.inr (0, o))), (1, .inl a1), (2, .inl (b1.1)), (3, .inl (b1.2))], [.inl a1, .inl v3], h)) 1 rfl rfl rfl ?_
      refine ct_zjn (β := Int) (kJ := 15) (L := fun b4 => [(0, .inr (.inr (0, o))), (1, .inl a1), (2, .inl b4), (3, .inl (b1.2))]) (S := fun b4 => []) (Hh := fun b4 => h) (fun b4 => ?_) (fun k5 z6 => ?_)
      · refine ct_zrun C (k' := 16) (y := ([(3, .inl (ct_wr (b1.2 + 1))), (0, .inr (.inr (0, o))), (1, .inl a1), (2, .inl b4)], [], h)) 1 rfl rfl rfl ?_
        refine ct_zgoto C (pc := 28) (aux := 0) (off := (-24)) (k' := 4) rfl rfl ?_
        exact ct_zsub [1, 2, 3, 0] rfl (ih (b4, (ct_wr (b1.2 + 1))))
      · refine ct_zt C (pc := 19) (aux := 0) (cn := .lt) (off := 6) (k' := 15) (a := v3) (b := a1) Iff.rfl rfl rfl rfl (fun e7 => ?_) (fun e7 => ?_)
        · exact ct_zsub [0, 1, 2, 3] rfl (z6 (b1.1))
        · refine ct_zrun C (k' := 15) (y := ([(2, .inl (ct_wr (b1.1 + 1))), (0, .inr (.inr (0, o))), (1, .inl a1), (3, .inl (b1.2))], [], h)) 1 rfl rfl rfl ?_
          exact ct_zsub [1, 2, 0, 3] rfl (z6 (ct_wr (b1.1 + 1)))
def f_X0_pointsIn (G : ct_G) (h : ct_H) (o : Nat) (a1 : Int) : Option (Int) := l_X0_pointsIn_4 G o a1 h 200 (0, 0)
set_option maxRecDepth 100000 in
theorem e_X0_pointsIn {d : Nat} {G : ct_G} {h : ct_H} (o : Nat) (a1 : Int) : ct_E m_X0_pointsIn d G (ct_args 0 [.inr (.inr (0, o)), .inl a1]) h (fun r : Int => (some (.inl r : ct_PV), h)) (f_X0_pointsIn G h o a1) := by
  intro x C
  unfold f_X0_pointsIn
  show ct_Z x m_X0_pointsIn G 0 [(0, .inr (.inr (0, o))), (1, .inl a1)] [] h (fun a => ct_q x G ((fun r : Int => (some (.inl r : ct_PV), h)) a)) _
  refine ct_zrun C (k' := 4) (y := ([(3, .inl 0), (2, .inl 0), (0, .inr (.inr (0, o))), (1, .inl a1)], [], h)) 4 rfl rfl rfl ?_
  exact ct_zsub [2, 3, 1, 0] rfl (zl_X0_pointsIn_4 C o a1 h 200 (0, 0))
def l_X0_turnOver_5 (G : ct_G) (o : Nat) (v1 : Int) : Nat → (Int × ct_H) → Option (ct_H)
  | 0, _ => none
  | n3 + 1, b2 => if v1 ≤ b2.1 then (some (b2.2)) else (f_X0_heightOf G b2.2 o b2.1).bind fun v4 => (f_X0_putHeight G b2.2 o b2.1 (ct_wr (99 - v4))).bind fun r5 => l_X0_turnOver_5 G o v1 n3 ((ct_wr (b2.1 + 1)), r5)
set_option maxRecDepth 100000 in
theorem zl_X0_turnOver_5 {x : ct_Ctx} {d : Nat} {G : ct_G} (C : ct_c x m_X0_turnOver G (d + 2)) (o : Nat) (v1 : Int) : ∀ (n3 : Nat) (b2 : Int × ct_H), ct_Z x m_X0_turnOver G 5 [(0, .inr (.inr (0, o))), (1, .inl v1), (2, .inl (b2.1))] [] b2.2 (fun a => ct_q x G ((fun r : ct_H => ((none : Option ct_PV), r)) a)) (l_X0_turnOver_5 G o v1 n3 b2) := by
  intro n3
  induction n3 with
  | zero => intro b2; exact ct_znone
  | succ n3 ih =>
    intro b2
    rw [l_X0_turnOver_5]
    refine ct_zrun C (k' := 7) (y := ([(0, .inr (.inr (0, o))), (1, .inl v1), (2, .inl (b2.1))], [.inl v1, .inl (b2.1)], b2.2)) 2 rfl rfl rfl ?_
    refine ct_zt C (pc := 9) (aux := 0) (cn := .ge) (off := 22) (k' := 18) (a := b2.1) (b := v1) Iff.rfl rfl rfl rfl (fun e6 => ?_) (fun e6 => ?_)
    · exact ct_zret C (pc := 31) (aux := 0) (ins := .return_) (ρ := (fun r : ct_H => ((none : Option ct_PV), r))) none rfl rfl rfl ⟨rfl, rfl⟩
    · refine ct_zrun C (k' := 13) (y := ([(0, .inr (.inr (0, o))), (1, .inl v1), (2, .inl (b2.1))], [.inl (b2.1), .inr (.inr (0, o)), .inl 99, .inl (b2.1), .inr (.inr (0, o))], b2.2)) 5 rfl rfl rfl ?_
      refine ct_zV C (pc := 18) (aux := 0) [.inl (b2.1)] [.inl 99, .inl (b2.1), .inr (.inr (0, o))] ok_X0_heightOf lk_X0_71 (e_X0_heightOf o (b2.1)) rfl rfl rfl rfl rfl rfl rfl rfl (fun v4 => ?_)
      refine ct_zrun C (k' := 15) (y := ([(0, .inr (.inr (0, o))), (1, .inl v1), (2, .inl (b2.1))], [.inl (ct_wr (99 - v4)), .inl (b2.1), .inr (.inr (0, o))], b2.2)) 1 rfl rfl rfl ?_
      refine ct_zV C (pc := 22) (aux := 0) [.inl (b2.1), .inl (ct_wr (99 - v4))] [] ok_X0_putHeight lk_X0_48 (e_X0_putHeight o (b2.1) (ct_wr (99 - v4))) rfl rfl rfl rfl rfl rfl rfl rfl (fun r5 => ?_)
      refine ct_zrun C (k' := 17) (y := ([(2, .inl (ct_wr (b2.1 + 1))), (0, .inr (.inr (0, o))), (1, .inl v1)], [], r5)) 1 rfl rfl rfl ?_
      refine ct_zgoto C (pc := 28) (aux := 0) (off := (-21)) (k' := 5) rfl rfl ?_
      exact ct_zsub [1, 2, 0] rfl (ih ((ct_wr (b2.1 + 1)), r5))
def f_X0_turnOver (G : ct_G) (h : ct_H) (o : Nat) : Option (ct_H) := (f_X0_points G h o).bind fun v1 => l_X0_turnOver_5 G o v1 200 (0, h)
set_option maxRecDepth 100000 in
theorem e_X0_turnOver {d : Nat} {G : ct_G} {h : ct_H} (o : Nat) : ct_E m_X0_turnOver (d + 2) G (ct_args 0 [.inr (.inr (0, o))]) h (fun r : ct_H => ((none : Option ct_PV), r)) (f_X0_turnOver G h o) := by
  intro x C
  unfold f_X0_turnOver
  show ct_Z x m_X0_turnOver G 0 [(0, .inr (.inr (0, o)))] [] h (fun a => ct_q x G ((fun r : ct_H => ((none : Option ct_PV), r)) a)) _
  refine ct_zrun C (k' := 1) (y := ([(0, .inr (.inr (0, o)))], [.inr (.inr (0, o))], h)) 1 rfl rfl rfl ?_
  refine ct_zV C (pc := 1) (aux := 0) [] [] ok_X0_points lk_X0_44 (e_X0_points o) rfl rfl rfl rfl rfl rfl rfl rfl (fun v1 => ?_)
  refine ct_zrun C (k' := 5) (y := ([(2, .inl 0), (1, .inl v1), (0, .inr (.inr (0, o)))], [], h)) 3 rfl rfl rfl ?_
  exact ct_zsub [2, 1, 0] rfl (zl_X0_turnOver_5 C o v1 200 (0, h))
def l_X0_lowerAll_5 (G : ct_G) (o : Nat) (a1 : Int) (v1 : Int) : Nat → (Int × ct_H) → Option (ct_H)
  | 0, _ => none
  | n3 + 1, b2 => if v1 ≤ b2.1 then (some (b2.2)) else (f_X0_heightOf G b2.2 o b2.1).bind fun v4 => (f_X0_putHeight G b2.2 o b2.1 (ct_max 0 (ct_wr (v4 - a1)))).bind fun r5 => l_X0_lowerAll_5 G o a1 v1 n3 ((ct_wr (b2.1 + 1)), r5)
set_option maxRecDepth 100000 in
theorem zl_X0_lowerAll_5 {x : ct_Ctx} {d : Nat} {G : ct_G} (C : ct_c x m_X0_lowerAll G (d + 2)) (o : Nat) (a1 : Int) (v1 : Int) : ∀ (n3 : Nat) (b2 : Int × ct_H), ct_Z x m_X0_lowerAll G 5 [(0, .inr (.inr (0, o))), (1, .inl a1), (2, .inl v1), (3, .inl (b2.1))] [] b2.2 (fun a => ct_q x G ((fun r : ct_H => ((none : Option ct_PV), r)) a)) (l_X0_lowerAll_5 G o a1 v1 n3 b2) := by
  intro n3
  induction n3 with
  | zero => intro b2; exact ct_znone
  | succ n3 ih =>
    intro b2
    rw [l_X0_lowerAll_5]
    refine ct_zrun C (k' := 7) (y := ([(0, .inr (.inr (0, o))), (1, .inl a1), (2, .inl v1), (3, .inl (b2.1))], [.inl v1, .inl (b2.1)], b2.2)) 2 rfl rfl rfl ?_
    refine ct_zt C (pc := 9) (aux := 0) (cn := .ge) (off := 25) (k' := 20) (a := b2.1) (b := v1) Iff.rfl rfl rfl rfl (fun e6 => ?_) (fun e6 => ?_)
    · exact ct_zret C (pc := 34) (aux := 0) (ins := .return_) (ρ := (fun r : ct_H => ((none : Option ct_PV), r))) none rfl rfl rfl ⟨rfl, rfl⟩
    · refine ct_zrun C (k' := 13) (y := ([(0, .inr (.inr (0, o))), (1, .inl a1), (2, .inl v1), (3, .inl (b2.1))], [.inl (b2.1), .inr (.inr (0, o)), .inl 0, .inl (b2.1), .inr (.inr (0, o))], b2.2)) 5 rfl rfl rfl ?_
      refine ct_zV C (pc := 17) (aux := 0) [.inl (b2.1)] [.inl 0, .inl (b2.1), .inr (.inr (0, o))] ok_X0_heightOf lk_X0_71 (e_X0_heightOf o (b2.1)) rfl rfl rfl rfl rfl rfl rfl rfl (fun v4 => ?_)
      refine ct_zrun C (k' := 16) (y := ([(0, .inr (.inr (0, o))), (1, .inl a1), (2, .inl v1), (3, .inl (b2.1))], [.inl (ct_wr (v4 - a1)), .inl 0, .inl (b2.1), .inr (.inr (0, o))], b2.2)) 2 rfl rfl rfl ?_
      refine ct_zmax C (pc := 22) (aux := 0) lk_X0_65 rfl rfl rfl ?_
      refine ct_zV C (pc := 25) (aux := 0) [.inl (b2.1), .inl (ct_max 0 (ct_wr (v4 - a1)))] [] ok_X0_putHeight lk_X0_48 (e_X0_putHeight o (b2.1) (ct_max 0 (ct_wr (v4 - a1)))) rfl rfl rfl rfl rfl rfl rfl rfl (fun r5 => ?_)
      refine ct_zrun C (k' := 19) (y := ([(3, .inl (ct_wr (b2.1 + 1))), (0, .inr (.inr (0, o))), (1, .inl a1), (2, .inl v1)], [], r5)) 1 rfl rfl rfl ?_
      refine ct_zgoto C (pc := 31) (aux := 0) (off := (-24)) (k' := 5) rfl rfl ?_
      exact ct_zsub [1, 2, 3, 0] rfl (ih ((ct_wr (b2.1 + 1)), r5))
def f_X0_lowerAll (G : ct_G) (h : ct_H) (o : Nat) (a1 : Int) : Option (ct_H) := (f_X0_points G h o).bind fun v1 => l_X0_lowerAll_5 G o a1 v1 200 (0, h)
set_option maxRecDepth 100000 in
theorem e_X0_lowerAll {d : Nat} {G : ct_G} {h : ct_H} (o : Nat) (a1 : Int) : ct_E m_X0_lowerAll (d + 2) G (ct_args 0 [.inr (.inr (0, o)), .inl a1]) h (fun r : ct_H => ((none : Option ct_PV), r)) (f_X0_lowerAll G h o a1) := by
  intro x C
  unfold f_X0_lowerAll
  show ct_Z x m_X0_lowerAll G 0 [(0, .inr (.inr (0, o))), (1, .inl a1)] [] h (fun a => ct_q x G ((fun r : ct_H => ((none : Option ct_PV), r)) a)) _
  refine ct_zrun C (k' := 1) (y := ([(0, .inr (.inr (0, o))), (1, .inl a1)], [.inr (.inr (0, o))], h)) 1 rfl rfl rfl ?_
  refine ct_zV C (pc := 1) (aux := 0) [] [] ok_X0_points lk_X0_44 (e_X0_points o) rfl rfl rfl rfl rfl rfl rfl rfl (fun v1 => ?_)
  refine ct_zrun C (k' := 5) (y := ([(3, .inl 0), (2, .inl v1), (0, .inr (.inr (0, o))), (1, .inl a1)], [], h)) 3 rfl rfl rfl ?_
  exact ct_zsub [2, 3, 1, 0] rfl (zl_X0_lowerAll_5 C o a1 v1 200 (0, h))
def l_X0_fillUp_44 (G : ct_G) (o : Nat) (a2 : Int) (a3 : Int) (p12 : Int) (k15 : ct_H → Option (Int × ct_H)) : Nat → (Int × ct_H) → Option (Int × ct_H)
  | 0, _ => none
  | n14 + 1, b13 => (ct_md a2 (b13.2.1 o 2)).bind fun v18 => if v18 < b13.1 then (k15 (b13.2)) else (f_X0_putHeight G b13.2 o (ct_wr ((ct_wr (p12 * (b13.2.1 o 2))) + b13.1)) a3).bind fun r19 => l_X0_fillUp_44 G o a2 a3 p12 k15 n14 ((ct_wr (b13.1 + 1)), r19)
set_option maxRecDepth 100000 in
theorem zl_X0_fillUp_44 {x : ct_Ctx} {d : Nat} {G : ct_G} (C : ct_c x m_X0_fillUp G (d + 2)) (o : Nat) (a1 : Int) (a2 : Int) (a3 : Int) (p12 : Int) (k15 : ct_H → Option (Int × ct_H)) (z16 : ∀ b17 : ct_H, ct_Z x m_X0_fillUp G 61 [(0, .inr (.inr (0, o))), (1, .inl a1), (2, .inl a2), (3, .inl a3), (4, .inl p12)] [] b17 (fun a => ct_q x G ((fun r : Int × ct_H => (some (.inl (r.1) : ct_PV), r.2)) a)) (k15 b17)) : ∀ (n14 : Nat) (b13 : Int × ct_H), ct_Z x m_X0_fillUp G 44 [(0, .inr (.inr (0, o))), (1, .inl a1), (2, .inl a2), (3, .inl a3), (4, .inl p12), (5, .inl (b13.1))] [] b13.2 (fun a => ct_q x G ((fun r : Int × ct_H => (some (.inl (r.1) : ct_PV), r.2)) a)) (l_X0_fillUp_44 G o a2 a3 p12 k15 n14 b13) := by
  intro n14
  induction n14 with
  | zero => intro b13; exact ct_znone
  | succ n14 ih =>
    intro b13
    rw [l_X0_fillUp_44]
    refine ct_zrun C (k' := 48) (y := ([(0, .inr (.inr (0, o))), (1, .inl a1), (2, .inl a2), (3, .inl a3), (4, .inl p12), (5, .inl (b13.1))], [.inl (b13.2.1 o 2), .inl a2, .inl (b13.1)], b13.2)) 4 rfl rfl rfl ?_
    refine ct_zmd C (pc := 82) (aux := 0) rfl rfl (fun v18 => ?_)
    refine ct_zt C (pc := 83) (aux := 0) (cn := .gt) (off := 24) (k' := 61) (a := b13.1) (b := v18) Iff.rfl rfl rfl rfl (fun e20 => ?_) (fun e20 => ?_)
    · exact ct_zsub [0, 1, 2, 3, 4] rfl (z16 (b13.2))
    · refine ct_zrun C (k' := 58) (y := ([(0, .inr (.inr (0, o))), (1, .inl a1), (2, .inl a2), (3, .inl a3), (4, .inl p12), (5, .inl (b13.1))], [.inl a3, .inl (ct_wr ((ct_wr (p12 * (b13.2.1 o 2))) + b13.1)), .inr (.inr (0, o))], b13.2)) 8 rfl rfl rfl ?_
      refine ct_zV C (pc := 98) (aux := 0) [.inl (ct_wr ((ct_wr (p12 * (b13.2.1 o 2))) + b13.1)), .inl a3] [] ok_X0_putHeight lk_X0_48 (e_X0_putHeight o (ct_wr ((ct_wr (p12 * (b13.2.1 o 2))) + b13.1)) a3) rfl rfl rfl rfl rfl rfl rfl rfl (fun r19 => ?_)
      refine ct_zrun C (k' := 60) (y := ([(5, .inl (ct_wr (b13.1 + 1))), (0, .inr (.inr (0, o))), (1, .inl a1), (2, .inl a2), (3, .inl a3), (4, .inl p12)], [], r19)) 1 rfl rfl rfl ?_
      refine ct_zgoto C (pc := 104) (aux := 0) (off := (-29)) (k' := 44) rfl rfl ?_
      exact ct_zsub [1, 2, 3, 4, 5, 0] rfl (ih ((ct_wr (b13.1 + 1)), r19))
def l_X0_fillUp_33 (G : ct_G) (o : Nat) (a1 : Int) (a2 : Int) (a3 : Int) : Nat → (Int × ct_H) → Option (Int × ct_H)
  | 0, _ => none
  | n9 + 1, b8 => (ct_dv a2 (b8.2.1 o 2)).bind fun v10 => if v10 < b8.1 then (some (1, b8.2)) else (ct_md a1 (b8.2.1 o 2)).bind fun v11 => l_X0_fillUp_44 G o a2 a3 (b8.1) (fun b21 => l_X0_fillUp_33 G o a1 a2 a3 n9 ((ct_wr (b8.1 + 1)), b21)) 200 (v11, b8.2)
set_option maxRecDepth 100000 in
theorem zl_X0_fillUp_33 {x : ct_Ctx} {d : Nat} {G : ct_G} (C : ct_c x m_X0_fillUp G (d + 2)) (o : Nat) (a1 : Int) (a2 : Int) (a3 : Int) : ∀ (n9 : Nat) (b8 : Int × ct_H), ct_Z x m_X0_fillUp G 33 [(0, .inr (.inr (0, o))), (1, .inl a1), (2, .inl a2), (3, .inl a3), (4, .inl (b8.1))] [] b8.2 (fun a => ct_q x G ((fun r : Int × ct_H => (some (.inl (r.1) : ct_PV), r.2)) a)) (l_X0_fillUp_33 G o a1 a2 a3 n9 b8) := by
  intro n9
  induction n9 with
  | zero => intro b8; exact ct_znone
  | succ n9 ih =>
    intro b8
    rw [l_X0_fillUp_33]
    refine ct_zrun C (k' := 37) (y := ([(0, .inr (.inr (0, o))), (1, .inl a1), (2, .inl a2), (3, .inl a3), (4, .inl (b8.1))], [.inl (b8.2.1 o 2), .inl a2, .inl (b8.1)], b8.2)) 4 rfl rfl rfl ?_
    refine ct_zdv C (pc := 63) (aux := 0) rfl rfl (fun v10 => ?_)
    refine ct_zt C (pc := 64) (aux := 0) (cn := .gt) (off := 49) (k' := 63) (a := b8.1) (b := v10) Iff.rfl rfl rfl rfl (fun e22 => ?_) (fun e22 => ?_)
    · refine ct_zrun C (k' := 64) (y := ([(0, .inr (.inr (0, o))), (1, .inl a1), (2, .inl a2), (3, .inl a3), (4, .inl (b8.1))], [.inl 1], b8.2)) 1 rfl rfl rfl ?_
      exact ct_zret C (pc := 114) (aux := 0) (ins := .ireturn) (ρ := (fun r : Int × ct_H => (some (.inl (r.1) : ct_PV), r.2))) (some (.inl 1)) rfl rfl rfl ⟨rfl, Or.inr ⟨rfl, Or.inr rfl⟩⟩
    · refine ct_zrun C (k' := 42) (y := ([(0, .inr (.inr (0, o))), (1, .inl a1), (2, .inl a2), (3, .inl a3), (4, .inl (b8.1))], [.inl (b8.2.1 o 2), .inl a1], b8.2)) 3 rfl rfl rfl ?_
      refine ct_zmd C (pc := 72) (aux := 0) rfl rfl (fun v11 => ?_)
      refine ct_zrun C (k' := 44) (y := ([(5, .inl v11), (0, .inr (.inr (0, o))), (1, .inl a1), (2, .inl a2), (3, .inl a3), (4, .inl (b8.1))], [], b8.2)) 1 rfl rfl rfl ?_
      refine ct_zsub [1, 2, 3, 4, 5, 0] rfl (zl_X0_fillUp_44 C o a1 a2 a3 (b8.1) _ (fun b21 => ?_) 200 (v11, b8.2))
      refine ct_zrun C (k' := 62) (y := ([(4, .inl (ct_wr (b8.1 + 1))), (0, .inr (.inr (0, o))), (1, .inl a1), (2, .inl a2), (3, .inl a3)], [], b21)) 1 rfl rfl rfl ?_
      refine ct_zgoto C (pc := 110) (aux := 0) (off := (-54)) (k' := 33) rfl rfl ?_
      exact ct_zsub [1, 2, 3, 4, 0] rfl (ih ((ct_wr (b8.1 + 1)), b21))
def f_X0_fillUp (G : ct_G) (h : ct_H) (o : Nat) (a1 : Int) (a2 : Int) (a3 : Int) : Option (Int × ct_H) := (f_X0_isPoint G h o a1).bind fun v1 => if v1 = 0 then (some (0, h)) else (f_X0_isPoint G h o a2).bind fun v2 => if v2 = 0 then (some (0, h)) else (ct_dv a2 (h.1 o 2)).bind fun v3 => (ct_dv a1 (h.1 o 2)).bind fun v4 => if v3 < v4 then (some (0, h)) else (ct_md a2 (h.1 o 2)).bind fun v5 => (ct_md a1 (h.1 o 2)).bind fun v6 => if v6 ≤ v5 then ((ct_dv a1 (h.1 o 2)).bind fun v7 => l_X0_fillUp_33 G o a1 a2 a3 200 (v7, h)) else some (0, h)
set_option maxRecDepth 100000 in
theorem e_X0_fillUp {d : Nat} {G : ct_G} {h : ct_H} (o : Nat) (a1 : Int) (a2 : Int) (a3 : Int) : ct_E m_X0_fillUp (d + 2) G (ct_args 0 [.inr (.inr (0, o)), .inl a1, .inl a2, .inl a3]) h (fun r : Int × ct_H => (some (.inl (r.1) : ct_PV), r.2)) (f_X0_fillUp G h o a1 a2 a3) := by
  intro x C
  unfold f_X0_fillUp
  show ct_Z x m_X0_fillUp G 0 [(0, .inr (.inr (0, o))), (1, .inl a1), (2, .inl a2), (3, .inl a3)] [] h (fun a => ct_q x G ((fun r : Int × ct_H => (some (.inl (r.1) : ct_PV), r.2)) a)) _
  refine ct_zrun C (k' := 2) (y := ([(0, .inr (.inr (0, o))), (1, .inl a1), (2, .inl a2), (3, .inl a3)], [.inl a1, .inr (.inr (0, o))], h)) 2 rfl rfl rfl ?_
  refine ct_zV C (pc := 2) (aux := 0) [.inl a1] [] ok_X0_isPoint lk_X0_74 (e_X0_isPoint o a1) rfl rfl rfl rfl rfl rfl rfl rfl (fun v1 => ?_)
  refine ct_zt0 C (pc := 5) (aux := 0) (cn := .eq) (off := 41) (k' := 26) (a := v1) Iff.rfl rfl rfl rfl (fun e26 => ?_) (fun e26 => ?_)
  · refine ct_zrun C (k' := 27) (y := ([(0, .inr (.inr (0, o))), (1, .inl a1), (2, .inl a2), (3, .inl a3)], [.inl 0], h)) 1 rfl rfl rfl ?_
    exact ct_zret C (pc := 47) (aux := 0) (ins := .ireturn) (ρ := (fun r : Int × ct_H => (some (.inl (r.1) : ct_PV), r.2))) (some (.inl 0)) rfl rfl rfl ⟨rfl, Or.inr ⟨rfl, Or.inl rfl⟩⟩
  · refine ct_zrun C (k' := 6) (y := ([(0, .inr (.inr (0, o))), (1, .inl a1), (2, .inl a2), (3, .inl a3)], [.inl a2, .inr (.inr (0, o))], h)) 2 rfl rfl rfl ?_
    refine ct_zV C (pc := 10) (aux := 0) [.inl a2] [] ok_X0_isPoint lk_X0_74 (e_X0_isPoint o a2) rfl rfl rfl rfl rfl rfl rfl rfl (fun v2 => ?_)
    refine ct_zt0 C (pc := 13) (aux := 0) (cn := .eq) (off := 33) (k' := 26) (a := v2) Iff.rfl rfl rfl rfl (fun e25 => ?_) (fun e25 => ?_)
    · refine ct_zrun C (k' := 27) (y := ([(0, .inr (.inr (0, o))), (1, .inl a1), (2, .inl a2), (3, .inl a3)], [.inl 0], h)) 1 rfl rfl rfl ?_
      exact ct_zret C (pc := 47) (aux := 0) (ins := .ireturn) (ρ := (fun r : Int × ct_H => (some (.inl (r.1) : ct_PV), r.2))) (some (.inl 0)) rfl rfl rfl ⟨rfl, Or.inr ⟨rfl, Or.inl rfl⟩⟩
    · refine ct_zrun C (k' := 11) (y := ([(0, .inr (.inr (0, o))), (1, .inl a1), (2, .inl a2), (3, .inl a3)], [.inl (h.1 o 2), .inl a2], h)) 3 rfl rfl rfl ?_
      refine ct_zdv C (pc := 21) (aux := 0) rfl rfl (fun v3 => ?_)
      refine ct_zrun C (k' := 15) (y := ([(0, .inr (.inr (0, o))), (1, .inl a1), (2, .inl a2), (3, .inl a3)], [.inl (h.1 o 2), .inl a1, .inl v3], h)) 3 rfl rfl rfl ?_
      refine ct_zdv C (pc := 27) (aux := 0) rfl rfl (fun v4 => ?_)
      refine ct_zt C (pc := 28) (aux := 0) (cn := .lt) (off := 18) (k' := 26) (a := v3) (b := v4) Iff.rfl rfl rfl rfl (fun e24 => ?_) (fun e24 => ?_)
      · refine ct_zrun C (k' := 27) (y := ([(0, .inr (.inr (0, o))), (1, .inl a1), (2, .inl a2), (3, .inl a3)], [.inl 0], h)) 1 rfl rfl rfl ?_
        exact ct_zret C (pc := 47) (aux := 0) (ins := .ireturn) (ρ := (fun r : Int × ct_H => (some (.inl (r.1) : ct_PV), r.2))) (some (.inl 0)) rfl rfl rfl ⟨rfl, Or.inr ⟨rfl, Or.inl rfl⟩⟩
      · refine ct_zrun C (k' := 20) (y := ([(0, .inr (.inr (0, o))), (1, .inl a1), (2, .inl a2), (3, .inl a3)], [.inl (h.1 o 2), .inl a2], h)) 3 rfl rfl rfl ?_
        refine ct_zmd C (pc := 36) (aux := 0) rfl rfl (fun v5 => ?_)
        refine ct_zrun C (k' := 24) (y := ([(0, .inr (.inr (0, o))), (1, .inl a1), (2, .inl a2), (3, .inl a3)], [.inl (h.1 o 2), .inl a1, .inl v5], h)) 3 rfl rfl rfl ?_
        refine ct_zmd C (pc := 42) (aux := 0) rfl rfl (fun v6 => ?_)
        refine ct_zt C (pc := 43) (aux := 0) (cn := .ge) (off := 5) (k' := 28) (a := v5) (b := v6) Iff.rfl rfl rfl rfl (fun e23 => ?_) (fun e23 => ?_)
        · refine ct_zrun C (k' := 31) (y := ([(0, .inr (.inr (0, o))), (1, .inl a1), (2, .inl a2), (3, .inl a3)], [.inl (h.1 o 2), .inl a1], h)) 3 rfl rfl rfl ?_
          refine ct_zdv C (pc := 53) (aux := 0) rfl rfl (fun v7 => ?_)
          refine ct_zrun C (k' := 33) (y := ([(4, .inl v7), (0, .inr (.inr (0, o))), (1, .inl a1), (2, .inl a2), (3, .inl a3)], [], h)) 1 rfl rfl rfl ?_
          exact ct_zsub [1, 2, 3, 4, 0] rfl (zl_X0_fillUp_33 C o a1 a2 a3 200 (v7, h))
        · refine ct_zrun C (k' := 27) (y := ([(0, .inr (.inr (0, o))), (1, .inl a1), (2, .inl a2), (3, .inl a3)], [.inl 0], h)) 1 rfl rfl rfl ?_
          exact ct_zret C (pc := 47) (aux := 0) (ins := .ireturn) (ρ := (fun r : Int × ct_H => (some (.inl (r.1) : ct_PV), r.2))) (some (.inl 0)) rfl rfl rfl ⟨rfl, Or.inr ⟨rfl, Or.inl rfl⟩⟩
def l_X0_heapUp_11 (G : ct_G) (o : Nat) (a1 : Int) (a2 : Int) (a3 : Int) (v2 : Int) : Nat → (Int × ct_H) → Option (Int × ct_H)
  | 0, _ => none
  | n4 + 1, b3 => if v2 ≤ b3.1 then (some (1, b3.2)) else (ct_dv b3.1 (b3.2.1 o 2)).bind fun v5 => (ct_dv a1 (b3.2.1 o 2)).bind fun v6 => (ct_md b3.1 (b3.2.1 o 2)).bind fun v7 => (ct_md a1 (b3.2.1 o 2)).bind fun v8 => ct_lt (ct_wr ((ct_abs (ct_wr (v5 - v6))) + (ct_abs (ct_wr (v7 - v8))))) fun v9 => (f_X0_heightOf G b3.2 o b3.1).bind fun v10 => (f_X0_putHeight G b3.2 o b3.1 (ct_max v10 (ct_wr (a2 - (ct_wr (a3 * v9)))))).bind fun r11 => l_X0_heapUp_11 G o a1 a2 a3 v2 n4 ((ct_wr (b3.1 + 1)), r11)
set_option maxRecDepth 100000 in
theorem zl_X0_heapUp_11 {x : ct_Ctx} {d : Nat} {G : ct_G} (C : ct_c x m_X0_heapUp G (d + 2)) (o : Nat) (a1 : Int) (a2 : Int) (a3 : Int) (v2 : Int) : ∀ (n4 : Nat) (b3 : Int × ct_H), ct_Z x m_X0_heapUp G 11 [(0, .inr (.inr (0, o))), (1, .inl a1), (2, .inl a2), (3, .inl a3), (4, .inl v2), (5, .inl (b3.1))] [] b3.2 (fun a => ct_q x G ((fun r : Int × ct_H => (some (.inl (r.1) : ct_PV), r.2)) a)) (l_X0_heapUp_11 G o a1 a2 a3 v2 n4 b3) := by
  intro n4
  induction n4 with
  | zero => intro b3; exact ct_znone
  | succ n4 ih =>
    intro b3
    rw [l_X0_heapUp_11]
    refine ct_zrun C (k' := 13) (y := ([(0, .inr (.inr (0, o))), (1, .inl a1), (2, .inl a2), (3, .inl a3), (4, .inl v2), (5, .inl (b3.1))], [.inl v2, .inl (b3.1)], b3.2)) 2 rfl rfl rfl ?_
    refine ct_zt C (pc := 23) (aux := 0) (cn := .ge) (off := 67) (k' := 50) (a := b3.1) (b := v2) Iff.rfl rfl rfl rfl (fun e12 => ?_) (fun e12 => ?_)
    · refine ct_zrun C (k' := 51) (y := ([(0, .inr (.inr (0, o))), (1, .inl a1), (2, .inl a2), (3, .inl a3), (4, .inl v2), (5, .inl (b3.1))], [.inl 1], b3.2)) 1 rfl rfl rfl ?_
      exact ct_zret C (pc := 91) (aux := 0) (ins := .ireturn) (ρ := (fun r : Int × ct_H => (some (.inl (r.1) : ct_PV), r.2))) (some (.inl 1)) rfl rfl rfl ⟨rfl, Or.inr ⟨rfl, Or.inr rfl⟩⟩
    · refine ct_zrun C (k' := 17) (y := ([(0, .inr (.inr (0, o))), (1, .inl a1), (2, .inl a2), (3, .inl a3), (4, .inl v2), (5, .inl (b3.1))], [.inl (b3.2.1 o 2), .inl (b3.1)], b3.2)) 3 rfl rfl rfl ?_
      refine ct_zdv C (pc := 32) (aux := 0) rfl rfl (fun v5 => ?_)
      refine ct_zrun C (k' := 21) (y := ([(0, .inr (.inr (0, o))), (1, .inl a1), (2, .inl a2), (3, .inl a3), (4, .inl v2), (5, .inl (b3.1))], [.inl (b3.2.1 o 2), .inl a1, .inl v5], b3.2)) 3 rfl rfl rfl ?_
      refine ct_zdv C (pc := 38) (aux := 0) rfl rfl (fun v6 => ?_)
      refine ct_zrun C (k' := 23) (y := ([(0, .inr (.inr (0, o))), (1, .inl a1), (2, .inl a2), (3, .inl a3), (4, .inl v2), (5, .inl (b3.1))], [.inl (ct_wr (v5 - v6))], b3.2)) 1 rfl rfl rfl ?_
      refine ct_zabs C (pc := 40) (aux := 0) lk_X0_78 rfl rfl rfl ?_
      refine ct_zrun C (k' := 27) (y := ([(0, .inr (.inr (0, o))), (1, .inl a1), (2, .inl a2), (3, .inl a3), (4, .inl v2), (5, .inl (b3.1))], [.inl (b3.2.1 o 2), .inl (b3.1), .inl (ct_abs (ct_wr (v5 - v6)))], b3.2)) 3 rfl rfl rfl ?_
      refine ct_zmd C (pc := 49) (aux := 0) rfl rfl (fun v7 => ?_)
      refine ct_zrun C (k' := 31) (y := ([(0, .inr (.inr (0, o))), (1, .inl a1), (2, .inl a2), (3, .inl a3), (4, .inl v2), (5, .inl (b3.1))], [.inl (b3.2.1 o 2), .inl a1, .inl v7, .inl (ct_abs (ct_wr (v5 - v6)))], b3.2)) 3 rfl rfl rfl ?_
      refine ct_zmd C (pc := 55) (aux := 0) rfl rfl (fun v8 => ?_)
      refine ct_zrun C (k' := 33) (y := ([(0, .inr (.inr (0, o))), (1, .inl a1), (2, .inl a2), (3, .inl a3), (4, .inl v2), (5, .inl (b3.1))], [.inl (ct_wr (v7 - v8)), .inl (ct_abs (ct_wr (v5 - v6)))], b3.2)) 1 rfl rfl rfl ?_
      refine ct_zabs C (pc := 57) (aux := 0) lk_X0_78 rfl rfl rfl ?_
      refine ct_zrun C (k' := 36) (y := ([(6, .inl (ct_wr ((ct_abs (ct_wr (v5 - v6))) + (ct_abs (ct_wr (v7 - v8)))))), (0, .inr (.inr (0, o))), (1, .inl a1), (2, .inl a2), (3, .inl a3), (4, .inl v2), (5, .inl (b3.1))], [], b3.2)) 2 rfl rfl rfl ?_
      refine ct_zlet (L := fun v9 => [(6, .inl v9), (0, .inr (.inr (0, o))), (1, .inl a1), (2, .inl a2), (3, .inl a3), (4, .inl v2), (5, .inl (b3.1))]) (S := fun _ => []) (Hh := fun _ => b3.2) (a := (ct_wr ((ct_abs (ct_wr (v5 - v6))) + (ct_abs (ct_wr (v7 - v8)))))) (fun v9 => ?_)
      refine ct_zrun C (k' := 40) (y := ([(6, .inl v9), (0, .inr (.inr (0, o))), (1, .inl a1), (2, .inl a2), (3, .inl a3), (4, .inl v2), (5, .inl (b3.1))], [.inl (b3.1), .inr (.inr (0, o)), .inl (b3.1), .inr (.inr (0, o))], b3.2)) 4 rfl rfl rfl ?_
      refine ct_zV C (pc := 69) (aux := 0) [.inl (b3.1)] [.inl (b3.1), .inr (.inr (0, o))] ok_X0_heightOf lk_X0_71 (e_X0_heightOf o (b3.1)) rfl rfl rfl rfl rfl rfl rfl rfl (fun v10 => ?_)
      refine ct_zrun C (k' := 46) (y := ([(6, .inl v9), (0, .inr (.inr (0, o))), (1, .inl a1), (2, .inl a2), (3, .inl a3), (4, .inl v2), (5, .inl (b3.1))], [.inl (ct_wr (a2 - (ct_wr (a3 * v9)))), .inl v10, .inl (b3.1), .inr (.inr (0, o))], b3.2)) 5 rfl rfl rfl ?_
      refine ct_zmax C (pc := 78) (aux := 0) lk_X0_65 rfl rfl rfl ?_
      refine ct_zV C (pc := 81) (aux := 0) [.inl (b3.1), .inl (ct_max v10 (ct_wr (a2 - (ct_wr (a3 * v9)))))] [] ok_X0_putHeight lk_X0_48 (e_X0_putHeight o (b3.1) (ct_max v10 (ct_wr (a2 - (ct_wr (a3 * v9)))))) rfl rfl rfl rfl rfl rfl rfl rfl (fun r11 => ?_)
      refine ct_zrun C (k' := 49) (y := ([(5, .inl (ct_wr (b3.1 + 1))), (6, .inl v9), (0, .inr (.inr (0, o))), (1, .inl a1), (2, .inl a2), (3, .inl a3), (4, .inl v2)], [], r11)) 1 rfl rfl rfl ?_
      refine ct_zgoto C (pc := 87) (aux := 0) (off := (-68)) (k' := 11) rfl rfl ?_
      exact ct_zsub [2, 3, 4, 5, 6, 0] rfl (ih ((ct_wr (b3.1 + 1)), r11))
def f_X0_heapUp (G : ct_G) (h : ct_H) (o : Nat) (a1 : Int) (a2 : Int) (a3 : Int) : Option (Int × ct_H) := (f_X0_isPoint G h o a1).bind fun v1 => if v1 = 0 then (some (0, h)) else (f_X0_points G h o).bind fun v2 => l_X0_heapUp_11 G o a1 a2 a3 v2 200 (0, h)
set_option maxRecDepth 100000 in
theorem e_X0_heapUp {d : Nat} {G : ct_G} {h : ct_H} (o : Nat) (a1 : Int) (a2 : Int) (a3 : Int) : ct_E m_X0_heapUp (d + 2) G (ct_args 0 [.inr (.inr (0, o)), .inl a1, .inl a2, .inl a3]) h (fun r : Int × ct_H => (some (.inl (r.1) : ct_PV), r.2)) (f_X0_heapUp G h o a1 a2 a3) := by
  intro x C
  unfold f_X0_heapUp
  show ct_Z x m_X0_heapUp G 0 [(0, .inr (.inr (0, o))), (1, .inl a1), (2, .inl a2), (3, .inl a3)] [] h (fun a => ct_q x G ((fun r : Int × ct_H => (some (.inl (r.1) : ct_PV), r.2)) a)) _
  refine ct_zrun C (k' := 2) (y := ([(0, .inr (.inr (0, o))), (1, .inl a1), (2, .inl a2), (3, .inl a3)], [.inl a1, .inr (.inr (0, o))], h)) 2 rfl rfl rfl ?_
  refine ct_zV C (pc := 2) (aux := 0) [.inl a1] [] ok_X0_isPoint lk_X0_74 (e_X0_isPoint o a1) rfl rfl rfl rfl rfl rfl rfl rfl (fun v1 => ?_)
  refine ct_zf0 C (pc := 5) (aux := 0) (cn := .ne) (off := 5) (k' := 6) (a := v1) Iff.rfl rfl rfl rfl (fun e13 => ?_) (fun e13 => ?_)
  · refine ct_zrun C (k' := 5) (y := ([(0, .inr (.inr (0, o))), (1, .inl a1), (2, .inl a2), (3, .inl a3)], [.inl 0], h)) 1 rfl rfl rfl ?_
    exact ct_zret C (pc := 9) (aux := 0) (ins := .ireturn) (ρ := (fun r : Int × ct_H => (some (.inl (r.1) : ct_PV), r.2))) (some (.inl 0)) rfl rfl rfl ⟨rfl, Or.inr ⟨rfl, Or.inl rfl⟩⟩
  · refine ct_zrun C (k' := 7) (y := ([(0, .inr (.inr (0, o))), (1, .inl a1), (2, .inl a2), (3, .inl a3)], [.inr (.inr (0, o))], h)) 1 rfl rfl rfl ?_
    refine ct_zV C (pc := 11) (aux := 0) [] [] ok_X0_points lk_X0_44 (e_X0_points o) rfl rfl rfl rfl rfl rfl rfl rfl (fun v2 => ?_)
    refine ct_zrun C (k' := 11) (y := ([(5, .inl 0), (4, .inl v2), (0, .inr (.inr (0, o))), (1, .inl a1), (2, .inl a2), (3, .inl a3)], [], h)) 3 rfl rfl rfl ?_
    exact ct_zsub [2, 3, 4, 5, 1, 0] rfl (zl_X0_heapUp_11 C o a1 a2 a3 v2 200 (0, h))
def f_X0_isEdge (G : ct_G) (h : ct_H) (o : Nat) (a1 : Int) : Option (Int) := if a1 < 0 then (some 0) else if a1 < (ct_wr (2 * (h.1 o 4))) then ((ct_dv a1 2).bind fun v1 => (ct_md a1 2).bind fun v2 => if v2 = 0 then ((ct_md v1 (h.1 o 3)).bind fun v4 => if (ct_wr ((h.1 o 3) - 1)) ≤ v4 then (some 0) else some 1) else if (h.1 o 4) ≤ (ct_wr (v1 + (h.1 o 3))) then (some 0) else some 1) else some 0
set_option maxRecDepth 100000 in
theorem e_X0_isEdge {d : Nat} {G : ct_G} {h : ct_H} (o : Nat) (a1 : Int) : ct_E m_X0_isEdge d G (ct_args 0 [.inr (.inr (0, o)), .inl a1]) h (fun r : Int => (some (.inl r : ct_PV), h)) (f_X0_isEdge G h o a1) := by
  intro x C
  unfold f_X0_isEdge
  show ct_Z x m_X0_isEdge G 0 [(0, .inr (.inr (0, o))), (1, .inl a1)] [] h (fun a => ct_q x G ((fun r : Int => (some (.inl r : ct_PV), h)) a)) _
  refine ct_zrun C (k' := 1) (y := ([(0, .inr (.inr (0, o))), (1, .inl a1)], [.inl a1], h)) 1 rfl rfl rfl ?_
  refine ct_zt0 C (pc := 1) (aux := 0) (cn := .lt) (off := 13) (k' := 8) (a := a1) Iff.rfl rfl rfl rfl (fun e8 => ?_) (fun e8 => ?_)
  · refine ct_zrun C (k' := 9) (y := ([(0, .inr (.inr (0, o))), (1, .inl a1)], [.inl 0], h)) 1 rfl rfl rfl ?_
    exact ct_zret C (pc := 15) (aux := 0) (ins := .ireturn) (ρ := (fun r : Int => (some (.inl r : ct_PV), h))) (some (.inl 0)) rfl rfl rfl ⟨rfl, Or.inr ⟨rfl, Or.inl rfl⟩⟩
  · refine ct_zrun C (k' := 7) (y := ([(0, .inr (.inr (0, o))), (1, .inl a1)], [.inl (ct_wr (2 * (h.1 o 4))), .inl a1], h)) 5 rfl rfl rfl ?_
    refine ct_zt C (pc := 11) (aux := 0) (cn := .lt) (off := 5) (k' := 10) (a := a1) (b := (ct_wr (2 * (h.1 o 4)))) Iff.rfl rfl rfl rfl (fun e7 => ?_) (fun e7 => ?_)
    · refine ct_zrun C (k' := 12) (y := ([(0, .inr (.inr (0, o))), (1, .inl a1)], [.inl 2, .inl a1], h)) 2 rfl rfl rfl ?_
      refine ct_zdv C (pc := 18) (aux := 0) rfl rfl (fun v1 => ?_)
      refine ct_zrun C (k' := 16) (y := ([(2, .inl v1), (0, .inr (.inr (0, o))), (1, .inl a1)], [.inl 2, .inl a1], h)) 3 rfl rfl rfl ?_
      refine ct_zmd C (pc := 22) (aux := 0) rfl rfl (fun v2 => ?_)
      refine ct_zf0 C (pc := 23) (aux := 0) (cn := .ne) (off := 26) (k' := 31) (a := v2) Iff.rfl rfl rfl rfl (fun e6 => ?_) (fun e6 => ?_)
      · refine ct_zrun C (k' := 21) (y := ([(2, .inl v1), (0, .inr (.inr (0, o))), (1, .inl a1)], [.inl (h.1 o 3), .inl v1], h)) 3 rfl rfl rfl ?_
        refine ct_zmd C (pc := 31) (aux := 0) rfl rfl (fun v4 => ?_)
        refine ct_zrun C (k' := 26) (y := ([(2, .inl v1), (0, .inr (.inr (0, o))), (1, .inl a1)], [.inl (ct_wr ((h.1 o 3) - 1)), .inl v4], h)) 4 rfl rfl rfl ?_
        refine ct_zt C (pc := 38) (aux := 0) (cn := .ge) (off := 7) (k' := 29) (a := v4) (b := (ct_wr ((h.1 o 3) - 1))) Iff.rfl rfl rfl rfl (fun e5 => ?_) (fun e5 => ?_)
        · refine ct_zrun C (k' := 30) (y := ([(2, .inl v1), (0, .inr (.inr (0, o))), (1, .inl a1)], [.inl 0], h)) 1 rfl rfl rfl ?_
          refine ct_zgoto C (pc := 46) (aux := 0) (off := 21) (k' := 41) rfl rfl ?_
          exact ct_zret C (pc := 67) (aux := 0) (ins := .ireturn) (ρ := (fun r : Int => (some (.inl r : ct_PV), h))) (some (.inl 0)) rfl rfl rfl ⟨rfl, Or.inr ⟨rfl, Or.inl rfl⟩⟩
        · refine ct_zrun C (k' := 28) (y := ([(2, .inl v1), (0, .inr (.inr (0, o))), (1, .inl a1)], [.inl 1], h)) 1 rfl rfl rfl ?_
          refine ct_zgoto C (pc := 42) (aux := 0) (off := 25) (k' := 41) rfl rfl ?_
          exact ct_zret C (pc := 67) (aux := 0) (ins := .ireturn) (ρ := (fun r : Int => (some (.inl r : ct_PV), h))) (some (.inl 1)) rfl rfl rfl ⟨rfl, Or.inr ⟨rfl, Or.inr rfl⟩⟩
      · refine ct_zrun C (k' := 37) (y := ([(2, .inl v1), (0, .inr (.inr (0, o))), (1, .inl a1)], [.inl (h.1 o 4), .inl (ct_wr (v1 + (h.1 o 3)))], h)) 6 rfl rfl rfl ?_
        refine ct_zt C (pc := 59) (aux := 0) (cn := .ge) (off := 7) (k' := 40) (a := (ct_wr (v1 + (h.1 o 3)))) (b := (h.1 o 4)) Iff.rfl rfl rfl rfl (fun e3 => ?_) (fun e3 => ?_)
        · refine ct_zrun C (k' := 41) (y := ([(2, .inl v1), (0, .inr (.inr (0, o))), (1, .inl a1)], [.inl 0], h)) 1 rfl rfl rfl ?_
          exact ct_zret C (pc := 67) (aux := 0) (ins := .ireturn) (ρ := (fun r : Int => (some (.inl r : ct_PV), h))) (some (.inl 0)) rfl rfl rfl ⟨rfl, Or.inr ⟨rfl, Or.inl rfl⟩⟩
        · refine ct_zrun C (k' := 39) (y := ([(2, .inl v1), (0, .inr (.inr (0, o))), (1, .inl a1)], [.inl 1], h)) 1 rfl rfl rfl ?_
          refine ct_zgoto C (pc := 63) (aux := 0) (off := 4) (k' := 41) rfl rfl ?_
          exact ct_zret C (pc := 67) (aux := 0) (ins := .ireturn) (ρ := (fun r : Int => (some (.inl r : ct_PV), h))) (some (.inl 1)) rfl rfl rfl ⟨rfl, Or.inr ⟨rfl, Or.inr rfl⟩⟩
    · refine ct_zrun C (k' := 9) (y := ([(0, .inr (.inr (0, o))), (1, .inl a1)], [.inl 0], h)) 1 rfl rfl rfl ?_
      exact ct_zret C (pc := 15) (aux := 0) (ins := .ireturn) (ρ := (fun r : Int => (some (.inl r : ct_PV), h))) (some (.inl 0)) rfl rfl rfl ⟨rfl, Or.inr ⟨rfl, Or.inl rfl⟩⟩
def f_X0_isSquare (G : ct_G) (h : ct_H) (o : Nat) (a1 : Int) : Option (Int) := if a1 < 0 then (some 0) else if (ct_wr ((ct_wr ((h.1 o 1) + 1)) * (ct_wr ((h.1 o 2) + 1)))) ≤ a1 then (some 0) else some 1
set_option maxRecDepth 100000 in
theorem e_X0_isSquare {d : Nat} {G : ct_G} {h : ct_H} (o : Nat) (a1 : Int) : ct_E m_X0_isSquare d G (ct_args 0 [.inr (.inr (0, o)), .inl a1]) h (fun r : Int => (some (.inl r : ct_PV), h)) (f_X0_isSquare G h o a1) := by
  intro x C
  unfold f_X0_isSquare
  show ct_Z x m_X0_isSquare G 0 [(0, .inr (.inr (0, o))), (1, .inl a1)] [] h (fun a => ct_q x G ((fun r : Int => (some (.inl r : ct_PV), h)) a)) _
  refine ct_zrun C (k' := 1) (y := ([(0, .inr (.inr (0, o))), (1, .inl a1)], [.inl a1], h)) 1 rfl rfl rfl ?_
  refine ct_zt0 C (pc := 1) (aux := 0) (cn := .lt) (off := 24) (k' := 15) (a := a1) Iff.rfl rfl rfl rfl (fun e2 => ?_) (fun e2 => ?_)
  · refine ct_zrun C (k' := 16) (y := ([(0, .inr (.inr (0, o))), (1, .inl a1)], [.inl 0], h)) 1 rfl rfl rfl ?_
    exact ct_zret C (pc := 26) (aux := 0) (ins := .ireturn) (ρ := (fun r : Int => (some (.inl r : ct_PV), h))) (some (.inl 0)) rfl rfl rfl ⟨rfl, Or.inr ⟨rfl, Or.inl rfl⟩⟩
  · refine ct_zrun C (k' := 12) (y := ([(0, .inr (.inr (0, o))), (1, .inl a1)], [.inl (ct_wr ((ct_wr ((h.1 o 1) + 1)) * (ct_wr ((h.1 o 2) + 1)))), .inl a1], h)) 10 rfl rfl rfl ?_
    refine ct_zt C (pc := 18) (aux := 0) (cn := .ge) (off := 7) (k' := 15) (a := a1) (b := (ct_wr ((ct_wr ((h.1 o 1) + 1)) * (ct_wr ((h.1 o 2) + 1))))) Iff.rfl rfl rfl rfl (fun e1 => ?_) (fun e1 => ?_)
    · refine ct_zrun C (k' := 16) (y := ([(0, .inr (.inr (0, o))), (1, .inl a1)], [.inl 0], h)) 1 rfl rfl rfl ?_
      exact ct_zret C (pc := 26) (aux := 0) (ins := .ireturn) (ρ := (fun r : Int => (some (.inl r : ct_PV), h))) (some (.inl 0)) rfl rfl rfl ⟨rfl, Or.inr ⟨rfl, Or.inl rfl⟩⟩
    · refine ct_zrun C (k' := 14) (y := ([(0, .inr (.inr (0, o))), (1, .inl a1)], [.inl 1], h)) 1 rfl rfl rfl ?_
      refine ct_zgoto C (pc := 22) (aux := 0) (off := 4) (k' := 16) rfl rfl ?_
      exact ct_zret C (pc := 26) (aux := 0) (ins := .ireturn) (ρ := (fun r : Int => (some (.inl r : ct_PV), h))) (some (.inl 1)) rfl rfl rfl ⟨rfl, Or.inr ⟨rfl, Or.inr rfl⟩⟩
def f_X0_cornerOf (G : ct_G) (h : ct_H) (o : Nat) (a1 : Int) : Option (Int) := (ct_dv a1 (ct_wr ((h.1 o 2) + 1))).bind fun v1 => (ct_md a1 (ct_wr ((h.1 o 2) + 1))).bind fun v2 => some (ct_wr ((ct_wr ((h.1 o 3) * v1)) + v2))
set_option maxRecDepth 100000 in
theorem e_X0_cornerOf {d : Nat} {G : ct_G} {h : ct_H} (o : Nat) (a1 : Int) : ct_E m_X0_cornerOf d G (ct_args 0 [.inr (.inr (0, o)), .inl a1]) h (fun r : Int => (some (.inl r : ct_PV), h)) (f_X0_cornerOf G h o a1) := by
  intro x C
  unfold f_X0_cornerOf
  show ct_Z x m_X0_cornerOf G 0 [(0, .inr (.inr (0, o))), (1, .inl a1)] [] h (fun a => ct_q x G ((fun r : Int => (some (.inl r : ct_PV), h)) a)) _
  refine ct_zrun C (k' := 7) (y := ([(0, .inr (.inr (0, o))), (1, .inl a1)], [.inl (ct_wr ((h.1 o 2) + 1)), .inl a1, .inl (h.1 o 3)], h)) 7 rfl rfl rfl ?_
  refine ct_zdv C (pc := 11) (aux := 0) rfl rfl (fun v1 => ?_)
  refine ct_zrun C (k' := 14) (y := ([(0, .inr (.inr (0, o))), (1, .inl a1)], [.inl (ct_wr ((h.1 o 2) + 1)), .inl a1, .inl (ct_wr ((h.1 o 3) * v1))], h)) 6 rfl rfl rfl ?_
  refine ct_zmd C (pc := 20) (aux := 0) rfl rfl (fun v2 => ?_)
  refine ct_zrun C (k' := 16) (y := ([(0, .inr (.inr (0, o))), (1, .inl a1)], [.inl (ct_wr ((ct_wr ((h.1 o 3) * v1)) + v2))], h)) 1 rfl rfl rfl ?_
  exact ct_zret C (pc := 22) (aux := 0) (ins := .ireturn) (ρ := (fun r : Int => (some (.inl r : ct_PV), h))) (some (.inl (ct_wr ((ct_wr ((h.1 o 3) * v1)) + v2)))) rfl rfl rfl ⟨rfl, Or.inl rfl⟩
def f_X0_caseOf (G : ct_G) (h : ct_H) (o : Nat) (a1 : Int) (a2 : Int) : Option (Int) := (ct_rd G h (G.1 o 0) a1).bind fun v1 => ct_jn (β := Int) (fun k3 => if v1 < a2 then (k3 0) else k3 1) (fun b2 => (ct_rd G h (G.1 o 0) (ct_wr (a1 + 1))).bind fun v5 => ct_jn (β := Int) (fun k7 => if v5 < a2 then (k7 0) else k7 2) (fun b6 => (ct_rd G h (G.1 o 0) (ct_wr ((ct_wr (a1 + (h.1 o 3))) + 1))).bind fun v9 => ct_jn (β := Int) (fun k11 => if v9 < a2 then (k11 0) else k11 4) (fun b10 => (ct_rd G h (G.1 o 0) (ct_wr (a1 + (h.1 o 3)))).bind fun v13 => if v13 < a2 then (some (ct_wr ((ct_wr ((ct_wr (b2 + b6)) + b10)) + 0))) else some (ct_wr ((ct_wr ((ct_wr (b2 + b6)) + b10)) + 8)))))
set_option maxRecDepth 100000 in
theorem e_X0_caseOf {d : Nat} {G : ct_G} {h : ct_H} (o : Nat) (a1 : Int) (a2 : Int) : ct_E m_X0_caseOf d G (ct_args 0 [.inr (.inr (0, o)), .inl a1, .inl a2]) h (fun r : Int => (some (.inl r : ct_PV), h)) (f_X0_caseOf G h o a1 a2) := by
  intro x C
  unfold f_X0_caseOf
  show ct_Z x m_X0_caseOf G 0 [(0, .inr (.inr (0, o))), (1, .inl a1), (2, .inl a2)] [] h (fun a => ct_q x G ((fun r : Int => (some (.inl r : ct_PV), h)) a)) _
  refine ct_zrun C (k' := 3) (y := ([(0, .inr (.inr (0, o))), (1, .inl a1), (2, .inl a2)], [.inl a1, .inr (.inr (8, (G.1 o 0)))], h)) 3 rfl rfl rfl ?_
  refine ct_zrd C (pc := 5) (aux := 0) (ins := .iaload) (cd := 8) rfl rfl (Or.inl ⟨rfl, rfl⟩) (fun v1 => ?_)
  refine ct_zrun C (k' := 5) (y := ([(0, .inr (.inr (0, o))), (1, .inl a1), (2, .inl a2)], [.inl a2, .inl v1], h)) 1 rfl rfl rfl ?_
  refine ct_zjn (β := Int) (kJ := 9) (L := fun b2 => [(0, .inr (.inr (0, o))), (1, .inl a1), (2, .inl a2)]) (S := fun b2 => [.inl b2]) (Hh := fun b2 => h) (fun b2 => ?_) (fun k3 z4 => ?_)
  · refine ct_zrun C (k' := 14) (y := ([(0, .inr (.inr (0, o))), (1, .inl a1), (2, .inl a2)], [.inl (ct_wr (a1 + 1)), .inr (.inr (8, (G.1 o 0))), .inl b2], h)) 5 rfl rfl rfl ?_
    refine ct_zrd C (pc := 22) (aux := 0) (ins := .iaload) (cd := 8) rfl rfl (Or.inl ⟨rfl, rfl⟩) (fun v5 => ?_)
    refine ct_zrun C (k' := 16) (y := ([(0, .inr (.inr (0, o))), (1, .inl a1), (2, .inl a2)], [.inl a2, .inl v5, .inl b2], h)) 1 rfl rfl rfl ?_
    refine ct_zjn (β := Int) (kJ := 20) (L := fun b6 => [(0, .inr (.inr (0, o))), (1, .inl a1), (2, .inl a2)]) (S := fun b6 => [.inl b6, .inl b2]) (Hh := fun b6 => h) (fun b6 => ?_) (fun k7 z8 => ?_)
    · refine ct_zrun C (k' := 29) (y := ([(0, .inr (.inr (0, o))), (1, .inl a1), (2, .inl a2)], [.inl (ct_wr ((ct_wr (a1 + (h.1 o 3))) + 1)), .inr (.inr (8, (G.1 o 0))), .inl (ct_wr (b2 + b6))], h)) 9 rfl rfl rfl ?_
      refine ct_zrd C (pc := 45) (aux := 0) (ins := .iaload) (cd := 8) rfl rfl (Or.inl ⟨rfl, rfl⟩) (fun v9 => ?_)
      refine ct_zrun C (k' := 31) (y := ([(0, .inr (.inr (0, o))), (1, .inl a1), (2, .inl a2)], [.inl a2, .inl v9, .inl (ct_wr (b2 + b6))], h)) 1 rfl rfl rfl ?_
      refine ct_zjn (β := Int) (kJ := 35) (L := fun b10 => [(0, .inr (.inr (0, o))), (1, .inl a1), (2, .inl a2)]) (S := fun b10 => [.inl b10, .inl (ct_wr (b2 + b6))]) (Hh := fun b10 => h) (fun b10 => ?_) (fun k11 z12 => ?_)
      · refine ct_zrun C (k' := 42) (y := ([(0, .inr (.inr (0, o))), (1, .inl a1), (2, .inl a2)], [.inl (ct_wr (a1 + (h.1 o 3))), .inr (.inr (8, (G.1 o 0))), .inl (ct_wr ((ct_wr (b2 + b6)) + b10))], h)) 7 rfl rfl rfl ?_
        refine ct_zrd C (pc := 66) (aux := 0) (ins := .iaload) (cd := 8) rfl rfl (Or.inl ⟨rfl, rfl⟩) (fun v13 => ?_)
        refine ct_zrun C (k' := 44) (y := ([(0, .inr (.inr (0, o))), (1, .inl a1), (2, .inl a2)], [.inl a2, .inl v13, .inl (ct_wr ((ct_wr (b2 + b6)) + b10))], h)) 1 rfl rfl rfl ?_
        refine ct_zt C (pc := 68) (aux := 0) (cn := .lt) (off := 8) (k' := 47) (a := v13) (b := a2) Iff.rfl rfl rfl rfl (fun e14 => ?_) (fun e14 => ?_)
        · refine ct_zrun C (k' := 49) (y := ([(0, .inr (.inr (0, o))), (1, .inl a1), (2, .inl a2)], [.inl (ct_wr ((ct_wr ((ct_wr (b2 + b6)) + b10)) + 0))], h)) 2 rfl rfl rfl ?_
          exact ct_zret C (pc := 78) (aux := 0) (ins := .ireturn) (ρ := (fun r : Int => (some (.inl r : ct_PV), h))) (some (.inl (ct_wr ((ct_wr ((ct_wr (b2 + b6)) + b10)) + 0)))) rfl rfl rfl ⟨rfl, Or.inl rfl⟩
        · refine ct_zrun C (k' := 46) (y := ([(0, .inr (.inr (0, o))), (1, .inl a1), (2, .inl a2)], [.inl 8, .inl (ct_wr ((ct_wr (b2 + b6)) + b10))], h)) 1 rfl rfl rfl ?_
          refine ct_zgoto C (pc := 73) (aux := 0) (off := 4) (k' := 48) rfl rfl ?_
          refine ct_zrun C (k' := 49) (y := ([(0, .inr (.inr (0, o))), (1, .inl a1), (2, .inl a2)], [.inl (ct_wr ((ct_wr ((ct_wr (b2 + b6)) + b10)) + 8))], h)) 1 rfl rfl rfl ?_
          exact ct_zret C (pc := 78) (aux := 0) (ins := .ireturn) (ρ := (fun r : Int => (some (.inl r : ct_PV), h))) (some (.inl (ct_wr ((ct_wr ((ct_wr (b2 + b6)) + b10)) + 8)))) rfl rfl rfl ⟨rfl, Or.inl rfl⟩
      · refine ct_zt C (pc := 47) (aux := 0) (cn := .lt) (off := 7) (k' := 34) (a := v9) (b := a2) Iff.rfl rfl rfl rfl (fun e15 => ?_) (fun e15 => ?_)
        · refine ct_zrun C (k' := 35) (y := ([(0, .inr (.inr (0, o))), (1, .inl a1), (2, .inl a2)], [.inl 0, .inl (ct_wr (b2 + b6))], h)) 1 rfl rfl rfl ?_
          exact ct_zsub [0, 1, 2] rfl (z12 0)
        · refine ct_zrun C (k' := 33) (y := ([(0, .inr (.inr (0, o))), (1, .inl a1), (2, .inl a2)], [.inl 4, .inl (ct_wr (b2 + b6))], h)) 1 rfl rfl rfl ?_
          refine ct_zgoto C (pc := 51) (aux := 0) (off := 4) (k' := 35) rfl rfl ?_
          exact ct_zsub [0, 1, 2] rfl (z12 4)
    · refine ct_zt C (pc := 24) (aux := 0) (cn := .lt) (off := 7) (k' := 19) (a := v5) (b := a2) Iff.rfl rfl rfl rfl (fun e16 => ?_) (fun e16 => ?_)
      · refine ct_zrun C (k' := 20) (y := ([(0, .inr (.inr (0, o))), (1, .inl a1), (2, .inl a2)], [.inl 0, .inl b2], h)) 1 rfl rfl rfl ?_
        exact ct_zsub [0, 1, 2] rfl (z8 0)
      · refine ct_zrun C (k' := 18) (y := ([(0, .inr (.inr (0, o))), (1, .inl a1), (2, .inl a2)], [.inl 2, .inl b2], h)) 1 rfl rfl rfl ?_
        refine ct_zgoto C (pc := 28) (aux := 0) (off := 4) (k' := 20) rfl rfl ?_
        exact ct_zsub [0, 1, 2] rfl (z8 2)
  · refine ct_zt C (pc := 7) (aux := 0) (cn := .lt) (off := 7) (k' := 8) (a := v1) (b := a2) Iff.rfl rfl rfl rfl (fun e17 => ?_) (fun e17 => ?_)
    · refine ct_zrun C (k' := 9) (y := ([(0, .inr (.inr (0, o))), (1, .inl a1), (2, .inl a2)], [.inl 0], h)) 1 rfl rfl rfl ?_
      exact ct_zsub [0, 1, 2] rfl (z4 0)
    · refine ct_zrun C (k' := 7) (y := ([(0, .inr (.inr (0, o))), (1, .inl a1), (2, .inl a2)], [.inl 1], h)) 1 rfl rfl rfl ?_
      refine ct_zgoto C (pc := 11) (aux := 0) (off := 4) (k' := 9) rfl rfl ?_
      exact ct_zsub [0, 1, 2] rfl (z4 1)
def f_X0_isSaddle (G : ct_G) (h : ct_H) (a0 : Int) : Option (Int) := if a0 = 5 then (some 1) else if a0 = 10 then (some 1) else some 0
set_option maxRecDepth 100000 in
theorem e_X0_isSaddle {d : Nat} {G : ct_G} {h : ct_H} (a0 : Int) : ct_E m_X0_isSaddle d G (ct_args 0 [.inl a0]) h (fun r : Int => (some (.inl r : ct_PV), h)) (f_X0_isSaddle G h a0) := by
  intro x C
  unfold f_X0_isSaddle
  show ct_Z x m_X0_isSaddle G 0 [(0, .inl a0)] [] h (fun a => ct_q x G ((fun r : Int => (some (.inl r : ct_PV), h)) a)) _
  refine ct_zrun C (k' := 2) (y := ([(0, .inl a0)], [.inl 5, .inl a0], h)) 2 rfl rfl rfl ?_
  refine ct_zt C (pc := 2) (aux := 0) (cn := .eq) (off := 9) (k' := 6) (a := a0) (b := 5) Iff.rfl rfl rfl rfl (fun e2 => ?_) (fun e2 => ?_)
  · refine ct_zrun C (k' := 7) (y := ([(0, .inl a0)], [.inl 1], h)) 1 rfl rfl rfl ?_
    refine ct_zgoto C (pc := 12) (aux := 0) (off := 4) (k' := 9) rfl rfl ?_
    exact ct_zret C (pc := 16) (aux := 0) (ins := .ireturn) (ρ := (fun r : Int => (some (.inl r : ct_PV), h))) (some (.inl 1)) rfl rfl rfl ⟨rfl, Or.inr ⟨rfl, Or.inr rfl⟩⟩
  · refine ct_zrun C (k' := 5) (y := ([(0, .inl a0)], [.inl 10, .inl a0], h)) 2 rfl rfl rfl ?_
    refine ct_zf C (pc := 8) (aux := 0) (cn := .ne) (off := 7) (k' := 8) (a := a0) (b := 10) Iff.rfl rfl rfl rfl (fun e1 => ?_) (fun e1 => ?_)
    · refine ct_zrun C (k' := 7) (y := ([(0, .inl a0)], [.inl 1], h)) 1 rfl rfl rfl ?_
      refine ct_zgoto C (pc := 12) (aux := 0) (off := 4) (k' := 9) rfl rfl ?_
      exact ct_zret C (pc := 16) (aux := 0) (ins := .ireturn) (ρ := (fun r : Int => (some (.inl r : ct_PV), h))) (some (.inl 1)) rfl rfl rfl ⟨rfl, Or.inr ⟨rfl, Or.inr rfl⟩⟩
    · refine ct_zrun C (k' := 9) (y := ([(0, .inl a0)], [.inl 0], h)) 1 rfl rfl rfl ?_
      exact ct_zret C (pc := 16) (aux := 0) (ins := .ireturn) (ρ := (fun r : Int => (some (.inl r : ct_PV), h))) (some (.inl 0)) rfl rfl rfl ⟨rfl, Or.inr ⟨rfl, Or.inl rfl⟩⟩
def f_X0_isJoined (G : ct_G) (h : ct_H) (o : Nat) (a1 : Int) (a2 : Int) : Option (Int) := (ct_rd G h (G.1 o 0) a1).bind fun v1 => ct_lt (ct_wr (v1 - a2)) fun v2 => (ct_rd G h (G.1 o 0) (ct_wr (a1 + 1))).bind fun v3 => ct_lt (ct_wr (v3 - a2)) fun v4 => (ct_rd G h (G.1 o 0) (ct_wr ((ct_wr (a1 + (h.1 o 3))) + 1))).bind fun v5 => ct_lt (ct_wr (v5 - a2)) fun v6 => (ct_rd G h (G.1 o 0) (ct_wr (a1 + (h.1 o 3)))).bind fun v7 => ct_lt (ct_wr (v7 - a2)) fun v8 => if (h.1 o 5) = 1 then (some 0) else if (h.1 o 5) = 2 then (if (ct_wr ((ct_wr ((ct_wr (v2 + v4)) + v6)) + v8)) < 0 then (some 0) else some 1) else if (h.1 o 5) = 3 then ((ct_dv a1 (h.1 o 3)).bind fun v12 => (ct_md a1 (h.1 o 3)).bind fun v13 => (ct_md (ct_wr (v12 + v13)) 2).bind fun v14 => if v14 = 0 then (some 1) else some 0) else if (h.1 o 5) = 4 then (ct_lt (ct_wr (v2 * v6)) fun v17 => ct_lt (ct_wr (v4 * v8)) fun v18 => if v2 < 0 then (if v18 < v17 then (some 0) else some 1) else if v17 < v18 then (some 0) else some 1) else some 1
set_option maxRecDepth 100000 in
theorem e_X0_isJoined {d : Nat} {G : ct_G} {h : ct_H} (o : Nat) (a1 : Int) (a2 : Int) : ct_E m_X0_isJoined d G (ct_args 0 [.inr (.inr (0, o)), .inl a1, .inl a2]) h (fun r : Int => (some (.inl r : ct_PV), h)) (f_X0_isJoined G h o a1 a2) := by
  intro x C
  unfold f_X0_isJoined
  show ct_Z x m_X0_isJoined G 0 [(0, .inr (.inr (0, o))), (1, .inl a1), (2, .inl a2)] [] h (fun a => ct_q x G ((fun r : Int => (some (.inl r : ct_PV), h)) a)) _
  refine ct_zrun C (k' := 3) (y := ([(0, .inr (.inr (0, o))), (1, .inl a1), (2, .inl a2)], [.inl a1, .inr (.inr (8, (G.1 o 0)))], h)) 3 rfl rfl rfl ?_
  refine ct_zrd C (pc := 5) (aux := 0) (ins := .iaload) (cd := 8) rfl rfl (Or.inl ⟨rfl, rfl⟩) (fun v1 => ?_)
  refine ct_zrun C (k' := 7) (y := ([(3, .inl (ct_wr (v1 - a2))), (0, .inr (.inr (0, o))), (1, .inl a1), (2, .inl a2)], [], h)) 3 rfl rfl rfl ?_
  refine ct_zlet (L := fun v2 => [(3, .inl v2), (0, .inr (.inr (0, o))), (1, .inl a1), (2, .inl a2)]) (S := fun _ => []) (Hh := fun _ => h) (a := (ct_wr (v1 - a2))) (fun v2 => ?_)
  refine ct_zrun C (k' := 12) (y := ([(3, .inl v2), (0, .inr (.inr (0, o))), (1, .inl a1), (2, .inl a2)], [.inl (ct_wr (a1 + 1)), .inr (.inr (8, (G.1 o 0)))], h)) 5 rfl rfl rfl ?_
  refine ct_zrd C (pc := 16) (aux := 0) (ins := .iaload) (cd := 8) rfl rfl (Or.inl ⟨rfl, rfl⟩) (fun v3 => ?_)
  refine ct_zrun C (k' := 16) (y := ([(4, .inl (ct_wr (v3 - a2))), (3, .inl v2), (0, .inr (.inr (0, o))), (1, .inl a1), (2, .inl a2)], [], h)) 3 rfl rfl rfl ?_
  refine ct_zlet (L := fun v4 => [(4, .inl v4), (3, .inl v2), (0, .inr (.inr (0, o))), (1, .inl a1), (2, .inl a2)]) (S := fun _ => []) (Hh := fun _ => h) (a := (ct_wr (v3 - a2))) (fun v4 => ?_)
  refine ct_zrun C (k' := 24) (y := ([(4, .inl v4), (3, .inl v2), (0, .inr (.inr (0, o))), (1, .inl a1), (2, .inl a2)], [.inl (ct_wr ((ct_wr (a1 + (h.1 o 3))) + 1)), .inr (.inr (8, (G.1 o 0)))], h)) 8 rfl rfl rfl ?_
  refine ct_zrd C (pc := 33) (aux := 0) (ins := .iaload) (cd := 8) rfl rfl (Or.inl ⟨rfl, rfl⟩) (fun v5 => ?_)
  refine ct_zrun C (k' := 28) (y := ([(5, .inl (ct_wr (v5 - a2))), (4, .inl v4), (3, .inl v2), (0, .inr (.inr (0, o))), (1, .inl a1), (2, .inl a2)], [], h)) 3 rfl rfl rfl ?_
  refine ct_zlet (L := fun v6 => [(5, .inl v6), (4, .inl v4), (3, .inl v2), (0, .inr (.inr (0, o))), (1, .inl a1), (2, .inl a2)]) (S := fun _ => []) (Hh := fun _ => h) (a := (ct_wr (v5 - a2))) (fun v6 => ?_)
  refine ct_zrun C (k' := 34) (y := ([(5, .inl v6), (4, .inl v4), (3, .inl v2), (0, .inr (.inr (0, o))), (1, .inl a1), (2, .inl a2)], [.inl (ct_wr (a1 + (h.1 o 3))), .inr (.inr (8, (G.1 o 0)))], h)) 6 rfl rfl rfl ?_
  refine ct_zrd C (pc := 48) (aux := 0) (ins := .iaload) (cd := 8) rfl rfl (Or.inl ⟨rfl, rfl⟩) (fun v7 => ?_)
  refine ct_zrun C (k' := 38) (y := ([(6, .inl (ct_wr (v7 - a2))), (5, .inl v6), (4, .inl v4), (3, .inl v2), (0, .inr (.inr (0, o))), (1, .inl a1), (2, .inl a2)], [], h)) 3 rfl rfl rfl ?_
  refine ct_zlet (L := fun v8 => [(6, .inl v8), (5, .inl v6), (4, .inl v4), (3, .inl v2), (0, .inr (.inr (0, o))), (1, .inl a1), (2, .inl a2)]) (S := fun _ => []) (Hh := fun _ => h) (a := (ct_wr (v7 - a2))) (fun v8 => ?_)
  refine ct_zrun C (k' := 40) (y := ([(6, .inl v8), (5, .inl v6), (4, .inl v4), (3, .inl v2), (0, .inr (.inr (0, o))), (1, .inl a1), (2, .inl a2)], [.inl (h.1 o 5)], h)) 2 rfl rfl rfl ?_
  refine ct_zsplit (fun e9 => ?_) (fun e9 => ?_)
  · refine ct_zsw C (off := 31) (k' := 41) rfl (by rw [e9]; rfl) rfl ?_
    refine ct_zrun C (k' := 42) (y := ([(6, .inl v8), (5, .inl v6), (4, .inl v4), (3, .inl v2), (0, .inr (.inr (0, o))), (1, .inl a1), (2, .inl a2)], [.inl 0], h)) 1 rfl rfl rfl ?_
    exact ct_zret C (pc := 89) (aux := 0) (ins := .ireturn) (ρ := (fun r : Int => (some (.inl r : ct_PV), h))) (some (.inl 0)) rfl rfl rfl ⟨rfl, Or.inr ⟨rfl, Or.inl rfl⟩⟩
  · refine ct_zsplit (fun e11 => ?_) (fun e11 => ?_)
    · refine ct_zsw C (off := 33) (k' := 43) rfl (by rw [e11]; rfl) rfl ?_
      refine ct_zrun C (k' := 50) (y := ([(6, .inl v8), (5, .inl v6), (4, .inl v4), (3, .inl v2), (0, .inr (.inr (0, o))), (1, .inl a1), (2, .inl a2)], [.inl (ct_wr ((ct_wr ((ct_wr (v2 + v4)) + v6)) + v8))], h)) 7 rfl rfl rfl ?_
      refine ct_zt0 C (pc := 100) (aux := 0) (cn := .lt) (off := 7) (k' := 53) (a := (ct_wr ((ct_wr ((ct_wr (v2 + v4)) + v6)) + v8))) Iff.rfl rfl rfl rfl (fun e10 => ?_) (fun e10 => ?_)
      · refine ct_zrun C (k' := 54) (y := ([(6, .inl v8), (5, .inl v6), (4, .inl v4), (3, .inl v2), (0, .inr (.inr (0, o))), (1, .inl a1), (2, .inl a2)], [.inl 0], h)) 1 rfl rfl rfl ?_
        exact ct_zret C (pc := 108) (aux := 0) (ins := .ireturn) (ρ := (fun r : Int => (some (.inl r : ct_PV), h))) (some (.inl 0)) rfl rfl rfl ⟨rfl, Or.inr ⟨rfl, Or.inl rfl⟩⟩
      · refine ct_zrun C (k' := 52) (y := ([(6, .inl v8), (5, .inl v6), (4, .inl v4), (3, .inl v2), (0, .inr (.inr (0, o))), (1, .inl a1), (2, .inl a2)], [.inl 1], h)) 1 rfl rfl rfl ?_
        refine ct_zgoto C (pc := 104) (aux := 0) (off := 4) (k' := 54) rfl rfl ?_
        exact ct_zret C (pc := 108) (aux := 0) (ins := .ireturn) (ρ := (fun r : Int => (some (.inl r : ct_PV), h))) (some (.inl 1)) rfl rfl rfl ⟨rfl, Or.inr ⟨rfl, Or.inr rfl⟩⟩
    · refine ct_zsplit (fun e16 => ?_) (fun e16 => ?_)
      · refine ct_zsw C (off := 52) (k' := 55) rfl (by rw [e16]; rfl) rfl ?_
        refine ct_zrun C (k' := 58) (y := ([(6, .inl v8), (5, .inl v6), (4, .inl v4), (3, .inl v2), (0, .inr (.inr (0, o))), (1, .inl a1), (2, .inl a2)], [.inl (h.1 o 3), .inl a1], h)) 3 rfl rfl rfl ?_
        refine ct_zdv C (pc := 114) (aux := 0) rfl rfl (fun v12 => ?_)
        refine ct_zrun C (k' := 62) (y := ([(6, .inl v8), (5, .inl v6), (4, .inl v4), (3, .inl v2), (0, .inr (.inr (0, o))), (1, .inl a1), (2, .inl a2)], [.inl (h.1 o 3), .inl a1, .inl v12], h)) 3 rfl rfl rfl ?_
        refine ct_zmd C (pc := 120) (aux := 0) rfl rfl (fun v13 => ?_)
        refine ct_zrun C (k' := 65) (y := ([(6, .inl v8), (5, .inl v6), (4, .inl v4), (3, .inl v2), (0, .inr (.inr (0, o))), (1, .inl a1), (2, .inl a2)], [.inl 2, .inl (ct_wr (v12 + v13))], h)) 2 rfl rfl rfl ?_
        refine ct_zmd C (pc := 123) (aux := 0) rfl rfl (fun v14 => ?_)
        refine ct_zf0 C (pc := 124) (aux := 0) (cn := .ne) (off := 7) (k' := 69) (a := v14) Iff.rfl rfl rfl rfl (fun e15 => ?_) (fun e15 => ?_)
        · refine ct_zrun C (k' := 68) (y := ([(6, .inl v8), (5, .inl v6), (4, .inl v4), (3, .inl v2), (0, .inr (.inr (0, o))), (1, .inl a1), (2, .inl a2)], [.inl 1], h)) 1 rfl rfl rfl ?_
          refine ct_zgoto C (pc := 128) (aux := 0) (off := 4) (k' := 70) rfl rfl ?_
          exact ct_zret C (pc := 132) (aux := 0) (ins := .ireturn) (ρ := (fun r : Int => (some (.inl r : ct_PV), h))) (some (.inl 1)) rfl rfl rfl ⟨rfl, Or.inr ⟨rfl, Or.inr rfl⟩⟩
        · refine ct_zrun C (k' := 70) (y := ([(6, .inl v8), (5, .inl v6), (4, .inl v4), (3, .inl v2), (0, .inr (.inr (0, o))), (1, .inl a1), (2, .inl a2)], [.inl 0], h)) 1 rfl rfl rfl ?_
          exact ct_zret C (pc := 132) (aux := 0) (ins := .ireturn) (ρ := (fun r : Int => (some (.inl r : ct_PV), h))) (some (.inl 0)) rfl rfl rfl ⟨rfl, Or.inr ⟨rfl, Or.inl rfl⟩⟩
      · refine ct_zsplit (fun e22 => ?_) (fun e22 => ?_)
        · refine ct_zsw C (off := 76) (k' := 71) rfl (by rw [e22]; rfl) rfl ?_
          refine ct_zrun C (k' := 75) (y := ([(7, .inl (ct_wr (v2 * v6))), (6, .inl v8), (5, .inl v6), (4, .inl v4), (3, .inl v2), (0, .inr (.inr (0, o))), (1, .inl a1), (2, .inl a2)], [], h)) 4 rfl rfl rfl ?_
          refine ct_zlet (L := fun v17 => [(7, .inl v17), (6, .inl v8), (5, .inl v6), (4, .inl v4), (3, .inl v2), (0, .inr (.inr (0, o))), (1, .inl a1), (2, .inl a2)]) (S := fun _ => []) (Hh := fun _ => h) (a := (ct_wr (v2 * v6))) (fun v17 => ?_)
          refine ct_zrun C (k' := 79) (y := ([(8, .inl (ct_wr (v4 * v8))), (7, .inl v17), (6, .inl v8), (5, .inl v6), (4, .inl v4), (3, .inl v2), (0, .inr (.inr (0, o))), (1, .inl a1), (2, .inl a2)], [], h)) 4 rfl rfl rfl ?_
          refine ct_zlet (L := fun v18 => [(8, .inl v18), (7, .inl v17), (6, .inl v8), (5, .inl v6), (4, .inl v4), (3, .inl v2), (0, .inr (.inr (0, o))), (1, .inl a1), (2, .inl a2)]) (S := fun _ => []) (Hh := fun _ => h) (a := (ct_wr (v4 * v8))) (fun v18 => ?_)
          refine ct_zrun C (k' := 80) (y := ([(8, .inl v18), (7, .inl v17), (6, .inl v8), (5, .inl v6), (4, .inl v4), (3, .inl v2), (0, .inr (.inr (0, o))), (1, .inl a1), (2, .inl a2)], [.inl v2], h)) 1 rfl rfl rfl ?_
          refine ct_zt0 C (pc := 147) (aux := 0) (cn := .lt) (off := 18) (k' := 88) (a := v2) Iff.rfl rfl rfl rfl (fun e21 => ?_) (fun e21 => ?_)
          · refine ct_zrun C (k' := 90) (y := ([(8, .inl v18), (7, .inl v17), (6, .inl v8), (5, .inl v6), (4, .inl v4), (3, .inl v2), (0, .inr (.inr (0, o))), (1, .inl a1), (2, .inl a2)], [.inl v17, .inl v18], h)) 2 rfl rfl rfl ?_
            refine ct_zt C (pc := 169) (aux := 0) (cn := .lt) (off := 7) (k' := 93) (a := v18) (b := v17) Iff.rfl rfl rfl rfl (fun e19 => ?_) (fun e19 => ?_)
            · refine ct_zrun C (k' := 94) (y := ([(8, .inl v18), (7, .inl v17), (6, .inl v8), (5, .inl v6), (4, .inl v4), (3, .inl v2), (0, .inr (.inr (0, o))), (1, .inl a1), (2, .inl a2)], [.inl 0], h)) 1 rfl rfl rfl ?_
              exact ct_zret C (pc := 177) (aux := 0) (ins := .ireturn) (ρ := (fun r : Int => (some (.inl r : ct_PV), h))) (some (.inl 0)) rfl rfl rfl ⟨rfl, Or.inr ⟨rfl, Or.inl rfl⟩⟩
            · refine ct_zrun C (k' := 92) (y := ([(8, .inl v18), (7, .inl v17), (6, .inl v8), (5, .inl v6), (4, .inl v4), (3, .inl v2), (0, .inr (.inr (0, o))), (1, .inl a1), (2, .inl a2)], [.inl 1], h)) 1 rfl rfl rfl ?_
              refine ct_zgoto C (pc := 173) (aux := 0) (off := 4) (k' := 94) rfl rfl ?_
              exact ct_zret C (pc := 177) (aux := 0) (ins := .ireturn) (ρ := (fun r : Int => (some (.inl r : ct_PV), h))) (some (.inl 1)) rfl rfl rfl ⟨rfl, Or.inr ⟨rfl, Or.inr rfl⟩⟩
          · refine ct_zrun C (k' := 83) (y := ([(8, .inl v18), (7, .inl v17), (6, .inl v8), (5, .inl v6), (4, .inl v4), (3, .inl v2), (0, .inr (.inr (0, o))), (1, .inl a1), (2, .inl a2)], [.inl v18, .inl v17], h)) 2 rfl rfl rfl ?_
            refine ct_zt C (pc := 154) (aux := 0) (cn := .lt) (off := 7) (k' := 86) (a := v17) (b := v18) Iff.rfl rfl rfl rfl (fun e20 => ?_) (fun e20 => ?_)
            · refine ct_zrun C (k' := 87) (y := ([(8, .inl v18), (7, .inl v17), (6, .inl v8), (5, .inl v6), (4, .inl v4), (3, .inl v2), (0, .inr (.inr (0, o))), (1, .inl a1), (2, .inl a2)], [.inl 0], h)) 1 rfl rfl rfl ?_
              refine ct_zgoto C (pc := 162) (aux := 0) (off := 15) (k' := 94) rfl rfl ?_
              exact ct_zret C (pc := 177) (aux := 0) (ins := .ireturn) (ρ := (fun r : Int => (some (.inl r : ct_PV), h))) (some (.inl 0)) rfl rfl rfl ⟨rfl, Or.inr ⟨rfl, Or.inl rfl⟩⟩
            · refine ct_zrun C (k' := 85) (y := ([(8, .inl v18), (7, .inl v17), (6, .inl v8), (5, .inl v6), (4, .inl v4), (3, .inl v2), (0, .inr (.inr (0, o))), (1, .inl a1), (2, .inl a2)], [.inl 1], h)) 1 rfl rfl rfl ?_
              refine ct_zgoto C (pc := 158) (aux := 0) (off := 19) (k' := 94) rfl rfl ?_
              exact ct_zret C (pc := 177) (aux := 0) (ins := .ireturn) (ρ := (fun r : Int => (some (.inl r : ct_PV), h))) (some (.inl 1)) rfl rfl rfl ⟨rfl, Or.inr ⟨rfl, Or.inr rfl⟩⟩
        · refine ct_zsw C (off := 121) (k' := 95) rfl (by show (if _ then _ else _) = _; rw [if_pos (by omega)]) rfl ?_
          refine ct_zrun C (k' := 96) (y := ([(6, .inl v8), (5, .inl v6), (4, .inl v4), (3, .inl v2), (0, .inr (.inr (0, o))), (1, .inl a1), (2, .inl a2)], [.inl 1], h)) 1 rfl rfl rfl ?_
          exact ct_zret C (pc := 179) (aux := 0) (ins := .ireturn) (ρ := (fun r : Int => (some (.inl r : ct_PV), h))) (some (.inl 1)) rfl rfl rfl ⟨rfl, Or.inr ⟨rfl, Or.inr rfl⟩⟩
def f_X0_isJoinedSaddle (G : ct_G) (h : ct_H) (o : Nat) (a1 : Int) (a2 : Int) : Option (Int) := (f_X0_caseOf G h o a1 a2).bind fun v1 => (f_X0_isSaddle G h v1).bind fun v2 => if v2 = 0 then (some 0) else (f_X0_isJoined G h o a1 a2).bind fun v3 => if v3 = 0 then (some 0) else some 1
set_option maxRecDepth 100000 in
theorem e_X0_isJoinedSaddle {d : Nat} {G : ct_G} {h : ct_H} (o : Nat) (a1 : Int) (a2 : Int) : ct_E m_X0_isJoinedSaddle (d + 1) G (ct_args 0 [.inr (.inr (0, o)), .inl a1, .inl a2]) h (fun r : Int => (some (.inl r : ct_PV), h)) (f_X0_isJoinedSaddle G h o a1 a2) := by
  intro x C
  unfold f_X0_isJoinedSaddle
  show ct_Z x m_X0_isJoinedSaddle G 0 [(0, .inr (.inr (0, o))), (1, .inl a1), (2, .inl a2)] [] h (fun a => ct_q x G ((fun r : Int => (some (.inl r : ct_PV), h)) a)) _
  refine ct_zrun C (k' := 3) (y := ([(0, .inr (.inr (0, o))), (1, .inl a1), (2, .inl a2)], [.inl a2, .inl a1, .inr (.inr (0, o))], h)) 3 rfl rfl rfl ?_
  refine ct_zV C (pc := 3) (aux := 0) [.inl a1, .inl a2] [] ok_X0_caseOf lk_X0_81 (e_X0_caseOf o a1 a2) rfl rfl rfl rfl rfl rfl rfl rfl (fun v1 => ?_)
  refine ct_zS C (pc := 6) (aux := 0) [.inl v1] [] ok_X0_isSaddle lk_X0_84 (e_X0_isSaddle v1) rfl rfl rfl rfl rfl rfl (fun v2 => ?_)
  refine ct_zt0 C (pc := 9) (aux := 0) (cn := .eq) (off := 16) (k' := 13) (a := v2) Iff.rfl rfl rfl rfl (fun e5 => ?_) (fun e5 => ?_)
  · refine ct_zrun C (k' := 14) (y := ([(0, .inr (.inr (0, o))), (1, .inl a1), (2, .inl a2)], [.inl 0], h)) 1 rfl rfl rfl ?_
    exact ct_zret C (pc := 26) (aux := 0) (ins := .ireturn) (ρ := (fun r : Int => (some (.inl r : ct_PV), h))) (some (.inl 0)) rfl rfl rfl ⟨rfl, Or.inr ⟨rfl, Or.inl rfl⟩⟩
  · refine ct_zrun C (k' := 9) (y := ([(0, .inr (.inr (0, o))), (1, .inl a1), (2, .inl a2)], [.inl a2, .inl a1, .inr (.inr (0, o))], h)) 3 rfl rfl rfl ?_
    refine ct_zV C (pc := 15) (aux := 0) [.inl a1, .inl a2] [] ok_X0_isJoined lk_X0_87 (e_X0_isJoined o a1 a2) rfl rfl rfl rfl rfl rfl rfl rfl (fun v3 => ?_)
    refine ct_zt0 C (pc := 18) (aux := 0) (cn := .eq) (off := 7) (k' := 13) (a := v3) Iff.rfl rfl rfl rfl (fun e4 => ?_) (fun e4 => ?_)
    · refine ct_zrun C (k' := 14) (y := ([(0, .inr (.inr (0, o))), (1, .inl a1), (2, .inl a2)], [.inl 0], h)) 1 rfl rfl rfl ?_
      exact ct_zret C (pc := 26) (aux := 0) (ins := .ireturn) (ρ := (fun r : Int => (some (.inl r : ct_PV), h))) (some (.inl 0)) rfl rfl rfl ⟨rfl, Or.inr ⟨rfl, Or.inl rfl⟩⟩
    · refine ct_zrun C (k' := 12) (y := ([(0, .inr (.inr (0, o))), (1, .inl a1), (2, .inl a2)], [.inl 1], h)) 1 rfl rfl rfl ?_
      refine ct_zgoto C (pc := 22) (aux := 0) (off := 4) (k' := 14) rfl rfl ?_
      exact ct_zret C (pc := 26) (aux := 0) (ins := .ireturn) (ρ := (fun r : Int => (some (.inl r : ct_PV), h))) (some (.inl 1)) rfl rfl rfl ⟨rfl, Or.inr ⟨rfl, Or.inr rfl⟩⟩
def l_X0_saddles_14 (G : ct_G) (o : Nat) (a1 : Int) (a2 : Int) (h : ct_H) (v1 : Int) : Nat → (Int × Int) → Option (Int)
  | 0, _ => none
  | n3 + 1, b2 => if v1 ≤ b2.2 then (some (b2.1)) else (f_X0_cornerOf G h o b2.2).bind fun v4 => (f_X0_caseOf G h o v4 a1).bind fun v5 => (f_X0_isSaddle G h v5).bind fun v6 => ct_jn (β := Int) (fun k8 => if v6 = 0 then (k8 (b2.1)) else ct_jn (β := Unit) (fun k11 => if a2 = 0 then (k11 ()) else (f_X0_isJoined G h o v4 a1).bind fun v13 => if v13 = 0 then (k8 (b2.1)) else k11 ()) (fun b10 => k8 (ct_wr (b2.1 + 1)))) (fun b7 => l_X0_saddles_14 G o a1 a2 h v1 n3 (b7, (ct_wr (b2.2 + 1))))
set_option maxRecDepth 100000 in
theorem zl_X0_saddles_14 {x : ct_Ctx} {d : Nat} {G : ct_G} (C : ct_c x m_X0_saddles G (d + 1)) (o : Nat) (a1 : Int) (a2 : Int) (h : ct_H) (v1 : Int) : ∀ (n3 : Nat) (b2 : Int × Int), ct_Z x m_X0_saddles G 14 [(0, .inr (.inr (0, o))), (1, .inl a1), (2, .inl a2), (3, .inl (b2.1)), (4, .inl v1), (5, .inl (b2.2))] [] h (fun a => ct_q x G ((fun r : Int => (some (.inl r : ct_PV), h)) a)) (l_X0_saddles_14 G o a1 a2 h v1 n3 b2) := by
  intro n3
  induction n3 with
  | zero => intro b2; exact ct_znone
  | succ n3 ih =>
    intro b2
    rw [l_X0_saddles_14]
    refine ct_zrun C (k' := 16) (y := ([(0, .inr (.inr (0, o))), (1, .inl a1), (2, .inl a2), (3, .inl (b2.1)), (4, .inl v1), (5, .inl (b2.2))], [.inl v1, .inl (b2.2)], h)) 2 rfl rfl rfl ?_
    refine ct_zt C (pc := 24) (aux := 0) (cn := .ge) (off := 47) (k' := 37) (a := b2.2) (b := v1) Iff.rfl rfl rfl rfl (fun e17 => ?_) (fun e17 => ?_)
    · refine ct_zrun C (k' := 38) (y := ([(0, .inr (.inr (0, o))), (1, .inl a1), (2, .inl a2), (3, .inl (b2.1)), (4, .inl v1), (5, .inl (b2.2))], [.inl (b2.1)], h)) 1 rfl rfl rfl ?_
      exact ct_zret C (pc := 72) (aux := 0) (ins := .ireturn) (ρ := (fun r : Int => (some (.inl r : ct_PV), h))) (some (.inl (b2.1))) rfl rfl rfl ⟨rfl, Or.inl rfl⟩
    · refine ct_zrun C (k' := 19) (y := ([(0, .inr (.inr (0, o))), (1, .inl a1), (2, .inl a2), (3, .inl (b2.1)), (4, .inl v1), (5, .inl (b2.2))], [.inl (b2.2), .inr (.inr (0, o))], h)) 2 rfl rfl rfl ?_
      refine ct_zV C (pc := 30) (aux := 0) [.inl (b2.2)] [] ok_X0_cornerOf lk_X0_91 (e_X0_cornerOf o (b2.2)) rfl rfl rfl rfl rfl rfl rfl rfl (fun v4 => ?_)
      refine ct_zrun C (k' := 24) (y := ([(6, .inl v4), (0, .inr (.inr (0, o))), (1, .inl a1), (2, .inl a2), (3, .inl (b2.1)), (4, .inl v1), (5, .inl (b2.2))], [.inl a1, .inl v4, .inr (.inr (0, o))], h)) 4 rfl rfl rfl ?_
      refine ct_zV C (pc := 39) (aux := 0) [.inl v4, .inl a1] [] ok_X0_caseOf lk_X0_81 (e_X0_caseOf o v4 a1) rfl rfl rfl rfl rfl rfl rfl rfl (fun v5 => ?_)
      refine ct_zS C (pc := 42) (aux := 0) [.inl v5] [] ok_X0_isSaddle lk_X0_84 (e_X0_isSaddle v5) rfl rfl rfl rfl rfl rfl (fun v6 => ?_)
      refine ct_zjn (β := Int) (kJ := 35) (L := fun b7 => [(0, .inr (.inr (0, o))), (1, .inl a1), (2, .inl a2), (3, .inl b7), (4, .inl v1), (5, .inl (b2.2))]) (S := fun b7 => []) (Hh := fun b7 => h) (fun b7 => ?_) (fun k8 z9 => ?_)
      · refine ct_zrun C (k' := 36) (y := ([(5, .inl (ct_wr (b2.2 + 1))), (0, .inr (.inr (0, o))), (1, .inl a1), (2, .inl a2), (3, .inl b7), (4, .inl v1)], [], h)) 1 rfl rfl rfl ?_
        refine ct_zgoto C (pc := 68) (aux := 0) (off := (-48)) (k' := 14) rfl rfl ?_
        exact ct_zsub [1, 2, 3, 4, 5, 0] rfl (ih (b7, (ct_wr (b2.2 + 1))))
      · refine ct_zt0 C (pc := 45) (aux := 0) (cn := .eq) (off := 20) (k' := 35) (a := v6) Iff.rfl rfl rfl rfl (fun e16 => ?_) (fun e16 => ?_)
        · exact ct_zsub [1, 2, 3, 4, 5, 6] rfl (z9 (b2.1))
        · refine ct_zrun C (k' := 28) (y := ([(6, .inl v4), (0, .inr (.inr (0, o))), (1, .inl a1), (2, .inl a2), (3, .inl (b2.1)), (4, .inl v1), (5, .inl (b2.2))], [.inl a2], h)) 1 rfl rfl rfl ?_
          refine ct_zjn (β := Unit) (kJ := 34) (L := fun b10 => [(0, .inr (.inr (0, o))), (1, .inl a1), (2, .inl a2), (3, .inl (b2.1)), (4, .inl v1), (5, .inl (b2.2))]) (S := fun b10 => []) (Hh := fun b10 => h) (fun b10 => ?_) (fun k11 z12 => ?_)
          · refine ct_zrun C (k' := 35) (y := ([(3, .inl (ct_wr (b2.1 + 1))), (0, .inr (.inr (0, o))), (1, .inl a1), (2, .inl a2), (4, .inl v1), (5, .inl (b2.2))], [], h)) 1 rfl rfl rfl ?_
            exact ct_zsub [1, 2, 3, 0, 4, 5] rfl (z9 (ct_wr (b2.1 + 1)))
          · refine ct_zt0 C (pc := 49) (aux := 0) (cn := .eq) (off := 13) (k' := 34) (a := a2) Iff.rfl rfl rfl rfl (fun e15 => ?_) (fun e15 => ?_)
            · exact ct_zsub [1, 2, 3, 4, 5, 6] rfl (z12 ())
            · refine ct_zrun C (k' := 32) (y := ([(6, .inl v4), (0, .inr (.inr (0, o))), (1, .inl a1), (2, .inl a2), (3, .inl (b2.1)), (4, .inl v1), (5, .inl (b2.2))], [.inl a1, .inl v4, .inr (.inr (0, o))], h)) 3 rfl rfl rfl ?_
              refine ct_zV C (pc := 56) (aux := 0) [.inl v4, .inl a1] [] ok_X0_isJoined lk_X0_87 (e_X0_isJoined o v4 a1) rfl rfl rfl rfl rfl rfl rfl rfl (fun v13 => ?_)
              refine ct_zt0 C (pc := 59) (aux := 0) (cn := .eq) (off := 6) (k' := 35) (a := v13) Iff.rfl rfl rfl rfl (fun e14 => ?_) (fun e14 => ?_)
              · exact ct_zsub [1, 2, 3, 4, 5, 6] rfl (z9 (b2.1))
              · exact ct_zsub [1, 2, 3, 4, 5, 6] rfl (z12 ())
def f_X0_saddles (G : ct_G) (h : ct_H) (o : Nat) (a1 : Int) (a2 : Int) : Option (Int) := ct_lt (ct_wr ((ct_wr ((h.1 o 1) + 1)) * (ct_wr ((h.1 o 2) + 1)))) fun v1 => l_X0_saddles_14 G o a1 a2 h v1 200 (0, 0)
set_option maxRecDepth 100000 in
theorem e_X0_saddles {d : Nat} {G : ct_G} {h : ct_H} (o : Nat) (a1 : Int) (a2 : Int) : ct_E m_X0_saddles (d + 1) G (ct_args 0 [.inr (.inr (0, o)), .inl a1, .inl a2]) h (fun r : Int => (some (.inl r : ct_PV), h)) (f_X0_saddles G h o a1 a2) := by
  intro x C
  unfold f_X0_saddles
  show ct_Z x m_X0_saddles G 0 [(0, .inr (.inr (0, o))), (1, .inl a1), (2, .inl a2)] [] h (fun a => ct_q x G ((fun r : Int => (some (.inl r : ct_PV), h)) a)) _
  refine ct_zrun C (k' := 12) (y := ([(4, .inl (ct_wr ((ct_wr ((h.1 o 1) + 1)) * (ct_wr ((h.1 o 2) + 1))))), (3, .inl 0), (0, .inr (.inr (0, o))), (1, .inl a1), (2, .inl a2)], [], h)) 12 rfl rfl rfl ?_
  refine ct_zlet (L := fun v1 => [(4, .inl v1), (3, .inl 0), (0, .inr (.inr (0, o))), (1, .inl a1), (2, .inl a2)]) (S := fun _ => []) (Hh := fun _ => h) (a := (ct_wr ((ct_wr ((h.1 o 1) + 1)) * (ct_wr ((h.1 o 2) + 1))))) (fun v1 => ?_)
  refine ct_zrun C (k' := 14) (y := ([(5, .inl 0), (4, .inl v1), (3, .inl 0), (0, .inr (.inr (0, o))), (1, .inl a1), (2, .inl a2)], [], h)) 2 rfl rfl rfl ?_
  exact ct_zsub [3, 4, 5, 2, 1, 0] rfl (zl_X0_saddles_14 C o a1 a2 h v1 200 (0, 0))
def l_X0_volume_7 (G : ct_G) (o : Nat) (a1 : Int) (h : ct_H) (v1 : Int) : Nat → (Int × Int) → Option (Int)
  | 0, _ => none
  | n3 + 1, b2 => if v1 ≤ b2.2 then (some (b2.1)) else (ct_dv b2.2 (h.1 o 2)).bind fun v4 => (ct_md b2.2 (h.1 o 2)).bind fun v5 => ct_jn (β := Int) (fun k7 => ct_jn (β := Unit) (fun k20 => if v4 ≤ 0 then (k20 ()) else if (ct_wr ((h.1 o 1) - 1)) ≤ v4 then (k20 ()) else k7 2) (fun b19 => k7 1)) (fun b6 => ct_jn (β := Int) (fun k10 => ct_jn (β := Unit) (fun k15 => if v5 ≤ 0 then (k15 ()) else if (ct_wr ((h.1 o 2) - 1)) ≤ v5 then (k15 ()) else k10 2) (fun b14 => k10 1)) (fun b9 => (f_X0_heightOf G h o b2.2).bind fun v12 => ct_lt (ct_wr (b2.1 + (ct_wr ((ct_wr (b6 * b9)) * (ct_max 0 (ct_wr (v12 - a1))))))) fun v13 => l_X0_volume_7 G o a1 h v1 n3 (v13, (ct_wr (b2.2 + 1)))))
set_option maxRecDepth 100000 in
theorem zl_X0_volume_7 {x : ct_Ctx} {d : Nat} {G : ct_G} (C : ct_c x m_X0_volume G (d + 2)) (o : Nat) (a1 : Int) (h : ct_H) (v1 : Int) : ∀ (n3 : Nat) (b2 : Int × Int), ct_Z x m_X0_volume G 7 [(0, .inr (.inr (0, o))), (1, .inl a1), (2, .inl (b2.1)), (3, .inl v1), (4, .inl (b2.2))] [] h (fun a => ct_q x G ((fun r : Int => (some (.inl r : ct_PV), h)) a)) (l_X0_volume_7 G o a1 h v1 n3 b2) := by
  intro n3
  induction n3 with
  | zero => intro b2; exact ct_znone
  | succ n3 ih =>
    intro b2
    rw [l_X0_volume_7]
    refine ct_zrun C (k' := 9) (y := ([(0, .inr (.inr (0, o))), (1, .inl a1), (2, .inl (b2.1)), (3, .inl v1), (4, .inl (b2.2))], [.inl v1, .inl (b2.2)], h)) 2 rfl rfl rfl ?_
    refine ct_zt C (pc := 13) (aux := 0) (cn := .ge) (off := 94) (k' := 60) (a := b2.2) (b := v1) Iff.rfl rfl rfl rfl (fun e24 => ?_) (fun e24 => ?_)
    · refine ct_zrun C (k' := 61) (y := ([(0, .inr (.inr (0, o))), (1, .inl a1), (2, .inl (b2.1)), (3, .inl v1), (4, .inl (b2.2))], [.inl (b2.1)], h)) 1 rfl rfl rfl ?_
      exact ct_zret C (pc := 108) (aux := 0) (ins := .ireturn) (ρ := (fun r : Int => (some (.inl r : ct_PV), h))) (some (.inl (b2.1))) rfl rfl rfl ⟨rfl, Or.inl rfl⟩
    · refine ct_zrun C (k' := 13) (y := ([(0, .inr (.inr (0, o))), (1, .inl a1), (2, .inl (b2.1)), (3, .inl v1), (4, .inl (b2.2))], [.inl (h.1 o 2), .inl (b2.2)], h)) 3 rfl rfl rfl ?_
      refine ct_zdv C (pc := 22) (aux := 0) rfl rfl (fun v4 => ?_)
      refine ct_zrun C (k' := 18) (y := ([(5, .inl v4), (0, .inr (.inr (0, o))), (1, .inl a1), (2, .inl (b2.1)), (3, .inl v1), (4, .inl (b2.2))], [.inl (h.1 o 2), .inl (b2.2)], h)) 4 rfl rfl rfl ?_
      refine ct_zmd C (pc := 31) (aux := 0) rfl rfl (fun v5 => ?_)
      refine ct_zrun C (k' := 21) (y := ([(6, .inl v5), (5, .inl v4), (0, .inr (.inr (0, o))), (1, .inl a1), (2, .inl (b2.1)), (3, .inl v1), (4, .inl (b2.2))], [.inl v4], h)) 2 rfl rfl rfl ?_
      refine ct_zjn (β := Int) (kJ := 31) (L := fun b6 => [(0, .inr (.inr (0, o))), (1, .inl a1), (2, .inl (b2.1)), (3, .inl v1), (4, .inl (b2.2)), (6, .inl v5)]) (S := fun b6 => [.inl b6]) (Hh := fun b6 => h) (fun b6 => ?_) (fun k7 z8 => ?_)
      · refine ct_zrun C (k' := 33) (y := ([(7, .inl b6), (0, .inr (.inr (0, o))), (1, .inl a1), (2, .inl (b2.1)), (3, .inl v1), (4, .inl (b2.2)), (6, .inl v5)], [.inl v5], h)) 2 rfl rfl rfl ?_
        refine ct_zjn (β := Int) (kJ := 43) (L := fun b9 => [(0, .inr (.inr (0, o))), (1, .inl a1), (2, .inl (b2.1)), (3, .inl v1), (4, .inl (b2.2)), (7, .inl b6)]) (S := fun b9 => [.inl b9]) (Hh := fun b9 => h) (fun b9 => ?_) (fun k10 z11 => ?_)
        · refine ct_zrun C (k' := 51) (y := ([(8, .inl b9), (0, .inr (.inr (0, o))), (1, .inl a1), (2, .inl (b2.1)), (3, .inl v1), (4, .inl (b2.2)), (7, .inl b6)], [.inl (b2.2), .inr (.inr (0, o)), .inl 0, .inl (ct_wr (b6 * b9)), .inl (b2.1)], h)) 8 rfl rfl rfl ?_
          refine ct_zV C (pc := 90) (aux := 0) [.inl (b2.2)] [.inl 0, .inl (ct_wr (b6 * b9)), .inl (b2.1)] ok_X0_heightOf lk_X0_71 (e_X0_heightOf o (b2.2)) rfl rfl rfl rfl rfl rfl rfl rfl (fun v12 => ?_)
          refine ct_zrun C (k' := 54) (y := ([(8, .inl b9), (0, .inr (.inr (0, o))), (1, .inl a1), (2, .inl (b2.1)), (3, .inl v1), (4, .inl (b2.2)), (7, .inl b6)], [.inl (ct_wr (v12 - a1)), .inl 0, .inl (ct_wr (b6 * b9)), .inl (b2.1)], h)) 2 rfl rfl rfl ?_
          refine ct_zmax C (pc := 95) (aux := 0) lk_X0_65 rfl rfl rfl ?_
          refine ct_zrun C (k' := 58) (y := ([(2, .inl (ct_wr (b2.1 + (ct_wr ((ct_wr (b6 * b9)) * (ct_max 0 (ct_wr (v12 - a1)))))))), (8, .inl b9), (0, .inr (.inr (0, o))), (1, .inl a1), (3, .inl v1), (4, .inl (b2.2)), (7, .inl b6)], [], h)) 3 rfl rfl rfl ?_
          refine ct_zlet (L := fun v13 => [(2, .inl v13), (8, .inl b9), (0, .inr (.inr (0, o))), (1, .inl a1), (3, .inl v1), (4, .inl (b2.2)), (7, .inl b6)]) (S := fun _ => []) (Hh := fun _ => h) (a := (ct_wr (b2.1 + (ct_wr ((ct_wr (b6 * b9)) * (ct_max 0 (ct_wr (v12 - a1)))))))) (fun v13 => ?_)
          refine ct_zrun C (k' := 59) (y := ([(4, .inl (ct_wr (b2.2 + 1))), (2, .inl v13), (8, .inl b9), (0, .inr (.inr (0, o))), (1, .inl a1), (3, .inl v1), (7, .inl b6)], [], h)) 1 rfl rfl rfl ?_
          refine ct_zgoto C (pc := 104) (aux := 0) (off := (-94)) (k' := 7) rfl rfl ?_
          exact ct_zsub [3, 4, 1, 5, 0] rfl (ih (v13, (ct_wr (b2.2 + 1))))
        · refine ct_zjn (β := Unit) (kJ := 42) (L := fun b14 => [(0, .inr (.inr (0, o))), (1, .inl a1), (2, .inl (b2.1)), (3, .inl v1), (4, .inl (b2.2)), (7, .inl b6)]) (S := fun b14 => []) (Hh := fun b14 => h) (fun b14 => ?_) (fun k15 z16 => ?_)
          · refine ct_zrun C (k' := 43) (y := ([(0, .inr (.inr (0, o))), (1, .inl a1), (2, .inl (b2.1)), (3, .inl v1), (4, .inl (b2.2)), (7, .inl b6)], [.inl 1], h)) 1 rfl rfl rfl ?_
            exact ct_zsub [0, 1, 2, 3, 4, 5] rfl (z11 1)
          · refine ct_zt0 C (pc := 59) (aux := 0) (cn := .le) (off := 18) (k' := 42) (a := v5) Iff.rfl rfl rfl rfl (fun e18 => ?_) (fun e18 => ?_)
            · exact ct_zsub [1, 2, 3, 4, 5, 0] rfl (z16 ())
            · refine ct_zrun C (k' := 39) (y := ([(7, .inl b6), (0, .inr (.inr (0, o))), (1, .inl a1), (2, .inl (b2.1)), (3, .inl v1), (4, .inl (b2.2)), (6, .inl v5)], [.inl (ct_wr ((h.1 o 2) - 1)), .inl v5], h)) 5 rfl rfl rfl ?_
              refine ct_zt C (pc := 70) (aux := 0) (cn := .ge) (off := 7) (k' := 42) (a := v5) (b := (ct_wr ((h.1 o 2) - 1))) Iff.rfl rfl rfl rfl (fun e17 => ?_) (fun e17 => ?_)
              · exact ct_zsub [1, 2, 3, 4, 5, 0] rfl (z16 ())
              · refine ct_zrun C (k' := 41) (y := ([(7, .inl b6), (0, .inr (.inr (0, o))), (1, .inl a1), (2, .inl (b2.1)), (3, .inl v1), (4, .inl (b2.2)), (6, .inl v5)], [.inl 2], h)) 1 rfl rfl rfl ?_
                refine ct_zgoto C (pc := 74) (aux := 0) (off := 4) (k' := 43) rfl rfl ?_
                exact ct_zsub [1, 2, 3, 4, 5, 0] rfl (z11 2)
      · refine ct_zjn (β := Unit) (kJ := 30) (L := fun b19 => [(0, .inr (.inr (0, o))), (1, .inl a1), (2, .inl (b2.1)), (3, .inl v1), (4, .inl (b2.2)), (6, .inl v5)]) (S := fun b19 => []) (Hh := fun b19 => h) (fun b19 => ?_) (fun k20 z21 => ?_)
        · refine ct_zrun C (k' := 31) (y := ([(0, .inr (.inr (0, o))), (1, .inl a1), (2, .inl (b2.1)), (3, .inl v1), (4, .inl (b2.2)), (6, .inl v5)], [.inl 1], h)) 1 rfl rfl rfl ?_
          exact ct_zsub [0, 1, 2, 3, 4, 5] rfl (z8 1)
        · refine ct_zt0 C (pc := 36) (aux := 0) (cn := .le) (off := 18) (k' := 30) (a := v4) Iff.rfl rfl rfl rfl (fun e23 => ?_) (fun e23 => ?_)
          · exact ct_zsub [2, 3, 4, 5, 6, 0] rfl (z21 ())
          · refine ct_zrun C (k' := 27) (y := ([(6, .inl v5), (5, .inl v4), (0, .inr (.inr (0, o))), (1, .inl a1), (2, .inl (b2.1)), (3, .inl v1), (4, .inl (b2.2))], [.inl (ct_wr ((h.1 o 1) - 1)), .inl v4], h)) 5 rfl rfl rfl ?_
            refine ct_zt C (pc := 47) (aux := 0) (cn := .ge) (off := 7) (k' := 30) (a := v4) (b := (ct_wr ((h.1 o 1) - 1))) Iff.rfl rfl rfl rfl (fun e22 => ?_) (fun e22 => ?_)
            · exact ct_zsub [2, 3, 4, 5, 6, 0] rfl (z21 ())
            · refine ct_zrun C (k' := 29) (y := ([(6, .inl v5), (5, .inl v4), (0, .inr (.inr (0, o))), (1, .inl a1), (2, .inl (b2.1)), (3, .inl v1), (4, .inl (b2.2))], [.inl 2], h)) 1 rfl rfl rfl ?_
              refine ct_zgoto C (pc := 51) (aux := 0) (off := 4) (k' := 31) rfl rfl ?_
              exact ct_zsub [2, 3, 4, 5, 6, 0] rfl (z8 2)
def f_X0_volume (G : ct_G) (h : ct_H) (o : Nat) (a1 : Int) : Option (Int) := (f_X0_points G h o).bind fun v1 => l_X0_volume_7 G o a1 h v1 200 (0, 0)
set_option maxRecDepth 100000 in
theorem e_X0_volume {d : Nat} {G : ct_G} {h : ct_H} (o : Nat) (a1 : Int) : ct_E m_X0_volume (d + 2) G (ct_args 0 [.inr (.inr (0, o)), .inl a1]) h (fun r : Int => (some (.inl r : ct_PV), h)) (f_X0_volume G h o a1) := by
  intro x C
  unfold f_X0_volume
  show ct_Z x m_X0_volume G 0 [(0, .inr (.inr (0, o))), (1, .inl a1)] [] h (fun a => ct_q x G ((fun r : Int => (some (.inl r : ct_PV), h)) a)) _
  refine ct_zrun C (k' := 3) (y := ([(2, .inl 0), (0, .inr (.inr (0, o))), (1, .inl a1)], [.inr (.inr (0, o))], h)) 3 rfl rfl rfl ?_
  refine ct_zV C (pc := 3) (aux := 0) [] [] ok_X0_points lk_X0_44 (e_X0_points o) rfl rfl rfl rfl rfl rfl rfl rfl (fun v1 => ?_)
  refine ct_zrun C (k' := 7) (y := ([(4, .inl 0), (3, .inl v1), (2, .inl 0), (0, .inr (.inr (0, o))), (1, .inl a1)], [], h)) 3 rfl rfl rfl ?_
  exact ct_zsub [3, 4, 2, 1, 0] rfl (zl_X0_volume_7 C o a1 h v1 200 (0, 0))
def l_X0_isLikeBelow_12 (G : ct_G) (o : Nat) (a1 : Int) (h : ct_H) : Nat → Int → Option (Int)
  | 0, _ => none
  | n2 + 1, b1 => if (h.1 o 4) ≤ b1 then (some 1) else (ct_rd G h (G.1 o 0) b1).bind fun v3 => if v3 = (ct_wr (a1 - 1)) then (some 0) else l_X0_isLikeBelow_12 G o a1 h n2 (ct_wr (b1 + 1))
set_option maxRecDepth 100000 in
theorem zl_X0_isLikeBelow_12 {x : ct_Ctx} {d : Nat} {G : ct_G} (C : ct_c x m_X0_isLikeBelow G d) (o : Nat) (a1 : Int) (h : ct_H) : ∀ (n2 : Nat) (b1 : Int), ct_Z x m_X0_isLikeBelow G 12 [(0, .inr (.inr (0, o))), (1, .inl a1), (2, .inl b1)] [] h (fun a => ct_q x G ((fun r : Int => (some (.inl r : ct_PV), h)) a)) (l_X0_isLikeBelow_12 G o a1 h n2 b1) := by
  intro n2
  induction n2 with
  | zero => intro b1; exact ct_znone
  | succ n2 ih =>
    intro b1
    rw [l_X0_isLikeBelow_12]
    refine ct_zrun C (k' := 15) (y := ([(0, .inr (.inr (0, o))), (1, .inl a1), (2, .inl b1)], [.inl (h.1 o 4), .inl b1], h)) 3 rfl rfl rfl ?_
    refine ct_zt C (pc := 25) (aux := 0) (cn := .ge) (off := 23) (k' := 28) (a := b1) (b := (h.1 o 4)) Iff.rfl rfl rfl rfl (fun e5 => ?_) (fun e5 => ?_)
    · refine ct_zrun C (k' := 29) (y := ([(0, .inr (.inr (0, o))), (1, .inl a1), (2, .inl b1)], [.inl 1], h)) 1 rfl rfl rfl ?_
      exact ct_zret C (pc := 49) (aux := 0) (ins := .ireturn) (ρ := (fun r : Int => (some (.inl r : ct_PV), h))) (some (.inl 1)) rfl rfl rfl ⟨rfl, Or.inr ⟨rfl, Or.inr rfl⟩⟩
    · refine ct_zrun C (k' := 19) (y := ([(0, .inr (.inr (0, o))), (1, .inl a1), (2, .inl b1)], [.inl b1, .inr (.inr (8, (G.1 o 0)))], h)) 3 rfl rfl rfl ?_
      refine ct_zrd C (pc := 33) (aux := 0) (ins := .iaload) (cd := 8) rfl rfl (Or.inl ⟨rfl, rfl⟩) (fun v3 => ?_)
      refine ct_zrun C (k' := 23) (y := ([(0, .inr (.inr (0, o))), (1, .inl a1), (2, .inl b1)], [.inl (ct_wr (a1 - 1)), .inl v3], h)) 3 rfl rfl rfl ?_
      refine ct_zf C (pc := 37) (aux := 0) (cn := .ne) (off := 5) (k' := 26) (a := v3) (b := (ct_wr (a1 - 1))) Iff.rfl rfl rfl rfl (fun e4 => ?_) (fun e4 => ?_)
      · refine ct_zrun C (k' := 25) (y := ([(0, .inr (.inr (0, o))), (1, .inl a1), (2, .inl b1)], [.inl 0], h)) 1 rfl rfl rfl ?_
        exact ct_zret C (pc := 41) (aux := 0) (ins := .ireturn) (ρ := (fun r : Int => (some (.inl r : ct_PV), h))) (some (.inl 0)) rfl rfl rfl ⟨rfl, Or.inr ⟨rfl, Or.inl rfl⟩⟩
      · refine ct_zrun C (k' := 27) (y := ([(2, .inl (ct_wr (b1 + 1))), (0, .inr (.inr (0, o))), (1, .inl a1)], [], h)) 1 rfl rfl rfl ?_
        refine ct_zgoto C (pc := 45) (aux := 0) (off := (-25)) (k' := 12) rfl rfl ?_
        exact ct_zsub [1, 2, 0] rfl (ih (ct_wr (b1 + 1)))
def f_X0_isLikeBelow (G : ct_G) (h : ct_H) (o : Nat) (a1 : Int) : Option (Int) := if (h.1 o 5) = 2 then (some 0) else if (h.1 o 5) = 4 then (some 0) else l_X0_isLikeBelow_12 G o a1 h 200 0
set_option maxRecDepth 100000 in
theorem e_X0_isLikeBelow {d : Nat} {G : ct_G} {h : ct_H} (o : Nat) (a1 : Int) : ct_E m_X0_isLikeBelow d G (ct_args 0 [.inr (.inr (0, o)), .inl a1]) h (fun r : Int => (some (.inl r : ct_PV), h)) (f_X0_isLikeBelow G h o a1) := by
  intro x C
  unfold f_X0_isLikeBelow
  show ct_Z x m_X0_isLikeBelow G 0 [(0, .inr (.inr (0, o))), (1, .inl a1)] [] h (fun a => ct_q x G ((fun r : Int => (some (.inl r : ct_PV), h)) a)) _
  refine ct_zrun C (k' := 3) (y := ([(0, .inr (.inr (0, o))), (1, .inl a1)], [.inl 2, .inl (h.1 o 5)], h)) 3 rfl rfl rfl ?_
  refine ct_zt C (pc := 5) (aux := 0) (cn := .eq) (off := 11) (k' := 8) (a := (h.1 o 5)) (b := 2) Iff.rfl rfl rfl rfl (fun e7 => ?_) (fun e7 => ?_)
  · refine ct_zrun C (k' := 9) (y := ([(0, .inr (.inr (0, o))), (1, .inl a1)], [.inl 0], h)) 1 rfl rfl rfl ?_
    exact ct_zret C (pc := 17) (aux := 0) (ins := .ireturn) (ρ := (fun r : Int => (some (.inl r : ct_PV), h))) (some (.inl 0)) rfl rfl rfl ⟨rfl, Or.inr ⟨rfl, Or.inl rfl⟩⟩
  · refine ct_zrun C (k' := 7) (y := ([(0, .inr (.inr (0, o))), (1, .inl a1)], [.inl 4, .inl (h.1 o 5)], h)) 3 rfl rfl rfl ?_
    refine ct_zf C (pc := 13) (aux := 0) (cn := .ne) (off := 5) (k' := 10) (a := (h.1 o 5)) (b := 4) Iff.rfl rfl rfl rfl (fun e6 => ?_) (fun e6 => ?_)
    · refine ct_zrun C (k' := 9) (y := ([(0, .inr (.inr (0, o))), (1, .inl a1)], [.inl 0], h)) 1 rfl rfl rfl ?_
      exact ct_zret C (pc := 17) (aux := 0) (ins := .ireturn) (ρ := (fun r : Int => (some (.inl r : ct_PV), h))) (some (.inl 0)) rfl rfl rfl ⟨rfl, Or.inr ⟨rfl, Or.inl rfl⟩⟩
    · refine ct_zrun C (k' := 12) (y := ([(2, .inl 0), (0, .inr (.inr (0, o))), (1, .inl a1)], [], h)) 2 rfl rfl rfl ?_
      exact ct_zsub [1, 2, 0] rfl (zl_X0_isLikeBelow_12 C o a1 h 200 0)
