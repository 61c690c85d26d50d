set_option maxRecDepth 100000 in
theorem lk_X2_58 : ct_LkV RX2 58 m_X2_isIn 1 := ct_LkV_of 574 575 576 (by decide +kernel) (by decide +kernel) (by decide +kernel) (by decide +kernel)
set_option maxRecDepth 100000 in
theorem lk_X2_80 : ct_LkV RX2 80 m_X0_caseOf 2 := ct_LkV_of 594 595 596 (by decide +kernel) (by decide +kernel) (by decide +kernel) (by decide +kernel)
set_option maxRecDepth 100000 in
theorem lk_X2_83 : ct_LkS RX2 83 m_X0_isSaddle 1 := ct_LkS_of 598 599 (by decide +kernel) (by decide +kernel) (by decide +kernel)
set_option maxRecDepth 100000 in
theorem lk_X2_90 : ct_LkV RX2 90 m_X2_sideOf 2 := ct_LkV_of 605 606 607 (by decide +kernel) (by decide +kernel) (by decide +kernel) (by decide +kernel)
set_option maxRecDepth 100000 in
theorem lk_X2_86 : ct_LkV RX2 86 m_X0_isJoined 2 := ct_LkV_of 601 602 603 (by decide +kernel) (by decide +kernel) (by decide +kernel) (by decide +kernel)
set_option maxRecDepth 100000 in
theorem lk_X2_73 : ct_LkV RX2 73 m_X2_wayOver 1 := ct_LkV_of 586 587 588 (by decide +kernel) (by decide +kernel) (by decide +kernel) (by decide +kernel)
set_option maxRecDepth 100000 in
theorem lk_X2_76 : ct_LkV RX2 76 m_X2_leave 2 := ct_LkV_of 590 591 592 (by decide +kernel) (by decide +kernel) (by decide +kernel) (by decide +kernel)
set_option maxRecDepth 100000 in
theorem lk_X2_69 : ct_LkV RX2 69 m_X2_nextOf 1 := ct_LkV_of 582 583 584 (by decide +kernel) (by decide +kernel) (by decide +kernel) (by decide +kernel)
set_option maxRecDepth 100000 in
theorem lk_X2_46 : ct_LkS RX2 46 m_J7_fill_53178 2 := ct_LkS_of 573 110 (by decide +kernel) (by decide +kernel) (by decide +kernel)
set_option maxRecDepth 100000 in
theorem lk_X2_62 : ct_LkV RX2 62 m_X2_follow 1 := ct_LkV_of 578 579 580 (by decide +kernel) (by decide +kernel) (by decide +kernel) (by decide +kernel)
set_option maxRecDepth 100000 in
theorem lk_X2_93 : ct_LkV RX2 93 m_X2_leastEdge 1 := ct_LkV_of 638 639 640 (by decide +kernel) (by decide +kernel) (by decide +kernel) (by decide +kernel)
set_option maxRecDepth 100000 in
theorem lk_X2_96 : ct_LkV RX2 96 m_X2_holdersOf 1 := ct_LkV_of 642 643 644 (by decide +kernel) (by decide +kernel) (by decide +kernel) (by decide +kernel)
set_option maxRecDepth 100000 in
theorem lk_X2_100 : ct_LkV RX2 100 m_X2_leastPlace 1 := ct_LkV_of 634 635 636 (by decide +kernel) (by decide +kernel) (by decide +kernel) (by decide +kernel)
theorem lc_X2_103 : Cond.constantLong RX2 103 (-1) ∈ ct_GW := ct_GW_of 646 (by decide +kernel) (by decide +kernel)
set_option maxRecDepth 100000 in
theorem lk_X2_105 : ct_LkV RX2 105 m_X2_holdersOfLine 1 := ct_LkV_of 630 631 632 (by decide +kernel) (by decide +kernel) (by decide +kernel) (by decide +kernel)
set_option maxRecDepth 100000 in
theorem lk_X2_108 : ct_LkS RX2 108 m_J13_bitCount_95d88 1 := ct_LkS_of 647 648 (by decide +kernel) (by decide +kernel) (by decide +kernel)
set_option maxRecDepth 100000 in
theorem lk_X2_114 : ct_LkV RX2 114 m_X2_depthOf 1 := ct_LkV_of 626 627 628 (by decide +kernel) (by decide +kernel) (by decide +kernel) (by decide +kernel)
set_option maxRecDepth 100000 in
theorem lk_X2_117 : ct_LkV RX2 117 m_X2_lengthOf 1 := ct_LkV_of 747 734 735 (by decide +kernel) (by decide +kernel) (by decide +kernel) (by decide +kernel)
set_option maxRecDepth 100000 in
theorem lk_X2_120 : ct_LkV RX2 120 m_X2_edgeOf 2 := ct_LkV_of 748 749 750 (by decide +kernel) (by decide +kernel) (by decide +kernel) (by decide +kernel)
set_option maxRecDepth 100000 in
theorem lk_X2_123 : ct_LkV RX2 123 m_X2_acrossOf 1 := ct_LkV_of 752 753 754 (by decide +kernel) (by decide +kernel) (by decide +kernel) (by decide +kernel)
set_option maxRecDepth 100000 in
theorem lk_X2_126 : ct_LkV RX2 126 m_X2_downOf 1 := ct_LkV_of 756 757 758 (by decide +kernel) (by decide +kernel) (by decide +kernel) (by decide +kernel)
theorem lk_X2_129 : Cond.methodLink RX2 129 Lib.Math.abs.name ∈ ct_GW := ct_GW_of 760 (by decide +kernel) (by decide +kernel)
set_option maxRecDepth 100000 in
theorem lk_X2_134 : ct_LkV RX2 134 m_X0_points 0 := ct_LkV_of 765 113 114 (by decide +kernel) (by decide +kernel) (by decide +kernel) (by decide +kernel)
set_option maxRecDepth 100000 in
theorem lk_X2_138 : ct_LkV RX2 138 m_X0_placeOf 1 := ct_LkV_of 766 121 122 (by decide +kernel) (by decide +kernel) (by decide +kernel) (by decide +kernel)
set_option maxRecDepth 100000 in
theorem lk_X2_141 : ct_LkV RX2 141 m_X2_isHeld 2 := ct_LkV_of 767 768 769 (by decide +kernel) (by decide +kernel) (by decide +kernel) (by decide +kernel)
set_option maxRecDepth 100000 in
theorem lk_X2_144 : ct_LkV RX2 144 m_X2_isOuter 1 := ct_LkV_of 622 623 624 (by decide +kernel) (by decide +kernel) (by decide +kernel) (by decide +kernel)
theorem lk_X2_147 : Cond.methodLink RX2 147 Lib.Math.max.name ∈ ct_GW := ct_GW_of 704 (by decide +kernel) (by decide +kernel)
set_option maxRecDepth 100000 in
theorem lk_X2_153 : ct_LkV RX2 153 m_X2_trace 1 := ct_LkV_of 569 570 571 (by decide +kernel) (by decide +kernel) (by decide +kernel) (by decide +kernel)
set_option maxRecDepth 100000 in
theorem lk_X2_150 : ct_LkV RX2 150 m_X0_isLikeBelow 1 := ct_LkV_of 565 566 567 (by decide +kernel) (by decide +kernel) (by decide +kernel) (by decide +kernel)
def f_X2_isIn (G : ct_G) (h : ct_H) (o : Nat) (a1 : Int) : Option (Int) := (ct_rd G h (G.1 (G.1 o 0) 0) a1).bind fun v1 => if v1 < (h.1 o 6) then (some 0) else some 1
set_option maxRecDepth 100000 in
theorem e_X2_isIn {d : Nat} {G : ct_G} {h : ct_H} (o : Nat) (a1 : Int) : ct_E m_X2_isIn d G (ct_args 0 [.inr (.inr (2, o)), .inl a1]) h (fun r : Int => (some (.inl r : ct_PV), h)) (f_X2_isIn G h o a1) := by
  intro x C
  unfold f_X2_isIn
  show ct_Z x m_X2_isIn G 0 [(0, .inr (.inr (2, o))), (1, .inl a1)] [] h (fun a => ct_q x G ((fun r : Int => (some (.inl r : ct_PV), h)) a)) _
  refine ct_zrun C (k' := 4) (y := ([(0, .inr (.inr (2, o))), (1, .inl a1)], [.inl a1, .inr (.inr (8, (G.1 (G.1 o 0) 0)))], h)) 4 rfl rfl rfl ?_
  refine ct_zrd C (pc := 8) (aux := 0) (ins := .iaload) (cd := 8) rfl rfl (Or.inl ⟨rfl, rfl⟩) (fun v1 => ?_)
  refine ct_zrun C (k' := 7) (y := ([(0, .inr (.inr (2, o))), (1, .inl a1)], [.inl (h.1 o 6), .inl v1], h)) 2 rfl rfl rfl ?_
  refine ct_zt C (pc := 13) (aux := 0) (cn := .lt) (off := 7) (k' := 10) (a := v1) (b := (h.1 o 6)) Iff.rfl rfl rfl rfl (fun e2 => ?_) (fun e2 => ?_)
  · refine ct_zrun C (k' := 11) (y := ([(0, .inr (.inr (2, o))), (1, .inl a1)], [.inl 0], h)) 1 rfl rfl rfl ?_
    exact ct_zret C (pc := 21) (aux := 0) (ins := .ireturn) (ρ := (fun r : Int => (some (.inl r : ct_PV), h))) (some (.inl 0)) rfl rfl rfl ⟨rfl, Or.inr ⟨rfl, Or.inl rfl⟩⟩
  · refine ct_zrun C (k' := 9) (y := ([(0, .inr (.inr (2, o))), (1, .inl a1)], [.inl 1], h)) 1 rfl rfl rfl ?_
    refine ct_zgoto C (pc := 17) (aux := 0) (off := 4) (k' := 11) rfl rfl ?_
    exact ct_zret C (pc := 21) (aux := 0) (ins := .ireturn) (ρ := (fun r : Int => (some (.inl r : ct_PV), h))) (some (.inl 1)) rfl rfl rfl ⟨rfl, Or.inr ⟨rfl, Or.inr rfl⟩⟩
def f_X2_wayOver (G : ct_G) (h : ct_H) (o : Nat) (a1 : Int) : Option (Int) := (ct_dv a1 2).bind fun v1 => (f_X2_isIn G h o v1).bind fun v2 => (ct_md a1 2).bind fun v3 => if v3 = 0 then (if v2 = 0 then (some 100) else some 117) else if v2 = 0 then (some 108) else some 114
set_option maxRecDepth 100000 in
theorem e_X2_wayOver {d : Nat} {G : ct_G} {h : ct_H} (o : Nat) (a1 : Int) : ct_E m_X2_wayOver (d + 1) G (ct_args 0 [.inr (.inr (2, o)), .inl a1]) h (fun r : Int => (some (.inl r : ct_PV), h)) (f_X2_wayOver G h o a1) := by
  intro x C
  unfold f_X2_wayOver
  show ct_Z x m_X2_wayOver G 0 [(0, .inr (.inr (2, o))), (1, .inl a1)] [] h (fun a => ct_q x G ((fun r : Int => (some (.inl r : ct_PV), h)) a)) _
  refine ct_zrun C (k' := 3) (y := ([(0, .inr (.inr (2, o))), (1, .inl a1)], [.inl 2, .inl a1, .inr (.inr (2, o))], h)) 3 rfl rfl rfl ?_
  refine ct_zdv C (pc := 3) (aux := 0) rfl rfl (fun v1 => ?_)
  refine ct_zV C (pc := 4) (aux := 0) [.inl v1] [] ok_X2_isIn lk_X2_58 (e_X2_isIn o v1) rfl rfl rfl rfl rfl rfl rfl rfl (fun v2 => ?_)
  refine ct_zrun C (k' := 8) (y := ([(2, .inl v2), (0, .inr (.inr (2, o))), (1, .inl a1)], [.inl 2, .inl a1], h)) 3 rfl rfl rfl ?_
  refine ct_zmd C (pc := 10) (aux := 0) rfl rfl (fun v3 => ?_)
  refine ct_zf0 C (pc := 11) (aux := 0) (cn := .ne) (off := 15) (k' := 16) (a := v3) Iff.rfl rfl rfl rfl (fun e6 => ?_) (fun e6 => ?_)
  · refine ct_zrun C (k' := 11) (y := ([(2, .inl v2), (0, .inr (.inr (2, o))), (1, .inl a1)], [.inl v2], h)) 1 rfl rfl rfl ?_
    refine ct_zt0 C (pc := 15) (aux := 0) (cn := .eq) (off := 8) (k' := 14) (a := v2) Iff.rfl rfl rfl rfl (fun e5 => ?_) (fun e5 => ?_)
    · refine ct_zrun C (k' := 15) (y := ([(2, .inl v2), (0, .inr (.inr (2, o))), (1, .inl a1)], [.inl 100], h)) 1 rfl rfl rfl ?_
      exact ct_zret C (pc := 25) (aux := 0) (ins := .ireturn) (ρ := (fun r : Int => (some (.inl r : ct_PV), h))) (some (.inl 100)) rfl rfl rfl ⟨rfl, Or.inl rfl⟩
    · refine ct_zrun C (k' := 13) (y := ([(2, .inl v2), (0, .inr (.inr (2, o))), (1, .inl a1)], [.inl 117], h)) 1 rfl rfl rfl ?_
      refine ct_zgoto C (pc := 20) (aux := 0) (off := 5) (k' := 15) rfl rfl ?_
      exact ct_zret C (pc := 25) (aux := 0) (ins := .ireturn) (ρ := (fun r : Int => (some (.inl r : ct_PV), h))) (some (.inl 117)) rfl rfl rfl ⟨rfl, Or.inl rfl⟩
  · refine ct_zrun C (k' := 17) (y := ([(2, .inl v2), (0, .inr (.inr (2, o))), (1, .inl a1)], [.inl v2], h)) 1 rfl rfl rfl ?_
    refine ct_zt0 C (pc := 27) (aux := 0) (cn := .eq) (off := 8) (k' := 20) (a := v2) Iff.rfl rfl rfl rfl (fun e4 => ?_) (fun e4 => ?_)
    · refine ct_zrun C (k' := 21) (y := ([(2, .inl v2), (0, .inr (.inr (2, o))), (1, .inl a1)], [.inl 108], h)) 1 rfl rfl rfl ?_
      exact ct_zret C (pc := 37) (aux := 0) (ins := .ireturn) (ρ := (fun r : Int => (some (.inl r : ct_PV), h))) (some (.inl 108)) rfl rfl rfl ⟨rfl, Or.inl rfl⟩
    · refine ct_zrun C (k' := 19) (y := ([(2, .inl v2), (0, .inr (.inr (2, o))), (1, .inl a1)], [.inl 114], h)) 1 rfl rfl rfl ?_
      refine ct_zgoto C (pc := 32) (aux := 0) (off := 5) (k' := 21) rfl rfl ?_
      exact ct_zret C (pc := 37) (aux := 0) (ins := .ireturn) (ρ := (fun r : Int => (some (.inl r : ct_PV), h))) (some (.inl 114)) rfl rfl rfl ⟨rfl, Or.inl rfl⟩
def f_X2_sideOf (G : ct_G) (h : ct_H) (o : Nat) (a1 : Int) (a2 : Int) : Option (Int) := if a2 = 0 then (some (ct_wr (2 * a1))) else if a2 = 1 then (some (ct_wr ((ct_wr (2 * (ct_wr (a1 + 1)))) + 1))) else if a2 = 2 then (some (ct_wr (2 * (ct_wr (a1 + (h.1 (G.1 o 0) 3)))))) else some (ct_wr ((ct_wr (2 * a1)) + 1))
set_option maxRecDepth 100000 in
theorem e_X2_sideOf {d : Nat} {G : ct_G} {h : ct_H} (o : Nat) (a1 : Int) (a2 : Int) : ct_E m_X2_sideOf d G (ct_args 0 [.inr (.inr (2, o)), .inl a1, .inl a2]) h (fun r : Int => (some (.inl r : ct_PV), h)) (f_X2_sideOf G h o a1 a2) := by
  intro x C
  unfold f_X2_sideOf
  show ct_Z x m_X2_sideOf G 0 [(0, .inr (.inr (2, o))), (1, .inl a1), (2, .inl a2)] [] h (fun a => ct_q x G ((fun r : Int => (some (.inl r : ct_PV), h)) a)) _
  refine ct_zrun C (k' := 1) (y := ([(0, .inr (.inr (2, o))), (1, .inl a1), (2, .inl a2)], [.inl a2], h)) 1 rfl rfl rfl ?_
  refine ct_zsplit (fun e1 => ?_) (fun e1 => ?_)
  · refine ct_zsw C (off := 27) (k' := 2) rfl (by rw [e1]; rfl) rfl ?_
    refine ct_zrun C (k' := 5) (y := ([(0, .inr (.inr (2, o))), (1, .inl a1), (2, .inl a2)], [.inl (ct_wr (2 * a1))], h)) 3 rfl rfl rfl ?_
    exact ct_zret C (pc := 31) (aux := 0) (ins := .ireturn) (ρ := (fun r : Int => (some (.inl r : ct_PV), h))) (some (.inl (ct_wr (2 * a1)))) rfl rfl rfl ⟨rfl, Or.inl rfl⟩
  · refine ct_zsplit (fun e2 => ?_) (fun e2 => ?_)
    · refine ct_zsw C (off := 31) (k' := 6) rfl (by rw [e2]; rfl) rfl ?_
      refine ct_zrun C (k' := 13) (y := ([(0, .inr (.inr (2, o))), (1, .inl a1), (2, .inl a2)], [.inl (ct_wr ((ct_wr (2 * (ct_wr (a1 + 1)))) + 1))], h)) 7 rfl rfl rfl ?_
      exact ct_zret C (pc := 39) (aux := 0) (ins := .ireturn) (ρ := (fun r : Int => (some (.inl r : ct_PV), h))) (some (.inl (ct_wr ((ct_wr (2 * (ct_wr (a1 + 1)))) + 1)))) rfl rfl rfl ⟨rfl, Or.inl rfl⟩
    · refine ct_zsplit (fun e3 => ?_) (fun e3 => ?_)
      · refine ct_zsw C (off := 39) (k' := 14) rfl (by rw [e3]; rfl) rfl ?_
        refine ct_zrun C (k' := 21) (y := ([(0, .inr (.inr (2, o))), (1, .inl a1), (2, .inl a2)], [.inl (ct_wr (2 * (ct_wr (a1 + (h.1 (G.1 o 0) 3)))))], h)) 7 rfl rfl rfl ?_
        exact ct_zret C (pc := 51) (aux := 0) (ins := .ireturn) (ρ := (fun r : Int => (some (.inl r : ct_PV), h))) (some (.inl (ct_wr (2 * (ct_wr (a1 + (h.1 (G.1 o 0) 3))))))) rfl rfl rfl ⟨rfl, Or.inl rfl⟩
      · refine ct_zsw C (off := 51) (k' := 22) rfl (by show (if _ then _ else _) = _; rw [if_pos (by omega)]) rfl ?_
        refine ct_zrun C (k' := 27) (y := ([(0, .inr (.inr (2, o))), (1, .inl a1), (2, .inl a2)], [.inl (ct_wr ((ct_wr (2 * a1)) + 1))], h)) 5 rfl rfl rfl ?_
        exact ct_zret C (pc := 57) (aux := 0) (ins := .ireturn) (ρ := (fun r : Int => (some (.inl r : ct_PV), h))) (some (.inl (ct_wr ((ct_wr (2 * a1)) + 1)))) rfl rfl rfl ⟨rfl, Or.inl rfl⟩
def l_X2_leave_42 (G : ct_G) (v1 : Int) (k5 : Int → Option (Int)) : Nat → Int → Option (Int)
  | 0, _ => none
  | n4 + 1, b3 => if 3 ≤ b3 then (k5 b3) else if (ct_bop (fun x y => x &&& y) (ct_bop (fun x y => x >>> (y &&& 31)) v1 b3) 3) = 1 then (k5 b3) else l_X2_leave_42 G v1 k5 n4 (ct_wr (b3 + 1))
set_option maxRecDepth 100000 in
theorem zl_X2_leave_42 {x : ct_Ctx} {d : Nat} {G : ct_G} (C : ct_c x m_X2_leave G (d + 1)) (o : Nat) (a1 : Int) (h : ct_H) (v1 : Int) (k5 : Int → Option (Int)) (z6 : ∀ b7 : Int, ct_Z x m_X2_leave G 54 [(0, .inr (.inr (2, o))), (1, .inl a1), (4, .inl b7)] [] h (fun a => ct_q x G ((fun r : Int => (some (.inl r : ct_PV), h)) a)) (k5 b7)) : ∀ (n4 : Nat) (b3 : Int), ct_Z x m_X2_leave G 42 [(0, .inr (.inr (2, o))), (1, .inl a1), (3, .inl v1), (4, .inl b3)] [] h (fun a => ct_q x G ((fun r : Int => (some (.inl r : ct_PV), h)) a)) (l_X2_leave_42 G v1 k5 n4 b3) := by
  intro n4
  induction n4 with
  | zero => intro b3; exact ct_znone
  | succ n4 ih =>
    intro b3
    rw [l_X2_leave_42]
    refine ct_zrun C (k' := 44) (y := ([(0, .inr (.inr (2, o))), (1, .inl a1), (3, .inl v1), (4, .inl b3)], [.inl 3, .inl b3], h)) 2 rfl rfl rfl ?_
    refine ct_zt C (pc := 78) (aux := 0) (cn := .ge) (off := 19) (k' := 54) (a := b3) (b := 3) Iff.rfl rfl rfl rfl (fun e9 => ?_) (fun e9 => ?_)
    · exact ct_zsub [0, 1, 3] rfl (z6 b3)
    · refine ct_zrun C (k' := 51) (y := ([(0, .inr (.inr (2, o))), (1, .inl a1), (3, .inl v1), (4, .inl b3)], [.inl 1, .inl (ct_bop (fun x y => x &&& y) (ct_bop (fun x y => x >>> (y &&& 31)) v1 b3) 3)], h)) 6 rfl rfl rfl ?_
      refine ct_zt C (pc := 88) (aux := 0) (cn := .eq) (off := 9) (k' := 54) (a := (ct_bop (fun x y => x &&& y) (ct_bop (fun x y => x >>> (y &&& 31)) v1 b3) 3)) (b := 1) Iff.rfl rfl rfl rfl (fun e8 => ?_) (fun e8 => ?_)
      · exact ct_zsub [0, 1, 3] rfl (z6 b3)
      · refine ct_zrun C (k' := 53) (y := ([(4, .inl (ct_wr (b3 + 1))), (0, .inr (.inr (2, o))), (1, .inl a1), (3, .inl v1)], [], h)) 1 rfl rfl rfl ?_
        refine ct_zgoto C (pc := 94) (aux := 0) (off := (-19)) (k' := 42) rfl rfl ?_
        exact ct_zsub [1, 2, 3, 0] rfl (ih (ct_wr (b3 + 1)))
def f_X2_leave (G : ct_G) (h : ct_H) (o : Nat) (a1 : Int) (a2 : Int) : Option (Int) := (f_X0_caseOf G h (G.1 o 0) a1 (h.1 o 6)).bind fun v1 => (f_X0_isSaddle G h v1).bind fun v2 => if v2 = 0 then (l_X2_leave_42 G v1 (fun b10 => (f_X2_sideOf G h o a1 b10).bind fun v11 => some v11) 200 0) else ct_jn (β := Int) (fun k13 => if v1 = 5 then (k13 1) else k13 0) (fun b12 => (f_X0_isJoined G h (G.1 o 0) a1 (h.1 o 6)).bind fun v15 => ct_jn (β := Int) (fun k17 => if b12 = v15 then (k17 1) else k17 0) (fun b16 => ct_jn (β := Int) (fun k20 => if b16 = 0 then (k20 (ct_wr (3 - a2))) else k20 (ct_bop (fun x y => x ^^^ y) a2 1)) (fun b19 => (f_X2_sideOf G h o a1 b19).bind fun v22 => some v22)))
set_option maxRecDepth 100000 in
theorem e_X2_leave {d : Nat} {G : ct_G} {h : ct_H} (o : Nat) (a1 : Int) (a2 : Int) : ct_E m_X2_leave (d + 1) G (ct_args 0 [.inr (.inr (2, o)), .inl a1, .inl a2]) h (fun r : Int => (some (.inl r : ct_PV), h)) (f_X2_leave G h o a1 a2) := by
  intro x C
  unfold f_X2_leave
  show ct_Z x m_X2_leave G 0 [(0, .inr (.inr (2, o))), (1, .inl a1), (2, .inl a2)] [] h (fun a => ct_q x G ((fun r : Int => (some (.inl r : ct_PV), h)) a)) _
  refine ct_zrun C (k' := 5) (y := ([(0, .inr (.inr (2, o))), (1, .inl a1), (2, .inl a2)], [.inl (h.1 o 6), .inl a1, .inr (.inr (0, (G.1 o 0)))], h)) 5 rfl rfl rfl ?_
  refine ct_zV C (pc := 9) (aux := 0) [.inl a1, .inl (h.1 o 6)] [] ok_X0_caseOf lk_X2_80 (e_X0_caseOf (G.1 o 0) a1 (h.1 o 6)) rfl rfl rfl rfl rfl rfl rfl rfl (fun v1 => ?_)
  refine ct_zrun C (k' := 8) (y := ([(3, .inl v1), (0, .inr (.inr (2, o))), (1, .inl a1), (2, .inl a2)], [.inl v1], h)) 2 rfl rfl rfl ?_
  refine ct_zS C (pc := 14) (aux := 0) [.inl v1] [] ok_X0_isSaddle lk_X2_83 (e_X0_isSaddle v1) rfl rfl rfl rfl rfl rfl (fun v2 => ?_)
  refine ct_zt0 C (pc := 17) (aux := 0) (cn := .eq) (off := 55) (k' := 40) (a := v2) Iff.rfl rfl rfl rfl (fun e26 => ?_) (fun e26 => ?_)
  · refine ct_zrun C (k' := 42) (y := ([(4, .inl 0), (3, .inl v1), (0, .inr (.inr (2, o))), (1, .inl a1), (2, .inl a2)], [], h)) 2 rfl rfl rfl ?_
    refine ct_zsub [2, 3, 1, 0] rfl (zl_X2_leave_42 C o a1 h v1 _ (fun b10 => ?_) 200 0)
    refine ct_zrun C (k' := 57) (y := ([(0, .inr (.inr (2, o))), (1, .inl a1), (4, .inl b10)], [.inl b10, .inl a1, .inr (.inr (2, o))], h)) 3 rfl rfl rfl ?_
    refine ct_zV C (pc := 101) (aux := 0) [.inl a1, .inl b10] [] ok_X2_sideOf lk_X2_90 (e_X2_sideOf o a1 b10) rfl rfl rfl rfl rfl rfl rfl rfl (fun v11 => ?_)
    exact ct_zret C (pc := 104) (aux := 0) (ins := .ireturn) (ρ := (fun r : Int => (some (.inl r : ct_PV), h))) (some (.inl v11)) rfl rfl rfl ⟨rfl, Or.inl rfl⟩
  · refine ct_zrun C (k' := 12) (y := ([(3, .inl v1), (0, .inr (.inr (2, o))), (1, .inl a1), (2, .inl a2)], [.inl 5, .inl v1], h)) 2 rfl rfl rfl ?_
    refine ct_zjn (β := Int) (kJ := 16) (L := fun b12 => [(0, .inr (.inr (2, o))), (1, .inl a1), (2, .inl a2)]) (S := fun b12 => [.inl b12]) (Hh := fun b12 => h) (fun b12 => ?_) (fun k13 z14 => ?_)
    · refine ct_zrun C (k' := 21) (y := ([(0, .inr (.inr (2, o))), (1, .inl a1), (2, .inl a2)], [.inl (h.1 o 6), .inl a1, .inr (.inr (0, (G.1 o 0))), .inl b12], h)) 5 rfl rfl rfl ?_
      refine ct_zV C (pc := 39) (aux := 0) [.inl a1, .inl (h.1 o 6)] [.inl b12] ok_X0_isJoined lk_X2_86 (e_X0_isJoined (G.1 o 0) a1 (h.1 o 6)) rfl rfl rfl rfl rfl rfl rfl rfl (fun v15 => ?_)
      refine ct_zjn (β := Int) (kJ := 26) (L := fun b16 => [(0, .inr (.inr (2, o))), (1, .inl a1), (2, .inl a2)]) (S := fun b16 => [.inl b16]) (Hh := fun b16 => h) (fun b16 => ?_) (fun k17 z18 => ?_)
      · refine ct_zrun C (k' := 30) (y := ([(4, .inl b16), (0, .inr (.inr (2, o))), (1, .inl a1), (2, .inl a2)], [.inl b16, .inl a1, .inr (.inr (2, o))], h)) 4 rfl rfl rfl ?_
        refine ct_zjn (β := Int) (kJ := 38) (L := fun b19 => []) (S := fun b19 => [.inl b19, .inl a1, .inr (.inr (2, o))]) (Hh := fun b19 => h) (fun b19 => ?_) (fun k20 z21 => ?_)
        · refine ct_zV C (pc := 68) (aux := 0) [.inl a1, .inl b19] [] ok_X2_sideOf lk_X2_90 (e_X2_sideOf o a1 b19) rfl rfl rfl rfl rfl rfl rfl rfl (fun v22 => ?_)
          exact ct_zret C (pc := 71) (aux := 0) (ins := .ireturn) (ρ := (fun r : Int => (some (.inl r : ct_PV), h))) (some (.inl v22)) rfl rfl rfl ⟨rfl, Or.inl rfl⟩
        · refine ct_zt0 C (pc := 56) (aux := 0) (cn := .eq) (off := 9) (k' := 35) (a := b16) Iff.rfl rfl rfl rfl (fun e23 => ?_) (fun e23 => ?_)
          · refine ct_zrun C (k' := 38) (y := ([(4, .inl b16), (0, .inr (.inr (2, o))), (1, .inl a1), (2, .inl a2)], [.inl (ct_wr (3 - a2)), .inl a1, .inr (.inr (2, o))], h)) 3 rfl rfl rfl ?_
            exact ct_zsub [] rfl (z21 (ct_wr (3 - a2)))
          · refine ct_zrun C (k' := 34) (y := ([(4, .inl b16), (0, .inr (.inr (2, o))), (1, .inl a1), (2, .inl a2)], [.inl (ct_bop (fun x y => x ^^^ y) a2 1), .inl a1, .inr (.inr (2, o))], h)) 3 rfl rfl rfl ?_
            refine ct_zgoto C (pc := 62) (aux := 0) (off := 6) (k' := 38) rfl rfl ?_
            exact ct_zsub [] rfl (z21 (ct_bop (fun x y => x ^^^ y) a2 1))
      · refine ct_zf C (pc := 42) (aux := 0) (cn := .ne) (off := 7) (k' := 25) (a := b12) (b := v15) Iff.rfl rfl rfl rfl (fun e24 => ?_) (fun e24 => ?_)
        · refine ct_zrun C (k' := 24) (y := ([(0, .inr (.inr (2, o))), (1, .inl a1), (2, .inl a2)], [.inl 1], h)) 1 rfl rfl rfl ?_
          refine ct_zgoto C (pc := 46) (aux := 0) (off := 4) (k' := 26) rfl rfl ?_
          exact ct_zsub [0, 1, 2] rfl (z18 1)
        · refine ct_zrun C (k' := 26) (y := ([(0, .inr (.inr (2, o))), (1, .inl a1), (2, .inl a2)], [.inl 0], h)) 1 rfl rfl rfl ?_
          exact ct_zsub [0, 1, 2] rfl (z18 0)
    · refine ct_zf C (pc := 22) (aux := 0) (cn := .ne) (off := 7) (k' := 15) (a := v1) (b := 5) Iff.rfl rfl rfl rfl (fun e25 => ?_) (fun e25 => ?_)
      · refine ct_zrun C (k' := 14) (y := ([(3, .inl v1), (0, .inr (.inr (2, o))), (1, .inl a1), (2, .inl a2)], [.inl 1], h)) 1 rfl rfl rfl ?_
        refine ct_zgoto C (pc := 26) (aux := 0) (off := 4) (k' := 16) rfl rfl ?_
        exact ct_zsub [1, 2, 3] rfl (z14 1)
      · refine ct_zrun C (k' := 16) (y := ([(3, .inl v1), (0, .inr (.inr (2, o))), (1, .inl a1), (2, .inl a2)], [.inl 0], h)) 1 rfl rfl rfl ?_
        exact ct_zsub [1, 2, 3] rfl (z14 0)
def f_X2_nextOf (G : ct_G) (h : ct_H) (o : Nat) (a1 : Int) : Option (Int) := (f_X2_wayOver G h o a1).bind fun v1 => if v1 = 100 then ((ct_dv a1 2).bind fun v2 => (f_X2_leave G h o v2 0).bind fun v3 => some v3) else if v1 = 114 then ((ct_dv a1 2).bind fun v5 => (f_X2_leave G h o v5 3).bind fun v6 => some v6) else if v1 = 117 then ((ct_dv a1 2).bind fun v8 => (f_X2_leave G h o (ct_wr (v8 - (h.1 (G.1 o 0) 3))) 2).bind fun v9 => some v9) else (ct_dv a1 2).bind fun v11 => (f_X2_leave G h o (ct_wr (v11 - 1)) 1).bind fun v12 => some v12
set_option maxRecDepth 100000 in
theorem e_X2_nextOf {d : Nat} {G : ct_G} {h : ct_H} (o : Nat) (a1 : Int) : ct_E m_X2_nextOf (d + 2) G (ct_args 0 [.inr (.inr (2, o)), .inl a1]) h (fun r : Int => (some (.inl r : ct_PV), h)) (f_X2_nextOf G h o a1) := by
  intro x C
  unfold f_X2_nextOf
  show ct_Z x m_X2_nextOf G 0 [(0, .inr (.inr (2, o))), (1, .inl a1)] [] h (fun a => ct_q x G ((fun r : Int => (some (.inl r : ct_PV), h)) a)) _
  refine ct_zrun C (k' := 2) (y := ([(0, .inr (.inr (2, o))), (1, .inl a1)], [.inl a1, .inr (.inr (2, o))], h)) 2 rfl rfl rfl ?_
  refine ct_zV C (pc := 2) (aux := 0) [.inl a1] [] ok_X2_wayOver lk_X2_73 (e_X2_wayOver o a1) rfl rfl rfl rfl rfl rfl rfl rfl (fun v1 => ?_)
  refine ct_zsplit (fun e4 => ?_) (fun e4 => ?_)
  · refine ct_zsw C (off := 52) (k' := 15) rfl (by rw [e4]; rfl) rfl ?_
    refine ct_zrun C (k' := 18) (y := ([(0, .inr (.inr (2, o))), (1, .inl a1)], [.inl 2, .inl a1, .inr (.inr (2, o))], h)) 3 rfl rfl rfl ?_
    refine ct_zdv C (pc := 60) (aux := 0) rfl rfl (fun v2 => ?_)
    refine ct_zrun C (k' := 20) (y := ([(0, .inr (.inr (2, o))), (1, .inl a1)], [.inl 0, .inl v2, .inr (.inr (2, o))], h)) 1 rfl rfl rfl ?_
    refine ct_zV C (pc := 62) (aux := 0) [.inl v2, .inl 0] [] ok_X2_leave lk_X2_76 (e_X2_leave o v2 0) rfl rfl rfl rfl rfl rfl rfl rfl (fun v3 => ?_)
    exact ct_zret C (pc := 65) (aux := 0) (ins := .ireturn) (ρ := (fun r : Int => (some (.inl r : ct_PV), h))) (some (.inl v3)) rfl rfl rfl ⟨rfl, Or.inl rfl⟩
  · refine ct_zsplit (fun e7 => ?_) (fun e7 => ?_)
    · refine ct_zsw C (off := 61) (k' := 22) rfl (by rw [e7]; rfl) rfl ?_
      refine ct_zrun C (k' := 25) (y := ([(0, .inr (.inr (2, o))), (1, .inl a1)], [.inl 2, .inl a1, .inr (.inr (2, o))], h)) 3 rfl rfl rfl ?_
      refine ct_zdv C (pc := 69) (aux := 0) rfl rfl (fun v5 => ?_)
      refine ct_zrun C (k' := 27) (y := ([(0, .inr (.inr (2, o))), (1, .inl a1)], [.inl 3, .inl v5, .inr (.inr (2, o))], h)) 1 rfl rfl rfl ?_
      refine ct_zV C (pc := 71) (aux := 0) [.inl v5, .inl 3] [] ok_X2_leave lk_X2_76 (e_X2_leave o v5 3) rfl rfl rfl rfl rfl rfl rfl rfl (fun v6 => ?_)
      exact ct_zret C (pc := 74) (aux := 0) (ins := .ireturn) (ρ := (fun r : Int => (some (.inl r : ct_PV), h))) (some (.inl v6)) rfl rfl rfl ⟨rfl, Or.inl rfl⟩
    · refine ct_zsplit (fun e10 => ?_) (fun e10 => ?_)
      · refine ct_zsw C (off := 35) (k' := 4) rfl (by rw [e10]; rfl) rfl ?_
        refine ct_zrun C (k' := 7) (y := ([(0, .inr (.inr (2, o))), (1, .inl a1)], [.inl 2, .inl a1, .inr (.inr (2, o))], h)) 3 rfl rfl rfl ?_
        refine ct_zdv C (pc := 43) (aux := 0) rfl rfl (fun v8 => ?_)
        refine ct_zrun C (k' := 13) (y := ([(0, .inr (.inr (2, o))), (1, .inl a1)], [.inl 2, .inl (ct_wr (v8 - (h.1 (G.1 o 0) 3))), .inr (.inr (2, o))], h)) 5 rfl rfl rfl ?_
        refine ct_zV C (pc := 53) (aux := 0) [.inl (ct_wr (v8 - (h.1 (G.1 o 0) 3))), .inl 2] [] ok_X2_leave lk_X2_76 (e_X2_leave o (ct_wr (v8 - (h.1 (G.1 o 0) 3))) 2) rfl rfl rfl rfl rfl rfl rfl rfl (fun v9 => ?_)
        exact ct_zret C (pc := 56) (aux := 0) (ins := .ireturn) (ρ := (fun r : Int => (some (.inl r : ct_PV), h))) (some (.inl v9)) rfl rfl rfl ⟨rfl, Or.inl rfl⟩
      · refine ct_zsw C (off := 70) (k' := 29) rfl (by simp [ct_sw, Op.lookupswitch.offset]; rw [if_neg (fun q => e4 q.symm), if_neg (fun q => e7 q.symm), if_neg (fun q => e10 q.symm)]) rfl ?_
        refine ct_zrun C (k' := 32) (y := ([(0, .inr (.inr (2, o))), (1, .inl a1)], [.inl 2, .inl a1, .inr (.inr (2, o))], h)) 3 rfl rfl rfl ?_
        refine ct_zdv C (pc := 78) (aux := 0) rfl rfl (fun v11 => ?_)
        refine ct_zrun C (k' := 36) (y := ([(0, .inr (.inr (2, o))), (1, .inl a1)], [.inl 1, .inl (ct_wr (v11 - 1)), .inr (.inr (2, o))], h)) 3 rfl rfl rfl ?_
        refine ct_zV C (pc := 82) (aux := 0) [.inl (ct_wr (v11 - 1)), .inl 1] [] ok_X2_leave lk_X2_76 (e_X2_leave o (ct_wr (v11 - 1)) 1) rfl rfl rfl rfl rfl rfl rfl rfl (fun v12 => ?_)
        exact ct_zret C (pc := 85) (aux := 0) (ins := .ireturn) (ρ := (fun r : Int => (some (.inl r : ct_PV), h))) (some (.inl v12)) rfl rfl rfl ⟨rfl, Or.inl rfl⟩
def l_X2_follow_19 (G : ct_G) (o : Nat) (k5 : (Int × ct_H) → Option (ct_H)) : Nat → (Int × Int × ct_H) → Option (ct_H)
  | 0, _ => none
  | n4 + 1, b3 => if 162 ≤ b3.1 then (k5 (b3.1, b3.2.2)) else (ct_rd G b3.2.2 (G.1 o 1) b3.2.1).bind fun v8 => if v8 = (-5) then ((ct_wt G b3.2.2 (G.1 o 1) b3.2.1 (b3.2.2.1 o 5)).bind fun h9 => (ct_wt G h9 (G.1 o 2) b3.1 b3.2.1).bind fun h10 => (f_X2_nextOf G h10 o b3.2.1).bind fun v11 => l_X2_follow_19 G o k5 n4 ((ct_wr (b3.1 + 1)), v11, h10)) else k5 (b3.1, b3.2.2)
set_option maxRecDepth 100000 in
theorem zl_X2_follow_19 {x : ct_Ctx} {d : Nat} {G : ct_G} (C : ct_c x m_X2_follow G (d + 3)) (o : Nat) (k5 : (Int × ct_H) → Option (ct_H)) (z6 : ∀ b7 : Int × ct_H, ct_Z x m_X2_follow G 45 [(0, .inr (.inr (2, o))), (2, .inl (b7.1))] [] b7.2 (fun a => ct_q x G ((fun r : ct_H => ((none : Option ct_PV), r)) a)) (k5 b7)) : ∀ (n4 : Nat) (b3 : Int × Int × ct_H), ct_Z x m_X2_follow G 19 [(0, .inr (.inr (2, o))), (2, .inl (b3.1)), (3, .inl (b3.2.1))] [] b3.2.2 (fun a => ct_q x G ((fun r : ct_H => ((none : Option ct_PV), r)) a)) (l_X2_follow_19 G o k5 n4 b3) := by
  intro n4
  induction n4 with
  | zero => intro b3; exact ct_znone
  | succ n4 ih =>
    intro b3
    rw [l_X2_follow_19]
    refine ct_zrun C (k' := 21) (y := ([(0, .inr (.inr (2, o))), (2, .inl (b3.1)), (3, .inl (b3.2.1))], [.inl 162, .inl (b3.1)], b3.2.2)) 2 rfl rfl rfl ?_
    refine ct_zt C (pc := 37) (aux := 0) (cn := .ge) (off := 43) (k' := 45) (a := b3.1) (b := 162) Iff.rfl rfl rfl rfl (fun e13 => ?_) (fun e13 => ?_)
    · exact ct_zsub [0, 1] rfl (z6 (b3.1, b3.2.2))
    · refine ct_zrun C (k' := 25) (y := ([(0, .inr (.inr (2, o))), (2, .inl (b3.1)), (3, .inl (b3.2.1))], [.inl (b3.2.1), .inr (.inr (8, (G.1 o 1)))], b3.2.2)) 3 rfl rfl rfl ?_
      refine ct_zrd C (pc := 45) (aux := 0) (ins := .iaload) (cd := 8) rfl rfl (Or.inl ⟨rfl, rfl⟩) (fun v8 => ?_)
      refine ct_zrun C (k' := 27) (y := ([(0, .inr (.inr (2, o))), (2, .inl (b3.1)), (3, .inl (b3.2.1))], [.inl (-5), .inl v8], b3.2.2)) 1 rfl rfl rfl ?_
      refine ct_zf C (pc := 48) (aux := 0) (cn := .ne) (off := 32) (k' := 45) (a := v8) (b := (-5)) Iff.rfl rfl rfl rfl (fun e12 => ?_) (fun e12 => ?_)
      · refine ct_zrun C (k' := 33) (y := ([(0, .inr (.inr (2, o))), (2, .inl (b3.1)), (3, .inl (b3.2.1))], [.inl (b3.2.2.1 o 5), .inl (b3.2.1), .inr (.inr (8, (G.1 o 1)))], b3.2.2)) 5 rfl rfl rfl ?_
        refine ct_zwt C (pc := 60) (aux := 0) rfl rfl (fun h9 => ?_)
        refine ct_zrun C (k' := 38) (y := ([(0, .inr (.inr (2, o))), (2, .inl (b3.1)), (3, .inl (b3.2.1))], [.inl (b3.2.1), .inl (b3.1), .inr (.inr (8, (G.1 o 2)))], h9)) 4 rfl rfl rfl ?_
        refine ct_zwt C (pc := 67) (aux := 0) rfl rfl (fun h10 => ?_)
        refine ct_zrun C (k' := 42) (y := ([(2, .inl (ct_wr (b3.1 + 1))), (0, .inr (.inr (2, o))), (3, .inl (b3.2.1))], [.inl (b3.2.1), .inr (.inr (2, o))], h10)) 3 rfl rfl rfl ?_
        refine ct_zV C (pc := 73) (aux := 0) [.inl (b3.2.1)] [] ok_X2_nextOf lk_X2_69 (e_X2_nextOf o (b3.2.1)) rfl rfl rfl rfl rfl rfl rfl rfl (fun v11 => ?_)
        refine ct_zrun C (k' := 44) (y := ([(3, .inl v11), (2, .inl (ct_wr (b3.1 + 1))), (0, .inr (.inr (2, o)))], [], h10)) 1 rfl rfl rfl ?_
        refine ct_zgoto C (pc := 77) (aux := 0) (off := (-44)) (k' := 19) rfl rfl ?_
        exact ct_zsub [2, 1, 0] rfl (ih ((ct_wr (b3.1 + 1)), v11, h10))
      · exact ct_zsub [0, 1] rfl (z6 (b3.1, b3.2.2))
def f_X2_follow (G : ct_G) (h : ct_H) (o : Nat) (a1 : Int) : Option (ct_H) := (ct_rd G h (G.1 o 1) a1).bind fun v1 => if v1 = (-5) then (if (h.1 o 5) < 40 then ((ct_rd G h (G.1 o 3) (h.1 o 5)).bind fun v2 => l_X2_follow_19 G o (fun b14 => ct_lt (ct_wF b14.2 o 5 (ct_wr ((b14.2.1 o 5) + 1))) fun h15 => (ct_wt G h15 (G.1 o 3) (h15.1 o 5) b14.1).bind fun h16 => some h16) 200 (v2, a1, h)) else some h) else some h
set_option maxRecDepth 100000 in
theorem e_X2_follow {d : Nat} {G : ct_G} {h : ct_H} (o : Nat) (a1 : Int) : ct_E m_X2_follow (d + 3) G (ct_args 0 [.inr (.inr (2, o)), .inl a1]) h (fun r : ct_H => ((none : Option ct_PV), r)) (f_X2_follow G h o a1) := by
  intro x C
  unfold f_X2_follow
  show ct_Z x m_X2_follow G 0 [(0, .inr (.inr (2, o))), (1, .inl a1)] [] h (fun a => ct_q x G ((fun r : ct_H => ((none : Option ct_PV), r)) a)) _
  refine ct_zrun C (k' := 3) (y := ([(0, .inr (.inr (2, o))), (1, .inl a1)], [.inl a1, .inr (.inr (8, (G.1 o 1)))], h)) 3 rfl rfl rfl ?_
  refine ct_zrd C (pc := 5) (aux := 0) (ins := .iaload) (cd := 8) rfl rfl (Or.inl ⟨rfl, rfl⟩) (fun v1 => ?_)
  refine ct_zrun C (k' := 5) (y := ([(0, .inr (.inr (2, o))), (1, .inl a1)], [.inl (-5), .inl v1], h)) 1 rfl rfl rfl ?_
  refine ct_zf C (pc := 8) (aux := 0) (cn := .ne) (off := 12) (k' := 10) (a := v1) (b := (-5)) Iff.rfl rfl rfl rfl (fun e18 => ?_) (fun e18 => ?_)
  · refine ct_zrun C (k' := 9) (y := ([(0, .inr (.inr (2, o))), (1, .inl a1)], [.inl 40, .inl (h.1 o 5)], h)) 3 rfl rfl rfl ?_
    refine ct_zt C (pc := 17) (aux := 0) (cn := .lt) (off := 4) (k' := 11) (a := (h.1 o 5)) (b := 40) Iff.rfl rfl rfl rfl (fun e17 => ?_) (fun e17 => ?_)
    · refine ct_zrun C (k' := 15) (y := ([(0, .inr (.inr (2, o))), (1, .inl a1)], [.inl (h.1 o 5), .inr (.inr (8, (G.1 o 3)))], h)) 4 rfl rfl rfl ?_
      refine ct_zrd C (pc := 29) (aux := 0) (ins := .iaload) (cd := 8) rfl rfl (Or.inl ⟨rfl, rfl⟩) (fun v2 => ?_)
      refine ct_zrun C (k' := 19) (y := ([(3, .inl a1), (2, .inl v2), (0, .inr (.inr (2, o))), (1, .inl a1)], [], h)) 3 rfl rfl rfl ?_
      refine ct_zsub [2, 1, 0] rfl (zl_X2_follow_19 C o _ (fun b14 => ?_) 200 (v2, a1, h))
      refine ct_zrun C (k' := 51) (y := ([(0, .inr (.inr (2, o))), (2, .inl (b14.1))], [], (ct_wF b14.2 o 5 (ct_wr ((b14.2.1 o 5) + 1))))) 6 rfl rfl rfl ?_
      refine ct_zlet (L := fun _ => [(0, .inr (.inr (2, o))), (2, .inl (b14.1))]) (S := fun _ => []) (Hh := fun h15 => h15) (a := (ct_wF b14.2 o 5 (ct_wr ((b14.2.1 o 5) + 1)))) (fun h15 => ?_)
      refine ct_zrun C (k' := 56) (y := ([(0, .inr (.inr (2, o))), (2, .inl (b14.1))], [.inl (b14.1), .inl (h15.1 o 5), .inr (.inr (8, (G.1 o 3)))], h15)) 5 rfl rfl rfl ?_
      refine ct_zwt C (pc := 99) (aux := 0) rfl rfl (fun h16 => ?_)
      exact ct_zret C (pc := 100) (aux := 0) (ins := .return_) (ρ := (fun r : ct_H => ((none : Option ct_PV), r))) none rfl rfl rfl ⟨rfl, rfl⟩
    · exact ct_zret C (pc := 20) (aux := 0) (ins := .return_) (ρ := (fun r : ct_H => ((none : Option ct_PV), r))) none rfl rfl rfl ⟨rfl, rfl⟩
  · exact ct_zret C (pc := 20) (aux := 0) (ins := .return_) (ρ := (fun r : ct_H => ((none : Option ct_PV), r))) none rfl rfl rfl ⟨rfl, rfl⟩
def l_X2_trace_36 (G : ct_G) (o : Nat) (v8 : Int) : Nat → (Int × ct_H) → Option (ct_H)
  | 0, _ => none
  | n10 + 1, b9 => if v8 ≤ b9.1 then (some (b9.2)) else (f_X2_isIn G b9.2 o b9.1).bind fun v11 => (f_X2_isIn G b9.2 o (ct_wr (b9.1 + 1))).bind fun v12 => ct_jn (β := ct_H) (fun k14 => if v11 = v12 then (k14 (b9.2)) else (f_X2_follow G b9.2 o (ct_wr (2 * b9.1))).bind fun r23 => k14 r23) (fun b13 => (f_X2_isIn G b13 o b9.1).bind fun v16 => (f_X2_isIn G b13 o (ct_wr (b9.1 + (b13.1 (G.1 o 0) 3)))).bind fun v17 => ct_jn (β := ct_H) (fun k19 => if v16 = v17 then (k19 b13) else (f_X2_follow G b13 o (ct_wr ((ct_wr (2 * b9.1)) + 1))).bind fun r21 => k19 r21) (fun b18 => l_X2_trace_36 G o v8 n10 ((ct_wr (b9.1 + 1)), b18)))
set_option maxRecDepth 100000 in
theorem zl_X2_trace_36 {x : ct_Ctx} {d : Nat} {G : ct_G} (C : ct_c x m_X2_trace G (d + 4)) (o : Nat) (v8 : Int) : ∀ (n10 : Nat) (b9 : Int × ct_H), ct_Z x m_X2_trace G 36 [(0, .inr (.inr (2, o))), (2, .inl v8), (3, .inl (b9.1))] [] b9.2 (fun a => ct_q x G ((fun r : ct_H => ((none : Option ct_PV), r)) a)) (l_X2_trace_36 G o v8 n10 b9) := by
  intro n10
  induction n10 with
  | zero => intro b9; exact ct_znone
  | succ n10 ih =>
    intro b9
    rw [l_X2_trace_36]
    refine ct_zrun C (k' := 38) (y := ([(0, .inr (.inr (2, o))), (2, .inl v8), (3, .inl (b9.1))], [.inl v8, .inl (b9.1)], b9.2)) 2 rfl rfl rfl ?_
    refine ct_zt C (pc := 73) (aux := 0) (cn := .ge) (off := 61) (k' := 73) (a := b9.1) (b := v8) Iff.rfl rfl rfl rfl (fun e25 => ?_) (fun e25 => ?_)
    · exact ct_zret C (pc := 134) (aux := 0) (ins := .return_) (ρ := (fun r : ct_H => ((none : Option ct_PV), r))) none rfl rfl rfl ⟨rfl, rfl⟩
    · refine ct_zrun C (k' := 41) (y := ([(0, .inr (.inr (2, o))), (2, .inl v8), (3, .inl (b9.1))], [.inl (b9.1), .inr (.inr (2, o))], b9.2)) 2 rfl rfl rfl ?_
      refine ct_zV C (pc := 78) (aux := 0) [.inl (b9.1)] [] ok_X2_isIn lk_X2_58 (e_X2_isIn o (b9.1)) rfl rfl rfl rfl rfl rfl rfl rfl (fun v11 => ?_)
      refine ct_zrun C (k' := 46) (y := ([(0, .inr (.inr (2, o))), (2, .inl v8), (3, .inl (b9.1))], [.inl (ct_wr (b9.1 + 1)), .inr (.inr (2, o)), .inl v11], b9.2)) 4 rfl rfl rfl ?_
      refine ct_zV C (pc := 85) (aux := 0) [.inl (ct_wr (b9.1 + 1))] [.inl v11] ok_X2_isIn lk_X2_58 (e_X2_isIn o (ct_wr (b9.1 + 1))) rfl rfl rfl rfl rfl rfl rfl rfl (fun v12 => ?_)
      refine ct_zjn (β := ct_H) (kJ := 53) (L := fun b13 => [(0, .inr (.inr (2, o))), (2, .inl v8), (3, .inl (b9.1))]) (S := fun b13 => []) (Hh := fun b13 => b13) (fun b13 => ?_) (fun k14 z15 => ?_)
      · refine ct_zrun C (k' := 55) (y := ([(0, .inr (.inr (2, o))), (2, .inl v8), (3, .inl (b9.1))], [.inl (b9.1), .inr (.inr (2, o))], b13)) 2 rfl rfl rfl ?_
        refine ct_zV C (pc := 100) (aux := 0) [.inl (b9.1)] [] ok_X2_isIn lk_X2_58 (e_X2_isIn o (b9.1)) rfl rfl rfl rfl rfl rfl rfl rfl (fun v16 => ?_)
        refine ct_zrun C (k' := 62) (y := ([(0, .inr (.inr (2, o))), (2, .inl v8), (3, .inl (b9.1))], [.inl (ct_wr (b9.1 + (b13.1 (G.1 o 0) 3))), .inr (.inr (2, o)), .inl v16], b13)) 6 rfl rfl rfl ?_
        refine ct_zV C (pc := 113) (aux := 0) [.inl (ct_wr (b9.1 + (b13.1 (G.1 o 0) 3)))] [.inl v16] ok_X2_isIn lk_X2_58 (e_X2_isIn o (ct_wr (b9.1 + (b13.1 (G.1 o 0) 3)))) rfl rfl rfl rfl rfl rfl rfl rfl (fun v17 => ?_)
        refine ct_zjn (β := ct_H) (kJ := 71) (L := fun b18 => [(0, .inr (.inr (2, o))), (2, .inl v8), (3, .inl (b9.1))]) (S := fun b18 => []) (Hh := fun b18 => b18) (fun b18 => ?_) (fun k19 z20 => ?_)
        · refine ct_zrun C (k' := 72) (y := ([(3, .inl (ct_wr (b9.1 + 1))), (0, .inr (.inr (2, o))), (2, .inl v8)], [], b18)) 1 rfl rfl rfl ?_
          refine ct_zgoto C (pc := 131) (aux := 0) (off := (-60)) (k' := 36) rfl rfl ?_
          exact ct_zsub [1, 2, 0] rfl (ih ((ct_wr (b9.1 + 1)), b18))
        · refine ct_zt C (pc := 116) (aux := 0) (cn := .eq) (off := 12) (k' := 71) (a := v16) (b := v17) Iff.rfl rfl rfl rfl (fun e22 => ?_) (fun e22 => ?_)
          · exact ct_zsub [0, 1, 2] rfl (z20 b13)
          · refine ct_zrun C (k' := 70) (y := ([(0, .inr (.inr (2, o))), (2, .inl v8), (3, .inl (b9.1))], [.inl (ct_wr ((ct_wr (2 * b9.1)) + 1)), .inr (.inr (2, o))], b13)) 6 rfl rfl rfl ?_
            refine ct_zV C (pc := 125) (aux := 0) [.inl (ct_wr ((ct_wr (2 * b9.1)) + 1))] [] ok_X2_follow lk_X2_62 (e_X2_follow o (ct_wr ((ct_wr (2 * b9.1)) + 1))) rfl rfl rfl rfl rfl rfl rfl rfl (fun r21 => ?_)
            exact ct_zsub [0, 1, 2] rfl (z20 r21)
      · refine ct_zt C (pc := 88) (aux := 0) (cn := .eq) (off := 10) (k' := 53) (a := v11) (b := v12) Iff.rfl rfl rfl rfl (fun e24 => ?_) (fun e24 => ?_)
        · exact ct_zsub [0, 1, 2] rfl (z15 (b9.2))
        · refine ct_zrun C (k' := 52) (y := ([(0, .inr (.inr (2, o))), (2, .inl v8), (3, .inl (b9.1))], [.inl (ct_wr (2 * b9.1)), .inr (.inr (2, o))], b9.2)) 4 rfl rfl rfl ?_
          refine ct_zV C (pc := 95) (aux := 0) [.inl (ct_wr (2 * b9.1))] [] ok_X2_follow lk_X2_62 (e_X2_follow o (ct_wr (2 * b9.1))) rfl rfl rfl rfl rfl rfl rfl rfl (fun r23 => ?_)
          exact ct_zsub [0, 1, 2] rfl (z15 r23)
def f_X2_trace (G : ct_G) (h : ct_H) (o : Nat) (a1 : Int) : Option (ct_H) := ct_jn (β := Unit) (fun k2 => if (h.1 o 6) = a1 then (if (h.1 o 7) = (h.1 (G.1 o 0) 6) then (some h) else k2 ()) else k2 ()) (fun b1 => ct_lt (ct_wF h o 6 a1) fun h4 => ct_lt (ct_wF h4 o 7 (h4.1 (G.1 o 0) 6)) fun h5 => ct_lt (ct_wF h5 o 5 0) fun h6 => (f_J7_fill_53178 G h6 (G.1 o 1) (-5)).bind fun r7 => ct_lt (ct_wr ((r7.1 (G.1 o 0) 4) - (r7.1 (G.1 o 0) 3))) fun v8 => l_X2_trace_36 G o v8 200 (0, r7))
set_option maxRecDepth 100000 in
theorem e_X2_trace {d : Nat} {G : ct_G} {h : ct_H} (o : Nat) (a1 : Int) : ct_E m_X2_trace (d + 4) G (ct_args 0 [.inr (.inr (2, o)), .inl a1]) h (fun r : ct_H => ((none : Option ct_PV), r)) (f_X2_trace G h o a1) := by
  intro x C
  unfold f_X2_trace
  show ct_Z x m_X2_trace G 0 [(0, .inr (.inr (2, o))), (1, .inl a1)] [] h (fun a => ct_q x G ((fun r : ct_H => ((none : Option ct_PV), r)) a)) _
  refine ct_zrun C (k' := 3) (y := ([(0, .inr (.inr (2, o))), (1, .inl a1)], [.inl a1, .inl (h.1 o 6)], h)) 3 rfl rfl rfl ?_
  refine ct_zjn (β := Unit) (kJ := 11) (L := fun b1 => [(0, .inr (.inr (2, o))), (1, .inl a1)]) (S := fun b1 => []) (Hh := fun b1 => h) (fun b1 => ?_) (fun k2 z3 => ?_)
  · refine ct_zrun C (k' := 14) (y := ([(0, .inr (.inr (2, o))), (1, .inl a1)], [], (ct_wF h o 6 a1))) 3 rfl rfl rfl ?_
    refine ct_zlet (L := fun _ => [(0, .inr (.inr (2, o))), (1, .inl a1)]) (S := fun _ => []) (Hh := fun h4 => h4) (a := (ct_wF h o 6 a1)) (fun h4 => ?_)
    refine ct_zrun C (k' := 19) (y := ([(0, .inr (.inr (2, o))), (1, .inl a1)], [], (ct_wF h4 o 7 (h4.1 (G.1 o 0) 6)))) 5 rfl rfl rfl ?_
    refine ct_zlet (L := fun _ => [(0, .inr (.inr (2, o))), (1, .inl a1)]) (S := fun _ => []) (Hh := fun h5 => h5) (a := (ct_wF h4 o 7 (h4.1 (G.1 o 0) 6))) (fun h5 => ?_)
    refine ct_zrun C (k' := 22) (y := ([(0, .inr (.inr (2, o))), (1, .inl a1)], [], (ct_wF h5 o 5 0))) 3 rfl rfl rfl ?_
    refine ct_zlet (L := fun _ => [(0, .inr (.inr (2, o))), (1, .inl a1)]) (S := fun _ => []) (Hh := fun h6 => h6) (a := (ct_wF h5 o 5 0)) (fun h6 => ?_)
    refine ct_zrun C (k' := 25) (y := ([(0, .inr (.inr (2, o))), (1, .inl a1)], [.inl (-5), .inr (.inr (8, (G.1 o 1)))], h6)) 3 rfl rfl rfl ?_
    refine ct_zS C (pc := 50) (aux := 0) [.inr (.inr (8, (G.1 o 1))), .inl (-5)] [] ok_J7_fill_53178 lk_X2_46 (e_J7_fill_53178 (G.1 o 1) (-5)) rfl rfl rfl rfl rfl rfl (fun r7 => ?_)
    refine ct_zrun C (k' := 34) (y := ([(2, .inl (ct_wr ((r7.1 (G.1 o 0) 4) - (r7.1 (G.1 o 0) 3)))), (0, .inr (.inr (2, o))), (1, .inl a1)], [], r7)) 8 rfl rfl rfl ?_
    refine ct_zlet (L := fun v8 => [(2, .inl v8), (0, .inr (.inr (2, o))), (1, .inl a1)]) (S := fun _ => []) (Hh := fun _ => r7) (a := (ct_wr ((r7.1 (G.1 o 0) 4) - (r7.1 (G.1 o 0) 3)))) (fun v8 => ?_)
    refine ct_zrun C (k' := 36) (y := ([(3, .inl 0), (2, .inl v8), (0, .inr (.inr (2, o))), (1, .inl a1)], [], r7)) 2 rfl rfl rfl ?_
    exact ct_zsub [2, 1, 0] rfl (zl_X2_trace_36 C o v8 200 (0, r7))
  · refine ct_zf C (pc := 5) (aux := 0) (cn := .ne) (off := 18) (k' := 11) (a := (h.1 o 6)) (b := a1) Iff.rfl rfl rfl rfl (fun e27 => ?_) (fun e27 => ?_)
    · refine ct_zrun C (k' := 9) (y := ([(0, .inr (.inr (2, o))), (1, .inl a1)], [.inl (h.1 (G.1 o 0) 6), .inl (h.1 o 7)], h)) 5 rfl rfl rfl ?_
      refine ct_zf C (pc := 19) (aux := 0) (cn := .ne) (off := 4) (k' := 11) (a := (h.1 o 7)) (b := (h.1 (G.1 o 0) 6)) Iff.rfl rfl rfl rfl (fun e26 => ?_) (fun e26 => ?_)
      · exact ct_zret C (pc := 22) (aux := 0) (ins := .return_) (ρ := (fun r : ct_H => ((none : Option ct_PV), r))) none rfl rfl rfl ⟨rfl, rfl⟩
      · exact ct_zsub [0, 1] rfl (z3 ())
    · exact ct_zsub [0, 1] rfl (z3 ())
def f_X2_isLine (G : ct_G) (h : ct_H) (o : Nat) (a1 : Int) : Option (Int) := if a1 < 0 then (some 0) else if (h.1 o 5) ≤ a1 then (some 0) else some 1
set_option maxRecDepth 100000 in
theorem e_X2_isLine {d : Nat} {G : ct_G} {h : ct_H} (o : Nat) (a1 : Int) : ct_E m_X2_isLine d G (ct_args 0 [.inr (.inr (2, o)), .inl a1]) h (fun r : Int => (some (.inl r : ct_PV), h)) (f_X2_isLine G h o a1) := by
  intro x C
  unfold f_X2_isLine
  show ct_Z x m_X2_isLine G 0 [(0, .inr (.inr (2, o))), (1, .inl a1)] [] h (fun a => ct_q x G ((fun r : Int => (some (.inl r : ct_PV), h)) a)) _
  refine ct_zrun C (k' := 1) (y := ([(0, .inr (.inr (2, o))), (1, .inl a1)], [.inl a1], h)) 1 rfl rfl rfl ?_
  refine ct_zt0 C (pc := 1) (aux := 0) (cn := .lt) (off := 15) (k' := 8) (a := a1) Iff.rfl rfl rfl rfl (fun e2 => ?_) (fun e2 => ?_)
  · refine ct_zrun C (k' := 9) (y := ([(0, .inr (.inr (2, o))), (1, .inl a1)], [.inl 0], h)) 1 rfl rfl rfl ?_
    exact ct_zret C (pc := 17) (aux := 0) (ins := .ireturn) (ρ := (fun r : Int => (some (.inl r : ct_PV), h))) (some (.inl 0)) rfl rfl rfl ⟨rfl, Or.inr ⟨rfl, Or.inl rfl⟩⟩
  · refine ct_zrun C (k' := 5) (y := ([(0, .inr (.inr (2, o))), (1, .inl a1)], [.inl (h.1 o 5), .inl a1], h)) 3 rfl rfl rfl ?_
    refine ct_zt C (pc := 9) (aux := 0) (cn := .ge) (off := 7) (k' := 8) (a := a1) (b := (h.1 o 5)) Iff.rfl rfl rfl rfl (fun e1 => ?_) (fun e1 => ?_)
    · refine ct_zrun C (k' := 9) (y := ([(0, .inr (.inr (2, o))), (1, .inl a1)], [.inl 0], h)) 1 rfl rfl rfl ?_
      exact ct_zret C (pc := 17) (aux := 0) (ins := .ireturn) (ρ := (fun r : Int => (some (.inl r : ct_PV), h))) (some (.inl 0)) rfl rfl rfl ⟨rfl, Or.inr ⟨rfl, Or.inl rfl⟩⟩
    · refine ct_zrun C (k' := 7) (y := ([(0, .inr (.inr (2, o))), (1, .inl a1)], [.inl 1], h)) 1 rfl rfl rfl ?_
      refine ct_zgoto C (pc := 13) (aux := 0) (off := 4) (k' := 9) rfl rfl ?_
      exact ct_zret C (pc := 17) (aux := 0) (ins := .ireturn) (ρ := (fun r : Int => (some (.inl r : ct_PV), h))) (some (.inl 1)) rfl rfl rfl ⟨rfl, Or.inr ⟨rfl, Or.inr rfl⟩⟩
def f_X2_lengthOf (G : ct_G) (h : ct_H) (o : Nat) (a1 : Int) : Option (Int) := (ct_rd G h (G.1 o 3) (ct_wr (a1 + 1))).bind fun v1 => (ct_rd G h (G.1 o 3) a1).bind fun v2 => some (ct_wr (v1 - v2))
set_option maxRecDepth 100000 in
theorem e_X2_lengthOf {d : Nat} {G : ct_G} {h : ct_H} (o : Nat) (a1 : Int) : ct_E m_X2_lengthOf d G (ct_args 0 [.inr (.inr (2, o)), .inl a1]) h (fun r : Int => (some (.inl r : ct_PV), h)) (f_X2_lengthOf G h o a1) := by
  intro x C
  unfold f_X2_lengthOf
  show ct_Z x m_X2_lengthOf G 0 [(0, .inr (.inr (2, o))), (1, .inl a1)] [] h (fun a => ct_q x G ((fun r : Int => (some (.inl r : ct_PV), h)) a)) _
  refine ct_zrun C (k' := 5) (y := ([(0, .inr (.inr (2, o))), (1, .inl a1)], [.inl (ct_wr (a1 + 1)), .inr (.inr (8, (G.1 o 3)))], h)) 5 rfl rfl rfl ?_
  refine ct_zrd C (pc := 7) (aux := 0) (ins := .iaload) (cd := 8) rfl rfl (Or.inl ⟨rfl, rfl⟩) (fun v1 => ?_)
  refine ct_zrun C (k' := 9) (y := ([(0, .inr (.inr (2, o))), (1, .inl a1)], [.inl a1, .inr (.inr (8, (G.1 o 3))), .inl v1], h)) 3 rfl rfl rfl ?_
  refine ct_zrd C (pc := 13) (aux := 0) (ins := .iaload) (cd := 8) rfl rfl (Or.inl ⟨rfl, rfl⟩) (fun v2 => ?_)
  refine ct_zrun C (k' := 11) (y := ([(0, .inr (.inr (2, o))), (1, .inl a1)], [.inl (ct_wr (v1 - v2))], h)) 1 rfl rfl rfl ?_
  exact ct_zret C (pc := 15) (aux := 0) (ins := .ireturn) (ρ := (fun r : Int => (some (.inl r : ct_PV), h))) (some (.inl (ct_wr (v1 - v2)))) rfl rfl rfl ⟨rfl, Or.inl rfl⟩
def f_X2_edgeOf (G : ct_G) (h : ct_H) (o : Nat) (a1 : Int) (a2 : Int) : Option (Int) := (ct_rd G h (G.1 o 3) a1).bind fun v1 => (ct_rd G h (G.1 o 2) (ct_wr (v1 + a2))).bind fun v2 => some v2
set_option maxRecDepth 100000 in
theorem e_X2_edgeOf {d : Nat} {G : ct_G} {h : ct_H} (o : Nat) (a1 : Int) (a2 : Int) : ct_E m_X2_edgeOf d G (ct_args 0 [.inr (.inr (2, o)), .inl a1, .inl a2]) h (fun r : Int => (some (.inl r : ct_PV), h)) (f_X2_edgeOf G h o a1 a2) := by
  intro x C
  unfold f_X2_edgeOf
  show ct_Z x m_X2_edgeOf G 0 [(0, .inr (.inr (2, o))), (1, .inl a1), (2, .inl a2)] [] h (fun a => ct_q x G ((fun r : Int => (some (.inl r : ct_PV), h)) a)) _
  refine ct_zrun C (k' := 5) (y := ([(0, .inr (.inr (2, o))), (1, .inl a1), (2, .inl a2)], [.inl a1, .inr (.inr (8, (G.1 o 3))), .inr (.inr (8, (G.1 o 2)))], h)) 5 rfl rfl rfl ?_
  refine ct_zrd C (pc := 9) (aux := 0) (ins := .iaload) (cd := 8) rfl rfl (Or.inl ⟨rfl, rfl⟩) (fun v1 => ?_)
  refine ct_zrun C (k' := 8) (y := ([(0, .inr (.inr (2, o))), (1, .inl a1), (2, .inl a2)], [.inl (ct_wr (v1 + a2)), .inr (.inr (8, (G.1 o 2)))], h)) 2 rfl rfl rfl ?_
  refine ct_zrd C (pc := 12) (aux := 0) (ins := .iaload) (cd := 8) rfl rfl (Or.inl ⟨rfl, rfl⟩) (fun v2 => ?_)
  exact ct_zret C (pc := 13) (aux := 0) (ins := .ireturn) (ρ := (fun r : Int => (some (.inl r : ct_PV), h))) (some (.inl v2)) rfl rfl rfl ⟨rfl, Or.inl rfl⟩
def f_X2_leastEdge (G : ct_G) (h : ct_H) (o : Nat) (a1 : Int) : Option (Int) := (ct_rd G h (G.1 o 3) a1).bind fun v1 => (ct_rd G h (G.1 o 2) v1).bind fun v2 => some v2
set_option maxRecDepth 100000 in
theorem e_X2_leastEdge {d : Nat} {G : ct_G} {h : ct_H} (o : Nat) (a1 : Int) : ct_E m_X2_leastEdge d G (ct_args 0 [.inr (.inr (2, o)), .inl a1]) h (fun r : Int => (some (.inl r : ct_PV), h)) (f_X2_leastEdge G h o a1) := by
  intro x C
  unfold f_X2_leastEdge
  show ct_Z x m_X2_leastEdge G 0 [(0, .inr (.inr (2, o))), (1, .inl a1)] [] h (fun a => ct_q x G ((fun r : Int => (some (.inl r : ct_PV), h)) a)) _
  refine ct_zrun C (k' := 5) (y := ([(0, .inr (.inr (2, o))), (1, .inl a1)], [.inl a1, .inr (.inr (8, (G.1 o 3))), .inr (.inr (8, (G.1 o 2)))], h)) 5 rfl rfl rfl ?_
  refine ct_zrd C (pc := 9) (aux := 0) (ins := .iaload) (cd := 8) rfl rfl (Or.inl ⟨rfl, rfl⟩) (fun v1 => ?_)
  refine ct_zrd C (pc := 10) (aux := 0) (ins := .iaload) (cd := 8) rfl rfl (Or.inl ⟨rfl, rfl⟩) (fun v2 => ?_)
  exact ct_zret C (pc := 11) (aux := 0) (ins := .ireturn) (ρ := (fun r : Int => (some (.inl r : ct_PV), h))) (some (.inl v2)) rfl rfl rfl ⟨rfl, Or.inl rfl⟩
def f_X2_leastPlace (G : ct_G) (h : ct_H) (o : Nat) (a1 : Int) : Option (Int) := (f_X2_leastEdge G h o a1).bind fun v1 => (ct_dv v1 2).bind fun v2 => some v2
set_option maxRecDepth 100000 in
theorem e_X2_leastPlace {d : Nat} {G : ct_G} {h : ct_H} (o : Nat) (a1 : Int) : ct_E m_X2_leastPlace (d + 1) G (ct_args 0 [.inr (.inr (2, o)), .inl a1]) h (fun r : Int => (some (.inl r : ct_PV), h)) (f_X2_leastPlace G h o a1) := by
  intro x C
  unfold f_X2_leastPlace
  show ct_Z x m_X2_leastPlace G 0 [(0, .inr (.inr (2, o))), (1, .inl a1)] [] h (fun a => ct_q x G ((fun r : Int => (some (.inl r : ct_PV), h)) a)) _
  refine ct_zrun C (k' := 2) (y := ([(0, .inr (.inr (2, o))), (1, .inl a1)], [.inl a1, .inr (.inr (2, o))], h)) 2 rfl rfl rfl ?_
  refine ct_zV C (pc := 2) (aux := 0) [.inl a1] [] ok_X2_leastEdge lk_X2_93 (e_X2_leastEdge o a1) rfl rfl rfl rfl rfl rfl rfl rfl (fun v1 => ?_)
  refine ct_zrun C (k' := 4) (y := ([(0, .inr (.inr (2, o))), (1, .inl a1)], [.inl 2, .inl v1], h)) 1 rfl rfl rfl ?_
  refine ct_zdv C (pc := 6) (aux := 0) rfl rfl (fun v2 => ?_)
  exact ct_zret C (pc := 7) (aux := 0) (ins := .ireturn) (ρ := (fun r : Int => (some (.inl r : ct_PV), h))) (some (.inl v2)) rfl rfl rfl ⟨rfl, Or.inl rfl⟩
def l_X2_holdersOf_18 (G : ct_G) (o : Nat) (h : ct_H) (v3 : Int) : Nat → (Int64 × Int) → Option (Int64)
  | 0, _ => none
  | n5 + 1, b4 => if v3 ≤ b4.2 then (some (b4.1)) else (ct_rd G h (G.1 o 1) (ct_wr (2 * b4.2))).bind fun v6 => ct_jn (β := Int64) (fun k8 => if v6 < 0 then (k8 (b4.1)) else ct_lt (b4.1 ^^^ ((Int64.ofNat 1) <<< ((Int32.ofInt v6).toInt64 &&& 63))) fun v10 => k8 v10) (fun b7 => l_X2_holdersOf_18 G o h v3 n5 (b7, (ct_wr (b4.2 + 1))))
set_option maxRecDepth 100000 in
theorem zl_X2_holdersOf_18 {x : ct_Ctx} {d : Nat} {G : ct_G} (C : ct_c x m_X2_holdersOf G d) (o : Nat) (h : ct_H) (v3 : Int) : ∀ (n5 : Nat) (b4 : Int64 × Int), ct_Z x m_X2_holdersOf G 18 [(0, .inr (.inr (2, o))), (2, .inr (.inl (b4.1))), (4, .inl v3), (5, .inl (b4.2))] [] h (fun a => ct_q x G ((fun r : Int64 => (some (.inr (.inl r) : ct_PV), h)) a)) (l_X2_holdersOf_18 G o h v3 n5 b4) := by
  intro n5
  induction n5 with
  | zero => intro b4; exact ct_znone
  | succ n5 ih =>
    intro b4
    rw [l_X2_holdersOf_18]
    refine ct_zrun C (k' := 20) (y := ([(0, .inr (.inr (2, o))), (2, .inr (.inl (b4.1))), (4, .inl v3), (5, .inl (b4.2))], [.inl v3, .inl (b4.2)], h)) 2 rfl rfl rfl ?_
    refine ct_zt C (pc := 32) (aux := 0) (cn := .ge) (off := 32) (k' := 38) (a := b4.2) (b := v3) Iff.rfl rfl rfl rfl (fun e12 => ?_) (fun e12 => ?_)
    · refine ct_zrun C (k' := 39) (y := ([(0, .inr (.inr (2, o))), (2, .inr (.inl (b4.1))), (4, .inl v3), (5, .inl (b4.2))], [.inr (.inl (b4.1))], h)) 1 rfl rfl rfl ?_
      exact ct_zret C (pc := 65) (aux := 0) (ins := .lreturn) (ρ := (fun r : Int64 => (some (.inr (.inl r) : ct_PV), h))) (some (.inr (.inl (b4.1)))) rfl rfl rfl ⟨rfl, rfl⟩
    · refine ct_zrun C (k' := 26) (y := ([(0, .inr (.inr (2, o))), (2, .inr (.inl (b4.1))), (4, .inl v3), (5, .inl (b4.2))], [.inl (ct_wr (2 * b4.2)), .inr (.inr (8, (G.1 o 1)))], h)) 5 rfl rfl rfl ?_
      refine ct_zrd C (pc := 43) (aux := 0) (ins := .iaload) (cd := 8) rfl rfl (Or.inl ⟨rfl, rfl⟩) (fun v6 => ?_)
      refine ct_zrun C (k' := 29) (y := ([(6, .inl v6), (0, .inr (.inr (2, o))), (2, .inr (.inl (b4.1))), (4, .inl v3), (5, .inl (b4.2))], [.inl v6], h)) 2 rfl rfl rfl ?_
      refine ct_zjn (β := Int64) (kJ := 36) (L := fun b7 => [(0, .inr (.inr (2, o))), (2, .inr (.inl b7)), (4, .inl v3), (5, .inl (b4.2))]) (S := fun b7 => []) (Hh := fun b7 => h) (fun b7 => ?_) (fun k8 z9 => ?_)
      · refine ct_zrun C (k' := 37) (y := ([(5, .inl (ct_wr (b4.2 + 1))), (0, .inr (.inr (2, o))), (2, .inr (.inl b7)), (4, .inl v3)], [], h)) 1 rfl rfl rfl ?_
        refine ct_zgoto C (pc := 61) (aux := 0) (off := (-33)) (k' := 18) rfl rfl ?_
        exact ct_zsub [1, 2, 3, 0] rfl (ih (b7, (ct_wr (b4.2 + 1))))
      · refine ct_zt0 C (pc := 48) (aux := 0) (cn := .lt) (off := 10) (k' := 36) (a := v6) Iff.rfl rfl rfl rfl (fun e11 => ?_) (fun e11 => ?_)
        · exact ct_zsub [1, 2, 3, 4] rfl (z9 (b4.1))
        · refine ct_zrun C (k' := 36) (y := ([(2, .inr (.inl (b4.1 ^^^ ((Int64.ofNat 1) <<< ((Int32.ofInt v6).toInt64 &&& 63))))), (6, .inl v6), (0, .inr (.inr (2, o))), (4, .inl v3), (5, .inl (b4.2))], [], h)) 6 rfl rfl rfl ?_
          refine ct_zlet (L := fun v10 => [(2, .inr (.inl v10)), (6, .inl v6), (0, .inr (.inr (2, o))), (4, .inl v3), (5, .inl (b4.2))]) (S := fun _ => []) (Hh := fun _ => h) (a := (b4.1 ^^^ ((Int64.ofNat 1) <<< ((Int32.ofInt v6).toInt64 &&& 63)))) (fun v10 => ?_)
          exact ct_zsub [2, 0, 3, 4] rfl (z9 v10)
def f_X2_holdersOf (G : ct_G) (h : ct_H) (o : Nat) (a1 : Int) : Option (Int64) := ct_lt (Int64.ofNat 0) fun v1 => (ct_dv a1 (h.1 (G.1 o 0) 3)).bind fun v2 => ct_lt (ct_wr ((ct_wr ((h.1 (G.1 o 0) 3) * (ct_wr (v2 + 1)))) - 1)) fun v3 => l_X2_holdersOf_18 G o h v3 200 (v1, a1)
set_option maxRecDepth 100000 in
theorem e_X2_holdersOf {d : Nat} {G : ct_G} {h : ct_H} (o : Nat) (a1 : Int) : ct_E m_X2_holdersOf d G (ct_args 0 [.inr (.inr (2, o)), .inl a1]) h (fun r : Int64 => (some (.inr (.inl r) : ct_PV), h)) (f_X2_holdersOf G h o a1) := by
  intro x C
  unfold f_X2_holdersOf
  show ct_Z x m_X2_holdersOf G 0 [(0, .inr (.inr (2, o))), (1, .inl a1)] [] h (fun a => ct_q x G ((fun r : Int64 => (some (.inr (.inl r) : ct_PV), h)) a)) _
  refine ct_zrun C (k' := 2) (y := ([(2, .inr (.inl (Int64.ofNat 0))), (0, .inr (.inr (2, o))), (1, .inl a1)], [], h)) 2 rfl rfl rfl ?_
  refine ct_zlet (L := fun v1 => [(2, .inr (.inl v1)), (0, .inr (.inr (2, o))), (1, .inl a1)]) (S := fun _ => []) (Hh := fun _ => h) (a := (Int64.ofNat 0)) (fun v1 => ?_)
  refine ct_zrun C (k' := 9) (y := ([(2, .inr (.inl v1)), (0, .inr (.inr (2, o))), (1, .inl a1)], [.inl (h.1 (G.1 o 0) 3), .inl a1, .inl (h.1 (G.1 o 0) 3)], h)) 7 rfl rfl rfl ?_
  refine ct_zdv C (pc := 17) (aux := 0) rfl rfl (fun v2 => ?_)
  refine ct_zrun C (k' := 16) (y := ([(4, .inl (ct_wr ((ct_wr ((h.1 (G.1 o 0) 3) * (ct_wr (v2 + 1)))) - 1))), (2, .inr (.inl v1)), (0, .inr (.inr (2, o))), (1, .inl a1)], [], h)) 6 rfl rfl rfl ?_
  refine ct_zlet (L := fun v3 => [(4, .inl v3), (2, .inr (.inl v1)), (0, .inr (.inr (2, o))), (1, .inl a1)]) (S := fun _ => []) (Hh := fun _ => h) (a := (ct_wr ((ct_wr ((h.1 (G.1 o 0) 3) * (ct_wr (v2 + 1)))) - 1))) (fun v3 => ?_)
  refine ct_zrun C (k' := 18) (y := ([(5, .inl a1), (4, .inl v3), (2, .inr (.inl v1)), (0, .inr (.inr (2, o))), (1, .inl a1)], [], h)) 2 rfl rfl rfl ?_
  exact ct_zsub [3, 2, 1, 0] rfl (zl_X2_holdersOf_18 C o h v3 200 (v1, a1))
def f_X2_isHeld (G : ct_G) (h : ct_H) (o : Nat) (a1 : Int) (a2 : Int) : Option (Int) := (f_X2_holdersOf G h o a2).bind fun v1 => if ((lg_cmp ((v1 >>> ((Int32.ofInt a1).toInt64 &&& 63)) &&& (Int64.ofNat 1)) (Int64.ofNat 1)).toInt) = 0 then (some 1) else some 0
set_option maxRecDepth 100000 in
theorem e_X2_isHeld {d : Nat} {G : ct_G} {h : ct_H} (o : Nat) (a1 : Int) (a2 : Int) : ct_E m_X2_isHeld (d + 1) G (ct_args 0 [.inr (.inr (2, o)), .inl a1, .inl a2]) h (fun r : Int => (some (.inl r : ct_PV), h)) (f_X2_isHeld G h o a1 a2) := by
  intro x C
  unfold f_X2_isHeld
  show ct_Z x m_X2_isHeld G 0 [(0, .inr (.inr (2, o))), (1, .inl a1), (2, .inl a2)] [] h (fun a => ct_q x G ((fun r : Int => (some (.inl r : ct_PV), h)) a)) _
  refine ct_zrun C (k' := 2) (y := ([(0, .inr (.inr (2, o))), (1, .inl a1), (2, .inl a2)], [.inl a2, .inr (.inr (2, o))], h)) 2 rfl rfl rfl ?_
  refine ct_zV C (pc := 2) (aux := 0) [.inl a2] [] ok_X2_holdersOf lk_X2_96 (e_X2_holdersOf o a2) rfl rfl rfl rfl rfl rfl rfl rfl (fun v1 => ?_)
  refine ct_zrun C (k' := 9) (y := ([(0, .inr (.inr (2, o))), (1, .inl a1), (2, .inl a2)], [.inl ((lg_cmp ((v1 >>> ((Int32.ofInt a1).toInt64 &&& 63)) &&& (Int64.ofNat 1)) (Int64.ofNat 1)).toInt)], h)) 6 rfl rfl rfl ?_
  refine ct_zf0 C (pc := 11) (aux := 0) (cn := .ne) (off := 7) (k' := 12) (a := ((lg_cmp ((v1 >>> ((Int32.ofInt a1).toInt64 &&& 63)) &&& (Int64.ofNat 1)) (Int64.ofNat 1)).toInt)) Iff.rfl rfl rfl rfl (fun e2 => ?_) (fun e2 => ?_)
  · refine ct_zrun C (k' := 11) (y := ([(0, .inr (.inr (2, o))), (1, .inl a1), (2, .inl a2)], [.inl 1], h)) 1 rfl rfl rfl ?_
    refine ct_zgoto C (pc := 15) (aux := 0) (off := 4) (k' := 13) rfl rfl ?_
    exact ct_zret C (pc := 19) (aux := 0) (ins := .ireturn) (ρ := (fun r : Int => (some (.inl r : ct_PV), h))) (some (.inl 1)) rfl rfl rfl ⟨rfl, Or.inr ⟨rfl, Or.inr rfl⟩⟩
  · refine ct_zrun C (k' := 13) (y := ([(0, .inr (.inr (2, o))), (1, .inl a1), (2, .inl a2)], [.inl 0], h)) 1 rfl rfl rfl ?_
    exact ct_zret C (pc := 19) (aux := 0) (ins := .ireturn) (ρ := (fun r : Int => (some (.inl r : ct_PV), h))) (some (.inl 0)) rfl rfl rfl ⟨rfl, Or.inr ⟨rfl, Or.inl rfl⟩⟩
def f_X2_holdersOfLine (G : ct_G) (h : ct_H) (o : Nat) (a1 : Int) : Option (Int64) := (f_X2_leastPlace G h o a1).bind fun v1 => (f_X2_holdersOf G h o v1).bind fun v2 => some (v2 &&& (((Int64.ofNat 1) <<< ((Int32.ofInt a1).toInt64 &&& 63)) ^^^ (-1 : Int64)))
set_option maxRecDepth 100000 in
theorem e_X2_holdersOfLine {d : Nat} {G : ct_G} {h : ct_H} (o : Nat) (a1 : Int) : ct_E m_X2_holdersOfLine (d + 2) G (ct_args 0 [.inr (.inr (2, o)), .inl a1]) h (fun r : Int64 => (some (.inr (.inl r) : ct_PV), h)) (f_X2_holdersOfLine G h o a1) := by
  intro x C
  unfold f_X2_holdersOfLine
  show ct_Z x m_X2_holdersOfLine G 0 [(0, .inr (.inr (2, o))), (1, .inl a1)] [] h (fun a => ct_q x G ((fun r : Int64 => (some (.inr (.inl r) : ct_PV), h)) a)) _
  refine ct_zrun C (k' := 3) (y := ([(0, .inr (.inr (2, o))), (1, .inl a1)], [.inl a1, .inr (.inr (2, o)), .inr (.inr (2, o))], h)) 3 rfl rfl rfl ?_
  refine ct_zV C (pc := 3) (aux := 0) [.inl a1] [.inr (.inr (2, o))] ok_X2_leastPlace lk_X2_100 (e_X2_leastPlace o a1) rfl rfl rfl rfl rfl rfl rfl rfl (fun v1 => ?_)
  refine ct_zV C (pc := 6) (aux := 0) [.inl v1] [] ok_X2_holdersOf lk_X2_96 (e_X2_holdersOf o v1) rfl rfl rfl rfl rfl rfl rfl rfl (fun v2 => ?_)
  refine ct_zrun C (k' := 8) (y := ([(0, .inr (.inr (2, o))), (1, .inl a1)], [.inr (.inl ((Int64.ofNat 1) <<< ((Int32.ofInt a1).toInt64 &&& 63))), .inr (.inl v2)], h)) 3 rfl rfl rfl ?_
  refine ct_zldc2 C (pc := 12) (aux := 0) (v := -1) lc_X2_103 rfl rfl ?_
  refine ct_zrun C (k' := 11) (y := ([(0, .inr (.inr (2, o))), (1, .inl a1)], [.inr (.inl (v2 &&& (((Int64.ofNat 1) <<< ((Int32.ofInt a1).toInt64 &&& 63)) ^^^ (-1 : Int64))))], h)) 2 rfl rfl rfl ?_
  exact ct_zret C (pc := 17) (aux := 0) (ins := .lreturn) (ρ := (fun r : Int64 => (some (.inr (.inl r) : ct_PV), h))) (some (.inr (.inl (v2 &&& (((Int64.ofNat 1) <<< ((Int32.ofInt a1).toInt64 &&& 63)) ^^^ (-1 : Int64)))))) rfl rfl rfl ⟨rfl, rfl⟩
def f_X2_depthOf (G : ct_G) (h : ct_H) (o : Nat) (a1 : Int) : Option (Int) := (f_X2_holdersOfLine G h o a1).bind fun v1 => (f_J13_bitCount_95d88 G h v1).bind fun v2 => some v2
set_option maxRecDepth 100000 in
theorem e_X2_depthOf {d : Nat} {G : ct_G} {h : ct_H} (o : Nat) (a1 : Int) : ct_E m_X2_depthOf (d + 3) G (ct_args 0 [.inr (.inr (2, o)), .inl a1]) h (fun r : Int => (some (.inl r : ct_PV), h)) (f_X2_depthOf G h o a1) := by
  intro x C
  unfold f_X2_depthOf
  show ct_Z x m_X2_depthOf G 0 [(0, .inr (.inr (2, o))), (1, .inl a1)] [] h (fun a => ct_q x G ((fun r : Int => (some (.inl r : ct_PV), h)) a)) _
  refine ct_zrun C (k' := 2) (y := ([(0, .inr (.inr (2, o))), (1, .inl a1)], [.inl a1, .inr (.inr (2, o))], h)) 2 rfl rfl rfl ?_
  refine ct_zV C (pc := 2) (aux := 0) [.inl a1] [] ok_X2_holdersOfLine lk_X2_105 (e_X2_holdersOfLine o a1) rfl rfl rfl rfl rfl rfl rfl rfl (fun v1 => ?_)
  refine ct_zS C (pc := 5) (aux := 0) [.inr (.inl v1)] [] ok_J13_bitCount_95d88 lk_X2_108 (e_J13_bitCount_95d88 v1) rfl rfl rfl rfl rfl rfl (fun v2 => ?_)
  exact ct_zret C (pc := 8) (aux := 0) (ins := .ireturn) (ρ := (fun r : Int => (some (.inl r : ct_PV), h))) (some (.inl v2)) rfl rfl rfl ⟨rfl, Or.inl rfl⟩
def f_X2_isOuter (G : ct_G) (h : ct_H) (o : Nat) (a1 : Int) : Option (Int) := (f_X2_depthOf G h o a1).bind fun v1 => (ct_md v1 2).bind fun v2 => if v2 = 0 then (some 1) else some 0
set_option maxRecDepth 100000 in
theorem e_X2_isOuter {d : Nat} {G : ct_G} {h : ct_H} (o : Nat) (a1 : Int) : ct_E m_X2_isOuter (d + 4) G (ct_args 0 [.inr (.inr (2, o)), .inl a1]) h (fun r : Int => (some (.inl r : ct_PV), h)) (f_X2_isOuter G h o a1) := by
  intro x C
  unfold f_X2_isOuter
  show ct_Z x m_X2_isOuter G 0 [(0, .inr (.inr (2, o))), (1, .inl a1)] [] h (fun a => ct_q x G ((fun r : Int => (some (.inl r : ct_PV), h)) a)) _
  refine ct_zrun C (k' := 2) (y := ([(0, .inr (.inr (2, o))), (1, .inl a1)], [.inl a1, .inr (.inr (2, o))], h)) 2 rfl rfl rfl ?_
  refine ct_zV C (pc := 2) (aux := 0) [.inl a1] [] ok_X2_depthOf lk_X2_114 (e_X2_depthOf o a1) rfl rfl rfl rfl rfl rfl rfl rfl (fun v1 => ?_)
  refine ct_zrun C (k' := 4) (y := ([(0, .inr (.inr (2, o))), (1, .inl a1)], [.inl 2, .inl v1], h)) 1 rfl rfl rfl ?_
  refine ct_zmd C (pc := 6) (aux := 0) rfl rfl (fun v2 => ?_)
  refine ct_zf0 C (pc := 7) (aux := 0) (cn := .ne) (off := 7) (k' := 8) (a := v2) Iff.rfl rfl rfl rfl (fun e3 => ?_) (fun e3 => ?_)
  · refine ct_zrun C (k' := 7) (y := ([(0, .inr (.inr (2, o))), (1, .inl a1)], [.inl 1], h)) 1 rfl rfl rfl ?_
    refine ct_zgoto C (pc := 11) (aux := 0) (off := 4) (k' := 9) rfl rfl ?_
    exact ct_zret C (pc := 15) (aux := 0) (ins := .ireturn) (ρ := (fun r : Int => (some (.inl r : ct_PV), h))) (some (.inl 1)) rfl rfl rfl ⟨rfl, Or.inr ⟨rfl, Or.inr rfl⟩⟩
  · refine ct_zrun C (k' := 9) (y := ([(0, .inr (.inr (2, o))), (1, .inl a1)], [.inl 0], h)) 1 rfl rfl rfl ?_
    exact ct_zret C (pc := 15) (aux := 0) (ins := .ireturn) (ρ := (fun r : Int => (some (.inl r : ct_PV), h))) (some (.inl 0)) rfl rfl rfl ⟨rfl, Or.inr ⟨rfl, Or.inl rfl⟩⟩
def l_X2_parentOf_10 (G : ct_G) (o : Nat) (h : ct_H) (v1 : Int64) : Nat → (Int × Int × Int) → Option (Int)
  | 0, _ => none
  | n3 + 1, b2 => if (h.1 o 5) ≤ b2.2.2 then (some (b2.1)) else ct_jn (β := Int × Int) (fun k5 => if ((lg_cmp ((v1 >>> ((Int32.ofInt b2.2.2).toInt64 &&& 63)) &&& (Int64.ofNat 1)) (Int64.ofNat 1)).toInt) = 0 then ((f_X2_depthOf G h o b2.2.2).bind fun v7 => if v7 ≤ b2.2.1 then (k5 (b2.1, b2.2.1)) else (f_X2_depthOf G h o b2.2.2).bind fun v8 => k5 (b2.2.2, v8)) else k5 (b2.1, b2.2.1)) (fun b4 => l_X2_parentOf_10 G o h v1 n3 (b4.1, b4.2, (ct_wr (b2.2.2 + 1))))
set_option maxRecDepth 100000 in
theorem zl_X2_parentOf_10 {x : ct_Ctx} {d : Nat} {G : ct_G} (C : ct_c x m_X2_parentOf G (d + 4)) (o : Nat) (h : ct_H) (v1 : Int64) : ∀ (n3 : Nat) (b2 : Int × Int × Int), ct_Z x m_X2_parentOf G 10 [(0, .inr (.inr (2, o))), (2, .inr (.inl v1)), (4, .inl (b2.1)), (5, .inl (b2.2.1)), (6, .inl (b2.2.2))] [] h (fun a => ct_q x G ((fun r : Int => (some (.inl r : ct_PV), h)) a)) (l_X2_parentOf_10 G o h v1 n3 b2) := by
  intro n3
  induction n3 with
  | zero => intro b2; exact ct_znone
  | succ n3 ih =>
    intro b2
    rw [l_X2_parentOf_10]
    refine ct_zrun C (k' := 13) (y := ([(0, .inr (.inr (2, o))), (2, .inr (.inl v1)), (4, .inl (b2.1)), (5, .inl (b2.2.1)), (6, .inl (b2.2.2))], [.inl (h.1 o 5), .inl (b2.2.2)], h)) 3 rfl rfl rfl ?_
    refine ct_zt C (pc := 22) (aux := 0) (cn := .ge) (off := 43) (k' := 35) (a := b2.2.2) (b := (h.1 o 5)) Iff.rfl rfl rfl rfl (fun e11 => ?_) (fun e11 => ?_)
    · refine ct_zrun C (k' := 36) (y := ([(0, .inr (.inr (2, o))), (2, .inr (.inl v1)), (4, .inl (b2.1)), (5, .inl (b2.2.1)), (6, .inl (b2.2.2))], [.inl (b2.1)], h)) 1 rfl rfl rfl ?_
      exact ct_zret C (pc := 67) (aux := 0) (ins := .ireturn) (ρ := (fun r : Int => (some (.inl r : ct_PV), h))) (some (.inl (b2.1))) rfl rfl rfl ⟨rfl, Or.inl rfl⟩
    · refine ct_zrun C (k' := 21) (y := ([(0, .inr (.inr (2, o))), (2, .inr (.inl v1)), (4, .inl (b2.1)), (5, .inl (b2.2.1)), (6, .inl (b2.2.2))], [.inl ((lg_cmp ((v1 >>> ((Int32.ofInt b2.2.2).toInt64 &&& 63)) &&& (Int64.ofNat 1)) (Int64.ofNat 1)).toInt)], h)) 7 rfl rfl rfl ?_
      refine ct_zjn (β := Int × Int) (kJ := 33) (L := fun b4 => [(0, .inr (.inr (2, o))), (2, .inr (.inl v1)), (4, .inl (b4.1)), (5, .inl (b4.2)), (6, .inl (b2.2.2))]) (S := fun b4 => []) (Hh := fun b4 => h) (fun b4 => ?_) (fun k5 z6 => ?_)
      · refine ct_zrun C (k' := 34) (y := ([(6, .inl (ct_wr (b2.2.2 + 1))), (0, .inr (.inr (2, o))), (2, .inr (.inl v1)), (4, .inl (b4.1)), (5, .inl (b4.2))], [], h)) 1 rfl rfl rfl ?_
        refine ct_zgoto C (pc := 62) (aux := 0) (off := (-46)) (k' := 10) rfl rfl ?_
        exact ct_zsub [1, 2, 3, 4, 0] rfl (ih (b4.1, b4.2, (ct_wr (b2.2.2 + 1))))
      · refine ct_zf0 C (pc := 33) (aux := 0) (cn := .ne) (off := 26) (k' := 33) (a := ((lg_cmp ((v1 >>> ((Int32.ofInt b2.2.2).toInt64 &&& 63)) &&& (Int64.ofNat 1)) (Int64.ofNat 1)).toInt)) Iff.rfl rfl rfl rfl (fun e10 => ?_) (fun e10 => ?_)
        · refine ct_zrun C (k' := 24) (y := ([(0, .inr (.inr (2, o))), (2, .inr (.inl v1)), (4, .inl (b2.1)), (5, .inl (b2.2.1)), (6, .inl (b2.2.2))], [.inl (b2.2.2), .inr (.inr (2, o))], h)) 2 rfl rfl rfl ?_
          refine ct_zV C (pc := 39) (aux := 0) [.inl (b2.2.2)] [] ok_X2_depthOf lk_X2_114 (e_X2_depthOf o (b2.2.2)) rfl rfl rfl rfl rfl rfl rfl rfl (fun v7 => ?_)
          refine ct_zrun C (k' := 26) (y := ([(0, .inr (.inr (2, o))), (2, .inr (.inl v1)), (4, .inl (b2.1)), (5, .inl (b2.2.1)), (6, .inl (b2.2.2))], [.inl (b2.2.1), .inl v7], h)) 1 rfl rfl rfl ?_
          refine ct_zt C (pc := 44) (aux := 0) (cn := .le) (off := 15) (k' := 33) (a := v7) (b := b2.2.1) Iff.rfl rfl rfl rfl (fun e9 => ?_) (fun e9 => ?_)
          · exact ct_zsub [0, 1, 2, 3, 4] rfl (z6 (b2.1, b2.2.1))
          · refine ct_zrun C (k' := 31) (y := ([(4, .inl (b2.2.2)), (0, .inr (.inr (2, o))), (2, .inr (.inl v1)), (5, .inl (b2.2.1)), (6, .inl (b2.2.2))], [.inl (b2.2.2), .inr (.inr (2, o))], h)) 4 rfl rfl rfl ?_
            refine ct_zV C (pc := 54) (aux := 0) [.inl (b2.2.2)] [] ok_X2_depthOf lk_X2_114 (e_X2_depthOf o (b2.2.2)) rfl rfl rfl rfl rfl rfl rfl rfl (fun v8 => ?_)
            refine ct_zrun C (k' := 33) (y := ([(5, .inl v8), (4, .inl (b2.2.2)), (0, .inr (.inr (2, o))), (2, .inr (.inl v1)), (6, .inl (b2.2.2))], [], h)) 1 rfl rfl rfl ?_
            exact ct_zsub [2, 3, 1, 0, 4] rfl (z6 (b2.2.2, v8))
        · exact ct_zsub [0, 1, 2, 3, 4] rfl (z6 (b2.1, b2.2.1))
def f_X2_parentOf (G : ct_G) (h : ct_H) (o : Nat) (a1 : Int) : Option (Int) := (f_X2_holdersOfLine G h o a1).bind fun v1 => l_X2_parentOf_10 G o h v1 200 ((-5), (-1), 0)
set_option maxRecDepth 100000 in
theorem e_X2_parentOf {d : Nat} {G : ct_G} {h : ct_H} (o : Nat) (a1 : Int) : ct_E m_X2_parentOf (d + 4) G (ct_args 0 [.inr (.inr (2, o)), .inl a1]) h (fun r : Int => (some (.inl r : ct_PV), h)) (f_X2_parentOf G h o a1) := by
  intro x C
  unfold f_X2_parentOf
  show ct_Z x m_X2_parentOf G 0 [(0, .inr (.inr (2, o))), (1, .inl a1)] [] h (fun a => ct_q x G ((fun r : Int => (some (.inl r : ct_PV), h)) a)) _
  refine ct_zrun C (k' := 2) (y := ([(0, .inr (.inr (2, o))), (1, .inl a1)], [.inl a1, .inr (.inr (2, o))], h)) 2 rfl rfl rfl ?_
  refine ct_zV C (pc := 2) (aux := 0) [.inl a1] [] ok_X2_holdersOfLine lk_X2_105 (e_X2_holdersOfLine o a1) rfl rfl rfl rfl rfl rfl rfl rfl (fun v1 => ?_)
  refine ct_zrun C (k' := 10) (y := ([(6, .inl 0), (5, .inl (-1)), (4, .inl (-5)), (2, .inr (.inl v1)), (0, .inr (.inr (2, o))), (1, .inl a1)], [], h)) 7 rfl rfl rfl ?_
  exact ct_zsub [4, 3, 2, 1, 0] rfl (zl_X2_parentOf_10 C o h v1 200 ((-5), (-1), 0))
def f_X2_acrossOf (G : ct_G) (h : ct_H) (o : Nat) (a1 : Int) : Option (Int) := (ct_dv a1 2).bind fun v1 => (ct_md v1 (h.1 (G.1 o 0) 3)).bind fun v2 => (ct_md a1 2).bind fun v3 => if v3 = 0 then (some (ct_wr ((ct_wr (2 * (ct_wr (v2 - 1)))) + 1))) else some (ct_wr ((ct_wr (2 * (ct_wr (v2 - 1)))) + 0))
set_option maxRecDepth 100000 in
theorem e_X2_acrossOf {d : Nat} {G : ct_G} {h : ct_H} (o : Nat) (a1 : Int) : ct_E m_X2_acrossOf d G (ct_args 0 [.inr (.inr (2, o)), .inl a1]) h (fun r : Int => (some (.inl r : ct_PV), h)) (f_X2_acrossOf G h o a1) := by
  intro x C
  unfold f_X2_acrossOf
  show ct_Z x m_X2_acrossOf G 0 [(0, .inr (.inr (2, o))), (1, .inl a1)] [] h (fun a => ct_q x G ((fun r : Int => (some (.inl r : ct_PV), h)) a)) _
  refine ct_zrun C (k' := 3) (y := ([(0, .inr (.inr (2, o))), (1, .inl a1)], [.inl 2, .inl a1, .inl 2], h)) 3 rfl rfl rfl ?_
  refine ct_zdv C (pc := 3) (aux := 0) rfl rfl (fun v1 => ?_)
  refine ct_zrun C (k' := 7) (y := ([(0, .inr (.inr (2, o))), (1, .inl a1)], [.inl (h.1 (G.1 o 0) 3), .inl v1, .inl 2], h)) 3 rfl rfl rfl ?_
  refine ct_zmd C (pc := 11) (aux := 0) rfl rfl (fun v2 => ?_)
  refine ct_zrun C (k' := 13) (y := ([(0, .inr (.inr (2, o))), (1, .inl a1)], [.inl 2, .inl a1, .inl (ct_wr (2 * (ct_wr (v2 - 1))))], h)) 5 rfl rfl rfl ?_
  refine ct_zmd C (pc := 17) (aux := 0) rfl rfl (fun v3 => ?_)
  refine ct_zf0 C (pc := 18) (aux := 0) (cn := .ne) (off := 7) (k' := 17) (a := v3) Iff.rfl rfl rfl rfl (fun e4 => ?_) (fun e4 => ?_)
  · refine ct_zrun C (k' := 16) (y := ([(0, .inr (.inr (2, o))), (1, .inl a1)], [.inl 1, .inl (ct_wr (2 * (ct_wr (v2 - 1))))], h)) 1 rfl rfl rfl ?_
    refine ct_zgoto C (pc := 22) (aux := 0) (off := 4) (k' := 18) rfl rfl ?_
    refine ct_zrun C (k' := 19) (y := ([(0, .inr (.inr (2, o))), (1, .inl a1)], [.inl (ct_wr ((ct_wr (2 * (ct_wr (v2 - 1)))) + 1))], h)) 1 rfl rfl rfl ?_
    exact ct_zret C (pc := 27) (aux := 0) (ins := .ireturn) (ρ := (fun r : Int => (some (.inl r : ct_PV), h))) (some (.inl (ct_wr ((ct_wr (2 * (ct_wr (v2 - 1)))) + 1)))) rfl rfl rfl ⟨rfl, Or.inl rfl⟩
  · refine ct_zrun C (k' := 19) (y := ([(0, .inr (.inr (2, o))), (1, .inl a1)], [.inl (ct_wr ((ct_wr (2 * (ct_wr (v2 - 1)))) + 0))], h)) 2 rfl rfl rfl ?_
    exact ct_zret C (pc := 27) (aux := 0) (ins := .ireturn) (ρ := (fun r : Int => (some (.inl r : ct_PV), h))) (some (.inl (ct_wr ((ct_wr (2 * (ct_wr (v2 - 1)))) + 0)))) rfl rfl rfl ⟨rfl, Or.inl rfl⟩
def f_X2_downOf (G : ct_G) (h : ct_H) (o : Nat) (a1 : Int) : Option (Int) := (ct_dv a1 2).bind fun v1 => (ct_dv v1 (h.1 (G.1 o 0) 3)).bind fun v2 => (ct_md a1 2).bind fun v3 => some (ct_wr ((ct_wr (2 * (ct_wr (v2 - 1)))) + v3))
set_option maxRecDepth 100000 in
theorem e_X2_downOf {d : Nat} {G : ct_G} {h : ct_H} (o : Nat) (a1 : Int) : ct_E m_X2_downOf d G (ct_args 0 [.inr (.inr (2, o)), .inl a1]) h (fun r : Int => (some (.inl r : ct_PV), h)) (f_X2_downOf G h o a1) := by
  intro x C
  unfold f_X2_downOf
  show ct_Z x m_X2_downOf G 0 [(0, .inr (.inr (2, o))), (1, .inl a1)] [] h (fun a => ct_q x G ((fun r : Int => (some (.inl r : ct_PV), h)) a)) _
  refine ct_zrun C (k' := 3) (y := ([(0, .inr (.inr (2, o))), (1, .inl a1)], [.inl 2, .inl a1, .inl 2], h)) 3 rfl rfl rfl ?_
  refine ct_zdv C (pc := 3) (aux := 0) rfl rfl (fun v1 => ?_)
  refine ct_zrun C (k' := 7) (y := ([(0, .inr (.inr (2, o))), (1, .inl a1)], [.inl (h.1 (G.1 o 0) 3), .inl v1, .inl 2], h)) 3 rfl rfl rfl ?_
  refine ct_zdv C (pc := 11) (aux := 0) rfl rfl (fun v2 => ?_)
  refine ct_zrun C (k' := 13) (y := ([(0, .inr (.inr (2, o))), (1, .inl a1)], [.inl 2, .inl a1, .inl (ct_wr (2 * (ct_wr (v2 - 1))))], h)) 5 rfl rfl rfl ?_
  refine ct_zmd C (pc := 17) (aux := 0) rfl rfl (fun v3 => ?_)
  refine ct_zrun C (k' := 15) (y := ([(0, .inr (.inr (2, o))), (1, .inl a1)], [.inl (ct_wr ((ct_wr (2 * (ct_wr (v2 - 1)))) + v3))], h)) 1 rfl rfl rfl ?_
  exact ct_zret C (pc := 19) (aux := 0) (ins := .ireturn) (ρ := (fun r : Int => (some (.inl r : ct_PV), h))) (some (.inl (ct_wr ((ct_wr (2 * (ct_wr (v2 - 1)))) + v3)))) rfl rfl rfl ⟨rfl, Or.inl rfl⟩
def l_X2_areaOf_8 (G : ct_G) (o : Nat) (a1 : Int) (h : ct_H) (v1 : Int) (k4 : Int → Option (Int)) : Nat → (Int × Int) → Option (Int)
  | 0, _ => none
  | n3 + 1, b2 => if v1 ≤ b2.2 then (k4 (b2.1)) else (f_X2_edgeOf G h o a1 b2.2).bind fun v7 => ct_jn (β := Int) (fun k9 => if v1 ≤ (ct_wr (b2.2 + 1)) then ((f_X2_leastEdge G h o a1).bind fun v16 => k9 v16) else (f_X2_edgeOf G h o a1 (ct_wr (b2.2 + 1))).bind fun v17 => k9 v17) (fun b8 => (f_X2_acrossOf G h o v7).bind fun v11 => (f_X2_downOf G h o b8).bind fun v12 => (f_X2_downOf G h o v7).bind fun v13 => (f_X2_acrossOf G h o b8).bind fun v14 => ct_lt (ct_wr (b2.1 + (ct_wr ((ct_wr (v11 * v12)) - (ct_wr (v13 * v14)))))) fun v15 => l_X2_areaOf_8 G o a1 h v1 k4 n3 (v15, (ct_wr (b2.2 + 1))))
set_option maxRecDepth 100000 in
theorem zl_X2_areaOf_8 {x : ct_Ctx} {d : Nat} {G : ct_G} (C : ct_c x m_X2_areaOf G (d + 1)) (o : Nat) (a1 : Int) (h : ct_H) (v1 : Int) (k4 : Int → Option (Int)) (z5 : ∀ b6 : Int, ct_Z x m_X2_areaOf G 52 [(2, .inl b6)] [] h (fun a => ct_q x G ((fun r : Int => (some (.inl r : ct_PV), h)) a)) (k4 b6)) : ∀ (n3 : Nat) (b2 : Int × Int), ct_Z x m_X2_areaOf G 8 [(0, .inr (.inr (2, o))), (1, .inl a1), (2, .inl (b2.1)), (3, .inl v1), (4, .inl (b2.2))] [] h (fun a => ct_q x G ((fun r : Int => (some (.inl r : ct_PV), h)) a)) (l_X2_areaOf_8 G o a1 h v1 k4 n3 b2) := by
  intro n3
  induction n3 with
  | zero => intro b2; exact ct_znone
  | succ n3 ih =>
    intro b2
    rw [l_X2_areaOf_8]
    refine ct_zrun C (k' := 10) (y := ([(0, .inr (.inr (2, o))), (1, .inl a1), (2, .inl (b2.1)), (3, .inl v1), (4, .inl (b2.2))], [.inl v1, .inl (b2.2)], h)) 2 rfl rfl rfl ?_
    refine ct_zt C (pc := 14) (aux := 0) (cn := .ge) (off := 75) (k' := 52) (a := b2.2) (b := v1) Iff.rfl rfl rfl rfl (fun e19 => ?_) (fun e19 => ?_)
    · exact ct_zsub [2] rfl (z5 (b2.1))
    · refine ct_zrun C (k' := 14) (y := ([(0, .inr (.inr (2, o))), (1, .inl a1), (2, .inl (b2.1)), (3, .inl v1), (4, .inl (b2.2))], [.inl (b2.2), .inl a1, .inr (.inr (2, o))], h)) 3 rfl rfl rfl ?_
      refine ct_zV C (pc := 21) (aux := 0) [.inl a1, .inl (b2.2)] [] ok_X2_edgeOf lk_X2_120 (e_X2_edgeOf o a1 (b2.2)) rfl rfl rfl rfl rfl rfl rfl rfl (fun v7 => ?_)
      refine ct_zrun C (k' := 20) (y := ([(5, .inl v7), (0, .inr (.inr (2, o))), (1, .inl a1), (2, .inl (b2.1)), (3, .inl v1), (4, .inl (b2.2))], [.inl v1, .inl (ct_wr (b2.2 + 1))], h)) 5 rfl rfl rfl ?_
      refine ct_zjn (β := Int) (kJ := 31) (L := fun b8 => [(0, .inr (.inr (2, o))), (1, .inl a1), (2, .inl (b2.1)), (3, .inl v1), (4, .inl (b2.2)), (5, .inl v7)]) (S := fun b8 => [.inl b8]) (Hh := fun b8 => h) (fun b8 => ?_) (fun k9 z10 => ?_)
      · refine ct_zrun C (k' := 35) (y := ([(6, .inl b8), (0, .inr (.inr (2, o))), (1, .inl a1), (2, .inl (b2.1)), (3, .inl v1), (4, .inl (b2.2)), (5, .inl v7)], [.inl v7, .inr (.inr (2, o)), .inl (b2.1)], h)) 4 rfl rfl rfl ?_
        refine ct_zV C (pc := 57) (aux := 0) [.inl v7] [.inl (b2.1)] ok_X2_acrossOf lk_X2_123 (e_X2_acrossOf o v7) rfl rfl rfl rfl rfl rfl rfl rfl (fun v11 => ?_)
        refine ct_zrun C (k' := 38) (y := ([(6, .inl b8), (0, .inr (.inr (2, o))), (1, .inl a1), (2, .inl (b2.1)), (3, .inl v1), (4, .inl (b2.2)), (5, .inl v7)], [.inl b8, .inr (.inr (2, o)), .inl v11, .inl (b2.1)], h)) 2 rfl rfl rfl ?_
        refine ct_zV C (pc := 63) (aux := 0) [.inl b8] [.inl v11, .inl (b2.1)] ok_X2_downOf lk_X2_126 (e_X2_downOf o b8) rfl rfl rfl rfl rfl rfl rfl rfl (fun v12 => ?_)
        refine ct_zrun C (k' := 42) (y := ([(6, .inl b8), (0, .inr (.inr (2, o))), (1, .inl a1), (2, .inl (b2.1)), (3, .inl v1), (4, .inl (b2.2)), (5, .inl v7)], [.inl v7, .inr (.inr (2, o)), .inl (ct_wr (v11 * v12)), .inl (b2.1)], h)) 3 rfl rfl rfl ?_
        refine ct_zV C (pc := 70) (aux := 0) [.inl v7] [.inl (ct_wr (v11 * v12)), .inl (b2.1)] ok_X2_downOf lk_X2_126 (e_X2_downOf o v7) rfl rfl rfl rfl rfl rfl rfl rfl (fun v13 => ?_)
        refine ct_zrun C (k' := 45) (y := ([(6, .inl b8), (0, .inr (.inr (2, o))), (1, .inl a1), (2, .inl (b2.1)), (3, .inl v1), (4, .inl (b2.2)), (5, .inl v7)], [.inl b8, .inr (.inr (2, o)), .inl v13, .inl (ct_wr (v11 * v12)), .inl (b2.1)], h)) 2 rfl rfl rfl ?_
        refine ct_zV C (pc := 76) (aux := 0) [.inl b8] [.inl v13, .inl (ct_wr (v11 * v12)), .inl (b2.1)] ok_X2_acrossOf lk_X2_123 (e_X2_acrossOf o b8) rfl rfl rfl rfl rfl rfl rfl rfl (fun v14 => ?_)
        refine ct_zrun C (k' := 50) (y := ([(2, .inl (ct_wr (b2.1 + (ct_wr ((ct_wr (v11 * v12)) - (ct_wr (v13 * v14))))))), (6, .inl b8), (0, .inr (.inr (2, o))), (1, .inl a1), (3, .inl v1), (4, .inl (b2.2)), (5, .inl v7)], [], h)) 4 rfl rfl rfl ?_
        refine ct_zlet (L := fun v15 => [(2, .inl v15), (6, .inl b8), (0, .inr (.inr (2, o))), (1, .inl a1), (3, .inl v1), (4, .inl (b2.2)), (5, .inl v7)]) (S := fun _ => []) (Hh := fun _ => h) (a := (ct_wr (b2.1 + (ct_wr ((ct_wr (v11 * v12)) - (ct_wr (v13 * v14))))))) (fun v15 => ?_)
        refine ct_zrun C (k' := 51) (y := ([(4, .inl (ct_wr (b2.2 + 1))), (2, .inl v15), (6, .inl b8), (0, .inr (.inr (2, o))), (1, .inl a1), (3, .inl v1), (5, .inl v7)], [], h)) 1 rfl rfl rfl ?_
        refine ct_zgoto C (pc := 86) (aux := 0) (off := (-75)) (k' := 8) rfl rfl ?_
        exact ct_zsub [3, 4, 1, 5, 0] rfl (ih (v15, (ct_wr (b2.2 + 1))))
      · refine ct_zt C (pc := 31) (aux := 0) (cn := .ge) (off := 15) (k' := 28) (a := (ct_wr (b2.2 + 1))) (b := v1) Iff.rfl rfl rfl rfl (fun e18 => ?_) (fun e18 => ?_)
        · refine ct_zrun C (k' := 30) (y := ([(5, .inl v7), (0, .inr (.inr (2, o))), (1, .inl a1), (2, .inl (b2.1)), (3, .inl v1), (4, .inl (b2.2))], [.inl a1, .inr (.inr (2, o))], h)) 2 rfl rfl rfl ?_
          refine ct_zV C (pc := 48) (aux := 0) [.inl a1] [] ok_X2_leastEdge lk_X2_93 (e_X2_leastEdge o a1) rfl rfl rfl rfl rfl rfl rfl rfl (fun v16 => ?_)
          exact ct_zsub [1, 2, 3, 4, 5, 0] rfl (z10 v16)
        · refine ct_zrun C (k' := 26) (y := ([(5, .inl v7), (0, .inr (.inr (2, o))), (1, .inl a1), (2, .inl (b2.1)), (3, .inl v1), (4, .inl (b2.2))], [.inl (ct_wr (b2.2 + 1)), .inl a1, .inr (.inr (2, o))], h)) 5 rfl rfl rfl ?_
          refine ct_zV C (pc := 40) (aux := 0) [.inl a1, .inl (ct_wr (b2.2 + 1))] [] ok_X2_edgeOf lk_X2_120 (e_X2_edgeOf o a1 (ct_wr (b2.2 + 1))) rfl rfl rfl rfl rfl rfl rfl rfl (fun v17 => ?_)
          refine ct_zgoto C (pc := 43) (aux := 0) (off := 8) (k' := 31) rfl rfl ?_
          exact ct_zsub [1, 2, 3, 4, 5, 0] rfl (z10 v17)
def f_X2_areaOf (G : ct_G) (h : ct_H) (o : Nat) (a1 : Int) : Option (Int) := (f_X2_lengthOf G h o a1).bind fun v1 => l_X2_areaOf_8 G o a1 h v1 (fun b20 => some (ct_abs b20)) 200 (0, 0)
set_option maxRecDepth 100000 in
theorem e_X2_areaOf {d : Nat} {G : ct_G} {h : ct_H} (o : Nat) (a1 : Int) : ct_E m_X2_areaOf (d + 1) G (ct_args 0 [.inr (.inr (2, o)), .inl a1]) h (fun r : Int => (some (.inl r : ct_PV), h)) (f_X2_areaOf G h o a1) := by
  intro x C
  unfold f_X2_areaOf
  show ct_Z x m_X2_areaOf G 0 [(0, .inr (.inr (2, o))), (1, .inl a1)] [] h (fun a => ct_q x G ((fun r : Int => (some (.inl r : ct_PV), h)) a)) _
  refine ct_zrun C (k' := 4) (y := ([(2, .inl 0), (0, .inr (.inr (2, o))), (1, .inl a1)], [.inl a1, .inr (.inr (2, o))], h)) 4 rfl rfl rfl ?_
  refine ct_zV C (pc := 4) (aux := 0) [.inl a1] [] ok_X2_lengthOf lk_X2_117 (e_X2_lengthOf o a1) rfl rfl rfl rfl rfl rfl rfl rfl (fun v1 => ?_)
  refine ct_zrun C (k' := 8) (y := ([(4, .inl 0), (3, .inl v1), (2, .inl 0), (0, .inr (.inr (2, o))), (1, .inl a1)], [], h)) 3 rfl rfl rfl ?_
  refine ct_zsub [3, 4, 2, 1, 0] rfl (zl_X2_areaOf_8 C o a1 h v1 _ (fun b20 => ?_) 200 (0, 0))
  refine ct_zrun C (k' := 53) (y := ([(2, .inl b20)], [.inl b20], h)) 1 rfl rfl rfl ?_
  refine ct_zabs C (pc := 90) (aux := 0) lk_X2_129 rfl rfl rfl ?_
  exact ct_zret C (pc := 93) (aux := 0) (ins := .ireturn) (ρ := (fun r : Int => (some (.inl r : ct_PV), h))) (some (.inl (ct_abs b20))) rfl rfl rfl ⟨rfl, Or.inl rfl⟩
def l_X2_pointsHeld_8 (G : ct_G) (o : Nat) (a1 : Int) (h : ct_H) (v1 : Int) : Nat → (Int × Int) → Option (Int)
  | 0, _ => none
  | n3 + 1, b2 => if v1 ≤ b2.2 then (some (b2.1)) else (f_X0_placeOf G h (G.1 o 0) b2.2).bind fun v4 => (f_X2_isHeld G h o a1 v4).bind fun v5 => ct_jn (β := Int) (fun k7 => if v5 = 0 then (k7 (b2.1)) else k7 (ct_wr (b2.1 + 1))) (fun b6 => l_X2_pointsHeld_8 G o a1 h v1 n3 (b6, (ct_wr (b2.2 + 1))))
set_option maxRecDepth 100000 in
theorem zl_X2_pointsHeld_8 {x : ct_Ctx} {d : Nat} {G : ct_G} (C : ct_c x m_X2_pointsHeld G (d + 2)) (o : Nat) (a1 : Int) (h : ct_H) (v1 : Int) : ∀ (n3 : Nat) (b2 : Int × Int), ct_Z x m_X2_pointsHeld G 8 [(0, .inr (.inr (2, o))), (1, .inl a1), (2, .inl (b2.1)), (3, .inl v1), (4, .inl (b2.2))] [] h (fun a => ct_q x G ((fun r : Int => (some (.inl r : ct_PV), h)) a)) (l_X2_pointsHeld_8 G o a1 h v1 n3 b2) := by
  intro n3
  induction n3 with
  | zero => intro b2; exact ct_znone
  | succ n3 ih =>
    intro b2
    rw [l_X2_pointsHeld_8]
    refine ct_zrun C (k' := 10) (y := ([(0, .inr (.inr (2, o))), (1, .inl a1), (2, .inl (b2.1)), (3, .inl v1), (4, .inl (b2.2))], [.inl v1, .inl (b2.2)], h)) 2 rfl rfl rfl ?_
    refine ct_zt C (pc := 16) (aux := 0) (cn := .ge) (off := 29) (k' := 22) (a := b2.2) (b := v1) Iff.rfl rfl rfl rfl (fun e10 => ?_) (fun e10 => ?_)
    · refine ct_zrun C (k' := 23) (y := ([(0, .inr (.inr (2, o))), (1, .inl a1), (2, .inl (b2.1)), (3, .inl v1), (4, .inl (b2.2))], [.inl (b2.1)], h)) 1 rfl rfl rfl ?_
      exact ct_zret C (pc := 46) (aux := 0) (ins := .ireturn) (ρ := (fun r : Int => (some (.inl r : ct_PV), h))) (some (.inl (b2.1))) rfl rfl rfl ⟨rfl, Or.inl rfl⟩
    · refine ct_zrun C (k' := 16) (y := ([(0, .inr (.inr (2, o))), (1, .inl a1), (2, .inl (b2.1)), (3, .inl v1), (4, .inl (b2.2))], [.inl (b2.2), .inr (.inr (0, (G.1 o 0))), .inl a1, .inr (.inr (2, o))], h)) 5 rfl rfl rfl ?_
      refine ct_zV C (pc := 27) (aux := 0) [.inl (b2.2)] [.inl a1, .inr (.inr (2, o))] ok_X0_placeOf lk_X2_138 (e_X0_placeOf (G.1 o 0) (b2.2)) rfl rfl rfl rfl rfl rfl rfl rfl (fun v4 => ?_)
      refine ct_zV C (pc := 30) (aux := 0) [.inl a1, .inl v4] [] ok_X2_isHeld lk_X2_141 (e_X2_isHeld o a1 v4) rfl rfl rfl rfl rfl rfl rfl rfl (fun v5 => ?_)
      refine ct_zjn (β := Int) (kJ := 20) (L := fun b6 => [(0, .inr (.inr (2, o))), (1, .inl a1), (2, .inl b6), (3, .inl v1), (4, .inl (b2.2))]) (S := fun b6 => []) (Hh := fun b6 => h) (fun b6 => ?_) (fun k7 z8 => ?_)
      · refine ct_zrun C (k' := 21) (y := ([(4, .inl (ct_wr (b2.2 + 1))), (0, .inr (.inr (2, o))), (1, .inl a1), (2, .inl b6), (3, .inl v1)], [], h)) 1 rfl rfl rfl ?_
        refine ct_zgoto C (pc := 42) (aux := 0) (off := (-29)) (k' := 8) rfl rfl ?_
        exact ct_zsub [1, 2, 3, 4, 0] rfl (ih (b6, (ct_wr (b2.2 + 1))))
      · refine ct_zt0 C (pc := 33) (aux := 0) (cn := .eq) (off := 6) (k' := 20) (a := v5) Iff.rfl rfl rfl rfl (fun e9 => ?_) (fun e9 => ?_)
        · exact ct_zsub [0, 1, 2, 3, 4] rfl (z8 (b2.1))
        · refine ct_zrun C (k' := 20) (y := ([(2, .inl (ct_wr (b2.1 + 1))), (0, .inr (.inr (2, o))), (1, .inl a1), (3, .inl v1), (4, .inl (b2.2))], [], h)) 1 rfl rfl rfl ?_
          exact ct_zsub [1, 2, 0, 3, 4] rfl (z8 (ct_wr (b2.1 + 1)))
def f_X2_pointsHeld (G : ct_G) (h : ct_H) (o : Nat) (a1 : Int) : Option (Int) := (f_X0_points G h (G.1 o 0)).bind fun v1 => l_X2_pointsHeld_8 G o a1 h v1 200 (0, 0)
set_option maxRecDepth 100000 in
theorem e_X2_pointsHeld {d : Nat} {G : ct_G} {h : ct_H} (o : Nat) (a1 : Int) : ct_E m_X2_pointsHeld (d + 2) G (ct_args 0 [.inr (.inr (2, o)), .inl a1]) h (fun r : Int => (some (.inl r : ct_PV), h)) (f_X2_pointsHeld G h o a1) := by
  intro x C
  unfold f_X2_pointsHeld
  show ct_Z x m_X2_pointsHeld G 0 [(0, .inr (.inr (2, o))), (1, .inl a1)] [] h (fun a => ct_q x G ((fun r : Int => (some (.inl r : ct_PV), h)) a)) _
  refine ct_zrun C (k' := 4) (y := ([(2, .inl 0), (0, .inr (.inr (2, o))), (1, .inl a1)], [.inr (.inr (0, (G.1 o 0)))], h)) 4 rfl rfl rfl ?_
  refine ct_zV C (pc := 6) (aux := 0) [] [] ok_X0_points lk_X2_134 (e_X0_points (G.1 o 0)) rfl rfl rfl rfl rfl rfl rfl rfl (fun v1 => ?_)
  refine ct_zrun C (k' := 8) (y := ([(4, .inl 0), (3, .inl v1), (2, .inl 0), (0, .inr (.inr (2, o))), (1, .inl a1)], [], h)) 3 rfl rfl rfl ?_
  exact ct_zsub [3, 4, 2, 1, 0] rfl (zl_X2_pointsHeld_8 C o a1 h v1 200 (0, 0))
def l_X2_outerOnes_4 (G : ct_G) (o : Nat) (h : ct_H) : Nat → (Int × Int) → Option (Int)
  | 0, _ => none
  | n2 + 1, b1 => if (h.1 o 5) ≤ b1.2 then (some (b1.1)) else (f_X2_isOuter G h o b1.2).bind fun v3 => ct_jn (β := Int) (fun k5 => if v3 = 0 then (k5 (b1.1)) else k5 (ct_wr (b1.1 + 1))) (fun b4 => l_X2_outerOnes_4 G o h n2 (b4, (ct_wr (b1.2 + 1))))
set_option maxRecDepth 100000 in
theorem zl_X2_outerOnes_4 {x : ct_Ctx} {d : Nat} {G : ct_G} (C : ct_c x m_X2_outerOnes G (d + 5)) (o : Nat) (h : ct_H) : ∀ (n2 : Nat) (b1 : Int × Int), ct_Z x m_X2_outerOnes G 4 [(0, .inr (.inr (2, o))), (1, .inl (b1.1)), (2, .inl (b1.2))] [] h (fun a => ct_q x G ((fun r : Int => (some (.inl r : ct_PV), h)) a)) (l_X2_outerOnes_4 G o h n2 b1) := by
  intro n2
  induction n2 with
  | zero => intro b1; exact ct_znone
  | succ n2 ih =>
    intro b1
    rw [l_X2_outerOnes_4]
    refine ct_zrun C (k' := 7) (y := ([(0, .inr (.inr (2, o))), (1, .inl (b1.1)), (2, .inl (b1.2))], [.inl (h.1 o 5), .inl (b1.2)], h)) 3 rfl rfl rfl ?_
    refine ct_zt C (pc := 9) (aux := 0) (cn := .ge) (off := 20) (k' := 15) (a := b1.2) (b := (h.1 o 5)) Iff.rfl rfl rfl rfl (fun e8 => ?_) (fun e8 => ?_)
    · refine ct_zrun C (k' := 16) (y := ([(0, .inr (.inr (2, o))), (1, .inl (b1.1)), (2, .inl (b1.2))], [.inl (b1.1)], h)) 1 rfl rfl rfl ?_
      exact ct_zret C (pc := 30) (aux := 0) (ins := .ireturn) (ρ := (fun r : Int => (some (.inl r : ct_PV), h))) (some (.inl (b1.1))) rfl rfl rfl ⟨rfl, Or.inl rfl⟩
    · refine ct_zrun C (k' := 10) (y := ([(0, .inr (.inr (2, o))), (1, .inl (b1.1)), (2, .inl (b1.2))], [.inl (b1.2), .inr (.inr (2, o))], h)) 2 rfl rfl rfl ?_
      refine ct_zV C (pc := 14) (aux := 0) [.inl (b1.2)] [] ok_X2_isOuter lk_X2_144 (e_X2_isOuter o (b1.2)) rfl rfl rfl rfl rfl rfl rfl rfl (fun v3 => ?_)
      refine ct_zjn (β := Int) (kJ := 13) (L := fun b4 => [(0, .inr (.inr (2, o))), (1, .inl b4), (2, .inl (b1.2))]) (S := fun b4 => []) (Hh := fun b4 => h) (fun b4 => ?_) (fun k5 z6 => ?_)
      · refine ct_zrun C (k' := 14) (y := ([(2, .inl (ct_wr (b1.2 + 1))), (0, .inr (.inr (2, o))), (1, .inl b4)], [], h)) 1 rfl rfl rfl ?_
        refine ct_zgoto C (pc := 26) (aux := 0) (off := (-22)) (k' := 4) rfl rfl ?_
        exact ct_zsub [1, 2, 0] rfl (ih (b4, (ct_wr (b1.2 + 1))))
      · refine ct_zt0 C (pc := 17) (aux := 0) (cn := .eq) (off := 6) (k' := 13) (a := v3) Iff.rfl rfl rfl rfl (fun e7 => ?_) (fun e7 => ?_)
        · exact ct_zsub [0, 1, 2] rfl (z6 (b1.1))
        · refine ct_zrun C (k' := 13) (y := ([(1, .inl (ct_wr (b1.1 + 1))), (0, .inr (.inr (2, o))), (2, .inl (b1.2))], [], h)) 1 rfl rfl rfl ?_
          exact ct_zsub [1, 0, 2] rfl (z6 (ct_wr (b1.1 + 1)))
def f_X2_outerOnes (G : ct_G) (h : ct_H) (o : Nat) : Option (Int) := l_X2_outerOnes_4 G o h 200 (0, 0)
set_option maxRecDepth 100000 in
theorem e_X2_outerOnes {d : Nat} {G : ct_G} {h : ct_H} (o : Nat) : ct_E m_X2_outerOnes (d + 5) G (ct_args 0 [.inr (.inr (2, o))]) h (fun r : Int => (some (.inl r : ct_PV), h)) (f_X2_outerOnes G h o) := by
  intro x C
  unfold f_X2_outerOnes
  show ct_Z x m_X2_outerOnes G 0 [(0, .inr (.inr (2, o)))] [] h (fun a => ct_q x G ((fun r : Int => (some (.inl r : ct_PV), h)) a)) _
  refine ct_zrun C (k' := 4) (y := ([(2, .inl 0), (1, .inl 0), (0, .inr (.inr (2, o)))], [], h)) 4 rfl rfl rfl ?_
  exact ct_zsub [2, 1, 0] rfl (zl_X2_outerOnes_4 C o h 200 (0, 0))
def l_X2_greatestDepth_4 (G : ct_G) (o : Nat) (h : ct_H) : Nat → (Int × Int) → Option (Int)
  | 0, _ => none
  | n2 + 1, b1 => if (h.1 o 5) ≤ b1.2 then (some (b1.1)) else (f_X2_depthOf G h o b1.2).bind fun v3 => ct_lt (ct_max b1.1 v3) fun v4 => l_X2_greatestDepth_4 G o h n2 (v4, (ct_wr (b1.2 + 1)))
set_option maxRecDepth 100000 in
theorem zl_X2_greatestDepth_4 {x : ct_Ctx} {d : Nat} {G : ct_G} (C : ct_c x m_X2_greatestDepth G (d + 4)) (o : Nat) (h : ct_H) : ∀ (n2 : Nat) (b1 : Int × Int), ct_Z x m_X2_greatestDepth G 4 [(0, .inr (.inr (2, o))), (1, .inl (b1.1)), (2, .inl (b1.2))] [] h (fun a => ct_q x G ((fun r : Int => (some (.inl r : ct_PV), h)) a)) (l_X2_greatestDepth_4 G o h n2 b1) := by
  intro n2
  induction n2 with
  | zero => intro b1; exact ct_znone
  | succ n2 ih =>
    intro b1
    rw [l_X2_greatestDepth_4]
    refine ct_zrun C (k' := 7) (y := ([(0, .inr (.inr (2, o))), (1, .inl (b1.1)), (2, .inl (b1.2))], [.inl (h.1 o 5), .inl (b1.2)], h)) 3 rfl rfl rfl ?_
    refine ct_zt C (pc := 10) (aux := 0) (cn := .ge) (off := 19) (k' := 16) (a := b1.2) (b := (h.1 o 5)) Iff.rfl rfl rfl rfl (fun e5 => ?_) (fun e5 => ?_)
    · refine ct_zrun C (k' := 17) (y := ([(0, .inr (.inr (2, o))), (1, .inl (b1.1)), (2, .inl (b1.2))], [.inl (b1.1)], h)) 1 rfl rfl rfl ?_
      exact ct_zret C (pc := 30) (aux := 0) (ins := .ireturn) (ρ := (fun r : Int => (some (.inl r : ct_PV), h))) (some (.inl (b1.1))) rfl rfl rfl ⟨rfl, Or.inl rfl⟩
    · refine ct_zrun C (k' := 11) (y := ([(0, .inr (.inr (2, o))), (1, .inl (b1.1)), (2, .inl (b1.2))], [.inl (b1.2), .inr (.inr (2, o)), .inl (b1.1)], h)) 3 rfl rfl rfl ?_
      refine ct_zV C (pc := 16) (aux := 0) [.inl (b1.2)] [.inl (b1.1)] ok_X2_depthOf lk_X2_114 (e_X2_depthOf o (b1.2)) rfl rfl rfl rfl rfl rfl rfl rfl (fun v3 => ?_)
      refine ct_zmax C (pc := 19) (aux := 0) lk_X2_147 rfl rfl rfl ?_
      refine ct_zrun C (k' := 14) (y := ([(1, .inl (ct_max b1.1 v3)), (0, .inr (.inr (2, o))), (2, .inl (b1.2))], [], h)) 1 rfl rfl rfl ?_
      refine ct_zlet (L := fun v4 => [(1, .inl v4), (0, .inr (.inr (2, o))), (2, .inl (b1.2))]) (S := fun _ => []) (Hh := fun _ => h) (a := (ct_max b1.1 v3)) (fun v4 => ?_)
      refine ct_zrun C (k' := 15) (y := ([(2, .inl (ct_wr (b1.2 + 1))), (1, .inl v4), (0, .inr (.inr (2, o)))], [], h)) 1 rfl rfl rfl ?_
      refine ct_zgoto C (pc := 26) (aux := 0) (off := (-21)) (k' := 4) rfl rfl ?_
      exact ct_zsub [2, 1, 0] rfl (ih (v4, (ct_wr (b1.2 + 1))))
def f_X2_greatestDepth (G : ct_G) (h : ct_H) (o : Nat) : Option (Int) := l_X2_greatestDepth_4 G o h 200 ((-5), 0)
set_option maxRecDepth 100000 in
theorem e_X2_greatestDepth {d : Nat} {G : ct_G} {h : ct_H} (o : Nat) : ct_E m_X2_greatestDepth (d + 4) G (ct_args 0 [.inr (.inr (2, o))]) h (fun r : Int => (some (.inl r : ct_PV), h)) (f_X2_greatestDepth G h o) := by
  intro x C
  unfold f_X2_greatestDepth
  show ct_Z x m_X2_greatestDepth G 0 [(0, .inr (.inr (2, o)))] [] h (fun a => ct_q x G ((fun r : Int => (some (.inl r : ct_PV), h)) a)) _
  refine ct_zrun C (k' := 4) (y := ([(2, .inl 0), (1, .inl (-5)), (0, .inr (.inr (2, o)))], [], h)) 4 rfl rfl rfl ?_
  exact ct_zsub [2, 1, 0] rfl (zl_X2_greatestDepth_4 C o h 200 ((-5), 0))
def l_X2_countLevels_14 (G : ct_G) (o : Nat) : Nat → (Int × ct_H) → Option (ct_H)
  | 0, _ => none
  | n3 + 1, b2 => if 100 ≤ b2.1 then (some (b2.2)) else ct_jn (β := ct_H) (fun k5 => ct_jn (β := Unit) (fun k8 => if b2.1 ≤ 0 then (k8 ()) else (ct_rd G b2.2 (G.1 o 4) (ct_wr (b2.1 - 1))).bind fun v12 => ct_jn (β := Unit) (fun k14 => if v12 = 0 then (k14 ()) else (f_X0_isLikeBelow G b2.2 (G.1 o 0) b2.1).bind fun v18 => if v18 = 0 then (k8 ()) else k14 ()) (fun b13 => (ct_rd G b2.2 (G.1 o 4) (ct_wr (b2.1 - 1))).bind fun v16 => (ct_wt G b2.2 (G.1 o 4) b2.1 v16).bind fun h17 => k5 h17)) (fun b7 => (f_X2_trace G b2.2 o b2.1).bind fun r10 => (ct_wt G r10 (G.1 o 4) b2.1 (r10.1 o 5)).bind fun h11 => k5 h11)) (fun b4 => l_X2_countLevels_14 G o n3 ((ct_wr (b2.1 + 1)), b4))
set_option maxRecDepth 100000 in
theorem zl_X2_countLevels_14 {x : ct_Ctx} {d : Nat} {G : ct_G} (C : ct_c x m_X2_countLevels G (d + 5)) (o : Nat) : ∀ (n3 : Nat) (b2 : Int × ct_H), ct_Z x m_X2_countLevels G 14 [(0, .inr (.inr (2, o))), (1, .inl (b2.1))] [] b2.2 (fun a => ct_q x G ((fun r : ct_H => ((none : Option ct_PV), r)) a)) (l_X2_countLevels_14 G o n3 b2) := by
  intro n3
  induction n3 with
  | zero => intro b2; exact ct_znone
  | succ n3 ih =>
    intro b2
    rw [l_X2_countLevels_14]
    refine ct_zrun C (k' := 16) (y := ([(0, .inr (.inr (2, o))), (1, .inl (b2.1))], [.inl 100, .inl (b2.1)], b2.2)) 2 rfl rfl rfl ?_
    refine ct_zt C (pc := 31) (aux := 0) (cn := .ge) (off := 67) (k' := 53) (a := b2.1) (b := 100) Iff.rfl rfl rfl rfl (fun e22 => ?_) (fun e22 => ?_)
    · exact ct_zret C (pc := 98) (aux := 0) (ins := .return_) (ρ := (fun r : ct_H => ((none : Option ct_PV), r))) none rfl rfl rfl ⟨rfl, rfl⟩
    · refine ct_zrun C (k' := 18) (y := ([(0, .inr (.inr (2, o))), (1, .inl (b2.1))], [.inl (b2.1)], b2.2)) 1 rfl rfl rfl ?_
      refine ct_zjn (β := ct_H) (kJ := 51) (L := fun b4 => [(0, .inr (.inr (2, o))), (1, .inl (b2.1))]) (S := fun b4 => []) (Hh := fun b4 => b4) (fun b4 => ?_) (fun k5 z6 => ?_)
      · refine ct_zrun C (k' := 52) (y := ([(1, .inl (ct_wr (b2.1 + 1))), (0, .inr (.inr (2, o)))], [], b4)) 1 rfl rfl rfl ?_
        refine ct_zgoto C (pc := 95) (aux := 0) (off := (-67)) (k' := 14) rfl rfl ?_
        exact ct_zsub [1, 0] rfl (ih ((ct_wr (b2.1 + 1)), b4))
      · refine ct_zjn (β := Unit) (kJ := 42) (L := fun b7 => [(0, .inr (.inr (2, o))), (1, .inl (b2.1))]) (S := fun b7 => []) (Hh := fun b7 => b2.2) (fun b7 => ?_) (fun k8 z9 => ?_)
        · refine ct_zrun C (k' := 44) (y := ([(0, .inr (.inr (2, o))), (1, .inl (b2.1))], [.inl (b2.1), .inr (.inr (2, o))], b2.2)) 2 rfl rfl rfl ?_
          refine ct_zV C (pc := 79) (aux := 0) [.inl (b2.1)] [] ok_X2_trace lk_X2_153 (e_X2_trace o (b2.1)) rfl rfl rfl rfl rfl rfl rfl rfl (fun r10 => ?_)
          refine ct_zrun C (k' := 50) (y := ([(0, .inr (.inr (2, o))), (1, .inl (b2.1))], [.inl (r10.1 o 5), .inl (b2.1), .inr (.inr (8, (G.1 o 4)))], r10)) 5 rfl rfl rfl ?_
          refine ct_zwt C (pc := 91) (aux := 0) rfl rfl (fun h11 => ?_)
          exact ct_zsub [0, 1] rfl (z6 h11)
        · refine ct_zt0 C (pc := 35) (aux := 0) (cn := .le) (off := 42) (k' := 42) (a := b2.1) Iff.rfl rfl rfl rfl (fun e21 => ?_) (fun e21 => ?_)
          · exact ct_zsub [0, 1] rfl (z9 ())
          · refine ct_zrun C (k' := 24) (y := ([(0, .inr (.inr (2, o))), (1, .inl (b2.1))], [.inl (ct_wr (b2.1 - 1)), .inr (.inr (8, (G.1 o 4)))], b2.2)) 5 rfl rfl rfl ?_
            refine ct_zrd C (pc := 45) (aux := 0) (ins := .iaload) (cd := 8) rfl rfl (Or.inl ⟨rfl, rfl⟩) (fun v12 => ?_)
            refine ct_zjn (β := Unit) (kJ := 31) (L := fun b13 => [(0, .inr (.inr (2, o))), (1, .inl (b2.1))]) (S := fun b13 => []) (Hh := fun b13 => b2.2) (fun b13 => ?_) (fun k14 z15 => ?_)
            · refine ct_zrun C (k' := 39) (y := ([(0, .inr (.inr (2, o))), (1, .inl (b2.1))], [.inl (ct_wr (b2.1 - 1)), .inr (.inr (8, (G.1 o 4))), .inl (b2.1), .inr (.inr (8, (G.1 o 4)))], b2.2)) 8 rfl rfl rfl ?_
              refine ct_zrd C (pc := 72) (aux := 0) (ins := .iaload) (cd := 8) rfl rfl (Or.inl ⟨rfl, rfl⟩) (fun v16 => ?_)
              refine ct_zwt C (pc := 73) (aux := 0) rfl rfl (fun h17 => ?_)
              refine ct_zgoto C (pc := 74) (aux := 0) (off := 18) (k' := 51) rfl rfl ?_
              exact ct_zsub [0, 1] rfl (z6 h17)
            · refine ct_zt0 C (pc := 46) (aux := 0) (cn := .eq) (off := 14) (k' := 31) (a := v12) Iff.rfl rfl rfl rfl (fun e20 => ?_) (fun e20 => ?_)
              · exact ct_zsub [0, 1] rfl (z15 ())
              · refine ct_zrun C (k' := 29) (y := ([(0, .inr (.inr (2, o))), (1, .inl (b2.1))], [.inl (b2.1), .inr (.inr (0, (G.1 o 0)))], b2.2)) 3 rfl rfl rfl ?_
                refine ct_zV C (pc := 54) (aux := 0) [.inl (b2.1)] [] ok_X0_isLikeBelow lk_X2_150 (e_X0_isLikeBelow (G.1 o 0) (b2.1)) rfl rfl rfl rfl rfl rfl rfl rfl (fun v18 => ?_)
                refine ct_zt0 C (pc := 57) (aux := 0) (cn := .eq) (off := 20) (k' := 42) (a := v18) Iff.rfl rfl rfl rfl (fun e19 => ?_) (fun e19 => ?_)
                · exact ct_zsub [0, 1] rfl (z9 ())
                · exact ct_zsub [0, 1] rfl (z15 ())
def f_X2_countLevels (G : ct_G) (h : ct_H) (o : Nat) : Option (ct_H) := if (h.1 o 8) = (h.1 (G.1 o 0) 6) then (some h) else ct_lt (ct_wF h o 8 (h.1 (G.1 o 0) 6)) fun h1 => l_X2_countLevels_14 G o 200 (0, h1)
set_option maxRecDepth 100000 in
theorem e_X2_countLevels {d : Nat} {G : ct_G} {h : ct_H} (o : Nat) : ct_E m_X2_countLevels (d + 5) G (ct_args 0 [.inr (.inr (2, o))]) h (fun r : ct_H => ((none : Option ct_PV), r)) (f_X2_countLevels G h o) := by
  intro x C
  unfold f_X2_countLevels
  show ct_Z x m_X2_countLevels G 0 [(0, .inr (.inr (2, o)))] [] h (fun a => ct_q x G ((fun r : ct_H => ((none : Option ct_PV), r)) a)) _
  refine ct_zrun C (k' := 5) (y := ([(0, .inr (.inr (2, o)))], [.inl (h.1 (G.1 o 0) 6), .inl (h.1 o 8)], h)) 5 rfl rfl rfl ?_
  refine ct_zf C (pc := 11) (aux := 0) (cn := .ne) (off := 4) (k' := 7) (a := (h.1 o 8)) (b := (h.1 (G.1 o 0) 6)) Iff.rfl rfl rfl rfl (fun e23 => ?_) (fun e23 => ?_)
  · exact ct_zret C (pc := 14) (aux := 0) (ins := .return_) (ρ := (fun r : ct_H => ((none : Option ct_PV), r))) none rfl rfl rfl ⟨rfl, rfl⟩
  · refine ct_zrun C (k' := 12) (y := ([(0, .inr (.inr (2, o)))], [], (ct_wF h o 8 (h.1 (G.1 o 0) 6)))) 5 rfl rfl rfl ?_
    refine ct_zlet (L := fun _ => [(0, .inr (.inr (2, o)))]) (S := fun _ => []) (Hh := fun h1 => h1) (a := (ct_wF h o 8 (h.1 (G.1 o 0) 6))) (fun h1 => ?_)
    refine ct_zrun C (k' := 14) (y := ([(1, .inl 0), (0, .inr (.inr (2, o)))], [], h1)) 2 rfl rfl rfl ?_
    exact ct_zsub [1, 0] rfl (zl_X2_countLevels_14 C o 200 (0, h1))
def l_X2_busiest_4 (G : ct_G) (o : Nat) (h : ct_H) : Nat → (Int × Int) → Option (Int)
  | 0, _ => none
  | n2 + 1, b1 => if 100 ≤ b1.2 then (some (b1.1)) else (ct_rd G h (G.1 o 4) b1.2).bind fun v3 => (ct_rd G h (G.1 o 4) b1.1).bind fun v4 => ct_jn (β := Int) (fun k6 => if v3 ≤ v4 then (k6 (b1.1)) else k6 (b1.2)) (fun b5 => l_X2_busiest_4 G o h n2 (b5, (ct_wr (b1.2 + 1))))
set_option maxRecDepth 100000 in
theorem zl_X2_busiest_4 {x : ct_Ctx} {d : Nat} {G : ct_G} (C : ct_c x m_X2_busiest G d) (o : Nat) (h : ct_H) : ∀ (n2 : Nat) (b1 : Int × Int), ct_Z x m_X2_busiest G 4 [(0, .inr (.inr (2, o))), (1, .inl (b1.1)), (2, .inl (b1.2))] [] h (fun a => ct_q x G ((fun r : Int => (some (.inl r : ct_PV), h)) a)) (l_X2_busiest_4 G o h n2 b1) := by
  intro n2
  induction n2 with
  | zero => intro b1; exact ct_znone
  | succ n2 ih =>
    intro b1
    rw [l_X2_busiest_4]
    refine ct_zrun C (k' := 6) (y := ([(0, .inr (.inr (2, o))), (1, .inl (b1.1)), (2, .inl (b1.2))], [.inl 100, .inl (b1.2)], h)) 2 rfl rfl rfl ?_
    refine ct_zt C (pc := 7) (aux := 0) (cn := .ge) (off := 26) (k' := 20) (a := b1.2) (b := 100) Iff.rfl rfl rfl rfl (fun e9 => ?_) (fun e9 => ?_)
    · refine ct_zrun C (k' := 21) (y := ([(0, .inr (.inr (2, o))), (1, .inl (b1.1)), (2, .inl (b1.2))], [.inl (b1.1)], h)) 1 rfl rfl rfl ?_
      exact ct_zret C (pc := 34) (aux := 0) (ins := .ireturn) (ρ := (fun r : Int => (some (.inl r : ct_PV), h))) (some (.inl (b1.1))) rfl rfl rfl ⟨rfl, Or.inl rfl⟩
    · refine ct_zrun C (k' := 10) (y := ([(0, .inr (.inr (2, o))), (1, .inl (b1.1)), (2, .inl (b1.2))], [.inl (b1.2), .inr (.inr (8, (G.1 o 4)))], h)) 3 rfl rfl rfl ?_
      refine ct_zrd C (pc := 15) (aux := 0) (ins := .iaload) (cd := 8) rfl rfl (Or.inl ⟨rfl, rfl⟩) (fun v3 => ?_)
      refine ct_zrun C (k' := 14) (y := ([(0, .inr (.inr (2, o))), (1, .inl (b1.1)), (2, .inl (b1.2))], [.inl (b1.1), .inr (.inr (8, (G.1 o 4))), .inl v3], h)) 3 rfl rfl rfl ?_
      refine ct_zrd C (pc := 21) (aux := 0) (ins := .iaload) (cd := 8) rfl rfl (Or.inl ⟨rfl, rfl⟩) (fun v4 => ?_)
      refine ct_zjn (β := Int) (kJ := 18) (L := fun b5 => [(0, .inr (.inr (2, o))), (1, .inl b5), (2, .inl (b1.2))]) (S := fun b5 => []) (Hh := fun b5 => h) (fun b5 => ?_) (fun k6 z7 => ?_)
      · refine ct_zrun C (k' := 19) (y := ([(2, .inl (ct_wr (b1.2 + 1))), (0, .inr (.inr (2, o))), (1, .inl b5)], [], h)) 1 rfl rfl rfl ?_
        refine ct_zgoto C (pc := 30) (aux := 0) (off := (-26)) (k' := 4) rfl rfl ?_
        exact ct_zsub [1, 2, 0] rfl (ih (b5, (ct_wr (b1.2 + 1))))
      · refine ct_zt C (pc := 22) (aux := 0) (cn := .le) (off := 5) (k' := 18) (a := v3) (b := v4) Iff.rfl rfl rfl rfl (fun e8 => ?_) (fun e8 => ?_)
        · exact ct_zsub [0, 1, 2] rfl (z7 (b1.1))
        · refine ct_zrun C (k' := 18) (y := ([(1, .inl (b1.2)), (0, .inr (.inr (2, o))), (2, .inl (b1.2))], [], h)) 2 rfl rfl rfl ?_
          exact ct_zsub [1, 0, 2] rfl (z7 (b1.2))
def f_X2_busiest (G : ct_G) (h : ct_H) (o : Nat) : Option (Int) := l_X2_busiest_4 G o h 200 (0, 1)
set_option maxRecDepth 100000 in
theorem e_X2_busiest {d : Nat} {G : ct_G} {h : ct_H} (o : Nat) : ct_E m_X2_busiest d G (ct_args 0 [.inr (.inr (2, o))]) h (fun r : Int => (some (.inl r : ct_PV), h)) (f_X2_busiest G h o) := by
  intro x C
  unfold f_X2_busiest
  show ct_Z x m_X2_busiest G 0 [(0, .inr (.inr (2, o)))] [] h (fun a => ct_q x G ((fun r : Int => (some (.inl r : ct_PV), h)) a)) _
  refine ct_zrun C (k' := 4) (y := ([(2, .inl 1), (1, .inl 0), (0, .inr (.inr (2, o)))], [], h)) 4 rfl rfl rfl ?_
  exact ct_zsub [2, 1, 0] rfl (zl_X2_busiest_4 C o h 200 (0, 1))
