set_option maxRecDepth 100000 in
theorem lk_X1_77 : ct_LkV RX1 77 m_X1_rootOf 1 := ct_LkV_of 669 670 671 (by decide +kernel) (by decide +kernel) (by decide +kernel) (by decide +kernel)
theorem lk_X1_81 : Cond.methodLink RX1 81 Lib.Math.max.name ∈ ct_GW := ct_GW_of 673 (by decide +kernel) (by decide +kernel)
theorem lk_X1_87 : Cond.methodLink RX1 87 Lib.Math.min.name ∈ ct_GW := ct_GW_of 674 (by decide +kernel) (by decide +kernel)
set_option maxRecDepth 100000 in
theorem lk_X1_65 : ct_LkV RX1 65 m_X1_isIn 1 := ct_LkV_of 661 662 663 (by decide +kernel) (by decide +kernel) (by decide +kernel) (by decide +kernel)
set_option maxRecDepth 100000 in
theorem lk_X1_73 : ct_LkV RX1 73 m_X0_isJoinedSaddle 2 := ct_LkV_of 677 678 679 (by decide +kernel) (by decide +kernel) (by decide +kernel) (by decide +kernel)
set_option maxRecDepth 100000 in
theorem lk_X1_69 : ct_LkV RX1 69 m_X1_unite 2 := ct_LkV_of 665 666 667 (by decide +kernel) (by decide +kernel) (by decide +kernel) (by decide +kernel)
set_option maxRecDepth 100000 in
theorem lk_X1_55 : ct_LkV RX1 55 m_X1_hangTogether 1 := ct_LkV_of 657 658 659 (by decide +kernel) (by decide +kernel) (by decide +kernel) (by decide +kernel)
set_option maxRecDepth 100000 in
theorem lk_X1_59 : ct_LkV RX1 59 m_X1_numberLands 0 := ct_LkV_of 684 685 686 (by decide +kernel) (by decide +kernel) (by decide +kernel) (by decide +kernel)
set_option maxRecDepth 100000 in
theorem lk_X1_90 : ct_LkS RX1 90 m_J7_fill_53178 2 := ct_LkS_of 832 110 (by decide +kernel) (by decide +kernel) (by decide +kernel)
def f_X1_isIn (G : ct_G) (h : ct_H) (o : Nat) (a1 : Int) : Option (Int) := (ct_rd G h (G.1 (G.1 o 0) 0) a1).bind fun v1 => if v1 < (h.1 o 8) then (some 0) else some 1
set_option maxRecDepth 100000 in
theorem e_X1_isIn {d : Nat} {G : ct_G} {h : ct_H} (o : Nat) (a1 : Int) : ct_E m_X1_isIn d G (ct_args 0 [.inr (.inr (1, o)), .inl a1]) h (fun r : Int => (some (.inl r : ct_PV), h)) (f_X1_isIn G h o a1) := by
  intro x C
  unfold f_X1_isIn
  show ct_Z x m_X1_isIn G 0 [(0, .inr (.inr (1, o))), (1, .inl a1)] [] h (fun a => ct_q x G ((fun r : Int => (some (.inl r : ct_PV), h)) a)) _
  refine ct_zrun C (k' := 4) (y := ([(0, .inr (.inr (1, o))), (1, .inl a1)], [.inl a1, .inr (.inr (8, (G.1 (G.1 o 0) 0)))], h)) 4 rfl rfl rfl ?_
  refine ct_zrd C (pc := 8) (aux := 0) (ins := .iaload) (cd := 8) rfl rfl (Or.inl ⟨rfl, rfl⟩) (fun v1 => ?_)
  refine ct_zrun C (k' := 7) (y := ([(0, .inr (.inr (1, o))), (1, .inl a1)], [.inl (h.1 o 8), .inl v1], h)) 2 rfl rfl rfl ?_
  refine ct_zt C (pc := 13) (aux := 0) (cn := .lt) (off := 7) (k' := 10) (a := v1) (b := (h.1 o 8)) Iff.rfl rfl rfl rfl (fun e2 => ?_) (fun e2 => ?_)
  · refine ct_zrun C (k' := 11) (y := ([(0, .inr (.inr (1, o))), (1, .inl a1)], [.inl 0], h)) 1 rfl rfl rfl ?_
    exact ct_zret C (pc := 21) (aux := 0) (ins := .ireturn) (ρ := (fun r : Int => (some (.inl r : ct_PV), h))) (some (.inl 0)) rfl rfl rfl ⟨rfl, Or.inr ⟨rfl, Or.inl rfl⟩⟩
  · refine ct_zrun C (k' := 9) (y := ([(0, .inr (.inr (1, o))), (1, .inl a1)], [.inl 1], h)) 1 rfl rfl rfl ?_
    refine ct_zgoto C (pc := 17) (aux := 0) (off := 4) (k' := 11) rfl rfl ?_
    exact ct_zret C (pc := 21) (aux := 0) (ins := .ireturn) (ρ := (fun r : Int => (some (.inl r : ct_PV), h))) (some (.inl 1)) rfl rfl rfl ⟨rfl, Or.inr ⟨rfl, Or.inr rfl⟩⟩
def l_X1_rootOf_4 (G : ct_G) (o : Nat) (h : ct_H) : Nat → (Int × Int) → Option (Int)
  | 0, _ => none
  | n2 + 1, b1 => if ((G.2 (G.1 o 1) : Nat) : Int) ≤ b1.2 then (some (b1.1)) else (ct_rd G h (G.1 o 1) b1.1).bind fun v3 => if v3 = b1.1 then (some (b1.1)) else (ct_rd G h (G.1 o 1) b1.1).bind fun v4 => l_X1_rootOf_4 G o h n2 (v4, (ct_wr (b1.2 + 1)))
set_option maxRecDepth 100000 in
theorem zl_X1_rootOf_4 {x : ct_Ctx} {d : Nat} {G : ct_G} (C : ct_c x m_X1_rootOf G d) (o : Nat) (h : ct_H) : ∀ (n2 : Nat) (b1 : Int × Int), ct_Z x m_X1_rootOf G 4 [(0, .inr (.inr (1, o))), (2, .inl (b1.1)), (3, .inl (b1.2))] [] h (fun a => ct_q x G ((fun r : Int => (some (.inl r : ct_PV), h)) a)) (l_X1_rootOf_4 G o h n2 b1) := by
  intro n2
  induction n2 with
  | zero => intro b1; exact ct_znone
  | succ n2 ih =>
    intro b1
    rw [l_X1_rootOf_4]
    refine ct_zrun C (k' := 8) (y := ([(0, .inr (.inr (1, o))), (2, .inl (b1.1)), (3, .inl (b1.2))], [.inl ((G.2 (G.1 o 1) : Nat) : Int), .inl (b1.2)], h)) 4 rfl rfl rfl ?_
    refine ct_zt C (pc := 10) (aux := 0) (cn := .ge) (off := 26) (k' := 22) (a := b1.2) (b := ((G.2 (G.1 o 1) : Nat) : Int)) Iff.rfl rfl rfl rfl (fun e6 => ?_) (fun e6 => ?_)
    · refine ct_zrun C (k' := 23) (y := ([(0, .inr (.inr (1, o))), (2, .inl (b1.1)), (3, .inl (b1.2))], [.inl (b1.1)], h)) 1 rfl rfl rfl ?_
      exact ct_zret C (pc := 37) (aux := 0) (ins := .ireturn) (ρ := (fun r : Int => (some (.inl r : ct_PV), h))) (some (.inl (b1.1))) rfl rfl rfl ⟨rfl, Or.inl rfl⟩
    · refine ct_zrun C (k' := 12) (y := ([(0, .inr (.inr (1, o))), (2, .inl (b1.1)), (3, .inl (b1.2))], [.inl (b1.1), .inr (.inr (8, (G.1 o 1)))], h)) 3 rfl rfl rfl ?_
      refine ct_zrd C (pc := 18) (aux := 0) (ins := .iaload) (cd := 8) rfl rfl (Or.inl ⟨rfl, rfl⟩) (fun v3 => ?_)
      refine ct_zrun C (k' := 14) (y := ([(0, .inr (.inr (1, o))), (2, .inl (b1.1)), (3, .inl (b1.2))], [.inl (b1.1), .inl v3], h)) 1 rfl rfl rfl ?_
      refine ct_zt C (pc := 20) (aux := 0) (cn := .eq) (off := 16) (k' := 22) (a := v3) (b := b1.1) Iff.rfl rfl rfl rfl (fun e5 => ?_) (fun e5 => ?_)
      · refine ct_zrun C (k' := 23) (y := ([(0, .inr (.inr (1, o))), (2, .inl (b1.1)), (3, .inl (b1.2))], [.inl (b1.1)], h)) 1 rfl rfl rfl ?_
        exact ct_zret C (pc := 37) (aux := 0) (ins := .ireturn) (ρ := (fun r : Int => (some (.inl r : ct_PV), h))) (some (.inl (b1.1))) rfl rfl rfl ⟨rfl, Or.inl rfl⟩
      · refine ct_zrun C (k' := 18) (y := ([(0, .inr (.inr (1, o))), (2, .inl (b1.1)), (3, .inl (b1.2))], [.inl (b1.1), .inr (.inr (8, (G.1 o 1)))], h)) 3 rfl rfl rfl ?_
        refine ct_zrd C (pc := 28) (aux := 0) (ins := .iaload) (cd := 8) rfl rfl (Or.inl ⟨rfl, rfl⟩) (fun v4 => ?_)
        refine ct_zrun C (k' := 21) (y := ([(3, .inl (ct_wr (b1.2 + 1))), (2, .inl v4), (0, .inr (.inr (1, o)))], [], h)) 2 rfl rfl rfl ?_
        refine ct_zgoto C (pc := 33) (aux := 0) (off := (-29)) (k' := 4) rfl rfl ?_
        exact ct_zsub [2, 1, 0] rfl (ih (v4, (ct_wr (b1.2 + 1))))
def f_X1_rootOf (G : ct_G) (h : ct_H) (o : Nat) (a1 : Int) : Option (Int) := l_X1_rootOf_4 G o h 200 (a1, 0)
set_option maxRecDepth 100000 in
theorem e_X1_rootOf {d : Nat} {G : ct_G} {h : ct_H} (o : Nat) (a1 : Int) : ct_E m_X1_rootOf d G (ct_args 0 [.inr (.inr (1, o)), .inl a1]) h (fun r : Int => (some (.inl r : ct_PV), h)) (f_X1_rootOf G h o a1) := by
  intro x C
  unfold f_X1_rootOf
  show ct_Z x m_X1_rootOf G 0 [(0, .inr (.inr (1, o))), (1, .inl a1)] [] h (fun a => ct_q x G ((fun r : Int => (some (.inl r : ct_PV), h)) a)) _
  refine ct_zrun C (k' := 4) (y := ([(3, .inl 0), (2, .inl a1), (0, .inr (.inr (1, o))), (1, .inl a1)], [], h)) 4 rfl rfl rfl ?_
  exact ct_zsub [2, 1, 0] rfl (zl_X1_rootOf_4 C o h 200 (a1, 0))
def f_X1_unite (G : ct_G) (h : ct_H) (o : Nat) (a1 : Int) (a2 : Int) : Option (ct_H) := (f_X1_rootOf G h o a1).bind fun v1 => (f_X1_rootOf G h o a2).bind fun v2 => (ct_wt G h (G.1 o 1) (ct_max v1 v2) (ct_min v1 v2)).bind fun h3 => some h3
set_option maxRecDepth 100000 in
theorem e_X1_unite {d : Nat} {G : ct_G} {h : ct_H} (o : Nat) (a1 : Int) (a2 : Int) : ct_E m_X1_unite (d + 1) G (ct_args 0 [.inr (.inr (1, o)), .inl a1, .inl a2]) h (fun r : ct_H => ((none : Option ct_PV), r)) (f_X1_unite G h o a1 a2) := by
  intro x C
  unfold f_X1_unite
  show ct_Z x m_X1_unite G 0 [(0, .inr (.inr (1, o))), (1, .inl a1), (2, .inl a2)] [] h (fun a => ct_q x G ((fun r : ct_H => ((none : Option ct_PV), r)) a)) _
  refine ct_zrun C (k' := 2) (y := ([(0, .inr (.inr (1, o))), (1, .inl a1), (2, .inl a2)], [.inl a1, .inr (.inr (1, o))], h)) 2 rfl rfl rfl ?_
  refine ct_zV C (pc := 2) (aux := 0) [.inl a1] [] ok_X1_rootOf lk_X1_77 (e_X1_rootOf o a1) rfl rfl rfl rfl rfl rfl rfl rfl (fun v1 => ?_)
  refine ct_zrun C (k' := 6) (y := ([(3, .inl v1), (0, .inr (.inr (1, o))), (1, .inl a1), (2, .inl a2)], [.inl a2, .inr (.inr (1, o))], h)) 3 rfl rfl rfl ?_
  refine ct_zV C (pc := 8) (aux := 0) [.inl a2] [] ok_X1_rootOf lk_X1_77 (e_X1_rootOf o a2) rfl rfl rfl rfl rfl rfl rfl rfl (fun v2 => ?_)
  refine ct_zrun C (k' := 12) (y := ([(4, .inl v2), (3, .inl v1), (0, .inr (.inr (1, o))), (1, .inl a1), (2, .inl a2)], [.inl v2, .inl v1, .inr (.inr (8, (G.1 o 1)))], h)) 5 rfl rfl rfl ?_
  refine ct_zmax C (pc := 20) (aux := 0) lk_X1_81 rfl rfl rfl ?_
  refine ct_zrun C (k' := 15) (y := ([(4, .inl v2), (3, .inl v1), (0, .inr (.inr (1, o))), (1, .inl a1), (2, .inl a2)], [.inl v2, .inl v1, .inl (ct_max v1 v2), .inr (.inr (8, (G.1 o 1)))], h)) 2 rfl rfl rfl ?_
  refine ct_zmin C (pc := 26) (aux := 0) lk_X1_87 rfl rfl rfl ?_
  refine ct_zwt C (pc := 29) (aux := 0) rfl rfl (fun h3 => ?_)
  exact ct_zret C (pc := 30) (aux := 0) (ins := .return_) (ρ := (fun r : ct_H => ((none : Option ct_PV), r))) none rfl rfl rfl ⟨rfl, rfl⟩
def f_X1_hangTogether (G : ct_G) (h : ct_H) (o : Nat) (a1 : Int) : Option (ct_H) := ct_lt (ct_wr (a1 + (h.1 (G.1 o 0) 3))) fun v1 => (f_X1_isIn G h o a1).bind fun v2 => ct_jn (β := ct_H) (fun k4 => if v2 = 0 then (k4 h) else (f_X1_isIn G h o (ct_wr (a1 + 1))).bind fun v12 => ct_jn (β := ct_H) (fun k14 => if v12 = 0 then (k14 h) else (f_X1_unite G h o a1 (ct_wr (a1 + 1))).bind fun r19 => k14 r19) (fun b13 => (f_X1_isIn G b13 o v1).bind fun v16 => if v16 = 0 then (k4 b13) else (f_X1_unite G b13 o a1 v1).bind fun r17 => k4 r17)) (fun b3 => (f_X0_isJoinedSaddle G b3 (G.1 o 0) a1 (b3.1 o 8)).bind fun v6 => if v6 = 0 then (some b3) else (f_X1_isIn G b3 o a1).bind fun v7 => if v7 = 0 then ((f_X1_unite G b3 o (ct_wr (a1 + 1)) v1).bind fun r8 => some r8) else (f_X1_unite G b3 o a1 (ct_wr (v1 + 1))).bind fun r9 => some r9)
set_option maxRecDepth 100000 in
theorem e_X1_hangTogether {d : Nat} {G : ct_G} {h : ct_H} (o : Nat) (a1 : Int) : ct_E m_X1_hangTogether (d + 2) G (ct_args 0 [.inr (.inr (1, o)), .inl a1]) h (fun r : ct_H => ((none : Option ct_PV), r)) (f_X1_hangTogether G h o a1) := by
  intro x C
  unfold f_X1_hangTogether
  show ct_Z x m_X1_hangTogether G 0 [(0, .inr (.inr (1, o))), (1, .inl a1)] [] h (fun a => ct_q x G ((fun r : ct_H => ((none : Option ct_PV), r)) a)) _
  refine ct_zrun C (k' := 6) (y := ([(2, .inl (ct_wr (a1 + (h.1 (G.1 o 0) 3)))), (0, .inr (.inr (1, o))), (1, .inl a1)], [], h)) 6 rfl rfl rfl ?_
  refine ct_zlet (L := fun v1 => [(2, .inl v1), (0, .inr (.inr (1, o))), (1, .inl a1)]) (S := fun _ => []) (Hh := fun _ => h) (a := (ct_wr (a1 + (h.1 (G.1 o 0) 3)))) (fun v1 => ?_)
  refine ct_zrun C (k' := 8) (y := ([(2, .inl v1), (0, .inr (.inr (1, o))), (1, .inl a1)], [.inl a1, .inr (.inr (1, o))], h)) 2 rfl rfl rfl ?_
  refine ct_zV C (pc := 12) (aux := 0) [.inl a1] [] ok_X1_isIn lk_X1_65 (e_X1_isIn o a1) rfl rfl rfl rfl rfl rfl rfl rfl (fun v2 => ?_)
  refine ct_zjn (β := ct_H) (kJ := 30) (L := fun b3 => [(0, .inr (.inr (1, o))), (1, .inl a1), (2, .inl v1)]) (S := fun b3 => []) (Hh := fun b3 => b3) (fun b3 => ?_) (fun k4 z5 => ?_)
  · refine ct_zrun C (k' := 35) (y := ([(0, .inr (.inr (1, o))), (1, .inl a1), (2, .inl v1)], [.inl (b3.1 o 8), .inl a1, .inr (.inr (0, (G.1 o 0)))], b3)) 5 rfl rfl rfl ?_
    refine ct_zV C (pc := 59) (aux := 0) [.inl a1, .inl (b3.1 o 8)] [] ok_X0_isJoinedSaddle lk_X1_73 (e_X0_isJoinedSaddle (G.1 o 0) a1 (b3.1 o 8)) rfl rfl rfl rfl rfl rfl rfl rfl (fun v6 => ?_)
    refine ct_zt0 C (pc := 62) (aux := 0) (cn := .eq) (off := 30) (k' := 54) (a := v6) Iff.rfl rfl rfl rfl (fun e11 => ?_) (fun e11 => ?_)
    · exact ct_zret C (pc := 92) (aux := 0) (ins := .return_) (ρ := (fun r : ct_H => ((none : Option ct_PV), r))) none rfl rfl rfl ⟨rfl, rfl⟩
    · refine ct_zrun C (k' := 39) (y := ([(0, .inr (.inr (1, o))), (1, .inl a1), (2, .inl v1)], [.inl a1, .inr (.inr (1, o))], b3)) 2 rfl rfl rfl ?_
      refine ct_zV C (pc := 67) (aux := 0) [.inl a1] [] ok_X1_isIn lk_X1_65 (e_X1_isIn o a1) rfl rfl rfl rfl rfl rfl rfl rfl (fun v7 => ?_)
      refine ct_zt0 C (pc := 70) (aux := 0) (cn := .eq) (off := 14) (k' := 48) (a := v7) Iff.rfl rfl rfl rfl (fun e10 => ?_) (fun e10 => ?_)
      · refine ct_zrun C (k' := 53) (y := ([(0, .inr (.inr (1, o))), (1, .inl a1), (2, .inl v1)], [.inl v1, .inl (ct_wr (a1 + 1)), .inr (.inr (1, o))], b3)) 5 rfl rfl rfl ?_
        refine ct_zV C (pc := 89) (aux := 0) [.inl (ct_wr (a1 + 1)), .inl v1] [] ok_X1_unite lk_X1_69 (e_X1_unite o (ct_wr (a1 + 1)) v1) rfl rfl rfl rfl rfl rfl rfl rfl (fun r8 => ?_)
        exact ct_zret C (pc := 92) (aux := 0) (ins := .return_) (ρ := (fun r : ct_H => ((none : Option ct_PV), r))) none rfl rfl rfl ⟨rfl, rfl⟩
      · refine ct_zrun C (k' := 46) (y := ([(0, .inr (.inr (1, o))), (1, .inl a1), (2, .inl v1)], [.inl (ct_wr (v1 + 1)), .inl a1, .inr (.inr (1, o))], b3)) 5 rfl rfl rfl ?_
        refine ct_zV C (pc := 78) (aux := 0) [.inl a1, .inl (ct_wr (v1 + 1))] [] ok_X1_unite lk_X1_69 (e_X1_unite o a1 (ct_wr (v1 + 1))) rfl rfl rfl rfl rfl rfl rfl rfl (fun r9 => ?_)
        refine ct_zgoto C (pc := 81) (aux := 0) (off := 11) (k' := 54) rfl rfl ?_
        exact ct_zret C (pc := 92) (aux := 0) (ins := .return_) (ρ := (fun r : ct_H => ((none : Option ct_PV), r))) none rfl rfl rfl ⟨rfl, rfl⟩
  · refine ct_zt0 C (pc := 15) (aux := 0) (cn := .eq) (off := 35) (k' := 30) (a := v2) Iff.rfl rfl rfl rfl (fun e21 => ?_) (fun e21 => ?_)
    · exact ct_zsub [1, 2, 0] rfl (z5 h)
    · refine ct_zrun C (k' := 14) (y := ([(2, .inl v1), (0, .inr (.inr (1, o))), (1, .inl a1)], [.inl (ct_wr (a1 + 1)), .inr (.inr (1, o))], h)) 4 rfl rfl rfl ?_
      refine ct_zV C (pc := 22) (aux := 0) [.inl (ct_wr (a1 + 1))] [] ok_X1_isIn lk_X1_65 (e_X1_isIn o (ct_wr (a1 + 1))) rfl rfl rfl rfl rfl rfl rfl rfl (fun v12 => ?_)
      refine ct_zjn (β := ct_H) (kJ := 22) (L := fun b13 => [(0, .inr (.inr (1, o))), (1, .inl a1), (2, .inl v1)]) (S := fun b13 => []) (Hh := fun b13 => b13) (fun b13 => ?_) (fun k14 z15 => ?_)
      · refine ct_zrun C (k' := 24) (y := ([(0, .inr (.inr (1, o))), (1, .inl a1), (2, .inl v1)], [.inl v1, .inr (.inr (1, o))], b13)) 2 rfl rfl rfl ?_
        refine ct_zV C (pc := 38) (aux := 0) [.inl v1] [] ok_X1_isIn lk_X1_65 (e_X1_isIn o v1) rfl rfl rfl rfl rfl rfl rfl rfl (fun v16 => ?_)
        refine ct_zt0 C (pc := 41) (aux := 0) (cn := .eq) (off := 9) (k' := 30) (a := v16) Iff.rfl rfl rfl rfl (fun e18 => ?_) (fun e18 => ?_)
        · exact ct_zsub [0, 1, 2] rfl (z5 b13)
        · refine ct_zrun C (k' := 29) (y := ([(0, .inr (.inr (1, o))), (1, .inl a1), (2, .inl v1)], [.inl v1, .inl a1, .inr (.inr (1, o))], b13)) 3 rfl rfl rfl ?_
          refine ct_zV C (pc := 47) (aux := 0) [.inl a1, .inl v1] [] ok_X1_unite lk_X1_69 (e_X1_unite o a1 v1) rfl rfl rfl rfl rfl rfl rfl rfl (fun r17 => ?_)
          exact ct_zsub [0, 1, 2] rfl (z5 r17)
      · refine ct_zt0 C (pc := 25) (aux := 0) (cn := .eq) (off := 11) (k' := 22) (a := v12) Iff.rfl rfl rfl rfl (fun e20 => ?_) (fun e20 => ?_)
        · exact ct_zsub [1, 2, 0] rfl (z15 h)
        · refine ct_zrun C (k' := 21) (y := ([(2, .inl v1), (0, .inr (.inr (1, o))), (1, .inl a1)], [.inl (ct_wr (a1 + 1)), .inl a1, .inr (.inr (1, o))], h)) 5 rfl rfl rfl ?_
          refine ct_zV C (pc := 33) (aux := 0) [.inl a1, .inl (ct_wr (a1 + 1))] [] ok_X1_unite lk_X1_69 (e_X1_unite o a1 (ct_wr (a1 + 1))) rfl rfl rfl rfl rfl rfl rfl rfl (fun r19 => ?_)
          exact ct_zsub [1, 2, 0] rfl (z15 r19)
def l_X1_numberLands_5 (G : ct_G) (o : Nat) : Nat → (Int × ct_H) → Option (ct_H)
  | 0, _ => none
  | n3 + 1, b2 => if (b2.2.1 (G.1 o 0) 4) ≤ b2.1 then (some (b2.2)) else (f_X1_rootOf G b2.2 o b2.1).bind fun v4 => (f_X1_isIn G b2.2 o b2.1).bind fun v5 => ct_jn (β := ct_H) (fun k7 => if v5 = 0 then ((ct_wt G b2.2 (G.1 o 2) b2.1 (-5)).bind fun h23 => k7 h23) else if v4 = b2.1 then ((ct_wt G b2.2 (G.1 o 2) b2.1 (b2.2.1 o 7)).bind fun h16 => (ct_wt G h16 (G.1 o 3) (h16.1 o 7) b2.1).bind fun h17 => (ct_wt G h17 (G.1 o 4) (h17.1 o 7) 1).bind fun h18 => (ct_rd G h18 (G.1 (G.1 o 0) 0) b2.1).bind fun v19 => (ct_wt G h18 (G.1 o 5) (h18.1 o 7) v19).bind fun h20 => ct_lt (ct_wF h20 o 7 (ct_wr ((h20.1 o 7) + 1))) fun h21 => k7 h21) else (ct_rd G b2.2 (G.1 o 2) v4).bind fun v9 => (ct_wt G b2.2 (G.1 o 2) b2.1 v9).bind fun h10 => (ct_rd G h10 (G.1 o 4) v9).bind fun v11 => (ct_wt G h10 (G.1 o 4) v9 (ct_wr (v11 + 1))).bind fun h12 => (ct_rd G h12 (G.1 o 5) v9).bind fun v13 => (ct_rd G h12 (G.1 (G.1 o 0) 0) b2.1).bind fun v14 => (ct_wt G h12 (G.1 o 5) v9 (ct_max v13 v14)).bind fun h15 => k7 h15) (fun b6 => l_X1_numberLands_5 G o n3 ((ct_wr (b2.1 + 1)), b6))
set_option maxRecDepth 100000 in
theorem zl_X1_numberLands_5 {x : ct_Ctx} {d : Nat} {G : ct_G} (C : ct_c x m_X1_numberLands G (d + 1)) (o : Nat) : ∀ (n3 : Nat) (b2 : Int × ct_H), ct_Z x m_X1_numberLands G 5 [(0, .inr (.inr (1, o))), (1, .inl (b2.1))] [] b2.2 (fun a => ct_q x G ((fun r : ct_H => ((none : Option ct_PV), r)) a)) (l_X1_numberLands_5 G o n3 b2) := by
  intro n3
  induction n3 with
  | zero => intro b2; exact ct_znone
  | succ n3 ih =>
    intro b2
    rw [l_X1_numberLands_5]
    refine ct_zrun C (k' := 9) (y := ([(0, .inr (.inr (1, o))), (1, .inl (b2.1))], [.inl (b2.2.1 (G.1 o 0) 4), .inl (b2.1)], b2.2)) 4 rfl rfl rfl ?_
    refine ct_zt C (pc := 15) (aux := 0) (cn := .ge) (off := 148) (k' := 96) (a := b2.1) (b := (b2.2.1 (G.1 o 0) 4)) Iff.rfl rfl rfl rfl (fun e25 => ?_) (fun e25 => ?_)
    · exact ct_zret C (pc := 163) (aux := 0) (ins := .return_) (ρ := (fun r : ct_H => ((none : Option ct_PV), r))) none rfl rfl rfl ⟨rfl, rfl⟩
    · refine ct_zrun C (k' := 12) (y := ([(0, .inr (.inr (1, o))), (1, .inl (b2.1))], [.inl (b2.1), .inr (.inr (1, o))], b2.2)) 2 rfl rfl rfl ?_
      refine ct_zV C (pc := 20) (aux := 0) [.inl (b2.1)] [] ok_X1_rootOf lk_X1_77 (e_X1_rootOf o (b2.1)) rfl rfl rfl rfl rfl rfl rfl rfl (fun v4 => ?_)
      refine ct_zrun C (k' := 16) (y := ([(2, .inl v4), (0, .inr (.inr (1, o))), (1, .inl (b2.1))], [.inl (b2.1), .inr (.inr (1, o))], b2.2)) 3 rfl rfl rfl ?_
      refine ct_zV C (pc := 26) (aux := 0) [.inl (b2.1)] [] ok_X1_isIn lk_X1_65 (e_X1_isIn o (b2.1)) rfl rfl rfl rfl rfl rfl rfl rfl (fun v5 => ?_)
      refine ct_zjn (β := ct_H) (kJ := 94) (L := fun b6 => [(0, .inr (.inr (1, o))), (1, .inl (b2.1))]) (S := fun b6 => []) (Hh := fun b6 => b6) (fun b6 => ?_) (fun k7 z8 => ?_)
      · refine ct_zrun C (k' := 95) (y := ([(1, .inl (ct_wr (b2.1 + 1))), (0, .inr (.inr (1, o)))], [], b6)) 1 rfl rfl rfl ?_
        refine ct_zgoto C (pc := 160) (aux := 0) (off := (-153)) (k' := 5) rfl rfl ?_
        exact ct_zsub [1, 0] rfl (ih ((ct_wr (b2.1 + 1)), b6))
      · refine ct_zf0 C (pc := 29) (aux := 0) (cn := .ne) (off := 14) (k' := 24) (a := v5) Iff.rfl rfl rfl rfl (fun e24 => ?_) (fun e24 => ?_)
        · refine ct_zrun C (k' := 22) (y := ([(2, .inl v4), (0, .inr (.inr (1, o))), (1, .inl (b2.1))], [.inl (-5), .inl (b2.1), .inr (.inr (8, (G.1 o 2)))], b2.2)) 4 rfl rfl rfl ?_
          refine ct_zwt C (pc := 39) (aux := 0) rfl rfl (fun h23 => ?_)
          refine ct_zgoto C (pc := 40) (aux := 0) (off := 117) (k' := 94) rfl rfl ?_
          exact ct_zsub [1, 2] rfl (z8 h23)
        · refine ct_zrun C (k' := 26) (y := ([(2, .inl v4), (0, .inr (.inr (1, o))), (1, .inl (b2.1))], [.inl (b2.1), .inl v4], b2.2)) 2 rfl rfl rfl ?_
          refine ct_zf C (pc := 45) (aux := 0) (cn := .ne) (off := 64) (k' := 62) (a := v4) (b := b2.1) Iff.rfl rfl rfl rfl (fun e22 => ?_) (fun e22 => ?_)
          · refine ct_zrun C (k' := 32) (y := ([(2, .inl v4), (0, .inr (.inr (1, o))), (1, .inl (b2.1))], [.inl (b2.2.1 o 7), .inl (b2.1), .inr (.inr (8, (G.1 o 2)))], b2.2)) 5 rfl rfl rfl ?_
            refine ct_zwt C (pc := 57) (aux := 0) rfl rfl (fun h16 => ?_)
            refine ct_zrun C (k' := 38) (y := ([(2, .inl v4), (0, .inr (.inr (1, o))), (1, .inl (b2.1))], [.inl (b2.1), .inl (h16.1 o 7), .inr (.inr (8, (G.1 o 3)))], h16)) 5 rfl rfl rfl ?_
            refine ct_zwt C (pc := 67) (aux := 0) rfl rfl (fun h17 => ?_)
            refine ct_zrun C (k' := 44) (y := ([(2, .inl v4), (0, .inr (.inr (1, o))), (1, .inl (b2.1))], [.inl 1, .inl (h17.1 o 7), .inr (.inr (8, (G.1 o 4)))], h17)) 5 rfl rfl rfl ?_
            refine ct_zwt C (pc := 77) (aux := 0) rfl rfl (fun h18 => ?_)
            refine ct_zrun C (k' := 53) (y := ([(2, .inl v4), (0, .inr (.inr (1, o))), (1, .inl (b2.1))], [.inl (b2.1), .inr (.inr (8, (G.1 (G.1 o 0) 0))), .inl (h18.1 o 7), .inr (.inr (8, (G.1 o 5)))], h18)) 8 rfl rfl rfl ?_
            refine ct_zrd C (pc := 94) (aux := 0) (ins := .iaload) (cd := 8) rfl rfl (Or.inl ⟨rfl, rfl⟩) (fun v19 => ?_)
            refine ct_zwt C (pc := 95) (aux := 0) rfl rfl (fun h20 => ?_)
            refine ct_zrun C (k' := 61) (y := ([(2, .inl v4), (0, .inr (.inr (1, o))), (1, .inl (b2.1))], [], (ct_wF h20 o 7 (ct_wr ((h20.1 o 7) + 1))))) 6 rfl rfl rfl ?_
            refine ct_zlet (L := fun _ => [(2, .inl v4), (0, .inr (.inr (1, o))), (1, .inl (b2.1))]) (S := fun _ => []) (Hh := fun h21 => h21) (a := (ct_wF h20 o 7 (ct_wr ((h20.1 o 7) + 1)))) (fun h21 => ?_)
            refine ct_zgoto C (pc := 106) (aux := 0) (off := 51) (k' := 94) rfl rfl ?_
            exact ct_zsub [1, 2] rfl (z8 h21)
          · refine ct_zrun C (k' := 65) (y := ([(2, .inl v4), (0, .inr (.inr (1, o))), (1, .inl (b2.1))], [.inl v4, .inr (.inr (8, (G.1 o 2)))], b2.2)) 3 rfl rfl rfl ?_
            refine ct_zrd C (pc := 114) (aux := 0) (ins := .iaload) (cd := 8) rfl rfl (Or.inl ⟨rfl, rfl⟩) (fun v9 => ?_)
            refine ct_zrun C (k' := 71) (y := ([(3, .inl v9), (2, .inl v4), (0, .inr (.inr (1, o))), (1, .inl (b2.1))], [.inl v9, .inl (b2.1), .inr (.inr (8, (G.1 o 2)))], b2.2)) 5 rfl rfl rfl ?_
            refine ct_zwt C (pc := 122) (aux := 0) rfl rfl (fun h10 => ?_)
            refine ct_zrun C (k' := 76) (y := ([(3, .inl v9), (2, .inl v4), (0, .inr (.inr (1, o))), (1, .inl (b2.1))], [.inl v9, .inr (.inr (8, (G.1 o 4))), .inl v9, .inr (.inr (8, (G.1 o 4)))], h10)) 4 rfl rfl rfl ?_
            refine ct_zrd C (pc := 129) (aux := 0) (ins := .iaload) (cd := 8) rfl rfl (Or.inl ⟨rfl, rfl⟩) (fun v11 => ?_)
            refine ct_zrun C (k' := 79) (y := ([(3, .inl v9), (2, .inl v4), (0, .inr (.inr (1, o))), (1, .inl (b2.1))], [.inl (ct_wr (v11 + 1)), .inl v9, .inr (.inr (8, (G.1 o 4)))], h10)) 2 rfl rfl rfl ?_
            refine ct_zwt C (pc := 132) (aux := 0) rfl rfl (fun h12 => ?_)
            refine ct_zrun C (k' := 86) (y := ([(3, .inl v9), (2, .inl v4), (0, .inr (.inr (1, o))), (1, .inl (b2.1))], [.inl v9, .inr (.inr (8, (G.1 o 5))), .inl v9, .inr (.inr (8, (G.1 o 5)))], h12)) 6 rfl rfl rfl ?_
            refine ct_zrd C (pc := 143) (aux := 0) (ins := .iaload) (cd := 8) rfl rfl (Or.inl ⟨rfl, rfl⟩) (fun v13 => ?_)
            refine ct_zrun C (k' := 91) (y := ([(3, .inl v9), (2, .inl v4), (0, .inr (.inr (1, o))), (1, .inl (b2.1))], [.inl (b2.1), .inr (.inr (8, (G.1 (G.1 o 0) 0))), .inl v13, .inl v9, .inr (.inr (8, (G.1 o 5)))], h12)) 4 rfl rfl rfl ?_
            refine ct_zrd C (pc := 152) (aux := 0) (ins := .iaload) (cd := 8) rfl rfl (Or.inl ⟨rfl, rfl⟩) (fun v14 => ?_)
            refine ct_zmax C (pc := 153) (aux := 0) lk_X1_81 rfl rfl rfl ?_
            refine ct_zwt C (pc := 156) (aux := 0) rfl rfl (fun h15 => ?_)
            exact ct_zsub [2, 3] rfl (z8 h15)
def f_X1_numberLands (G : ct_G) (h : ct_H) (o : Nat) : Option (ct_H) := ct_lt (ct_wF h o 7 0) fun h1 => l_X1_numberLands_5 G o 200 (0, h1)
set_option maxRecDepth 100000 in
theorem e_X1_numberLands {d : Nat} {G : ct_G} {h : ct_H} (o : Nat) : ct_E m_X1_numberLands (d + 1) G (ct_args 0 [.inr (.inr (1, o))]) h (fun r : ct_H => ((none : Option ct_PV), r)) (f_X1_numberLands G h o) := by
  intro x C
  unfold f_X1_numberLands
  show ct_Z x m_X1_numberLands G 0 [(0, .inr (.inr (1, o)))] [] h (fun a => ct_q x G ((fun r : ct_H => ((none : Option ct_PV), r)) a)) _
  refine ct_zrun C (k' := 3) (y := ([(0, .inr (.inr (1, o)))], [], (ct_wF h o 7 0))) 3 rfl rfl rfl ?_
  refine ct_zlet (L := fun _ => [(0, .inr (.inr (1, o)))]) (S := fun _ => []) (Hh := fun h1 => h1) (a := (ct_wF h o 7 0)) (fun h1 => ?_)
  refine ct_zrun C (k' := 5) (y := ([(1, .inl 0), (0, .inr (.inr (1, o)))], [], h1)) 2 rfl rfl rfl ?_
  exact ct_zsub [1, 0] rfl (zl_X1_numberLands_5 C o 200 (0, h1))
def l_X1_find_21 (G : ct_G) (o : Nat) (k8 : ct_H → Option (ct_H)) : Nat → (Int × ct_H) → Option (ct_H)
  | 0, _ => none
  | n7 + 1, b6 => if (b6.2.1 (G.1 o 0) 4) ≤ b6.1 then (k8 (b6.2)) else (ct_wt G b6.2 (G.1 o 1) b6.1 b6.1).bind fun h11 => l_X1_find_21 G o k8 n7 ((ct_wr (b6.1 + 1)), h11)
set_option maxRecDepth 100000 in
theorem zl_X1_find_21 {x : ct_Ctx} {d : Nat} {G : ct_G} (C : ct_c x m_X1_find G (d + 3)) (o : Nat) (k8 : ct_H → Option (ct_H)) (z9 : ∀ b10 : ct_H, ct_Z x m_X1_find G 33 [(0, .inr (.inr (1, o)))] [] b10 (fun a => ct_q x G ((fun r : ct_H => ((none : Option ct_PV), r)) a)) (k8 b10)) : ∀ (n7 : Nat) (b6 : Int × ct_H), ct_Z x m_X1_find G 21 [(0, .inr (.inr (1, o))), (2, .inl (b6.1))] [] b6.2 (fun a => ct_q x G ((fun r : ct_H => ((none : Option ct_PV), r)) a)) (l_X1_find_21 G o k8 n7 b6) := by
  intro n7
  induction n7 with
  | zero => intro b6; exact ct_znone
  | succ n7 ih =>
    intro b6
    rw [l_X1_find_21]
    refine ct_zrun C (k' := 25) (y := ([(0, .inr (.inr (1, o))), (2, .inl (b6.1))], [.inl (b6.2.1 (G.1 o 0) 4), .inl (b6.1)], b6.2)) 4 rfl rfl rfl ?_
    refine ct_zt C (pc := 49) (aux := 0) (cn := .ge) (off := 16) (k' := 33) (a := b6.1) (b := (b6.2.1 (G.1 o 0) 4)) Iff.rfl rfl rfl rfl (fun e12 => ?_) (fun e12 => ?_)
    · exact ct_zsub [0] rfl (z9 (b6.2))
    · refine ct_zrun C (k' := 30) (y := ([(0, .inr (.inr (1, o))), (2, .inl (b6.1))], [.inl (b6.1), .inl (b6.1), .inr (.inr (8, (G.1 o 1)))], b6.2)) 4 rfl rfl rfl ?_
      refine ct_zwt C (pc := 58) (aux := 0) rfl rfl (fun h11 => ?_)
      refine ct_zrun C (k' := 32) (y := ([(2, .inl (ct_wr (b6.1 + 1))), (0, .inr (.inr (1, o)))], [], h11)) 1 rfl rfl rfl ?_
      refine ct_zgoto C (pc := 62) (aux := 0) (off := (-21)) (k' := 21) rfl rfl ?_
      exact ct_zsub [1, 0] rfl (ih ((ct_wr (b6.1 + 1)), h11))
def l_X1_find_45 (G : ct_G) (o : Nat) (v14 : Int) (k17 : ct_H → Option (ct_H)) : Nat → (Int × ct_H) → Option (ct_H)
  | 0, _ => none
  | n16 + 1, b15 => if v14 ≤ b15.1 then (k17 (b15.2)) else (f_X1_hangTogether G b15.2 o b15.1).bind fun r20 => l_X1_find_45 G o v14 k17 n16 ((ct_wr (b15.1 + 1)), r20)
set_option maxRecDepth 100000 in
theorem zl_X1_find_45 {x : ct_Ctx} {d : Nat} {G : ct_G} (C : ct_c x m_X1_find G (d + 3)) (o : Nat) (v14 : Int) (k17 : ct_H → Option (ct_H)) (z18 : ∀ b19 : ct_H, ct_Z x m_X1_find G 53 [(0, .inr (.inr (1, o)))] [] b19 (fun a => ct_q x G ((fun r : ct_H => ((none : Option ct_PV), r)) a)) (k17 b19)) : ∀ (n16 : Nat) (b15 : Int × ct_H), ct_Z x m_X1_find G 45 [(0, .inr (.inr (1, o))), (2, .inl v14), (3, .inl (b15.1))] [] b15.2 (fun a => ct_q x G ((fun r : ct_H => ((none : Option ct_PV), r)) a)) (l_X1_find_45 G o v14 k17 n16 b15) := by
  intro n16
  induction n16 with
  | zero => intro b15; exact ct_znone
  | succ n16 ih =>
    intro b15
    rw [l_X1_find_45]
    refine ct_zrun C (k' := 47) (y := ([(0, .inr (.inr (1, o))), (2, .inl v14), (3, .inl (b15.1))], [.inl v14, .inl (b15.1)], b15.2)) 2 rfl rfl rfl ?_
    refine ct_zt C (pc := 87) (aux := 0) (cn := .ge) (off := 14) (k' := 53) (a := b15.1) (b := v14) Iff.rfl rfl rfl rfl (fun e21 => ?_) (fun e21 => ?_)
    · exact ct_zsub [0] rfl (z18 (b15.2))
    · refine ct_zrun C (k' := 50) (y := ([(0, .inr (.inr (1, o))), (2, .inl v14), (3, .inl (b15.1))], [.inl (b15.1), .inr (.inr (1, o))], b15.2)) 2 rfl rfl rfl ?_
      refine ct_zV C (pc := 92) (aux := 0) [.inl (b15.1)] [] ok_X1_hangTogether lk_X1_55 (e_X1_hangTogether o (b15.1)) rfl rfl rfl rfl rfl rfl rfl rfl (fun r20 => ?_)
      refine ct_zrun C (k' := 52) (y := ([(3, .inl (ct_wr (b15.1 + 1))), (0, .inr (.inr (1, o))), (2, .inl v14)], [], r20)) 1 rfl rfl rfl ?_
      refine ct_zgoto C (pc := 98) (aux := 0) (off := (-13)) (k' := 45) rfl rfl ?_
      exact ct_zsub [1, 2, 0] rfl (ih ((ct_wr (b15.1 + 1)), r20))
def f_X1_find (G : ct_G) (h : ct_H) (o : Nat) (a1 : Int) : Option (ct_H) := ct_jn (β := Unit) (fun k2 => if (h.1 o 8) = a1 then (if (h.1 o 9) = (h.1 (G.1 o 0) 6) then (some h) else k2 ()) else k2 ()) (fun b1 => ct_lt (ct_wF h o 8 a1) fun h4 => ct_lt (ct_wF h4 o 9 (h4.1 (G.1 o 0) 6)) fun h5 => l_X1_find_21 G o (fun b13 => ct_lt (ct_wr ((ct_wr ((b13.1 (G.1 o 0) 4) - (b13.1 (G.1 o 0) 3))) - 1)) fun v14 => l_X1_find_45 G o v14 (fun b22 => (f_X1_numberLands G b22 o).bind fun r23 => some r23) 200 (0, b13)) 200 (0, h5))
set_option maxRecDepth 100000 in
theorem e_X1_find {d : Nat} {G : ct_G} {h : ct_H} (o : Nat) (a1 : Int) : ct_E m_X1_find (d + 3) G (ct_args 0 [.inr (.inr (1, o)), .inl a1]) h (fun r : ct_H => ((none : Option ct_PV), r)) (f_X1_find G h o a1) := by
  intro x C
  unfold f_X1_find
  show ct_Z x m_X1_find G 0 [(0, .inr (.inr (1, o))), (1, .inl a1)] [] h (fun a => ct_q x G ((fun r : ct_H => ((none : Option ct_PV), r)) a)) _
  refine ct_zrun C (k' := 3) (y := ([(0, .inr (.inr (1, o))), (1, .inl a1)], [.inl a1, .inl (h.1 o 8)], h)) 3 rfl rfl rfl ?_
  refine ct_zjn (β := Unit) (kJ := 11) (L := fun b1 => [(0, .inr (.inr (1, o))), (1, .inl a1)]) (S := fun b1 => []) (Hh := fun b1 => h) (fun b1 => ?_) (fun k2 z3 => ?_)
  · refine ct_zrun C (k' := 14) (y := ([(0, .inr (.inr (1, o))), (1, .inl a1)], [], (ct_wF h o 8 a1))) 3 rfl rfl rfl ?_
    refine ct_zlet (L := fun _ => [(0, .inr (.inr (1, o))), (1, .inl a1)]) (S := fun _ => []) (Hh := fun h4 => h4) (a := (ct_wF h o 8 a1)) (fun h4 => ?_)
    refine ct_zrun C (k' := 19) (y := ([(0, .inr (.inr (1, o))), (1, .inl a1)], [], (ct_wF h4 o 9 (h4.1 (G.1 o 0) 6)))) 5 rfl rfl rfl ?_
    refine ct_zlet (L := fun _ => [(0, .inr (.inr (1, o))), (1, .inl a1)]) (S := fun _ => []) (Hh := fun h5 => h5) (a := (ct_wF h4 o 9 (h4.1 (G.1 o 0) 6))) (fun h5 => ?_)
    refine ct_zrun C (k' := 21) (y := ([(2, .inl 0), (0, .inr (.inr (1, o))), (1, .inl a1)], [], h5)) 2 rfl rfl rfl ?_
    refine ct_zsub [1, 0] rfl (zl_X1_find_21 C o _ (fun b13 => ?_) 200 (0, h5))
    refine ct_zrun C (k' := 43) (y := ([(2, .inl (ct_wr ((ct_wr ((b13.1 (G.1 o 0) 4) - (b13.1 (G.1 o 0) 3))) - 1))), (0, .inr (.inr (1, o)))], [], b13)) 10 rfl rfl rfl ?_
    refine ct_zlet (L := fun v14 => [(2, .inl v14), (0, .inr (.inr (1, o)))]) (S := fun _ => []) (Hh := fun _ => b13) (a := (ct_wr ((ct_wr ((b13.1 (G.1 o 0) 4) - (b13.1 (G.1 o 0) 3))) - 1))) (fun v14 => ?_)
    refine ct_zrun C (k' := 45) (y := ([(3, .inl 0), (2, .inl v14), (0, .inr (.inr (1, o)))], [], b13)) 2 rfl rfl rfl ?_
    refine ct_zsub [2, 1, 0] rfl (zl_X1_find_45 C o v14 _ (fun b22 => ?_) 200 (0, b13))
    refine ct_zrun C (k' := 54) (y := ([(0, .inr (.inr (1, o)))], [.inr (.inr (1, o))], b22)) 1 rfl rfl rfl ?_
    refine ct_zV C (pc := 102) (aux := 0) [] [] ok_X1_numberLands lk_X1_59 (e_X1_numberLands o) rfl rfl rfl rfl rfl rfl rfl rfl (fun r23 => ?_)
    exact ct_zret C (pc := 105) (aux := 0) (ins := .return_) (ρ := (fun r : ct_H => ((none : Option ct_PV), r))) none rfl rfl rfl ⟨rfl, rfl⟩
  · refine ct_zf C (pc := 5) (aux := 0) (cn := .ne) (off := 18) (k' := 11) (a := (h.1 o 8)) (b := a1) Iff.rfl rfl rfl rfl (fun e25 => ?_) (fun e25 => ?_)
    · refine ct_zrun C (k' := 9) (y := ([(0, .inr (.inr (1, o))), (1, .inl a1)], [.inl (h.1 (G.1 o 0) 6), .inl (h.1 o 9)], h)) 5 rfl rfl rfl ?_
      refine ct_zf C (pc := 19) (aux := 0) (cn := .ne) (off := 4) (k' := 11) (a := (h.1 o 9)) (b := (h.1 (G.1 o 0) 6)) Iff.rfl rfl rfl rfl (fun e24 => ?_) (fun e24 => ?_)
      · exact ct_zret C (pc := 22) (aux := 0) (ins := .return_) (ρ := (fun r : ct_H => ((none : Option ct_PV), r))) none rfl rfl rfl ⟨rfl, rfl⟩
      · exact ct_zsub [0, 1] rfl (z3 ())
    · exact ct_zsub [0, 1] rfl (z3 ())
def f_X1_topAround (G : ct_G) (h : ct_H) (o : Nat) (a1 : Int) : Option (Int) := (ct_rd G h (G.1 o 2) a1).bind fun v1 => if v1 < 0 then ((ct_rd G h (G.1 (G.1 o 0) 0) a1).bind fun v2 => some v2) else (ct_rd G h (G.1 o 5) v1).bind fun v3 => some v3
set_option maxRecDepth 100000 in
theorem e_X1_topAround {d : Nat} {G : ct_G} {h : ct_H} (o : Nat) (a1 : Int) : ct_E m_X1_topAround d G (ct_args 0 [.inr (.inr (1, o)), .inl a1]) h (fun r : Int => (some (.inl r : ct_PV), h)) (f_X1_topAround G h o a1) := by
  intro x C
  unfold f_X1_topAround
  show ct_Z x m_X1_topAround G 0 [(0, .inr (.inr (1, o))), (1, .inl a1)] [] h (fun a => ct_q x G ((fun r : Int => (some (.inl r : ct_PV), h)) a)) _
  refine ct_zrun C (k' := 3) (y := ([(0, .inr (.inr (1, o))), (1, .inl a1)], [.inl a1, .inr (.inr (8, (G.1 o 2)))], h)) 3 rfl rfl rfl ?_
  refine ct_zrd C (pc := 5) (aux := 0) (ins := .iaload) (cd := 8) rfl rfl (Or.inl ⟨rfl, rfl⟩) (fun v1 => ?_)
  refine ct_zrun C (k' := 6) (y := ([(2, .inl v1), (0, .inr (.inr (1, o))), (1, .inl a1)], [.inl v1], h)) 2 rfl rfl rfl ?_
  refine ct_zt0 C (pc := 8) (aux := 0) (cn := .lt) (off := 12) (k' := 12) (a := v1) Iff.rfl rfl rfl rfl (fun e4 => ?_) (fun e4 => ?_)
  · refine ct_zrun C (k' := 16) (y := ([(2, .inl v1), (0, .inr (.inr (1, o))), (1, .inl a1)], [.inl a1, .inr (.inr (8, (G.1 (G.1 o 0) 0)))], h)) 4 rfl rfl rfl ?_
    refine ct_zrd C (pc := 28) (aux := 0) (ins := .iaload) (cd := 8) rfl rfl (Or.inl ⟨rfl, rfl⟩) (fun v2 => ?_)
    exact ct_zret C (pc := 29) (aux := 0) (ins := .ireturn) (ρ := (fun r : Int => (some (.inl r : ct_PV), h))) (some (.inl v2)) rfl rfl rfl ⟨rfl, Or.inl rfl⟩
  · refine ct_zrun C (k' := 10) (y := ([(2, .inl v1), (0, .inr (.inr (1, o))), (1, .inl a1)], [.inl v1, .inr (.inr (8, (G.1 o 5)))], h)) 3 rfl rfl rfl ?_
    refine ct_zrd C (pc := 16) (aux := 0) (ins := .iaload) (cd := 8) rfl rfl (Or.inl ⟨rfl, rfl⟩) (fun v3 => ?_)
    refine ct_zgoto C (pc := 17) (aux := 0) (off := 12) (k' := 17) rfl rfl ?_
    exact ct_zret C (pc := 29) (aux := 0) (ins := .ireturn) (ρ := (fun r : Int => (some (.inl r : ct_PV), h))) (some (.inl v3)) rfl rfl rfl ⟨rfl, Or.inl rfl⟩
def f_X1_clearChildren (G : ct_G) (h : ct_H) (o : Nat) : Option (ct_H) := (f_J7_fill_53178 G h (G.1 o 6) 0).bind fun r1 => some r1
set_option maxRecDepth 100000 in
theorem e_X1_clearChildren {d : Nat} {G : ct_G} {h : ct_H} (o : Nat) : ct_E m_X1_clearChildren (d + 1) G (ct_args 0 [.inr (.inr (1, o))]) h (fun r : ct_H => ((none : Option ct_PV), r)) (f_X1_clearChildren G h o) := by
  intro x C
  unfold f_X1_clearChildren
  show ct_Z x m_X1_clearChildren G 0 [(0, .inr (.inr (1, o)))] [] h (fun a => ct_q x G ((fun r : ct_H => ((none : Option ct_PV), r)) a)) _
  refine ct_zrun C (k' := 3) (y := ([(0, .inr (.inr (1, o)))], [.inl 0, .inr (.inr (8, (G.1 o 6)))], h)) 3 rfl rfl rfl ?_
  refine ct_zS C (pc := 5) (aux := 0) [.inr (.inr (8, (G.1 o 6))), .inl 0] [] ok_J7_fill_53178 lk_X1_90 (e_J7_fill_53178 (G.1 o 6) 0) rfl rfl rfl rfl rfl rfl (fun r1 => ?_)
  exact ct_zret C (pc := 8) (aux := 0) (ins := .return_) (ρ := (fun r : ct_H => ((none : Option ct_PV), r))) none rfl rfl rfl ⟨rfl, rfl⟩
def f_X1_addChild (G : ct_G) (h : ct_H) (o : Nat) (a1 : Int) : Option (ct_H) := (ct_rd G h (G.1 o 2) a1).bind fun v1 => if v1 < 0 then (some h) else (ct_rd G h (G.1 o 6) v1).bind fun v2 => (ct_wt G h (G.1 o 6) v1 (ct_wr (v2 + 1))).bind fun h3 => some h3
set_option maxRecDepth 100000 in
theorem e_X1_addChild {d : Nat} {G : ct_G} {h : ct_H} (o : Nat) (a1 : Int) : ct_E m_X1_addChild d G (ct_args 0 [.inr (.inr (1, o)), .inl a1]) h (fun r : ct_H => ((none : Option ct_PV), r)) (f_X1_addChild G h o a1) := by
  intro x C
  unfold f_X1_addChild
  show ct_Z x m_X1_addChild G 0 [(0, .inr (.inr (1, o))), (1, .inl a1)] [] h (fun a => ct_q x G ((fun r : ct_H => ((none : Option ct_PV), r)) a)) _
  refine ct_zrun C (k' := 3) (y := ([(0, .inr (.inr (1, o))), (1, .inl a1)], [.inl a1, .inr (.inr (8, (G.1 o 2)))], h)) 3 rfl rfl rfl ?_
  refine ct_zrd C (pc := 5) (aux := 0) (ins := .iaload) (cd := 8) rfl rfl (Or.inl ⟨rfl, rfl⟩) (fun v1 => ?_)
  refine ct_zrun C (k' := 6) (y := ([(2, .inl v1), (0, .inr (.inr (1, o))), (1, .inl a1)], [.inl v1], h)) 2 rfl rfl rfl ?_
  refine ct_zt0 C (pc := 8) (aux := 0) (cn := .lt) (off := 13) (k' := 15) (a := v1) Iff.rfl rfl rfl rfl (fun e4 => ?_) (fun e4 => ?_)
  · exact ct_zret C (pc := 21) (aux := 0) (ins := .return_) (ρ := (fun r : ct_H => ((none : Option ct_PV), r))) none rfl rfl rfl ⟨rfl, rfl⟩
  · refine ct_zrun C (k' := 11) (y := ([(2, .inl v1), (0, .inr (.inr (1, o))), (1, .inl a1)], [.inl v1, .inr (.inr (8, (G.1 o 6))), .inl v1, .inr (.inr (8, (G.1 o 6)))], h)) 4 rfl rfl rfl ?_
    refine ct_zrd C (pc := 17) (aux := 0) (ins := .iaload) (cd := 8) rfl rfl (Or.inl ⟨rfl, rfl⟩) (fun v2 => ?_)
    refine ct_zrun C (k' := 14) (y := ([(2, .inl v1), (0, .inr (.inr (1, o))), (1, .inl a1)], [.inl (ct_wr (v2 + 1)), .inl v1, .inr (.inr (8, (G.1 o 6)))], h)) 2 rfl rfl rfl ?_
    refine ct_zwt C (pc := 20) (aux := 0) rfl rfl (fun h3 => ?_)
    exact ct_zret C (pc := 21) (aux := 0) (ins := .return_) (ρ := (fun r : ct_H => ((none : Option ct_PV), r))) none rfl rfl rfl ⟨rfl, rfl⟩
def l_X1_leaves_4 (G : ct_G) (o : Nat) (h : ct_H) : Nat → (Int × Int) → Option (Int)
  | 0, _ => none
  | n2 + 1, b1 => if (h.1 o 7) ≤ b1.2 then (some (b1.1)) else (ct_rd G h (G.1 o 6) b1.2).bind fun v3 => ct_jn (β := Int) (fun k5 => if v3 = 0 then (k5 (ct_wr (b1.1 + 1))) else k5 (b1.1)) (fun b4 => l_X1_leaves_4 G o h n2 (b4, (ct_wr (b1.2 + 1))))
set_option maxRecDepth 100000 in
theorem zl_X1_leaves_4 {x : ct_Ctx} {d : Nat} {G : ct_G} (C : ct_c x m_X1_leaves G d) (o : Nat) (h : ct_H) : ∀ (n2 : Nat) (b1 : Int × Int), ct_Z x m_X1_leaves G 4 [(0, .inr (.inr (1, o))), (1, .inl (b1.1)), (2, .inl (b1.2))] [] h (fun a => ct_q x G ((fun r : Int => (some (.inl r : ct_PV), h)) a)) (l_X1_leaves_4 G o h n2 b1) := by
  intro n2
  induction n2 with
  | zero => intro b1; exact ct_znone
  | succ n2 ih =>
    intro b1
    rw [l_X1_leaves_4]
    refine ct_zrun C (k' := 7) (y := ([(0, .inr (.inr (1, o))), (1, .inl (b1.1)), (2, .inl (b1.2))], [.inl (h.1 o 7), .inl (b1.2)], h)) 3 rfl rfl rfl ?_
    refine ct_zt C (pc := 9) (aux := 0) (cn := .ge) (off := 21) (k' := 16) (a := b1.2) (b := (h.1 o 7)) Iff.rfl rfl rfl rfl (fun e8 => ?_) (fun e8 => ?_)
    · refine ct_zrun C (k' := 17) (y := ([(0, .inr (.inr (1, o))), (1, .inl (b1.1)), (2, .inl (b1.2))], [.inl (b1.1)], h)) 1 rfl rfl rfl ?_
      exact ct_zret C (pc := 31) (aux := 0) (ins := .ireturn) (ρ := (fun r : Int => (some (.inl r : ct_PV), h))) (some (.inl (b1.1))) rfl rfl rfl ⟨rfl, Or.inl rfl⟩
    · refine ct_zrun C (k' := 11) (y := ([(0, .inr (.inr (1, o))), (1, .inl (b1.1)), (2, .inl (b1.2))], [.inl (b1.2), .inr (.inr (8, (G.1 o 6)))], h)) 3 rfl rfl rfl ?_
      refine ct_zrd C (pc := 17) (aux := 0) (ins := .iaload) (cd := 8) rfl rfl (Or.inl ⟨rfl, rfl⟩) (fun v3 => ?_)
      refine ct_zjn (β := Int) (kJ := 14) (L := fun b4 => [(0, .inr (.inr (1, o))), (1, .inl b4), (2, .inl (b1.2))]) (S := fun b4 => []) (Hh := fun b4 => h) (fun b4 => ?_) (fun k5 z6 => ?_)
      · refine ct_zrun C (k' := 15) (y := ([(2, .inl (ct_wr (b1.2 + 1))), (0, .inr (.inr (1, o))), (1, .inl b4)], [], h)) 1 rfl rfl rfl ?_
        refine ct_zgoto C (pc := 27) (aux := 0) (off := (-23)) (k' := 4) rfl rfl ?_
        exact ct_zsub [1, 2, 0] rfl (ih (b4, (ct_wr (b1.2 + 1))))
      · refine ct_zf0 C (pc := 18) (aux := 0) (cn := .ne) (off := 6) (k' := 14) (a := v3) Iff.rfl rfl rfl rfl (fun e7 => ?_) (fun e7 => ?_)
        · refine ct_zrun C (k' := 14) (y := ([(1, .inl (ct_wr (b1.1 + 1))), (0, .inr (.inr (1, o))), (2, .inl (b1.2))], [], h)) 1 rfl rfl rfl ?_
          exact ct_zsub [1, 0, 2] rfl (z6 (ct_wr (b1.1 + 1)))
        · exact ct_zsub [0, 1, 2] rfl (z6 (b1.1))
def f_X1_leaves (G : ct_G) (h : ct_H) (o : Nat) : Option (Int) := l_X1_leaves_4 G o h 200 (0, 0)
set_option maxRecDepth 100000 in
theorem e_X1_leaves {d : Nat} {G : ct_G} {h : ct_H} (o : Nat) : ct_E m_X1_leaves d G (ct_args 0 [.inr (.inr (1, o))]) h (fun r : Int => (some (.inl r : ct_PV), h)) (f_X1_leaves G h o) := by
  intro x C
  unfold f_X1_leaves
  show ct_Z x m_X1_leaves G 0 [(0, .inr (.inr (1, o)))] [] h (fun a => ct_q x G ((fun r : Int => (some (.inl r : ct_PV), h)) a)) _
  refine ct_zrun C (k' := 4) (y := ([(2, .inl 0), (1, .inl 0), (0, .inr (.inr (1, o)))], [], h)) 4 rfl rfl rfl ?_
  exact ct_zsub [2, 1, 0] rfl (zl_X1_leaves_4 C o h 200 (0, 0))
def l_X1_forks_4 (G : ct_G) (o : Nat) (h : ct_H) : Nat → (Int × Int) → Option (Int)
  | 0, _ => none
  | n2 + 1, b1 => if (h.1 o 7) ≤ b1.2 then (some (b1.1)) else (ct_rd G h (G.1 o 6) b1.2).bind fun v3 => ct_jn (β := Int) (fun k5 => if v3 ≤ 1 then (k5 (b1.1)) else k5 (ct_wr (b1.1 + 1))) (fun b4 => l_X1_forks_4 G o h n2 (b4, (ct_wr (b1.2 + 1))))
set_option maxRecDepth 100000 in
theorem zl_X1_forks_4 {x : ct_Ctx} {d : Nat} {G : ct_G} (C : ct_c x m_X1_forks G d) (o : Nat) (h : ct_H) : ∀ (n2 : Nat) (b1 : Int × Int), ct_Z x m_X1_forks G 4 [(0, .inr (.inr (1, o))), (1, .inl (b1.1)), (2, .inl (b1.2))] [] h (fun a => ct_q x G ((fun r : Int => (some (.inl r : ct_PV), h)) a)) (l_X1_forks_4 G o h n2 b1) := by
  intro n2
  induction n2 with
  | zero => intro b1; exact ct_znone
  | succ n2 ih =>
    intro b1
    rw [l_X1_forks_4]
    refine ct_zrun C (k' := 7) (y := ([(0, .inr (.inr (1, o))), (1, .inl (b1.1)), (2, .inl (b1.2))], [.inl (h.1 o 7), .inl (b1.2)], h)) 3 rfl rfl rfl ?_
    refine ct_zt C (pc := 9) (aux := 0) (cn := .ge) (off := 22) (k' := 17) (a := b1.2) (b := (h.1 o 7)) Iff.rfl rfl rfl rfl (fun e8 => ?_) (fun e8 => ?_)
    · refine ct_zrun C (k' := 18) (y := ([(0, .inr (.inr (1, o))), (1, .inl (b1.1)), (2, .inl (b1.2))], [.inl (b1.1)], h)) 1 rfl rfl rfl ?_
      exact ct_zret C (pc := 32) (aux := 0) (ins := .ireturn) (ρ := (fun r : Int => (some (.inl r : ct_PV), h))) (some (.inl (b1.1))) rfl rfl rfl ⟨rfl, Or.inl rfl⟩
    · refine ct_zrun C (k' := 11) (y := ([(0, .inr (.inr (1, o))), (1, .inl (b1.1)), (2, .inl (b1.2))], [.inl (b1.2), .inr (.inr (8, (G.1 o 6)))], h)) 3 rfl rfl rfl ?_
      refine ct_zrd C (pc := 17) (aux := 0) (ins := .iaload) (cd := 8) rfl rfl (Or.inl ⟨rfl, rfl⟩) (fun v3 => ?_)
      refine ct_zrun C (k' := 13) (y := ([(0, .inr (.inr (1, o))), (1, .inl (b1.1)), (2, .inl (b1.2))], [.inl 1, .inl v3], h)) 1 rfl rfl rfl ?_
      refine ct_zjn (β := Int) (kJ := 15) (L := fun b4 => [(0, .inr (.inr (1, o))), (1, .inl b4), (2, .inl (b1.2))]) (S := fun b4 => []) (Hh := fun b4 => h) (fun b4 => ?_) (fun k5 z6 => ?_)
      · refine ct_zrun C (k' := 16) (y := ([(2, .inl (ct_wr (b1.2 + 1))), (0, .inr (.inr (1, o))), (1, .inl b4)], [], h)) 1 rfl rfl rfl ?_
        refine ct_zgoto C (pc := 28) (aux := 0) (off := (-24)) (k' := 4) rfl rfl ?_
        exact ct_zsub [1, 2, 0] rfl (ih (b4, (ct_wr (b1.2 + 1))))
      · refine ct_zt C (pc := 19) (aux := 0) (cn := .le) (off := 6) (k' := 15) (a := v3) (b := 1) Iff.rfl rfl rfl rfl (fun e7 => ?_) (fun e7 => ?_)
        · exact ct_zsub [0, 1, 2] rfl (z6 (b1.1))
        · refine ct_zrun C (k' := 15) (y := ([(1, .inl (ct_wr (b1.1 + 1))), (0, .inr (.inr (1, o))), (2, .inl (b1.2))], [], h)) 1 rfl rfl rfl ?_
          exact ct_zsub [1, 0, 2] rfl (z6 (ct_wr (b1.1 + 1)))
def f_X1_forks (G : ct_G) (h : ct_H) (o : Nat) : Option (Int) := l_X1_forks_4 G o h 200 (0, 0)
set_option maxRecDepth 100000 in
theorem e_X1_forks {d : Nat} {G : ct_G} {h : ct_H} (o : Nat) : ct_E m_X1_forks d G (ct_args 0 [.inr (.inr (1, o))]) h (fun r : Int => (some (.inl r : ct_PV), h)) (f_X1_forks G h o) := by
  intro x C
  unfold f_X1_forks
  show ct_Z x m_X1_forks G 0 [(0, .inr (.inr (1, o)))] [] h (fun a => ct_q x G ((fun r : Int => (some (.inl r : ct_PV), h)) a)) _
  refine ct_zrun C (k' := 4) (y := ([(2, .inl 0), (1, .inl 0), (0, .inr (.inr (1, o)))], [], h)) 4 rfl rfl rfl ?_
  exact ct_zsub [2, 1, 0] rfl (zl_X1_forks_4 C o h 200 (0, 0))
