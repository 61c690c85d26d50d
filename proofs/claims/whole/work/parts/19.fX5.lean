set_option maxRecDepth 100000 in
theorem lk_X5_63 : ct_LkV RX5 63 m_X5_isDigit 0 := ct_LkV_of 490 491 492 (by decide +kernel) (by decide +kernel) (by decide +kernel) (by decide +kernel)
set_option maxRecDepth 100000 in
theorem lk_X5_66 : ct_LkV RX5 66 m_X5_takeDigit 0 := ct_LkV_of 494 495 496 (by decide +kernel) (by decide +kernel) (by decide +kernel) (by decide +kernel)
def f_X5_isFull (G : ct_G) (h : ct_H) (o : Nat) : Option (Int) := if (h.1 o 1) < 100 then (some 0) else some 1
set_option maxRecDepth 100000 in
theorem e_X5_isFull {d : Nat} {G : ct_G} {h : ct_H} (o : Nat) : ct_E m_X5_isFull d G (ct_args 0 [.inr (.inr (5, o))]) h (fun r : Int => (some (.inl r : ct_PV), h)) (f_X5_isFull G h o) := by
  intro x C
  unfold f_X5_isFull
  show ct_Z x m_X5_isFull G 0 [(0, .inr (.inr (5, o)))] [] h (fun a => ct_q x G ((fun r : Int => (some (.inl r : ct_PV), h)) a)) _
  refine ct_zrun C (k' := 3) (y := ([(0, .inr (.inr (5, o)))], [.inl 100, .inl (h.1 o 1)], h)) 3 rfl rfl rfl ?_
  refine ct_zt C (pc := 6) (aux := 0) (cn := .lt) (off := 7) (k' := 6) (a := (h.1 o 1)) (b := 100) Iff.rfl rfl rfl rfl (fun e1 => ?_) (fun e1 => ?_)
  · refine ct_zrun C (k' := 7) (y := ([(0, .inr (.inr (5, o)))], [.inl 0], h)) 1 rfl rfl rfl ?_
    exact ct_zret C (pc := 14) (aux := 0) (ins := .ireturn) (ρ := (fun r : Int => (some (.inl r : ct_PV), h))) (some (.inl 0)) rfl rfl rfl ⟨rfl, Or.inr ⟨rfl, Or.inl rfl⟩⟩
  · refine ct_zrun C (k' := 5) (y := ([(0, .inr (.inr (5, o)))], [.inl 1], h)) 1 rfl rfl rfl ?_
    refine ct_zgoto C (pc := 10) (aux := 0) (off := 4) (k' := 7) rfl rfl ?_
    exact ct_zret C (pc := 14) (aux := 0) (ins := .ireturn) (ρ := (fun r : Int => (some (.inl r : ct_PV), h))) (some (.inl 1)) rfl rfl rfl ⟨rfl, Or.inr ⟨rfl, Or.inr rfl⟩⟩
def f_X5_append (G : ct_G) (h : ct_H) (o : Nat) (a1 : Int) : Option (ct_H) := (ct_wt G h (G.1 o 0) (h.1 o 1) a1).bind fun h1 => ct_lt (ct_wF h1 o 1 (ct_wr ((h1.1 o 1) + 1))) fun h2 => some h2
set_option maxRecDepth 100000 in
theorem e_X5_append {d : Nat} {G : ct_G} {h : ct_H} (o : Nat) (a1 : Int) : ct_E m_X5_append d G (ct_args 0 [.inr (.inr (5, o)), .inl a1]) h (fun r : ct_H => ((none : Option ct_PV), r)) (f_X5_append G h o a1) := by
  intro x C
  unfold f_X5_append
  show ct_Z x m_X5_append G 0 [(0, .inr (.inr (5, o))), (1, .inl a1)] [] h (fun a => ct_q x G ((fun r : ct_H => ((none : Option ct_PV), r)) a)) _
  refine ct_zrun C (k' := 5) (y := ([(0, .inr (.inr (5, o))), (1, .inl a1)], [.inl a1, .inl (h.1 o 1), .inr (.inr (8, (G.1 o 0)))], h)) 5 rfl rfl rfl ?_
  refine ct_zwt C (pc := 9) (aux := 0) rfl rfl (fun h1 => ?_)
  refine ct_zrun C (k' := 12) (y := ([(0, .inr (.inr (5, o))), (1, .inl a1)], [], (ct_wF h1 o 1 (ct_wr ((h1.1 o 1) + 1))))) 6 rfl rfl rfl ?_
  refine ct_zlet (L := fun _ => [(0, .inr (.inr (5, o))), (1, .inl a1)]) (S := fun _ => []) (Hh := fun h2 => h2) (a := (ct_wF h1 o 1 (ct_wr ((h1.1 o 1) + 1)))) (fun h2 => ?_)
  exact ct_zret C (pc := 20) (aux := 0) (ins := .return_) (ρ := (fun r : ct_H => ((none : Option ct_PV), r))) none rfl rfl rfl ⟨rfl, rfl⟩
def f_X5_wordOf (G : ct_G) (h : ct_H) (o : Nat) (a1 : Int) : Option (Int) := (ct_rd G h (G.1 o 2) a1).bind fun v1 => some v1
set_option maxRecDepth 100000 in
theorem e_X5_wordOf {d : Nat} {G : ct_G} {h : ct_H} (o : Nat) (a1 : Int) : ct_E m_X5_wordOf d G (ct_args 0 [.inr (.inr (5, o)), .inl a1]) h (fun r : Int => (some (.inl r : ct_PV), h)) (f_X5_wordOf G h o a1) := by
  intro x C
  unfold f_X5_wordOf
  show ct_Z x m_X5_wordOf G 0 [(0, .inr (.inr (5, o))), (1, .inl a1)] [] h (fun a => ct_q x G ((fun r : Int => (some (.inl r : ct_PV), h)) a)) _
  refine ct_zrun C (k' := 3) (y := ([(0, .inr (.inr (5, o))), (1, .inl a1)], [.inl a1, .inr (.inr (8, (G.1 o 2)))], h)) 3 rfl rfl rfl ?_
  refine ct_zrd C (pc := 5) (aux := 0) (ins := .iaload) (cd := 8) rfl rfl (Or.inl ⟨rfl, rfl⟩) (fun v1 => ?_)
  exact ct_zret C (pc := 6) (aux := 0) (ins := .ireturn) (ρ := (fun r : Int => (some (.inl r : ct_PV), h))) (some (.inl v1)) rfl rfl rfl ⟨rfl, Or.inl rfl⟩
def f_X5_numberOf (G : ct_G) (h : ct_H) (o : Nat) (a1 : Int) (a2 : Int) : Option (Int) := (ct_rd G h (G.1 o 3) (ct_wr ((ct_wr (a1 * 3)) + a2))).bind fun v1 => some v1
set_option maxRecDepth 100000 in
theorem e_X5_numberOf {d : Nat} {G : ct_G} {h : ct_H} (o : Nat) (a1 : Int) (a2 : Int) : ct_E m_X5_numberOf d G (ct_args 0 [.inr (.inr (5, o)), .inl a1, .inl a2]) h (fun r : Int => (some (.inl r : ct_PV), h)) (f_X5_numberOf G h o a1 a2) := by
  intro x C
  unfold f_X5_numberOf
  show ct_Z x m_X5_numberOf G 0 [(0, .inr (.inr (5, o))), (1, .inl a1), (2, .inl a2)] [] h (fun a => ct_q x G ((fun r : Int => (some (.inl r : ct_PV), h)) a)) _
  refine ct_zrun C (k' := 7) (y := ([(0, .inr (.inr (5, o))), (1, .inl a1), (2, .inl a2)], [.inl (ct_wr ((ct_wr (a1 * 3)) + a2)), .inr (.inr (8, (G.1 o 3)))], h)) 7 rfl rfl rfl ?_
  refine ct_zrd C (pc := 9) (aux := 0) (ins := .iaload) (cd := 8) rfl rfl (Or.inl ⟨rfl, rfl⟩) (fun v1 => ?_)
  exact ct_zret C (pc := 10) (aux := 0) (ins := .ireturn) (ρ := (fun r : Int => (some (.inl r : ct_PV), h))) (some (.inl v1)) rfl rfl rfl ⟨rfl, Or.inl rfl⟩
def f_X5_wordFrom (G : ct_G) (h : ct_H) (a0 : Int) : Option (Int) := if a0 = 102 then (some 2) else if a0 = 103 then (some (-1)) else if a0 = 104 then (some 3) else if a0 = 105 then (some (-1)) else if a0 = 106 then (some (-1)) else if a0 = 107 then (some (-1)) else if a0 = 108 then (some (-1)) else if a0 = 109 then (some (-1)) else if a0 = 110 then (some (-1)) else if a0 = 111 then (some (-1)) else if a0 = 112 then (some 1) else if a0 = 113 then (some (-1)) else if a0 = 114 then (some 4) else if a0 = 115 then (some 0) else if a0 = 116 then (some 5) else some (-1)
set_option maxRecDepth 100000 in
theorem e_X5_wordFrom {d : Nat} {G : ct_G} {h : ct_H} (a0 : Int) : ct_E m_X5_wordFrom d G (ct_args 0 [.inl a0]) h (fun r : Int => (some (.inl r : ct_PV), h)) (f_X5_wordFrom G h a0) := by
  intro x C
  unfold f_X5_wordFrom
  show ct_Z x m_X5_wordFrom G 0 [(0, .inl a0)] [] h (fun a => ct_q x G ((fun r : Int => (some (.inl r : ct_PV), h)) a)) _
  refine ct_zrun C (k' := 1) (y := ([(0, .inl a0)], [.inl a0], h)) 1 rfl rfl rfl ?_
  refine ct_zsplit (fun e1 => ?_) (fun e1 => ?_)
  · refine ct_zsw C (off := 79) (k' := 6) rfl (by rw [e1]; rfl) rfl ?_
    refine ct_zrun C (k' := 7) (y := ([(0, .inl a0)], [.inl 2], h)) 1 rfl rfl rfl ?_
    exact ct_zret C (pc := 81) (aux := 0) (ins := .ireturn) (ρ := (fun r : Int => (some (.inl r : ct_PV), h))) (some (.inl 2)) rfl rfl rfl ⟨rfl, Or.inl rfl⟩
  · refine ct_zsplit (fun e2 => ?_) (fun e2 => ?_)
    · refine ct_zsw C (off := 87) (k' := 14) rfl (by rw [e2]; rfl) rfl ?_
      refine ct_zrun C (k' := 15) (y := ([(0, .inl a0)], [.inl (-1)], h)) 1 rfl rfl rfl ?_
      exact ct_zret C (pc := 89) (aux := 0) (ins := .ireturn) (ρ := (fun r : Int => (some (.inl r : ct_PV), h))) (some (.inl (-1))) rfl rfl rfl ⟨rfl, Or.inl rfl⟩
    · refine ct_zsplit (fun e3 => ?_) (fun e3 => ?_)
      · refine ct_zsw C (off := 81) (k' := 8) rfl (by rw [e3]; rfl) rfl ?_
        refine ct_zrun C (k' := 9) (y := ([(0, .inl a0)], [.inl 3], h)) 1 rfl rfl rfl ?_
        exact ct_zret C (pc := 83) (aux := 0) (ins := .ireturn) (ρ := (fun r : Int => (some (.inl r : ct_PV), h))) (some (.inl 3)) rfl rfl rfl ⟨rfl, Or.inl rfl⟩
      · refine ct_zsplit (fun e4 => ?_) (fun e4 => ?_)
        · refine ct_zsw C (off := 87) (k' := 14) rfl (by rw [e4]; rfl) rfl ?_
          refine ct_zrun C (k' := 15) (y := ([(0, .inl a0)], [.inl (-1)], h)) 1 rfl rfl rfl ?_
          exact ct_zret C (pc := 89) (aux := 0) (ins := .ireturn) (ρ := (fun r : Int => (some (.inl r : ct_PV), h))) (some (.inl (-1))) rfl rfl rfl ⟨rfl, Or.inl rfl⟩
        · refine ct_zsplit (fun e5 => ?_) (fun e5 => ?_)
          · refine ct_zsw C (off := 87) (k' := 14) rfl (by rw [e5]; rfl) rfl ?_
            refine ct_zrun C (k' := 15) (y := ([(0, .inl a0)], [.inl (-1)], h)) 1 rfl rfl rfl ?_
            exact ct_zret C (pc := 89) (aux := 0) (ins := .ireturn) (ρ := (fun r : Int => (some (.inl r : ct_PV), h))) (some (.inl (-1))) rfl rfl rfl ⟨rfl, Or.inl rfl⟩
          · refine ct_zsplit (fun e6 => ?_) (fun e6 => ?_)
            · refine ct_zsw C (off := 87) (k' := 14) rfl (by rw [e6]; rfl) rfl ?_
              refine ct_zrun C (k' := 15) (y := ([(0, .inl a0)], [.inl (-1)], h)) 1 rfl rfl rfl ?_
              exact ct_zret C (pc := 89) (aux := 0) (ins := .ireturn) (ρ := (fun r : Int => (some (.inl r : ct_PV), h))) (some (.inl (-1))) rfl rfl rfl ⟨rfl, Or.inl rfl⟩
            · refine ct_zsplit (fun e7 => ?_) (fun e7 => ?_)
              · refine ct_zsw C (off := 87) (k' := 14) rfl (by rw [e7]; rfl) rfl ?_
                refine ct_zrun C (k' := 15) (y := ([(0, .inl a0)], [.inl (-1)], h)) 1 rfl rfl rfl ?_
                exact ct_zret C (pc := 89) (aux := 0) (ins := .ireturn) (ρ := (fun r : Int => (some (.inl r : ct_PV), h))) (some (.inl (-1))) rfl rfl rfl ⟨rfl, Or.inl rfl⟩
              · refine ct_zsplit (fun e8 => ?_) (fun e8 => ?_)
                · refine ct_zsw C (off := 87) (k' := 14) rfl (by rw [e8]; rfl) rfl ?_
                  refine ct_zrun C (k' := 15) (y := ([(0, .inl a0)], [.inl (-1)], h)) 1 rfl rfl rfl ?_
                  exact ct_zret C (pc := 89) (aux := 0) (ins := .ireturn) (ρ := (fun r : Int => (some (.inl r : ct_PV), h))) (some (.inl (-1))) rfl rfl rfl ⟨rfl, Or.inl rfl⟩
                · refine ct_zsplit (fun e9 => ?_) (fun e9 => ?_)
                  · refine ct_zsw C (off := 87) (k' := 14) rfl (by rw [e9]; rfl) rfl ?_
                    refine ct_zrun C (k' := 15) (y := ([(0, .inl a0)], [.inl (-1)], h)) 1 rfl rfl rfl ?_
                    exact ct_zret C (pc := 89) (aux := 0) (ins := .ireturn) (ρ := (fun r : Int => (some (.inl r : ct_PV), h))) (some (.inl (-1))) rfl rfl rfl ⟨rfl, Or.inl rfl⟩
                  · refine ct_zsplit (fun e10 => ?_) (fun e10 => ?_)
                    · refine ct_zsw C (off := 87) (k' := 14) rfl (by rw [e10]; rfl) rfl ?_
                      refine ct_zrun C (k' := 15) (y := ([(0, .inl a0)], [.inl (-1)], h)) 1 rfl rfl rfl ?_
                      exact ct_zret C (pc := 89) (aux := 0) (ins := .ireturn) (ρ := (fun r : Int => (some (.inl r : ct_PV), h))) (some (.inl (-1))) rfl rfl rfl ⟨rfl, Or.inl rfl⟩
                    · refine ct_zsplit (fun e11 => ?_) (fun e11 => ?_)
                      · refine ct_zsw C (off := 77) (k' := 4) rfl (by rw [e11]; rfl) rfl ?_
                        refine ct_zrun C (k' := 5) (y := ([(0, .inl a0)], [.inl 1], h)) 1 rfl rfl rfl ?_
                        exact ct_zret C (pc := 79) (aux := 0) (ins := .ireturn) (ρ := (fun r : Int => (some (.inl r : ct_PV), h))) (some (.inl 1)) rfl rfl rfl ⟨rfl, Or.inl rfl⟩
                      · refine ct_zsplit (fun e12 => ?_) (fun e12 => ?_)
                        · refine ct_zsw C (off := 87) (k' := 14) rfl (by rw [e12]; rfl) rfl ?_
                          refine ct_zrun C (k' := 15) (y := ([(0, .inl a0)], [.inl (-1)], h)) 1 rfl rfl rfl ?_
                          exact ct_zret C (pc := 89) (aux := 0) (ins := .ireturn) (ρ := (fun r : Int => (some (.inl r : ct_PV), h))) (some (.inl (-1))) rfl rfl rfl ⟨rfl, Or.inl rfl⟩
                        · refine ct_zsplit (fun e13 => ?_) (fun e13 => ?_)
                          · refine ct_zsw C (off := 83) (k' := 10) rfl (by rw [e13]; rfl) rfl ?_
                            refine ct_zrun C (k' := 11) (y := ([(0, .inl a0)], [.inl 4], h)) 1 rfl rfl rfl ?_
                            exact ct_zret C (pc := 85) (aux := 0) (ins := .ireturn) (ρ := (fun r : Int => (some (.inl r : ct_PV), h))) (some (.inl 4)) rfl rfl rfl ⟨rfl, Or.inl rfl⟩
                          · refine ct_zsplit (fun e14 => ?_) (fun e14 => ?_)
                            · refine ct_zsw C (off := 75) (k' := 2) rfl (by rw [e14]; rfl) rfl ?_
                              refine ct_zrun C (k' := 3) (y := ([(0, .inl a0)], [.inl 0], h)) 1 rfl rfl rfl ?_
                              exact ct_zret C (pc := 77) (aux := 0) (ins := .ireturn) (ρ := (fun r : Int => (some (.inl r : ct_PV), h))) (some (.inl 0)) rfl rfl rfl ⟨rfl, Or.inl rfl⟩
                            · refine ct_zsplit (fun e15 => ?_) (fun e15 => ?_)
                              · refine ct_zsw C (off := 85) (k' := 12) rfl (by rw [e15]; rfl) rfl ?_
                                refine ct_zrun C (k' := 13) (y := ([(0, .inl a0)], [.inl 5], h)) 1 rfl rfl rfl ?_
                                exact ct_zret C (pc := 87) (aux := 0) (ins := .ireturn) (ρ := (fun r : Int => (some (.inl r : ct_PV), h))) (some (.inl 5)) rfl rfl rfl ⟨rfl, Or.inl rfl⟩
                              · refine ct_zsw C (off := 87) (k' := 14) rfl (by show (if _ then _ else _) = _; rw [if_pos (by omega)]) rfl ?_
                                refine ct_zrun C (k' := 15) (y := ([(0, .inl a0)], [.inl (-1)], h)) 1 rfl rfl rfl ?_
                                exact ct_zret C (pc := 89) (aux := 0) (ins := .ireturn) (ρ := (fun r : Int => (some (.inl r : ct_PV), h))) (some (.inl (-1))) rfl rfl rfl ⟨rfl, Or.inl rfl⟩
def f_X5_take (G : ct_G) (h : ct_H) (o : Nat) (a1 : Int) : Option (Int × ct_H) := if (h.1 o 1) ≤ (h.1 o 5) then (some (0, h)) else (ct_rd G h (G.1 o 0) (h.1 o 5)).bind fun v1 => if v1 = a1 then (ct_lt (ct_wF h o 5 (ct_wr ((h.1 o 5) + 1))) fun h2 => some (1, h2)) else some (0, h)
set_option maxRecDepth 100000 in
theorem e_X5_take {d : Nat} {G : ct_G} {h : ct_H} (o : Nat) (a1 : Int) : ct_E m_X5_take d G (ct_args 0 [.inr (.inr (5, o)), .inl a1]) h (fun r : Int × ct_H => (some (.inl (r.1) : ct_PV), r.2)) (f_X5_take G h o a1) := by
  intro x C
  unfold f_X5_take
  show ct_Z x m_X5_take G 0 [(0, .inr (.inr (5, o))), (1, .inl a1)] [] h (fun a => ct_q x G ((fun r : Int × ct_H => (some (.inl (r.1) : ct_PV), r.2)) a)) _
  refine ct_zrun C (k' := 4) (y := ([(0, .inr (.inr (5, o))), (1, .inl a1)], [.inl (h.1 o 1), .inl (h.1 o 5)], h)) 4 rfl rfl rfl ?_
  refine ct_zt C (pc := 8) (aux := 0) (cn := .ge) (off := 16) (k' := 12) (a := (h.1 o 5)) (b := (h.1 o 1)) Iff.rfl rfl rfl rfl (fun e4 => ?_) (fun e4 => ?_)
  · refine ct_zrun C (k' := 13) (y := ([(0, .inr (.inr (5, o))), (1, .inl a1)], [.inl 0], h)) 1 rfl rfl rfl ?_
    exact ct_zret C (pc := 25) (aux := 0) (ins := .ireturn) (ρ := (fun r : Int × ct_H => (some (.inl (r.1) : ct_PV), r.2))) (some (.inl 0)) rfl rfl rfl ⟨rfl, Or.inr ⟨rfl, Or.inl rfl⟩⟩
  · refine ct_zrun C (k' := 9) (y := ([(0, .inr (.inr (5, o))), (1, .inl a1)], [.inl (h.1 o 5), .inr (.inr (8, (G.1 o 0)))], h)) 4 rfl rfl rfl ?_
    refine ct_zrd C (pc := 19) (aux := 0) (ins := .iaload) (cd := 8) rfl rfl (Or.inl ⟨rfl, rfl⟩) (fun v1 => ?_)
    refine ct_zrun C (k' := 11) (y := ([(0, .inr (.inr (5, o))), (1, .inl a1)], [.inl a1, .inl v1], h)) 1 rfl rfl rfl ?_
    refine ct_zt C (pc := 21) (aux := 0) (cn := .eq) (off := 5) (k' := 14) (a := v1) (b := a1) Iff.rfl rfl rfl rfl (fun e3 => ?_) (fun e3 => ?_)
    · refine ct_zrun C (k' := 20) (y := ([(0, .inr (.inr (5, o))), (1, .inl a1)], [], (ct_wF h o 5 (ct_wr ((h.1 o 5) + 1))))) 6 rfl rfl rfl ?_
      refine ct_zlet (L := fun _ => [(0, .inr (.inr (5, o))), (1, .inl a1)]) (S := fun _ => []) (Hh := fun h2 => h2) (a := (ct_wF h o 5 (ct_wr ((h.1 o 5) + 1)))) (fun h2 => ?_)
      refine ct_zrun C (k' := 21) (y := ([(0, .inr (.inr (5, o))), (1, .inl a1)], [.inl 1], h2)) 1 rfl rfl rfl ?_
      exact ct_zret C (pc := 37) (aux := 0) (ins := .ireturn) (ρ := (fun r : Int × ct_H => (some (.inl (r.1) : ct_PV), r.2))) (some (.inl 1)) rfl rfl rfl ⟨rfl, Or.inr ⟨rfl, Or.inr rfl⟩⟩
    · refine ct_zrun C (k' := 13) (y := ([(0, .inr (.inr (5, o))), (1, .inl a1)], [.inl 0], h)) 1 rfl rfl rfl ?_
      exact ct_zret C (pc := 25) (aux := 0) (ins := .ireturn) (ρ := (fun r : Int × ct_H => (some (.inl (r.1) : ct_PV), r.2))) (some (.inl 0)) rfl rfl rfl ⟨rfl, Or.inr ⟨rfl, Or.inl rfl⟩⟩
def f_X5_numbersOf (G : ct_G) (h : ct_H) (a0 : Int) : Option (Int) := if a0 = 0 then (some 2) else if a0 = 1 then (some 2) else if a0 = 2 then (some 3) else if a0 = 3 then (some 3) else if a0 = 4 then (some 1) else some 0
set_option maxRecDepth 100000 in
theorem e_X5_numbersOf {d : Nat} {G : ct_G} {h : ct_H} (a0 : Int) : ct_E m_X5_numbersOf d G (ct_args 0 [.inl a0]) h (fun r : Int => (some (.inl r : ct_PV), h)) (f_X5_numbersOf G h a0) := by
  intro x C
  unfold f_X5_numbersOf
  show ct_Z x m_X5_numbersOf G 0 [(0, .inl a0)] [] h (fun a => ct_q x G ((fun r : Int => (some (.inl r : ct_PV), h)) a)) _
  refine ct_zrun C (k' := 1) (y := ([(0, .inl a0)], [.inl a0], h)) 1 rfl rfl rfl ?_
  refine ct_zsplit (fun e1 => ?_) (fun e1 => ?_)
  · refine ct_zsw C (off := 35) (k' := 2) rfl (by rw [e1]; rfl) rfl ?_
    refine ct_zrun C (k' := 3) (y := ([(0, .inl a0)], [.inl 2], h)) 1 rfl rfl rfl ?_
    exact ct_zret C (pc := 37) (aux := 0) (ins := .ireturn) (ρ := (fun r : Int => (some (.inl r : ct_PV), h))) (some (.inl 2)) rfl rfl rfl ⟨rfl, Or.inl rfl⟩
  · refine ct_zsplit (fun e2 => ?_) (fun e2 => ?_)
    · refine ct_zsw C (off := 35) (k' := 2) rfl (by rw [e2]; rfl) rfl ?_
      refine ct_zrun C (k' := 3) (y := ([(0, .inl a0)], [.inl 2], h)) 1 rfl rfl rfl ?_
      exact ct_zret C (pc := 37) (aux := 0) (ins := .ireturn) (ρ := (fun r : Int => (some (.inl r : ct_PV), h))) (some (.inl 2)) rfl rfl rfl ⟨rfl, Or.inl rfl⟩
    · refine ct_zsplit (fun e3 => ?_) (fun e3 => ?_)
      · refine ct_zsw C (off := 37) (k' := 4) rfl (by rw [e3]; rfl) rfl ?_
        refine ct_zrun C (k' := 5) (y := ([(0, .inl a0)], [.inl 3], h)) 1 rfl rfl rfl ?_
        exact ct_zret C (pc := 39) (aux := 0) (ins := .ireturn) (ρ := (fun r : Int => (some (.inl r : ct_PV), h))) (some (.inl 3)) rfl rfl rfl ⟨rfl, Or.inl rfl⟩
      · refine ct_zsplit (fun e4 => ?_) (fun e4 => ?_)
        · refine ct_zsw C (off := 37) (k' := 4) rfl (by rw [e4]; rfl) rfl ?_
          refine ct_zrun C (k' := 5) (y := ([(0, .inl a0)], [.inl 3], h)) 1 rfl rfl rfl ?_
          exact ct_zret C (pc := 39) (aux := 0) (ins := .ireturn) (ρ := (fun r : Int => (some (.inl r : ct_PV), h))) (some (.inl 3)) rfl rfl rfl ⟨rfl, Or.inl rfl⟩
        · refine ct_zsplit (fun e5 => ?_) (fun e5 => ?_)
          · refine ct_zsw C (off := 39) (k' := 6) rfl (by rw [e5]; rfl) rfl ?_
            refine ct_zrun C (k' := 7) (y := ([(0, .inl a0)], [.inl 1], h)) 1 rfl rfl rfl ?_
            exact ct_zret C (pc := 41) (aux := 0) (ins := .ireturn) (ρ := (fun r : Int => (some (.inl r : ct_PV), h))) (some (.inl 1)) rfl rfl rfl ⟨rfl, Or.inl rfl⟩
          · refine ct_zsw C (off := 41) (k' := 8) rfl (by show (if _ then _ else _) = _; rw [if_pos (by omega)]) rfl ?_
            refine ct_zrun C (k' := 9) (y := ([(0, .inl a0)], [.inl 0], h)) 1 rfl rfl rfl ?_
            exact ct_zret C (pc := 43) (aux := 0) (ins := .ireturn) (ρ := (fun r : Int => (some (.inl r : ct_PV), h))) (some (.inl 0)) rfl rfl rfl ⟨rfl, Or.inl rfl⟩
def f_X5_isDigit (G : ct_G) (h : ct_H) (o : Nat) : Option (Int) := if (h.1 o 1) ≤ (h.1 o 5) then (some 0) else (ct_rd G h (G.1 o 0) (h.1 o 5)).bind fun v1 => if v1 < 48 then (some 0) else (ct_rd G h (G.1 o 0) (h.1 o 5)).bind fun v2 => if 57 < v2 then (some 0) else some 1
set_option maxRecDepth 100000 in
theorem e_X5_isDigit {d : Nat} {G : ct_G} {h : ct_H} (o : Nat) : ct_E m_X5_isDigit d G (ct_args 0 [.inr (.inr (5, o))]) h (fun r : Int => (some (.inl r : ct_PV), h)) (f_X5_isDigit G h o) := by
  intro x C
  unfold f_X5_isDigit
  show ct_Z x m_X5_isDigit G 0 [(0, .inr (.inr (5, o)))] [] h (fun a => ct_q x G ((fun r : Int => (some (.inl r : ct_PV), h)) a)) _
  refine ct_zrun C (k' := 4) (y := ([(0, .inr (.inr (5, o)))], [.inl (h.1 o 1), .inl (h.1 o 5)], h)) 4 rfl rfl rfl ?_
  refine ct_zt C (pc := 8) (aux := 0) (cn := .ge) (off := 35) (k' := 21) (a := (h.1 o 5)) (b := (h.1 o 1)) Iff.rfl rfl rfl rfl (fun e5 => ?_) (fun e5 => ?_)
  · refine ct_zrun C (k' := 22) (y := ([(0, .inr (.inr (5, o)))], [.inl 0], h)) 1 rfl rfl rfl ?_
    exact ct_zret C (pc := 44) (aux := 0) (ins := .ireturn) (ρ := (fun r : Int => (some (.inl r : ct_PV), h))) (some (.inl 0)) rfl rfl rfl ⟨rfl, Or.inr ⟨rfl, Or.inl rfl⟩⟩
  · refine ct_zrun C (k' := 9) (y := ([(0, .inr (.inr (5, o)))], [.inl (h.1 o 5), .inr (.inr (8, (G.1 o 0)))], h)) 4 rfl rfl rfl ?_
    refine ct_zrd C (pc := 19) (aux := 0) (ins := .iaload) (cd := 8) rfl rfl (Or.inl ⟨rfl, rfl⟩) (fun v1 => ?_)
    refine ct_zrun C (k' := 11) (y := ([(0, .inr (.inr (5, o)))], [.inl 48, .inl v1], h)) 1 rfl rfl rfl ?_
    refine ct_zt C (pc := 22) (aux := 0) (cn := .lt) (off := 21) (k' := 21) (a := v1) (b := 48) Iff.rfl rfl rfl rfl (fun e4 => ?_) (fun e4 => ?_)
    · refine ct_zrun C (k' := 22) (y := ([(0, .inr (.inr (5, o)))], [.inl 0], h)) 1 rfl rfl rfl ?_
      exact ct_zret C (pc := 44) (aux := 0) (ins := .ireturn) (ρ := (fun r : Int => (some (.inl r : ct_PV), h))) (some (.inl 0)) rfl rfl rfl ⟨rfl, Or.inr ⟨rfl, Or.inl rfl⟩⟩
    · refine ct_zrun C (k' := 16) (y := ([(0, .inr (.inr (5, o)))], [.inl (h.1 o 5), .inr (.inr (8, (G.1 o 0)))], h)) 4 rfl rfl rfl ?_
      refine ct_zrd C (pc := 33) (aux := 0) (ins := .iaload) (cd := 8) rfl rfl (Or.inl ⟨rfl, rfl⟩) (fun v2 => ?_)
      refine ct_zrun C (k' := 18) (y := ([(0, .inr (.inr (5, o)))], [.inl 57, .inl v2], h)) 1 rfl rfl rfl ?_
      refine ct_zt C (pc := 36) (aux := 0) (cn := .gt) (off := 7) (k' := 21) (a := v2) (b := 57) Iff.rfl rfl rfl rfl (fun e3 => ?_) (fun e3 => ?_)
      · refine ct_zrun C (k' := 22) (y := ([(0, .inr (.inr (5, o)))], [.inl 0], h)) 1 rfl rfl rfl ?_
        exact ct_zret C (pc := 44) (aux := 0) (ins := .ireturn) (ρ := (fun r : Int => (some (.inl r : ct_PV), h))) (some (.inl 0)) rfl rfl rfl ⟨rfl, Or.inr ⟨rfl, Or.inl rfl⟩⟩
      · refine ct_zrun C (k' := 20) (y := ([(0, .inr (.inr (5, o)))], [.inl 1], h)) 1 rfl rfl rfl ?_
        refine ct_zgoto C (pc := 40) (aux := 0) (off := 4) (k' := 22) rfl rfl ?_
        exact ct_zret C (pc := 44) (aux := 0) (ins := .ireturn) (ρ := (fun r : Int => (some (.inl r : ct_PV), h))) (some (.inl 1)) rfl rfl rfl ⟨rfl, Or.inr ⟨rfl, Or.inr rfl⟩⟩
def f_X5_takeDigit (G : ct_G) (h : ct_H) (o : Nat) : Option (Int × ct_H) := (ct_rd G h (G.1 o 0) (h.1 o 5)).bind fun v1 => ct_lt (ct_wr (v1 - 48)) fun v2 => ct_lt (ct_wF h o 5 (ct_wr ((h.1 o 5) + 1))) fun h3 => some (v2, h3)
set_option maxRecDepth 100000 in
theorem e_X5_takeDigit {d : Nat} {G : ct_G} {h : ct_H} (o : Nat) : ct_E m_X5_takeDigit d G (ct_args 0 [.inr (.inr (5, o))]) h (fun r : Int × ct_H => (some (.inl (r.1) : ct_PV), r.2)) (f_X5_takeDigit G h o) := by
  intro x C
  unfold f_X5_takeDigit
  show ct_Z x m_X5_takeDigit G 0 [(0, .inr (.inr (5, o)))] [] h (fun a => ct_q x G ((fun r : Int × ct_H => (some (.inl (r.1) : ct_PV), r.2)) a)) _
  refine ct_zrun C (k' := 4) (y := ([(0, .inr (.inr (5, o)))], [.inl (h.1 o 5), .inr (.inr (8, (G.1 o 0)))], h)) 4 rfl rfl rfl ?_
  refine ct_zrd C (pc := 8) (aux := 0) (ins := .iaload) (cd := 8) rfl rfl (Or.inl ⟨rfl, rfl⟩) (fun v1 => ?_)
  refine ct_zrun C (k' := 8) (y := ([(1, .inl (ct_wr (v1 - 48))), (0, .inr (.inr (5, o)))], [], h)) 3 rfl rfl rfl ?_
  refine ct_zlet (L := fun v2 => [(1, .inl v2), (0, .inr (.inr (5, o)))]) (S := fun _ => []) (Hh := fun _ => h) (a := (ct_wr (v1 - 48))) (fun v2 => ?_)
  refine ct_zrun C (k' := 14) (y := ([(1, .inl v2), (0, .inr (.inr (5, o)))], [], (ct_wF h o 5 (ct_wr ((h.1 o 5) + 1))))) 6 rfl rfl rfl ?_
  refine ct_zlet (L := fun _ => [(1, .inl v2), (0, .inr (.inr (5, o)))]) (S := fun _ => []) (Hh := fun h3 => h3) (a := (ct_wF h o 5 (ct_wr ((h.1 o 5) + 1)))) (fun h3 => ?_)
  refine ct_zrun C (k' := 15) (y := ([(1, .inl v2), (0, .inr (.inr (5, o)))], [.inl v2], h3)) 1 rfl rfl rfl ?_
  exact ct_zret C (pc := 24) (aux := 0) (ins := .ireturn) (ρ := (fun r : Int × ct_H => (some (.inl (r.1) : ct_PV), r.2))) (some (.inl v2)) rfl rfl rfl ⟨rfl, Or.inl rfl⟩
def f_X5_readNumber (G : ct_G) (h : ct_H) (o : Nat) (a1 : Int) : Option (Int × ct_H) := (f_X5_isDigit G h o).bind fun v1 => if v1 = 0 then (some (0, h)) else (f_X5_takeDigit G h o).bind fun r2 => (f_X5_isDigit G r2.2 o).bind fun v3 => ct_jn (β := Int × ct_H) (fun k5 => if v3 = 0 then (k5 (r2.1, r2.2)) else (f_X5_takeDigit G r2.2 o).bind fun r8 => ct_lt (ct_wr ((ct_wr (10 * r2.1)) + r8.1)) fun v9 => k5 (v9, r8.2)) (fun b4 => (ct_wt G b4.2 (G.1 o 3) a1 b4.1).bind fun h7 => some (1, h7))
set_option maxRecDepth 100000 in
theorem e_X5_readNumber {d : Nat} {G : ct_G} {h : ct_H} (o : Nat) (a1 : Int) : ct_E m_X5_readNumber (d + 1) G (ct_args 0 [.inr (.inr (5, o)), .inl a1]) h (fun r : Int × ct_H => (some (.inl (r.1) : ct_PV), r.2)) (f_X5_readNumber G h o a1) := by
  intro x C
  unfold f_X5_readNumber
  show ct_Z x m_X5_readNumber G 0 [(0, .inr (.inr (5, o))), (1, .inl a1)] [] h (fun a => ct_q x G ((fun r : Int × ct_H => (some (.inl (r.1) : ct_PV), r.2)) a)) _
  refine ct_zrun C (k' := 1) (y := ([(0, .inr (.inr (5, o))), (1, .inl a1)], [.inr (.inr (5, o))], h)) 1 rfl rfl rfl ?_
  refine ct_zV C (pc := 1) (aux := 0) [] [] ok_X5_isDigit lk_X5_63 (e_X5_isDigit o) rfl rfl rfl rfl rfl rfl rfl rfl (fun v1 => ?_)
  refine ct_zf0 C (pc := 4) (aux := 0) (cn := .ne) (off := 5) (k' := 5) (a := v1) Iff.rfl rfl rfl rfl (fun e11 => ?_) (fun e11 => ?_)
  · refine ct_zrun C (k' := 4) (y := ([(0, .inr (.inr (5, o))), (1, .inl a1)], [.inl 0], h)) 1 rfl rfl rfl ?_
    exact ct_zret C (pc := 8) (aux := 0) (ins := .ireturn) (ρ := (fun r : Int × ct_H => (some (.inl (r.1) : ct_PV), r.2))) (some (.inl 0)) rfl rfl rfl ⟨rfl, Or.inr ⟨rfl, Or.inl rfl⟩⟩
  · refine ct_zrun C (k' := 6) (y := ([(0, .inr (.inr (5, o))), (1, .inl a1)], [.inr (.inr (5, o))], h)) 1 rfl rfl rfl ?_
    refine ct_zV C (pc := 10) (aux := 0) [] [] ok_X5_takeDigit lk_X5_66 (e_X5_takeDigit o) rfl rfl rfl rfl rfl rfl rfl rfl (fun r2 => ?_)
    refine ct_zrun C (k' := 9) (y := ([(2, .inl (r2.1)), (0, .inr (.inr (5, o))), (1, .inl a1)], [.inr (.inr (5, o))], r2.2)) 2 rfl rfl rfl ?_
    refine ct_zV C (pc := 15) (aux := 0) [] [] ok_X5_isDigit lk_X5_63 (e_X5_isDigit o) rfl rfl rfl rfl rfl rfl rfl rfl (fun v3 => ?_)
    refine ct_zjn (β := Int × ct_H) (kJ := 18) (L := fun b4 => [(0, .inr (.inr (5, o))), (1, .inl a1), (2, .inl (b4.1))]) (S := fun b4 => []) (Hh := fun b4 => b4.2) (fun b4 => ?_) (fun k5 z6 => ?_)
    · refine ct_zrun C (k' := 22) (y := ([(0, .inr (.inr (5, o))), (1, .inl a1), (2, .inl (b4.1))], [.inl (b4.1), .inl a1, .inr (.inr (8, (G.1 o 3)))], b4.2)) 4 rfl rfl rfl ?_
      refine ct_zwt C (pc := 37) (aux := 0) rfl rfl (fun h7 => ?_)
      refine ct_zrun C (k' := 24) (y := ([(0, .inr (.inr (5, o))), (1, .inl a1), (2, .inl (b4.1))], [.inl 1], h7)) 1 rfl rfl rfl ?_
      exact ct_zret C (pc := 39) (aux := 0) (ins := .ireturn) (ρ := (fun r : Int × ct_H => (some (.inl (r.1) : ct_PV), r.2))) (some (.inl 1)) rfl rfl rfl ⟨rfl, Or.inr ⟨rfl, Or.inr rfl⟩⟩
    · refine ct_zt0 C (pc := 18) (aux := 0) (cn := .eq) (off := 13) (k' := 18) (a := v3) Iff.rfl rfl rfl rfl (fun e10 => ?_) (fun e10 => ?_)
      · exact ct_zsub [1, 2, 0] rfl (z6 (r2.1, r2.2))
      · refine ct_zrun C (k' := 15) (y := ([(2, .inl (r2.1)), (0, .inr (.inr (5, o))), (1, .inl a1)], [.inr (.inr (5, o)), .inl (ct_wr (10 * r2.1))], r2.2)) 4 rfl rfl rfl ?_
        refine ct_zV C (pc := 26) (aux := 0) [] [.inl (ct_wr (10 * r2.1))] ok_X5_takeDigit lk_X5_66 (e_X5_takeDigit o) rfl rfl rfl rfl rfl rfl rfl rfl (fun r8 => ?_)
        refine ct_zrun C (k' := 18) (y := ([(2, .inl (ct_wr ((ct_wr (10 * r2.1)) + r8.1))), (0, .inr (.inr (5, o))), (1, .inl a1)], [], r8.2)) 2 rfl rfl rfl ?_
        refine ct_zlet (L := fun v9 => [(2, .inl v9), (0, .inr (.inr (5, o))), (1, .inl a1)]) (S := fun _ => []) (Hh := fun _ => r8.2) (a := (ct_wr ((ct_wr (10 * r2.1)) + r8.1))) (fun v9 => ?_)
        exact ct_zsub [1, 2, 0] rfl (z6 (v9, r8.2))
