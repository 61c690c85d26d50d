def f_X3_isFull (G : ct_G) (h : ct_H) (o : Nat) : Option (Int) := if (h.1 o 2) < ((G.2 (G.1 o 0) : Nat) : Int) then (some 0) else some 1
set_option maxRecDepth 100000 in
theorem e_X3_isFull {d : Nat} {G : ct_G} {h : ct_H} (o : Nat) : ct_E m_X3_isFull d G (ct_args 0 [.inr (.inr (3, o))]) h (fun r : Int => (some (.inl r : ct_PV), h)) (f_X3_isFull G h o) := by
  intro x C
  unfold f_X3_isFull
  show ct_Z x m_X3_isFull G 0 [(0, .inr (.inr (3, o)))] [] h (fun a => ct_q x G ((fun r : Int => (some (.inl r : ct_PV), h)) a)) _
  refine ct_zrun C (k' := 5) (y := ([(0, .inr (.inr (3, o)))], [.inl ((G.2 (G.1 o 0) : Nat) : Int), .inl (h.1 o 2)], h)) 5 rfl rfl rfl ?_
  refine ct_zt C (pc := 9) (aux := 0) (cn := .lt) (off := 7) (k' := 8) (a := (h.1 o 2)) (b := ((G.2 (G.1 o 0) : Nat) : Int)) Iff.rfl rfl rfl rfl (fun e1 => ?_) (fun e1 => ?_)
  · refine ct_zrun C (k' := 9) (y := ([(0, .inr (.inr (3, o)))], [.inl 0], h)) 1 rfl rfl rfl ?_
    exact ct_zret C (pc := 17) (aux := 0) (ins := .ireturn) (ρ := (fun r : Int => (some (.inl r : ct_PV), h))) (some (.inl 0)) rfl rfl rfl ⟨rfl, Or.inr ⟨rfl, Or.inl rfl⟩⟩
  · refine ct_zrun C (k' := 7) (y := ([(0, .inr (.inr (3, o)))], [.inl 1], h)) 1 rfl rfl rfl ?_
    refine ct_zgoto C (pc := 13) (aux := 0) (off := 4) (k' := 9) rfl rfl ?_
    exact ct_zret C (pc := 17) (aux := 0) (ins := .ireturn) (ρ := (fun r : Int => (some (.inl r : ct_PV), h))) (some (.inl 1)) rfl rfl rfl ⟨rfl, Or.inr ⟨rfl, Or.inr rfl⟩⟩
def f_X3_append (G : ct_G) (h : ct_H) (o : Nat) (a1 : Int) (a2 : Int) : Option (Int × ct_H) := (ct_wt G h (G.1 o 0) (h.1 o 2) a1).bind fun h1 => (ct_wt G h1 (G.1 o 1) (h1.1 o 2) a2).bind fun h2 => ct_lt (ct_wF h2 o 2 (ct_wr ((h2.1 o 2) + 1))) fun h3 => some ((h3.1 o 2), h3)
set_option maxRecDepth 100000 in
theorem e_X3_append {d : Nat} {G : ct_G} {h : ct_H} (o : Nat) (a1 : Int) (a2 : Int) : ct_E m_X3_append d G (ct_args 0 [.inr (.inr (3, o)), .inl a1, .inl a2]) h (fun r : Int × ct_H => (some (.inl (r.1) : ct_PV), r.2)) (f_X3_append G h o a1 a2) := by
  intro x C
  unfold f_X3_append
  show ct_Z x m_X3_append G 0 [(0, .inr (.inr (3, o))), (1, .inl a1), (2, .inl a2)] [] h (fun a => ct_q x G ((fun r : Int × ct_H => (some (.inl (r.1) : ct_PV), r.2)) a)) _
  refine ct_zrun C (k' := 5) (y := ([(0, .inr (.inr (3, o))), (1, .inl a1), (2, .inl a2)], [.inl a1, .inl (h.1 o 2), .inr (.inr (8, (G.1 o 0)))], h)) 5 rfl rfl rfl ?_
  refine ct_zwt C (pc := 9) (aux := 0) rfl rfl (fun h1 => ?_)
  refine ct_zrun C (k' := 11) (y := ([(0, .inr (.inr (3, o))), (1, .inl a1), (2, .inl a2)], [.inl a2, .inl (h1.1 o 2), .inr (.inr (8, (G.1 o 1)))], h1)) 5 rfl rfl rfl ?_
  refine ct_zwt C (pc := 19) (aux := 0) rfl rfl (fun h2 => ?_)
  refine ct_zrun C (k' := 18) (y := ([(0, .inr (.inr (3, o))), (1, .inl a1), (2, .inl a2)], [], (ct_wF h2 o 2 (ct_wr ((h2.1 o 2) + 1))))) 6 rfl rfl rfl ?_
  refine ct_zlet (L := fun _ => [(0, .inr (.inr (3, o))), (1, .inl a1), (2, .inl a2)]) (S := fun _ => []) (Hh := fun h3 => h3) (a := (ct_wF h2 o 2 (ct_wr ((h2.1 o 2) + 1)))) (fun h3 => ?_)
  refine ct_zrun C (k' := 20) (y := ([(0, .inr (.inr (3, o))), (1, .inl a1), (2, .inl a2)], [.inl (h3.1 o 2)], h3)) 2 rfl rfl rfl ?_
  exact ct_zret C (pc := 34) (aux := 0) (ins := .ireturn) (ρ := (fun r : Int × ct_H => (some (.inl (r.1) : ct_PV), r.2))) (some (.inl (h3.1 o 2))) rfl rfl rfl ⟨rfl, Or.inl rfl⟩
def f_X3_clear (G : ct_G) (h : ct_H) (o : Nat) : Option (Int × ct_H) := ct_lt (ct_wF h o 2 0) fun h1 => some ((h1.1 o 2), h1)
set_option maxRecDepth 100000 in
theorem e_X3_clear {d : Nat} {G : ct_G} {h : ct_H} (o : Nat) : ct_E m_X3_clear d G (ct_args 0 [.inr (.inr (3, o))]) h (fun r : Int × ct_H => (some (.inl (r.1) : ct_PV), r.2)) (f_X3_clear G h o) := by
  intro x C
  unfold f_X3_clear
  show ct_Z x m_X3_clear G 0 [(0, .inr (.inr (3, o)))] [] h (fun a => ct_q x G ((fun r : Int × ct_H => (some (.inl (r.1) : ct_PV), r.2)) a)) _
  refine ct_zrun C (k' := 3) (y := ([(0, .inr (.inr (3, o)))], [], (ct_wF h o 2 0))) 3 rfl rfl rfl ?_
  refine ct_zlet (L := fun _ => [(0, .inr (.inr (3, o)))]) (S := fun _ => []) (Hh := fun h1 => h1) (a := (ct_wF h o 2 0)) (fun h1 => ?_)
  refine ct_zrun C (k' := 5) (y := ([(0, .inr (.inr (3, o)))], [.inl (h1.1 o 2)], h1)) 2 rfl rfl rfl ?_
  exact ct_zret C (pc := 9) (aux := 0) (ins := .ireturn) (ρ := (fun r : Int × ct_H => (some (.inl (r.1) : ct_PV), r.2))) (some (.inl (h1.1 o 2))) rfl rfl rfl ⟨rfl, Or.inl rfl⟩
def l_X3_copyFrom_6 (G : ct_G) (o : Nat) (a1 : Nat) : Nat → (Int × ct_H) → Option (ct_H)
  | 0, _ => none
  | n3 + 1, b2 => if (b2.2.1 o 2) ≤ b2.1 then (some (b2.2)) else (ct_rd G b2.2 (G.1 a1 0) b2.1).bind fun v4 => (ct_wt G b2.2 (G.1 o 0) b2.1 v4).bind fun h5 => (ct_rd G h5 (G.1 a1 1) b2.1).bind fun v6 => (ct_wt G h5 (G.1 o 1) b2.1 v6).bind fun h7 => l_X3_copyFrom_6 G o a1 n3 ((ct_wr (b2.1 + 1)), h7)
set_option maxRecDepth 100000 in
theorem zl_X3_copyFrom_6 {x : ct_Ctx} {d : Nat} {G : ct_G} (C : ct_c x m_X3_copyFrom G d) (o : Nat) (a1 : Nat) : ∀ (n3 : Nat) (b2 : Int × ct_H), ct_Z x m_X3_copyFrom G 6 [(0, .inr (.inr (3, o))), (1, .inr (.inr (3, a1))), (2, .inl (b2.1))] [] b2.2 (fun a => ct_q x G ((fun r : ct_H => ((none : Option ct_PV), r)) a)) (l_X3_copyFrom_6 G o a1 n3 b2) := by
  intro n3
  induction n3 with
  | zero => intro b2; exact ct_znone
  | succ n3 ih =>
    intro b2
    rw [l_X3_copyFrom_6]
    refine ct_zrun C (k' := 9) (y := ([(0, .inr (.inr (3, o))), (1, .inr (.inr (3, a1))), (2, .inl (b2.1))], [.inl (b2.2.1 o 2), .inl (b2.1)], b2.2)) 3 rfl rfl rfl ?_
    refine ct_zt C (pc := 15) (aux := 0) (cn := .ge) (off := 33) (k' := 28) (a := b2.1) (b := (b2.2.1 o 2)) Iff.rfl rfl rfl rfl (fun e8 => ?_) (fun e8 => ?_)
    · exact ct_zret C (pc := 48) (aux := 0) (ins := .return_) (ρ := (fun r : ct_H => ((none : Option ct_PV), r))) none rfl rfl rfl ⟨rfl, rfl⟩
    · refine ct_zrun C (k' := 16) (y := ([(0, .inr (.inr (3, o))), (1, .inr (.inr (3, a1))), (2, .inl (b2.1))], [.inl (b2.1), .inr (.inr (8, (G.1 a1 0))), .inl (b2.1), .inr (.inr (8, (G.1 o 0)))], b2.2)) 6 rfl rfl rfl ?_
      refine ct_zrd C (pc := 28) (aux := 0) (ins := .iaload) (cd := 8) rfl rfl (Or.inl ⟨rfl, rfl⟩) (fun v4 => ?_)
      refine ct_zwt C (pc := 29) (aux := 0) rfl rfl (fun h5 => ?_)
      refine ct_zrun C (k' := 24) (y := ([(0, .inr (.inr (3, o))), (1, .inr (.inr (3, a1))), (2, .inl (b2.1))], [.inl (b2.1), .inr (.inr (8, (G.1 a1 1))), .inl (b2.1), .inr (.inr (8, (G.1 o 1)))], h5)) 6 rfl rfl rfl ?_
      refine ct_zrd C (pc := 40) (aux := 0) (ins := .iaload) (cd := 8) rfl rfl (Or.inl ⟨rfl, rfl⟩) (fun v6 => ?_)
      refine ct_zwt C (pc := 41) (aux := 0) rfl rfl (fun h7 => ?_)
      refine ct_zrun C (k' := 27) (y := ([(2, .inl (ct_wr (b2.1 + 1))), (0, .inr (.inr (3, o))), (1, .inr (.inr (3, a1)))], [], h7)) 1 rfl rfl rfl ?_
      refine ct_zgoto C (pc := 45) (aux := 0) (off := (-35)) (k' := 6) rfl rfl ?_
      exact ct_zsub [1, 2, 0] rfl (ih ((ct_wr (b2.1 + 1)), h7))
def f_X3_copyFrom (G : ct_G) (h : ct_H) (o : Nat) (a1 : Nat) : Option (ct_H) := ct_lt (ct_wF h o 2 (h.1 a1 2)) fun h1 => l_X3_copyFrom_6 G o a1 200 (0, h1)
set_option maxRecDepth 100000 in
theorem e_X3_copyFrom {d : Nat} {G : ct_G} {h : ct_H} (o : Nat) (a1 : Nat) : ct_E m_X3_copyFrom d G (ct_args 0 [.inr (.inr (3, o)), .inr (.inr (3, a1))]) h (fun r : ct_H => ((none : Option ct_PV), r)) (f_X3_copyFrom G h o a1) := by
  intro x C
  unfold f_X3_copyFrom
  show ct_Z x m_X3_copyFrom G 0 [(0, .inr (.inr (3, o))), (1, .inr (.inr (3, a1)))] [] h (fun a => ct_q x G ((fun r : ct_H => ((none : Option ct_PV), r)) a)) _
  refine ct_zrun C (k' := 4) (y := ([(0, .inr (.inr (3, o))), (1, .inr (.inr (3, a1)))], [], (ct_wF h o 2 (h.1 a1 2)))) 4 rfl rfl rfl ?_
  refine ct_zlet (L := fun _ => [(0, .inr (.inr (3, o))), (1, .inr (.inr (3, a1)))]) (S := fun _ => []) (Hh := fun h1 => h1) (a := (ct_wF h o 2 (h.1 a1 2))) (fun h1 => ?_)
  refine ct_zrun C (k' := 6) (y := ([(2, .inl 0), (0, .inr (.inr (3, o))), (1, .inr (.inr (3, a1)))], [], h1)) 2 rfl rfl rfl ?_
  exact ct_zsub [1, 2, 0] rfl (zl_X3_copyFrom_6 C o a1 200 (0, h1))
