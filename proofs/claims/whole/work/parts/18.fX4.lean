set_option maxRecDepth 100000 in
theorem lk_X4_20 : ct_LkS RX4 20 m_J7_fill_d0a16 2 := ct_LkS_of 964 965 (by decide +kernel) (by decide +kernel) (by decide +kernel)
def f_X4_isSort (G : ct_G) (h : ct_H) (a0 : Int) : Option (Int) := if a0 < 0 then (some 0) else if 4 < a0 then (some 0) else some 1
set_option maxRecDepth 100000 in
theorem e_X4_isSort {d : Nat} {G : ct_G} {h : ct_H} (a0 : Int) : ct_E m_X4_isSort d G (ct_args 0 [.inl a0]) h (fun r : Int => (some (.inl r : ct_PV), h)) (f_X4_isSort G h a0) := by
  intro x C
  unfold f_X4_isSort
  show ct_Z x m_X4_isSort G 0 [(0, .inl a0)] [] h (fun a => ct_q x G ((fun r : Int => (some (.inl r : ct_PV), h)) a)) _
  refine ct_zrun C (k' := 1) (y := ([(0, .inl a0)], [.inl a0], h)) 1 rfl rfl rfl ?_
  refine ct_zt0 C (pc := 1) (aux := 0) (cn := .lt) (off := 12) (k' := 7) (a := a0) Iff.rfl rfl rfl rfl (fun e2 => ?_) (fun e2 => ?_)
  · refine ct_zrun C (k' := 8) (y := ([(0, .inl a0)], [.inl 0], h)) 1 rfl rfl rfl ?_
    exact ct_zret C (pc := 14) (aux := 0) (ins := .ireturn) (ρ := (fun r : Int => (some (.inl r : ct_PV), h))) (some (.inl 0)) rfl rfl rfl ⟨rfl, Or.inr ⟨rfl, Or.inl rfl⟩⟩
  · refine ct_zrun C (k' := 4) (y := ([(0, .inl a0)], [.inl 4, .inl a0], h)) 2 rfl rfl rfl ?_
    refine ct_zt C (pc := 6) (aux := 0) (cn := .gt) (off := 7) (k' := 7) (a := a0) (b := 4) Iff.rfl rfl rfl rfl (fun e1 => ?_) (fun e1 => ?_)
    · refine ct_zrun C (k' := 8) (y := ([(0, .inl a0)], [.inl 0], h)) 1 rfl rfl rfl ?_
      exact ct_zret C (pc := 14) (aux := 0) (ins := .ireturn) (ρ := (fun r : Int => (some (.inl r : ct_PV), h))) (some (.inl 0)) rfl rfl rfl ⟨rfl, Or.inr ⟨rfl, Or.inl rfl⟩⟩
    · refine ct_zrun C (k' := 6) (y := ([(0, .inl a0)], [.inl 1], h)) 1 rfl rfl rfl ?_
      refine ct_zgoto C (pc := 10) (aux := 0) (off := 4) (k' := 8) rfl rfl ?_
      exact ct_zret C (pc := 14) (aux := 0) (ins := .ireturn) (ρ := (fun r : Int => (some (.inl r : ct_PV), h))) (some (.inl 1)) rfl rfl rfl ⟨rfl, Or.inr ⟨rfl, Or.inr rfl⟩⟩
def f_X4_become (G : ct_G) (h : ct_H) (o : Nat) (a1 : Int) (a2 : Int) : Option (ct_H) := ct_lt (ct_wF h o 1 a1) fun h1 => ct_lt (ct_wF h1 o 2 a2) fun h2 => (f_J7_fill_d0a16 G h2 (G.1 o 0) (Int64.ofNat 0)).bind fun r3 => some r3
set_option maxRecDepth 100000 in
theorem e_X4_become {d : Nat} {G : ct_G} {h : ct_H} (o : Nat) (a1 : Int) (a2 : Int) : ct_E m_X4_become (d + 1) G (ct_args 0 [.inr (.inr (4, o)), .inl a1, .inl a2]) h (fun r : ct_H => ((none : Option ct_PV), r)) (f_X4_become G h o a1 a2) := by
  intro x C
  unfold f_X4_become
  show ct_Z x m_X4_become G 0 [(0, .inr (.inr (4, o))), (1, .inl a1), (2, .inl a2)] [] h (fun a => ct_q x G ((fun r : ct_H => ((none : Option ct_PV), r)) a)) _
  refine ct_zrun C (k' := 3) (y := ([(0, .inr (.inr (4, o))), (1, .inl a1), (2, .inl a2)], [], (ct_wF h o 1 a1))) 3 rfl rfl rfl ?_
  refine ct_zlet (L := fun _ => [(0, .inr (.inr (4, o))), (1, .inl a1), (2, .inl a2)]) (S := fun _ => []) (Hh := fun h1 => h1) (a := (ct_wF h o 1 a1)) (fun h1 => ?_)
  refine ct_zrun C (k' := 6) (y := ([(0, .inr (.inr (4, o))), (1, .inl a1), (2, .inl a2)], [], (ct_wF h1 o 2 a2))) 3 rfl rfl rfl ?_
  refine ct_zlet (L := fun _ => [(0, .inr (.inr (4, o))), (1, .inl a1), (2, .inl a2)]) (S := fun _ => []) (Hh := fun h2 => h2) (a := (ct_wF h1 o 2 a2)) (fun h2 => ?_)
  refine ct_zrun C (k' := 9) (y := ([(0, .inr (.inr (4, o))), (1, .inl a1), (2, .inl a2)], [.inr (.inl (Int64.ofNat 0)), .inr (.inr (11, (G.1 o 0)))], h2)) 3 rfl rfl rfl ?_
  refine ct_zS C (pc := 15) (aux := 0) [.inr (.inr (11, (G.1 o 0))), .inr (.inl (Int64.ofNat 0))] [] ok_J7_fill_d0a16 lk_X4_20 (e_J7_fill_d0a16 (G.1 o 0) (Int64.ofNat 0)) rfl rfl rfl rfl rfl rfl (fun r3 => ?_)
  exact ct_zret C (pc := 18) (aux := 0) (ins := .return_) (ρ := (fun r : ct_H => ((none : Option ct_PV), r))) none rfl rfl rfl ⟨rfl, rfl⟩
def f_X4_isEmpty (G : ct_G) (h : ct_H) (o : Nat) : Option (Int) := if (h.1 o 1) = (-1) then (some 1) else some 0
set_option maxRecDepth 100000 in
theorem e_X4_isEmpty {d : Nat} {G : ct_G} {h : ct_H} (o : Nat) : ct_E m_X4_isEmpty d G (ct_args 0 [.inr (.inr (4, o))]) h (fun r : Int => (some (.inl r : ct_PV), h)) (f_X4_isEmpty G h o) := by
  intro x C
  unfold f_X4_isEmpty
  show ct_Z x m_X4_isEmpty G 0 [(0, .inr (.inr (4, o)))] [] h (fun a => ct_q x G ((fun r : Int => (some (.inl r : ct_PV), h)) a)) _
  refine ct_zrun C (k' := 3) (y := ([(0, .inr (.inr (4, o)))], [.inl (-1), .inl (h.1 o 1)], h)) 3 rfl rfl rfl ?_
  refine ct_zf C (pc := 5) (aux := 0) (cn := .ne) (off := 7) (k' := 6) (a := (h.1 o 1)) (b := (-1)) Iff.rfl rfl rfl rfl (fun e1 => ?_) (fun e1 => ?_)
  · refine ct_zrun C (k' := 5) (y := ([(0, .inr (.inr (4, o)))], [.inl 1], h)) 1 rfl rfl rfl ?_
    refine ct_zgoto C (pc := 9) (aux := 0) (off := 4) (k' := 7) rfl rfl ?_
    exact ct_zret C (pc := 13) (aux := 0) (ins := .ireturn) (ρ := (fun r : Int => (some (.inl r : ct_PV), h))) (some (.inl 1)) rfl rfl rfl ⟨rfl, Or.inr ⟨rfl, Or.inr rfl⟩⟩
  · refine ct_zrun C (k' := 7) (y := ([(0, .inr (.inr (4, o)))], [.inl 0], h)) 1 rfl rfl rfl ?_
    exact ct_zret C (pc := 13) (aux := 0) (ins := .ireturn) (ρ := (fun r : Int => (some (.inl r : ct_PV), h))) (some (.inl 0)) rfl rfl rfl ⟨rfl, Or.inr ⟨rfl, Or.inl rfl⟩⟩
def f_X4_isPlace (G : ct_G) (h : ct_H) (o : Nat) (a1 : Int) : Option (Int) := if a1 < 0 then (some 0) else if (h.1 o 2) ≤ a1 then (some 0) else some 1
set_option maxRecDepth 100000 in
theorem e_X4_isPlace {d : Nat} {G : ct_G} {h : ct_H} (o : Nat) (a1 : Int) : ct_E m_X4_isPlace d G (ct_args 0 [.inr (.inr (4, o)), .inl a1]) h (fun r : Int => (some (.inl r : ct_PV), h)) (f_X4_isPlace G h o a1) := by
  intro x C
  unfold f_X4_isPlace
  show ct_Z x m_X4_isPlace G 0 [(0, .inr (.inr (4, o))), (1, .inl a1)] [] h (fun a => ct_q x G ((fun r : Int => (some (.inl r : ct_PV), h)) a)) _
  refine ct_zrun C (k' := 1) (y := ([(0, .inr (.inr (4, o))), (1, .inl a1)], [.inl a1], h)) 1 rfl rfl rfl ?_
  refine ct_zt0 C (pc := 1) (aux := 0) (cn := .lt) (off := 15) (k' := 8) (a := a1) Iff.rfl rfl rfl rfl (fun e2 => ?_) (fun e2 => ?_)
  · refine ct_zrun C (k' := 9) (y := ([(0, .inr (.inr (4, o))), (1, .inl a1)], [.inl 0], h)) 1 rfl rfl rfl ?_
    exact ct_zret C (pc := 17) (aux := 0) (ins := .ireturn) (ρ := (fun r : Int => (some (.inl r : ct_PV), h))) (some (.inl 0)) rfl rfl rfl ⟨rfl, Or.inr ⟨rfl, Or.inl rfl⟩⟩
  · refine ct_zrun C (k' := 5) (y := ([(0, .inr (.inr (4, o))), (1, .inl a1)], [.inl (h.1 o 2), .inl a1], h)) 3 rfl rfl rfl ?_
    refine ct_zt C (pc := 9) (aux := 0) (cn := .ge) (off := 7) (k' := 8) (a := a1) (b := (h.1 o 2)) Iff.rfl rfl rfl rfl (fun e1 => ?_) (fun e1 => ?_)
    · refine ct_zrun C (k' := 9) (y := ([(0, .inr (.inr (4, o))), (1, .inl a1)], [.inl 0], h)) 1 rfl rfl rfl ?_
      exact ct_zret C (pc := 17) (aux := 0) (ins := .ireturn) (ρ := (fun r : Int => (some (.inl r : ct_PV), h))) (some (.inl 0)) rfl rfl rfl ⟨rfl, Or.inr ⟨rfl, Or.inl rfl⟩⟩
    · refine ct_zrun C (k' := 7) (y := ([(0, .inr (.inr (4, o))), (1, .inl a1)], [.inl 1], h)) 1 rfl rfl rfl ?_
      refine ct_zgoto C (pc := 13) (aux := 0) (off := 4) (k' := 9) rfl rfl ?_
      exact ct_zret C (pc := 17) (aux := 0) (ins := .ireturn) (ρ := (fun r : Int => (some (.inl r : ct_PV), h))) (some (.inl 1)) rfl rfl rfl ⟨rfl, Or.inr ⟨rfl, Or.inr rfl⟩⟩
def f_X4_isStretch (G : ct_G) (h : ct_H) (o : Nat) (a1 : Int) (a2 : Int) : Option (Int) := if a1 < 0 then (some 0) else if a2 < 0 then (some 0) else if (h.1 o 2) < a1 then (some 0) else if (ct_wr ((h.1 o 2) - a1)) < a2 then (some 0) else some 1
set_option maxRecDepth 100000 in
theorem e_X4_isStretch {d : Nat} {G : ct_G} {h : ct_H} (o : Nat) (a1 : Int) (a2 : Int) : ct_E m_X4_isStretch d G (ct_args 0 [.inr (.inr (4, o)), .inl a1, .inl a2]) h (fun r : Int => (some (.inl r : ct_PV), h)) (f_X4_isStretch G h o a1 a2) := by
  intro x C
  unfold f_X4_isStretch
  show ct_Z x m_X4_isStretch G 0 [(0, .inr (.inr (4, o))), (1, .inl a1), (2, .inl a2)] [] h (fun a => ct_q x G ((fun r : Int => (some (.inl r : ct_PV), h)) a)) _
  refine ct_zrun C (k' := 1) (y := ([(0, .inr (.inr (4, o))), (1, .inl a1), (2, .inl a2)], [.inl a1], h)) 1 rfl rfl rfl ?_
  refine ct_zt0 C (pc := 1) (aux := 0) (cn := .lt) (off := 29) (k' := 16) (a := a1) Iff.rfl rfl rfl rfl (fun e4 => ?_) (fun e4 => ?_)
  · refine ct_zrun C (k' := 17) (y := ([(0, .inr (.inr (4, o))), (1, .inl a1), (2, .inl a2)], [.inl 0], h)) 1 rfl rfl rfl ?_
    exact ct_zret C (pc := 31) (aux := 0) (ins := .ireturn) (ρ := (fun r : Int => (some (.inl r : ct_PV), h))) (some (.inl 0)) rfl rfl rfl ⟨rfl, Or.inr ⟨rfl, Or.inl rfl⟩⟩
  · refine ct_zrun C (k' := 3) (y := ([(0, .inr (.inr (4, o))), (1, .inl a1), (2, .inl a2)], [.inl a2], h)) 1 rfl rfl rfl ?_
    refine ct_zt0 C (pc := 5) (aux := 0) (cn := .lt) (off := 25) (k' := 16) (a := a2) Iff.rfl rfl rfl rfl (fun e3 => ?_) (fun e3 => ?_)
    · refine ct_zrun C (k' := 17) (y := ([(0, .inr (.inr (4, o))), (1, .inl a1), (2, .inl a2)], [.inl 0], h)) 1 rfl rfl rfl ?_
      exact ct_zret C (pc := 31) (aux := 0) (ins := .ireturn) (ρ := (fun r : Int => (some (.inl r : ct_PV), h))) (some (.inl 0)) rfl rfl rfl ⟨rfl, Or.inr ⟨rfl, Or.inl rfl⟩⟩
    · refine ct_zrun C (k' := 7) (y := ([(0, .inr (.inr (4, o))), (1, .inl a1), (2, .inl a2)], [.inl (h.1 o 2), .inl a1], h)) 3 rfl rfl rfl ?_
      refine ct_zt C (pc := 13) (aux := 0) (cn := .gt) (off := 17) (k' := 16) (a := a1) (b := (h.1 o 2)) Iff.rfl rfl rfl rfl (fun e2 => ?_) (fun e2 => ?_)
      · refine ct_zrun C (k' := 17) (y := ([(0, .inr (.inr (4, o))), (1, .inl a1), (2, .inl a2)], [.inl 0], h)) 1 rfl rfl rfl ?_
        exact ct_zret C (pc := 31) (aux := 0) (ins := .ireturn) (ρ := (fun r : Int => (some (.inl r : ct_PV), h))) (some (.inl 0)) rfl rfl rfl ⟨rfl, Or.inr ⟨rfl, Or.inl rfl⟩⟩
      · refine ct_zrun C (k' := 13) (y := ([(0, .inr (.inr (4, o))), (1, .inl a1), (2, .inl a2)], [.inl (ct_wr ((h.1 o 2) - a1)), .inl a2], h)) 5 rfl rfl rfl ?_
        refine ct_zt C (pc := 23) (aux := 0) (cn := .gt) (off := 7) (k' := 16) (a := a2) (b := (ct_wr ((h.1 o 2) - a1))) Iff.rfl rfl rfl rfl (fun e1 => ?_) (fun e1 => ?_)
        · refine ct_zrun C (k' := 17) (y := ([(0, .inr (.inr (4, o))), (1, .inl a1), (2, .inl a2)], [.inl 0], h)) 1 rfl rfl rfl ?_
          exact ct_zret C (pc := 31) (aux := 0) (ins := .ireturn) (ρ := (fun r : Int => (some (.inl r : ct_PV), h))) (some (.inl 0)) rfl rfl rfl ⟨rfl, Or.inr ⟨rfl, Or.inl rfl⟩⟩
        · refine ct_zrun C (k' := 15) (y := ([(0, .inr (.inr (4, o))), (1, .inl a1), (2, .inl a2)], [.inl 1], h)) 1 rfl rfl rfl ?_
          refine ct_zgoto C (pc := 27) (aux := 0) (off := 4) (k' := 17) rfl rfl ?_
          exact ct_zret C (pc := 31) (aux := 0) (ins := .ireturn) (ρ := (fun r : Int => (some (.inl r : ct_PV), h))) (some (.inl 1)) rfl rfl rfl ⟨rfl, Or.inr ⟨rfl, Or.inr rfl⟩⟩
def f_X4_put (G : ct_G) (h : ct_H) (o : Nat) (a1 : Int) (a2 : Int64) : Option (ct_H) := if (h.1 o 1) = 0 then ((ct_wtL G h (G.1 o 0) a1 ((Int32.ofInt ((Int32.ofInt ((a2).toInt32.toInt)).toInt8.toInt32.toInt)).toInt64)).bind fun h1 => some h1) else if (h.1 o 1) = 1 then ((ct_wtL G h (G.1 o 0) a1 ((Int32.ofInt ((Int32.ofInt ((a2).toInt32.toInt)).toInt16.toInt32.toInt)).toInt64)).bind fun h3 => some h3) else if (h.1 o 1) = 2 then ((ct_wtL G h (G.1 o 0) a1 ((Int32.ofInt ((a2).toInt32.toInt)).toInt64)).bind fun h5 => some h5) else if (h.1 o 1) = 3 then ((ct_wtL G h (G.1 o 0) a1 a2).bind fun h7 => some h7) else if (h.1 o 1) = 4 then (ct_jn (β := Int64) (fun k10 => if ((lg_cmp a2 (Int64.ofNat 0)).toInt) = 0 then (k10 (Int64.ofNat 0)) else k10 (Int64.ofNat 1)) (fun b9 => (ct_wtL G h (G.1 o 0) a1 b9).bind fun h12 => some h12)) else (ct_wtL G h (G.1 o 0) a1 a2).bind fun h15 => some h15
set_option maxRecDepth 100000 in
theorem e_X4_put {d : Nat} {G : ct_G} {h : ct_H} (o : Nat) (a1 : Int) (a2 : Int64) : ct_E m_X4_put d G (ct_args 0 [.inr (.inr (4, o)), .inl a1, .inr (.inl a2)]) h (fun r : ct_H => ((none : Option ct_PV), r)) (f_X4_put G h o a1 a2) := by
  intro x C
  unfold f_X4_put
  show ct_Z x m_X4_put G 0 [(0, .inr (.inr (4, o))), (1, .inl a1), (2, .inr (.inl a2))] [] h (fun a => ct_q x G ((fun r : ct_H => ((none : Option ct_PV), r)) a)) _
  refine ct_zrun C (k' := 2) (y := ([(0, .inr (.inr (4, o))), (1, .inl a1), (2, .inr (.inl a2))], [.inl (h.1 o 1)], h)) 2 rfl rfl rfl ?_
  refine ct_zsplit (fun e2 => ?_) (fun e2 => ?_)
  · refine ct_zsw C (off := 36) (k' := 3) rfl (by rw [e2]; rfl) rfl ?_
    refine ct_zrun C (k' := 10) (y := ([(0, .inr (.inr (4, o))), (1, .inl a1), (2, .inr (.inl a2))], [.inr (.inl ((Int32.ofInt ((Int32.ofInt ((a2).toInt32.toInt)).toInt8.toInt32.toInt)).toInt64)), .inl a1, .inr (.inr (11, (G.1 o 0)))], h)) 7 rfl rfl rfl ?_
    refine ct_zwtL C (pc := 49) (aux := 0) rfl rfl (fun h1 => ?_)
    refine ct_zgoto C (pc := 50) (aux := 0) (off := 55) (k' := 46) rfl rfl ?_
    exact ct_zret C (pc := 105) (aux := 0) (ins := .return_) (ρ := (fun r : ct_H => ((none : Option ct_PV), r))) none rfl rfl rfl ⟨rfl, rfl⟩
  · refine ct_zsplit (fun e4 => ?_) (fun e4 => ?_)
    · refine ct_zsw C (off := 49) (k' := 12) rfl (by rw [e4]; rfl) rfl ?_
      refine ct_zrun C (k' := 19) (y := ([(0, .inr (.inr (4, o))), (1, .inl a1), (2, .inr (.inl a2))], [.inr (.inl ((Int32.ofInt ((Int32.ofInt ((a2).toInt32.toInt)).toInt16.toInt32.toInt)).toInt64)), .inl a1, .inr (.inr (11, (G.1 o 0)))], h)) 7 rfl rfl rfl ?_
      refine ct_zwtL C (pc := 62) (aux := 0) rfl rfl (fun h3 => ?_)
      refine ct_zgoto C (pc := 63) (aux := 0) (off := 42) (k' := 46) rfl rfl ?_
      exact ct_zret C (pc := 105) (aux := 0) (ins := .return_) (ρ := (fun r : ct_H => ((none : Option ct_PV), r))) none rfl rfl rfl ⟨rfl, rfl⟩
    · refine ct_zsplit (fun e6 => ?_) (fun e6 => ?_)
      · refine ct_zsw C (off := 62) (k' := 21) rfl (by rw [e6]; rfl) rfl ?_
        refine ct_zrun C (k' := 27) (y := ([(0, .inr (.inr (4, o))), (1, .inl a1), (2, .inr (.inl a2))], [.inr (.inl ((Int32.ofInt ((a2).toInt32.toInt)).toInt64)), .inl a1, .inr (.inr (11, (G.1 o 0)))], h)) 6 rfl rfl rfl ?_
        refine ct_zwtL C (pc := 74) (aux := 0) rfl rfl (fun h5 => ?_)
        refine ct_zgoto C (pc := 75) (aux := 0) (off := 30) (k' := 46) rfl rfl ?_
        exact ct_zret C (pc := 105) (aux := 0) (ins := .return_) (ρ := (fun r : ct_H => ((none : Option ct_PV), r))) none rfl rfl rfl ⟨rfl, rfl⟩
      · refine ct_zsplit (fun e8 => ?_) (fun e8 => ?_)
        · refine ct_zsw C (off := 94) (k' := 41) rfl (by rw [e8]; rfl) rfl ?_
          refine ct_zrun C (k' := 45) (y := ([(0, .inr (.inr (4, o))), (1, .inl a1), (2, .inr (.inl a2))], [.inr (.inl a2), .inl a1, .inr (.inr (11, (G.1 o 0)))], h)) 4 rfl rfl rfl ?_
          refine ct_zwtL C (pc := 104) (aux := 0) rfl rfl (fun h7 => ?_)
          exact ct_zret C (pc := 105) (aux := 0) (ins := .return_) (ρ := (fun r : ct_H => ((none : Option ct_PV), r))) none rfl rfl rfl ⟨rfl, rfl⟩
        · refine ct_zsplit (fun e14 => ?_) (fun e14 => ?_)
          · refine ct_zsw C (off := 74) (k' := 29) rfl (by rw [e14]; rfl) rfl ?_
            refine ct_zrun C (k' := 35) (y := ([(0, .inr (.inr (4, o))), (1, .inl a1), (2, .inr (.inl a2))], [.inl ((lg_cmp a2 (Int64.ofNat 0)).toInt), .inl a1, .inr (.inr (11, (G.1 o 0)))], h)) 6 rfl rfl rfl ?_
            refine ct_zjn (β := Int64) (kJ := 39) (L := fun b9 => []) (S := fun b9 => [.inr (.inl b9), .inl a1, .inr (.inr (11, (G.1 o 0)))]) (Hh := fun b9 => h) (fun b9 => ?_) (fun k10 z11 => ?_)
            · refine ct_zwtL C (pc := 94) (aux := 0) rfl rfl (fun h12 => ?_)
              refine ct_zgoto C (pc := 95) (aux := 0) (off := 10) (k' := 46) rfl rfl ?_
              exact ct_zret C (pc := 105) (aux := 0) (ins := .return_) (ρ := (fun r : ct_H => ((none : Option ct_PV), r))) none rfl rfl rfl ⟨rfl, rfl⟩
            · refine ct_zt0 C (pc := 86) (aux := 0) (cn := .eq) (off := 7) (k' := 38) (a := ((lg_cmp a2 (Int64.ofNat 0)).toInt)) Iff.rfl rfl rfl rfl (fun e13 => ?_) (fun e13 => ?_)
              · refine ct_zrun C (k' := 39) (y := ([(0, .inr (.inr (4, o))), (1, .inl a1), (2, .inr (.inl a2))], [.inr (.inl (Int64.ofNat 0)), .inl a1, .inr (.inr (11, (G.1 o 0)))], h)) 1 rfl rfl rfl ?_
                exact ct_zsub [] rfl (z11 (Int64.ofNat 0))
              · refine ct_zrun C (k' := 37) (y := ([(0, .inr (.inr (4, o))), (1, .inl a1), (2, .inr (.inl a2))], [.inr (.inl (Int64.ofNat 1)), .inl a1, .inr (.inr (11, (G.1 o 0)))], h)) 1 rfl rfl rfl ?_
                refine ct_zgoto C (pc := 90) (aux := 0) (off := 4) (k' := 39) rfl rfl ?_
                exact ct_zsub [] rfl (z11 (Int64.ofNat 1))
          · refine ct_zsw C (off := 94) (k' := 41) rfl (by show (if _ then _ else _) = _; rw [if_pos (by omega)]) rfl ?_
            refine ct_zrun C (k' := 45) (y := ([(0, .inr (.inr (4, o))), (1, .inl a1), (2, .inr (.inl a2))], [.inr (.inl a2), .inl a1, .inr (.inr (11, (G.1 o 0)))], h)) 4 rfl rfl rfl ?_
            refine ct_zwtL C (pc := 104) (aux := 0) rfl rfl (fun h15 => ?_)
            exact ct_zret C (pc := 105) (aux := 0) (ins := .return_) (ρ := (fun r : ct_H => ((none : Option ct_PV), r))) none rfl rfl rfl ⟨rfl, rfl⟩
