set_option maxRecDepth 100000 in
theorem lk_X5_37 : ct_LkS RX5 37 m_X5_wordFrom 1 := ct_LkS_of 414 415 (by decide +kernel) (by decide +kernel) (by decide +kernel)
set_option maxRecDepth 100000 in
theorem lk_X5_41 : ct_LkS RX5 41 m_X5_lettersOf 1 := ct_LkS_of 417 418 (by decide +kernel) (by decide +kernel) (by decide +kernel)
set_option maxRecDepth 100000 in
theorem lkT_X5_45 : ct_LkV RX5 45 mt_emp 0 := ct_LkV_of 427 428 429 (by decide +kernel) (by decide +kernel) (by decide +kernel) (by decide +kernel)
set_option maxRecDepth 100000 in
theorem lkT_X5_50 : ct_LkV RX5 50 mt_len 0 := ct_LkV_of 431 432 433 (by decide +kernel) (by decide +kernel) (by decide +kernel) (by decide +kernel)
set_option maxRecDepth 100000 in
theorem lkT_X5_53 : ct_LkV RX5 53 mt_chr 1 := ct_LkV_of 441 442 443 (by decide +kernel) (by decide +kernel) (by decide +kernel) (by decide +kernel)
set_option maxRecDepth 100000 in
theorem lk_X5_33 : ct_LkV RX5 33 m_X5_take 1 := ct_LkV_of 479 480 481 (by decide +kernel) (by decide +kernel) (by decide +kernel) (by decide +kernel)
set_option maxRecDepth 100000 in
theorem lk_X5_57 : ct_LkS RX5 57 m_X5_numbersOf 1 := ct_LkS_of 483 484 (by decide +kernel) (by decide +kernel) (by decide +kernel)
set_option maxRecDepth 100000 in
theorem lk_X5_60 : ct_LkV RX5 60 m_X5_readNumber 1 := ct_LkV_of 486 487 488 (by decide +kernel) (by decide +kernel) (by decide +kernel) (by decide +kernel)
set_option maxRecDepth 100000 in
theorem lk_X5_29 : ct_LkV RX5 29 m_X5_readClause 0 := ct_LkV_of 410 411 412 (by decide +kernel) (by decide +kernel) (by decide +kernel) (by decide +kernel)
set_option maxRecDepth 100000 in
theorem lk_X6_138 : ct_LkV RX6 138 m_X5_parse 0 := ct_LkV_of 406 407 408 (by decide +kernel) (by decide +kernel) (by decide +kernel) (by decide +kernel)
set_option maxRecDepth 100000 in
theorem lk_X6_145 : ct_LkV RX6 145 m_X6_perform 1 := ct_LkV_of 498 500 0 (by decide +kernel) (by decide +kernel) (by decide +kernel) (by decide +kernel)
set_option maxRecDepth 100000 in
theorem lk_X7_143 : ct_LkS RX7 143 m_X7_wordOf 1 := ct_LkS_of 1163 1164 (by decide +kernel) (by decide +kernel) (by decide +kernel)
set_option maxRecDepth 100000 in
theorem lkT_X7_147 : ct_LkV RX7 147 mt_chr 1 := ct_LkV_of 1172 442 443 (by decide +kernel) (by decide +kernel) (by decide +kernel) (by decide +kernel)
set_option maxRecDepth 100000 in
theorem lkT_X7_160 : ct_LkV RX7 160 mt_len 0 := ct_LkV_of 1177 432 433 (by decide +kernel) (by decide +kernel) (by decide +kernel) (by decide +kernel)
set_option maxRecDepth 100000 in
theorem lk_X7_167 : ct_LkV RX7 167 m_X7_takesWord 0 := ct_LkV_of 1159 1161 8 (by decide +kernel) (by decide +kernel) (by decide +kernel) (by decide +kernel)
set_option maxRecDepth 100000 in
theorem lk_X7_170 : ct_LkS RX7 170 m_X7_manyOf 1 := ct_LkS_of 1178 1179 (by decide +kernel) (by decide +kernel) (by decide +kernel)
set_option maxRecDepth 100000 in
theorem lk_X7_173 : ct_LkV RX7 173 m_X7_takesNumber 1 := ct_LkV_of 1181 1183 10 (by decide +kernel) (by decide +kernel) (by decide +kernel) (by decide +kernel)
set_option maxRecDepth 100000 in
theorem lk_X7_176 : ct_LkV RX7 176 m_X7_takesClause 0 := ct_LkV_of 1155 1157 7 (by decide +kernel) (by decide +kernel) (by decide +kernel) (by decide +kernel)
set_option maxRecDepth 100000 in
theorem lk_X7_193 : ct_LkV RX7 193 m_X7_takesAll 0 := ct_LkV_of 1151 1153 6 (by decide +kernel) (by decide +kernel) (by decide +kernel) (by decide +kernel)
set_option maxRecDepth 100000 in
theorem lk_X7_196 : ct_LkV RX7 196 m_X7_done 1 := ct_LkV_of 1189 1191 12 (by decide +kernel) (by decide +kernel) (by decide +kernel) (by decide +kernel)
def f_X5_lettersOf (G : ct_G) (h : ct_H) (a0 : Int) : Option (Nat) := if a0 = 0 then (some 1000) else if a0 = 1 then (some 1001) else if a0 = 2 then (some 1002) else if a0 = 3 then (some 1003) else if a0 = 4 then (some 1004) else if a0 = 5 then (some 1005) else some 1006
set_option maxRecDepth 100000 in
theorem e_X5_lettersOf {d : Nat} {G : ct_G} {h : ct_H} (a0 : Int) : ct_E m_X5_lettersOf d G (ct_args 0 [.inl a0]) h (fun r : Nat => (some (.inr (.inr (15, r)) : ct_PV), h)) (f_X5_lettersOf G h a0) := by
  intro x C
  unfold f_X5_lettersOf
  show ct_Z x m_X5_lettersOf G 0 [(0, .inl a0)] [] h (fun a => ct_q x G ((fun r : Nat => (some (.inr (.inr (15, r)) : ct_PV), h)) a)) _
  refine ct_zrun C (k' := 1) (y := ([(0, .inl a0)], [.inl a0], h)) 1 rfl rfl rfl ?_
  refine ct_zsplit (fun e1 => ?_) (fun e1 => ?_)
  · refine ct_zsw C (off := 39) (k' := 2) rfl (by rw [e1]; rfl) rfl ?_
    refine ct_zldcS C (pc := 40) (aux := 0) (i := 0) "size" rfl (by decide +kernel) rfl rfl ?_
    exact ct_zret C (pc := 42) (aux := 0) (ins := .areturn) (ρ := (fun r : Nat => (some (.inr (.inr (15, r)) : ct_PV), h))) (some (.inr (.inr (15, 1000)))) rfl rfl rfl ⟨rfl, _, rfl, Or.inl ⟨_, rfl⟩⟩
  · refine ct_zsplit (fun e2 => ?_) (fun e2 => ?_)
    · refine ct_zsw C (off := 42) (k' := 4) rfl (by rw [e2]; rfl) rfl ?_
      refine ct_zldcS C (pc := 43) (aux := 0) (i := 1) "point" rfl (by decide +kernel) rfl rfl ?_
      exact ct_zret C (pc := 45) (aux := 0) (ins := .areturn) (ρ := (fun r : Nat => (some (.inr (.inr (15, r)) : ct_PV), h))) (some (.inr (.inr (15, 1001)))) rfl rfl rfl ⟨rfl, _, rfl, Or.inl ⟨_, rfl⟩⟩
    · refine ct_zsplit (fun e3 => ?_) (fun e3 => ?_)
      · refine ct_zsw C (off := 45) (k' := 6) rfl (by rw [e3]; rfl) rfl ?_
        refine ct_zldcS C (pc := 46) (aux := 0) (i := 2) "fill" rfl (by decide +kernel) rfl rfl ?_
        exact ct_zret C (pc := 48) (aux := 0) (ins := .areturn) (ρ := (fun r : Nat => (some (.inr (.inr (15, r)) : ct_PV), h))) (some (.inr (.inr (15, 1002)))) rfl rfl rfl ⟨rfl, _, rfl, Or.inl ⟨_, rfl⟩⟩
      · refine ct_zsplit (fun e4 => ?_) (fun e4 => ?_)
        · refine ct_zsw C (off := 48) (k' := 8) rfl (by rw [e4]; rfl) rfl ?_
          refine ct_zldcS C (pc := 49) (aux := 0) (i := 3) "hill" rfl (by decide +kernel) rfl rfl ?_
          exact ct_zret C (pc := 51) (aux := 0) (ins := .areturn) (ρ := (fun r : Nat => (some (.inr (.inr (15, r)) : ct_PV), h))) (some (.inr (.inr (15, 1003)))) rfl rfl rfl ⟨rfl, _, rfl, Or.inl ⟨_, rfl⟩⟩
        · refine ct_zsplit (fun e5 => ?_) (fun e5 => ?_)
          · refine ct_zsw C (off := 51) (k' := 10) rfl (by rw [e5]; rfl) rfl ?_
            refine ct_zldcS C (pc := 52) (aux := 0) (i := 4) "rule" rfl (by decide +kernel) rfl rfl ?_
            exact ct_zret C (pc := 54) (aux := 0) (ins := .areturn) (ρ := (fun r : Nat => (some (.inr (.inr (15, r)) : ct_PV), h))) (some (.inr (.inr (15, 1004)))) rfl rfl rfl ⟨rfl, _, rfl, Or.inl ⟨_, rfl⟩⟩
          · refine ct_zsplit (fun e6 => ?_) (fun e6 => ?_)
            · refine ct_zsw C (off := 54) (k' := 12) rfl (by rw [e6]; rfl) rfl ?_
              refine ct_zldcS C (pc := 55) (aux := 0) (i := 5) "turn" rfl (by decide +kernel) rfl rfl ?_
              exact ct_zret C (pc := 57) (aux := 0) (ins := .areturn) (ρ := (fun r : Nat => (some (.inr (.inr (15, r)) : ct_PV), h))) (some (.inr (.inr (15, 1005)))) rfl rfl rfl ⟨rfl, _, rfl, Or.inl ⟨_, rfl⟩⟩
            · refine ct_zsw C (off := 57) (k' := 14) rfl (by show (if _ then _ else _) = _; rw [if_pos (by omega)]) rfl ?_
              refine ct_zldcS C (pc := 58) (aux := 0) (i := 6) "" rfl (by decide +kernel) rfl rfl ?_
              exact ct_zret C (pc := 60) (aux := 0) (ins := .areturn) (ρ := (fun r : Nat => (some (.inr (.inr (15, r)) : ct_PV), h))) (some (.inr (.inr (15, 1006)))) rfl rfl rfl ⟨rfl, _, rfl, Or.inl ⟨_, rfl⟩⟩
def l_X5_readClause_24 (G : ct_G) (o : Nat) (v5 : Nat) (k9 : ct_H → Option (Int × ct_H)) : Nat → (Int × ct_H) → Option (Int × ct_H)
  | 0, _ => none
  | n8 + 1, b7 => (ct_slen v5).bind fun v12 => if v12 ≤ b7.1 then (k9 (b7.2)) else (ct_schr v5 b7.1).bind fun v13 => (f_X5_take G b7.2 o v13).bind fun r14 => if r14.1 = 0 then (some (0, r14.2)) else l_X5_readClause_24 G o v5 k9 n8 ((ct_wr (b7.1 + 1)), r14.2)
set_option maxRecDepth 100000 in
theorem zl_X5_readClause_24 {x : ct_Ctx} {d : Nat} {G : ct_G} (C : ct_c x m_X5_readClause G (d + 4)) (o : Nat) (v4 : Int) (v5 : Nat) (k9 : ct_H → Option (Int × ct_H)) (z10 : ∀ b11 : ct_H, ct_Z x m_X5_readClause G 38 [(0, .inr (.inr (5, o))), (1, .inl v4)] [] b11 (fun a => ct_q x G ((fun r : Int × ct_H => (some (.inl (r.1) : ct_PV), r.2)) a)) (k9 b11)) : ∀ (n8 : Nat) (b7 : Int × ct_H), ct_Z x m_X5_readClause G 24 [(0, .inr (.inr (5, o))), (1, .inl v4), (2, .inr (.inr (15, v5))), (3, .inl (b7.1))] [] b7.2 (fun a => ct_q x G ((fun r : Int × ct_H => (some (.inl (r.1) : ct_PV), r.2)) a)) (l_X5_readClause_24 G o v5 k9 n8 b7) := by
  intro n8
  induction n8 with
  | zero => intro b7; exact ct_znone
  | succ n8 ih =>
    intro b7
    rw [l_X5_readClause_24]
    refine ct_zrun C (k' := 26) (y := ([(0, .inr (.inr (5, o))), (1, .inl v4), (2, .inr (.inr (15, v5))), (3, .inl (b7.1))], [.inr (.inr (15, v5)), .inl (b7.1)], b7.2)) 2 rfl rfl rfl ?_
    refine ct_zslen C (pc := 46) (aux := 0) lkT_X5_50 rfl rfl rfl (fun v12 => ?_)
    refine ct_zt C (pc := 49) (aux := 0) (cn := .ge) (off := 23) (k' := 38) (a := b7.1) (b := v12) Iff.rfl rfl rfl rfl (fun e16 => ?_) (fun e16 => ?_)
    · exact ct_zsub [0, 1] rfl (z10 (b7.2))
    · refine ct_zrun C (k' := 31) (y := ([(0, .inr (.inr (5, o))), (1, .inl v4), (2, .inr (.inr (15, v5))), (3, .inl (b7.1))], [.inl (b7.1), .inr (.inr (15, v5)), .inr (.inr (5, o))], b7.2)) 3 rfl rfl rfl ?_
      refine ct_zschr C (pc := 55) (aux := 0) lkT_X5_53 rfl rfl rfl (fun v13 => ?_)
      refine ct_zV C (pc := 58) (aux := 0) [.inl v13] [] ok_X5_take lk_X5_33 (e_X5_take o v13) rfl rfl rfl rfl rfl rfl rfl rfl (fun r14 => ?_)
      refine ct_zf0 C (pc := 61) (aux := 0) (cn := .ne) (off := 5) (k' := 36) (a := r14.1) Iff.rfl rfl rfl rfl (fun e15 => ?_) (fun e15 => ?_)
      · refine ct_zrun C (k' := 35) (y := ([(0, .inr (.inr (5, o))), (1, .inl v4), (2, .inr (.inr (15, v5))), (3, .inl (b7.1))], [.inl 0], r14.2)) 1 rfl rfl rfl ?_
        exact ct_zret C (pc := 65) (aux := 0) (ins := .ireturn) (ρ := (fun r : Int × ct_H => (some (.inl (r.1) : ct_PV), r.2))) (some (.inl 0)) rfl rfl rfl ⟨rfl, Or.inr ⟨rfl, Or.inl rfl⟩⟩
      · refine ct_zrun C (k' := 37) (y := ([(3, .inl (ct_wr (b7.1 + 1))), (0, .inr (.inr (5, o))), (1, .inl v4), (2, .inr (.inr (15, v5)))], [], r14.2)) 1 rfl rfl rfl ?_
        refine ct_zgoto C (pc := 69) (aux := 0) (off := (-25)) (k' := 24) rfl rfl ?_
        exact ct_zsub [1, 2, 3, 0] rfl (ih ((ct_wr (b7.1 + 1)), r14.2))
def l_X5_readClause_46 (G : ct_G) (o : Nat) (v4 : Int) : Nat → (Int × ct_H) → Option (Int × ct_H)
  | 0, _ => none
  | n20 + 1, b19 => (f_X5_numbersOf G b19.2 v4).bind fun v21 => if v21 ≤ b19.1 then (some (1, b19.2)) else (f_X5_take G b19.2 o 32).bind fun r22 => if r22.1 = 0 then (some (0, r22.2)) else (f_X5_readNumber G r22.2 o (ct_wr ((ct_wr ((r22.2.1 o 4) * 3)) + b19.1))).bind fun r23 => if r23.1 = 0 then (some (0, r23.2)) else l_X5_readClause_46 G o v4 n20 ((ct_wr (b19.1 + 1)), r23.2)
set_option maxRecDepth 100000 in
theorem zl_X5_readClause_46 {x : ct_Ctx} {d : Nat} {G : ct_G} (C : ct_c x m_X5_readClause G (d + 4)) (o : Nat) (v4 : Int) : ∀ (n20 : Nat) (b19 : Int × ct_H), ct_Z x m_X5_readClause G 46 [(0, .inr (.inr (5, o))), (1, .inl v4), (3, .inl (b19.1))] [] b19.2 (fun a => ct_q x G ((fun r : Int × ct_H => (some (.inl (r.1) : ct_PV), r.2)) a)) (l_X5_readClause_46 G o v4 n20 b19) := by
  intro n20
  induction n20 with
  | zero => intro b19; exact ct_znone
  | succ n20 ih =>
    intro b19
    rw [l_X5_readClause_46]
    refine ct_zrun C (k' := 48) (y := ([(0, .inr (.inr (5, o))), (1, .inl v4), (3, .inl (b19.1))], [.inl v4, .inl (b19.1)], b19.2)) 2 rfl rfl rfl ?_
    refine ct_zS C (pc := 86) (aux := 0) [.inl v4] [.inl (b19.1)] ok_X5_numbersOf lk_X5_57 (e_X5_numbersOf v4) rfl rfl rfl rfl rfl rfl (fun v21 => ?_)
    refine ct_zt C (pc := 89) (aux := 0) (cn := .ge) (off := 35) (k' := 67) (a := b19.1) (b := v21) Iff.rfl rfl rfl rfl (fun e26 => ?_) (fun e26 => ?_)
    · refine ct_zrun C (k' := 68) (y := ([(0, .inr (.inr (5, o))), (1, .inl v4), (3, .inl (b19.1))], [.inl 1], b19.2)) 1 rfl rfl rfl ?_
      exact ct_zret C (pc := 125) (aux := 0) (ins := .ireturn) (ρ := (fun r : Int × ct_H => (some (.inl (r.1) : ct_PV), r.2))) (some (.inl 1)) rfl rfl rfl ⟨rfl, Or.inr ⟨rfl, Or.inr rfl⟩⟩
    · refine ct_zrun C (k' := 52) (y := ([(0, .inr (.inr (5, o))), (1, .inl v4), (3, .inl (b19.1))], [.inl 32, .inr (.inr (5, o))], b19.2)) 2 rfl rfl rfl ?_
      refine ct_zV C (pc := 95) (aux := 0) [.inl 32] [] ok_X5_take lk_X5_33 (e_X5_take o 32) rfl rfl rfl rfl rfl rfl rfl rfl (fun r22 => ?_)
      refine ct_zt0 C (pc := 98) (aux := 0) (cn := .eq) (off := 18) (k' := 63) (a := r22.1) Iff.rfl rfl rfl rfl (fun e25 => ?_) (fun e25 => ?_)
      · refine ct_zrun C (k' := 64) (y := ([(0, .inr (.inr (5, o))), (1, .inl v4), (3, .inl (b19.1))], [.inl 0], r22.2)) 1 rfl rfl rfl ?_
        exact ct_zret C (pc := 117) (aux := 0) (ins := .ireturn) (ρ := (fun r : Int × ct_H => (some (.inl (r.1) : ct_PV), r.2))) (some (.inl 0)) rfl rfl rfl ⟨rfl, Or.inr ⟨rfl, Or.inl rfl⟩⟩
      · refine ct_zrun C (k' := 61) (y := ([(0, .inr (.inr (5, o))), (1, .inl v4), (3, .inl (b19.1))], [.inl (ct_wr ((ct_wr ((r22.2.1 o 4) * 3)) + b19.1)), .inr (.inr (5, o))], r22.2)) 7 rfl rfl rfl ?_
        refine ct_zV C (pc := 110) (aux := 0) [.inl (ct_wr ((ct_wr ((r22.2.1 o 4) * 3)) + b19.1))] [] ok_X5_readNumber lk_X5_60 (e_X5_readNumber o (ct_wr ((ct_wr ((r22.2.1 o 4) * 3)) + b19.1))) rfl rfl rfl rfl rfl rfl rfl rfl (fun r23 => ?_)
        refine ct_zf0 C (pc := 113) (aux := 0) (cn := .ne) (off := 5) (k' := 65) (a := r23.1) Iff.rfl rfl rfl rfl (fun e24 => ?_) (fun e24 => ?_)
        · refine ct_zrun C (k' := 64) (y := ([(0, .inr (.inr (5, o))), (1, .inl v4), (3, .inl (b19.1))], [.inl 0], r23.2)) 1 rfl rfl rfl ?_
          exact ct_zret C (pc := 117) (aux := 0) (ins := .ireturn) (ρ := (fun r : Int × ct_H => (some (.inl (r.1) : ct_PV), r.2))) (some (.inl 0)) rfl rfl rfl ⟨rfl, Or.inr ⟨rfl, Or.inl rfl⟩⟩
        · refine ct_zrun C (k' := 66) (y := ([(3, .inl (ct_wr (b19.1 + 1))), (0, .inr (.inr (5, o))), (1, .inl v4)], [], r23.2)) 1 rfl rfl rfl ?_
          refine ct_zgoto C (pc := 121) (aux := 0) (off := (-37)) (k' := 46) rfl rfl ?_
          exact ct_zsub [1, 2, 0] rfl (ih ((ct_wr (b19.1 + 1)), r23.2))
def f_X5_readClause (G : ct_G) (h : ct_H) (o : Nat) : Option (Int × ct_H) := ct_jn (β := Int) (fun k2 => if (h.1 o 1) ≤ (h.1 o 5) then (k2 0) else (ct_rd G h (G.1 o 0) (h.1 o 5)).bind fun v28 => k2 v28) (fun b1 => (f_X5_wordFrom G h b1).bind fun v4 => (f_X5_lettersOf G h v4).bind fun v5 => (ct_semp v5).bind fun v6 => if v6 = 0 then (l_X5_readClause_24 G o v5 (fun b17 => (ct_wt G b17 (G.1 o 2) (b17.1 o 4) v4).bind fun h18 => l_X5_readClause_46 G o v4 200 (0, h18)) 200 (0, h)) else some (0, h))
set_option maxRecDepth 100000 in
theorem e_X5_readClause {d : Nat} {G : ct_G} {h : ct_H} (o : Nat) : ct_E m_X5_readClause (d + 4) G (ct_args 0 [.inr (.inr (5, o))]) h (fun r : Int × ct_H => (some (.inl (r.1) : ct_PV), r.2)) (f_X5_readClause G h o) := by
  intro x C
  unfold f_X5_readClause
  show ct_Z x m_X5_readClause G 0 [(0, .inr (.inr (5, o)))] [] h (fun a => ct_q x G ((fun r : Int × ct_H => (some (.inl (r.1) : ct_PV), r.2)) a)) _
  refine ct_zrun C (k' := 4) (y := ([(0, .inr (.inr (5, o)))], [.inl (h.1 o 1), .inl (h.1 o 5)], h)) 4 rfl rfl rfl ?_
  refine ct_zjn (β := Int) (kJ := 12) (L := fun b1 => [(0, .inr (.inr (5, o)))]) (S := fun b1 => [.inl b1]) (Hh := fun b1 => h) (fun b1 => ?_) (fun k2 z3 => ?_)
  · refine ct_zS C (pc := 24) (aux := 0) [.inl b1] [] ok_X5_wordFrom lk_X5_37 (e_X5_wordFrom b1) rfl rfl rfl rfl rfl rfl (fun v4 => ?_)
    refine ct_zrun C (k' := 15) (y := ([(1, .inl v4), (0, .inr (.inr (5, o)))], [.inl v4], h)) 2 rfl rfl rfl ?_
    refine ct_zS C (pc := 29) (aux := 0) [.inl v4] [] ok_X5_lettersOf lk_X5_41 (e_X5_lettersOf v4) rfl rfl rfl rfl rfl rfl (fun v5 => ?_)
    refine ct_zrun C (k' := 18) (y := ([(2, .inr (.inr (15, v5))), (1, .inl v4), (0, .inr (.inr (5, o)))], [.inr (.inr (15, v5))], h)) 2 rfl rfl rfl ?_
    refine ct_zsemp C (pc := 34) (aux := 0) lkT_X5_45 rfl rfl rfl (fun v6 => ?_)
    refine ct_zt0 C (pc := 37) (aux := 0) (cn := .eq) (off := 5) (k' := 22) (a := v6) Iff.rfl rfl rfl rfl (fun e27 => ?_) (fun e27 => ?_)
    · refine ct_zrun C (k' := 24) (y := ([(3, .inl 0), (2, .inr (.inr (15, v5))), (1, .inl v4), (0, .inr (.inr (5, o)))], [], h)) 2 rfl rfl rfl ?_
      refine ct_zsub [3, 2, 1, 0] rfl (zl_X5_readClause_24 C o v4 v5 _ (fun b17 => ?_) 200 (0, h))
      refine ct_zrun C (k' := 43) (y := ([(0, .inr (.inr (5, o))), (1, .inl v4)], [.inl v4, .inl (b17.1 o 4), .inr (.inr (8, (G.1 o 2)))], b17)) 5 rfl rfl rfl ?_
      refine ct_zwt C (pc := 81) (aux := 0) rfl rfl (fun h18 => ?_)
      refine ct_zrun C (k' := 46) (y := ([(3, .inl 0), (0, .inr (.inr (5, o))), (1, .inl v4)], [], h18)) 2 rfl rfl rfl ?_
      exact ct_zsub [1, 2, 0] rfl (zl_X5_readClause_46 C o v4 200 (0, h18))
    · refine ct_zrun C (k' := 21) (y := ([(2, .inr (.inr (15, v5))), (1, .inl v4), (0, .inr (.inr (5, o)))], [.inl 0], h)) 1 rfl rfl rfl ?_
      exact ct_zret C (pc := 41) (aux := 0) (ins := .ireturn) (ρ := (fun r : Int × ct_H => (some (.inl (r.1) : ct_PV), r.2))) (some (.inl 0)) rfl rfl rfl ⟨rfl, Or.inr ⟨rfl, Or.inl rfl⟩⟩
  · refine ct_zt C (pc := 8) (aux := 0) (cn := .ge) (off := 15) (k' := 11) (a := (h.1 o 5)) (b := (h.1 o 1)) Iff.rfl rfl rfl rfl (fun e29 => ?_) (fun e29 => ?_)
    · refine ct_zrun C (k' := 12) (y := ([(0, .inr (.inr (5, o)))], [.inl 0], h)) 1 rfl rfl rfl ?_
      exact ct_zsub [0] rfl (z3 0)
    · refine ct_zrun C (k' := 9) (y := ([(0, .inr (.inr (5, o)))], [.inl (h.1 o 5), .inr (.inr (8, (G.1 o 0)))], h)) 4 rfl rfl rfl ?_
      refine ct_zrd C (pc := 19) (aux := 0) (ins := .iaload) (cd := 8) rfl rfl (Or.inl ⟨rfl, rfl⟩) (fun v28 => ?_)
      refine ct_zgoto C (pc := 20) (aux := 0) (off := 4) (k' := 12) rfl rfl ?_
      exact ct_zsub [0] rfl (z3 v28)
def l_X5_parse_8 (G : ct_G) (o : Nat) (k5 : ct_H → Option (Int × ct_H)) : Nat → (Int × ct_H) → Option (Int × ct_H)
  | 0, _ => none
  | n4 + 1, b3 => if b3.1 = 0 then (k5 (b3.2)) else if 12 ≤ (b3.2.1 o 4) then (k5 (b3.2)) else (f_X5_readClause G b3.2 o).bind fun r8 => if r8.1 = 0 then (some ((r8.2.1 o 5), r8.2)) else ct_lt (ct_wF r8.2 o 4 (ct_wr ((r8.2.1 o 4) + 1))) fun h9 => ct_jn (β := Int × ct_H) (fun k11 => ct_jn (β := ct_H) (fun k14 => if 12 ≤ (h9.1 o 4) then (k14 h9) else (f_X5_take G h9 o 59).bind fun r16 => if r16.1 = 0 then (k14 (r16.2)) else k11 (1, r16.2)) (fun b13 => k11 (0, b13))) (fun b10 => l_X5_parse_8 G o k5 n4 (b10.1, b10.2))
set_option maxRecDepth 100000 in
theorem zl_X5_parse_8 {x : ct_Ctx} {d : Nat} {G : ct_G} (C : ct_c x m_X5_parse G (d + 5)) (o : Nat) (k5 : ct_H → Option (Int × ct_H)) (z6 : ∀ b7 : ct_H, ct_Z x m_X5_parse G 39 [(0, .inr (.inr (5, o)))] [] b7 (fun a => ct_q x G ((fun r : Int × ct_H => (some (.inl (r.1) : ct_PV), r.2)) a)) (k5 b7)) : ∀ (n4 : Nat) (b3 : Int × ct_H), ct_Z x m_X5_parse G 8 [(0, .inr (.inr (5, o))), (1, .inl (b3.1))] [] b3.2 (fun a => ct_q x G ((fun r : Int × ct_H => (some (.inl (r.1) : ct_PV), r.2)) a)) (l_X5_parse_8 G o k5 n4 b3) := by
  intro n4
  induction n4 with
  | zero => intro b3; exact ct_znone
  | succ n4 ih =>
    intro b3
    rw [l_X5_parse_8]
    refine ct_zrun C (k' := 9) (y := ([(0, .inr (.inr (5, o))), (1, .inl (b3.1))], [.inl (b3.1)], b3.2)) 1 rfl rfl rfl ?_
    refine ct_zt0 C (pc := 13) (aux := 0) (cn := .eq) (off := 61) (k' := 39) (a := b3.1) Iff.rfl rfl rfl rfl (fun e21 => ?_) (fun e21 => ?_)
    · exact ct_zsub [0] rfl (z6 (b3.2))
    · refine ct_zrun C (k' := 13) (y := ([(0, .inr (.inr (5, o))), (1, .inl (b3.1))], [.inl 12, .inl (b3.2.1 o 4)], b3.2)) 3 rfl rfl rfl ?_
      refine ct_zt C (pc := 22) (aux := 0) (cn := .ge) (off := 52) (k' := 39) (a := (b3.2.1 o 4)) (b := 12) Iff.rfl rfl rfl rfl (fun e20 => ?_) (fun e20 => ?_)
      · exact ct_zsub [0] rfl (z6 (b3.2))
      · refine ct_zrun C (k' := 15) (y := ([(0, .inr (.inr (5, o))), (1, .inl (b3.1))], [.inr (.inr (5, o))], b3.2)) 1 rfl rfl rfl ?_
        refine ct_zV C (pc := 26) (aux := 0) [] [] ok_X5_readClause lk_X5_29 (e_X5_readClause o) rfl rfl rfl rfl rfl rfl rfl rfl (fun r8 => ?_)
        refine ct_zf0 C (pc := 29) (aux := 0) (cn := .ne) (off := 8) (k' := 20) (a := r8.1) Iff.rfl rfl rfl rfl (fun e19 => ?_) (fun e19 => ?_)
        · refine ct_zrun C (k' := 19) (y := ([(0, .inr (.inr (5, o))), (1, .inl (b3.1))], [.inl (r8.2.1 o 5)], r8.2)) 2 rfl rfl rfl ?_
          exact ct_zret C (pc := 36) (aux := 0) (ins := .ireturn) (ρ := (fun r : Int × ct_H => (some (.inl (r.1) : ct_PV), r.2))) (some (.inl (r8.2.1 o 5))) rfl rfl rfl ⟨rfl, Or.inl rfl⟩
        · refine ct_zrun C (k' := 26) (y := ([(0, .inr (.inr (5, o))), (1, .inl (b3.1))], [], (ct_wF r8.2 o 4 (ct_wr ((r8.2.1 o 4) + 1))))) 6 rfl rfl rfl ?_
          refine ct_zlet (L := fun _ => [(0, .inr (.inr (5, o))), (1, .inl (b3.1))]) (S := fun _ => []) (Hh := fun h9 => h9) (a := (ct_wF r8.2 o 4 (ct_wr ((r8.2.1 o 4) + 1)))) (fun h9 => ?_)
          refine ct_zrun C (k' := 29) (y := ([(0, .inr (.inr (5, o))), (1, .inl (b3.1))], [.inl 12, .inl (h9.1 o 4)], h9)) 3 rfl rfl rfl ?_
          refine ct_zjn (β := Int × ct_H) (kJ := 37) (L := fun b10 => [(0, .inr (.inr (5, o)))]) (S := fun b10 => [.inl (b10.1)]) (Hh := fun b10 => b10.2) (fun b10 => ?_) (fun k11 z12 => ?_)
          · refine ct_zrun C (k' := 38) (y := ([(1, .inl (b10.1)), (0, .inr (.inr (5, o)))], [], b10.2)) 1 rfl rfl rfl ?_
            refine ct_zgoto C (pc := 71) (aux := 0) (off := (-59)) (k' := 8) rfl rfl ?_
            exact ct_zsub [1, 0] rfl (ih (b10.1, b10.2))
          · refine ct_zjn (β := ct_H) (kJ := 36) (L := fun b13 => [(0, .inr (.inr (5, o)))]) (S := fun b13 => []) (Hh := fun b13 => b13) (fun b13 => ?_) (fun k14 z15 => ?_)
            · refine ct_zrun C (k' := 37) (y := ([(0, .inr (.inr (5, o)))], [.inl 0], b13)) 1 rfl rfl rfl ?_
              exact ct_zsub [0] rfl (z12 (0, b13))
            · refine ct_zt C (pc := 53) (aux := 0) (cn := .ge) (off := 16) (k' := 36) (a := (h9.1 o 4)) (b := 12) Iff.rfl rfl rfl rfl (fun e18 => ?_) (fun e18 => ?_)
              · exact ct_zsub [0] rfl (z15 h9)
              · refine ct_zrun C (k' := 32) (y := ([(0, .inr (.inr (5, o))), (1, .inl (b3.1))], [.inl 59, .inr (.inr (5, o))], h9)) 2 rfl rfl rfl ?_
                refine ct_zV C (pc := 59) (aux := 0) [.inl 59] [] ok_X5_take lk_X5_33 (e_X5_take o 59) rfl rfl rfl rfl rfl rfl rfl rfl (fun r16 => ?_)
                refine ct_zt0 C (pc := 62) (aux := 0) (cn := .eq) (off := 7) (k' := 36) (a := r16.1) Iff.rfl rfl rfl rfl (fun e17 => ?_) (fun e17 => ?_)
                · exact ct_zsub [0] rfl (z15 (r16.2))
                · refine ct_zrun C (k' := 35) (y := ([(0, .inr (.inr (5, o))), (1, .inl (b3.1))], [.inl 1], r16.2)) 1 rfl rfl rfl ?_
                  refine ct_zgoto C (pc := 66) (aux := 0) (off := 4) (k' := 37) rfl rfl ?_
                  exact ct_zsub [0] rfl (z12 (1, r16.2))
def f_X5_parse (G : ct_G) (h : ct_H) (o : Nat) : Option (Int × ct_H) := ct_lt (ct_wF h o 5 0) fun h1 => ct_lt (ct_wF h1 o 4 0) fun h2 => l_X5_parse_8 G o (fun b22 => if (b22.1 o 5) = (b22.1 o 1) then (some ((-1), b22)) else some ((b22.1 o 5), b22)) 200 (1, h2)
set_option maxRecDepth 100000 in
theorem e_X5_parse {d : Nat} {G : ct_G} {h : ct_H} (o : Nat) : ct_E m_X5_parse (d + 5) G (ct_args 0 [.inr (.inr (5, o))]) h (fun r : Int × ct_H => (some (.inl (r.1) : ct_PV), r.2)) (f_X5_parse G h o) := by
  intro x C
  unfold f_X5_parse
  show ct_Z x m_X5_parse G 0 [(0, .inr (.inr (5, o)))] [] h (fun a => ct_q x G ((fun r : Int × ct_H => (some (.inl (r.1) : ct_PV), r.2)) a)) _
  refine ct_zrun C (k' := 3) (y := ([(0, .inr (.inr (5, o)))], [], (ct_wF h o 5 0))) 3 rfl rfl rfl ?_
  refine ct_zlet (L := fun _ => [(0, .inr (.inr (5, o)))]) (S := fun _ => []) (Hh := fun h1 => h1) (a := (ct_wF h o 5 0)) (fun h1 => ?_)
  refine ct_zrun C (k' := 6) (y := ([(0, .inr (.inr (5, o)))], [], (ct_wF h1 o 4 0))) 3 rfl rfl rfl ?_
  refine ct_zlet (L := fun _ => [(0, .inr (.inr (5, o)))]) (S := fun _ => []) (Hh := fun h2 => h2) (a := (ct_wF h1 o 4 0)) (fun h2 => ?_)
  refine ct_zrun C (k' := 8) (y := ([(1, .inl 1), (0, .inr (.inr (5, o)))], [], h2)) 2 rfl rfl rfl ?_
  refine ct_zsub [1, 0] rfl (zl_X5_parse_8 C o _ (fun b22 => ?_) 200 (1, h2))
  refine ct_zrun C (k' := 43) (y := ([(0, .inr (.inr (5, o)))], [.inl (b22.1 o 1), .inl (b22.1 o 5)], b22)) 4 rfl rfl rfl ?_
  refine ct_zf C (pc := 82) (aux := 0) (cn := .ne) (off := 7) (k' := 46) (a := (b22.1 o 5)) (b := (b22.1 o 1)) Iff.rfl rfl rfl rfl (fun e23 => ?_) (fun e23 => ?_)
  · refine ct_zrun C (k' := 45) (y := ([(0, .inr (.inr (5, o)))], [.inl (-1)], b22)) 1 rfl rfl rfl ?_
    refine ct_zgoto C (pc := 86) (aux := 0) (off := 7) (k' := 48) rfl rfl ?_
    exact ct_zret C (pc := 93) (aux := 0) (ins := .ireturn) (ρ := (fun r : Int × ct_H => (some (.inl (r.1) : ct_PV), r.2))) (some (.inl (-1))) rfl rfl rfl ⟨rfl, Or.inl rfl⟩
  · refine ct_zrun C (k' := 48) (y := ([(0, .inr (.inr (5, o)))], [.inl (b22.1 o 5)], b22)) 2 rfl rfl rfl ?_
    exact ct_zret C (pc := 93) (aux := 0) (ins := .ireturn) (ρ := (fun r : Int × ct_H => (some (.inl (r.1) : ct_PV), r.2))) (some (.inl (b22.1 o 5))) rfl rfl rfl ⟨rfl, Or.inl rfl⟩
def l_X6_read_19 (G : ct_G) (o : Nat) : Nat → (Int × Int × ct_H) → Option (Int × ct_H)
  | 0, _ => none
  | n4 + 1, b3 => if (b3.2.2.1 (G.1 o 10) 4) ≤ b3.2.1 then (some (b3.1, b3.2.2)) else (f_X6_perform G b3.2.2 o b3.2.1).bind fun r5 => ct_jn (β := Int) (fun k7 => if r5.1 = 0 then (k7 (b3.1)) else k7 (ct_wr (b3.1 + 1))) (fun b6 => l_X6_read_19 G o n4 (b6, (ct_wr (b3.2.1 + 1)), r5.2))
set_option maxRecDepth 100000 in
theorem zl_X6_read_19 {x : ct_Ctx} {d : Nat} {G : ct_G} (C : ct_c x m_X6_read G (d + 6)) (o : Nat) : ∀ (n4 : Nat) (b3 : Int × Int × ct_H), ct_Z x m_X6_read G 19 [(0, .inr (.inr (6, o))), (2, .inl (b3.1)), (3, .inl (b3.2.1))] [] b3.2.2 (fun a => ct_q x G ((fun r : Int × ct_H => (some (.inl (r.1) : ct_PV), r.2)) a)) (l_X6_read_19 G o n4 b3) := by
  intro n4
  induction n4 with
  | zero => intro b3; exact ct_znone
  | succ n4 ih =>
    intro b3
    rw [l_X6_read_19]
    refine ct_zrun C (k' := 23) (y := ([(0, .inr (.inr (6, o))), (2, .inl (b3.1)), (3, .inl (b3.2.1))], [.inl (b3.2.2.1 (G.1 o 10) 4), .inl (b3.2.1)], b3.2.2)) 4 rfl rfl rfl ?_
    refine ct_zt C (pc := 38) (aux := 0) (cn := .ge) (off := 20) (k' := 31) (a := b3.2.1) (b := (b3.2.2.1 (G.1 o 10) 4)) Iff.rfl rfl rfl rfl (fun e10 => ?_) (fun e10 => ?_)
    · refine ct_zrun C (k' := 32) (y := ([(0, .inr (.inr (6, o))), (2, .inl (b3.1)), (3, .inl (b3.2.1))], [.inl (b3.1)], b3.2.2)) 1 rfl rfl rfl ?_
      exact ct_zret C (pc := 59) (aux := 0) (ins := .ireturn) (ρ := (fun r : Int × ct_H => (some (.inl (r.1) : ct_PV), r.2))) (some (.inl (b3.1))) rfl rfl rfl ⟨rfl, Or.inl rfl⟩
    · refine ct_zrun C (k' := 26) (y := ([(0, .inr (.inr (6, o))), (2, .inl (b3.1)), (3, .inl (b3.2.1))], [.inl (b3.2.1), .inr (.inr (6, o))], b3.2.2)) 2 rfl rfl rfl ?_
      refine ct_zV C (pc := 43) (aux := 0) [.inl (b3.2.1)] [] ok_X6_perform lk_X6_145 (e_X6_perform o (b3.2.1)) rfl rfl rfl rfl rfl rfl rfl rfl (fun r5 => ?_)
      refine ct_zjn (β := Int) (kJ := 29) (L := fun b6 => [(0, .inr (.inr (6, o))), (2, .inl b6), (3, .inl (b3.2.1))]) (S := fun b6 => []) (Hh := fun b6 => r5.2) (fun b6 => ?_) (fun k7 z8 => ?_)
      · refine ct_zrun C (k' := 30) (y := ([(3, .inl (ct_wr (b3.2.1 + 1))), (0, .inr (.inr (6, o))), (2, .inl b6)], [], r5.2)) 1 rfl rfl rfl ?_
        refine ct_zgoto C (pc := 55) (aux := 0) (off := (-25)) (k' := 19) rfl rfl ?_
        exact ct_zsub [1, 2, 0] rfl (ih (b6, (ct_wr (b3.2.1 + 1)), r5.2))
      · refine ct_zt0 C (pc := 46) (aux := 0) (cn := .eq) (off := 6) (k' := 29) (a := r5.1) Iff.rfl rfl rfl rfl (fun e9 => ?_) (fun e9 => ?_)
        · exact ct_zsub [0, 1, 2] rfl (z8 (b3.1))
        · refine ct_zrun C (k' := 29) (y := ([(2, .inl (ct_wr (b3.1 + 1))), (0, .inr (.inr (6, o))), (3, .inl (b3.2.1))], [], r5.2)) 1 rfl rfl rfl ?_
          exact ct_zsub [1, 0, 2] rfl (z8 (ct_wr (b3.1 + 1)))
def f_X6_read (G : ct_G) (h : ct_H) (o : Nat) : Option (Int × ct_H) := (f_X5_parse G h (G.1 o 10)).bind fun r1 => ct_lt (ct_wF r1.2 (G.1 o 10) 1 0) fun h2 => if r1.1 = (-1) then (l_X6_read_19 G o 200 (0, 0, h2)) else some ((ct_wr ((-10) - r1.1)), h2)
set_option maxRecDepth 100000 in
theorem e_X6_read {d : Nat} {G : ct_G} {h : ct_H} (o : Nat) : ct_E m_X6_read (d + 6) G (ct_args 0 [.inr (.inr (6, o))]) h (fun r : Int × ct_H => (some (.inl (r.1) : ct_PV), r.2)) (f_X6_read G h o) := by
  intro x C
  unfold f_X6_read
  show ct_Z x m_X6_read G 0 [(0, .inr (.inr (6, o)))] [] h (fun a => ct_q x G ((fun r : Int × ct_H => (some (.inl (r.1) : ct_PV), r.2)) a)) _
  refine ct_zrun C (k' := 2) (y := ([(0, .inr (.inr (6, o)))], [.inr (.inr (5, (G.1 o 10)))], h)) 2 rfl rfl rfl ?_
  refine ct_zV C (pc := 4) (aux := 0) [] [] ok_X5_parse lk_X6_138 (e_X5_parse (G.1 o 10)) rfl rfl rfl rfl rfl rfl rfl rfl (fun r1 => ?_)
  refine ct_zrun C (k' := 8) (y := ([(1, .inl (r1.1)), (0, .inr (.inr (6, o)))], [], (ct_wF r1.2 (G.1 o 10) 1 0))) 5 rfl rfl rfl ?_
  refine ct_zlet (L := fun _ => [(1, .inl (r1.1)), (0, .inr (.inr (6, o)))]) (S := fun _ => []) (Hh := fun h2 => h2) (a := (ct_wF r1.2 (G.1 o 10) 1 0)) (fun h2 => ?_)
  refine ct_zrun C (k' := 10) (y := ([(1, .inl (r1.1)), (0, .inr (.inr (6, o)))], [.inl (-1), .inl (r1.1)], h2)) 2 rfl rfl rfl ?_
  refine ct_zt C (pc := 18) (aux := 0) (cn := .eq) (off := 8) (k' := 15) (a := r1.1) (b := (-1)) Iff.rfl rfl rfl rfl (fun e11 => ?_) (fun e11 => ?_)
  · refine ct_zrun C (k' := 19) (y := ([(3, .inl 0), (2, .inl 0), (1, .inl (r1.1)), (0, .inr (.inr (6, o)))], [], h2)) 4 rfl rfl rfl ?_
    exact ct_zsub [3, 1, 0] rfl (zl_X6_read_19 C o 200 (0, 0, h2))
  · refine ct_zrun C (k' := 14) (y := ([(1, .inl (r1.1)), (0, .inr (.inr (6, o)))], [.inl (ct_wr ((-10) - r1.1))], h2)) 3 rfl rfl rfl ?_
    exact ct_zret C (pc := 25) (aux := 0) (ins := .ireturn) (ρ := (fun r : Int × ct_H => (some (.inl (r.1) : ct_PV), r.2))) (some (.inl (ct_wr ((-10) - r1.1)))) rfl rfl rfl ⟨rfl, Or.inl rfl⟩
def f_X7_wordOf (G : ct_G) (h : ct_H) (a0 : Int) : Option (Nat) := if a0 = 0 then (some 1000) else if a0 = 1 then (some 1001) else if a0 = 2 then (some 1002) else if a0 = 3 then (some 1003) else if a0 = 4 then (some 1004) else some 1005
set_option maxRecDepth 100000 in
theorem e_X7_wordOf {d : Nat} {G : ct_G} {h : ct_H} (a0 : Int) : ct_E m_X7_wordOf d G (ct_args 0 [.inl a0]) h (fun r : Nat => (some (.inr (.inr (15, r)) : ct_PV), h)) (f_X7_wordOf G h a0) := by
  intro x C
  unfold f_X7_wordOf
  show ct_Z x m_X7_wordOf G 0 [(0, .inl a0)] [] h (fun a => ct_q x G ((fun r : Nat => (some (.inr (.inr (15, r)) : ct_PV), h)) a)) _
  refine ct_zrun C (k' := 1) (y := ([(0, .inl a0)], [.inl a0], h)) 1 rfl rfl rfl ?_
  refine ct_zsplit (fun e1 => ?_) (fun e1 => ?_)
  · refine ct_zsw C (off := 35) (k' := 2) rfl (by rw [e1]; rfl) rfl ?_
    refine ct_zldcS C (pc := 36) (aux := 0) (i := 0) "size" rfl (by decide +kernel) rfl rfl ?_
    exact ct_zret C (pc := 38) (aux := 0) (ins := .areturn) (ρ := (fun r : Nat => (some (.inr (.inr (15, r)) : ct_PV), h))) (some (.inr (.inr (15, 1000)))) rfl rfl rfl ⟨rfl, _, rfl, Or.inl ⟨_, rfl⟩⟩
  · refine ct_zsplit (fun e2 => ?_) (fun e2 => ?_)
    · refine ct_zsw C (off := 38) (k' := 4) rfl (by rw [e2]; rfl) rfl ?_
      refine ct_zldcS C (pc := 39) (aux := 0) (i := 1) "point" rfl (by decide +kernel) rfl rfl ?_
      exact ct_zret C (pc := 41) (aux := 0) (ins := .areturn) (ρ := (fun r : Nat => (some (.inr (.inr (15, r)) : ct_PV), h))) (some (.inr (.inr (15, 1001)))) rfl rfl rfl ⟨rfl, _, rfl, Or.inl ⟨_, rfl⟩⟩
    · refine ct_zsplit (fun e3 => ?_) (fun e3 => ?_)
      · refine ct_zsw C (off := 41) (k' := 6) rfl (by rw [e3]; rfl) rfl ?_
        refine ct_zldcS C (pc := 42) (aux := 0) (i := 2) "fill" rfl (by decide +kernel) rfl rfl ?_
        exact ct_zret C (pc := 44) (aux := 0) (ins := .areturn) (ρ := (fun r : Nat => (some (.inr (.inr (15, r)) : ct_PV), h))) (some (.inr (.inr (15, 1002)))) rfl rfl rfl ⟨rfl, _, rfl, Or.inl ⟨_, rfl⟩⟩
      · refine ct_zsplit (fun e4 => ?_) (fun e4 => ?_)
        · refine ct_zsw C (off := 44) (k' := 8) rfl (by rw [e4]; rfl) rfl ?_
          refine ct_zldcS C (pc := 45) (aux := 0) (i := 3) "hill" rfl (by decide +kernel) rfl rfl ?_
          exact ct_zret C (pc := 47) (aux := 0) (ins := .areturn) (ρ := (fun r : Nat => (some (.inr (.inr (15, r)) : ct_PV), h))) (some (.inr (.inr (15, 1003)))) rfl rfl rfl ⟨rfl, _, rfl, Or.inl ⟨_, rfl⟩⟩
        · refine ct_zsplit (fun e5 => ?_) (fun e5 => ?_)
          · refine ct_zsw C (off := 47) (k' := 10) rfl (by rw [e5]; rfl) rfl ?_
            refine ct_zldcS C (pc := 48) (aux := 0) (i := 4) "rule" rfl (by decide +kernel) rfl rfl ?_
            exact ct_zret C (pc := 50) (aux := 0) (ins := .areturn) (ρ := (fun r : Nat => (some (.inr (.inr (15, r)) : ct_PV), h))) (some (.inr (.inr (15, 1004)))) rfl rfl rfl ⟨rfl, _, rfl, Or.inl ⟨_, rfl⟩⟩
          · refine ct_zsw C (off := 50) (k' := 12) rfl (by show (if _ then _ else _) = _; rw [if_pos (by omega)]) rfl ?_
            refine ct_zldcS C (pc := 51) (aux := 0) (i := 5) "turn" rfl (by decide +kernel) rfl rfl ?_
            exact ct_zret C (pc := 53) (aux := 0) (ins := .areturn) (ρ := (fun r : Nat => (some (.inr (.inr (15, r)) : ct_PV), h))) (some (.inr (.inr (15, 1005)))) rfl rfl rfl ⟨rfl, _, rfl, Or.inl ⟨_, rfl⟩⟩
def l_X7_takesWord_2 (G : ct_G) (o : Nat) (h : ct_H) (k3 : Int → Option (Int × ct_H)) : Nat → Int → Option (Int × ct_H)
  | 0, _ => none
  | n2 + 1, b1 => if 6 ≤ b1 then (k3 b1) else (f_X7_wordOf G h b1).bind fun v6 => (ct_schr v6 0).bind fun v7 => (f_X7_isAt G h o v7).bind fun v8 => if v8 = 0 then (l_X7_takesWord_2 G o h k3 n2 (ct_wr (b1 + 1))) else k3 b1
set_option maxRecDepth 100000 in
theorem zl_X7_takesWord_2 {x : ct_Ctx} {d : Nat} {G : ct_G} (C : ct_c x m_X7_takesWord G (d + 4)) (o : Nat) (h : ct_H) (k3 : Int → Option (Int × ct_H)) (z4 : ∀ b5 : Int, ct_Z x m_X7_takesWord G 14 [(0, .inr (.inr (7, o))), (1, .inl b5)] [] h (fun a => ct_q x G ((fun r : Int × ct_H => (some (.inl (r.1) : ct_PV), r.2)) a)) (k3 b5)) : ∀ (n2 : Nat) (b1 : Int), ct_Z x m_X7_takesWord G 2 [(0, .inr (.inr (7, o))), (1, .inl b1)] [] h (fun a => ct_q x G ((fun r : Int × ct_H => (some (.inl (r.1) : ct_PV), r.2)) a)) (l_X7_takesWord_2 G o h k3 n2 b1) := by
  intro n2
  induction n2 with
  | zero => intro b1; exact ct_znone
  | succ n2 ih =>
    intro b1
    rw [l_X7_takesWord_2]
    refine ct_zrun C (k' := 4) (y := ([(0, .inr (.inr (7, o))), (1, .inl b1)], [.inl 6, .inl b1], h)) 2 rfl rfl rfl ?_
    refine ct_zt C (pc := 5) (aux := 0) (cn := .ge) (off := 24) (k' := 14) (a := b1) (b := 6) Iff.rfl rfl rfl rfl (fun e10 => ?_) (fun e10 => ?_)
    · exact ct_zsub [0, 1] rfl (z4 b1)
    · refine ct_zrun C (k' := 7) (y := ([(0, .inr (.inr (7, o))), (1, .inl b1)], [.inl b1, .inr (.inr (7, o))], h)) 2 rfl rfl rfl ?_
      refine ct_zS C (pc := 10) (aux := 0) [.inl b1] [.inr (.inr (7, o))] ok_X7_wordOf lk_X7_143 (e_X7_wordOf b1) rfl rfl rfl rfl rfl rfl (fun v6 => ?_)
      refine ct_zrun C (k' := 9) (y := ([(0, .inr (.inr (7, o))), (1, .inl b1)], [.inl 0, .inr (.inr (15, v6)), .inr (.inr (7, o))], h)) 1 rfl rfl rfl ?_
      refine ct_zschr C (pc := 14) (aux := 0) lkT_X7_147 rfl rfl rfl (fun v7 => ?_)
      refine ct_zV C (pc := 17) (aux := 0) [.inl v7] [] ok_X7_isAt lk_X7_153 (e_X7_isAt o v7) rfl rfl rfl rfl rfl rfl rfl rfl (fun v8 => ?_)
      refine ct_zf0 C (pc := 20) (aux := 0) (cn := .ne) (off := 9) (k' := 14) (a := v8) Iff.rfl rfl rfl rfl (fun e9 => ?_) (fun e9 => ?_)
      · refine ct_zrun C (k' := 13) (y := ([(1, .inl (ct_wr (b1 + 1))), (0, .inr (.inr (7, o)))], [], h)) 1 rfl rfl rfl ?_
        refine ct_zgoto C (pc := 26) (aux := 0) (off := (-24)) (k' := 2) rfl rfl ?_
        exact ct_zsub [1, 0] rfl (ih (ct_wr (b1 + 1)))
      · exact ct_zsub [0, 1] rfl (z4 b1)
def l_X7_takesWord_27 (G : ct_G) (o : Nat) (b11 : Int) : Nat → (Int × ct_H) → Option (Int × ct_H)
  | 0, _ => none
  | n14 + 1, b13 => (f_X7_wordOf G b13.2 b11).bind fun v15 => (ct_slen v15).bind fun v16 => if v16 ≤ b13.1 then (some (1, b13.2)) else (f_X7_wordOf G b13.2 b11).bind fun v17 => (ct_schr v17 b13.1).bind fun v18 => (f_X7_isAt G b13.2 o v18).bind fun v19 => if v19 = 0 then (some (0, b13.2)) else ct_lt (ct_wF b13.2 o 8 (ct_wr ((b13.2.1 o 8) + 1))) fun h20 => l_X7_takesWord_27 G o b11 n14 ((ct_wr (b13.1 + 1)), h20)
set_option maxRecDepth 100000 in
theorem zl_X7_takesWord_27 {x : ct_Ctx} {d : Nat} {G : ct_G} (C : ct_c x m_X7_takesWord G (d + 4)) (o : Nat) (b11 : Int) : ∀ (n14 : Nat) (b13 : Int × ct_H), ct_Z x m_X7_takesWord G 27 [(0, .inr (.inr (7, o))), (1, .inl b11), (2, .inl (b13.1))] [] b13.2 (fun a => ct_q x G ((fun r : Int × ct_H => (some (.inl (r.1) : ct_PV), r.2)) a)) (l_X7_takesWord_27 G o b11 n14 b13) := by
  intro n14
  induction n14 with
  | zero => intro b13; exact ct_znone
  | succ n14 ih =>
    intro b13
    rw [l_X7_takesWord_27]
    refine ct_zrun C (k' := 29) (y := ([(0, .inr (.inr (7, o))), (1, .inl b11), (2, .inl (b13.1))], [.inl b11, .inl (b13.1)], b13.2)) 2 rfl rfl rfl ?_
    refine ct_zS C (pc := 51) (aux := 0) [.inl b11] [.inl (b13.1)] ok_X7_wordOf lk_X7_143 (e_X7_wordOf b11) rfl rfl rfl rfl rfl rfl (fun v15 => ?_)
    refine ct_zslen C (pc := 54) (aux := 0) lkT_X7_160 rfl rfl rfl (fun v16 => ?_)
    refine ct_zt C (pc := 57) (aux := 0) (cn := .ge) (off := 36) (k' := 49) (a := b13.1) (b := v16) Iff.rfl rfl rfl rfl (fun e22 => ?_) (fun e22 => ?_)
    · refine ct_zrun C (k' := 50) (y := ([(0, .inr (.inr (7, o))), (1, .inl b11), (2, .inl (b13.1))], [.inl 1], b13.2)) 1 rfl rfl rfl ?_
      exact ct_zret C (pc := 94) (aux := 0) (ins := .ireturn) (ρ := (fun r : Int × ct_H => (some (.inl (r.1) : ct_PV), r.2))) (some (.inl 1)) rfl rfl rfl ⟨rfl, Or.inr ⟨rfl, Or.inr rfl⟩⟩
    · refine ct_zrun C (k' := 34) (y := ([(0, .inr (.inr (7, o))), (1, .inl b11), (2, .inl (b13.1))], [.inl b11, .inr (.inr (7, o))], b13.2)) 2 rfl rfl rfl ?_
      refine ct_zS C (pc := 62) (aux := 0) [.inl b11] [.inr (.inr (7, o))] ok_X7_wordOf lk_X7_143 (e_X7_wordOf b11) rfl rfl rfl rfl rfl rfl (fun v17 => ?_)
      refine ct_zrun C (k' := 36) (y := ([(0, .inr (.inr (7, o))), (1, .inl b11), (2, .inl (b13.1))], [.inl (b13.1), .inr (.inr (15, v17)), .inr (.inr (7, o))], b13.2)) 1 rfl rfl rfl ?_
      refine ct_zschr C (pc := 66) (aux := 0) lkT_X7_147 rfl rfl rfl (fun v18 => ?_)
      refine ct_zV C (pc := 69) (aux := 0) [.inl v18] [] ok_X7_isAt lk_X7_153 (e_X7_isAt o v18) rfl rfl rfl rfl rfl rfl rfl rfl (fun v19 => ?_)
      refine ct_zf0 C (pc := 72) (aux := 0) (cn := .ne) (off := 5) (k' := 41) (a := v19) Iff.rfl rfl rfl rfl (fun e21 => ?_) (fun e21 => ?_)
      · refine ct_zrun C (k' := 40) (y := ([(0, .inr (.inr (7, o))), (1, .inl b11), (2, .inl (b13.1))], [.inl 0], b13.2)) 1 rfl rfl rfl ?_
        exact ct_zret C (pc := 76) (aux := 0) (ins := .ireturn) (ρ := (fun r : Int × ct_H => (some (.inl (r.1) : ct_PV), r.2))) (some (.inl 0)) rfl rfl rfl ⟨rfl, Or.inr ⟨rfl, Or.inl rfl⟩⟩
      · refine ct_zrun C (k' := 47) (y := ([(0, .inr (.inr (7, o))), (1, .inl b11), (2, .inl (b13.1))], [], (ct_wF b13.2 o 8 (ct_wr ((b13.2.1 o 8) + 1))))) 6 rfl rfl rfl ?_
        refine ct_zlet (L := fun _ => [(0, .inr (.inr (7, o))), (1, .inl b11), (2, .inl (b13.1))]) (S := fun _ => []) (Hh := fun h20 => h20) (a := (ct_wF b13.2 o 8 (ct_wr ((b13.2.1 o 8) + 1)))) (fun h20 => ?_)
        refine ct_zrun C (k' := 48) (y := ([(2, .inl (ct_wr (b13.1 + 1))), (0, .inr (.inr (7, o))), (1, .inl b11)], [], h20)) 1 rfl rfl rfl ?_
        refine ct_zgoto C (pc := 90) (aux := 0) (off := (-41)) (k' := 27) rfl rfl ?_
        exact ct_zsub [1, 2, 0] rfl (ih ((ct_wr (b13.1 + 1)), h20))
def f_X7_takesWord (G : ct_G) (h : ct_H) (o : Nat) : Option (Int × ct_H) := l_X7_takesWord_2 G o h (fun b11 => if b11 = 6 then (some (0, h)) else (ct_wt G h (G.1 o 6) (h.1 o 9) b11).bind fun h12 => l_X7_takesWord_27 G o b11 200 (0, h12)) 200 0
set_option maxRecDepth 100000 in
theorem e_X7_takesWord {d : Nat} {G : ct_G} {h : ct_H} (o : Nat) : ct_E m_X7_takesWord (d + 4) G (ct_args 0 [.inr (.inr (7, o))]) h (fun r : Int × ct_H => (some (.inl (r.1) : ct_PV), r.2)) (f_X7_takesWord G h o) := by
  intro x C
  unfold f_X7_takesWord
  show ct_Z x m_X7_takesWord G 0 [(0, .inr (.inr (7, o)))] [] h (fun a => ct_q x G ((fun r : Int × ct_H => (some (.inl (r.1) : ct_PV), r.2)) a)) _
  refine ct_zrun C (k' := 2) (y := ([(1, .inl 0), (0, .inr (.inr (7, o)))], [], h)) 2 rfl rfl rfl ?_
  refine ct_zsub [1, 0] rfl (zl_X7_takesWord_2 C o h _ (fun b11 => ?_) 200 0)
  refine ct_zrun C (k' := 16) (y := ([(0, .inr (.inr (7, o))), (1, .inl b11)], [.inl 6, .inl b11], h)) 2 rfl rfl rfl ?_
  refine ct_zf C (pc := 32) (aux := 0) (cn := .ne) (off := 5) (k' := 19) (a := b11) (b := 6) Iff.rfl rfl rfl rfl (fun e23 => ?_) (fun e23 => ?_)
  · refine ct_zrun C (k' := 18) (y := ([(0, .inr (.inr (7, o))), (1, .inl b11)], [.inl 0], h)) 1 rfl rfl rfl ?_
    exact ct_zret C (pc := 36) (aux := 0) (ins := .ireturn) (ρ := (fun r : Int × ct_H => (some (.inl (r.1) : ct_PV), r.2))) (some (.inl 0)) rfl rfl rfl ⟨rfl, Or.inr ⟨rfl, Or.inl rfl⟩⟩
  · refine ct_zrun C (k' := 24) (y := ([(0, .inr (.inr (7, o))), (1, .inl b11)], [.inl b11, .inl (h.1 o 9), .inr (.inr (8, (G.1 o 6)))], h)) 5 rfl rfl rfl ?_
    refine ct_zwt C (pc := 46) (aux := 0) rfl rfl (fun h12 => ?_)
    refine ct_zrun C (k' := 27) (y := ([(2, .inl 0), (0, .inr (.inr (7, o))), (1, .inl b11)], [], h12)) 2 rfl rfl rfl ?_
    exact ct_zsub [1, 2, 0] rfl (zl_X7_takesWord_27 C o b11 200 (0, h12))
def l_X7_takesClause_7 (G : ct_G) (o : Nat) (k4 : ct_H → Option (Int × ct_H)) : Nat → (Int × ct_H) → Option (Int × ct_H)
  | 0, _ => none
  | n3 + 1, b2 => (ct_rd G b2.2 (G.1 o 6) (b2.2.1 o 9)).bind fun v7 => (f_X7_manyOf G b2.2 v7).bind fun v8 => if v8 ≤ b2.1 then (k4 (b2.2)) else (f_X7_takesNumber G b2.2 o b2.1).bind fun r9 => if r9.1 = 0 then (some (0, r9.2)) else l_X7_takesClause_7 G o k4 n3 ((ct_wr (b2.1 + 1)), r9.2)
set_option maxRecDepth 100000 in
theorem zl_X7_takesClause_7 {x : ct_Ctx} {d : Nat} {G : ct_G} (C : ct_c x m_X7_takesClause G (d + 5)) (o : Nat) (k4 : ct_H → Option (Int × ct_H)) (z5 : ∀ b6 : ct_H, ct_Z x m_X7_takesClause G 23 [(0, .inr (.inr (7, o)))] [] b6 (fun a => ct_q x G ((fun r : Int × ct_H => (some (.inl (r.1) : ct_PV), r.2)) a)) (k4 b6)) : ∀ (n3 : Nat) (b2 : Int × ct_H), ct_Z x m_X7_takesClause G 7 [(0, .inr (.inr (7, o))), (1, .inl (b2.1))] [] b2.2 (fun a => ct_q x G ((fun r : Int × ct_H => (some (.inl (r.1) : ct_PV), r.2)) a)) (l_X7_takesClause_7 G o k4 n3 b2) := by
  intro n3
  induction n3 with
  | zero => intro b2; exact ct_znone
  | succ n3 ih =>
    intro b2
    rw [l_X7_takesClause_7]
    refine ct_zrun C (k' := 12) (y := ([(0, .inr (.inr (7, o))), (1, .inl (b2.1))], [.inl (b2.2.1 o 9), .inr (.inr (8, (G.1 o 6))), .inl (b2.1)], b2.2)) 5 rfl rfl rfl ?_
    refine ct_zrd C (pc := 20) (aux := 0) (ins := .iaload) (cd := 8) rfl rfl (Or.inl ⟨rfl, rfl⟩) (fun v7 => ?_)
    refine ct_zS C (pc := 21) (aux := 0) [.inl v7] [.inl (b2.1)] ok_X7_manyOf lk_X7_170 (e_X7_manyOf v7) rfl rfl rfl rfl rfl rfl (fun v8 => ?_)
    refine ct_zt C (pc := 24) (aux := 0) (cn := .ge) (off := 19) (k' := 23) (a := b2.1) (b := v8) Iff.rfl rfl rfl rfl (fun e11 => ?_) (fun e11 => ?_)
    · exact ct_zsub [0] rfl (z5 (b2.2))
    · refine ct_zrun C (k' := 17) (y := ([(0, .inr (.inr (7, o))), (1, .inl (b2.1))], [.inl (b2.1), .inr (.inr (7, o))], b2.2)) 2 rfl rfl rfl ?_
      refine ct_zV C (pc := 29) (aux := 0) [.inl (b2.1)] [] ok_X7_takesNumber lk_X7_173 (e_X7_takesNumber o (b2.1)) rfl rfl rfl rfl rfl rfl rfl rfl (fun r9 => ?_)
      refine ct_zf0 C (pc := 32) (aux := 0) (cn := .ne) (off := 5) (k' := 21) (a := r9.1) Iff.rfl rfl rfl rfl (fun e10 => ?_) (fun e10 => ?_)
      · refine ct_zrun C (k' := 20) (y := ([(0, .inr (.inr (7, o))), (1, .inl (b2.1))], [.inl 0], r9.2)) 1 rfl rfl rfl ?_
        exact ct_zret C (pc := 36) (aux := 0) (ins := .ireturn) (ρ := (fun r : Int × ct_H => (some (.inl (r.1) : ct_PV), r.2))) (some (.inl 0)) rfl rfl rfl ⟨rfl, Or.inr ⟨rfl, Or.inl rfl⟩⟩
      · refine ct_zrun C (k' := 22) (y := ([(1, .inl (ct_wr (b2.1 + 1))), (0, .inr (.inr (7, o)))], [], r9.2)) 1 rfl rfl rfl ?_
        refine ct_zgoto C (pc := 40) (aux := 0) (off := (-29)) (k' := 7) rfl rfl ?_
        exact ct_zsub [1, 0] rfl (ih ((ct_wr (b2.1 + 1)), r9.2))
def f_X7_takesClause (G : ct_G) (h : ct_H) (o : Nat) : Option (Int × ct_H) := (f_X7_takesWord G h o).bind fun r1 => if r1.1 = 0 then (some (0, r1.2)) else l_X7_takesClause_7 G o (fun b12 => ct_lt (ct_wF b12 o 9 (ct_wr ((b12.1 o 9) + 1))) fun h13 => some (1, h13)) 200 (0, r1.2)
set_option maxRecDepth 100000 in
theorem e_X7_takesClause {d : Nat} {G : ct_G} {h : ct_H} (o : Nat) : ct_E m_X7_takesClause (d + 5) G (ct_args 0 [.inr (.inr (7, o))]) h (fun r : Int × ct_H => (some (.inl (r.1) : ct_PV), r.2)) (f_X7_takesClause G h o) := by
  intro x C
  unfold f_X7_takesClause
  show ct_Z x m_X7_takesClause G 0 [(0, .inr (.inr (7, o)))] [] h (fun a => ct_q x G ((fun r : Int × ct_H => (some (.inl (r.1) : ct_PV), r.2)) a)) _
  refine ct_zrun C (k' := 1) (y := ([(0, .inr (.inr (7, o)))], [.inr (.inr (7, o))], h)) 1 rfl rfl rfl ?_
  refine ct_zV C (pc := 1) (aux := 0) [] [] ok_X7_takesWord lk_X7_167 (e_X7_takesWord o) rfl rfl rfl rfl rfl rfl rfl rfl (fun r1 => ?_)
  refine ct_zf0 C (pc := 4) (aux := 0) (cn := .ne) (off := 5) (k' := 5) (a := r1.1) Iff.rfl rfl rfl rfl (fun e14 => ?_) (fun e14 => ?_)
  · refine ct_zrun C (k' := 4) (y := ([(0, .inr (.inr (7, o)))], [.inl 0], r1.2)) 1 rfl rfl rfl ?_
    exact ct_zret C (pc := 8) (aux := 0) (ins := .ireturn) (ρ := (fun r : Int × ct_H => (some (.inl (r.1) : ct_PV), r.2))) (some (.inl 0)) rfl rfl rfl ⟨rfl, Or.inr ⟨rfl, Or.inl rfl⟩⟩
  · refine ct_zrun C (k' := 7) (y := ([(1, .inl 0), (0, .inr (.inr (7, o)))], [], r1.2)) 2 rfl rfl rfl ?_
    refine ct_zsub [1, 0] rfl (zl_X7_takesClause_7 C o _ (fun b12 => ?_) 200 (0, r1.2))
    refine ct_zrun C (k' := 29) (y := ([(0, .inr (.inr (7, o)))], [], (ct_wF b12 o 9 (ct_wr ((b12.1 o 9) + 1))))) 6 rfl rfl rfl ?_
    refine ct_zlet (L := fun _ => [(0, .inr (.inr (7, o)))]) (S := fun _ => []) (Hh := fun h13 => h13) (a := (ct_wF b12 o 9 (ct_wr ((b12.1 o 9) + 1)))) (fun h13 => ?_)
    refine ct_zrun C (k' := 30) (y := ([(0, .inr (.inr (7, o)))], [.inl 1], h13)) 1 rfl rfl rfl ?_
    exact ct_zret C (pc := 54) (aux := 0) (ins := .ireturn) (ρ := (fun r : Int × ct_H => (some (.inl (r.1) : ct_PV), r.2))) (some (.inl 1)) rfl rfl rfl ⟨rfl, Or.inr ⟨rfl, Or.inr rfl⟩⟩
def l_X7_takesAll_11 (G : ct_G) (o : Nat) : Nat → ct_H → Option (Int × ct_H)
  | 0, _ => none
  | n5 + 1, b4 => if (b4.1 o 5) ≤ (b4.1 o 8) then (some (1, b4)) else if (b4.1 o 9) = 12 then (some (0, b4)) else (f_X7_isAt G b4 o 59).bind fun v6 => if v6 = 0 then (some (0, b4)) else ct_lt (ct_wF b4 o 8 (ct_wr ((b4.1 o 8) + 1))) fun h7 => (f_X7_takesClause G h7 o).bind fun r8 => if r8.1 = 0 then (some (0, r8.2)) else l_X7_takesAll_11 G o n5 (r8.2)
set_option maxRecDepth 100000 in
theorem zl_X7_takesAll_11 {x : ct_Ctx} {d : Nat} {G : ct_G} (C : ct_c x m_X7_takesAll G (d + 6)) (o : Nat) : ∀ (n5 : Nat) (b4 : ct_H), ct_Z x m_X7_takesAll G 11 [(0, .inr (.inr (7, o)))] [] b4 (fun a => ct_q x G ((fun r : Int × ct_H => (some (.inl (r.1) : ct_PV), r.2)) a)) (l_X7_takesAll_11 G o n5 b4) := by
  intro n5
  induction n5 with
  | zero => intro b4; exact ct_znone
  | succ n5 ih =>
    intro b4
    rw [l_X7_takesAll_11]
    refine ct_zrun C (k' := 15) (y := ([(0, .inr (.inr (7, o)))], [.inl (b4.1 o 5), .inl (b4.1 o 8)], b4)) 4 rfl rfl rfl ?_
    refine ct_zt C (pc := 27) (aux := 0) (cn := .ge) (off := 42) (k' := 37) (a := (b4.1 o 8)) (b := (b4.1 o 5)) Iff.rfl rfl rfl rfl (fun e12 => ?_) (fun e12 => ?_)
    · refine ct_zrun C (k' := 38) (y := ([(0, .inr (.inr (7, o)))], [.inl 1], b4)) 1 rfl rfl rfl ?_
      exact ct_zret C (pc := 70) (aux := 0) (ins := .ireturn) (ρ := (fun r : Int × ct_H => (some (.inl (r.1) : ct_PV), r.2))) (some (.inl 1)) rfl rfl rfl ⟨rfl, Or.inr ⟨rfl, Or.inr rfl⟩⟩
    · refine ct_zrun C (k' := 19) (y := ([(0, .inr (.inr (7, o)))], [.inl 12, .inl (b4.1 o 9)], b4)) 3 rfl rfl rfl ?_
      refine ct_zt C (pc := 36) (aux := 0) (cn := .eq) (off := 12) (k' := 24) (a := (b4.1 o 9)) (b := 12) Iff.rfl rfl rfl rfl (fun e11 => ?_) (fun e11 => ?_)
      · refine ct_zrun C (k' := 25) (y := ([(0, .inr (.inr (7, o)))], [.inl 0], b4)) 1 rfl rfl rfl ?_
        exact ct_zret C (pc := 49) (aux := 0) (ins := .ireturn) (ρ := (fun r : Int × ct_H => (some (.inl (r.1) : ct_PV), r.2))) (some (.inl 0)) rfl rfl rfl ⟨rfl, Or.inr ⟨rfl, Or.inl rfl⟩⟩
      · refine ct_zrun C (k' := 22) (y := ([(0, .inr (.inr (7, o)))], [.inl 59, .inr (.inr (7, o))], b4)) 2 rfl rfl rfl ?_
        refine ct_zV C (pc := 42) (aux := 0) [.inl 59] [] ok_X7_isAt lk_X7_153 (e_X7_isAt o 59) rfl rfl rfl rfl rfl rfl rfl rfl (fun v6 => ?_)
        refine ct_zf0 C (pc := 45) (aux := 0) (cn := .ne) (off := 5) (k' := 26) (a := v6) Iff.rfl rfl rfl rfl (fun e10 => ?_) (fun e10 => ?_)
        · refine ct_zrun C (k' := 25) (y := ([(0, .inr (.inr (7, o)))], [.inl 0], b4)) 1 rfl rfl rfl ?_
          exact ct_zret C (pc := 49) (aux := 0) (ins := .ireturn) (ρ := (fun r : Int × ct_H => (some (.inl (r.1) : ct_PV), r.2))) (some (.inl 0)) rfl rfl rfl ⟨rfl, Or.inr ⟨rfl, Or.inl rfl⟩⟩
        · refine ct_zrun C (k' := 32) (y := ([(0, .inr (.inr (7, o)))], [], (ct_wF b4 o 8 (ct_wr ((b4.1 o 8) + 1))))) 6 rfl rfl rfl ?_
          refine ct_zlet (L := fun _ => [(0, .inr (.inr (7, o)))]) (S := fun _ => []) (Hh := fun h7 => h7) (a := (ct_wF b4 o 8 (ct_wr ((b4.1 o 8) + 1)))) (fun h7 => ?_)
          refine ct_zrun C (k' := 33) (y := ([(0, .inr (.inr (7, o)))], [.inr (.inr (7, o))], h7)) 1 rfl rfl rfl ?_
          refine ct_zV C (pc := 61) (aux := 0) [] [] ok_X7_takesClause lk_X7_176 (e_X7_takesClause o) rfl rfl rfl rfl rfl rfl rfl rfl (fun r8 => ?_)
          refine ct_zf0 C (pc := 64) (aux := 0) (cn := .ne) (off := (-45)) (k' := 11) (a := r8.1) Iff.rfl rfl rfl rfl (fun e9 => ?_) (fun e9 => ?_)
          · refine ct_zrun C (k' := 36) (y := ([(0, .inr (.inr (7, o)))], [.inl 0], r8.2)) 1 rfl rfl rfl ?_
            exact ct_zret C (pc := 68) (aux := 0) (ins := .ireturn) (ρ := (fun r : Int × ct_H => (some (.inl (r.1) : ct_PV), r.2))) (some (.inl 0)) rfl rfl rfl ⟨rfl, Or.inr ⟨rfl, Or.inl rfl⟩⟩
          · exact ct_zsub [0] rfl (ih (r8.2))
def f_X7_takesAll (G : ct_G) (h : ct_H) (o : Nat) : Option (Int × ct_H) := ct_lt (ct_wF h o 8 0) fun h1 => ct_lt (ct_wF h1 o 9 0) fun h2 => (f_X7_takesClause G h2 o).bind fun r3 => if r3.1 = 0 then (some (0, r3.2)) else l_X7_takesAll_11 G o 200 (r3.2)
set_option maxRecDepth 100000 in
theorem e_X7_takesAll {d : Nat} {G : ct_G} {h : ct_H} (o : Nat) : ct_E m_X7_takesAll (d + 6) G (ct_args 0 [.inr (.inr (7, o))]) h (fun r : Int × ct_H => (some (.inl (r.1) : ct_PV), r.2)) (f_X7_takesAll G h o) := by
  intro x C
  unfold f_X7_takesAll
  show ct_Z x m_X7_takesAll G 0 [(0, .inr (.inr (7, o)))] [] h (fun a => ct_q x G ((fun r : Int × ct_H => (some (.inl (r.1) : ct_PV), r.2)) a)) _
  refine ct_zrun C (k' := 3) (y := ([(0, .inr (.inr (7, o)))], [], (ct_wF h o 8 0))) 3 rfl rfl rfl ?_
  refine ct_zlet (L := fun _ => [(0, .inr (.inr (7, o)))]) (S := fun _ => []) (Hh := fun h1 => h1) (a := (ct_wF h o 8 0)) (fun h1 => ?_)
  refine ct_zrun C (k' := 6) (y := ([(0, .inr (.inr (7, o)))], [], (ct_wF h1 o 9 0))) 3 rfl rfl rfl ?_
  refine ct_zlet (L := fun _ => [(0, .inr (.inr (7, o)))]) (S := fun _ => []) (Hh := fun h2 => h2) (a := (ct_wF h1 o 9 0)) (fun h2 => ?_)
  refine ct_zrun C (k' := 7) (y := ([(0, .inr (.inr (7, o)))], [.inr (.inr (7, o))], h2)) 1 rfl rfl rfl ?_
  refine ct_zV C (pc := 11) (aux := 0) [] [] ok_X7_takesClause lk_X7_176 (e_X7_takesClause o) rfl rfl rfl rfl rfl rfl rfl rfl (fun r3 => ?_)
  refine ct_zf0 C (pc := 14) (aux := 0) (cn := .ne) (off := 5) (k' := 11) (a := r3.1) Iff.rfl rfl rfl rfl (fun e13 => ?_) (fun e13 => ?_)
  · refine ct_zrun C (k' := 10) (y := ([(0, .inr (.inr (7, o)))], [.inl 0], r3.2)) 1 rfl rfl rfl ?_
    exact ct_zret C (pc := 18) (aux := 0) (ins := .ireturn) (ρ := (fun r : Int × ct_H => (some (.inl (r.1) : ct_PV), r.2))) (some (.inl 0)) rfl rfl rfl ⟨rfl, Or.inr ⟨rfl, Or.inl rfl⟩⟩
  · exact ct_zsub [0] rfl (zl_X7_takesAll_11 C o 200 (r3.2))
def l_X7_read_17 (G : ct_G) (o : Nat) : Nat → (Int × Int × ct_H) → Option (Int × ct_H)
  | 0, _ => none
  | n4 + 1, b3 => if (b3.2.2.1 o 9) ≤ b3.2.1 then (some (b3.1, b3.2.2)) else (f_X7_done G b3.2.2 o b3.2.1).bind fun r5 => ct_jn (β := Int) (fun k7 => if r5.1 < 0 then (k7 (b3.1)) else k7 (ct_wr (b3.1 + 1))) (fun b6 => l_X7_read_17 G o n4 (b6, (ct_wr (b3.2.1 + 1)), r5.2))
set_option maxRecDepth 100000 in
theorem zl_X7_read_17 {x : ct_Ctx} {d : Nat} {G : ct_G} (C : ct_c x m_X7_read G (d + 7)) (o : Nat) : ∀ (n4 : Nat) (b3 : Int × Int × ct_H), ct_Z x m_X7_read G 17 [(0, .inr (.inr (7, o))), (2, .inl (b3.1)), (3, .inl (b3.2.1))] [] b3.2.2 (fun a => ct_q x G ((fun r : Int × ct_H => (some (.inl (r.1) : ct_PV), r.2)) a)) (l_X7_read_17 G o n4 b3) := by
  intro n4
  induction n4 with
  | zero => intro b3; exact ct_znone
  | succ n4 ih =>
    intro b3
    rw [l_X7_read_17]
    refine ct_zrun C (k' := 20) (y := ([(0, .inr (.inr (7, o))), (2, .inl (b3.1)), (3, .inl (b3.2.1))], [.inl (b3.2.2.1 o 9), .inl (b3.2.1)], b3.2.2)) 3 rfl rfl rfl ?_
    refine ct_zt C (pc := 31) (aux := 0) (cn := .ge) (off := 20) (k' := 28) (a := b3.2.1) (b := (b3.2.2.1 o 9)) Iff.rfl rfl rfl rfl (fun e10 => ?_) (fun e10 => ?_)
    · refine ct_zrun C (k' := 29) (y := ([(0, .inr (.inr (7, o))), (2, .inl (b3.1)), (3, .inl (b3.2.1))], [.inl (b3.1)], b3.2.2)) 1 rfl rfl rfl ?_
      exact ct_zret C (pc := 52) (aux := 0) (ins := .ireturn) (ρ := (fun r : Int × ct_H => (some (.inl (r.1) : ct_PV), r.2))) (some (.inl (b3.1))) rfl rfl rfl ⟨rfl, Or.inl rfl⟩
    · refine ct_zrun C (k' := 23) (y := ([(0, .inr (.inr (7, o))), (2, .inl (b3.1)), (3, .inl (b3.2.1))], [.inl (b3.2.1), .inr (.inr (7, o))], b3.2.2)) 2 rfl rfl rfl ?_
      refine ct_zV C (pc := 36) (aux := 0) [.inl (b3.2.1)] [] ok_X7_done lk_X7_196 (e_X7_done o (b3.2.1)) rfl rfl rfl rfl rfl rfl rfl rfl (fun r5 => ?_)
      refine ct_zjn (β := Int) (kJ := 26) (L := fun b6 => [(0, .inr (.inr (7, o))), (2, .inl b6), (3, .inl (b3.2.1))]) (S := fun b6 => []) (Hh := fun b6 => r5.2) (fun b6 => ?_) (fun k7 z8 => ?_)
      · refine ct_zrun C (k' := 27) (y := ([(3, .inl (ct_wr (b3.2.1 + 1))), (0, .inr (.inr (7, o))), (2, .inl b6)], [], r5.2)) 1 rfl rfl rfl ?_
        refine ct_zgoto C (pc := 48) (aux := 0) (off := (-22)) (k' := 17) rfl rfl ?_
        exact ct_zsub [1, 2, 0] rfl (ih (b6, (ct_wr (b3.2.1 + 1)), r5.2))
      · refine ct_zt0 C (pc := 39) (aux := 0) (cn := .lt) (off := 6) (k' := 26) (a := r5.1) Iff.rfl rfl rfl rfl (fun e9 => ?_) (fun e9 => ?_)
        · exact ct_zsub [0, 1, 2] rfl (z8 (b3.1))
        · refine ct_zrun C (k' := 26) (y := ([(2, .inl (ct_wr (b3.1 + 1))), (0, .inr (.inr (7, o))), (3, .inl (b3.2.1))], [], r5.2)) 1 rfl rfl rfl ?_
          exact ct_zsub [1, 0, 2] rfl (z8 (ct_wr (b3.1 + 1)))
def f_X7_read (G : ct_G) (h : ct_H) (o : Nat) : Option (Int × ct_H) := (f_X7_takesAll G h o).bind fun r1 => ct_lt (ct_wF r1.2 o 5 0) fun h2 => if r1.1 = 0 then (some ((ct_wr ((-10) - (h2.1 o 8))), h2)) else l_X7_read_17 G o 200 (0, 0, h2)
set_option maxRecDepth 100000 in
theorem e_X7_read {d : Nat} {G : ct_G} {h : ct_H} (o : Nat) : ct_E m_X7_read (d + 7) G (ct_args 0 [.inr (.inr (7, o))]) h (fun r : Int × ct_H => (some (.inl (r.1) : ct_PV), r.2)) (f_X7_read G h o) := by
  intro x C
  unfold f_X7_read
  show ct_Z x m_X7_read G 0 [(0, .inr (.inr (7, o)))] [] h (fun a => ct_q x G ((fun r : Int × ct_H => (some (.inl (r.1) : ct_PV), r.2)) a)) _
  refine ct_zrun C (k' := 1) (y := ([(0, .inr (.inr (7, o)))], [.inr (.inr (7, o))], h)) 1 rfl rfl rfl ?_
  refine ct_zV C (pc := 1) (aux := 0) [] [] ok_X7_takesAll lk_X7_193 (e_X7_takesAll o) rfl rfl rfl rfl rfl rfl rfl rfl (fun r1 => ?_)
  refine ct_zrun C (k' := 6) (y := ([(1, .inl (r1.1)), (0, .inr (.inr (7, o)))], [], (ct_wF r1.2 o 5 0))) 4 rfl rfl rfl ?_
  refine ct_zlet (L := fun _ => [(1, .inl (r1.1)), (0, .inr (.inr (7, o)))]) (S := fun _ => []) (Hh := fun h2 => h2) (a := (ct_wF r1.2 o 5 0)) (fun h2 => ?_)
  refine ct_zrun C (k' := 7) (y := ([(1, .inl (r1.1)), (0, .inr (.inr (7, o)))], [.inl (r1.1)], h2)) 1 rfl rfl rfl ?_
  refine ct_zf0 C (pc := 11) (aux := 0) (cn := .ne) (off := 11) (k' := 13) (a := r1.1) Iff.rfl rfl rfl rfl (fun e11 => ?_) (fun e11 => ?_)
  · refine ct_zrun C (k' := 12) (y := ([(1, .inl (r1.1)), (0, .inr (.inr (7, o)))], [.inl (ct_wr ((-10) - (h2.1 o 8)))], h2)) 4 rfl rfl rfl ?_
    exact ct_zret C (pc := 21) (aux := 0) (ins := .ireturn) (ρ := (fun r : Int × ct_H => (some (.inl (r.1) : ct_PV), r.2))) (some (.inl (ct_wr ((-10) - (h2.1 o 8))))) rfl rfl rfl ⟨rfl, Or.inl rfl⟩
  · refine ct_zrun C (k' := 17) (y := ([(3, .inl 0), (2, .inl 0), (1, .inl (r1.1)), (0, .inr (.inr (7, o)))], [], h2)) 4 rfl rfl rfl ?_
    exact ct_zsub [3, 1, 0] rfl (zl_X7_read_17 C o 200 (0, 0, h2))
