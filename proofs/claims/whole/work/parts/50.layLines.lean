/-! the reference: layLines -/
def MO (G : ct_G) (o c cX cL cO cB : Nat) : Prop := G.1 o 10 = cX ∧ G.2 cX = 162 ∧ G.1 o 11 = cL ∧ G.2 cL = 162 ∧ G.1 o 12 = cO ∧ G.2 cO = 162 ∧ G.1 o 13 = cB ∧ G.2 cB = 99 ∧ o < c ∧ c < cX ∧ cX < cL ∧ cL < cO ∧ cO < cB
def MF (G : ct_G) (o c hi wi : Nat) (f : Nat → Int) : Prop := G.1 o 3 = c ∧ G.2 c = 49 ∧ f 0 = hi ∧ f 1 = wi ∧ (2 ≤ hi ∧ hi ≤ 7) ∧ (2 ≤ wi ∧ wi ≤ 7) ∧ 0 ≤ f 2 ∧ f 2 ≤ 4
theorem MF.md {G : ct_G} {h : ct_H} {o c hi wi : Nat} {f : Nat → Int} (m : MF G o c hi wi f) (n : c ≠ o) (e : h.1 o = f) : MD G h o c hi wi := ⟨m.1, m.2.1, n, by rw [e]; exact m.2.2.1, by rw [e]; exact m.2.2.2.1, m.2.2.2.2.1, m.2.2.2.2.2.1⟩
theorem MF.up {G : ct_G} {o c hi wi : Nat} {f : Nat → Int} (m : MF G o c hi wi f) {j : Nat} (hj : 3 ≤ j) (v : Int) : MF G o c hi wi (up f j v) := by
  obtain ⟨m1, m2, m3, m4, m5, m6, m7, m8⟩ := m
  exact ⟨m1, m2, by rw [up_other _ _ (by omega)]; exact m3, by rw [up_other _ _ (by omega)]; exact m4, m5, m6, by rw [up_other _ _ (by omega)]; exact m7, by rw [up_other _ _ (by omega)]; exact m8⟩
section
variable {G : ct_G} {h : ct_H} {o c cX cL cO cB hi wi : Nat} {L : Int} {F f : Nat → Int}
theorem m_next (mo : MO G o c cX cL cO cB) (m : MF G o c hi wi f) (hf : h.1 o = f) (r : RH F (h.1 c) hi wi) (rm : RM F hi wi) (hl : 0 ≤ L ∧ L ≤ 99) (hX : ∀ j, j < 162 → h.1 cX j = XE F hi wi L j) {e : Nat} (ce : CE F hi wi L e) : f_X7_behind G h o L (e : Int) = some ((nx F (wi + 2) (f 2) L e : Nat) : Int) := by
  obtain ⟨p1, p2, p3, p4, p5, p6, p7, p8, q1, q2, q3, q4, q5⟩ := mo
  have g8 := m.2.2.2.2.1
  have g9 := m.2.2.2.2.2.1
  have ic := inner_cor (F := F) (L := L) g8 g9 ce.1
  have il := inner_lt g8 g9 ce.1
  have := m_behind (m.md (by omega) hf) r hl (by rw [hf]; exact m.2.2.2.2.2.2) (by omega) ce.1 ce.2 p1 p2 (fun i hi4 => by
    have ed := sid_edg g8 g9 ic.1 ic.2.1 hi4
    have sl := sq_lt g8 g9 ic.1 ic.2.1
    have hN := N81 g8 g9
    rw [hX _ (by have := sid_c (s := wi + 2) (q := ecor F (wi + 2) L e) hi4; omega)]
    unfold edg at ed
    unfold XE
    rw [if_pos ed])
  rw [hf] at this
  exact this
theorem m_folL (mo : MO G o c cX cL cO cB) (m : MF G o c hi wi f) (r : RH F (h.1 c) hi wi) (rm : RM F hi wi) (hl : 0 ≤ L ∧ L ≤ 99) (hX : ∀ j, j < 162 → h.1 cX j = XE F hi wi L j) {nl : Nat} (hn : f 14 = (nl : Int)) (K : ct_H → Option ct_H) : ∀ (n e : Nat) (lf od : Nat → Int) (nd : Nat), CE F hi wi L e → unm lf < n → (nd : Int) + unm lf = 162 → l_X7_layLines_76 G o L K n ((e : Int), hs (hs (hs h cL lf) cO od) o (up f 15 nd)) = K (hs (hs (hs h cL (fol (nx F (wi + 2) (f 2) L) nl n e lf od nd).1) cO (fol (nx F (wi + 2) (f 2) L) nl n e lf od nd).2.1) o (up f 15 ((fol (nx F (wi + 2) (f 2) L) nl n e lf od nd).2.2 : Nat)))
  | 0, e, lf, od, nd, ce, hu, hd => by have := unm_nonneg lf; omega
  | n + 1, e, lf, od, nd, ce, hu, hd => by
    have g8 := m.2.2.2.2.1
    have g9 := m.2.2.2.2.2.1
    have cn := (CE_n (kd := f 2) g8 g9 rm hl.1).1 e ce
    obtain ⟨p1, p2, p3, p4, p5, p6, p7, p8, q1, q2, q3, q4, q5⟩ := mo
    have mo : MO G o c cX cL cO cB := ⟨p1, p2, p3, p4, p5, p6, p7, p8, q1, q2, q3, q4, q5⟩
    have eL : ∀ X Y Z, (hs (hs (hs h cL X) cO Y) o Z).1 cL = X := fun X Y Z => by rw [hs_orow _ _ (by omega), hs_orow _ _ (by omega), hs_row]
    have eO : ∀ X Y Z, (hs (hs (hs h cL X) cO Y) o Z).1 cO = Y := fun X Y Z => by rw [hs_orow _ _ (by omega), hs_row]
    have eo : ∀ X Y Z, (hs (hs (hs h cL X) cO Y) o Z).1 o = Z := fun X Y Z => by rw [hs_row]
    have ec : ∀ X Y Z, (hs (hs (hs h cL X) cO Y) o Z).1 c = h.1 c := fun X Y Z => by rw [hs_orow _ _ (by omega), hs_orow _ _ (by omega), hs_orow _ _ (by omega)]
    have eX : ∀ X Y Z, (hs (hs (hs h cL X) cO Y) o Z).1 cX = h.1 cX := fun X Y Z => by rw [hs_orow _ _ (by omega), hs_orow _ _ (by omega), hs_orow _ _ (by omega)]
    rw [l_X7_layLines_76, fol]
    dsimp only
    rw [p3, rdN (by omega), bs, eL]
    by_cases z : lf e = -5
    · have up1 := unm_pos cn.1 z
      rw [if_pos z, if_pos z, eo, up_other _ _ (show (14 : Nat) ≠ 15 by omega), hn, wtN (by omega), bs, p5, eL]
      have w1 : ∀ X X' Y Z, hs (hs (hs (hs h cL X) cO Y) o Z) cL X' = hs (hs (hs h cL X') cO Y) o Z := fun X X' Y Z => by
        rw [hs_comm _ _ _ (show o ≠ cL by omega), hs_comm _ _ _ (show cO ≠ cL by omega), hs_hs]
      have w2 : ∀ X Y Y' Z, hs (hs (hs (hs h cL X) cO Y) o Z) cO Y' = hs (hs (hs h cL X) cO Y') o Z := fun X Y Y' Z => by
        rw [hs_comm _ _ _ (show o ≠ cO by omega), hs_hs]
      rw [w1, eo, up_same, wtN (by omega), bs, eO, w2, lt_eq, ct_wF_hs, eo, up_same, hs_hs]
      have e4 : up (up f 15 (nd : Int)) 15 (ct_wr ((nd : Int) + 1)) = up f 15 ((nd + 1 : Nat) : Int) := by
        rw [wr_id (by omega) (by omega)]
        funext j; unfold up; split <;> rfl
      rw [e4]
      have q := m_next (h := hs (hs (hs h cL (up lf e nl)) cO (up od nd (e : Int))) o (up f 15 ((nd + 1 : Nat) : Int))) (L := L) mo (m.up (j := 15) (by omega) _) (eo _ _ _) (F := F) (by rw [ec]; exact r) rm hl (by rw [eX]; exact hX) ce
      rw [up_other _ _ (show (2 : Nat) ≠ 15 by omega)] at q
      rw [q, bs]
      exact m_folL mo m r rm hl hX hn K n _ _ _ _ cn.2 (by rw [unm_up cn.1 (by omega) z]; omega) (by rw [unm_up cn.1 (by omega) z]; omega)
    · rw [if_neg z, if_neg z]
def HY (h : ct_H) (o cL cO cB : Nat) (f B : Nat → Int) (t : LSt) : ct_H := hs (hs (hs (hs h cB B) cL t.1) cO t.2.1) o (up (up f 14 (t.2.2.2.1 : Nat)) 15 (t.2.2.2.2 : Nat))
theorem m_layL (mo : MO G o c cX cL cO cB) (m : MF G o c hi wi f) (r : RH F (h.1 c) hi wi) (rm : RM F hi wi) (hl : 0 ≤ L ∧ L ≤ 99) (hX : ∀ j, j < 162 → h.1 cX j = XE F hi wi L j) (K : ct_H → Option ct_H) : ∀ (k i n : Nat) (t : LSt) (B : Nat → Int), i + k = 162 → k < n → LIt (nx F (wi + 2) (f 2) L) (CE F hi wi L) t → (∀ j, j < t.2.2.2.1 → B j = t.2.2.1 j) → ∃ B' : Nat → Int, (∀ j, j < (scn (nx F (wi + 2) (f 2) L) (XE F hi wi L) k i t).2.2.2.1 → B' j = (scn (nx F (wi + 2) (f 2) L) (XE F hi wi L) k i t).2.2.1 j) ∧ l_X7_layLines_52 G o L K n ((i : Int), HY h o cL cO cB f B t) = K (HY h o cL cO cB f B' (scn (nx F (wi + 2) (f 2) L) (XE F hi wi L) k i t))
  | 0, i, n + 1, t, B, h1, h2, li, hB => by
    refine ⟨B, hB, ?_⟩
    rw [l_X7_layLines_52, if_pos (by dsimp only; omega)]
    rfl
  | k + 1, i, n + 1, t, B, h1, h2, li, hB => by
    have g8 := m.2.2.2.2.1
    have g9 := m.2.2.2.2.2.1
    have cn := CE_n (kd := f 2) g8 g9 rm hl.1
    have h37 := LI_37 g8 g9 li
    have s1 := stp_LI cn.1 cn.2.1 cn.2.2.1 li (cn.2.2.2 i)
    obtain ⟨p1, p2, p3, p4, p5, p6, p7, p8, q1, q2, q3, q4, q5⟩ := mo
    have mo : MO G o c cX cL cO cB := ⟨p1, p2, p3, p4, p5, p6, p7, p8, q1, q2, q3, q4, q5⟩
    have rX : (HY h o cL cO cB f B t).1 cX = h.1 cX := by unfold HY; rw [hs_orow _ _ (by omega), hs_orow _ _ (by omega), hs_orow _ _ (by omega), hs_orow _ _ (by omega)]
    have rL : (HY h o cL cO cB f B t).1 cL = t.1 := by unfold HY; rw [hs_orow _ _ (by omega), hs_orow _ _ (by omega), hs_row]
    have ro : (HY h o cL cO cB f B t).1 o = up (up f 14 (t.2.2.2.1 : Nat)) 15 (t.2.2.2.2 : Nat) := by unfold HY; rw [hs_row]
    have rB : (HY h o cL cO cB f B t).1 cB = B := by unfold HY; rw [hs_orow _ _ (by omega), hs_orow _ _ (by omega), hs_orow _ _ (by omega), hs_row]
    rw [scn]
    have key : ∃ B1 : Nat → Int, (∀ j, j < (stp (nx F (wi + 2) (f 2) L) (XE F hi wi L) i t).2.2.2.1 → B1 j = (stp (nx F (wi + 2) (f 2) L) (XE F hi wi L) i t).2.2.1 j) ∧ l_X7_layLines_52 G o L K (n + 1) ((i : Int), HY h o cL cO cB f B t) = l_X7_layLines_52 G o L K n (((i + 1 : Nat) : Int), HY h o cL cO cB f B1 (stp (nx F (wi + 2) (f 2) L) (XE F hi wi L) i t)) := by
      rw [l_X7_layLines_52, if_neg (by dsimp only; omega)]
      dsimp only
      rw [p1, rdN (by omega), bs, rX, hX i (by omega), jn_eq, wr_id (by omega) (by omega), show (i : Int) + 1 = ((i + 1 : Nat) : Int) by omega]
      by_cases z : XE F hi wi L i = 1
      · rw [if_neg (by omega), p3, rdN (by omega), bs, rL]
        by_cases y : t.1 i = -5
        · rw [if_pos y, ro, up_other _ _ (show (14 : Nat) ≠ 15 by omega), up_same, up_same, p7, wtN (by omega), bs, rB]
          have e1 : hs (HY h o cL cO cB f B t) cB (up B t.2.2.2.1 (t.2.2.2.2 : Nat)) = hs (hs (hs (hs h cB (up B t.2.2.2.1 (t.2.2.2.2 : Nat))) cL t.1) cO t.2.1) o (up (up f 14 (t.2.2.2.1 : Nat)) 15 (t.2.2.2.2 : Nat)) := by
            unfold HY
            rw [hs_comm _ _ _ (show o ≠ cB by omega), hs_comm _ _ _ (show cO ≠ cB by omega), hs_comm _ _ _ (show cL ≠ cB by omega), hs_hs]
          have b3 : (t.2.2.2.2 : Int) + unm t.1 = 162 := li.2.2.1
          have u0 := unm_nonneg t.1
          have q := fun K' => m_folL (h := hs h cB (up B t.2.2.2.1 (t.2.2.2.2 : Nat))) (L := L) (f := up f 14 (t.2.2.2.1 : Nat)) mo (m.up (by omega) _) (F := F) (by rw [hs_orow _ _ (by omega)]; exact r) rm hl (by rw [hs_orow _ _ (by omega)]; exact hX) (nl := t.2.2.2.1) (up_same _ _ _) K' 200 i t.1 t.2.1 t.2.2.2.2 (cn.2.2.2 i z) (by omega) (by omega)
          rw [up_other _ _ (show (2 : Nat) ≠ 14 by omega)] at q
          rw [e1, q]
          have e2 : stp (nx F (wi + 2) (f 2) L) (XE F hi wi L) i t = ((fol (nx F (wi + 2) (f 2) L) t.2.2.2.1 200 i t.1 t.2.1 t.2.2.2.2).1, (fol (nx F (wi + 2) (f 2) L) t.2.2.2.1 200 i t.1 t.2.1 t.2.2.2.2).2.1, up t.2.2.1 (t.2.2.2.1 + 1) (fol (nx F (wi + 2) (f 2) L) t.2.2.2.1 200 i t.1 t.2.1 t.2.2.2.2).2.2, t.2.2.2.1 + 1, (fol (nx F (wi + 2) (f 2) L) t.2.2.2.1 200 i t.1 t.2.1 t.2.2.2.2).2.2) := by
            unfold stp; rw [if_pos ⟨z, y⟩]
          rw [e2]
          refine ⟨up B t.2.2.2.1 (t.2.2.2.2 : Nat), ?_, ?_⟩
          · intro j hj
            dsimp only at hj ⊢
            rw [up_other t.2.2.1 _ (by omega)]
            by_cases w : j = t.2.2.2.1
            · subst w; rw [up_same]; exact li.2.1.symm
            · rw [up_other _ _ w]; exact hB j (by omega)
          · dsimp only
            rw [lt_eq, ct_wF_hs, hs_row, hs_hs, up_other _ _ (show (14 : Nat) ≠ 15 by omega), up_same, wr_id (by omega) (by omega)]
            unfold HY
            dsimp only
            congr 3
            funext j
            unfold up
            by_cases j14 : j = 14
            · subst j14; simp
            · by_cases j15 : j = 15
              · subst j15; simp
              · simp [j14, j15]
        · rw [if_neg y]
          have e2 : stp (nx F (wi + 2) (f 2) L) (XE F hi wi L) i t = t := by unfold stp; rw [if_neg (fun w => y w.2)]
          rw [e2]
          exact ⟨B, hB, rfl⟩
      · have z0 : XE F hi wi L i = 0 := (XE01 F hi wi L i).resolve_right z
        rw [if_pos z0]
        have e2 : stp (nx F (wi + 2) (f 2) L) (XE F hi wi L) i t = t := by unfold stp; rw [if_neg (fun w => z w.1)]
        rw [e2]
        exact ⟨B, hB, rfl⟩
    obtain ⟨B1, b1, b2⟩ := key
    obtain ⟨B', b3, b4⟩ := m_layL mo m r rm hl hX K k (i + 1) n _ B1 (by omega) (by omega) s1.1 b1
    exact ⟨B', b3, b2.trans b4⟩
theorem m_layLines (mo : MO G o c cX cL cO cB) (m : MF G o c hi wi (h.1 o)) (r : RH F (h.1 c) hi wi) (rm : RM F hi wi) (hl : 0 ≤ L ∧ L ≤ 99) : ∃ h' : ct_H, f_X7_layLines G h o L = some h' ∧ LR (h'.1 cL) (h'.1 cO) (h'.1 cB) (h'.1 o 14) F hi wi (h.1 o 2) L ∧ h'.2 = h.2 ∧ (∀ j, j ≠ 14 → j ≠ 15 → h'.1 o j = h.1 o j) ∧ ∀ a, a ≠ o → a ≠ cX → a ≠ cL → a ≠ cO → a ≠ cB → h'.1 a = h.1 a := by
  have g8 := m.2.2.2.2.1
  have g9 := m.2.2.2.2.2.1
  have cn := CE_n (kd := h.1 o 2) g8 g9 rm hl.1
  obtain ⟨p1, p2, p3, p4, p5, p6, p7, p8, q1, q2, q3, q4, q5⟩ := mo
  have mo : MO G o c cX cL cO cB := ⟨p1, p2, p3, p4, p5, p6, p7, p8, q1, q2, q3, q4, q5⟩
  unfold f_X7_layLines
  have c1 := fun K => m_crossL (h := h) (L := L) (m.md (by omega) rfl) r (cX := cX) (cL := cL) p1 p2 p3 p4 (by omega) (by omega) (by omega) (by omega) (by omega) K 162 0 200 (h.1 cX) (h.1 cL) (by omega) (by omega)
  rw [hs_self, hs_self] at c1
  have c2 := c1 (fun b30 => ct_lt (ct_wF b30 o 14 0) fun h31 => ct_lt (ct_wF h31 o 15 0) fun h32 => l_X7_layLines_52 G o L (fun b61 => (ct_wt G b61 (G.1 o 13) (b61.1 o 14) (b61.1 o 15)).bind fun h62 => some h62) 200 (0, h32))
  rw [show ((0 : Nat) : Int) = 0 from rfl] at c2
  rw [c2]
  generalize hX' : (fun j => if 0 ≤ j ∧ j < 162 then XE F hi wi L j else h.1 cX j) = X'
  generalize hY' : (fun j => if 0 ≤ j ∧ j < 162 then (-5 : Int) else h.1 cL j) = Y'
  have yv : ∀ j, j < 162 → Y' j = -5 := fun j hj => by rw [← hY']; exact if_pos ⟨Nat.zero_le _, hj⟩
  have xv : ∀ j, j < 162 → X' j = XE F hi wi L j := fun j hj => by rw [← hX']; exact if_pos ⟨Nat.zero_le _, hj⟩
  rw [lt_eq, lt_eq, ct_wF_hs, ct_wF_hs, hs_row, hs_hs, hs_orow _ _ (show o ≠ cL by omega), hs_orow _ _ (show o ≠ cX by omega)]
  let t0 : LSt := (Y', h.1 cO, (fun _ => 0), 0, 0)
  have e1 : hs (hs (hs h cX X') cL Y') o (up (up (h.1 o) 14 0) 15 0) = HY (hs h cX X') o cL cO cB (h.1 o) (h.1 cB) t0 := by
    show _ = hs (hs (hs (hs (hs h cX X') cB (h.1 cB)) cL Y') cO (h.1 cO)) o (up (up (h.1 o) 14 ((0 : Nat) : Int)) 15 ((0 : Nat) : Int))
    have s1 : hs (hs h cX X') cB (h.1 cB) = hs h cX X' := by
      have := hs_self (hs h cX X') cB
      rwa [hs_orow _ _ (show cB ≠ cX by omega)] at this
    have s2 : hs (hs (hs h cX X') cL Y') cO (h.1 cO) = hs (hs h cX X') cL Y' := by
      have := hs_self (hs (hs h cX X') cL Y') cO
      rwa [hs_orow _ _ (show cO ≠ cL by omega), hs_orow _ _ (show cO ≠ cX by omega)] at this
    rw [s1, s2]
    rfl
  rw [e1]
  have li0 : LIt (nx F (wi + 2) (h.1 o 2) L) (CE F hi wi L) t0 := LI_0 yv rfl
  obtain ⟨B', b1, b2⟩ := m_layL (h := hs h cX X') (L := L) mo m (F := F) (by rw [hs_orow _ _ (by omega)]; exact r) rm hl (by rw [hs_row]; exact xv) (fun b61 => (ct_wt G b61 (G.1 o 13) (b61.1 o 14) (b61.1 o 15)).bind fun h62 => some h62) 162 0 200 t0 (h.1 cB) (by omega) (by omega) li0 (fun j hj => absurd hj (Nat.not_lt_zero _))
  rw [show ((0 : Nat) : Int) = 0 from rfl] at b2
  rw [b2]
  have ag : AG (spL F hi wi (h.1 o 2) L) (scn (nx F (wi + 2) (h.1 o 2) L) (XE F hi wi L) 162 0 t0) := by
    refine scn_ag cn.1 cn.2.2.2 162 0 _ _ ⟨fun j hj => ?_, fun i hi => absurd hi (Nat.not_lt_zero _), fun j hj => ?_, rfl, rfl⟩
    · show (-5 : Int) = Y' j
      exact (yv j hj).symm
    · rfl
  have li := (scn_LI cn.1 cn.2.1 cn.2.2.1 cn.2.2.2 162 0 t0 li0).1
  generalize scn (nx F (wi + 2) (h.1 o 2) L) (XE F hi wi L) 162 0 t0 = t at ag li b1
  have h37 := LI_37 g8 g9 li
  have ro : (HY (hs h cX X') o cL cO cB (h.1 o) B' t).1 o = up (up (h.1 o) 14 (t.2.2.2.1 : Nat)) 15 (t.2.2.2.2 : Nat) := by unfold HY; rw [hs_row]
  have rB : (HY (hs h cX X') o cL cO cB (h.1 o) B' t).1 cB = B' := by unfold HY; rw [hs_orow _ _ (by omega), hs_orow _ _ (by omega), hs_orow _ _ (by omega), hs_row]
  have rL : (HY (hs h cX X') o cL cO cB (h.1 o) B' t).1 cL = t.1 := by unfold HY; rw [hs_orow _ _ (by omega), hs_orow _ _ (by omega), hs_row]
  have rO : (HY (hs h cX X') o cL cO cB (h.1 o) B' t).1 cO = t.2.1 := by unfold HY; rw [hs_orow _ _ (by omega), hs_row]
  rw [ro, up_same, up_other _ _ (show (14 : Nat) ≠ 15 by omega), up_same, p7, wtN (by omega), bs, rB]
  refine ⟨_, rfl, ?_, rfl, ?_, ?_⟩
  · rw [hs_orow _ _ (show cL ≠ cB by omega), hs_orow _ _ (show cO ≠ cB by omega), hs_row, hs_orow _ _ (show o ≠ cB by omega), rL, rO, ro, up_other _ _ (show (14 : Nat) ≠ 15 by omega), up_same]
    unfold LR
    generalize spL F hi wi (h.1 o 2) L = S at ag ⊢
    obtain ⟨a1, a2, a3, a4, a5⟩ := ag
    refine ⟨⟨a1, a2, fun j hj => ?_, rfl, rfl⟩, by rw [a4]⟩
    show S.2.2.1 j = up B' t.2.2.2.1 (t.2.2.2.2 : Nat) j
    rw [a3 j hj]
    by_cases w : j = t.2.2.2.1
    · subst w; rw [up_same]; exact li.2.1
    · rw [up_other _ _ w]; exact (b1 j (by omega)).symm
  · intro j n1 n2
    rw [hs_orow _ _ (show o ≠ cB by omega), ro, up_other _ _ n2, up_other _ _ n1]
  · intro a n1 n2 n3 n4 n5
    rw [hs_orow _ _ n5]
    unfold HY
    rw [hs_orow _ _ n1, hs_orow _ _ n4, hs_orow _ _ n3, hs_orow _ _ n5, hs_orow _ _ n2]
end
