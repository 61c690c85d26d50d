/-! what is asked of lines: the reference, area and sums -/
theorem axN_b {s e : Nat} (hs2 : 2 ≤ s) (he : e < 162) (hw : s ≤ 9) : -200 ≤ axN s e ∧ axN s e ≤ 200 := by
  unfold axN
  have := Nat.mod_lt (e / 2) (show 0 < s by omega)
  generalize e / 2 % s = x at this ⊢
  split <;> omega
theorem dwN_b {s e : Nat} (he : e < 162) : -200 ≤ dwN s e ∧ dwN s e ≤ 200 := by
  unfold dwN
  have : e / 2 / s ≤ e / 2 := Nat.div_le_self _ _
  generalize e / 2 / s = x at this ⊢
  omega
section
variable {G : ct_G} {h : ct_H} {o c cX cL cO cB hi wi : Nat} {S : LSt}
theorem m_across (m : MD G h o c hi wi) {e : Nat} (he : e < 162) : f_X7_across G h o (e : Int) = some (axN (wi + 2) e) := by
  have g9 := m.2.2.2.2.2.2
  unfold f_X7_across axN
  rw [dv_eq (by omega) (by omega), bs, show (e : Int) / 2 = ((e / 2 : Nat) : Int) by omega, m_column m _ (by omega), bs, md_eq (by omega) (by omega), bs]
  have := Nat.mod_lt (e / 2) (show 0 < wi + 2 by omega)
  generalize e / 2 % (wi + 2) = x at this ⊢
  by_cases z : e % 2 = 0
  · rw [if_pos (by omega), if_pos z, wr_id (a := 2 * ((x : Int) - 1)) (by omega) (by omega), wr_id (by omega) (by omega)]
  · rw [if_neg (by omega), if_neg z, wr_id (a := 2 * ((x : Int) - 1)) (by omega) (by omega), wr_id (by omega) (by omega)]
theorem m_down (m : MD G h o c hi wi) {e : Nat} (he : e < 162) : f_X7_down G h o (e : Int) = some (dwN (wi + 2) e) := by
  unfold f_X7_down dwN
  rw [dv_eq (by omega) (by omega), bs, show (e : Int) / 2 = ((e / 2 : Nat) : Int) by omega, m_row m _ (by omega), bs, md_eq (by omega) (by omega), bs]
  have : e / 2 / (wi + 2) ≤ e / 2 := Nat.div_le_self _ _
  generalize e / 2 / (wi + 2) = x at this ⊢
  rw [wr_id (a := 2 * ((x : Int) - 1)) (by omega) (by omega), wr_id (by omega) (by omega)]
  congr 1
theorem arE_b {S : LSt} {s l : Nat} (hs2 : 2 ≤ s) (hw : s ≤ 9) (sf : SF S) (hl : l < S.2.2.2.1) {i : Nat} (hi : i < cN S l) : -80000 ≤ arE S s l i ∧ arE S s l i ≤ 80000 := by
  have f := sf.2.2 l hl
  have e1 := (f.2.2.2.2.1 i hi).2.1
  have e2 := (f.2.2.2.2.1 (if i + 1 < cN S l then i + 1 else 0) (by split <;> omega)).2.1
  unfold arE
  have a1 := mul_bd (axN_b hs2 e1 hw) (dwN_b (s := s) e2)
  have a2 := mul_bd (dwN_b (s := s) e1) (axN_b hs2 e2 hw)
  omega
theorem m_areaL (mo : MO G o c cX cL cO cB) (m : MD G h o c hi wi) (sf : SF S) (rr : RR S (h.1 cL) (h.1 cO) (h.1 cB) (h.1 o 14)) {l : Nat} (hl : l < S.2.2.2.1) (K : Int → Option Int) : ∀ (k i n : Nat) (a : Int), i + k = cN S l → k < n → -80000 * (i : Int) ≤ a → a ≤ 80000 * (i : Int) → l_X7_areaOf_7 G o (l : Int) h K n (a, ((bN S l + i : Nat) : Int)) = K (a + sm (arE S (wi + 2) l) i k)
  | 0, i, n + 1, a, h1, h2, h3, h4 => by
    have f := sf.2.2 l hl
    have s1 := sf.1
    rw [l_X7_areaOf_7, mo.2.2.2.2.2.2.1, wr_id (a := (l : Int) + 1) (by omega) (by omega), show (l : Int) + 1 = ((l + 1 : Nat) : Int) by omega, rdN (by rw [mo.2.2.2.2.2.2.2.1]; omega), bs, ← rr.2.2.1 (l + 1) (by omega), f.2.1, if_pos (by dsimp only; omega)]
    simp [sm]
  | k + 1, i, n + 1, a, h1, h2, h3, h4 => by
    have g9 := m.2.2.2.2.2.2
    have f := sf.2.2 l hl
    have s1 := sf.1
    have s2 := sf.2.1
    have od := m_order0 mo sf rr hl
    have e1 := (f.2.2.2.2.1 i (by omega)).2.1
    have e2 := (f.2.2.2.2.1 (if i + 1 < cN S l then i + 1 else 0) (by split <;> omega)).2.1
    have ab := arE_b (S := S) (s := wi + 2) (by omega) (by omega) sf hl (show i < cN S l by omega)
    have rb : ct_rd G h (G.1 o 13) ((l + 1 : Nat) : Int) = some ((bN S l + cN S l : Nat) : Int) := by
      rw [mo.2.2.2.2.2.2.1, rdN (by rw [mo.2.2.2.2.2.2.2.1]; omega), ← rr.2.2.1 (l + 1) (by omega), f.2.1]
    have nxt : ∀ K2 : Int → Option Int, (if ((bN S l + cN S l : Nat) : Int) ≤ (((bN S l + i : Nat) : Int) + 1) then ((some ((bN S l : Nat) : Int)).bind fun v19 => K2 v19) else K2 (((bN S l + i : Nat) : Int) + 1)) = K2 ((bN S l + (if i + 1 < cN S l then i + 1 else 0) : Nat) : Int) := by
      intro K2
      by_cases z : i + 1 < cN S l
      · rw [if_neg (by omega), if_pos z]; congr 1
      · rw [if_pos (by omega), if_neg z, bs]; rfl
    rw [l_X7_areaOf_7, wr_id (a := (l : Int) + 1) (by omega) (by omega), show (l : Int) + 1 = ((l + 1 : Nat) : Int) by omega, rb, bs, if_neg (by dsimp only; omega)]
    dsimp only
    rw [od.2 i (by omega), bs, bs, jn_eq, wr_id (a := ((bN S l + i : Nat) : Int) + 1) (by omega) (by omega), od.1]
    refine (nxt _).trans ?_
    rw [od.2 _ (by split <;> omega), bs, m_across m e1, bs, m_down m e2, bs, m_down m e1, bs, m_across m e2, bs, lt_eq]
    have a1 := mul_bd (axN_b (s := wi + 2) (by omega) e1 (by omega)) (dwN_b (s := wi + 2) e2)
    have a2 := mul_bd (dwN_b (s := wi + 2) e1) (axN_b (s := wi + 2) (by omega) e2 (by omega))
    have he : axN (wi + 2) (eN S l i) * dwN (wi + 2) (eN S l (if i + 1 < cN S l then i + 1 else 0)) - dwN (wi + 2) (eN S l i) * axN (wi + 2) (eN S l (if i + 1 < cN S l then i + 1 else 0)) = arE S (wi + 2) l i := rfl
    rw [wr_id (a := axN (wi + 2) (eN S l i) * _) (by omega) (by omega), wr_id (a := dwN (wi + 2) (eN S l i) * _) (by omega) (by omega), he, wr_id (a := arE S (wi + 2) l i) (by omega) (by omega), wr_id (by omega) (by omega)]
    have ih := m_areaL mo m sf rr hl K k (i + 1) n (a + arE S (wi + 2) l i) (by omega) (by omega) (by omega) (by omega)
    rw [show ((bN S l + (i + 1) : Nat) : Int) = ((bN S l + i : Nat) : Int) + 1 by omega] at ih
    rw [ih, sm, Int.add_assoc]
theorem m_areaOf (mo : MO G o c cX cL cO cB) (m : MD G h o c hi wi) (sf : SF S) (rr : RR S (h.1 cL) (h.1 cO) (h.1 cB) (h.1 o 14)) {l : Nat} (hl : l < S.2.2.2.1) : f_X7_areaOf G h o (l : Int) = some (ct_abs (sm (arE S (wi + 2) l) 0 (cN S l))) := by
  have f := sf.2.2 l hl
  have s2 := sf.2.1
  unfold f_X7_areaOf
  rw [(m_order0 mo sf rr hl).1, bs]
  have := m_areaL mo m sf rr hl (fun b => some (ct_abs b)) (cN S l) 0 200 0 (by omega) (by omega) (by omega) (by omega)
  rw [Nat.add_zero] at this
  rw [this, Int.zero_add]
theorem m_placeOf (m : MD G h o c hi wi) {p : Nat} (hp : p < hi * wi) : f_X7_placeOf G h o (p : Int) = some ((plc wi p : Nat) : Int) := by
  obtain ⟨g1, g2, g3, g4, g5, g8, g9⟩ := m
  have hb := (plc_lt g8 g9 hp).2
  unfold f_X7_placeOf
  rw [g5, dv_eq (by omega) (by omega), bs, md_eq (by omega) (by omega), bs, wr_id (a := (wi : Int) + 2) (by omega) (by omega)]
  have e1 : (p : Int) / (wi : Int) = ((p / wi : Nat) : Int) := by omega
  have e2 : (p : Int) % (wi : Int) = ((p % wi : Nat) : Int) := by omega
  rw [e1, e2]
  unfold plc at hb ⊢
  generalize p / wi = D at hb ⊢
  generalize p % wi = R at hb ⊢
  have hD : D + 1 ≤ (wi + 2) * (D + 1) := Nat.le_mul_of_pos_left _ (by omega)
  rw [wr_id (a := (D : Int) + 1) (by omega) (by omega)]
  have e3 : ((wi : Int) + 2) * ((D : Int) + 1) = (((wi + 2) * (D + 1) : Nat) : Int) := by rw [Int.natCast_mul]; rfl
  rw [e3]
  generalize (wi + 2) * (D + 1) = Z at hb hD ⊢
  rw [wr_id (a := (Z : Int)) (by omega) (by omega), wr_id (a := (Z : Int) + (R : Int)) (by omega) (by omega), wr_id (by omega) (by omega)]
  congr 1
theorem m_heldL (mo : MO G o c cX cL cO cB) (m : MD G h o c hi wi) (sf : SF S) (rr : RR S (h.1 cL) (h.1 cO) (h.1 cB) (h.1 o 14)) {l : Nat} (hl : l < S.2.2.2.1) : ∀ (k i n : Nat) (a : Int), i + k = hi * wi → k < n → 0 ≤ a → a + k < 1000 → l_X7_heldOf_4 G o (l : Int) h n (a, (i : Int)) = some (a + sm (fun p => hld S (wi + 2) l (plc wi p)) i k)
  | 0, i, n + 1, a, h1, h2, h3, h4 => by
    rw [l_X7_heldOf_4, m_points m, bs, if_pos (by dsimp only; omega)]
    simp [sm]
  | k + 1, i, n + 1, a, h1, h2, h3, h4 => by
    have := hld01 S (wi + 2) l (plc wi i)
    have hp49 : hi * wi ≤ 49 := Nat.mul_le_mul m.2.2.2.2.2.1.2 m.2.2.2.2.2.2.2
    have hp := plc_lt m.2.2.2.2.2.1 m.2.2.2.2.2.2 (show i < hi * wi by omega)
    rw [l_X7_heldOf_4, m_points m, bs, if_neg (by dsimp only; omega)]
    dsimp only
    rw [m_placeOf m (by omega), bs, m_isHeld mo m sf rr hl hp.2, bs, jn_eq, wr_id (a := (i : Int) + 1) (by omega) (by omega), sm]
    have ih := fun a' x y => m_heldL mo m sf rr hl k (i + 1) n a' (by omega) (by omega) x y
    rw [show ((i + 1 : Nat) : Int) = (i : Int) + 1 by omega] at ih
    rcases this with e | e
    · rw [e, if_pos rfl]
      dsimp only
      rw [ih _ (by omega) (by omega), Int.zero_add]
    · rw [e, if_neg (by omega)]
      dsimp only
      rw [wr_id (by omega) (by omega), ih _ (by omega) (by omega), Int.add_assoc]
theorem m_heldOf (mo : MO G o c cX cL cO cB) (m : MD G h o c hi wi) (sf : SF S) (rr : RR S (h.1 cL) (h.1 cO) (h.1 cB) (h.1 o 14)) {l : Nat} (hl : l < S.2.2.2.1) : f_X7_heldOf G h o (l : Int) = some (sm (fun p => hld S (wi + 2) l (plc wi p)) 0 (hi * wi)) := by
  have hp : hi * wi ≤ 49 := Nat.mul_le_mul m.2.2.2.2.2.1.2 m.2.2.2.2.2.2.2
  unfold f_X7_heldOf
  have := m_heldL mo m sf rr hl (hi * wi) 0 200 0 (by omega) (by omega) (by omega) (by omega)
  rw [Int.zero_add] at this
  exact this
theorem m_outersL (mo : MO G o c cX cL cO cB) (m : MD G h o c hi wi) (sf : SF S) (rr : RR S (h.1 cL) (h.1 cO) (h.1 cB) (h.1 o 14)) : ∀ (k i n : Nat) (a : Int), i + k = S.2.2.2.1 → k < n → 0 ≤ a → a + k < 1000 → l_X7_outers_4 G o h n (a, (i : Int)) = some (a + sm (fun l => if dep S (wi + 2) l % 2 = 0 then 1 else 0) i k)
  | 0, i, n + 1, a, h1, h2, h3, h4 => by
    rw [l_X7_outers_4, rr.2.2.2, if_pos (by dsimp only; omega)]
    simp [sm]
  | k + 1, i, n + 1, a, h1, h2, h3, h4 => by
    have s1 := sf.1
    rw [l_X7_outers_4, rr.2.2.2, if_neg (by dsimp only; omega)]
    dsimp only
    rw [m_isOuter mo m sf rr (by omega), bs, jn_eq, wr_id (a := (i : Int) + 1) (by omega) (by omega), sm]
    have ih := fun a' x y => m_outersL mo m sf rr k (i + 1) n a' (by omega) (by omega) x y
    rw [show ((i + 1 : Nat) : Int) = (i : Int) + 1 by omega] at ih
    by_cases z : dep S (wi + 2) i % 2 = 0
    · rw [if_pos z, if_neg (by omega)]
      dsimp only
      rw [wr_id (by omega) (by omega), ih _ (by omega) (by omega), Int.add_assoc]
    · rw [if_neg z, if_pos rfl]
      dsimp only
      rw [ih _ (by omega) (by omega), Int.zero_add]
theorem m_outers (mo : MO G o c cX cL cO cB) (m : MD G h o c hi wi) (sf : SF S) (rr : RR S (h.1 cL) (h.1 cO) (h.1 cB) (h.1 o 14)) : f_X7_outers G h o = some (sm (fun l => if dep S (wi + 2) l % 2 = 0 then 1 else 0) 0 S.2.2.2.1) := by
  have s1 := sf.1
  unfold f_X7_outers
  have := m_outersL mo m sf rr S.2.2.2.1 0 200 0 (by omega) (by omega) (by omega) (by omega)
  rw [Int.zero_add] at this
  exact this
theorem m_deepL (mo : MO G o c cX cL cO cB) (m : MD G h o c hi wi) (sf : SF S) (rr : RR S (h.1 cL) (h.1 cO) (h.1 cB) (h.1 o 14)) : ∀ (k i n : Nat) (a : Int), i + k = S.2.2.2.1 → k < n → l_X7_deepest_4 G o h n (a, (i : Int)) = some (mx (dep S (wi + 2)) i k a)
  | 0, i, n + 1, a, h1, h2 => by
    rw [l_X7_deepest_4, rr.2.2.2, if_pos (by dsimp only; omega)]
    rfl
  | k + 1, i, n + 1, a, h1, h2 => by
    have s1 := sf.1
    rw [l_X7_deepest_4, rr.2.2.2, if_neg (by dsimp only; omega)]
    dsimp only
    rw [m_depthOf mo m sf rr (by omega), bs, lt_eq, ct_max_eq, wr_id (a := (i : Int) + 1) (by omega) (by omega), mx]
    have ih := m_deepL mo m sf rr k (i + 1) n (max a (dep S (wi + 2) i)) (by omega) (by omega)
    rw [show ((i + 1 : Nat) : Int) = (i : Int) + 1 by omega] at ih
    exact ih
theorem m_deepest (mo : MO G o c cX cL cO cB) (m : MD G h o c hi wi) (sf : SF S) (rr : RR S (h.1 cL) (h.1 cO) (h.1 cB) (h.1 o 14)) : f_X7_deepest G h o = some (mx (dep S (wi + 2)) 0 S.2.2.2.1 (-5)) := by
  have s1 := sf.1
  unfold f_X7_deepest
  exact m_deepL mo m sf rr S.2.2.2.1 0 200 (-5) (by omega) (by omega)
end
