/-! changes of heights: the reference, and fill on both sides -/
theorem hs_MD {G : ct_G} {h : ct_H} {o c hi wi : Nat} (m : MD G h o c hi wi) (M : Nat → Int) : MD G (hs h c M) o c hi wi := by
  obtain ⟨g1, g2, g3, g4, g5, g8, g9⟩ := m
  have hn : o ≠ c := fun z => g3 z.symm
  exact ⟨g1, g2, g3, by rw [hs_other _ _ _ hn]; exact g4, by rw [hs_other _ _ _ hn]; exact g5, g8, g9⟩
section
variable {G : ct_G} {h : ct_H} {o c hi wi : Nat}
theorem m_sizeL (g1 : G.1 o 3 = c) (g2 : G.2 c = 49) {v : Int} : ∀ (m i n : Nat) (M : Nat → Int), i + m = 49 → m < n → l_X7_size_28 G o v n ((i : Int), hs h c M) = some (v, hs h c (fun j => if i ≤ j ∧ j < 49 then 0 else M j))
  | 0, i, n + 1, M, h1, h2 => by
    rw [l_X7_size_28, if_pos (by dsimp only; omega)]
    have : (fun j => if i ≤ j ∧ j < 49 then 0 else M j) = M := by funext j; rw [if_neg (by omega)]
    rw [this]
  | m + 1, i, n + 1, M, h1, h2 => by
    rw [l_X7_size_28, if_neg (by dsimp only; omega)]
    dsimp only
    rw [g1, wtN (by omega), bs, hs_hs, hs_row, wr_id (by omega) (by omega)]
    have ih := m_sizeL g1 g2 (v := v) m (i + 1) n (up M i 0) (by omega) (by omega)
    rw [show ((i + 1 : Nat) : Int) = (i : Int) + 1 by omega] at ih
    rw [ih]
    congr 3
    funext j
    unfold up
    by_cases e : j = i
    · subst e; rw [if_neg (by omega), if_pos rfl, if_pos (by omega)]
    · rw [if_neg e]
      by_cases e2 : i + 1 ≤ j ∧ j < 49
      · rw [if_pos e2, if_pos (by omega)]
      · rw [if_neg e2, if_neg (by omega)]
theorem m_size (m : MD G h o c hi wi) (a b : Int) : f_X7_size G h o a b = some (if (2 ≤ a ∧ a ≤ 7) ∧ (2 ≤ b ∧ b ≤ 7) then (10 * (hi : Int) + wi, hs (hs h c (fun j => if j < 49 then 0 else h.1 c j)) o (up (up (h.1 o) 0 a) 1 b)) else (-2, h)) := by
  obtain ⟨g1, g2, g3, g4, g5, g8, g9⟩ := m
  unfold f_X7_size
  rw [m_in, bs]
  by_cases za : 2 ≤ a ∧ a ≤ 7
  · rw [if_pos za, if_neg (by omega), m_in, bs]
    by_cases zb : 2 ≤ b ∧ b ≤ 7
    · rw [if_pos zb, if_neg (by omega), if_pos ⟨za, zb⟩, g4, g5, wr_id (a := 10 * (hi : Int)) (by omega) (by omega), wr_id (by omega) (by omega)]
      simp only [lt_eq, ct_wF_hs, hs_row, hs_hs]
      have := m_sizeL (h := hs h o (up (up (h.1 o) 0 a) 1 b)) g1 g2 (v := 10 * (hi : Int) + wi) 49 0 200 ((hs h o (up (up (h.1 o) 0 a) 1 b)).1 c) (by omega) (by omega)
      rw [hs_self, hs_orow _ _ g3] at this
      rw [show ((0 : Int)) = ((0 : Nat) : Int) from rfl, this, hs_comm _ _ _ (fun z => g3 z.symm)]
      simp
    · rw [if_neg zb, if_pos rfl, if_neg (fun z => zb z.2)]
  · rw [if_neg za, if_pos rfl, if_neg (fun z => za z.1)]
theorem m_height (m : MD G h o c hi wi) (p v : Int) : f_X7_height G h o p v = some (if 0 ≤ p ∧ p < ((hi * wi : Nat) : Int) then (if 0 ≤ v ∧ v ≤ 99 then (h.1 c p.toNat, hs h c (up (h.1 c) p.toNat v)) else (-2, h)) else (-1, h)) := by
  unfold f_X7_height
  have h49 : hi * wi ≤ 49 := Nat.mul_le_mul m.2.2.2.2.2.1.2 m.2.2.2.2.2.2.2
  rw [m_isPoint m, bs]
  by_cases zp : 0 ≤ p ∧ p < ((hi * wi : Nat) : Int)
  · rw [if_pos zp, if_pos zp, if_neg (by omega), m_in, bs]
    by_cases zv : 0 ≤ v ∧ v ≤ 99
    · rw [if_pos zv, if_pos zv, if_neg (by omega), m.1, rd_eq (by omega) (by rw [m.2.1]; omega), bs, wt_eq (by omega) (by rw [m.2.1]; omega), bs]
    · rw [if_neg zv, if_neg zv, if_pos rfl]
  · rw [if_neg zp, if_neg zp, if_pos rfl]
theorem m_rule (k : Int) : f_X7_rule G h o k = some (if 0 ≤ k ∧ k ≤ 4 then (h.1 o 2, hs h o (up (h.1 o) 2 k)) else (-1, h)) := by
  unfold f_X7_rule
  rw [m_in, bs]
  by_cases z : 0 ≤ k ∧ k ≤ 4
  · rw [if_pos z, if_pos z, if_neg (by omega), lt_eq, ct_wF_hs]
  · rw [if_neg z, if_neg z, if_pos rfl]
theorem m_turnL (m : MD G h o c hi wi) : ∀ (k i n : Nat) (M : Nat → Int), i + k = hi * wi → k < n → (∀ p, p < hi * wi → 0 ≤ M p ∧ M p ≤ 99) → l_X7_turn_2 G o n ((i : Int), hs h c M) = some (1, hs h c (fun j => if i ≤ j ∧ j < hi * wi then 99 - M j else M j))
  | 0, i, n + 1, M, h1, h2, h3 => by
    rw [l_X7_turn_2, m_points (hs_MD m M), bs, if_pos (by dsimp only; omega)]
    have : (fun j => if i ≤ j ∧ j < hi * wi then 99 - M j else M j) = M := by funext j; rw [if_neg (by omega)]
    rw [this]
  | k + 1, i, n + 1, M, h1, h2, h3 => by
    have h49 : hi * wi ≤ 49 := Nat.mul_le_mul m.2.2.2.2.2.1.2 m.2.2.2.2.2.2.2
    have hv := h3 i (by omega)
    rw [l_X7_turn_2, m_points (hs_MD m M), bs, if_neg (by dsimp only; omega)]
    dsimp only
    rw [m.1, rdN (by rw [m.2.1]; omega), bs, hs_row, wr_id (a := 99 - M i) (by omega) (by omega), wtN (by rw [m.2.1]; omega), bs, hs_hs, hs_row, wr_id (by omega) (by omega)]
    have ih := m_turnL m k (i + 1) n (up M i (99 - M i)) (by omega) (by omega) (fun p hp => by
      by_cases e : p = i
      · rw [e, up_same]; omega
      · rw [up_other _ _ e]; exact h3 p hp)
    rw [show ((i + 1 : Nat) : Int) = (i : Int) + 1 by omega] at ih
    rw [ih]
    congr 3
    funext j
    by_cases e : j = i
    · subst e; rw [if_neg (by omega), up_same, if_pos (by omega)]
    · rw [up_other _ _ e]
      by_cases e2 : i + 1 ≤ j ∧ j < hi * wi
      · rw [if_pos e2, if_pos (by omega)]
      · rw [if_neg e2, if_neg (by omega)]
theorem m_turn (m : MD G h o c hi wi) (hM : ∀ p, p < hi * wi → 0 ≤ h.1 c p ∧ h.1 c p ≤ 99) : f_X7_turn G h o = some (1, hs h c (fun j => if j < hi * wi then 99 - h.1 c j else h.1 c j)) := by
  have h49 : hi * wi ≤ 49 := Nat.mul_le_mul m.2.2.2.2.2.1.2 m.2.2.2.2.2.2.2
  unfold f_X7_turn
  have := m_turnL m (hi * wi) 0 200 (h.1 c) (by omega) (by omega) hM
  rw [hs_self] at this
  simp only [Nat.zero_le, true_and] at this
  exact this
theorem m_hillL (m : MD G h o c hi wi) {t : Nat} {a2 a3 : Int} (ht : t < hi * wi) (hA : 0 ≤ a2 ∧ a2 ≤ 99) (hB : 0 ≤ a3 ∧ a3 ≤ 99) : ∀ (k i n : Nat) (M : Nat → Int), i + k = hi * wi → k < n → (∀ p, p < hi * wi → 0 ≤ M p ∧ M p ≤ 99) → l_X7_hill_8 G o (t : Int) a2 a3 n ((i : Int), hs h c M) = some (1, hs h c (fun j => if i ≤ j ∧ j < hi * wi then max (M j) (a2 - a3 * far wi j t) else M j))
  | 0, i, n + 1, M, h1, h2, h3 => by
    rw [l_X7_hill_8, m_points (hs_MD m M), bs, if_pos (by dsimp only; omega)]
    have : (fun j => if i ≤ j ∧ j < hi * wi then max (M j) (a2 - a3 * far wi j t) else M j) = M := by funext j; rw [if_neg (by omega)]
    rw [this]
  | k + 1, i, n + 1, M, h1, h2, h3 => by
    have hw := m.2.2.2.2.2.2
    have h49 : hi * wi ≤ 49 := Nat.mul_le_mul m.2.2.2.2.2.1.2 hw.2
    have hv := h3 i (by omega)
    have e5 : (hs h c M).1 o 1 = (wi : Int) := (hs_MD m M).2.2.2.2.1
    have a1 : i / wi ≤ 49 := Nat.le_trans (Nat.div_le_self _ _) (by omega)
    have b2 : t / wi ≤ 49 := Nat.le_trans (Nat.div_le_self _ _) (by omega)
    have b3 : i % wi < 7 := Nat.lt_of_lt_of_le (Nat.mod_lt _ (by omega)) hw.2
    have b4 : t % wi < 7 := Nat.lt_of_lt_of_le (Nat.mod_lt _ (by omega)) hw.2
    rw [l_X7_hill_8, m_points (hs_MD m M), bs, if_neg (by dsimp only; omega)]
    dsimp only
    rw [e5, dv_eq (by omega) (by omega), bs, dv_eq (by omega) (by omega), bs, md_eq (by omega) (by omega), bs, md_eq (by omega) (by omega), bs, lt_eq]
    rw [show (i : Int) / (wi : Int) = ((i / wi : Nat) : Int) by omega, show (t : Int) / (wi : Int) = ((t / wi : Nat) : Int) by omega, show (i : Int) % (wi : Int) = ((i % wi : Nat) : Int) by omega, show (t : Int) % (wi : Int) = ((t % wi : Nat) : Int) by omega]
    have hf := far_le hw (p := i) (q := t) (by omega) (by omega)
    have hfe : ct_wr (ct_abs (ct_wr (((i / wi : Nat) : Int) - ((t / wi : Nat) : Int))) + ct_abs (ct_wr (((i % wi : Nat) : Int) - ((t % wi : Nat) : Int)))) = far wi i t := by
      unfold far
      generalize i / wi = z1 at a1 ⊢
      generalize t / wi = z2 at b2 ⊢
      generalize i % wi = z3 at b3 ⊢
      generalize t % wi = z4 at b4 ⊢
      rw [wr_id (a := (z1 : Int) - (z2 : Int)) (by omega) (by omega), wr_id (a := (z3 : Int) - (z4 : Int)) (by omega) (by omega), ct_abs_eq (by omega) (by omega), ct_abs_eq (by omega) (by omega), wr_id (by omega) (by omega)]
    have hm1 : a3 * far wi i t ≤ 99 * 60 := Int.mul_le_mul hB.2 hf.2 hf.1 (by omega)
    have hm2 : 0 ≤ a3 * far wi i t := Int.mul_nonneg hB.1 hf.1
    rw [hfe, m.1, rdN (by rw [m.2.1]; omega), bs, hs_row, wr_id (a := a3 * far wi i t) (by omega) (by omega), wr_id (a := a2 - a3 * far wi i t) (by omega) (by omega), ct_max_eq, wtN (by rw [m.2.1]; omega), bs, hs_hs, hs_row, wr_id (by omega) (by omega)]
    have ih := m_hillL m ht hA hB k (i + 1) n (up M i (max (M i) (a2 - a3 * far wi i t))) (by omega) (by omega) (fun p hp => by
      by_cases e : p = i
      · rw [e, up_same]; omega
      · rw [up_other _ _ e]; exact h3 p hp)
    rw [show ((i + 1 : Nat) : Int) = (i : Int) + 1 by omega] at ih
    rw [ih]
    congr 3
    funext j
    by_cases e : j = i
    · subst e; rw [if_neg (by omega), up_same, if_pos (by omega)]
    · rw [up_other _ _ e]
      by_cases e2 : i + 1 ≤ j ∧ j < hi * wi
      · rw [if_pos e2, if_pos (by omega)]
      · rw [if_neg e2, if_neg (by omega)]
theorem m_hill (m : MD G h o c hi wi) {t a2 a3 : Int} (hA : 0 ≤ a2 ∧ a2 ≤ 99) (hB : 0 ≤ a3 ∧ a3 ≤ 99) (hM : ∀ p, p < hi * wi → 0 ≤ h.1 c p ∧ h.1 c p ≤ 99) : f_X7_hill G h o t a2 a3 = some (if 0 ≤ t ∧ t < ((hi * wi : Nat) : Int) then (1, hs h c (fun j => if j < hi * wi then max (h.1 c j) (a2 - a3 * far wi j t.toNat) else h.1 c j)) else (-1, h)) := by
  have h49 : hi * wi ≤ 49 := Nat.mul_le_mul m.2.2.2.2.2.1.2 m.2.2.2.2.2.2.2
  unfold f_X7_hill
  rw [m_isPoint m, bs]
  by_cases z : 0 ≤ t ∧ t < ((hi * wi : Nat) : Int)
  · rw [if_pos z, if_pos z, if_neg (by omega)]
    obtain ⟨t0, rfl⟩ := Int.eq_ofNat_of_zero_le z.1
    have := m_hillL m (t := t0) (by omega) hA hB (hi * wi) 0 200 (h.1 c) (by omega) (by omega) hM
    rw [hs_self] at this
    simp only [Nat.zero_le, true_and] at this
    exact this
  · rw [if_neg z, if_neg z, if_pos rfl]
end
