/-! fill on both sides; copyFrom -/
section
variable {G : ct_G} {h : ct_H} {o c hi wi : Nat}
theorem dm_iff {w j r k : Nat} (hw : 2 ≤ w ∧ w ≤ 9) (hk : k < w) : j = r * w + k ↔ j / w = r ∧ j % w = k := by
  have : w = 2 ∨ w = 3 ∨ w = 4 ∨ w = 5 ∨ w = 6 ∨ w = 7 ∨ w = 8 ∨ w = 9 := by omega
  rcases this with rfl | rfl | rfl | rfl | rfl | rfl | rfl | rfl <;> omega
theorem m_fill1 (m : MD G h o c hi wi) {t r c1 : Nat} {v : Int} (ht : t < hi * wi) (hc1 : c1 = t % wi) (hr : r < hi) (K : ct_H → Option (Int × ct_H)) : ∀ (k x n : Nat) (M : Nat → Int), x + k = c1 + 1 → k < n → l_X7_fill_44 G o (t : Int) v (r : Int) K n ((x : Int), hs h c M) = K (hs h c (fun j => if j / wi = r ∧ x ≤ j % wi ∧ j % wi ≤ c1 then v else M j))
  | 0, x, n + 1, M, h1, h2 => by
    have hw := m.2.2.2.2.2.2
    have e5 : (hs h c M).1 o 1 = (wi : Int) := (hs_MD m M).2.2.2.2.1
    rw [l_X7_fill_44]
    dsimp only
    rw [e5, md_eq (by omega) (by omega), bs, show (t : Int) % (wi : Int) = ((t % wi : Nat) : Int) by omega, ← hc1, if_pos (by omega)]
    have : (fun j => if j / wi = r ∧ x ≤ j % wi ∧ j % wi ≤ c1 then v else M j) = M := by
      funext j; rw [if_neg (by intro z; have := z.2; omega)]
    rw [this]
  | k + 1, x, n + 1, M, h1, h2 => by
    have hw := m.2.2.2.2.2.2
    have h49 : hi * wi ≤ 49 := Nat.mul_le_mul m.2.2.2.2.2.1.2 hw.2
    have e5 : (hs h c M).1 o 1 = (wi : Int) := (hs_MD m M).2.2.2.2.1
    have hc2 : c1 < wi := by rw [hc1]; exact Nat.mod_lt _ (by omega)
    have hrw : r * wi + x < hi * wi := Nat.lt_of_lt_of_le (Nat.add_lt_add_left (show x < wi by omega) _) (by rw [← Nat.succ_mul]; exact Nat.mul_le_mul_right _ hr)
    have hdm := fun j => dm_iff (j := j) (r := r) (k := x) (w := wi) (by omega) (by omega)
    rw [l_X7_fill_44]
    dsimp only
    rw [e5, md_eq (by omega) (by omega), bs, show (t : Int) % (wi : Int) = ((t % wi : Nat) : Int) by omega, ← hc1, if_neg (by omega), ← Int.natCast_mul]
    generalize r * wi = y at hrw hdm ⊢
    rw [wr_id (a := (y : Int)) (by omega) (by omega), wr_id (a := (y : Int) + (x : Int)) (by omega) (by omega), show (y : Int) + (x : Int) = ((y + x : Nat) : Int) by omega, m.1, wtN (by rw [m.2.1]; omega), bs, hs_hs, hs_row, wr_id (by omega) (by omega)]
    have ih := m_fill1 m (v := v) ht hc1 hr K k (x + 1) n (up M (y + x) v) (by omega) (by omega)
    rw [show ((x + 1 : Nat) : Int) = (x : Int) + 1 by omega] at ih
    rw [ih]
    congr 2
    funext j
    unfold up
    have hd := hdm j
    by_cases e : j = y + x
    · rw [if_pos e, if_pos (show j / wi = r ∧ x ≤ j % wi ∧ j % wi ≤ c1 from by have := hd.mp e; omega)]
      split <;> rfl
    · rw [if_neg e]
      have hne : ¬ (j / wi = r ∧ j % wi = x) := fun z => e (hd.mpr z)
      by_cases e2 : j / wi = r ∧ x + 1 ≤ j % wi ∧ j % wi ≤ c1
      · rw [if_pos e2, if_pos ⟨e2.1, by omega, e2.2.2⟩]
      · rw [if_neg e2, if_neg (fun z => by
          by_cases e3 : j % wi = x
          · exact hne ⟨z.1, e3⟩
          · exact e2 ⟨z.1, by omega, z.2.2⟩)]
theorem m_fill2 (m : MD G h o c hi wi) {t c0 c1 r1 : Nat} {v : Int} (ht : t < hi * wi) (hc1 : c1 = t % wi) (hr1 : r1 = t / wi) (h01 : c0 ≤ c1) : ∀ (k r n : Nat) (M : Nat → Int), r + k = r1 + 1 → k < n → l_X7_fill_36 G o (t : Int) v (c0 : Int) n ((r : Int), hs h c M) = some (1, hs h c (fun j => if (r ≤ j / wi ∧ j / wi ≤ r1) ∧ c0 ≤ j % wi ∧ j % wi ≤ c1 then v else M j))
  | 0, r, n + 1, M, h1, h2 => by
    have hw := m.2.2.2.2.2.2
    have e5 : (hs h c M).1 o 1 = (wi : Int) := (hs_MD m M).2.2.2.2.1
    rw [l_X7_fill_36]
    dsimp only
    rw [e5, dv_eq (by omega) (by omega), bs, show (t : Int) / (wi : Int) = ((t / wi : Nat) : Int) by omega, ← hr1, if_pos (by omega)]
    have : (fun j => if (r ≤ j / wi ∧ j / wi ≤ r1) ∧ c0 ≤ j % wi ∧ j % wi ≤ c1 then v else M j) = M := by
      funext j; rw [if_neg (by intro z; have := z.1; omega)]
    rw [this]
  | k + 1, r, n + 1, M, h1, h2 => by
    have hw := m.2.2.2.2.2.2
    have h49 : hi * wi ≤ 49 := Nat.mul_le_mul m.2.2.2.2.2.1.2 hw.2
    have e5 : (hs h c M).1 o 1 = (wi : Int) := (hs_MD m M).2.2.2.2.1
    have hr2 : r1 < hi := by rw [hr1]; exact Nat.div_lt_of_lt_mul (by rw [Nat.mul_comm]; exact ht)
    have hc2 : c1 < wi := by rw [hc1]; exact Nat.mod_lt _ (by omega)
    have hi7 := m.2.2.2.2.2.1
    rw [l_X7_fill_36]
    dsimp only
    rw [e5, dv_eq (by omega) (by omega), bs, show (t : Int) / (wi : Int) = ((t / wi : Nat) : Int) by omega, ← hr1, if_neg (by omega)]
    rw [m_fill1 m ht hc1 (show r < hi by omega) _ (c1 + 1 - c0) c0 200 M (by omega) (by omega), wr_id (by omega) (by omega)]
    have ih := m_fill2 m ht hc1 hr1 h01 (v := v) k (r + 1) n (fun j => if j / wi = r ∧ c0 ≤ j % wi ∧ j % wi ≤ c1 then v else M j) (by omega) (by omega)
    rw [show ((r + 1 : Nat) : Int) = (r : Int) + 1 by omega] at ih
    rw [ih]
    congr 3
    funext j
    generalize j / wi = y1
    generalize j % wi = y2
    by_cases e1 : (r + 1 ≤ y1 ∧ y1 ≤ r1) ∧ c0 ≤ y2 ∧ y2 ≤ c1
    · rw [if_pos e1, if_pos (by omega)]
    · rw [if_neg e1]
      by_cases e2 : y1 = r ∧ c0 ≤ y2 ∧ y2 ≤ c1
      · rw [if_pos e2, if_pos (by omega)]
      · rw [if_neg e2, if_neg (by omega)]
/-- whether fill may be done -/
def fillOk (hi wi : Nat) (a b : Int) : Prop := (0 ≤ a ∧ a < ((hi * wi : Nat) : Int)) ∧ (0 ≤ b ∧ b < ((hi * wi : Nat) : Int)) ∧ a / (wi : Int) ≤ b / (wi : Int) ∧ a % (wi : Int) ≤ b % (wi : Int)
theorem m_fill (m : MD G h o c hi wi) (a b v : Int) : (fillOk hi wi a b → f_X7_fill G h o a b v = some (1, hs h c (fun j => if (a.toNat / wi ≤ j / wi ∧ j / wi ≤ b.toNat / wi) ∧ a.toNat % wi ≤ j % wi ∧ j % wi ≤ b.toNat % wi then v else h.1 c j))) ∧ (¬ fillOk hi wi a b → ∃ r, f_X7_fill G h o a b v = some (r, h) ∧ r < 0) := by
  have hw := m.2.2.2.2.2.2
  have h49 : hi * wi ≤ 49 := Nat.mul_le_mul m.2.2.2.2.2.1.2 hw.2
  unfold f_X7_fill fillOk
  rw [m_isPoint m, bs, m_isPoint m, m.2.2.2.2.1]
  by_cases za : 0 ≤ a ∧ a < ((hi * wi : Nat) : Int)
  · rw [if_pos za, if_neg (by omega), bs]
    by_cases zb : 0 ≤ b ∧ b < ((hi * wi : Nat) : Int)
    · rw [if_pos zb, if_neg (by omega), dv_eq (by omega) (by omega), bs, md_eq (by omega) (by omega), bs, dv_eq (by omega) (by omega), bs]
      by_cases z1 : b / (wi : Int) < a / (wi : Int)
      · rw [if_pos z1]
        exact ⟨fun z => absurd z.2.2.1 (by omega), fun _ => ⟨_, rfl, by omega⟩⟩
      · rw [if_neg z1, md_eq (by omega) (by omega), bs]
        by_cases z2 : a % (wi : Int) ≤ b % (wi : Int)
        · rw [if_pos z2]
          refine ⟨fun _ => ?_, fun z => absurd ⟨za, zb, by omega, z2⟩ z⟩
          obtain ⟨a0, rfl⟩ := Int.eq_ofNat_of_zero_le za.1
          obtain ⟨b0, rfl⟩ := Int.eq_ofNat_of_zero_le zb.1
          have q1 : (a0 : Int) / (wi : Int) = ((a0 / wi : Nat) : Int) := by omega
          have q2 : (a0 : Int) % (wi : Int) = ((a0 % wi : Nat) : Int) := by omega
          have q3 : (b0 : Int) / (wi : Int) = ((b0 / wi : Nat) : Int) := by omega
          have q4 : (b0 : Int) % (wi : Int) = ((b0 % wi : Nat) : Int) := by omega
          rw [q2, q4] at z2
          rw [q1, q3] at z1
          rw [q1, q2]
          have hle : b0 / wi ≤ 49 := Nat.le_trans (Nat.div_le_self _ _) (by omega)
          have z1' : a0 / wi ≤ b0 / wi := Nat.le_of_not_lt (fun z => z1 (Int.ofNat_lt.mpr z))
          have z2' : a0 % wi ≤ b0 % wi := Int.ofNat_le.mp z2
          have := m_fill2 m (t := b0) (c0 := a0 % wi) (v := v) (by omega) rfl rfl z2' (b0 / wi + 1 - a0 / wi) (a0 / wi) 200 (h.1 c) (Nat.add_sub_of_le (Nat.le_succ_of_le z1')) (Nat.lt_of_le_of_lt (Nat.sub_le _ _) (Nat.lt_of_le_of_lt (Nat.succ_le_succ hle) (by omega)))
          rw [hs_self] at this
          exact this
        · rw [if_neg z2]
          exact ⟨fun z => absurd z.2.2.2 z2, fun _ => ⟨_, rfl, by omega⟩⟩
    · rw [if_neg zb, if_pos rfl]
      exact ⟨fun z => absurd z.2.1 zb, fun _ => ⟨_, rfl, by omega⟩⟩
  · rw [if_neg za, if_pos rfl]
    exact ⟨fun z => absurd z.1 za, fun _ => ⟨_, rfl, by omega⟩⟩
/-- the class: one row -/
theorem g_fill1 (g : GR G h o c hi wi) {t r c1 : Nat} {v : Int} (ht : t < hi * wi) (hc1 : c1 = t % wi) (hr : r < hi) (K : ct_H → Option (Int × ct_H)) : ∀ (k x n : Nat) (F : Nat → Int) (ch : Int), x + k = c1 + 1 → k < n → 0 ≤ ch → ch + k < 2147483647 → l_X0_fillUp_44 G o (t : Int) v (r : Int) K n ((x : Int), gh h o c F ch) = K (gh h o c (fun q => if q / (wi + 2) = r + 1 ∧ x + 1 ≤ q % (wi + 2) ∧ q % (wi + 2) ≤ c1 + 1 then v else F q) (ch + k))
  | 0, x, n + 1, F, ch, h1, h2, h3, h4 => by
    have hw := g.2.2.2.2.2.2.2.2
    have e5 : (gh h o c F ch).1 o 2 = (wi : Int) := (gh_GR g F ch).2.2.2.2.1
    rw [l_X0_fillUp_44]
    dsimp only
    rw [e5, md_eq (by omega) (by omega), bs, show (t : Int) % (wi : Int) = ((t % wi : Nat) : Int) by omega, ← hc1, if_pos (by omega)]
    have : (fun q => if q / (wi + 2) = r + 1 ∧ x + 1 ≤ q % (wi + 2) ∧ q % (wi + 2) ≤ c1 + 1 then v else F q) = F := by
      funext j; rw [if_neg (by intro z; have := z.2; omega)]
    rw [this]
    simp
  | k + 1, x, n + 1, F, ch, h1, h2, h3, h4 => by
    have hw := g.2.2.2.2.2.2.2.2
    have h49 : hi * wi ≤ 49 := Nat.mul_le_mul g.2.2.2.2.2.2.2.1.2 hw.2
    have e5 : (gh h o c F ch).1 o 2 = (wi : Int) := (gh_GR g F ch).2.2.2.2.1
    have hc2 : c1 < wi := by rw [hc1]; exact Nat.mod_lt _ (by omega)
    have hrw : r * wi + x < hi * wi := Nat.lt_of_lt_of_le (Nat.add_lt_add_left (show x < wi by omega) _) (by rw [← Nat.succ_mul]; exact Nat.mul_le_mul_right _ hr)
    have hpl : plc wi (r * wi + x) = (r + 1) * (wi + 2) + (x + 1) := by rw [plc_back hw (by omega), Nat.mul_comm]; rfl
    have hdm := fun j => dm_iff (j := j) (r := r + 1) (k := x + 1) (w := wi + 2) (by omega) (by omega)
    rw [l_X0_fillUp_44]
    dsimp only
    rw [e5, md_eq (by omega) (by omega), bs, show (t : Int) % (wi : Int) = ((t % wi : Nat) : Int) by omega, ← hc1, if_neg (by omega), ← Int.natCast_mul]
    rw [← hpl] at hdm
    generalize r * wi = y at hrw hdm ⊢
    rw [wr_id (a := (y : Int)) (by omega) (by omega), wr_id (a := (y : Int) + (x : Int)) (by omega) (by omega), show (y : Int) + (x : Int) = ((y + x : Nat) : Int) by omega, g_put g hrw h3 (by omega), bs, wr_id (by omega) (by omega)]
    have ih := g_fill1 g (v := v) ht hc1 hr K k (x + 1) n (up F (plc wi (y + x)) v) (ch + 1) (by omega) (by omega) (by omega) (by omega)
    rw [show ((x + 1 : Nat) : Int) = (x : Int) + 1 by omega] at ih
    rw [ih]
    have e0 : (fun q => if q / (wi + 2) = r + 1 ∧ x + 1 + 1 ≤ q % (wi + 2) ∧ q % (wi + 2) ≤ c1 + 1 then v else up F (plc wi (y + x)) v q) = (fun q => if q / (wi + 2) = r + 1 ∧ x + 1 ≤ q % (wi + 2) ∧ q % (wi + 2) ≤ c1 + 1 then v else F q) := by
      funext j
      unfold up
      have hd := hdm j
      by_cases e : j = plc wi (y + x)
      · rw [if_pos e, if_pos (show j / (wi + 2) = r + 1 ∧ x + 1 ≤ j % (wi + 2) ∧ j % (wi + 2) ≤ c1 + 1 from by have := hd.mp e; omega)]
        split <;> rfl
      · rw [if_neg e]
        have hne : ¬ (j / (wi + 2) = r + 1 ∧ j % (wi + 2) = x + 1) := fun z => e (hd.mpr z)
        by_cases e2 : j / (wi + 2) = r + 1 ∧ x + 1 + 1 ≤ j % (wi + 2) ∧ j % (wi + 2) ≤ c1 + 1
        · rw [if_pos e2, if_pos ⟨e2.1, by omega, e2.2.2⟩]
        · rw [if_neg e2, if_neg (fun z => by
            by_cases e3 : j % (wi + 2) = x + 1
            · exact hne ⟨z.1, e3⟩
            · exact e2 ⟨z.1, by omega, z.2.2⟩)]
    rw [e0]
    congr 2
    omega
end
