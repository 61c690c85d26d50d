/-! the edge behind an edge: the reference -/
def sqn (wi q : Nat) : Nat := (wi + 1) * (q / (wi + 2)) + q % (wi + 2)
theorem sqn_cor {hi wi q : Nat} (h1 : 2 ≤ hi ∧ hi ≤ 7) (h2 : 2 ≤ wi ∧ wi ≤ 7) (a : q / (wi + 2) ≤ hi) (b : q % (wi + 2) ≤ wi) : cor wi (sqn wi q) = q ∧ sqn wi q < (hi + 1) * (wi + 1) := by
  unfold cor sqn
  rcases w_cases h2 with rfl | rfl | rfl | rfl | rfl | rfl <;> rcases w_cases h1 with rfl | rfl | rfl | rfl | rfl | rfl <;> omega
/-- both squares beside a crossed edge are there -/
def inner (hi wi e : Nat) : Prop := (e % 2 = 0 → (1 ≤ e / 2 / (wi + 2) ∧ e / 2 / (wi + 2) ≤ hi) ∧ e / 2 % (wi + 2) ≤ wi) ∧ (¬ e % 2 = 0 → e / 2 / (wi + 2) ≤ hi ∧ 1 ≤ e / 2 % (wi + 2) ∧ e / 2 % (wi + 2) ≤ wi)
theorem inner_cor {F : Nat → Int} {hi wi e : Nat} {L : Int} (h1 : 2 ≤ hi ∧ hi ≤ 7) (h2 : 2 ≤ wi ∧ wi ≤ 7) (hn : inner hi wi e) : ecor F (wi + 2) L e / (wi + 2) ≤ hi ∧ ecor F (wi + 2) L e % (wi + 2) ≤ wi ∧ (e % 2 = 0 → wi + 2 ≤ e / 2) ∧ (¬ e % 2 = 0 → 1 ≤ e / 2) := by
  obtain ⟨n1, n2⟩ := hn
  unfold ecor
  generalize e / 2 = p at n1 n2 ⊢
  by_cases z : e % 2 = 0
  · have n3 := n1 z
    rw [if_pos z]
    split
    · rcases w_cases h2 with rfl | rfl | rfl | rfl | rfl | rfl <;> omega
    · rcases w_cases h2 with rfl | rfl | rfl | rfl | rfl | rfl <;> omega
  · have n3 := n2 z
    rw [if_neg z]
    split
    · rcases w_cases h2 with rfl | rfl | rfl | rfl | rfl | rfl <;> omega
    · rcases w_cases h2 with rfl | rfl | rfl | rfl | rfl | rfl <;> omega
theorem sid_e {F : Nat → Int} {hi wi e : Nat} {L : Int} (h1 : 2 ≤ hi ∧ hi ≤ 7) (h2 : 2 ≤ wi ∧ wi ≤ 7) (hn : inner hi wi e) : sid (wi + 2) (ecor F (wi + 2) L e) (esid F L e) = e := by
  have hi4 := inner_cor (F := F) (L := L) h1 h2 hn
  unfold sid ecor esid at *
  by_cases z : e % 2 = 0
  · have q := hi4.2.2.1 z
    by_cases w : F (e / 2) < L
    · simp only [if_pos z, if_pos w, ↓reduceIte]; omega
    · simp only [if_pos z, if_neg w]; rw [if_neg (by omega), if_neg (by omega), if_pos trivial]; omega
  · have q := hi4.2.2.2 z
    by_cases w : F (e / 2) < L
    · simp only [if_neg z, if_pos w]; rw [if_neg (by omega), if_pos trivial]; omega
    · simp only [if_neg z, if_neg w]; rw [if_neg (by omega), if_neg (by omega), if_neg (by omega)]; omega
theorem sid_inj {s q j k : Nat} (hs2 : 2 ≤ s) (hj : j < 4) (hk : k < 4) (e : sid s q j = sid s q k) : j = k := by
  have a : j = 0 ∨ j = 1 ∨ j = 2 ∨ j = 3 := by omega
  have b : k = 0 ∨ k = 1 ∨ k = 2 ∨ k = 3 := by omega
  unfold sid at e
  rcases a with rfl | rfl | rfl | rfl <;> rcases b with rfl | rfl | rfl | rfl <;> simp at e ⊢ <;> omega
section
variable {G : ct_G} {h : ct_H} {o c hi wi : Nat} {L : Int}
theorem m_edgeAt (m : MD G h o c hi wi) {sq k : Nat} (hq : sq < (hi + 1) * (wi + 1)) (hk : k < 4) : f_X7_edgeAt G h o (sq : Int) (k : Int) = some ((sid (wi + 2) (cor wi sq) k : Nat) : Int) := by
  unfold f_X7_edgeAt
  have hb := (cor_lt m.2.2.2.2.2.1 m.2.2.2.2.2.2 hq).2
  have g9 := m.2.2.2.2.2.2
  rw [m_cornerOf m hq, bs, m.2.2.2.2.1]
  unfold sid
  generalize cor wi sq = q at hb ⊢
  rw [wr_id (a := 2 * (q : Int)) (by omega) (by omega), wr_id (a := 2 * (q : Int) + 3) (by omega) (by omega), wr_id (a := (q : Int) + (wi : Int)) (by omega) (by omega), wr_id (a := (q : Int) + (wi : Int) + 2) (by omega) (by omega), wr_id (a := 2 * ((q : Int) + (wi : Int) + 2)) (by omega) (by omega), wr_id (a := 2 * (q : Int) + 1) (by omega) (by omega)]
  have : k = 0 ∨ k = 1 ∨ k = 2 ∨ k = 3 := by omega
  rcases this with rfl | rfl | rfl | rfl
  · rw [if_pos (by omega), if_pos rfl]; congr 1
  · rw [if_neg (by omega), if_pos (by omega), if_neg (by omega), if_pos rfl]; congr 1
  · rw [if_neg (by omega), if_neg (by omega), if_pos (by omega), if_neg (by omega), if_neg (by omega), if_pos rfl]; congr 1
  · rw [if_neg (by omega), if_neg (by omega), if_neg (by omega), if_neg (by omega), if_neg (by omega), if_neg (by omega)]; congr 1
theorem m_isBack (m : MD G h o c hi wi) {F : Nat → Int} (r : RH F (h.1 c) hi wi) {e : Nat} (he : e / 2 < (hi + 2) * (wi + 2)) : f_X7_isBack G h o L (e : Int) = some (if e % 2 = 0 then (if F (e / 2) < L then 0 else 1) else (if F (e / 2) < L then 1 else 0)) := by
  unfold f_X7_isBack
  rw [dv_eq (by omega) (by omega), bs, show (e : Int) / 2 = ((e / 2 : Nat) : Int) by omega, m_heightAt m r he, bs, jn_eq, md_eq (by omega) (by omega)]
  by_cases z : e % 2 = 0
  · rw [if_pos z]
    by_cases w : F (e / 2) < L
    · rw [if_pos w, if_pos w]
      dsimp only
      rw [bs, if_pos (by omega)]; rfl
    · rw [if_neg w, if_neg w]
      dsimp only
      rw [bs, if_pos (by omega)]; rfl
  · rw [if_neg z]
    by_cases w : F (e / 2) < L
    · rw [if_pos w, if_pos w]
      dsimp only
      rw [bs, if_neg (by omega), if_pos rfl]
    · rw [if_neg w, if_neg w]
      dsimp only
      rw [bs, if_neg (by omega), if_neg (by omega)]
theorem m_leadsTo (m : MD G h o c hi wi) {F : Nat → Int} (r : RH F (h.1 c) hi wi) {e : Nat} (he : e / 2 < (hi + 2) * (wi + 2)) (hn : inner hi wi e) : f_X7_leadsTo G h o L (e : Int) = some ((sqn wi (ecor F (wi + 2) L e) : Nat) : Int) := by
  have g8 := m.2.2.2.2.2.1
  have g9 := m.2.2.2.2.2.2
  have hN : (hi + 2) * (wi + 2) ≤ 81 := mul_b (by omega) (by omega)
  have hi4 := inner_cor (F := F) (L := L) g8 g9 hn
  obtain ⟨n1, n2⟩ := hn
  unfold f_X7_leadsTo
  rw [dv_eq (by omega) (by omega), bs, show (e : Int) / 2 = ((e / 2 : Nat) : Int) by omega, m_row m _ (by omega), bs, lt_eq, bs, m_column m _ (by omega), bs, lt_eq, md_eq (by omega) (by omega), bs, m_isBack m r he, m.2.2.2.2.1]
  unfold ecor at hi4 ⊢
  generalize e / 2 = p at he n1 n2 hi4 ⊢
  have hdm : (wi + 2) * (p / (wi + 2)) + p % (wi + 2) = p := Nat.div_add_mod _ _
  have d1 : p / (wi + 2) ≤ p := Nat.div_le_self _ _
  have d2 : p % (wi + 2) < wi + 2 := Nat.mod_lt _ (by omega)
  have key : ∀ x y : Nat, x ≤ 9 → y ≤ 9 → ct_wr (ct_wr (ct_wr ((wi : Int) + 1) * (x : Int)) + (y : Int)) = (((wi + 1) * x + y : Nat) : Int) := by
    intro x y hx hy
    have hm : (wi + 1) * x ≤ 81 := mul_b (by omega) hx
    rw [wr_id (a := (wi : Int) + 1) (by omega) (by omega), show ((wi : Int) + 1) * (x : Int) = (((wi + 1) * x : Nat) : Int) by rw [Int.natCast_mul]; rfl]
    generalize (wi + 1) * x = w at hm ⊢
    rw [wr_id (a := (w : Int)) (by omega) (by omega), wr_id (by omega) (by omega)]
    rfl
  have sq0 : ∀ x y : Nat, y < wi + 2 → sqn wi ((wi + 2) * x + y) = (wi + 1) * x + y := by
    intro x y hy
    unfold sqn
    rw [Nat.mul_add_div (by omega), Nat.div_eq_of_lt hy, Nat.mul_add_mod, Nat.mod_eq_of_lt hy]
    rfl
  generalize p / (wi + 2) = x at *
  generalize p % (wi + 2) = y at *
  by_cases z : e % 2 = 0
  · have n3 := n1 z
    have h4 := hi4.2.2.1 z
    rw [if_pos (by omega), if_pos z, if_pos z]
    rw [wr_id (a := (x : Int) - 1 + 1) (by omega) (by omega), wr_id (a := (y : Int) - 1 + 1) (by omega) (by omega), show (x : Int) - 1 + 1 = (x : Int) by omega, show (y : Int) - 1 + 1 = (y : Int) by omega]
    by_cases w : F p < L
    · rw [if_pos w, if_pos w, bs, if_pos rfl, key x y (by omega) (by omega), ← sq0 x y (by omega), hdm]
    · rw [if_neg w, if_neg w, bs, if_neg (by omega), wr_id (a := (x : Int) - 1) (by omega) (by omega), show (x : Int) - 1 = ((x - 1 : Nat) : Int) by omega, key (x - 1) y (by omega) (by omega), ← sq0 (x - 1) y (by omega)]
      congr 3
      obtain ⟨x', rfl⟩ : ∃ x', x = x' + 1 := ⟨x - 1, by omega⟩
      rw [Nat.mul_add] at hdm
      simp only [Nat.add_sub_cancel]
      omega
  · have n3 := n2 z
    have h4 := hi4.2.2.2 z
    rw [if_neg (by omega), if_neg z, if_neg z]
    rw [wr_id (a := (x : Int) - 1 + 1) (by omega) (by omega), wr_id (a := (y : Int) - 1 + 1) (by omega) (by omega), show (x : Int) - 1 + 1 = (x : Int) by omega, show (y : Int) - 1 + 1 = (y : Int) by omega]
    by_cases w : F p < L
    · rw [if_pos w, if_pos w, bs, if_neg (by omega), wr_id (a := (y : Int) - 1) (by omega) (by omega), show (y : Int) - 1 = ((y - 1 : Nat) : Int) by omega, key x (y - 1) (by omega) (by omega), ← sq0 x (y - 1) (by omega)]
      congr 3
      omega
    · rw [if_neg w, if_neg w, bs, if_pos rfl, key x y (by omega) (by omega), ← sq0 x y (by omega), hdm]
end
