/-! the reference's ground -/
def MD (G : ct_G) (h : ct_H) (o c hi wi : Nat) : Prop := G.1 o 3 = c ∧ G.2 c = 49 ∧ c ≠ o ∧ h.1 o 0 = hi ∧ h.1 o 1 = wi ∧ (2 ≤ hi ∧ hi ≤ 7) ∧ (2 ≤ wi ∧ wi ≤ 7)
/-- heights by place (F) and by point (M) are the same; the rim -/
def RH (F M : Nat → Int) (hi wi : Nat) : Prop := (∀ p, p < hi * wi → M p = F (plc wi p) ∧ 0 ≤ M p ∧ M p ≤ 99) ∧ ∀ q, q < 81 → (∀ p, p < hi * wi → q ≠ plc wi p) → F q = -1
theorem plc_dm {wi p : Nat} (h2 : 2 ≤ wi ∧ wi ≤ 7) : plc wi p / (wi + 2) = p / wi + 1 ∧ plc wi p % (wi + 2) = p % wi + 1 := by
  unfold plc
  rcases w_cases h2 with rfl | rfl | rfl | rfl | rfl | rfl <;> omega
theorem plc_back {wi r k : Nat} (h2 : 2 ≤ wi ∧ wi ≤ 7) (hk : k < wi) : plc wi (r * wi + k) = (wi + 2) * (r + 1) + k + 1 := by
  unfold plc
  rcases w_cases h2 with rfl | rfl | rfl | rfl | rfl | rfl <;> omega
theorem RH.hB {F M : Nat → Int} {hi wi : Nat} (r : RH F M hi wi) : hB F := by
  intro q hq
  by_cases e : ∃ p, p < hi * wi ∧ q = plc wi p
  · obtain ⟨p, h1, rfl⟩ := e
    have := r.1 p h1
    omega
  · have := r.2 q hq (fun p h1 z => e ⟨p, h1, z⟩)
    omega
section
variable {G : ct_G} {h : ct_H} {o c hi wi : Nat}
theorem m_in (v a b : Int) : f_X7_in G h v a b = some (if a ≤ v ∧ v ≤ b then 1 else 0) := by
  unfold f_X7_in
  by_cases h1 : v < a
  · rw [if_pos h1, if_neg (by omega)]
  · rw [if_neg h1]
    by_cases h2 : b < v
    · rw [if_pos h2, if_neg (by omega)]
    · rw [if_neg h2, if_pos (by omega)]
theorem m_isLevel (v : Int) : f_X7_isLevel G h v = some (if 0 ≤ v ∧ v ≤ 99 then 1 else 0) := by
  unfold f_X7_isLevel
  rw [m_in, bs, bz01, bs]
theorem m_points (m : MD G h o c hi wi) : f_X7_points G h o = some ((hi * wi : Nat) : Int) := by
  obtain ⟨g1, g2, g3, g4, g5, g8, g9⟩ := m
  have : hi * wi ≤ 81 := mul_b (by omega) (by omega)
  unfold f_X7_points
  rw [g4, g5, ← Int.natCast_mul, wr_id (by omega) (by omega)]
theorem m_isPoint (m : MD G h o c hi wi) (p : Int) : f_X7_isPoint G h o p = some (if 0 ≤ p ∧ p < ((hi * wi : Nat) : Int) then 1 else 0) := by
  have : hi * wi ≤ 81 := mul_b (by have := m.2.2.2.2.2.1; omega) (by have := m.2.2.2.2.2.2; omega)
  unfold f_X7_isPoint
  rw [m_points m, bs, wr_id (by omega) (by omega), m_in, bs, bz01, bs]
  by_cases z : 0 ≤ p ∧ p < ((hi * wi : Nat) : Int)
  · rw [if_pos z, if_pos (by omega)]
  · rw [if_neg z, if_neg (by omega)]
theorem m_row (m : MD G h o c hi wi) (q : Nat) (hq : q < 1000) : f_X7_row G h o (q : Int) = some (((q / (wi + 2) : Nat) : Int) - 1) := by
  obtain ⟨g1, g2, g3, g4, g5, g8, g9⟩ := m
  unfold f_X7_row
  rw [g5, wr_id (a := (wi : Int) + 2) (by omega) (by omega), dv_eq (by omega) (by omega), bs]
  rw [show (q : Int) / ((wi : Int) + 2) = ((q / (wi + 2) : Nat) : Int) by rw [Int.natCast_ediv]; rfl]
  have hz : q / (wi + 2) ≤ q := Nat.div_le_self _ _
  generalize q / (wi + 2) = z at hz ⊢
  rw [wr_id (by omega) (by omega)]
theorem m_column (m : MD G h o c hi wi) (q : Nat) (hq : q < 1000) : f_X7_column G h o (q : Int) = some (((q % (wi + 2) : Nat) : Int) - 1) := by
  obtain ⟨g1, g2, g3, g4, g5, g8, g9⟩ := m
  unfold f_X7_column
  rw [g5, wr_id (a := (wi : Int) + 2) (by omega) (by omega), md_eq (by omega) (by omega), bs]
  rw [show (q : Int) % ((wi : Int) + 2) = ((q % (wi + 2) : Nat) : Int) by rw [Int.natCast_emod]; rfl]
  have hz : q % (wi + 2) ≤ q := Nat.mod_le _ _
  generalize q % (wi + 2) = z at hz ⊢
  rw [wr_id (by omega) (by omega)]
theorem m_heightAt (m : MD G h o c hi wi) {F : Nat → Int} (r : RH F (h.1 c) hi wi) {q : Nat} (hq : q < (hi + 2) * (wi + 2)) : f_X7_heightAt G h o (q : Int) = some (F q) := by
  have m' := m
  obtain ⟨g1, g2, g3, g4, g5, g8, g9⟩ := m
  have hN : (hi + 2) * (wi + 2) ≤ 81 := mul_b (by omega) (by omega)
  unfold f_X7_heightAt
  rw [m_row m' q (by omega), bs, m_column m' q (by omega), bs, g4, g5, wr_id (a := (hi : Int) - 1) (by omega) (by omega), wr_id (a := (wi : Int) - 1) (by omega) (by omega), m_in, bs]
  have hq1 : (wi + 2) * (q / (wi + 2)) + q % (wi + 2) = q := Nat.div_add_mod _ _
  have hout : ¬ (1 ≤ q / (wi + 2) ∧ q / (wi + 2) ≤ hi ∧ 1 ≤ q % (wi + 2) ∧ q % (wi + 2) ≤ wi) → F q = -1 := by
    intro z
    refine r.2 q (by omega) (fun p hp e => z ?_)
    have := plc_dm g9 (p := p)
    rw [← e] at this
    rw [this.1, this.2]
    have a1 : p / wi < hi := Nat.div_lt_of_lt_mul (by rw [Nat.mul_comm]; exact hp)
    have a2 : p % wi < wi := Nat.mod_lt _ (by omega)
    exact ⟨Nat.le_add_left _ _, a1, Nat.le_add_left _ _, a2⟩
  have hin : ∀ a b : Nat, q / (wi + 2) = a + 1 → q % (wi + 2) = b + 1 → a < hi → b < wi → h.1 c (a * wi + b) = F q ∧ a * wi + b < 49 := by
    intro a b e1 e2 ha hb
    have hlt : a * wi + b < hi * wi := Nat.lt_of_lt_of_le (Nat.add_lt_add_left hb _) (by rw [← Nat.succ_mul]; exact Nat.mul_le_mul_right _ ha)
    have h49 : hi * wi ≤ 49 := Nat.mul_le_mul g8.2 g9.2
    have e3 := plc_back g9 (r := a) hb
    rw [e1, e2] at hq1
    rw [(r.1 _ hlt).1, e3]
    exact ⟨by congr 1, by omega⟩
  generalize q / (wi + 2) = x at hq1 hout hin ⊢
  generalize q % (wi + 2) = y at hq1 hout hin ⊢
  by_cases z1 : 0 ≤ (x : Int) - 1 ∧ (x : Int) - 1 ≤ (hi : Int) - 1
  · rw [if_pos z1, if_neg (by omega), m_in, bs]
    by_cases z2 : 0 ≤ (y : Int) - 1 ∧ (y : Int) - 1 ≤ (wi : Int) - 1
    · rw [if_pos z2, if_neg (by omega), g1]
      obtain ⟨a, rfl⟩ : ∃ a, x = a + 1 := ⟨x - 1, by omega⟩
      obtain ⟨b, rfl⟩ : ∃ b, y = b + 1 := ⟨y - 1, by omega⟩
      have hh := hin a b rfl rfl (by omega) (by omega)
      have ea : ((a + 1 : Nat) : Int) - 1 = (a : Int) := by omega
      have eb : ((b + 1 : Nat) : Int) - 1 = (b : Int) := by omega
      rw [ea, eb, ← Int.natCast_mul]
      generalize a * wi = w at hh ⊢
      rw [wr_id (a := (w : Int)) (by omega) (by omega), wr_id (by omega) (by omega), show (w : Int) + (b : Int) = ((w + b : Nat) : Int) by omega, rdN (by omega), bs, hh.1]
    · rw [if_neg z2, if_pos rfl, hout (by omega)]
  · rw [if_neg z1, if_pos rfl, hout (by omega)]
theorem m_cornerOf (m : MD G h o c hi wi) {q : Nat} (hq : q < (hi + 1) * (wi + 1)) : f_X7_cornerOf G h o (q : Int) = some ((cor wi q : Nat) : Int) := by
  obtain ⟨g1, g2, g3, g4, g5, g8, g9⟩ := m
  have hb := (cor_lt g8 g9 hq).2
  unfold f_X7_cornerOf
  rw [g5, wr_id (a := (wi : Int) + 1) (by omega) (by omega), wr_id (a := (wi : Int) + 2) (by omega) (by omega), dv_eq (by omega) (by omega), bs, md_eq (by omega) (by omega), bs]
  rw [show (q : Int) / ((wi : Int) + 1) = ((q / (wi + 1) : Nat) : Int) by rw [Int.natCast_ediv]; rfl, show (q : Int) % ((wi : Int) + 1) = ((q % (wi + 1) : Nat) : Int) by rw [Int.natCast_emod]; rfl]
  unfold cor at hb ⊢
  generalize q / (wi + 1) = z1 at hb ⊢
  generalize q % (wi + 1) = z2 at hb ⊢
  rw [show ((wi : Int) + 2) * (z1 : Int) = (((wi + 2) * z1 : Nat) : Int) by rw [Int.natCast_mul]; rfl]
  generalize (wi + 2) * z1 = z3 at hb ⊢
  rw [wr_id (a := (z3 : Int)) (by omega) (by omega), wr_id (by omega) (by omega)]
  rfl
/-- the corners of a square, from the upper left one round -/
def cq (wi q k : Nat) : Nat := if k = 0 then cor wi q else if k = 1 then cor wi q + 1 else if k = 2 then cor wi q + (wi + 2) + 1 else cor wi q + (wi + 2)
theorem cq0 (wi q : Nat) : cq wi q 0 = cor wi q := by simp [cq]
theorem cq1 (wi q : Nat) : cq wi q 1 = cor wi q + 1 := by simp [cq]
theorem cq2 (wi q : Nat) : cq wi q 2 = cor wi q + (wi + 2) + 1 := by simp [cq]
theorem cq3 (wi q : Nat) : cq wi q 3 = cor wi q + (wi + 2) := by simp [cq]
theorem cq_lt {hi wi q : Nat} (h1 : 2 ≤ hi ∧ hi ≤ 7) (h2 : 2 ≤ wi ∧ wi ≤ 7) (hp : q < (hi + 1) * (wi + 1)) (k : Nat) : cq wi q k < (hi + 2) * (wi + 2) := by
  have := (cor_lt h1 h2 hp).1
  unfold cq
  repeat' split
  all_goals omega
theorem m_cornerAt (m : MD G h o c hi wi) {q : Nat} (hq : q < (hi + 1) * (wi + 1)) {k : Nat} (hk : k < 4) : f_X7_cornerAt G h o (q : Int) (k : Int) = some ((cq wi q k : Nat) : Int) := by
  unfold f_X7_cornerAt
  rw [m_cornerOf m hq, bs]
  have hb := (cor_lt m.2.2.2.2.2.1 m.2.2.2.2.2.2 hq).2
  have g9 := m.2.2.2.2.2.2
  rw [m.2.2.2.2.1]
  unfold cq
  generalize cor wi q = z at hb ⊢
  rw [wr_id (a := (z : Int) + 1) (by omega) (by omega), wr_id (a := (z : Int) + (wi : Int)) (by omega) (by omega), wr_id (a := (z : Int) + (wi : Int) + 3) (by omega) (by omega), wr_id (by omega) (by omega)]
  have : k = 0 ∨ k = 1 ∨ k = 2 ∨ k = 3 := by omega
  rcases this with rfl | rfl | rfl | rfl
  · simp
  · simp
  · simp; omega
  · simp; omega
theorem m_case1 (m : MD G h o c hi wi) {F : Nat → Int} (r : RH F (h.1 c) hi wi) {q : Nat} {L : Int} (hq : q < (hi + 1) * (wi + 1)) {k : Nat} (hk : k < 4) (n : Nat) (a : Int) : l_X7_caseOf_4 G o L (q : Int) h (n + 1) (a, (k : Int)) = l_X7_caseOf_4 G o L (q : Int) h n ((if F (cq wi q k) < L then a else ct_bop (fun x y => x ||| y) a (ct_bop (fun x y => x <<< (y &&& 31)) 1 (k : Int))), ((k + 1 : Nat) : Int)) := by
  rw [l_X7_caseOf_4, if_neg (by dsimp only; omega)]
  dsimp only
  rw [m_cornerAt m hq hk, bs, m_heightAt m r (cq_lt m.2.2.2.2.2.1 m.2.2.2.2.2.2 hq k), bs]
  simp only [jn_eq, lt_eq]
  rw [wr_id (by omega) (by omega), show (k : Int) + 1 = ((k + 1 : Nat) : Int) by omega]
  split <;> rfl
theorem m_caseOf (m : MD G h o c hi wi) {F : Nat → Int} (r : RH F (h.1 c) hi wi) {q : Nat} {L : Int} (hq : q < (hi + 1) * (wi + 1)) : f_X7_caseOf G h o L (q : Int) = some (cs F (wi + 2) (cor wi q) L) := by
  unfold f_X7_caseOf
  have e0 := m_case1 m r (L := L) hq (k := 0) (by omega) 199 0
  have e1 := fun a => m_case1 m r (L := L) hq (k := 1) (by omega) 198 a
  have e2 := fun a => m_case1 m r (L := L) hq (k := 2) (by omega) 197 a
  have e3 := fun a => m_case1 m r (L := L) hq (k := 3) (by omega) 196 a
  rw [show (200 : Nat) = 199 + 1 from rfl, show ((0 : Int), (0 : Int)) = ((0 : Int), ((0 : Nat) : Int)) from rfl, e0, e1, e2, e3, l_X7_caseOf_4, if_pos (by dsimp only; omega)]
  unfold cs cq
  by_cases x1 : F (cor wi q) < L <;> by_cases x2 : F (cor wi q + 1) < L <;> by_cases x3 : F (cor wi q + (wi + 2) + 1) < L <;> by_cases x4 : F (cor wi q + (wi + 2)) < L <;> simp only [x1, x2, x3, x4, ↓reduceIte, Nat.one_ne_zero, Nat.reduceEqDiff] <;> decide
theorem cor_dm {wi q : Nat} (h2 : 2 ≤ wi ∧ wi ≤ 7) : cor wi q / (wi + 2) = q / (wi + 1) ∧ cor wi q % (wi + 2) = q % (wi + 1) := by
  unfold cor
  rcases w_cases h2 with rfl | rfl | rfl | rfl | rfl | rfl <;> omega
theorem cs5 {F : Nat → Int} {s q : Nat} {L : Int} (e : cs F s q L = 5) : ¬ F q < L := by
  unfold cs at e
  intro z
  rw [if_pos z] at e
  repeat' split at e
  all_goals omega
theorem cs10 {F : Nat → Int} {s q : Nat} {L : Int} (e : cs F s q L = 10) : F q < L := by
  unfold cs at e
  apply Classical.byContradiction
  intro z
  rw [if_neg z] at e
  repeat' split at e
  all_goals omega
theorem x7_isSaddle {v : Int} : f_X7_isSaddle G h v = some (if v = 5 ∨ v = 10 then 1 else 0) := x0_isSaddle (G := G) (h := h)
theorem m_isJoined (m : MD G h o c hi wi) {F : Nat → Int} (r : RH F (h.1 c) hi wi) {q : Nat} {L : Int} (hq : q < (hi + 1) * (wi + 1)) (hL : 0 ≤ L ∧ L ≤ 99) (hk : 0 ≤ h.1 o 2 ∧ h.1 o 2 ≤ 4) : f_X7_isJoined G h o L (q : Int) = some (js F (wi + 2) (h.1 o 2) (cor wi q) L) := by
  unfold f_X7_isJoined js
  rw [m_caseOf m r hq, bs, x7_isSaddle, bs]
  by_cases z : cs F (wi + 2) (cor wi q) L = 5 ∨ cs F (wi + 2) (cor wi q) L = 10
  · rw [if_pos z, if_neg (by omega), if_pos z]
    have hh := fun k => m_heightAt m r (cq_lt m.2.2.2.2.2.1 m.2.2.2.2.2.2 hq k)
    have e0 : f_X7_cornerAt G h o (q : Int) 0 = some ((cq wi q 0 : Nat) : Int) := m_cornerAt m hq (k := 0) (by omega)
    have e1 : f_X7_cornerAt G h o (q : Int) 1 = some ((cq wi q 1 : Nat) : Int) := m_cornerAt m hq (k := 1) (by omega)
    have e2 : f_X7_cornerAt G h o (q : Int) 2 = some ((cq wi q 2 : Nat) : Int) := m_cornerAt m hq (k := 2) (by omega)
    have e3 : f_X7_cornerAt G h o (q : Int) 3 = some ((cq wi q 3 : Nat) : Int) := m_cornerAt m hq (k := 3) (by omega)
    rw [e0, bs, hh 0, bs, e1, bs, hh 1, bs, e2, bs, hh 2, bs, e3, bs, hh 3, bs, lt_eq, lt_eq]
    have hb := (cor_lt m.2.2.2.2.2.1 m.2.2.2.2.2.2 hq).2
    have b1 := r.hB (cor wi q) (by omega)
    have b2 := r.hB (cor wi q + 1) (by omega)
    have b3 := r.hB (cor wi q + (wi + 2) + 1) (by omega)
    have b4 := r.hB (cor wi q + (wi + 2)) (by omega)
    have hdm := cor_dm m.2.2.2.2.2.2 (q := q)
    have g9 := m.2.2.2.2.2.2
    unfold jd
    rw [hdm.1, hdm.2, cq0, cq1, cq2, cq3]
    have z5 : cs F (wi + 2) (cor wi q) L = 5 → ¬ F (cor wi q) < L := cs5
    have z10 : cs F (wi + 2) (cor wi q) L = 10 → F (cor wi q) < L := cs10
    generalize cs F (wi + 2) (cor wi q) L = cc at z z5 z10 ⊢
    generalize F (cor wi q) = v1 at b1 z5 z10 ⊢
    generalize F (cor wi q + 1) = v2 at b2 ⊢
    generalize F (cor wi q + (wi + 2) + 1) = v3 at b3 ⊢
    generalize F (cor wi q + (wi + 2)) = v4 at b4 ⊢
    have m1 := mul_bd (a := v1 - L) (b := v3 - L) (by omega) (by omega)
    have m2 := mul_bd (a := v2 - L) (b := v4 - L) (by omega) (by omega)
    rw [wr_id (a := v1 - L) (by omega) (by omega), wr_id (a := v2 - L) (by omega) (by omega), wr_id (a := v3 - L) (by omega) (by omega), wr_id (a := v4 - L) (by omega) (by omega), wr_id (a := (v1 - L) * (v3 - L)) (by omega) (by omega), wr_id (a := (v2 - L) * (v4 - L)) (by omega) (by omega)]
    have hkk : h.1 o 2 = 0 ∨ h.1 o 2 = 1 ∨ h.1 o 2 = 2 ∨ h.1 o 2 = 3 ∨ h.1 o 2 = 4 := by omega
    rcases hkk with k | k | k | k | k
    · simp only [k, Int.reduceEq, ↓reduceIte]
    · simp only [k, Int.reduceEq, ↓reduceIte]
    · rw [if_neg (show ¬ h.1 o 2 = 0 by omega), if_neg (show ¬ h.1 o 2 = 1 by omega), if_pos k, if_neg (show ¬ h.1 o 2 = 1 by omega), if_pos k, wr_id (a := v1 + v2) (by omega) (by omega), wr_id (a := v1 + v2 + v3) (by omega) (by omega), wr_id (a := v1 + v2 + v3 + v4) (by omega) (by omega), wr_id (a := 4 * L) (by omega) (by omega)]
      by_cases w : v1 + v2 + v3 + v4 < 4 * L
      · rw [if_pos w, if_pos w]
      · rw [if_neg w, if_neg w]
    · rw [if_neg (show ¬ h.1 o 2 = 0 by omega), if_neg (show ¬ h.1 o 2 = 1 by omega), if_neg (show ¬ h.1 o 2 = 2 by omega), if_pos k, if_neg (show ¬ h.1 o 2 = 1 by omega), if_neg (show ¬ h.1 o 2 = 2 by omega), if_pos k, m.2.2.2.2.1, wr_id (a := (wi : Int) + 1) (by omega) (by omega), dv_eq (by omega) (by omega), bs, md_eq (a := (q : Int)) (by omega) (by omega), bs]
      rw [show (q : Int) / ((wi : Int) + 1) = ((q / (wi + 1) : Nat) : Int) by rw [Int.natCast_ediv]; rfl, show (q : Int) % ((wi : Int) + 1) = ((q % (wi + 1) : Nat) : Int) by rw [Int.natCast_emod]; rfl]
      have hc : (hi + 1) * (wi + 1) ≤ 81 := mul_b (by have := m.2.2.2.2.2.1; omega) (by omega)
      have d1 : q / (wi + 1) ≤ q := Nat.div_le_self _ _
      have d2 : q % (wi + 1) ≤ q := Nat.mod_le _ _
      generalize q / (wi + 1) = y1 at d1 ⊢
      generalize q % (wi + 1) = y2 at d2 ⊢
      rw [wr_id (by omega) (by omega), md_eq (by omega) (by omega), bs]
      by_cases w : (y1 + y2) % 2 = 0
      · rw [if_pos w, if_pos (by omega)]
      · rw [if_neg w, if_neg (by omega)]
    · rw [if_neg (show ¬ h.1 o 2 = 0 by omega), if_neg (show ¬ h.1 o 2 = 1 by omega), if_neg (show ¬ h.1 o 2 = 2 by omega), if_neg (show ¬ h.1 o 2 = 3 by omega), if_neg (show ¬ h.1 o 2 = 1 by omega), if_neg (show ¬ h.1 o 2 = 2 by omega), if_neg (show ¬ h.1 o 2 = 3 by omega), if_pos k]
      rcases z with rfl | rfl
      · rw [if_pos rfl, if_neg (z5 rfl)]
        by_cases w : (v1 - L) * (v3 - L) < (v2 - L) * (v4 - L)
        · rw [if_pos w, if_pos w]
        · rw [if_neg w, if_neg w]
      · rw [if_neg (show ¬ (10 : Int) = 5 by omega), if_pos (z10 rfl)]
        by_cases w : (v2 - L) * (v4 - L) < (v1 - L) * (v3 - L)
        · rw [if_pos w, if_pos w]
        · rw [if_neg w, if_neg w]
  · rw [if_neg z, if_pos rfl, if_neg z]
end
