/-! the class's ground: what is asked of it -/
def cs (F : Nat → Int) (s q : Nat) (L : Int) : Int := (if F q < L then 0 else 1) + (if F (q + 1) < L then 0 else 2) + (if F (q + s + 1) < L then 0 else 4) + (if F (q + s) < L then 0 else 8)
def jd (F : Nat → Int) (s : Nat) (kd : Int) (q : Nat) (L : Int) : Int :=
  if kd = 1 then 0
  else if kd = 2 then (if F q + F (q + 1) + F (q + s + 1) + F (q + s) < 4 * L then 0 else 1)
  else if kd = 3 then (if (q / s + q % s) % 2 = 0 then 1 else 0)
  else if kd = 4 then (if F q < L then (if (F (q + 1) - L) * (F (q + s) - L) < (F q - L) * (F (q + s + 1) - L) then 0 else 1) else (if (F q - L) * (F (q + s + 1) - L) < (F (q + 1) - L) * (F (q + s) - L) then 0 else 1))
  else 1
def hB (F : Nat → Int) : Prop := ∀ q, q < 81 → -1 ≤ F q ∧ F q ≤ 99
theorem mul_bd {a b : Int} (ha : -200 ≤ a ∧ a ≤ 200) (hb : -200 ≤ b ∧ b ≤ 200) : -40000 ≤ a * b ∧ a * b ≤ 40000 := by
  have h1 : (a * b).natAbs ≤ 200 * 200 := by
    rw [Int.natAbs_mul]
    exact Nat.mul_le_mul (by omega) (by omega)
  omega
section
variable {G : ct_G} {h : ct_H} {o c hi wi : Nat}
theorem g_caseOf (g : GR G h o c hi wi) {q : Nat} {L : Int} (hq : q + wi + 3 < 81) : f_X0_caseOf G h o (q : Int) L = some (cs (h.1 c) (wi + 2) q L) := by
  obtain ⟨g1, g2, g3, g4, g5, g6, g7, g8, g9⟩ := g
  unfold f_X0_caseOf
  rw [g1, g6, wr_id (a := (q : Int) + 1) (by omega) (by omega), wr_id (a := (q : Int) + ((wi + 2 : Nat) : Int)) (by omega) (by omega), wr_id (a := (q : Int) + ((wi + 2 : Nat) : Int) + 1) (by omega) (by omega)]
  rw [show (q : Int) + 1 = ((q + 1 : Nat) : Int) by omega, show (q : Int) + ((wi + 2 : Nat) : Int) + 1 = ((q + (wi + 2) + 1 : Nat) : Int) by omega, show (q : Int) + ((wi + 2 : Nat) : Int) = ((q + (wi + 2) : Nat) : Int) by omega]
  have r1 : ct_rd G h c (q : Int) = some (h.1 c q) := rdN (by omega)
  have r2 : ct_rd G h c ((q + 1 : Nat) : Int) = some (h.1 c (q + 1)) := rdN (by omega)
  have r3 : ct_rd G h c ((q + (wi + 2) + 1 : Nat) : Int) = some (h.1 c (q + (wi + 2) + 1)) := rdN (by omega)
  have r4 : ct_rd G h c ((q + (wi + 2) : Nat) : Int) = some (h.1 c (q + (wi + 2))) := rdN (by omega)
  unfold cs
  by_cases x1 : h.1 c q < L <;> by_cases x2 : h.1 c (q + 1) < L <;> by_cases x3 : h.1 c (q + (wi + 2) + 1) < L <;> by_cases x4 : h.1 c (q + (wi + 2)) < L <;> simp only [r1, r2, r3, r4, bs, jn_eq, x1, x2, x3, x4, ↓reduceIte] <;> rfl
theorem x0_isSaddle {v : Int} : f_X0_isSaddle G h v = some (if v = 5 ∨ v = 10 then 1 else 0) := by
  unfold f_X0_isSaddle
  by_cases h5 : v = 5
  · simp [h5]
  · by_cases h10 : v = 10
    · simp [h10]
    · simp [h5, h10]
theorem g_isJoined (g : GR G h o c hi wi) {q : Nat} {L : Int} (hq : q + wi + 3 < 81) (hF : hB (h.1 c)) (hL : 0 ≤ L ∧ L ≤ 99) : f_X0_isJoined G h o (q : Int) L = some (jd (h.1 c) (wi + 2) (h.1 o 5) q L) := by
  obtain ⟨g1, g2, g3, g4, g5, g6, g7, g8, g9⟩ := g
  unfold f_X0_isJoined
  rw [g1, g6, wr_id (a := (q : Int) + 1) (by omega) (by omega), wr_id (a := (q : Int) + ((wi + 2 : Nat) : Int)) (by omega) (by omega), wr_id (a := (q : Int) + ((wi + 2 : Nat) : Int) + 1) (by omega) (by omega)]
  rw [show (q : Int) + 1 = ((q + 1 : Nat) : Int) by omega, show (q : Int) + ((wi + 2 : Nat) : Int) + 1 = ((q + (wi + 2) + 1 : Nat) : Int) by omega, show (q : Int) + ((wi + 2 : Nat) : Int) = ((q + (wi + 2) : Nat) : Int) by omega]
  rw [rdN (by omega), bs, lt_eq, rdN (by omega), bs, lt_eq, rdN (by omega), bs, lt_eq, rdN (by omega), bs, lt_eq]
  have b1 := hF q (by omega)
  have b2 := hF (q + 1) (by omega)
  have b3 := hF (q + (wi + 2) + 1) (by omega)
  have b4 := hF (q + (wi + 2)) (by omega)
  unfold jd
  generalize h.1 c q = v1 at b1 ⊢
  generalize h.1 c (q + 1) = v2 at b2 ⊢
  generalize h.1 c (q + (wi + 2) + 1) = v3 at b3 ⊢
  generalize h.1 c (q + (wi + 2)) = v4 at b4 ⊢
  rw [wr_id (a := v1 - L) (by omega) (by omega), wr_id (a := v2 - L) (by omega) (by omega), wr_id (a := v3 - L) (by omega) (by omega), wr_id (a := v4 - L) (by omega) (by omega)]
  by_cases k1 : h.1 o 5 = 1
  · rw [if_pos k1, if_pos k1]
  · rw [if_neg k1, if_neg k1]
    by_cases k2 : h.1 o 5 = 2
    · rw [if_pos k2, if_pos k2, wr_id (a := v1 - L + (v2 - L)) (by omega) (by omega), wr_id (a := v1 - L + (v2 - L) + (v3 - L)) (by omega) (by omega), wr_id (by omega) (by omega)]
      by_cases z : v1 + v2 + v3 + v4 < 4 * L
      · rw [if_pos z, if_pos (by omega)]
      · rw [if_neg z, if_neg (by omega)]
    · rw [if_neg k2, if_neg k2]
      by_cases k3 : h.1 o 5 = 3
      · rw [if_pos k3, if_pos k3, dv_eq (by omega) (by omega), bs, md_eq (by omega) (by omega), bs]
        rw [show (q : Int) / ((wi + 2 : Nat) : Int) = ((q / (wi + 2) : Nat) : Int) by omega, show (q : Int) % ((wi + 2 : Nat) : Int) = ((q % (wi + 2) : Nat) : Int) by omega]
        have d1 : q / (wi + 2) ≤ q := Nat.div_le_self _ _
        have d2 : q % (wi + 2) ≤ q := Nat.mod_le _ _
        generalize q / (wi + 2) = z1 at d1 ⊢
        generalize q % (wi + 2) = z2 at d2 ⊢
        rw [wr_id (by omega) (by omega), md_eq (by omega) (by omega), bs]
        by_cases z : (z1 + z2) % 2 = 0
        · rw [if_pos z, if_pos (by omega)]
        · rw [if_neg z, if_neg (by omega)]
      · rw [if_neg k3, if_neg k3]
        by_cases k4 : h.1 o 5 = 4
        · rw [if_pos k4, if_pos k4]
          have m1 := mul_bd (a := v1 - L) (b := v3 - L) (by omega) (by omega)
          have m2 := mul_bd (a := v2 - L) (b := v4 - L) (by omega) (by omega)
          rw [wr_id (a := (v1 - L) * (v3 - L)) (by omega) (by omega), wr_id (a := (v2 - L) * (v4 - L)) (by omega) (by omega), lt_eq, lt_eq]
          by_cases z : v1 < L
          · rw [if_pos (by omega), if_pos z]
            split <;> rfl
          · rw [if_neg (by omega), if_neg z]
            split <;> rfl
        · rw [if_neg k4, if_neg k4]
theorem jd01 (F : Nat → Int) (s : Nat) (kd : Int) (q : Nat) (L : Int) : jd F s kd q L = 0 ∨ jd F s kd q L = 1 := by
  unfold jd
  repeat' split
  all_goals simp
/-- whether it is a saddle that is joined -/
def js (F : Nat → Int) (s : Nat) (kd : Int) (q : Nat) (L : Int) : Int := if cs F s q L = 5 ∨ cs F s q L = 10 then jd F s kd q L else 0
theorem g_isJoinedSaddle (g : GR G h o c hi wi) {q : Nat} {L : Int} (hq : q + wi + 3 < 81) (hF : hB (h.1 c)) (hL : 0 ≤ L ∧ L ≤ 99) : f_X0_isJoinedSaddle G h o (q : Int) L = some (js (h.1 c) (wi + 2) (h.1 o 5) q L) := by
  unfold f_X0_isJoinedSaddle js
  rw [g_caseOf g hq, bs, x0_isSaddle, bs]
  by_cases z : cs (h.1 c) (wi + 2) q L = 5 ∨ cs (h.1 c) (wi + 2) q L = 10
  · rw [if_pos z, if_neg (by omega), g_isJoined g hq hF hL, bs, if_pos z]
    rcases jd01 (h.1 c) (wi + 2) (h.1 o 5) q L with e | e <;> rw [e] <;> rfl
  · rw [if_neg z, if_pos rfl, if_neg z]
theorem g_isSquare (g : GR G h o c hi wi) (q : Int) : f_X0_isSquare G h o q = some (if 0 ≤ q ∧ q < (((hi + 1) * (wi + 1) : Nat) : Int) then 1 else 0) := by
  obtain ⟨g1, g2, g3, g4, g5, g6, g7, g8, g9⟩ := g
  unfold f_X0_isSquare
  have hb : (hi + 1) * (wi + 1) ≤ 81 := mul_b (by omega) (by omega)
  rw [g4, g5, wr_id (a := (hi : Int) + 1) (by omega) (by omega), wr_id (a := (wi : Int) + 1) (by omega) (by omega)]
  have e1 : ((hi : Int) + 1) * ((wi : Int) + 1) = (((hi + 1) * (wi + 1) : Nat) : Int) := by rw [Int.natCast_mul]; rfl
  rw [e1, wr_id (by omega) (by omega)]
  by_cases h0 : q < 0
  · rw [if_pos h0, if_neg (by omega)]
  · rw [if_neg h0]
    by_cases h1 : (((hi + 1) * (wi + 1) : Nat) : Int) ≤ q
    · rw [if_pos h1, if_neg (by omega)]
    · rw [if_neg h1, if_pos (by omega)]
def cor (wi q : Nat) : Nat := (wi + 2) * (q / (wi + 1)) + q % (wi + 1)
theorem cor_lt {hi wi q : Nat} (h1 : 2 ≤ hi ∧ hi ≤ 7) (h2 : 2 ≤ wi ∧ wi ≤ 7) (hp : q < (hi + 1) * (wi + 1)) : cor wi q + wi + 3 < (hi + 2) * (wi + 2) ∧ cor wi q + wi + 3 < 81 := by
  unfold cor
  rcases w_cases h1 with rfl | rfl | rfl | rfl | rfl | rfl <;> rcases w_cases h2 with rfl | rfl | rfl | rfl | rfl | rfl <;> omega
theorem g_cornerOf (g : GR G h o c hi wi) {q : Nat} (hq : q < (hi + 1) * (wi + 1)) : f_X0_cornerOf G h o (q : Int) = some ((cor wi q : Nat) : Int) := by
  obtain ⟨g1, g2, g3, g4, g5, g6, g7, g8, g9⟩ := g
  have hb := (cor_lt g8 g9 hq).2
  unfold f_X0_cornerOf
  rw [g5, g6, wr_id (a := (wi : Int) + 1) (by omega) (by omega), dv_eq (by omega) (by omega), bs, md_eq (by omega) (by omega), bs]
  rw [show (q : Int) / ((wi : Int) + 1) = ((q / (wi + 1) : Nat) : Int) by rw [Int.natCast_ediv]; rfl, show (q : Int) % ((wi : Int) + 1) = ((q % (wi + 1) : Nat) : Int) by rw [Int.natCast_emod]; rfl]
  unfold cor at hb ⊢
  generalize q / (wi + 1) = z1 at hb ⊢
  generalize q % (wi + 1) = z2 at hb ⊢
  rw [← Int.natCast_mul]
  generalize (wi + 2) * z1 = z3 at hb ⊢
  rw [wr_id (a := (z3 : Int)) (by omega) (by omega), wr_id (by omega) (by omega)]
  rfl
theorem g_isEdge (g : GR G h o c hi wi) (e : Int) : f_X0_isEdge G h o e = some (if 0 ≤ e ∧ e < 2 * (((hi + 2) * (wi + 2) : Nat) : Int) ∧ ((e % 2 = 0 ∧ (e / 2) % ((wi + 2 : Nat) : Int) < ((wi + 1 : Nat) : Int)) ∨ (¬ e % 2 = 0 ∧ e / 2 + ((wi + 2 : Nat) : Int) < (((hi + 2) * (wi + 2) : Nat) : Int))) then 1 else 0) := by
  obtain ⟨g1, g2, g3, g4, g5, g6, g7, g8, g9⟩ := g
  unfold f_X0_isEdge
  have hb : (hi + 2) * (wi + 2) ≤ 81 := mul_b (by omega) (by omega)
  rw [g6, g7]
  generalize (hi + 2) * (wi + 2) = N at hb ⊢
  rw [wr_id (a := 2 * (N : Int)) (by omega) (by omega)]
  by_cases h0 : e < 0
  · rw [if_pos h0, if_neg (by omega)]
  · rw [if_neg h0]
    by_cases h1 : e < 2 * (N : Int)
    · rw [if_pos h1, dv_eq (by omega) (by omega), bs, md_eq (by omega) (by omega), bs]
      by_cases h2 : e % 2 = 0
      · rw [if_pos h2, md_eq (by omega) (by omega), bs, wr_id (by omega) (by omega)]
        by_cases h3 : (e / 2) % ((wi + 2 : Nat) : Int) < ((wi + 1 : Nat) : Int)
        · rw [if_neg (by omega), if_pos ⟨by omega, h1, Or.inl ⟨h2, h3⟩⟩]
        · rw [if_pos (by omega), if_neg (fun z => z.2.2.elim (fun w => h3 w.2) (fun w => w.1 h2))]
      · rw [if_neg h2, wr_id (by omega) (by omega)]
        by_cases h3 : e / 2 + ((wi + 2 : Nat) : Int) < (N : Int)
        · rw [if_neg (by omega), if_pos ⟨by omega, h1, Or.inr ⟨h2, h3⟩⟩]
        · rw [if_pos (by omega), if_neg (fun z => z.2.2.elim (fun w => h2 w.1) (fun w => h3 w.2))]
    · rw [if_neg h1, if_neg (by omega)]
/-- how many of the squares i, i+1, .. are saddles (joined ones) -/
theorem g_saddlesL (g : GR G h o c hi wi) {L j : Int} (hF : hB (h.1 c)) (hL : 0 ≤ L ∧ L ≤ 99) : ∀ (m i n : Nat) (a : Int), i + m = (hi + 1) * (wi + 1) → m < n → 0 ≤ a → a + m < 1000 → l_X0_saddles_14 G o L j h (((hi + 1) * (wi + 1) : Nat) : Int) n (a, (i : Int)) = some (a + sm (fun q => if j = 0 then (if cs (h.1 c) (wi + 2) (cor wi q) L = 5 ∨ cs (h.1 c) (wi + 2) (cor wi q) L = 10 then 1 else 0) else js (h.1 c) (wi + 2) (h.1 o 5) (cor wi q) L) i m)
  | 0, i, n + 1, a, h1, h2, h3, h4 => by
    rw [l_X0_saddles_14, if_pos (by dsimp only; omega)]
    simp [sm]
  | m + 1, i, n + 1, a, h1, h2, h3, h4 => by
    rw [l_X0_saddles_14, if_neg (by dsimp only; omega)]
    dsimp only
    have g8 := g.2.2.2.2.2.2.2.1
    have g9 := g.2.2.2.2.2.2.2.2
    have hb : (hi + 1) * (wi + 1) ≤ 81 := mul_b (by omega) (by omega)
    have hc := (cor_lt g8 g9 (q := i) (by omega)).2
    rw [g_cornerOf g (by omega), bs, g_caseOf g hc, bs, x0_isSaddle, bs]
    have ih := fun a' => g_saddlesL g (j := j) hF hL m (i + 1) n a' (by omega) (by omega)
    rw [show ((i + 1 : Nat) : Int) = (i : Int) + 1 by omega] at ih
    rw [sm]
    by_cases z : cs (h.1 c) (wi + 2) (cor wi i) L = 5 ∨ cs (h.1 c) (wi + 2) (cor wi i) L = 10
    · simp only [if_pos z, jn_eq]
      rw [if_neg (by omega)]
      by_cases hj : j = 0
      · rw [if_pos hj, if_pos hj, wr_id (a := (i : Int) + 1) (by omega) (by omega), wr_id (by omega) (by omega), ih (a + 1) (by omega) (by omega)]
        congr 1; omega
      · rw [if_neg hj, if_neg hj, g_isJoined g hc hF hL, bs]
        unfold js
        rw [if_pos z]
        rcases jd01 (h.1 c) (wi + 2) (h.1 o 5) (cor wi i) L with e | e
        · rw [e, if_pos rfl, wr_id (a := (i : Int) + 1) (by omega) (by omega), ih a h3 (by omega)]
          unfold js
          congr 1; omega
        · rw [e, if_neg (by omega), wr_id (a := (i : Int) + 1) (by omega) (by omega), wr_id (by omega) (by omega), ih (a + 1) (by omega) (by omega)]
          unfold js
          congr 1; omega
    · simp only [if_neg z, jn_eq]
      rw [if_pos trivial, wr_id (a := (i : Int) + 1) (by omega) (by omega), ih a h3 (by omega)]
      congr 1
      have : (if j = 0 then 0 else js (h.1 c) (wi + 2) (h.1 o 5) (cor wi i) L) = 0 := by
        unfold js
        rw [if_neg z]
        split <;> rfl
      omega
end
