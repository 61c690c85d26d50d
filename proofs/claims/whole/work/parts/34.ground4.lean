/-! the class's ground: sums, the greatest, volume -/
def mx (F : Nat → Int) : Nat → Nat → Int → Int
  | _, 0, a => a
  | i, m + 1, a => mx F (i + 1) m (max a (F i))
theorem mx_ge (F : Nat → Int) : ∀ (m i : Nat) (a : Int), a ≤ mx F i m a ∧ ∀ j, i ≤ j → j < i + m → F j ≤ mx F i m a
  | 0, i, a => ⟨Int.le_refl _, fun j h1 h2 => by omega⟩
  | m + 1, i, a => by
    have ih := mx_ge F m (i + 1) (max a (F i))
    rw [mx]
    refine ⟨by omega, fun j h1 h2 => ?_⟩
    by_cases e : j = i
    · subst e; omega
    · exact ih.2 j (by omega) (by omega)
theorem mx_at (F : Nat → Int) : ∀ (m i : Nat) (a : Int), mx F i m a = a ∨ ∃ j, i ≤ j ∧ j < i + m ∧ mx F i m a = F j
  | 0, i, a => Or.inl rfl
  | m + 1, i, a => by
    rw [mx]
    rcases mx_at F m (i + 1) (max a (F i)) with e | ⟨j, h1, h2, e⟩
    · rw [e]
      by_cases z : a ≤ F i
      · exact Or.inr ⟨i, by omega, by omega, by omega⟩
      · exact Or.inl (by omega)
    · exact Or.inr ⟨j, by omega, by omega, e⟩
section
variable {G : ct_G} {h : ct_H} {o c hi wi : Nat}
theorem g_grL (g : GR G h o c hi wi) : ∀ (m i n : Nat) (a : Int), i + m = (hi + 2) * (wi + 2) → m < n → l_X0_greatest_4 G o h n (a, (i : Int)) = some (mx (h.1 c) i m a)
  | 0, i, n + 1, a, h1, h2 => by
    rw [l_X0_greatest_4, g.2.2.2.2.2.2.1, if_pos (by dsimp only; omega)]
    simp [mx]
  | m + 1, i, n + 1, a, h1, h2 => by
    have hb : (hi + 2) * (wi + 2) ≤ 81 := mul_b (by have := g.2.2.2.2.2.2.2.1; omega) (by have := g.2.2.2.2.2.2.2.2; omega)
    rw [l_X0_greatest_4, g.2.2.2.2.2.2.1, if_neg (by dsimp only; omega)]
    dsimp only
    rw [g.1, rdN (by rw [g.2.1]; omega), bs, lt_eq, ct_max_eq, wr_id (by omega) (by omega)]
    have := g_grL g m (i + 1) n (max a (h.1 c i)) (by omega) (by omega)
    rw [show ((i + 1 : Nat) : Int) = (i : Int) + 1 by omega] at this
    rw [this, mx]
theorem g_greatest (g : GR G h o c hi wi) : f_X0_greatest G h o = some (mx (h.1 c) 0 ((hi + 2) * (wi + 2)) (-1)) := by
  have hb : (hi + 2) * (wi + 2) ≤ 81 := mul_b (by have := g.2.2.2.2.2.2.2.1; omega) (by have := g.2.2.2.2.2.2.2.2; omega)
  unfold f_X0_greatest
  exact g_grL g ((hi + 2) * (wi + 2)) 0 200 (-1) (by omega) (by omega)
theorem g_inL (g : GR G h o c hi wi) {L : Int} : ∀ (m i n : Nat) (a : Int), i + m = (hi + 2) * (wi + 2) → m < n → 0 ≤ a → a + m < 1000 → l_X0_pointsIn_4 G o L h n (a, (i : Int)) = some (a + sm (fun q => if h.1 c q < L then 0 else 1) i m)
  | 0, i, n + 1, a, h1, h2, h3, h4 => by
    rw [l_X0_pointsIn_4, g.2.2.2.2.2.2.1, if_pos (by dsimp only; omega)]
    simp [sm]
  | m + 1, i, n + 1, a, h1, h2, h3, h4 => by
    have hb : (hi + 2) * (wi + 2) ≤ 81 := mul_b (by have := g.2.2.2.2.2.2.2.1; omega) (by have := g.2.2.2.2.2.2.2.2; omega)
    rw [l_X0_pointsIn_4, g.2.2.2.2.2.2.1, if_neg (by dsimp only; omega)]
    dsimp only
    rw [g.1, rdN (by rw [g.2.1]; omega), bs, sm]
    simp only [jn_eq]
    have ih := fun a' => g_inL g (L := L) m (i + 1) n a' (by omega) (by omega)
    rw [show ((i + 1 : Nat) : Int) = (i : Int) + 1 by omega] at ih
    by_cases z : h.1 c i < L
    · rw [if_pos z, if_pos z, wr_id (by omega) (by omega), ih a h3 (by omega)]
      congr 1; omega
    · rw [if_neg z, if_neg z, wr_id (a := a + 1) (by omega) (by omega), wr_id (by omega) (by omega), ih (a + 1) (by omega) (by omega)]
      congr 1; omega
theorem g_pointsIn (g : GR G h o c hi wi) {L : Int} : f_X0_pointsIn G h o L = some (sm (fun q => if h.1 c q < L then 0 else 1) 0 ((hi + 2) * (wi + 2))) := by
  have hb : (hi + 2) * (wi + 2) ≤ 81 := mul_b (by have := g.2.2.2.2.2.2.2.1; omega) (by have := g.2.2.2.2.2.2.2.2; omega)
  unfold f_X0_pointsIn
  have := g_inL g (L := L) ((hi + 2) * (wi + 2)) 0 200 0 (by omega) (by omega) (by omega) (by omega)
  rw [Int.zero_add] at this
  exact this
theorem g_togL (g : GR G h o c hi wi) (hF : hB (h.1 c)) : ∀ (m i n : Nat) (a : Int), i + m = hi * wi → m < n → -(i : Int) ≤ a → a ≤ 100 * i → l_X0_together_7 G o h ((hi * wi : Nat) : Int) n (a, (i : Int)) = some (a + sm (fun p => h.1 c (plc wi p)) i m)
  | 0, i, n + 1, a, h1, h2, h3, h4 => by
    rw [l_X0_together_7, if_pos (by dsimp only; omega)]
    simp [sm]
  | m + 1, i, n + 1, a, h1, h2, h3, h4 => by
    have hb : hi * wi ≤ 49 := Nat.mul_le_mul g.2.2.2.2.2.2.2.1.2 g.2.2.2.2.2.2.2.2.2
    have hv := hF (plc wi i) (plc_lt g.2.2.2.2.2.2.2.1 g.2.2.2.2.2.2.2.2 (by omega)).2
    rw [l_X0_together_7, if_neg (by dsimp only; omega)]
    dsimp only
    rw [g_heightOf g (by omega), bs, lt_eq, sm]
    have ih := g_togL g hF m (i + 1) n (a + h.1 c (plc wi i)) (by omega) (by omega) (by omega) (by omega)
    rw [show ((i + 1 : Nat) : Int) = (i : Int) + 1 by omega] at ih
    rw [wr_id (a := a + h.1 c (plc wi i)) (by omega) (by omega), wr_id (by omega) (by omega), ih]
    congr 1; omega
theorem g_together (g : GR G h o c hi wi) (hF : hB (h.1 c)) : f_X0_together G h o = some (sm (fun p => h.1 c (plc wi p)) 0 (hi * wi)) := by
  have hb : hi * wi ≤ 49 := Nat.mul_le_mul g.2.2.2.2.2.2.2.1.2 g.2.2.2.2.2.2.2.2.2
  unfold f_X0_together
  rw [g_points g, bs]
  have := g_togL g hF (hi * wi) 0 200 0 (by omega) (by omega) (by omega) (by omega)
  rw [Int.zero_add] at this
  exact this
/-- the first of the points i, i+1, .. with this height, or where they end -/
def fst (F : Nat → Int) (wi : Nat) (v : Int) : Nat → Nat → Nat
  | i, 0 => i
  | i, m + 1 => if F (plc wi i) = v then i else fst F wi v (i + 1) m
theorem g_firstL (g : GR G h o c hi wi) {v : Int} : ∀ (m i n : Nat), i + m = hi * wi → m < n → l_X0_firstOf_5 G o v h ((hi * wi : Nat) : Int) n (i : Int) = some ((fst (h.1 c) wi v i m : Nat) : Int)
  | 0, i, n + 1, h1, h2 => by
    rw [l_X0_firstOf_5, if_pos (by omega)]
    simp [fst]
  | m + 1, i, n + 1, h1, h2 => by
    have hb : hi * wi ≤ 49 := Nat.mul_le_mul g.2.2.2.2.2.2.2.1.2 g.2.2.2.2.2.2.2.2.2
    rw [l_X0_firstOf_5, if_neg (by omega), g_heightOf g (by omega), bs, fst]
    by_cases z : h.1 c (plc wi i) = v
    · rw [if_pos z, if_pos z]
    · have ih := g_firstL g (v := v) m (i + 1) n (by omega) (by omega)
      rw [show ((i + 1 : Nat) : Int) = (i : Int) + 1 by omega] at ih
      rw [if_neg z, if_neg z, wr_id (by omega) (by omega), ih]
theorem g_firstOf (g : GR G h o c hi wi) {v : Int} : f_X0_firstOf G h o v = some ((fst (h.1 c) wi v 0 (hi * wi) : Nat) : Int) := by
  have hb : hi * wi ≤ 49 := Nat.mul_le_mul g.2.2.2.2.2.2.2.1.2 g.2.2.2.2.2.2.2.2.2
  unfold f_X0_firstOf
  rw [g_points g, bs]
  exact g_firstL g (hi * wi) 0 200 (by omega) (by omega)
/-- how many squares of points a point is of -/
def wgt (n i : Nat) : Int := if 0 < i ∧ i < n - 1 then 2 else 1
def vol (F : Nat → Int) (wi hi : Nat) (L : Int) (p : Nat) : Int := wgt hi (p / wi) * wgt wi (p % wi) * max 0 (F (plc wi p) - L)
theorem wgt12 (n i : Nat) : wgt n i = 1 ∨ wgt n i = 2 := by unfold wgt; split <;> simp
theorem vol_b {F : Nat → Int} {wi hi : Nat} {L : Int} {p : Nat} (h1 : F (plc wi p) ≤ 99) (h2 : 0 ≤ L) : 0 ≤ vol F wi hi L p ∧ vol F wi hi L p ≤ 400 := by
  unfold vol
  rcases wgt12 hi (p / wi) with e | e <;> rcases wgt12 wi (p % wi) with e2 | e2 <;> rw [e, e2] <;> omega
theorem g_volL (g : GR G h o c hi wi) {L : Int} (hF : hB (h.1 c)) (hL : 0 ≤ L ∧ L ≤ 99) : ∀ (m i n : Nat) (a : Int), i + m = hi * wi → m < n → 0 ≤ a → a ≤ 400 * i → l_X0_volume_7 G o L h ((hi * wi : Nat) : Int) n (a, (i : Int)) = some (a + sm (vol (h.1 c) wi hi L) i m)
  | 0, i, n + 1, a, h1, h2, h3, h4 => by
    rw [l_X0_volume_7, if_pos (by dsimp only; omega)]
    simp [sm]
  | m + 1, i, n + 1, a, h1, h2, h3, h4 => by
    have g8 := g.2.2.2.2.2.2.2.1
    have g9 := g.2.2.2.2.2.2.2.2
    have hb : hi * wi ≤ 49 := Nat.mul_le_mul g8.2 g9.2
    have hv := hF (plc wi i) (plc_lt g8 g9 (by omega)).2
    have hw := vol_b (F := h.1 c) (wi := wi) (hi := hi) (L := L) (p := i) hv.2 hL.1
    rw [l_X0_volume_7, if_neg (by dsimp only; omega)]
    dsimp only
    rw [g.2.2.2.1, g.2.2.2.2.1, dv_eq (by omega) (by omega), bs, md_eq (by omega) (by omega), bs]
    rw [show (i : Int) / (wi : Int) = ((i / wi : Nat) : Int) by omega, show (i : Int) % (wi : Int) = ((i % wi : Nat) : Int) by omega]
    rw [wr_id (a := (hi : Int) - 1) (by omega) (by omega), wr_id (a := (wi : Int) - 1) (by omega) (by omega), g_heightOf g (by omega)]
    have ih := g_volL g hF hL m (i + 1) n (a + vol (h.1 c) wi hi L i) (by omega) (by omega) (by omega) (by omega)
    rw [show ((i + 1 : Nat) : Int) = (i : Int) + 1 by omega] at ih
    simp only [jn_eq, lt_eq, bs]
    rw [wr_id (a := (i : Int) + 1) (by omega) (by omega), wr_id (a := h.1 c (plc wi i) - L) (by omega) (by omega), ct_max_eq, sm]
    have key : ∀ w1 w2 : Int, wgt hi (i / wi) = w1 → wgt wi (i % wi) = w2 → l_X0_volume_7 G o L h ((hi * wi : Nat) : Int) n (ct_wr (a + ct_wr (ct_wr (w1 * w2) * max 0 (h.1 c (plc wi i) - L))), (i : Int) + 1) = some (a + (vol (h.1 c) wi hi L i + sm (vol (h.1 c) wi hi L) (i + 1) m)) := by
      intro w1 w2 e1 e2
      have hw2 : w1 * w2 = 1 ∨ w1 * w2 = 2 ∨ w1 * w2 = 4 := by
        rcases wgt12 hi (i / wi) with z | z <;> rcases wgt12 wi (i % wi) with z2 | z2 <;> rw [← e1, ← e2, z, z2] <;> simp
      have hve : vol (h.1 c) wi hi L i = w1 * w2 * max 0 (h.1 c (plc wi i) - L) := by unfold vol; rw [e1, e2]
      rw [wr_id (a := w1 * w2) (by omega) (by omega), ← hve, wr_id (a := vol (h.1 c) wi hi L i) (by omega) (by omega), wr_id (by omega) (by omega), ih]
      congr 1; omega
    have w1 : wgt hi (i / wi) = if ((i / wi : Nat) : Int) ≤ 0 then 1 else if (hi : Int) - 1 ≤ ((i / wi : Nat) : Int) then 1 else 2 := by
      unfold wgt
      generalize i / wi = z
      by_cases z1 : (z : Int) ≤ 0
      · rw [if_pos z1, if_neg (by omega)]
      · rw [if_neg z1]
        by_cases z2 : (hi : Int) - 1 ≤ (z : Int)
        · rw [if_pos z2, if_neg (by omega)]
        · rw [if_neg z2, if_pos (by omega)]
    have w2 : wgt wi (i % wi) = if ((i % wi : Nat) : Int) ≤ 0 then 1 else if (wi : Int) - 1 ≤ ((i % wi : Nat) : Int) then 1 else 2 := by
      unfold wgt
      generalize i % wi = z
      by_cases z1 : (z : Int) ≤ 0
      · rw [if_pos z1, if_neg (by omega)]
      · rw [if_neg z1]
        by_cases z2 : (wi : Int) - 1 ≤ (z : Int)
        · rw [if_pos z2, if_neg (by omega)]
        · rw [if_neg z2, if_pos (by omega)]
    by_cases q1 : ((i / wi : Nat) : Int) ≤ 0 <;> by_cases q2 : (hi : Int) - 1 ≤ ((i / wi : Nat) : Int) <;> by_cases q3 : ((i % wi : Nat) : Int) ≤ 0 <;> by_cases q4 : (wi : Int) - 1 ≤ ((i % wi : Nat) : Int) <;> simp only [q1, q2, q3, q4, ↓reduceIte] at w1 w2 ⊢ <;> exact key _ _ w1 w2
theorem g_volume (g : GR G h o c hi wi) {L : Int} (hF : hB (h.1 c)) (hL : 0 ≤ L ∧ L ≤ 99) : f_X0_volume G h o L = some (sm (vol (h.1 c) wi hi L) 0 (hi * wi)) := by
  have hb : hi * wi ≤ 49 := Nat.mul_le_mul g.2.2.2.2.2.2.2.1.2 g.2.2.2.2.2.2.2.2.2
  unfold f_X0_volume
  rw [g_points g, bs]
  have := g_volL g hF hL (hi * wi) 0 200 0 (by omega) (by omega) (by omega) (by omega)
  rw [Int.zero_add] at this
  exact this
theorem g_likeL (g : GR G h o c hi wi) {L : Int} (hL : 0 ≤ L ∧ L ≤ 99) : ∀ (m i n : Nat), i + m = (hi + 2) * (wi + 2) → m < n → ∃ r, l_X0_isLikeBelow_12 G o L h n (i : Int) = some r ∧ (r = 0 ∨ (r = 1 ∧ ∀ j, i ≤ j → j < i + m → h.1 c j ≠ L - 1))
  | 0, i, n + 1, h1, h2 => by
    rw [l_X0_isLikeBelow_12, g.2.2.2.2.2.2.1, if_pos (by omega)]
    exact ⟨1, rfl, Or.inr ⟨rfl, fun j h3 h4 => by omega⟩⟩
  | m + 1, i, n + 1, h1, h2 => by
    have hb : (hi + 2) * (wi + 2) ≤ 81 := mul_b (by have := g.2.2.2.2.2.2.2.1; omega) (by have := g.2.2.2.2.2.2.2.2; omega)
    rw [l_X0_isLikeBelow_12, g.2.2.2.2.2.2.1, if_neg (by omega), g.1, rdN (by rw [g.2.1]; omega), bs, wr_id (a := L - 1) (by omega) (by omega)]
    by_cases z : h.1 c i = L - 1
    · rw [if_pos z]; exact ⟨0, rfl, Or.inl rfl⟩
    · rw [if_neg z, wr_id (by omega) (by omega)]
      obtain ⟨r, e, hr⟩ := g_likeL g hL m (i + 1) n (by omega) (by omega)
      rw [show ((i + 1 : Nat) : Int) = (i : Int) + 1 by omega] at e
      refine ⟨r, e, hr.imp id (fun w => ⟨w.1, fun j h3 h4 => ?_⟩)⟩
      by_cases e2 : j = i
      · subst e2; exact z
      · exact w.2 j (by omega) (by omega)
end
