/-! the class's ground: changes of heights -/
def gh (h : ct_H) (o c : Nat) (F : Nat → Int) (k : Int) : ct_H := hs (hs h c F) o (up (h.1 o) 6 k)
theorem gh_c {h : ct_H} {o c : Nat} (hn : c ≠ o) (F : Nat → Int) (k : Int) : (gh h o c F k).1 c = F := by
  unfold gh; rw [hs_orow _ _ hn, hs_row]
theorem gh_o {h : ct_H} {o c : Nat} (F : Nat → Int) (k : Int) : (gh h o c F k).1 o = up (h.1 o) 6 k := by
  unfold gh; rw [hs_row]
theorem gh_o6 {h : ct_H} {o c : Nat} (F : Nat → Int) (k : Int) : (gh h o c F k).1 o 6 = k := by rw [gh_o, up_same]
theorem gh_oj {h : ct_H} {o c j : Nat} (F : Nat → Int) (k : Int) (hj : j ≠ 6) : (gh h o c F k).1 o j = h.1 o j := by rw [gh_o, up_other _ _ hj]
theorem gh_x {h : ct_H} {o c a : Nat} (F : Nat → Int) (k : Int) (h1 : a ≠ o) (h2 : a ≠ c) : (gh h o c F k).1 a = h.1 a := by
  unfold gh; rw [hs_orow _ _ h1, hs_orow _ _ h2]
theorem gh_long {h : ct_H} {o c : Nat} (F : Nat → Int) (k : Int) : (gh h o c F k).2 = h.2 := rfl
theorem gh_GR {G : ct_G} {h : ct_H} {o c hi wi : Nat} (g : GR G h o c hi wi) (F : Nat → Int) (k : Int) : GR G (gh h o c F k) o c hi wi := by
  obtain ⟨g1, g2, g3, g4, g5, g6, g7, g8, g9⟩ := g
  exact ⟨g1, g2, g3, by rw [gh_oj _ _ (by omega)]; exact g4, by rw [gh_oj _ _ (by omega)]; exact g5, by rw [gh_oj _ _ (by omega)]; exact g6, by rw [gh_oj _ _ (by omega)]; exact g7, g8, g9⟩
theorem gh_id (h : ct_H) (o c : Nat) : gh h o c (h.1 c) (h.1 o 6) = h := by
  unfold gh
  rw [hs_self]
  have : up (h.1 o) 6 (h.1 o 6) = h.1 o := by
    funext b
    by_cases hb : b = 6
    · subst hb; rw [up_same]
    · rw [up_other _ _ hb]
  rw [this, hs_self]
theorem gh_gh {h : ct_H} {o c : Nat} (hn : c ≠ o) (F F' : Nat → Int) (k k' : Int) : gh (gh h o c F k) o c F' k' = gh h o c F' k' := by
  have e : up (up (h.1 o) 6 k) 6 k' = up (h.1 o) 6 k' := by
    funext b
    by_cases hb : b = 6
    · subst hb; rw [up_same, up_same]
    · rw [up_other _ _ hb, up_other _ _ hb, up_other _ _ hb]
  unfold gh
  rw [hs_row, e, hs_comm _ _ _ hn, hs_hs, hs_comm _ _ _ (fun z => hn z.symm), hs_hs]
theorem gh_set {h : ct_H} {o c : Nat} (hn : c ≠ o) (F F' : Nat → Int) (k k' : Int) : hs (hs (gh h o c F k) c F') o (up ((hs (gh h o c F k) c F').1 o) 6 k') = gh h o c F' k' := by
  have : (hs (gh h o c F k) c F').1 o = (gh h o c F k).1 o := hs_orow _ _ (fun z => hn z.symm)
  rw [this]
  exact gh_gh hn F F' k k'
section
variable {G : ct_G} {h : ct_H} {o c hi wi : Nat}
theorem g_put (g : GR G h o c hi wi) {F : Nat → Int} {k v : Int} {p : Nat} (hp : p < hi * wi) (h0 : 0 ≤ k) (h1 : k < 2147483647) : f_X0_putHeight G (gh h o c F k) o (p : Int) v = some (gh h o c (up F (plc wi p) v) (k + 1)) := by
  have g' := gh_GR g F k
  have hn := g.2.2.1
  unfold f_X0_putHeight
  rw [g_placeOf g' hp, bs, g.1, wtN (by rw [g.2.1]; exact (plc_lt g.2.2.2.2.2.2.2.1 g.2.2.2.2.2.2.2.2 hp).2), bs, gh_c hn, lt_eq]
  have e : (hs (gh h o c F k) c (up F (plc wi p) v)).1 o 6 = k := by rw [hs_other _ _ _ (fun z => hn z.symm), gh_o6]
  rw [e, wr_id (by omega) (by omega), ct_wF_hs, gh_set hn]
/-- heights of the points i, i+1, .. m of them become val point height -/
def puts (wi : Nat) (val : Nat → Int → Int) : Nat → Nat → (Nat → Int) → (Nat → Int)
  | _, 0, F => F
  | i, m + 1, F => puts wi val (i + 1) m (up F (plc wi i) (val i (F (plc wi i))))
theorem plc_inj {wi p q : Nat} (h2 : 2 ≤ wi ∧ wi ≤ 7) (e : plc wi p = plc wi q) : p = q := by
  unfold plc at e
  rcases w_cases h2 with rfl | rfl | rfl | rfl | rfl | rfl <;> omega
theorem puts_out {wi : Nat} {val : Nat → Int → Int} : ∀ {m i : Nat} {F : Nat → Int} {q : Nat}, (∀ p, i ≤ p → p < i + m → q ≠ plc wi p) → puts wi val i m F q = F q
  | 0, _, _, _, _ => rfl
  | m + 1, i, F, q, hq => by
    rw [puts, puts_out (fun p h1 h2 => hq p (by omega) (by omega)), up_other _ _ (hq i (by omega) (by omega))]
theorem puts_at {wi : Nat} (h2 : 2 ≤ wi ∧ wi ≤ 7) {val : Nat → Int → Int} : ∀ {m i : Nat} {F : Nat → Int} {p : Nat}, i ≤ p → p < i + m → puts wi val i m F (plc wi p) = val p (F (plc wi p))
  | 0, _, _, _, h3, h4 => by omega
  | m + 1, i, F, p, h3, h4 => by
    rw [puts]
    by_cases e : p = i
    · subst e
      rw [puts_out (fun q h5 h6 z => by have := plc_inj h2 z; omega), up_same]
    · rw [puts_at h2 (by omega) (by omega), up_other _ _ (fun z => e (plc_inj h2 z))]
theorem g_layL (g : GR G h o c hi wi) : ∀ (m i n : Nat) (F : Nat → Int) (k : Int), i + m = hi * wi → m < n → 0 ≤ k → k + m < 2147483647 → l_X0_layOut_28 G o ((hi * wi : Nat) : Int) n ((i : Int), gh h o c F k) = some (gh h o c (puts wi (fun _ _ => 0) i m F) (k + m))
  | 0, i, n + 1, F, k, h1, h2, h3, h4 => by
    rw [l_X0_layOut_28, if_pos (by dsimp only; omega)]
    simp [puts]
  | m + 1, i, n + 1, F, k, h1, h2, h3, h4 => by
    rw [l_X0_layOut_28, if_neg (by dsimp only; omega)]
    dsimp only
    have hb : hi * wi ≤ 49 := Nat.mul_le_mul g.2.2.2.2.2.2.2.1.2 g.2.2.2.2.2.2.2.2.2
    rw [g_put g (by omega) h3 (by omega), bs, wr_id (by omega) (by omega)]
    have := g_layL g m (i + 1) n (up F (plc wi i) 0) (k + 1) (by omega) (by omega) (by omega) (by omega)
    rw [show ((i + 1 : Nat) : Int) = (i : Int) + 1 by omega] at this
    rw [this, puts]
    congr 2
    omega
theorem g_turnL (g : GR G h o c hi wi) : ∀ (m i n : Nat) (F : Nat → Int) (k : Int), i + m = hi * wi → m < n → 0 ≤ k → k + m < 2147483647 → (∀ p, p < hi * wi → 0 ≤ F (plc wi p) ∧ F (plc wi p) ≤ 99) → l_X0_turnOver_5 G o ((hi * wi : Nat) : Int) n ((i : Int), gh h o c F k) = some (gh h o c (puts wi (fun _ v => 99 - v) i m F) (k + m))
  | 0, i, n + 1, F, k, h1, h2, h3, h4, h5 => by
    rw [l_X0_turnOver_5, if_pos (by dsimp only; omega)]
    simp [puts]
  | m + 1, i, n + 1, F, k, h1, h2, h3, h4, h5 => by
    rw [l_X0_turnOver_5, if_neg (by dsimp only; omega)]
    dsimp only
    have hb : hi * wi ≤ 49 := Nat.mul_le_mul g.2.2.2.2.2.2.2.1.2 g.2.2.2.2.2.2.2.2.2
    have hv := h5 i (by omega)
    rw [g_heightOf (gh_GR g F k) (by omega), bs, gh_c g.2.2.1, wr_id (by omega) (by omega), g_put g (by omega) h3 (by omega), bs, wr_id (by omega) (by omega)]
    have := g_turnL g m (i + 1) n (up F (plc wi i) (99 - F (plc wi i))) (k + 1) (by omega) (by omega) (by omega) (by omega) (fun p hp => by
      by_cases e : plc wi p = plc wi i
      · rw [e, up_same]; omega
      · rw [up_other _ _ e]; exact h5 p hp)
    rw [show ((i + 1 : Nat) : Int) = (i : Int) + 1 by omega] at this
    rw [this, puts]
    congr 2
    omega
theorem ct_max_eq (a b : Int) : ct_max a b = max a b := by unfold ct_max; omega
theorem ct_min_eq (a b : Int) : ct_min a b = min a b := by unfold ct_min; omega
theorem ct_abs_eq {a : Int} (h : -2147483648 < a) (h2 : a < 2147483648) : ct_abs a = (a.natAbs : Int) := by
  unfold ct_abs
  split
  · omega
  · rw [wr_id (by omega) (by omega)]; omega
theorem g_lowL (g : GR G h o c hi wi) {a : Int} (ha : 0 ≤ a ∧ a ≤ 99) : ∀ (m i n : Nat) (F : Nat → Int) (k : Int), i + m = hi * wi → m < n → 0 ≤ k → k + m < 2147483647 → (∀ p, p < hi * wi → 0 ≤ F (plc wi p) ∧ F (plc wi p) ≤ 99) → l_X0_lowerAll_5 G o a ((hi * wi : Nat) : Int) n ((i : Int), gh h o c F k) = some (gh h o c (puts wi (fun _ v => max 0 (v - a)) i m F) (k + m))
  | 0, i, n + 1, F, k, h1, h2, h3, h4, h5 => by
    rw [l_X0_lowerAll_5, if_pos (by dsimp only; omega)]
    simp [puts]
  | m + 1, i, n + 1, F, k, h1, h2, h3, h4, h5 => by
    rw [l_X0_lowerAll_5, if_neg (by dsimp only; omega)]
    dsimp only
    have hb : hi * wi ≤ 49 := Nat.mul_le_mul g.2.2.2.2.2.2.2.1.2 g.2.2.2.2.2.2.2.2.2
    have hv := h5 i (by omega)
    rw [g_heightOf (gh_GR g F k) (by omega), bs, gh_c g.2.2.1, wr_id (by omega) (by omega), ct_max_eq, g_put g (by omega) h3 (by omega), bs, wr_id (by omega) (by omega)]
    have := g_lowL g ha m (i + 1) n (up F (plc wi i) (max 0 (F (plc wi i) - a))) (k + 1) (by omega) (by omega) (by omega) (by omega) (fun p hp => by
      by_cases e : plc wi p = plc wi i
      · rw [e, up_same]; omega
      · rw [up_other _ _ e]; exact h5 p hp)
    rw [show ((i + 1 : Nat) : Int) = (i : Int) + 1 by omega] at this
    rw [this, puts]
    congr 2
    omega
/-- how far two points are apart -/
def far (wi p q : Nat) : Int := ((p / wi : Nat) - (q / wi : Nat) : Int).natAbs + ((p % wi : Nat) - (q % wi : Nat) : Int).natAbs
theorem far_le {wi p q : Nat} (h2 : 2 ≤ wi ∧ wi ≤ 7) (hp : p < 49) (hq : q < 49) : 0 ≤ far wi p q ∧ far wi p q ≤ 60 := by
  unfold far
  have a1 : p / wi ≤ 49 := Nat.le_trans (Nat.div_le_self _ _) (by omega)
  have a2 : q / wi ≤ 49 := Nat.le_trans (Nat.div_le_self _ _) (by omega)
  have a3 : p % wi < 7 := Nat.lt_of_lt_of_le (Nat.mod_lt _ (by omega)) h2.2
  have a4 : q % wi < 7 := Nat.lt_of_lt_of_le (Nat.mod_lt _ (by omega)) h2.2
  generalize p / wi = z1 at a1 ⊢
  generalize q / wi = z2 at a2 ⊢
  generalize p % wi = z3 at a3 ⊢
  generalize q % wi = z4 at a4 ⊢
  omega
theorem g_heapL (g : GR G h o c hi wi) {t : Nat} {a2 a3 : Int} (ht : t < hi * wi) (hA : 0 ≤ a2 ∧ a2 ≤ 99) (hB : 0 ≤ a3 ∧ a3 ≤ 99) : ∀ (m i n : Nat) (F : Nat → Int) (k : Int), i + m = hi * wi → m < n → 0 ≤ k → k + m < 2147483647 → (∀ p, p < hi * wi → 0 ≤ F (plc wi p) ∧ F (plc wi p) ≤ 99) → l_X0_heapUp_11 G o (t : Int) a2 a3 ((hi * wi : Nat) : Int) n ((i : Int), gh h o c F k) = some (1, gh h o c (puts wi (fun p v => max v (a2 - a3 * far wi p t)) i m F) (k + m))
  | 0, i, n + 1, F, k, h1, h2, h3, h4, h5 => by
    rw [l_X0_heapUp_11, if_pos (by dsimp only; omega)]
    simp [puts]
  | m + 1, i, n + 1, F, k, h1, h2, h3, h4, h5 => by
    rw [l_X0_heapUp_11, if_neg (by dsimp only; omega)]
    dsimp only
    have hb : hi * wi ≤ 49 := Nat.mul_le_mul g.2.2.2.2.2.2.2.1.2 g.2.2.2.2.2.2.2.2.2
    have hw := g.2.2.2.2.2.2.2.2
    have hv := h5 i (by omega)
    have e5 : (gh h o c F k).1 o 2 = (wi : Int) := by rw [gh_oj _ _ (by omega)]; exact g.2.2.2.2.1
    have a1 : i / wi ≤ 49 := Nat.le_trans (Nat.div_le_self _ _) (by omega)
    have b2 : t / wi ≤ 49 := Nat.le_trans (Nat.div_le_self _ _) (by omega)
    have b3 : i % wi < 7 := Nat.lt_of_lt_of_le (Nat.mod_lt _ (by omega)) hw.2
    have b4 : t % wi < 7 := Nat.lt_of_lt_of_le (Nat.mod_lt _ (by omega)) hw.2
    rw [e5, dv_eq (by omega) (by omega), bs, dv_eq (by omega) (by omega), bs, md_eq (by omega) (by omega), bs, md_eq (by omega) (by omega), bs, lt_eq]
    rw [show (i : Int) / (wi : Int) = ((i / wi : Nat) : Int) by omega, show (t : Int) / (wi : Int) = ((t / wi : Nat) : Int) by omega, show (i : Int) % (wi : Int) = ((i % wi : Nat) : Int) by omega, show (t : Int) % (wi : Int) = ((t % wi : Nat) : Int) by omega]
    have hf := far_le hw (p := i) (q := t) (by omega) (by omega)
    have hfe : ct_wr (ct_abs (ct_wr (((i / wi : Nat) : Int) - ((t / wi : Nat) : Int))) + ct_abs (ct_wr (((i % wi : Nat) : Int) - ((t % wi : Nat) : Int)))) = far wi i t := by
      unfold far
      generalize i / wi = z1 at a1 ⊢
      generalize t / wi = z2 at b2 ⊢
      generalize i % wi = z3 at b3 ⊢
      generalize t % wi = z4 at b4 ⊢
      rw [wr_id (a := (z1 : Int) - (z2 : Int)) (by omega) (by omega), wr_id (a := (z3 : Int) - (z4 : Int)) (by omega) (by omega), ct_abs_eq (by omega) (by omega), ct_abs_eq (by omega) (by omega), wr_id (by omega) (by omega)]
    rw [hfe, g_heightOf (gh_GR g F k) (by omega), bs, gh_c g.2.2.1]
    have hm1 : a3 * far wi i t ≤ 99 * 60 := Int.mul_le_mul hB.2 hf.2 hf.1 (by omega)
    have hm2 : 0 ≤ a3 * far wi i t := Int.mul_nonneg hB.1 hf.1
    rw [wr_id (a := a3 * far wi i t) (by omega) (by omega), wr_id (by omega) (by omega), ct_max_eq, g_put g (by omega) h3 (by omega), bs, wr_id (by omega) (by omega)]
    have := g_heapL g ht hA hB m (i + 1) n (up F (plc wi i) (max (F (plc wi i)) (a2 - a3 * far wi i t))) (k + 1) (by omega) (by omega) (by omega) (by omega) (fun p hp => by
      by_cases e : plc wi p = plc wi i
      · rw [e, up_same]; omega
      · rw [up_other _ _ e]; exact h5 p hp)
    rw [show ((i + 1 : Nat) : Int) = (i : Int) + 1 by omega] at this
    rw [this, puts]
    congr 3
    omega
end
