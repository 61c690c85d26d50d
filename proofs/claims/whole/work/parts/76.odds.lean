/-! the calls odds, mean, fits -/
section
variable {G : ct_G} {h : ct_H} {hi wi : Nat} {B : Int}
theorem half_mod {b r : Nat} (h1 : r < b) (h0 : 0 < r) : 2 * (b % r) < b := by
  have := Nat.mod_lt b h0
  rcases Nat.lt_or_ge b (2 * r) with w | w
  · rw [Nat.mod_eq_sub_mod (Nat.le_of_lt h1), Nat.mod_eq_of_lt (by omega)]
    omega
  · omega
theorem euc : ∀ (k n a b : Nat), b < 2 ^ k → 2 * k + 1 ≤ n → f_X7_common_n G h n (a : Int) (b : Int) = some ((Nat.gcd a b : Nat) : Int)
  | 0, n + 1, a, b, h1, h2 => by
    have : b = 0 := by rw [Nat.pow_zero] at h1; omega
    subst this
    rw [f_X7_common_n, if_pos (by omega), Nat.gcd_zero_right]
  | k + 1, n + 2, a, b, h1, h2 => by
    rw [Nat.pow_succ] at h1
    by_cases z : b = 0
    · subst z
      rw [f_X7_common_n, if_pos (by omega), Nat.gcd_zero_right]
    · rw [f_X7_common_n, if_neg (by omega), md_eq (by omega) (by omega), bs, show (a : Int) % (b : Int) = ((a % b : Nat) : Int) from (Int.natCast_emod _ _).symm]
      have rl := Nat.mod_lt a (show 0 < b by omega)
      have g1 : Nat.gcd a b = Nat.gcd b (a % b) := by rw [Nat.gcd_comm, Nat.gcd_rec, Nat.gcd_comm]
      generalize a % b = r at rl g1 ⊢
      rw [g1]
      by_cases y : r = 0
      · subst y
        rw [f_X7_common_n, if_pos (by omega), bs, Nat.gcd_zero_right]
      · have hm := half_mod rl (by omega)
        rw [f_X7_common_n, if_neg (by omega), md_eq (by omega) (by omega), bs, show (b : Int) % (r : Int) = ((b % r : Nat) : Int) from (Int.natCast_emod _ _).symm]
        have g2 : Nat.gcd b r = Nat.gcd r (b % r) := by rw [Nat.gcd_comm, Nat.gcd_rec, Nat.gcd_comm]
        generalize b % r = s at hm g2 ⊢
        rw [euc k n r s (by omega) (by omega), bs, bs, g2]
theorem c_hunL {a : Nat} (K : Int → Option Int64) : ∀ (t f : Nat), Nat.gcd a 100 + t ≤ 100 → t < f → l_X6_hundredths_2 G (a : Int) K f ((Nat.gcd a 100 + t : Nat) : Int) = K ((Nat.gcd a 100 : Nat) : Int)
  | 0, f + 1, h1, h2 => by
    have d1 : Nat.gcd a 100 ∣ a := Nat.gcd_dvd_left _ _
    have d2 : Nat.gcd a 100 ∣ 100 := Nat.gcd_dvd_right _ _
    have d3 : 0 < Nat.gcd a 100 := Nat.gcd_pos_of_pos_right _ (by omega)
    rw [l_X6_hundredths_2, Nat.add_zero]
    generalize Nat.gcd a 100 = d at *
    by_cases z : (d : Int) ≤ 1
    · rw [if_pos z]
    · rw [if_neg z, md_eq (by omega) (by omega), bs, show (a : Int) % (d : Int) = ((a % d : Nat) : Int) from (Int.natCast_emod _ _).symm, Nat.mod_eq_zero_of_dvd d1, jn_eq, if_pos (by omega), md_eq (by omega) (by omega), bs, show (100 : Int) % (d : Int) = ((100 % d : Nat) : Int) from (Int.natCast_emod _ _).symm, Nat.mod_eq_zero_of_dvd d2, if_pos (by omega)]
  | t + 1, f + 1, h1, h2 => by
    have d3 : 0 < Nat.gcd a 100 := Nat.gcd_pos_of_pos_right _ (by omega)
    have nb : ¬ (a % (Nat.gcd a 100 + (t + 1)) = 0 ∧ 100 % (Nat.gcd a 100 + (t + 1)) = 0) := by
      intro w
      have := Nat.le_of_dvd d3 (Nat.dvd_gcd (Nat.dvd_of_mod_eq_zero w.1) (Nat.dvd_of_mod_eq_zero w.2))
      omega
    have ih := c_hunL (a := a) K t f (by omega) (by omega)
    generalize Nat.gcd a 100 = d at *
    rw [l_X6_hundredths_2, if_neg (by omega), md_eq (by omega) (by omega), bs, show (a : Int) % ((d + (t + 1) : Nat) : Int) = ((a % (d + (t + 1)) : Nat) : Int) from (Int.natCast_emod _ _).symm, jn_eq, md_eq (by omega) (by omega), bs, show (100 : Int) % ((d + (t + 1) : Nat) : Int) = ((100 % (d + (t + 1)) : Nat) : Int) from (Int.natCast_emod _ _).symm, wr_id (by omega) (by omega), show ((d + (t + 1) : Nat) : Int) + -1 = ((d + t : Nat) : Int) by omega]
    by_cases y : a % (d + (t + 1)) = 0
    · have y2 : ¬ 100 % (d + (t + 1)) = 0 := fun w => nb ⟨y, w⟩
      generalize 100 % (d + (t + 1)) = v at y2 ⊢
      rw [if_pos (by rw [y]; rfl), if_neg (by omega)]
      exact ih
    · generalize a % (d + (t + 1)) = v at y ⊢
      rw [if_neg (by omega)]
      exact ih
theorem hun_low {a : Nat} {p : Int} : ∃ r : Int64, f_X6_hundredths G h (a : Int) p = some r ∧ f_X7_lowest G h (a : Int) 100 p = some r := by
  have d3 : 0 < Nat.gcd a 100 := Nat.gcd_pos_of_pos_right _ (by omega)
  have d4 : Nat.gcd a 100 ≤ 100 := Nat.gcd_le_right _ (by omega)
  have cl := fun K => c_hunL (G := G) (a := a) K (100 - Nat.gcd a 100) 200 (by omega) (by omega)
  rw [show Nat.gcd a 100 + (100 - Nat.gcd a 100) = 100 by omega] at cl
  have ml : f_X7_common G h (a : Int) 100 = some ((Nat.gcd a 100 : Nat) : Int) := euc 7 20 a 100 (by omega) (by omega)
  refine ⟨if p = 0 then (Int32.ofInt ((a : Int) / ((Nat.gcd a 100 : Nat) : Int))).toInt64 else (Int32.ofInt ((100 : Int) / ((Nat.gcd a 100 : Nat) : Int))).toInt64, ?_, ?_⟩
  · unfold f_X6_hundredths
    refine (cl _).trans ?_
    rw [dv_eq (by omega) (by omega), dv_eq (by omega) (by omega), bs, bs]
    split <;> rfl
  · unfold f_X7_lowest
    rw [ml, bs, dv_eq (by omega) (by omega), dv_eq (by omega) (by omega), bs, bs]
    split <;> rfl
theorem x6_isPart (p : Int) : f_X6_isPart G h p = some (if 0 ≤ p ∧ p ≤ 1 then 1 else 0) := by
  unfold f_X6_isPart
  by_cases h1 : p = 0
  · rw [if_pos h1, if_pos (by omega)]
  · rw [if_neg h1]
    by_cases h2 : p = 1
    · rw [if_pos h2, if_pos (by omega)]
    · rw [if_neg h2, if_neg (by omega)]
theorem s_odds (gs : GS G) (inv : INV G h hi wi B) (a b : Int) : SAV (f_X6_odds G h 0 a b) (f_X7_odds G h 73 a b) := by
  have ig := inv.1
  have h49 : hi * wi ≤ 49 := Nat.mul_le_mul ig.1.2.2.2.2.2.2.2.1.2 ig.1.2.2.2.2.2.2.2.2.2
  unfold f_X6_odds f_X7_odds
  rw [gs.1.1, g_isPoint ig.1, m_isPoint ig.2.1, bs, bs, jn_eq, jn_eq]
  by_cases z : 0 ≤ a ∧ a < ((hi * wi : Nat) : Int)
  · rw [if_pos z]
    obtain ⟨p, rfl⟩ := Int.eq_ofNat_of_zero_le z.1
    have hp : p < hi * wi := by omega
    have rp := ig.2.2.1.1 p hp
    by_cases y : 0 ≤ b ∧ b ≤ 1
    · obtain ⟨v, hv⟩ := Int.eq_ofNat_of_zero_le (show 0 ≤ h.1 2 (plc wi p) by omega)
      obtain ⟨r, r1, r2⟩ := hun_low (G := G) (h := h) (a := v + 1) (p := b)
      refine ⟨r, ?_, ?_⟩
      · rw [if_neg (by omega), x6_isPart, if_pos y, bs, if_neg (by omega), g_heightOf ig.1 hp, bs, hv, wr_id (by omega) (by omega), show (v : Int) + 1 = ((v + 1 : Nat) : Int) by omega, r1, bs]
      · rw [if_neg (by omega), m_in, if_pos y, bs, if_neg (by omega), ig.2.1.1, rdN (by rw [ig.2.1.2.1]; omega), bs, rp.1, hv, wr_id (by omega) (by omega), show (v : Int) + 1 = ((v + 1 : Nat) : Int) by omega, r2, bs]
    · refine ⟨-9223372036854775808, ?_, ?_⟩
      · rw [if_neg (by omega), x6_isPart, if_neg y, bs, if_pos rfl]
      · rw [if_neg (by omega), m_in, if_neg y, bs, if_pos rfl]
  · rw [if_neg z]
    exact ⟨-9223372036854775808, if_pos rfl, if_pos rfl⟩
def SAL (G : ct_G) (hi wi : Nat) (B : Int) (P : Option (Int64 × ct_H)) (Q : ct_H → Option (Int64 × ct_H)) : Prop := ∃ (r : Int64) (h1 h2 : ct_H), P = some (r, h1) ∧ Q h1 = some (r, h2) ∧ ∃ hi' wi' : Nat, INV G h2 hi' wi' B
theorem c_meanL (gs : GS G) {c : Nat → Int} (hc : ∀ e, e < 100 → h.1 7 e = c e) (hb : ∀ e, e < 100 → 0 ≤ c e ∧ c e ≤ 37) (K : Int → Option (Int64 × ct_H)) : ∀ (k i f : Nat) (a : Int), i + k = 100 → k < f → 0 ≤ a → a ≤ 37 * i → l_X6_mean_12 G 0 h K f (a, (i : Int)) = K (a + sm c i k)
  | 0, i, f + 1, a, h1, h2, h3, h4 => by
    rw [l_X6_mean_12, if_pos (by dsimp only; omega)]
    simp [sm]
  | k + 1, i, f + 1, a, h1, h2, h3, h4 => by
    have lo := gs.2.2.1.1
    have b := hb i (by omega)
    rw [l_X6_mean_12, if_neg (by dsimp only; omega)]
    dsimp only
    rw [gs.1.2.1, lo.2.2.2.2.2.2.2.1, rdN (by rw [lo.2.2.2.2.2.2.2.2.1]; omega), bs, lt_eq, hc i (by omega), wr_id (by omega) (by omega), wr_id (by omega) (by omega), sm]
    have ih := c_meanL gs hc hb K k (i + 1) f (a + c i) (by omega) (by omega) (by omega) (by omega)
    rw [show ((i + 1 : Nat) : Int) = (i : Int) + 1 by omega] at ih
    rw [ih, Int.add_assoc]
theorem nlv_b (ig : IG G h hi wi) {e : Nat} (he : e < 100) : 0 ≤ nlv (h.1 2) hi wi (h.1 1 5) e ∧ nlv (h.1 2) hi wi (h.1 1 5) e ≤ 37 := by
  have := (sp_facts ig (L := (e : Int)) (by omega)).1.1
  unfold nlv
  omega
theorem m_meanL (gs : GS G) {F : Nat → Int} {kd : Int} (hb : ∀ e, e < 100 → 0 ≤ nlv F hi wi kd e ∧ nlv F hi wi kd e ≤ 37) (K : Int × ct_H → Option (Int64 × ct_H)) : ∀ (k i f : Nat) (a : Int) (h : ct_H), i + k = 100 → k < f → 0 ≤ a → a ≤ 37 * i → IG G h hi wi → IC h hi wi → h.1 2 = F → h.1 1 5 = kd → ∃ h' : ct_H, l_X7_mean_11 G 73 K f (a, (i : Int), h) = K (a + sm (nlv F hi wi kd) i k, h') ∧ QF h h' ∧ IC h' hi wi
  | 0, i, f + 1, a, h, h1, h2, h3, h4, ig, ic, e1, e2 => by
    refine ⟨h, ?_, QF.refl, ic⟩
    rw [l_X7_mean_11, if_pos (by dsimp only; omega)]
    simp [sm]
  | k + 1, i, f + 1, a, h, h1, h2, h3, h4, ig, ic, e1, e2 => by
    have b := hb i (by omega)
    obtain ⟨hx, x1, x2, x3⟩ := r_linesAt gs ig ic (e := i) (by omega)
    rw [e1, e2] at x1
    obtain ⟨h', a1, a2, a3⟩ := m_meanL gs hb K k (i + 1) f (a + nlv F hi wi kd i) hx (by omega) (by omega) (by omega) (by omega) (ig.q x2) x3 (x2.row2.1.trans e1) (by rw [x2.row2.2]; exact e2)
    refine ⟨h', ?_, x2.trans a2, a3⟩
    rw [l_X7_mean_11, if_neg (by dsimp only; omega)]
    dsimp only
    rw [x1, bs, lt_eq, wr_id (by omega) (by omega), wr_id (by omega) (by omega), sm, show (i : Int) + 1 = ((i + 1 : Nat) : Int) by omega]
    rw [a1, Int.add_assoc]
theorem s_mean (gs : GS G) (inv : INV G h hi wi B) (a : Int) : SAL G hi wi B (f_X6_mean G h 0 a) (fun h1 => f_X7_mean G h1 73 a) := by
  have ig := inv.1
  by_cases z : 0 ≤ a ∧ a ≤ 1
  · obtain ⟨h1, c1, c2, c3, c4⟩ := c_count gs ig inv.2.1
    have g1 := ig.q c2
    have hb := fun e (he : e < 100) => nlv_b ig he
    have sb : 0 ≤ sm (nlv (h.1 2) hi wi (h.1 1 5)) 0 100 := sm_nonneg (fun j _ j2 => (hb j (by omega)).1)
    obtain ⟨v, hv⟩ := Int.eq_ofNat_of_zero_le sb
    have cm := c_meanL (h := h1) gs (c := nlv (h.1 2) hi wi (h.1 1 5)) c4 hb (fun b11 => (f_X6_hundredths G h1 b11 a).bind fun v12 => some (v12, h1)) 100 0 200 0 (by omega) (by omega) (by omega) (by omega)
    obtain ⟨h2, m1, m2, m3⟩ := m_meanL gs hb (fun b10 => (f_X7_lowest G b10.2 b10.1 100 a).bind fun v11 => some (v11, b10.2)) 100 0 200 0 h1 (by omega) (by omega) (by omega) (by omega) g1 c3 c2.row2.1 (by rw [c2.row2.2])
    rw [Int.zero_add, hv] at cm m1
    obtain ⟨r, r1, _⟩ := hun_low (G := G) (h := h1) (a := v) (p := a)
    obtain ⟨r', r1', r2'⟩ := hun_low (G := G) (h := h2) (a := v) (p := a)
    have hr : f_X6_hundredths G h1 (v : Int) a = f_X6_hundredths G h2 (v : Int) a := rfl
    have er : r = r' := by rw [hr, r1'] at r1; exact (Option.some.inj r1).symm
    refine ⟨r, h1, h2, ?_, ?_, hi, wi, inv.q (c2.trans m2) m3⟩
    · unfold f_X6_mean
      rw [x6_isPart, if_pos z, bs, if_neg (by omega), gs.1.2.1, c1, bs]
      refine cm.trans ?_
      rw [r1, bs]
    · dsimp only
      unfold f_X7_mean
      rw [m_in, if_pos z, bs, if_neg (by omega)]
      refine m1.trans ?_
      dsimp only
      rw [r2', bs, er]
  · refine ⟨-9223372036854775808, h, h, ?_, ?_, hi, wi, inv⟩
    · unfold f_X6_mean
      rw [x6_isPart, if_neg z, bs, if_pos rfl]
    · dsimp only
      unfold f_X7_mean
      rw [m_in, if_neg z, bs, if_pos rfl]
end
