/-! the call read -/
section
variable {G : ct_G} {h : ct_H} {hi wi : Nat} {B : Int} {kd : Int} {M : Nat → Int}
theorem x5_numberOf (tx : TXT G) {i j : Nat} (hi : i < 12) (hj : j < 3) : f_X5_numberOf G h 45 (i : Int) (j : Int) = some (h.1 48 (3 * i + j)) := by
  unfold f_X5_numberOf
  rw [wr_id (a := (i : Int) * 3) (by omega) (by omega), wr_id (by omega) (by omega), tx.2.2.2.2.1, show (i : Int) * 3 + (j : Int) = ((3 * i + j : Nat) : Int) by omega, rdN (by rw [tx.2.2.2.2.2.1]; omega), bs]
theorem x5_wordOf (tx : TXT G) {i : Nat} (hi : i < 12) : f_X5_wordOf G h 45 (i : Int) = some (h.1 47 i) := by
  unfold f_X5_wordOf
  rw [tx.2.2.1, rdN (by rw [tx.2.2.2.1]; omega), bs]
theorem c_perf (gs : GS G) {i : Nat} (hi : i < 12) : f_X6_perform G h 0 (i : Int) = if h.1 47 i = 0 then ((f_X6_size G h 0 (h.1 48 (3 * i)) (h.1 48 (3 * i + 1))).bind fun r5 => if r5.1 < 0 then (some (0, r5.2)) else some (1, r5.2)) else if h.1 47 i = 1 then ((f_X6_height G h 0 (h.1 48 (3 * i)) (h.1 48 (3 * i + 1))).bind fun r8 => if r8.1 < 0 then (some (0, r8.2)) else some (1, r8.2)) else if h.1 47 i = 2 then ((f_X0_fillUp G h 1 (h.1 48 (3 * i)) (h.1 48 (3 * i + 1)) (h.1 48 (3 * i + 2))).bind fun r11 => (ct_bz (r11.1)).bind fun _ => some (r11.1, r11.2)) else if h.1 47 i = 3 then ((f_X0_heapUp G h 1 (h.1 48 (3 * i)) (h.1 48 (3 * i + 1)) (h.1 48 (3 * i + 2))).bind fun r14 => (ct_bz (r14.1)).bind fun _ => some (r14.1, r14.2)) else if h.1 47 i = 4 then ((f_X6_rule G h 0 (h.1 48 (3 * i))).bind fun r17 => if r17.1 < 0 then (some (0, r17.2)) else some (1, r17.2)) else (f_X0_turnOver G h 1).bind fun r20 => some (1, r20) := by
  have tx := gs.2.2.2.2.2.1
  have n0 : f_X5_numberOf G h 45 (i : Int) 0 = some (h.1 48 (3 * i)) := x5_numberOf tx (j := 0) hi (by omega)
  have n1 : f_X5_numberOf G h 45 (i : Int) 1 = some (h.1 48 (3 * i + 1)) := x5_numberOf tx (j := 1) hi (by omega)
  have n2 : f_X5_numberOf G h 45 (i : Int) 2 = some (h.1 48 (3 * i + 2)) := x5_numberOf tx (j := 2) hi (by omega)
  unfold f_X6_perform
  rw [gs.1.2.2.2.2.2.2.2.2.2.2.1, n0, bs, n1, bs, n2, bs, x5_wordOf tx hi, bs, gs.1.1]
theorem m_perf (gs : GS G) {i : Nat} (hi : i < 12) : f_X7_done G h 73 (i : Int) = if h.1 76 i = 0 then ((f_X7_size G h 73 (h.1 77 (3 * i)) (h.1 77 (3 * i + 1))).bind fun r5 => some (r5.1, r5.2)) else if h.1 76 i = 1 then ((f_X7_height G h 73 (h.1 77 (3 * i)) (h.1 77 (3 * i + 1))).bind fun r7 => some (r7.1, r7.2)) else if h.1 76 i = 2 then ((f_X7_fill G h 73 (h.1 77 (3 * i)) (h.1 77 (3 * i + 1)) (h.1 77 (3 * i + 2))).bind fun r9 => some (r9.1, r9.2)) else if h.1 76 i = 3 then ((f_X7_hill G h 73 (h.1 77 (3 * i)) (h.1 77 (3 * i + 1)) (h.1 77 (3 * i + 2))).bind fun r11 => some (r11.1, r11.2)) else if h.1 76 i = 4 then ((f_X7_rule G h 73 (h.1 77 (3 * i))).bind fun r13 => some (r13.1, r13.2)) else (f_X7_turn G h 73).bind fun r15 => some (r15.1, r15.2) := by
  have tx := gs.2.2.2.2.2.1
  unfold f_X7_done
  rw [wr_id (a := 3 * (i : Int)) (by omega) (by omega), wr_id (a := 3 * (i : Int) + 1) (by omega) (by omega), wr_id (a := 3 * (i : Int) + 2) (by omega) (by omega), tx.2.2.2.2.2.2.2.2.2.2.1]
  rw [show 3 * (i : Int) + 1 = ((3 * i + 1 : Nat) : Int) by omega, show 3 * (i : Int) + 2 = ((3 * i + 2 : Nat) : Int) by omega, show 3 * (i : Int) = ((3 * i : Nat) : Int) by omega]
  rw [rdN (by rw [tx.2.2.2.2.2.2.2.2.2.2.2]; omega), bs, rdN (by rw [tx.2.2.2.2.2.2.2.2.2.2.2]; omega), bs, rdN (by rw [tx.2.2.2.2.2.2.2.2.2.2.2]; omega), bs, tx.2.2.2.2.2.2.2.2.1, rdN (by rw [tx.2.2.2.2.2.2.2.2.2.1]; omega), bs]
/-- a clause done, on both sides -/
theorem pfB (gs : GS G) (g8 : 2 ≤ hi ∧ hi ≤ 7) (g9 : 2 ≤ wi ∧ wi ≤ 7) (hk : 0 ≤ kd ∧ kd ≤ 4) (b : ∀ p, p < hi * wi → 0 ≤ M p ∧ M p ≤ 99) {w : Nat} (hw : w < 6) {v : Nat → Int} (hv : ∀ i, 0 ≤ v i ∧ v i ≤ 99) {i : Nat} (hi12 : i < 12) : ∃ (ok : Int) (hi' wi' : Nat) (kd' : Int) (M' : Nat → Int), (ok = 0 ∨ ok = 1) ∧ (2 ≤ hi' ∧ hi' ≤ 7) ∧ (2 ≤ wi' ∧ wi' ≤ 7) ∧ (0 ≤ kd' ∧ kd' ≤ 4) ∧ (∀ p, p < hi' * wi' → 0 ≤ M' p ∧ M' p ≤ 99) ∧ (∀ h, CG G h 1 2 hi wi kd M → 0 ≤ h.1 1 6 → h.1 1 6 < 2147470000 → h.1 47 i = (w : Int) → (∀ j, j < mny w → h.1 48 (3 * i + j) = v j) → ∃ h', f_X6_perform G h 0 (i : Int) = some (ok, h') ∧ CG G h' 1 2 hi' wi' kd' M' ∧ CT h 1 2 500 h') ∧ (∀ h, RG G h hi wi kd M → h.1 76 i = (w : Int) → (∀ j, j < mny w → h.1 77 (3 * i + j) = v j) → ∃ (r : Int) (h' : ct_H), f_X7_done G h 73 (i : Int) = some (r, h') ∧ (r < 0 ↔ ok = 0) ∧ RG G h' hi' wi' kd' M' ∧ RTT h h') := by
  have v0 := hv 0
  have v1 := hv 1
  have v2 := hv 2
  rcases w06 hw with rfl | rfl | rfl | rfl | rfl | rfl
  · by_cases z : (2 ≤ v 0 ∧ v 0 ≤ 7) ∧ (2 ≤ v 1 ∧ v 1 ≤ 7)
    · refine ⟨1, (v 0).toNat, (v 1).toNat, kd, fun _ => 0, Or.inr rfl, by omega, by omega, hk, fun _ _ => ⟨Int.le_refl 0, (by omega : (0 : Int) ≤ 99)⟩, fun h cg h0 h1 e n => ?_, fun h rg e n => ?_⟩
      · have e0 : h.1 48 (3 * i) = v 0 := n 0 (by decide)
        have e1 : h.1 48 (3 * i + 1) = v 1 := n 1 (by decide)
        obtain ⟨h', c1, c2, c3⟩ := (c_size gs cg h0 h1 (v 0) (v 1)).1 z
        refine ⟨h', ?_, c2, c3⟩
        rw [c_perf gs hi12, e, if_pos (by rfl), e0, e1, c1, bs, if_neg (by omega)]
      · have e0 : h.1 77 (3 * i) = v 0 := n 0 (by decide)
        have e1 : h.1 77 (3 * i + 1) = v 1 := n 1 (by decide)
        obtain ⟨h', c1, c2, c3⟩ := rs_size rg (nh := (v 0).toNat) (nw := (v 1).toNat) (by omega) (by omega)
        rw [show (((v 0).toNat : Nat) : Int) = v 0 by omega, show (((v 1).toNat : Nat) : Int) = v 1 by omega] at c1
        refine ⟨10 * (hi : Int) + wi, h', ?_, by omega, c2, c3⟩
        rw [m_perf gs hi12, e, if_pos (by rfl), e0, e1, c1, bs]
    · refine ⟨0, hi, wi, kd, M, Or.inl rfl, g8, g9, hk, b, fun h cg h0 h1 e n => ⟨h, ?_, cg, CT.refl (by omega)⟩, fun h rg e n => ⟨-2, h, ?_, by omega, rg, RTT.refl⟩⟩
      · have e0 : h.1 48 (3 * i) = v 0 := n 0 (by decide)
        have e1 : h.1 48 (3 * i + 1) = v 1 := n 1 (by decide)
        rw [c_perf gs hi12, e, if_pos (by rfl), e0, e1, (c_size gs cg h0 h1 (v 0) (v 1)).2 z, bs, if_pos (by omega)]
      · have e0 : h.1 77 (3 * i) = v 0 := n 0 (by decide)
        have e1 : h.1 77 (3 * i + 1) = v 1 := n 1 (by decide)
        rw [m_perf gs hi12, e, if_pos (by rfl), e0, e1, m_size rg.1, if_neg z, bs]
  · by_cases z : 0 ≤ v 0 ∧ v 0 < ((hi * wi : Nat) : Int)
    · refine ⟨1, hi, wi, kd, up M (v 0).toNat (v 1), Or.inr rfl, g8, g9, hk, fun p hp => ?_, fun h cg h0 h1 e n => ?_, fun h rg e n => ?_⟩
      · by_cases y : p = (v 0).toNat
        · rw [y, up_same]; exact v1
        · rw [up_other _ _ y]; exact b p hp
      · have e0 : h.1 48 (3 * i) = v 0 := n 0 (by decide)
        have e1 : h.1 48 (3 * i + 1) = v 1 := n 1 (by decide)
        obtain ⟨h', c1, c2, c3⟩ := (c_height gs cg h0 h1 (v 0) (v 1)).1 ⟨z, v1⟩
        refine ⟨h', ?_, c2, c3⟩
        have := b (v 0).toNat (by omega)
        rw [c_perf gs hi12, e, if_neg (by omega), if_pos (by rfl), e0, e1, c1, bs, if_neg (by omega)]
      · have e0 : h.1 77 (3 * i) = v 0 := n 0 (by decide)
        have e1 : h.1 77 (3 * i + 1) = v 1 := n 1 (by decide)
        have bb := b (v 0).toNat (by omega)
        obtain ⟨h', c1, c2, c3⟩ := rs_put rg (p := (v 0).toNat) (v := v 1) (by omega) v1
        rw [show (((v 0).toNat : Nat) : Int) = v 0 by omega] at c1
        refine ⟨M (v 0).toNat, h', ?_, by omega, c2, c3⟩
        rw [m_perf gs hi12, e, if_neg (by omega), if_pos (by rfl), e0, e1, c1, bs]
    · refine ⟨0, hi, wi, kd, M, Or.inl rfl, g8, g9, hk, b, fun h cg h0 h1 e n => ⟨h, ?_, cg, CT.refl (by omega)⟩, fun h rg e n => ⟨-1, h, ?_, by omega, rg, RTT.refl⟩⟩
      · have e0 : h.1 48 (3 * i) = v 0 := n 0 (by decide)
        have e1 : h.1 48 (3 * i + 1) = v 1 := n 1 (by decide)
        rw [c_perf gs hi12, e, if_neg (by omega), if_pos (by rfl), e0, e1, (c_height gs cg h0 h1 (v 0) (v 1)).2.2 z, bs, if_pos (by omega)]
      · have e0 : h.1 77 (3 * i) = v 0 := n 0 (by decide)
        have e1 : h.1 77 (3 * i + 1) = v 1 := n 1 (by decide)
        rw [m_perf gs hi12, e, if_neg (by omega), if_pos (by rfl), e0, e1, m_height rg.1, if_neg z, bs]
  · by_cases z : fillOk hi wi (v 0) (v 1)
    · refine ⟨1, hi, wi, kd, fun j => if ((v 0).toNat / wi ≤ j / wi ∧ j / wi ≤ (v 1).toNat / wi) ∧ (v 0).toNat % wi ≤ j % wi ∧ j % wi ≤ (v 1).toNat % wi then v 2 else M j, Or.inr rfl, g8, g9, hk, fun p hp => ?_, fun h cg h0 h1 e n => ?_, fun h rg e n => ?_⟩
      · dsimp only
        split
        · exact v2
        · exact b p hp
      · have e0 : h.1 48 (3 * i) = v 0 := n 0 (by decide)
        have e1 : h.1 48 (3 * i + 1) = v 1 := n 1 (by decide)
        have e2 : h.1 48 (3 * i + 2) = v 2 := n 2 (by decide)
        obtain ⟨h', c1, c2, c3⟩ := cs_fill cg h0 h1 z v2
        refine ⟨h', ?_, c2, c3⟩
        rw [c_perf gs hi12, e, if_neg (by omega), if_neg (by omega), if_pos (by rfl), e0, e1, e2, c1, bs]
        rfl
      · have e0 : h.1 77 (3 * i) = v 0 := n 0 (by decide)
        have e1 : h.1 77 (3 * i + 1) = v 1 := n 1 (by decide)
        have e2 : h.1 77 (3 * i + 2) = v 2 := n 2 (by decide)
        obtain ⟨h', c1, c2, c3⟩ := rs_fill rg (v := v 2) z
        refine ⟨1, h', ?_, by omega, c2, c3⟩
        rw [m_perf gs hi12, e, if_neg (by omega), if_neg (by omega), if_pos (by rfl), e0, e1, e2, c1, bs]
    · refine ⟨0, hi, wi, kd, M, Or.inl rfl, g8, g9, hk, b, fun h cg h0 h1 e n => ⟨h, ?_, cg, CT.refl (by omega)⟩, fun h rg e n => ?_⟩
      · have e0 : h.1 48 (3 * i) = v 0 := n 0 (by decide)
        have e1 : h.1 48 (3 * i + 1) = v 1 := n 1 (by decide)
        rw [c_perf gs hi12, e, if_neg (by omega), if_neg (by omega), if_pos (by rfl), e0, e1, (g_fillUp cg.1 (v 0) (v 1) _ h0 h1).2 z, bs]
        rfl
      · have e0 : h.1 77 (3 * i) = v 0 := n 0 (by decide)
        have e1 : h.1 77 (3 * i + 1) = v 1 := n 1 (by decide)
        obtain ⟨r, c1, c2⟩ := (m_fill rg.1 (v 0) (v 1) (h.1 77 (3 * i + 2))).2 z
        refine ⟨r, h, ?_, by omega, rg, RTT.refl⟩
        rw [m_perf gs hi12, e, if_neg (by omega), if_neg (by omega), if_pos (by rfl), e0, e1, c1, bs]
  · by_cases z : 0 ≤ v 0 ∧ v 0 < ((hi * wi : Nat) : Int)
    · have h49 : hi * wi ≤ 49 := Nat.mul_le_mul g8.2 g9.2
      refine ⟨1, hi, wi, kd, fun j => max (M j) (v 1 - v 2 * far wi j (v 0).toNat), Or.inr rfl, g8, g9, hk, fun p hp => ?_, fun h cg h0 h1 e n => ?_, fun h rg e n => ?_⟩
      · have f := far_le (p := p) (q := (v 0).toNat) g9 (by omega) (by omega)
        have : 0 ≤ v 2 * far wi p (v 0).toNat := Int.mul_nonneg v2.1 f.1
        have := b p hp
        dsimp only
        omega
      · have e0 : h.1 48 (3 * i) = v 0 := n 0 (by decide)
        have e1 : h.1 48 (3 * i + 1) = v 1 := n 1 (by decide)
        have e2 : h.1 48 (3 * i + 2) = v 2 := n 2 (by decide)
        obtain ⟨h', c1, c2, c3⟩ := cs_heap cg h0 h1 (t := (v 0).toNat) (a2 := v 1) (a3 := v 2) (by omega) v1 v2
        rw [show (((v 0).toNat : Nat) : Int) = v 0 by omega] at c1
        refine ⟨h', ?_, c2, c3⟩
        rw [c_perf gs hi12, e, if_neg (by omega), if_neg (by omega), if_neg (by omega), if_pos (by rfl), e0, e1, e2, c1, bs]
        rfl
      · have e0 : h.1 77 (3 * i) = v 0 := n 0 (by decide)
        have e1 : h.1 77 (3 * i + 1) = v 1 := n 1 (by decide)
        have e2 : h.1 77 (3 * i + 2) = v 2 := n 2 (by decide)
        obtain ⟨h', c1, c2, c3⟩ := rs_hill rg b (t := (v 0).toNat) (a2 := v 1) (a3 := v 2) (by omega) v1 v2
        rw [show (((v 0).toNat : Nat) : Int) = v 0 by omega] at c1
        refine ⟨1, h', ?_, by omega, c2, c3⟩
        rw [m_perf gs hi12, e, if_neg (by omega), if_neg (by omega), if_neg (by omega), if_pos (by rfl), e0, e1, e2, c1, bs]
    · refine ⟨0, hi, wi, kd, M, Or.inl rfl, g8, g9, hk, b, fun h cg h0 h1 e n => ⟨h, ?_, cg, CT.refl (by omega)⟩, fun h rg e n => ⟨-1, h, ?_, by omega, rg, RTT.refl⟩⟩
      · have e0 : h.1 48 (3 * i) = v 0 := n 0 (by decide)
        have e1 : h.1 48 (3 * i + 1) = v 1 := n 1 (by decide)
        have e2 : h.1 48 (3 * i + 2) = v 2 := n 2 (by decide)
        rw [c_perf gs hi12, e, if_neg (by omega), if_neg (by omega), if_neg (by omega), if_pos (by rfl), e0, e1, e2, g_heapUp cg.1 v1 v2 h0 (by omega) cg.hF, if_neg z, bs]
        rfl
      · have e0 : h.1 77 (3 * i) = v 0 := n 0 (by decide)
        have e1 : h.1 77 (3 * i + 1) = v 1 := n 1 (by decide)
        have e2 : h.1 77 (3 * i + 2) = v 2 := n 2 (by decide)
        rw [m_perf gs hi12, e, if_neg (by omega), if_neg (by omega), if_neg (by omega), if_pos (by rfl), e0, e1, e2, m_hill rg.1 v1 v2 (rg.hM b), if_neg z, bs]
  · by_cases z : 0 ≤ v 0 ∧ v 0 ≤ 4
    · refine ⟨1, hi, wi, v 0, M, Or.inr rfl, g8, g9, z, b, fun h cg h0 h1 e n => ?_, fun h rg e n => ?_⟩
      · have e0 : h.1 48 (3 * i) = v 0 := n 0 (by decide)
        obtain ⟨h', c1, c2, c3⟩ := (c_rule gs cg h0 h1 (v 0)).1 z
        refine ⟨h', ?_, c2, c3⟩
        rw [c_perf gs hi12, e, if_neg (by omega), if_neg (by omega), if_neg (by omega), if_neg (by omega), if_pos (by rfl), e0, c1, bs, if_neg (by omega)]
      · have e0 : h.1 77 (3 * i) = v 0 := n 0 (by decide)
        have rk := rs_kind rg (v 0)
        refine ⟨kd, _, ?_, by omega, rk.1, rk.2⟩
        rw [m_perf gs hi12, e, if_neg (by omega), if_neg (by omega), if_neg (by omega), if_neg (by omega), if_pos (by rfl), e0, m_rule, if_pos z, bs, rg.2.2]
    · refine ⟨0, hi, wi, kd, M, Or.inl rfl, g8, g9, hk, b, fun h cg h0 h1 e n => ⟨h, ?_, cg, CT.refl (by omega)⟩, fun h rg e n => ⟨-1, h, ?_, by omega, rg, RTT.refl⟩⟩
      · have e0 : h.1 48 (3 * i) = v 0 := n 0 (by decide)
        rw [c_perf gs hi12, e, if_neg (by omega), if_neg (by omega), if_neg (by omega), if_neg (by omega), if_pos (by rfl), e0, (c_rule gs cg h0 h1 (v 0)).2 z, bs, if_pos (by omega)]
      · have e0 : h.1 77 (3 * i) = v 0 := n 0 (by decide)
        rw [m_perf gs hi12, e, if_neg (by omega), if_neg (by omega), if_neg (by omega), if_neg (by omega), if_pos (by rfl), e0, m_rule, if_neg z, bs]
  · refine ⟨1, hi, wi, kd, fun j => 99 - M j, Or.inr rfl, g8, g9, hk, fun p hp => ?_, fun h cg h0 h1 e n => ?_, fun h rg e n => ?_⟩
    · have := b p hp
      dsimp only
      omega
    · obtain ⟨h', c1, c2, c3⟩ := cs_turn cg h0 h1
      refine ⟨h', ?_, c2, c3⟩
      rw [c_perf gs hi12, e, if_neg (by omega), if_neg (by omega), if_neg (by omega), if_neg (by omega), if_neg (by omega), c1, bs]
    · obtain ⟨h', c1, c2, c3⟩ := rs_turn rg b
      refine ⟨1, h', ?_, by omega, c2, c3⟩
      rw [m_perf gs hi12, e, if_neg (by omega), if_neg (by omega), if_neg (by omega), if_neg (by omega), if_neg (by omega), c1, bs]
/-- all clauses done, on both sides -/
theorem pfLB (gs : GS G) {K : Nat} (hK : K ≤ 12) {W : Nat → Nat} {V : Nat → Nat → Int} (wv : WVok K W V) : ∀ (m i : Nat) (t : Nat) (hi wi : Nat) (kd : Int) (M : Nat → Int), i + m = K → t ≤ i → (2 ≤ hi ∧ hi ≤ 7) → (2 ≤ wi ∧ wi ≤ 7) → (0 ≤ kd ∧ kd ≤ 4) → (∀ p, p < hi * wi → 0 ≤ M p ∧ M p ≤ 99) → ∃ (r : Int) (hi' wi' : Nat) (kd' : Int) (M' : Nat → Int), (0 ≤ kd' ∧ kd' ≤ 4) ∧ (∀ h, CG G h 1 2 hi wi kd M → 0 ≤ h.1 1 6 → h.1 1 6 + 500 * (m : Int) < 2147470000 → h.1 45 4 = (K : Int) → CS h K W V → ∃ h', (∀ f, m < f → l_X6_read_19 G 0 f ((t : Int), (i : Int), h) = some (r, h')) ∧ CG G h' 1 2 hi' wi' kd' M' ∧ CT h 1 2 (500 * (m : Int)) h') ∧ (∀ h, RG G h hi wi kd M → h.1 73 9 = (K : Int) → MS h K W V → ∃ h', (∀ f, m < f → l_X7_read_17 G 73 f ((t : Int), (i : Int), h) = some (r, h')) ∧ RG G h' hi' wi' kd' M' ∧ RTT h h')
  | 0, i, t, hi, wi, kd, M, e, ht, g8, g9, hk, b => by
    refine ⟨(t : Int), hi, wi, kd, M, hk, fun h cg h0 h1 e4 cs => ⟨h, fun f hf => ?_, cg, CT.refl (by omega)⟩, fun h rg e9 ms => ⟨h, fun f hf => ?_, rg, RTT.refl⟩⟩
    · obtain ⟨f, rfl⟩ : ∃ g, f = g + 1 := ⟨f - 1, by omega⟩
      rw [l_X6_read_19]
      dsimp only
      rw [gs.1.2.2.2.2.2.2.2.2.2.2.1, e4, if_pos (by omega)]
    · obtain ⟨f, rfl⟩ : ∃ g, f = g + 1 := ⟨f - 1, by omega⟩
      rw [l_X7_read_17]
      dsimp only
      rw [e9, if_pos (by omega)]
  | m + 1, i, t, hi, wi, kd, M, e, ht, g8, g9, hk, b => by
    have wvi := wv i (by omega)
    obtain ⟨ok, hi1, wi1, kd1, M1, a1, a2, a3, a4, a5, a6, a7⟩ := pfB gs g8 g9 hk b wvi.1 wvi.2 (i := i) (by omega)
    obtain ⟨r, hi2, wi2, kd2, M2, b1, b2, b3⟩ := pfLB gs hK wv m (i + 1) (if ok = 0 then t else t + 1) hi1 wi1 kd1 M1 (by omega) (by split <;> omega) a2 a3 a4 a5
    refine ⟨r, hi2, wi2, kd2, M2, b1, fun h cg h0 h1 e4 cs => ?_, fun h rg e9 ms => ?_⟩
    · have ci := cs i (by omega)
      obtain ⟨h2, c1, c2, c3⟩ := a6 h cg h0 (by omega) ci.1 ci.2
      have c4 := c3.2.2.2.1
      have c5 := c3.2.2.2.2
      obtain ⟨h', d1, d2, d3⟩ := b2 h2 c2 (by omega) (by omega) (by rw [c3.1 45 (by omega) (by omega)]; exact e4) (cs.fr (c3.1 47 (by omega) (by omega)) (c3.1 48 (by omega) (by omega)))
      refine ⟨h', fun f hf => ?_, d2, ?_⟩
      · obtain ⟨f, rfl⟩ : ∃ g, f = g + 1 := ⟨f - 1, by omega⟩
        rw [l_X6_read_19]
        dsimp only
        rw [gs.1.2.2.2.2.2.2.2.2.2.2.1, e4, if_neg (by omega), c1, bs, jn_eq]
        have d := d1 f (by omega)
        rcases a1 with rfl | rfl
        · rw [if_pos rfl] at d
          rw [if_pos rfl]
          dsimp only
          rw [wr_id (a := (i : Int) + 1) (by omega) (by omega)]
          exact d
        · rw [if_neg (by omega)] at d
          rw [if_neg (by omega)]
          dsimp only
          rw [wr_id (a := (i : Int) + 1) (by omega) (by omega), wr_id (a := (t : Int) + 1) (by omega) (by omega)]
          exact d
      · have := c3.trans d3
        rwa [show (500 : Int) + 500 * (m : Int) = 500 * ((m + 1 : Nat) : Int) by omega] at this
    · have mi := ms i (by omega)
      obtain ⟨s, h2, c1, c2, c3, c4⟩ := a7 h rg mi.1 mi.2
      obtain ⟨h', d1, d2, d3⟩ := b3 h2 c3 (by rw [c4.2.1 9 (by omega)]; exact e9) (ms.fr (c4.1 76 (by omega) (by omega)) (c4.1 77 (by omega) (by omega)))
      refine ⟨h', fun f hf => ?_, d2, c4.trans d3⟩
      obtain ⟨f, rfl⟩ : ∃ g, f = g + 1 := ⟨f - 1, by omega⟩
      rw [l_X7_read_17]
      dsimp only
      rw [e9, if_neg (by omega), c1, bs, jn_eq]
      have d := d1 f (by omega)
      rcases a1 with rfl | rfl
      · rw [if_pos rfl] at d
        rw [if_pos (c2.mpr rfl)]
        dsimp only
        rw [wr_id (a := (i : Int) + 1) (by omega) (by omega)]
        exact d
      · rw [if_neg (by omega)] at d
        rw [if_neg (fun u => by have := c2.mp u; omega)]
        dsimp only
        rw [wr_id (a := (i : Int) + 1) (by omega) (by omega), wr_id (a := (t : Int) + 1) (by omega) (by omega)]
        exact d
theorem s_read (gs : GS G) (inv : INV G h hi wi B) (hB : B ≤ 2000000000) : SAM G hi wi (B + 7000) (f_X6_read G h 0) (fun h1 => f_X7_read G h1 73) := by
  have tx := gs.2.2.2.2.2.1
  have e10 := gs.1.2.2.2.2.2.2.2.2.2.2.1
  obtain ⟨n, n1, n2, n3, n4⟩ := inv.2.2.2.2.2.2.1
  obtain ⟨cg, rg⟩ := inv.1.cg
  have hb := inv.b hB
  have bb := inv.2.2.2.2.2.2.2.2.1
  have g8 := inv.1.1.2.2.2.2.2.2.2.1
  have g9 := inv.1.1.2.2.2.2.2.2.2.2
  obtain ⟨ok, q, K, W, V, p1, p2, p3, p4, p5, p6⟩ := parseB (X := h.1 46) tx n1 (fun i hi => (n4 i hi).2) 12 0 0 (fun _ => 0) (fun _ _ => 0) (by omega) (by omega) (by omega) (fun i hi => by omega)
  -- the class reads
  generalize hc0 : hs h 45 (up (up (h.1 45) 5 0) 4 0) = c0
  have f0 : ∀ a, a ≠ 45 → c0.1 a = h.1 a := fun a ha => by rw [← hc0, hs_orow _ _ ha]
  have f45 : ∀ j, j ≠ 4 → j ≠ 5 → c0.1 45 j = h.1 45 j := fun j j4 j5 => by rw [← hc0, hs_same, up_other _ _ j4, up_other _ _ j5]
  have tc0 : TC c0 n (h.1 46) 0 := ⟨by rw [f45 1 (by omega) (by omega)]; exact n2, by rw [← hc0, hs_same]; rfl, fun i _ => by rw [f0 46 (by omega)]⟩
  obtain ⟨c1, q1, q2, q3, q4, q5⟩ := p5 c0 tc0 (by rw [← hc0, hs_same]; rfl) (fun i hi => by omega)
  have eP : f_X5_parse G h 45 = some (if ok = 1 then -1 else (q : Int), c1) := by
    unfold f_X5_parse
    rw [lt_eq, ct_wF_hs, lt_eq, ct_wF_hs, hs_row, hs_hs, hc0]
    exact q1 200 (by omega)
  generalize hc2 : hs c1 45 (up (c1.1 45) 1 0) = c2
  have fc2 : ∀ a, ¬ (45 ≤ a ∧ a ≤ 48) → c2.1 a = h.1 a := fun a ha => by rw [← hc2, hs_orow _ _ (by omega), q2 a (by omega) (by omega) (by omega), f0 a (by omega)]
  have f46 : c2.1 46 = h.1 46 := by rw [← hc2, hs_orow _ _ (by omega), q2 46 (by omega) (by omega) (by omega), f0 46 (by omega)]
  have l2 : c2.2 = h.2 := by rw [← hc2]; show c1.2 = h.2; rw [q4, ← hc0]; rfl
  have g451 : c2.1 45 1 = 0 := by rw [← hc2, hs_same, up_same]
  -- the reference reads
  have mread : ∀ h2 : ct_H, h2.1 73 = h.1 73 → h2.1 75 = h.1 75 → ∃ m1, f_X7_takesAll G h2 73 = some (ok, m1) ∧ (∀ a, a ≠ 73 → a ≠ 76 → a ≠ 77 → m1.1 a = h2.1 a) ∧ (∀ j, j ≠ 8 → j ≠ 9 → m1.1 73 j = h.1 73 j) ∧ m1.2 = h2.2 ∧ (ok = 0 → m1.1 73 8 = (q : Int)) ∧ (ok = 1 → m1.1 73 9 = (K : Int) ∧ MS m1 K W V) := by
    intro h2 e1 e2
    generalize hm0 : hs h2 73 (up (up (h2.1 73) 8 0) 9 0) = m0
    have u0 : ∀ a, a ≠ 73 → m0.1 a = h2.1 a := fun a ha => by rw [← hm0, hs_orow _ _ ha]
    have u73 : ∀ j, j ≠ 8 → j ≠ 9 → m0.1 73 j = h.1 73 j := fun j j8 j9 => by rw [← hm0, hs_same, up_other _ _ j9, up_other _ _ j8, e1]
    have tm0 : TM m0 n (h.1 46) 0 := ⟨by rw [u73 5 (by omega) (by omega)]; exact n3, by rw [← hm0, hs_same]; rfl, fun i hi => by rw [u0 75 (by omega), e2]; exact (n4 i hi).1.symm⟩
    obtain ⟨m1, r1, r2, r3, r4, r5, r6⟩ := p6 m0 tm0 (by rw [← hm0, hs_same]; rfl) (fun i hi => by omega)
    refine ⟨m1, ?_, fun a a1 a2 a3 => by rw [r2 a a1 a2 a3, u0 a a1], fun j j8 j9 => by rw [r3 j j8 j9, u73 j j8 j9], by rw [r4, ← hm0]; rfl, r5, r6⟩
    unfold f_X7_takesAll
    rw [lt_eq, ct_wF_hs, lt_eq, ct_wF_hs, hs_row, hs_hs, hm0]
    exact r1 200 (by omega)
  rcases p1 with rfl | rfl
  · -- a fault
    obtain ⟨m1, r1, r2, r3, r4, r5, r6⟩ := mread c2 (fc2 73 (by omega)) (fc2 75 (by omega))
    generalize hm2 : hs m1 73 (up (m1.1 73) 5 0) = m2
    have fm : ∀ a, a ≠ 73 → a ≠ 76 → a ≠ 77 → m2.1 a = c2.1 a := fun a a1 a2 a3 => by rw [← hm2, hs_orow _ _ a1, r2 a a1 a2 a3]
    have fm73 : ∀ j, j ≠ 5 → j ≠ 8 → j ≠ 9 → m2.1 73 j = h.1 73 j := fun j j5 j8 j9 => by rw [← hm2, hs_same, up_other _ _ j5, r3 j j8 j9]
    have x1 : m2.1 1 = h.1 1 := by rw [fm 1 (by omega) (by omega) (by omega), fc2 1 (by omega)]
    have x2 : m2.1 2 = h.1 2 := by rw [fm 2 (by omega) (by omega) (by omega), fc2 2 (by omega)]
    refine ⟨-10 - (q : Int), c2, m2, ?_, ?_, hi, wi, ?_⟩
    · unfold f_X6_read
      rw [e10, eP, bs, lt_eq, ct_wF_hs, if_neg (by omega)]
      dsimp only
      rw [if_neg (by omega), hc2, wr_id (by omega) (by omega)]
    · dsimp only
      unfold f_X7_read
      rw [r1, bs, lt_eq, ct_wF_hs, if_pos rfl]
      dsimp only
      rw [hm2, show m2.1 73 8 = (q : Int) by rw [← hm2, hs_same, up_other _ _ (by omega)]; exact r5 rfl, wr_id (by omega) (by omega)]
    · refine inv.gnd (fun a a1 a2 a3 a4 => by rw [fm a (by omega) (by omega) (by omega), fc2 a a3]) (fun j _ j5 j8 j9 => fm73 j j5 j8 j9) (by rw [← hm2]; show m1.2 = h.2; rw [r4, l2]) (Or.inl ⟨x1, x2⟩) (by rw [x1]; exact Int.le_refl _) (by rw [x1]; omega) (by omega) (cg.fr x1 x2) (rg.fr (fun j _ => fm73 j (by omega) (by omega) (by omega)) (by rw [fm 74 (by omega) (by omega) (by omega), fc2 74 (by omega)])) inv.1.2.2.2.1 ⟨0, by omega, ?_, ?_, fun i hi => by omega⟩
      · rw [fm 45 (by omega) (by omega) (by omega)]; exact g451
      · rw [← hm2, hs_same, up_same]; rfl
  · -- all clauses are done
    obtain ⟨r, hi2, wi2, kd2, M2, b1, b2, b3⟩ := pfLB gs p3 p4 K 0 0 hi wi (h.1 1 5) (h.1 74) (by omega) (by omega) g8 g9 inv.1.2.2.2.1 (fun p hp => (inv.1.2.2.1.1 p hp).2)
    obtain ⟨h2, d1, d2, d3⟩ := b2 c2 (cg.fr (fc2 1 (by omega)) (fc2 2 (by omega))) (by rw [fc2 1 (by omega)]; exact hb.1) (by rw [fc2 1 (by omega)]; omega) (by rw [← hc2, hs_same, up_other _ _ (by omega)]; exact (q5 rfl).1) ((q5 rfl).2.fr (by rw [← hc2, hs_orow _ _ (by omega)]) (by rw [← hc2, hs_orow _ _ (by omega)]))
    have fh2 : ∀ a, a ≠ 1 → a ≠ 2 → ¬ (45 ≤ a ∧ a ≤ 48) → h2.1 a = h.1 a := fun a a1 a2 a3 => by rw [d3.1 a a1 a2, fc2 a a3]
    obtain ⟨m1, r1, r2, r3, r4, r5, r6⟩ := mread h2 (fh2 73 (by omega) (by omega) (by omega)) (fh2 75 (by omega) (by omega) (by omega))
    generalize hm2 : hs m1 73 (up (m1.1 73) 5 0) = m2
    have fm : ∀ a, a ≠ 73 → a ≠ 76 → a ≠ 77 → m2.1 a = h2.1 a := fun a a1 a2 a3 => by rw [← hm2, hs_orow _ _ a1, r2 a a1 a2 a3]
    have fm73 : ∀ j, j ≠ 5 → j ≠ 8 → j ≠ 9 → m2.1 73 j = h.1 73 j := fun j j5 j8 j9 => by rw [← hm2, hs_same, up_other _ _ j5, r3 j j8 j9]
    obtain ⟨m3, s1, s2, s3⟩ := b3 m2 (rg.fr (fun j _ => fm73 j (by omega) (by omega) (by omega)) (by rw [fm 74 (by omega) (by omega) (by omega), fh2 74 (by omega) (by omega) (by omega)])) (by rw [← hm2, hs_same, up_other _ _ (by omega)]; exact (r6 rfl).1) ((r6 rfl).2.fr (by rw [← hm2, hs_orow _ _ (by omega)]) (by rw [← hm2, hs_orow _ _ (by omega)]))
    have y1 : m3.1 1 = h2.1 1 := by rw [s3.1 1 (by omega) (by omega), fm 1 (by omega) (by omega) (by omega)]
    have y2 : m3.1 2 = h2.1 2 := by rw [s3.1 2 (by omega) (by omega), fm 2 (by omega) (by omega) (by omega)]
    have w1 : c2.1 1 = h.1 1 := fc2 1 (by omega)
    have w2 : c2.1 2 = h.1 2 := fc2 2 (by omega)
    have u3 := d3.2.2.1
    have u4 := d3.2.2.2.1
    have u5 := d3.2.2.2.2
    rw [w1, w2] at u3
    rw [w1] at u4 u5
    refine ⟨r, h2, m3, ?_, ?_, hi2, wi2, ?_⟩
    · unfold f_X6_read
      rw [e10, eP, bs, lt_eq, ct_wF_hs, if_pos rfl]
      dsimp only
      rw [if_pos rfl, hc2]
      exact d1 200 (by omega)
    · dsimp only
      unfold f_X7_read
      rw [r1, bs, lt_eq, ct_wF_hs, if_neg (by omega)]
      dsimp only
      rw [hm2]
      exact s1 200 (by omega)
    · refine inv.gnd (fun a a1 a2 a3 a4 => by rw [s3.1 a (by omega) (by omega), fm a (by omega) (by omega) (by omega), fh2 a a1 a2 a3]) (fun j j3 j5 j8 j9 => by rw [s3.2.1 j j3, fm73 j j5 j8 j9]) (by rw [s3.2.2, ← hm2]; show m1.2 = h.2; rw [r4, d3.2.1, l2]) (by rw [y1, y2]; exact u3) (by rw [y1]; exact u4) (by rw [y1]; omega) (by omega) (d2.fr y1 y2) s2 b1 ⟨0, by omega, ?_, ?_, fun i hi => by omega⟩
      · rw [s3.1 45 (by omega) (by omega), fm 45 (by omega) (by omega) (by omega), d3.1 45 (by omega) (by omega)]; exact g451
      · rw [s3.2.1 5 (by omega), ← hm2, hs_same, up_same]; rfl
end
