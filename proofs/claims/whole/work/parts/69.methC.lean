/-! the calls that change nothing: of, square, picture, between, count, looked, peek, judge -/
def SAV {α : Type} (P Q : Option α) : Prop := ∃ r : α, P = some r ∧ Q = some r
section
variable {G : ct_G} {h : ct_H} {hi wi : Nat} {B : Int}
theorem s_of (gs : GS G) (inv : INV G h hi wi B) (p : Int) : SAV (f_X6_of G h 0 p) (f_X7_of G h 73 p) := by
  have ig := inv.1
  unfold f_X6_of f_X7_of
  rw [gs.1.1, g_isPoint ig.1, m_isPoint ig.2.1, bs, bs]
  by_cases z : 0 ≤ p ∧ p < ((hi * wi : Nat) : Int)
  · obtain ⟨q, rfl⟩ := Int.eq_ofNat_of_zero_le z.1
    have hq : q < hi * wi := by omega
    have h49 : hi * wi ≤ 49 := Nat.mul_le_mul ig.1.2.2.2.2.2.2.2.1.2 ig.1.2.2.2.2.2.2.2.2.2
    rw [if_pos z, if_neg (by omega), if_neg (by omega), g_heightOf ig.1 hq, bs, ig.2.1.1, rdN (by rw [ig.2.1.2.1]; omega), bs, (ig.2.2.1.1 q hq).1]
    exact ⟨_, rfl, rfl⟩
  · rw [if_neg z, if_pos rfl, if_pos rfl]
    exact ⟨_, rfl, rfl⟩
theorem s_square (gs : GS G) (inv : INV G h hi wi B) (a b d : Int) : SAV (f_X6_square G h 0 a b d) (f_X7_square G h 73 a b d) := by
  have ig := inv.1
  have g8 := ig.1.2.2.2.2.2.2.2.1
  have g9 := ig.1.2.2.2.2.2.2.2.2
  have hN : (hi + 1) * (wi + 1) ≤ 81 := mul_b (by omega) (by omega)
  unfold f_X6_square f_X7_square
  rw [x6_isLevel, m_isLevel, bs, bs]
  by_cases hl : 0 ≤ a ∧ a ≤ 99
  · rw [if_pos hl]
    by_cases z : 0 ≤ b ∧ b < (((hi + 1) * (wi + 1) : Nat) : Int)
    · have z2 : 0 ≤ b ∧ b ≤ (((hi + 1) * (wi + 1) : Nat) : Int) - 1 := by omega
      obtain ⟨q, rfl⟩ := Int.eq_ofNat_of_zero_le z.1
      have hq : q < (hi + 1) * (wi + 1) := by omega
      have cl := cor_lt g8 g9 hq
      by_cases y : 0 ≤ d ∧ d ≤ 1
      · by_cases w : d = 0
        · refine ⟨cs (h.1 2) (wi + 2) (cor wi q) a, ?_, ?_⟩
          · rw [if_neg (by omega), gs.1.1, g_isSquare ig.1, if_pos z, bs, if_neg (by omega), if_neg (by omega), if_pos y.2, g_cornerOf ig.1 hq, bs, if_pos w, g_caseOf ig.1 (by omega), bs]
          · rw [if_neg (by omega), m_squares ig.2.1, bs, wr_id (by omega) (by omega), m_in, if_pos z2, bs, if_neg (by omega), m_in, if_pos y, bs, if_neg (by omega), if_pos w, m_caseOf ig.2.1 ig.2.2.1 hq, bs]
        · refine ⟨js (h.1 2) (wi + 2) (h.1 1 5) (cor wi q) a, ?_, ?_⟩
          · rw [if_neg (by omega), gs.1.1, g_isSquare ig.1, if_pos z, bs, if_neg (by omega), if_neg (by omega), if_pos y.2, g_cornerOf ig.1 hq, bs, if_neg w, g_isJoinedSaddle ig.1 (by omega) ig.2.2.1.hB hl, bs]
            rcases js01 (h.1 2) (wi + 2) (h.1 1 5) (cor wi q) a with e | e
            · rw [e, if_pos rfl]
            · rw [e, if_neg (by omega)]
          · rw [if_neg (by omega), m_squares ig.2.1, bs, wr_id (by omega) (by omega), m_in, if_pos z2, bs, if_neg (by omega), m_in, if_pos y, bs, if_neg (by omega), if_neg w, m_isJoined ig.2.1 ig.2.2.1 hq hl (by rw [ig.2.2.2.2.1]; exact ig.2.2.2.1), bs, ig.2.2.2.2.1]
            rcases js01 (h.1 2) (wi + 2) (h.1 1 5) (cor wi q) a with e | e
            · rw [e, if_pos rfl]
            · rw [e, if_neg (by omega)]
      · refine ⟨-1, ?_, ?_⟩
        · rw [if_neg (by omega), gs.1.1, g_isSquare ig.1, if_pos z, bs, if_neg (by omega)]
          by_cases v : d < 0
          · rw [if_pos v]
          · rw [if_neg v, if_neg (by omega)]
        · rw [if_neg (by omega), m_squares ig.2.1, bs, wr_id (by omega) (by omega), m_in, if_pos z2, bs, if_neg (by omega), m_in, if_neg y, bs, if_pos rfl]
    · have z2 : ¬ (0 ≤ b ∧ b ≤ (((hi + 1) * (wi + 1) : Nat) : Int) - 1) := by omega
      refine ⟨-1, ?_, ?_⟩
      · rw [if_neg (by omega), gs.1.1, g_isSquare ig.1, if_neg z, bs, if_pos rfl]
      · rw [if_neg (by omega), m_squares ig.2.1, bs, wr_id (by omega) (by omega), m_in, if_neg z2, bs, if_pos rfl]
  · rw [if_neg hl]
    exact ⟨-2, if_pos rfl, if_pos rfl⟩
theorem pic_iff (h1 : 2 ≤ hi ∧ hi ≤ 7) (h2 : 2 ≤ wi ∧ wi ≤ 7) (i : Nat) : i < hi * wi + hi - 1 ↔ ¬ (hi ≤ i / (wi + 1) ∨ (i / (wi + 1) = hi - 1 ∧ i % (wi + 1) = wi)) := by
  rcases w_cases h1 with rfl | rfl | rfl | rfl | rfl | rfl <;> rcases w_cases h2 with rfl | rfl | rfl | rfl | rfl | rfl <;> omega
theorem s_picture (gs : GS G) (inv : INV G h hi wi B) (a b : Int) : SAV (f_X6_picture G h 0 a b) (f_X7_picture G h 73 a b) := by
  have ig := inv.1
  have g8 := ig.1.2.2.2.2.2.2.2.1
  have g9 := ig.1.2.2.2.2.2.2.2.2
  have h49 : hi * wi ≤ 49 := Nat.mul_le_mul g8.2 g9.2
  unfold f_X6_picture f_X7_picture
  rw [x6_isLevel, m_isLevel, bs, bs]
  by_cases hl : 0 ≤ a ∧ a ≤ 99
  · rw [if_pos hl]
    by_cases hb : 0 ≤ b
    · obtain ⟨i, rfl⟩ := Int.eq_ofNat_of_zero_le hb
      have pi := pic_iff g8 g9 i
      rw [lt_eq, gs.1.1, ig.1.2.2.2.1, ig.1.2.2.2.2.1, ig.2.1.2.2.2.1, ig.2.1.2.2.2.2.1, wr_id (a := (wi : Int) + 1) (by omega) (by omega), dv_eq (by omega) (by omega), bs, md_eq (by omega) (by omega), bs, ← Int.natCast_mul, wr_id (a := ((hi * wi : Nat) : Int)) (by omega) (by omega), wr_id (a := ((hi * wi : Nat) : Int) + (hi : Int)) (by omega) (by omega), wr_id (a := ((hi * wi : Nat) : Int) + (hi : Int) - 1) (by omega) (by omega), wr_id (a := (hi : Int) - 1) (by omega) (by omega)]
      rw [show (i : Int) / ((wi : Int) + 1) = ((i / (wi + 1) : Nat) : Int) by rw [Int.natCast_ediv]; rfl, show (i : Int) % ((wi : Int) + 1) = ((i % (wi + 1) : Nat) : Int) by rw [Int.natCast_emod]; rfl]
      have ml : i % (wi + 1) < wi + 1 := Nat.mod_lt _ (by omega)
      generalize i / (wi + 1) = r at pi ⊢
      generalize i % (wi + 1) = cc at pi ml ⊢
      by_cases z : i < hi * wi + hi - 1
      · have pz := pi.mp z
        have k6 : ∀ X : Option Int, (if ((r : Nat) : Int) = (hi : Int) - 1 then (if ((cc : Nat) : Int) = (wi : Int) then some (-5) else X) else X) = X := by
          intro X
          by_cases v : ((r : Nat) : Int) = (hi : Int) - 1
          · rw [if_pos v, if_neg (by omega)]
          · rw [if_neg v]
        by_cases w : cc = wi
        · refine ⟨47, ?_, ?_⟩
          · rw [if_neg (by omega), if_pos hb, if_neg (by omega), jn_eq, k6, if_pos (by omega)]
          · rw [if_neg (by omega), if_pos hb, if_pos (by omega), bs, bs, if_pos (by omega)]
        · have lt := yx_lt (hi := hi) (wi := wi) (y := r) (x := cc) (by omega) (by omega)
          refine ⟨if h.1 2 (plc wi (r * wi + cc)) < a then 46 else 35, ?_, ?_⟩
          · rw [if_neg (by omega), if_pos hb, if_neg (by omega), jn_eq, k6, if_neg (by omega), wr_yx (by omega), g_heightOf ig.1 lt, bs]
            split <;> rfl
          · rw [if_neg (by omega), if_pos hb, if_pos (by omega), bs, bs, if_neg (by omega), wr_yx (by omega), ig.2.1.1, rdN (by rw [ig.2.1.2.1]; omega), bs, (ig.2.2.1.1 _ lt).1]
            split <;> rfl
      · have pz : hi ≤ r ∨ (r = hi - 1 ∧ cc = wi) := Classical.byContradiction fun w => z (pi.mpr w)
        refine ⟨-5, ?_, ?_⟩
        · rw [if_neg (by omega), if_pos hb]
          by_cases w : hi ≤ r
          · rw [if_pos (by omega)]
          · rw [if_neg (by omega), jn_eq, if_pos (by omega), if_pos (by omega)]
        · rw [if_neg (by omega), if_pos hb, if_neg (by omega)]
    · refine ⟨-1, ?_, ?_⟩
      · rw [if_neg (by omega), if_neg hb]
      · rw [if_neg (by omega), if_neg hb]
  · rw [if_neg hl]
    exact ⟨-2, if_pos rfl, if_pos rfl⟩
theorem s_between (gs : GS G) (inv : INV G h hi wi B) (a b : Int) : SAV (f_X6_between G h 0 a b) (f_X7_between G h 73 a b) := by
  have ig := inv.1
  unfold f_X6_between f_X7_between
  rw [x6_isLevel, m_isLevel, bs, bs]
  by_cases hl : 0 ≤ a ∧ a ≤ 99
  · rw [if_pos hl, x6_isLevel, m_isLevel, bs, bs]
    by_cases hb : 0 ≤ b ∧ b ≤ 99
    · refine ⟨ct_wr (sm (vol (h.1 2) wi hi (min a b)) 0 (hi * wi) - sm (vol (h.1 2) wi hi (max a b)) 0 (hi * wi)), ?_, ?_⟩
      · rw [if_neg (by omega), if_pos hb, if_neg (by omega), ct_min_eq, ct_max_eq, gs.1.1, g_volume ig.1 ig.2.2.1.hB (by omega), bs, g_volume ig.1 ig.2.2.1.hB (by omega), bs]
      · rw [if_neg (by omega), if_pos hb, if_neg (by omega), ct_min_eq, ct_max_eq, m_volume ig.2.1 ig.2.2.1 (by omega), bs, m_volume ig.2.1 ig.2.2.1 (by omega), bs]
    · rw [if_neg hb]
      refine ⟨-2, ?_, ?_⟩
      · rw [if_neg (by omega), if_pos rfl]
      · rw [if_neg (by omega), if_pos rfl]
  · rw [if_neg hl]
    exact ⟨-2, if_pos rfl, if_pos rfl⟩
theorem s_count (gs : GS G) (inv : INV G h hi wi B) (a : Int) : SAV (f_X6_count G h 0 a) (f_X7_count G h 73 a) := by
  obtain ⟨_, _, _, ⟨⟨n1, _, a1, a2, _⟩, ⟨n2, _, b1, b2, _⟩, ⟨n3, _, c1, c2, _⟩⟩, _, _, ⟨n4, _, d1, d2, _⟩, _⟩ := inv
  have top := gs.1
  unfold f_X6_count f_X7_count
  rw [top.2.2.2.2.2.2.2.1, top.2.2.2.2.2.2.2.2.1, top.2.2.2.2.2.2.2.2.2.1, top.2.2.2.2.2.2.2.2.2.2.1, a1, a2, b1, b2, c1, c2, d1, d2]
  refine ⟨if a = 0 then (n1 : Int) else if a = 1 then (n2 : Int) else if a = 2 then (n3 : Int) else if a = 3 then (n4 : Int) else -2, ?_, ?_⟩
  · repeat' split
    all_goals rfl
  · repeat' split
    all_goals rfl
theorem s_lookedL (gs : GS G) (ig : IG G h hi wi) {n : Nat} (hn : n ≤ 8) (n1 : h.1 42 2 = (n : Int)) (n2 : h.1 73 31 = (n : Int)) (n3 : ∀ i, i < n → h.1 43 i = h.1 91 i ∧ h.1 44 i = h.1 92 i) : ∀ (t i f : Nat), i + t = n → t < f → SAV (l_X6_looked_2 G 0 h f (i : Int)) (l_X7_looked_2 G 73 h f (i : Int))
  | 0, i, f + 1, h1, h2 => by
    refine ⟨-5, ?_, ?_⟩
    · rw [l_X6_looked_2, gs.1.2.2.2.2.2.2.2.2.2.1, n1, if_pos (by omega)]
    · rw [l_X7_looked_2, n2, if_pos (by omega)]
  | t + 1, i, f + 1, h1, h2 => by
    obtain ⟨w1, w2, w3, w4⟩ := gs.2.2.2.2.1.2.2.1
    obtain ⟨_, _, _, _, ⟨r1, r2, r3, r4⟩, _⟩ := gs.2.2.2.2.2.2.2.1
    have e := n3 i (by omega)
    have h49 : hi * wi ≤ 49 := Nat.mul_le_mul ig.1.2.2.2.2.2.2.2.1.2 ig.1.2.2.2.2.2.2.2.2.2
    obtain ⟨v, v1, v2⟩ := s_lookedL gs ig hn n1 n2 n3 t (i + 1) f (by omega) (by omega)
    rw [show ((i + 1 : Nat) : Int) = (i : Int) + 1 by omega] at v1 v2
    by_cases z : 0 ≤ h.1 91 i ∧ h.1 91 i < ((hi * wi : Nat) : Int)
    · obtain ⟨q, hq⟩ := Int.eq_ofNat_of_zero_le z.1
      rw [hq] at z
      have hq2 : q < hi * wi := by omega
      refine ⟨if h.1 2 (plc wi q) = h.1 92 i then v else (i : Int), ?_, ?_⟩
      · rw [l_X6_looked_2, gs.1.2.2.2.2.2.2.2.2.2.1, n1, if_neg (by omega), w1, w3, rdN (by omega), bs, gs.1.1, g_isPoint ig.1, bs, e.1, hq, if_pos z, if_neg (by omega), g_heightOf ig.1 hq2, bs, rdN (by omega), bs, e.2, wr_id (by omega) (by omega), v1]
        split <;> rfl
      · rw [l_X7_looked_2, n2, if_neg (by omega), r1, r3, rdN (by omega), bs, m_isPoint ig.2.1, bs, hq, if_pos z, if_neg (by omega), bs, ig.2.1.1, rdN (by rw [ig.2.1.2.1]; omega), bs, rdN (by omega), bs, (ig.2.2.1.1 q hq2).1, wr_id (by omega) (by omega), v2]
        split <;> rfl
    · refine ⟨(i : Int), ?_, ?_⟩
      · rw [l_X6_looked_2, gs.1.2.2.2.2.2.2.2.2.2.1, n1, if_neg (by omega), w1, rdN (by omega), bs, gs.1.1, g_isPoint ig.1, bs, e.1, if_neg z, if_pos rfl]
      · rw [l_X7_looked_2, n2, if_neg (by omega), r1, rdN (by omega), bs, m_isPoint ig.2.1, bs, if_neg z, if_pos rfl]
theorem s_looked (gs : GS G) (inv : INV G h hi wi B) : SAV (f_X6_looked G h 0) (f_X7_looked G h 73) := by
  obtain ⟨n, h1, h2, h3, h4⟩ := inv.2.2.2.1.2.2
  unfold f_X6_looked f_X7_looked
  exact s_lookedL gs inv.1 h1 h2 h3 h4 n 0 200 (by omega) (by omega)
theorem x6_isTape (t : Int) : f_X6_isTape G h t = some (if 0 ≤ t ∧ t ≤ 5 then 1 else 0) := by
  unfold f_X6_isTape
  by_cases h1 : t < 0
  · rw [if_pos h1, if_neg (by omega)]
  · rw [if_neg h1]
    by_cases h2 : 6 ≤ t
    · rw [if_pos h2, if_neg (by omega)]
    · rw [if_neg h2, if_pos (by omega)]
theorem m_isTape (t : Int) : f_X7_isTape G h t = some (if 0 ≤ t ∧ t ≤ 5 then 1 else 0) := by
  unfold f_X7_isTape
  rw [m_in, bs, bz01, bs]
theorem x4_isPlace (o : Nat) (i : Int) : f_X4_isPlace G h o i = some (if 0 ≤ i ∧ i < h.1 o 2 then 1 else 0) := by
  unfold f_X4_isPlace
  by_cases h1 : i < 0
  · rw [if_pos h1, if_neg (by omega)]
  · rw [if_neg h1]
    by_cases h2 : h.1 o 2 ≤ i
    · rw [if_pos h2, if_neg (by omega)]
    · rw [if_neg h2, if_pos (by omega)]
theorem rdRN {a i : Nat} (h1 : i < G.2 a) : ct_rdR G a (i : Int) = some (G.1 a i) := by
  rw [rdR_eq (by omega) (by omega), Int.toNat_natCast]
theorem rdLN {a i : Nat} (h1 : i < G.2 a) : ct_rdL G h a (i : Int) = some (h.2 a i) := by
  rw [rdL_eq (by omega) (by omega), Int.toNat_natCast]
theorem s_peek (gs : GS G) (inv : INV G h hi wi B) (a b : Int) : SAV (f_X6_peek G h 0 a b) (f_X7_peek G h 73 a b) := by
  obtain ⟨t1, t2, t3, t4, t5, t6, t7, t8, t9⟩ := gs.2.2.2.2.2.2.1
  have tp := inv.2.2.2.2.2.2.2.1
  unfold f_X6_peek f_X7_peek
  rw [x6_isTape, m_isTape, bs, bs, jn_eq, jn_eq]
  by_cases z : 0 ≤ a ∧ a ≤ 5
  · obtain ⟨t, rfl⟩ := Int.eq_ofNat_of_zero_le z.1
    have ht : t < 6 := by omega
    obtain ⟨p1, p2, p3, p4, p5, p6⟩ := tp t ht
    rw [if_pos z]
    by_cases y : 0 ≤ b ∧ b < h.1 103 t
    · have y2 : 0 ≤ b ∧ b ≤ h.1 103 t - 1 := by omega
      obtain ⟨i, rfl⟩ := Int.eq_ofNat_of_zero_le y.1
      refine ⟨h.2 (105 + t) i, ?_, ?_⟩
      · rw [if_neg (by omega), gs.1.2.2.2.2.2.2.2.2.2.2.2.1, rdRN (by omega), bs, (t2 t ht).1, x4_isPlace, p2, if_pos y, bs, if_neg (by omega), bs, (t2 t ht).2.1, rdLN (by rw [(t2 t ht).2.2]; omega), bs, p3 i (by omega)]
      · rw [if_neg (by omega), t3, rdN (by omega), bs, if_neg (by omega), t5, rdN (by omega), bs, wr_id (by omega) (by omega), m_in, if_pos y2, bs, if_neg (by omega), t7, rdRN (by omega), bs, (t9 t ht).1, rdLN (by rw [(t9 t ht).2]; omega), bs]
    · have y2 : ¬ (0 ≤ b ∧ b ≤ h.1 103 t - 1) := by omega
      refine ⟨-9223372036854775808, ?_, ?_⟩
      · rw [if_neg (by omega), gs.1.2.2.2.2.2.2.2.2.2.2.2.1, rdRN (by omega), bs, (t2 t ht).1, x4_isPlace, p2, if_neg y, bs, if_pos rfl]
      · rw [if_neg (by omega), t3, rdN (by omega), bs]
        by_cases w : h.1 102 t < 0
        · rw [if_pos w]
        · rw [if_neg w, t5, rdN (by omega), bs, wr_id (by omega) (by omega), m_in, if_neg y2, bs, if_pos rfl]
  · rw [if_neg z]
    exact ⟨-9223372036854775808, if_pos rfl, if_pos rfl⟩
theorem s_judgeL (gs : GS G) (inv : INV G h hi wi B) {t i : Nat} (ht : t < 6) (hi0 : h.1 102 t = 0) (hlt : (i : Int) < h.1 103 t) : ∀ (k p f : Nat), p + k = hi * wi → k < f → SAV (l_X6_judge_26 G 0 (i : Int) h (50 + 2 * t) ((hi * wi : Nat) : Int) f (p : Int)) (l_X7_judge_14 G 73 (t : Int) (i : Int) h f (p : Int))
  | 0, p, f + 1, h1, h2 => by
    refine ⟨-5, ?_, ?_⟩
    · rw [l_X6_judge_26, if_pos (by omega)]
    · rw [l_X7_judge_14, m_points inv.1.2.1, bs, if_pos (by omega)]
  | k + 1, p, f + 1, h1, h2 => by
    have ig := inv.1
    obtain ⟨t1, t2, t3, t4, t5, t6, t7, t8, t9⟩ := gs.2.2.2.2.2.2.1
    obtain ⟨p1, p2, p3, p4, p5, p6⟩ := inv.2.2.2.2.2.2.2.1 t ht
    have h49 : hi * wi ≤ 49 := Nat.mul_le_mul ig.1.2.2.2.2.2.2.2.1.2 ig.1.2.2.2.2.2.2.2.2.2
    have hp : p < hi * wi := by omega
    obtain ⟨v, v1, v2⟩ := s_judgeL gs inv ht hi0 hlt k (p + 1) f (by omega) (by omega)
    rw [show ((p + 1 : Nat) : Int) = (p : Int) + 1 by omega] at v1 v2
    by_cases z : ((i + p : Nat) : Int) < h.1 103 t
    · have z1 : 0 ≤ ((i + p : Nat) : Int) ∧ ((i + p : Nat) : Int) < h.1 103 t := by omega
      refine ⟨if (lg_cmp (h.2 (105 + t) (i + p)) ((Int32.ofInt (h.1 2 (plc wi p))).toInt64)).toInt = 0 then v else (p : Int), ?_, ?_⟩
      · rw [l_X6_judge_26, if_neg (by omega), wr_id (a := (i : Int) + (p : Int)) (by omega) (by omega), show (i : Int) + (p : Int) = ((i + p : Nat) : Int) by omega, x4_isPlace, p2, if_pos z1, bs, if_neg (by omega), (t2 t ht).2.1, rdLN (by rw [(t2 t ht).2.2]; omega), bs, gs.1.1, g_heightOf ig.1 hp, bs, p3 (i + p) (by omega), wr_id (by omega) (by omega), v1]
        split <;> rfl
      · rw [l_X7_judge_14, m_points ig.2.1, bs, if_neg (by omega), t3, rdN (by omega), bs, if_neg (by omega), if_neg (by omega), t5, rdN (by omega), bs, wr_id (by omega) (by omega), if_pos (by omega), t7, rdRN (by omega), bs, (t9 t ht).1, wr_id (by omega) (by omega), show (i : Int) + (p : Int) = ((i + p : Nat) : Int) by omega, rdLN (by rw [(t9 t ht).2]; omega), bs, ig.2.1.1, rdN (by rw [ig.2.1.2.1]; omega), bs, (ig.2.2.1.1 p hp).1, wr_id (by omega) (by omega), v2]
        split <;> rfl
    · have z1 : ¬ (0 ≤ ((i + p : Nat) : Int) ∧ ((i + p : Nat) : Int) < h.1 103 t) := by omega
      refine ⟨100 + (p : Int), ?_, ?_⟩
      · rw [l_X6_judge_26, if_neg (by omega), wr_id (a := (i : Int) + (p : Int)) (by omega) (by omega), show (i : Int) + (p : Int) = ((i + p : Nat) : Int) by omega, x4_isPlace, p2, if_neg z1, bs, if_pos rfl, wr_id (by omega) (by omega)]
      · rw [l_X7_judge_14, m_points ig.2.1, bs, if_neg (by omega), t3, rdN (by omega), bs, if_neg (by omega), if_neg (by omega), t5, rdN (by omega), bs, wr_id (by omega) (by omega), if_neg (by omega), wr_id (by omega) (by omega)]
theorem s_judge (gs : GS G) (inv : INV G h hi wi B) (a b : Int) (hb0 : -2147483648 ≤ b) (hb : b < 2147483648) : SAV (f_X6_judge G h 0 a b) (f_X7_judge G h 73 a b) := by
  have ig := inv.1
  obtain ⟨t1, t2, t3, t4, t5, t6, t7, t8, t9⟩ := gs.2.2.2.2.2.2.1
  have g8 := ig.1.2.2.2.2.2.2.2.1
  have g9 := ig.1.2.2.2.2.2.2.2.2
  have h49 : hi * wi ≤ 49 := Nat.mul_le_mul g8.2 g9.2
  have h4 : 4 ≤ hi * wi := Nat.mul_le_mul g8.1 g9.1
  unfold f_X6_judge f_X7_judge
  rw [x6_isTape, m_isTape, bs, bs]
  by_cases z : 0 ≤ a ∧ a ≤ 5
  · obtain ⟨t, rfl⟩ := Int.eq_ofNat_of_zero_le z.1
    have ht : t < 6 := by omega
    obtain ⟨p1, p2, p3, p4, p5, p6⟩ := inv.2.2.2.2.2.2.2.1 t ht
    rw [if_pos z]
    have em : f_X4_isEmpty G h (50 + 2 * t) = some (if h.1 102 t = -1 then 1 else 0) := by
      unfold f_X4_isEmpty
      rw [p1]
      split <;> rfl
    have pre : ∀ X, (if (1 : Int) = 0 then some (-1) else (ct_rdR G (G.1 0 11) (t : Int)).bind X) = X (50 + 2 * t) := by
      intro X
      rw [if_neg (by omega), gs.1.2.2.2.2.2.2.2.2.2.2.2.1, rdRN (by omega), bs, (t2 t ht).1]
    rw [pre, em, bs, p1]
    have hL : ∀ f, l_X7_judge_14 G 73 (t : Int) b h (f + 1) 0 = (if h.1 102 t < 0 then (some 100) else if b < 0 then (some 100) else if 0 < h.1 103 t - b then ((ct_rdL G h (105 + t) (ct_wr (b + 0))).bind fun v9 => (ct_rd G h 74 0).bind fun v10 => if ((lg_cmp v9 ((Int32.ofInt v10).toInt64)).toInt) = 0 then (l_X7_judge_14 G 73 (t : Int) b h f (ct_wr (0 + 1))) else some 0) else some 100) := by
      intro f
      rw [l_X7_judge_14, m_points ig.2.1, bs, if_neg (by omega), t3, rdN (by omega), bs, t5, rdN (by omega), bs, t7, rdRN (by omega), bs, (t9 t ht).1, ig.2.1.1, wr_id (a := (100 : Int) + 0) (by omega) (by omega)]
      by_cases w : h.1 102 t < 0
      · rw [if_pos w, if_pos w]; rfl
      · rw [if_neg w, if_neg w]
        by_cases v : b < 0
        · rw [if_pos v, if_pos v]; rfl
        · rw [if_neg v, if_neg v, wr_id (a := h.1 103 t - b) (by omega) (by omega)]
          rfl
    by_cases e : h.1 102 t = -1
    · refine ⟨100, ?_, ?_⟩
      · rw [if_pos e, if_neg (by omega)]
      · rw [if_neg (by omega), t3, rdN (by omega), bs, if_pos (by omega), hL, if_pos (by omega)]
    · by_cases e0 : h.1 102 t = 0
      · by_cases w : 0 ≤ b ∧ b < h.1 103 t
        · obtain ⟨i, rfl⟩ := Int.eq_ofNat_of_zero_le w.1
          obtain ⟨v, v1, v2⟩ := s_judgeL gs inv ht e0 w.2 (hi * wi) 0 200 (by omega) (by omega)
          refine ⟨v, ?_, ?_⟩
          · rw [if_neg e, if_pos rfl, if_pos e0, gs.1.1, g_points ig.1, bs]
            exact v1
          · rw [if_neg (by omega), t3, rdN (by omega), bs, if_pos (by omega)]
            exact v2
        · refine ⟨100, ?_, ?_⟩
          · rw [if_neg e, if_pos rfl, if_pos e0, gs.1.1, g_points ig.1, bs, show (200 : Nat) = 199 + 1 from rfl, l_X6_judge_26, if_neg (by omega), Int.add_zero, wr_id hb0 hb, x4_isPlace, p2, if_neg w, bs, if_pos rfl]
            rfl
          · rw [if_neg (by omega), t3, rdN (by omega), bs, if_pos (by omega), hL, if_neg (by omega)]
            by_cases v : b < 0
            · rw [if_pos v]
            · rw [if_neg v, if_neg (by omega)]
      · refine ⟨-12, ?_, ?_⟩
        · rw [if_neg e, if_pos rfl, if_neg e0]
        · rw [if_neg (by omega), t3, rdN (by omega), bs, if_neg (by omega)]
  · rw [if_neg z]
    exact ⟨-1, if_pos rfl, if_pos rfl⟩
end
