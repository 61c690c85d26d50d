/-! events tried: the class on a ground beside, the reference on its own -/
def evS (hi wi : Nat) (a b : Int) (s : Int × (Nat → Int)) : Int × (Nat → Int) :=
  if a = 0 then (if 0 ≤ b ∧ b < ((hi * wi : Nat) : Int) then (s.1, up s.2 b.toNat (min 99 (s.2 b.toNat + 10))) else s)
  else if a = 1 then (if 0 ≤ b ∧ b < ((hi * wi : Nat) : Int) then (s.1, up s.2 b.toNat 0) else s)
  else if a = 2 then (s.1, fun j => max 0 (s.2 j - b))
  else if a = 3 then (b, s.2)
  else (s.1, fun j => 99 - s.2 j)
def evF (hi wi : Nat) (X Y : Nat → Int) : Nat → Nat → Int × (Nat → Int) → Int × (Nat → Int)
  | _, 0, s => s
  | i, m + 1, s => evF hi wi X Y (i + 1) m (evS hi wi (X i) (Y i) s)
def evK (hi wi : Nat) (s : Int × (Nat → Int)) : Prop := (0 ≤ s.1 ∧ s.1 ≤ 4) ∧ ∀ p, p < hi * wi → 0 ≤ s.2 p ∧ s.2 p ≤ 99
theorem evS_K {hi wi : Nat} {a b : Int} {s : Int × (Nat → Int)} (k : evK hi wi s) (e : evOk a b) : evK hi wi (evS hi wi a b s) := by
  obtain ⟨k1, k2⟩ := k
  obtain ⟨e1, e2, e3⟩ := e
  unfold evS
  by_cases a0 : a = 0
  · rw [if_pos a0]
    by_cases x : 0 ≤ b ∧ b < ((hi * wi : Nat) : Int)
    · rw [if_pos x]
      refine ⟨k1, fun p hp => ?_⟩
      have := k2 b.toNat (by omega)
      dsimp only
      by_cases z : p = b.toNat
      · rw [z, up_same]; omega
      · rw [up_other _ _ z]; exact k2 p hp
    · rw [if_neg x]; exact ⟨k1, k2⟩
  · rw [if_neg a0]
    by_cases a1 : a = 1
    · rw [if_pos a1]
      by_cases x : 0 ≤ b ∧ b < ((hi * wi : Nat) : Int)
      · rw [if_pos x]
        refine ⟨k1, fun p hp => ?_⟩
        dsimp only
        by_cases z : p = b.toNat
        · rw [z, up_same]; omega
        · rw [up_other _ _ z]; exact k2 p hp
      · rw [if_neg x]; exact ⟨k1, k2⟩
    · rw [if_neg a1]
      by_cases a2 : a = 2
      · rw [if_pos a2]
        refine ⟨k1, fun p hp => ?_⟩
        have := k2 p hp
        have := e2 a2
        dsimp only
        omega
      · rw [if_neg a2]
        by_cases a3 : a = 3
        · rw [if_pos a3]
          exact ⟨e3 a3, k2⟩
        · rw [if_neg a3]
          refine ⟨k1, fun p hp => ?_⟩
          have := k2 p hp
          dsimp only
          omega
theorem evS0 {hi wi : Nat} {a b : Int} {s : Int × (Nat → Int)} (ha : a = 0) (x : 0 ≤ b ∧ b < ((hi * wi : Nat) : Int)) : evS hi wi a b s = (s.1, up s.2 b.toNat (min 99 (s.2 b.toNat + 10))) := by
  unfold evS; rw [if_pos ha, if_pos x]
theorem evS1 {hi wi : Nat} {a b : Int} {s : Int × (Nat → Int)} (ha : a = 1) (x : 0 ≤ b ∧ b < ((hi * wi : Nat) : Int)) : evS hi wi a b s = (s.1, up s.2 b.toNat 0) := by
  unfold evS; rw [if_neg (by omega), if_pos ha, if_pos x]
theorem evSn {hi wi : Nat} {a b : Int} {s : Int × (Nat → Int)} (ha : a = 0 ∨ a = 1) (x : ¬ (0 ≤ b ∧ b < ((hi * wi : Nat) : Int))) : evS hi wi a b s = s := by
  unfold evS
  rcases ha with ha | ha
  · rw [if_pos ha, if_neg x]
  · rw [if_neg (by omega), if_pos ha, if_neg x]
theorem evS2 {hi wi : Nat} {a b : Int} {s : Int × (Nat → Int)} (ha : a = 2) : evS hi wi a b s = (s.1, fun j => max 0 (s.2 j - b)) := by
  unfold evS; rw [if_neg (by omega), if_neg (by omega), if_pos ha]
theorem evS3 {hi wi : Nat} {a b : Int} {s : Int × (Nat → Int)} (ha : a = 3) : evS hi wi a b s = (b, s.2) := by
  unfold evS; rw [if_neg (by omega), if_neg (by omega), if_neg (by omega), if_pos ha]
theorem evS4 {hi wi : Nat} {a b : Int} {s : Int × (Nat → Int)} (ha : a = 4) : evS hi wi a b s = (s.1, fun j => 99 - s.2 j) := by
  unfold evS; rw [if_neg (by omega), if_neg (by omega), if_neg (by omega), if_neg (by omega)]
theorem evF_K {hi wi : Nat} {X Y : Nat → Int} : ∀ (m i : Nat) {s : Int × (Nat → Int)}, evK hi wi s → (∀ j, i ≤ j → j < i + m → evOk (X j) (Y j)) → evK hi wi (evF hi wi X Y i m s)
  | 0, _, _, k, _ => k
  | m + 1, i, _, k, e => evF_K m (i + 1) (evS_K k (e i (by omega) (by omega))) (fun j h1 h2 => e j (by omega) (by omega))
section
variable {G : ct_G} {h : ct_H} {hi wi : Nat} {B : Int}
theorem c_happen {s : Int × (Nat → Int)} (g : CG G h 22 23 hi wi s.1 s.2) (h0 : 0 ≤ h.1 22 6) (h1 : h.1 22 6 < 2147470000) {a b : Int} (e : evOk a b) : ∃ h' : ct_H, f_X6_happen G h 22 a b = some h' ∧ CG G h' 22 23 hi wi (evS hi wi a b s).1 (evS hi wi a b s).2 ∧ CT h 22 23 500 h' := by
  obtain ⟨e1, e2, e3⟩ := e
  unfold f_X6_happen
  by_cases a0 : a = 0
  · rw [if_pos a0, g_isPoint g.1, bs]
    by_cases x : 0 ≤ b ∧ b < ((hi * wi : Nat) : Int)
    · rw [if_pos x, if_neg (by omega), evS0 a0 x]
      obtain ⟨n, rfl⟩ := Int.eq_ofNat_of_zero_le x.1
      have hn : n < hi * wi := by omega
      have hr := g.2.1.1 n hn
      rw [g_heightOf g.1 hn, bs, ← hr.1, wr_id (by omega) (by omega), ct_min_eq, Int.toNat_natCast]
      obtain ⟨h', p1, p2, p3⟩ := cs_put g h0 h1 hn (v := min 99 (s.2 n + 10)) (by omega)
      exact ⟨h', by rw [p1, bs], p2, p3⟩
    · rw [if_neg x, if_pos rfl, evSn (Or.inl a0) x]
      exact ⟨h, rfl, g, CT.refl (by omega)⟩
  · rw [if_neg a0]
    by_cases a1 : a = 1
    · rw [if_pos a1, g_isPoint g.1, bs]
      by_cases x : 0 ≤ b ∧ b < ((hi * wi : Nat) : Int)
      · rw [if_pos x, if_neg (by omega), evS1 a1 x]
        obtain ⟨n, rfl⟩ := Int.eq_ofNat_of_zero_le x.1
        have hn : n < hi * wi := by omega
        rw [Int.toNat_natCast]
        obtain ⟨h', p1, p2, p3⟩ := cs_put g h0 h1 hn (v := 0) (by omega)
        exact ⟨h', by rw [p1, bs], p2, p3⟩
      · rw [if_neg x, if_pos rfl, evSn (Or.inr a1) x]
        exact ⟨h, rfl, g, CT.refl (by omega)⟩
    · rw [if_neg a1]
      by_cases a2 : a = 2
      · rw [if_pos a2, evS2 a2]
        obtain ⟨h', p1, p2, p3⟩ := cs_lower g h0 h1 (e2 a2)
        exact ⟨h', by rw [p1, bs], p2, p3⟩
      · rw [if_neg a2]
        by_cases a3 : a = 3
        · rw [if_pos a3, evS3 a3]
          obtain ⟨h', p1, p2, p3⟩ := cs_kind g h0 h1 b
          exact ⟨h', by rw [p1, bs], p2, p3⟩
        · rw [if_neg a3, evS4 (by omega)]
          obtain ⟨h', p1, p2, p3⟩ := cs_turn g h0 h1
          exact ⟨h', by rw [p1, bs], p2, p3⟩
theorem c_tryL (gs : GS G) {X Y : Nat → Int} {N : Nat} (hN : N ≤ 8) {Z : Int} (hZ : Z ≤ 2147460000) : ∀ (m i f : Nat) (h : ct_H) (s : Int × (Nat → Int)), i + m = N → m < f → h.1 39 2 = (N : Int) → h.1 40 = X → h.1 41 = Y → (∀ j, j < N → evOk (X j) (Y j)) → CG G h 22 23 hi wi s.1 s.2 → 0 ≤ h.1 22 6 → h.1 22 6 + 500 * (m : Int) < Z → ∃ h' : ct_H, l_X6_tryEvents_7 G 0 f ((i : Int), h) = some h' ∧ CG G h' 22 23 hi wi (evF hi wi X Y i m s).1 (evF hi wi X Y i m s).2 ∧ CT h 22 23 (500 * (m : Int)) h'
  | 0, i, f + 1, h, s, e1, e2, q1, q2, q3, q4, g, h0, h1 => by
    refine ⟨h, ?_, g, CT.refl (by omega)⟩
    rw [l_X6_tryEvents_7, gs.1.2.2.2.2.2.2.2.2.1, if_pos (by dsimp only; omega)]
  | m + 1, i, f + 1, h, s, e1, e2, q1, q2, q3, q4, g, h0, h1 => by
    have rw1 := gs.2.2.2.2.1.2.1
    obtain ⟨h2, p1, p2, p3⟩ := c_happen g h0 (by omega) (q4 i (by omega))
    have c4 := p3.2.2.2.1
    have c5 := p3.2.2.2.2
    obtain ⟨h', r1, r2, r3⟩ := c_tryL gs hN hZ m (i + 1) f h2 (evS hi wi (X i) (Y i) s) (by omega) (by omega) (by rw [p3.1 39 (by omega) (by omega)]; exact q1) (by rw [p3.1 40 (by omega) (by omega)]; exact q2) (by rw [p3.1 41 (by omega) (by omega)]; exact q3) q4 p2 (by omega) (by omega)
    refine ⟨h', ?_, r2, ?_⟩
    · rw [l_X6_tryEvents_7, gs.1.2.2.2.2.2.2.2.2.1, if_neg (by dsimp only; omega)]
      dsimp only
      rw [rw1.1, rdN (by rw [rw1.2.1]; omega), bs, rw1.2.2.1, rdN (by rw [rw1.2.2.2]; omega), bs, gs.1.2.2.2.2.1, q2, q3, p1, bs, wr_id (by omega) (by omega)]
      exact r1
    · have := p3.trans r3
      rwa [show (500 : Int) + 500 * (m : Int) = 500 * ((m + 1 : Nat) : Int) by omega] at this
theorem c_try (gs : GS G) (inv : INV G h hi wi B) (hB : B ≤ 2000000000) {N : Nat} (q1 : h.1 39 2 = (N : Int)) (hN : N ≤ 8) : ∃ h' : ct_H, f_X6_tryEvents G h 0 = some h' ∧ CG G h' 22 23 hi wi (evF hi wi (h.1 40) (h.1 41) 0 N (h.1 1 5, h.1 74)).1 (evF hi wi (h.1 40) (h.1 41) 0 N (h.1 1 5, h.1 74)).2 ∧ CT h 22 23 5000 h' ∧ h.1 22 6 < h'.1 22 6 := by
  have cg := inv.1.cg.1
  have h0 : 0 ≤ h.1 22 6 := inv.2.2.1.1
  have hb := inv.2.2.2.2.2.2.2.2.2.1
  have ev := inv.2.2.2.2.1
  obtain ⟨h1, a1, a2, a3, a4⟩ := cs_copy (o := 22) (c := 23) gs.2.1.2.1.1 gs.2.1.2.1.2 (by omega) cg (by omega) (by omega) (by omega) (by omega) h0 (by omega)
  have c5 := a3.2.2.2.2
  obtain ⟨h', b1, b2, b3⟩ := c_tryL gs (X := h.1 40) (Y := h.1 41) hN (Z := 2147460000) (Int.le_refl _) N 0 200 h1 (h.1 1 5, h.1 74) (by omega) (by omega) (by rw [a3.1 39 (by omega) (by omega)]; exact q1) (a3.1 40 (by omega) (by omega)) (a3.1 41 (by omega) (by omega)) (fun j hj => ev j (by rw [q1]; omega)) a2 (by omega) (by omega)
  have c6 := b3.2.2.2.1
  have c7 := b3.2.2.2.2
  refine ⟨h', ?_, b2, ?_, by omega⟩
  · unfold f_X6_tryEvents
    rw [gs.1.2.2.2.2.1, gs.1.1, a1, bs]
    exact b1
  · have t := a3.trans b3
    exact ⟨t.1, t.2.1, t.2.2.1, t.2.2.2.1, by omega⟩
/-- the reference -/
theorem m_lowL (m : MD G h 73 74 hi wi) {a2 : Int} (ha : 0 ≤ a2 ∧ a2 ≤ 99) : ∀ (k i n : Nat) (M : Nat → Int), i + k = hi * wi → k < n → (∀ p, p < hi * wi → 0 ≤ M p ∧ M p ≤ 99) → l_X7_happens_31 G 73 a2 n ((i : Int), hs h 74 M) = some (hs h 74 (fun j => if i ≤ j ∧ j < hi * wi then max 0 (M j - a2) else M j))
  | 0, i, n + 1, M, h1, h2, h3 => by
    rw [l_X7_happens_31, m_points (hs_MD m M), bs, if_pos (by dsimp only; omega)]
    have : (fun j => if i ≤ j ∧ j < hi * wi then max 0 (M j - a2) else M j) = M := by funext j; rw [if_neg (by omega)]
    rw [this]
  | k + 1, i, n + 1, M, h1, h2, h3 => by
    have h49 : hi * wi ≤ 49 := Nat.mul_le_mul m.2.2.2.2.2.1.2 m.2.2.2.2.2.2.2
    have hv := h3 i (by omega)
    rw [l_X7_happens_31, m_points (hs_MD m M), bs, if_neg (by dsimp only; omega)]
    dsimp only
    rw [m.1, rdN (by rw [m.2.1]; omega), bs, hs_row, wr_id (a := M i - a2) (by omega) (by omega), ct_max_eq, wtN (by rw [m.2.1]; omega), bs, hs_hs, hs_row, wr_id (by omega) (by omega)]
    have ih := m_lowL m ha k (i + 1) n (up M i (max 0 (M i - a2))) (by omega) (by omega) (fun p hp => by
      by_cases e : p = i
      · rw [e, up_same]; omega
      · rw [up_other _ _ e]; exact h3 p hp)
    rw [show ((i + 1 : Nat) : Int) = (i : Int) + 1 by omega] at ih
    rw [ih]
    congr 2
    funext j
    by_cases e : j = i
    · subst e; rw [if_neg (by omega), up_same, if_pos (by omega)]
    · rw [up_other _ _ e]
      by_cases e2 : i + 1 ≤ j ∧ j < hi * wi
      · rw [if_pos e2, if_pos (by omega)]
      · rw [if_neg e2, if_neg (by omega)]
theorem m_trnL (m : MD G h 73 74 hi wi) : ∀ (k i n : Nat) (M : Nat → Int), i + k = hi * wi → k < n → (∀ p, p < hi * wi → 0 ≤ M p ∧ M p ≤ 99) → l_X7_happens_56 G 73 n ((i : Int), hs h 74 M) = some (hs h 74 (fun j => if i ≤ j ∧ j < hi * wi then 99 - M j else M j))
  | 0, i, n + 1, M, h1, h2, h3 => by
    rw [l_X7_happens_56, m_points (hs_MD m M), bs, if_pos (by dsimp only; omega)]
    have : (fun j => if i ≤ j ∧ j < hi * wi then 99 - M j else M j) = M := by funext j; rw [if_neg (by omega)]
    rw [this]
  | k + 1, i, n + 1, M, h1, h2, h3 => by
    have h49 : hi * wi ≤ 49 := Nat.mul_le_mul m.2.2.2.2.2.1.2 m.2.2.2.2.2.2.2
    have hv := h3 i (by omega)
    rw [l_X7_happens_56, m_points (hs_MD m M), bs, if_neg (by dsimp only; omega)]
    dsimp only
    rw [m.1, rdN (by rw [m.2.1]; omega), bs, hs_row, wr_id (a := 99 - M i) (by omega) (by omega), wtN (by rw [m.2.1]; omega), bs, hs_hs, hs_row, wr_id (by omega) (by omega)]
    have ih := m_trnL m k (i + 1) n (up M i (99 - M i)) (by omega) (by omega) (fun p hp => by
      by_cases e : p = i
      · rw [e, up_same]; omega
      · rw [up_other _ _ e]; exact h3 p hp)
    rw [show ((i + 1 : Nat) : Int) = (i : Int) + 1 by omega] at ih
    rw [ih]
    congr 2
    funext j
    by_cases e : j = i
    · subst e; rw [if_neg (by omega), up_same, if_pos (by omega)]
    · rw [up_other _ _ e]
      by_cases e2 : i + 1 ≤ j ∧ j < hi * wi
      · rw [if_pos e2, if_pos (by omega)]
      · rw [if_neg e2, if_neg (by omega)]
theorem m_happens {s : Int × (Nat → Int)} (g : RG G h hi wi s.1 s.2) (bd : evK hi wi s) {a b : Int} (e : evOk a b) : ∃ h' : ct_H, f_X7_happens G h 73 a b = some h' ∧ RG G h' hi wi (evS hi wi a b s).1 (evS hi wi a b s).2 ∧ RTT h h' := by
  obtain ⟨e1, e2, e3⟩ := e
  have h49 := g.h49
  have hM := g.hM bd.2
  unfold f_X7_happens
  rw [jn_eq]
  by_cases a01 : 2 ≤ a
  · rw [if_pos a01]
    dsimp only
    rw [if_neg (by omega), if_neg (by omega)]
    by_cases a2 : a = 2
    · rw [if_pos a2, evS2 a2]
      have := m_lowL g.1 (e2 a2) (hi * wi) 0 200 (h.1 74) (by omega) (by omega) hM
      rw [hs_self] at this
      exact ⟨_, this, RG_hs g (fun p hp => by rw [if_pos (by omega), g.2.1 p hp]), RTT_hs⟩
    · rw [if_neg a2]
      by_cases a3 : a = 3
      · rw [if_pos a3, evS3 a3, lt_eq, ct_wF_hs]
        have k := rs_kind g b
        exact ⟨_, rfl, k.1, k.2⟩
      · rw [if_neg a3, evS4 (by omega)]
        have := m_trnL g.1 (hi * wi) 0 200 (h.1 74) (by omega) (by omega) hM
        rw [hs_self] at this
        exact ⟨_, this, RG_hs g (fun p hp => by rw [if_pos (by omega), g.2.1 p hp]), RTT_hs⟩
  · rw [if_neg a01, m_isPoint g.1, bs]
    by_cases x : 0 ≤ b ∧ b < ((hi * wi : Nat) : Int)
    · rw [if_pos x, if_neg (by omega)]
      dsimp only
      obtain ⟨n, rfl⟩ := Int.eq_ofNat_of_zero_le x.1
      have hn : n < hi * wi := by omega
      have hr := bd.2 n hn
      by_cases a0 : a = 0
      · rw [if_pos a0, evS0 a0 x, Int.toNat_natCast, g.1.1, rdN (by rw [g.1.2.1]; omega), bs, g.2.1 n hn, wr_id (by omega) (by omega), ct_min_eq, wtN (by rw [g.1.2.1]; omega), bs]
        refine ⟨_, rfl, RG_hs g (fun q hq => ?_), RTT_hs⟩
        by_cases z : q = n
        · subst z; dsimp only; rw [up_same, up_same]
        · dsimp only; rw [up_other _ _ z, up_other _ _ z]; exact g.2.1 q hq
      · rw [if_neg a0, if_pos (by omega), evS1 (by omega) x, Int.toNat_natCast, g.1.1, wtN (by rw [g.1.2.1]; omega), bs]
        refine ⟨_, rfl, RG_hs g (fun q hq => ?_), RTT_hs⟩
        by_cases z : q = n
        · subst z; dsimp only; rw [up_same, up_same]
        · dsimp only; rw [up_other _ _ z, up_other _ _ z]; exact g.2.1 q hq
    · rw [if_neg x, if_pos rfl, evSn (by omega) x]
      exact ⟨h, rfl, g, RTT.refl⟩
theorem m_afterL (gs : GS G) {X Y : Nat → Int} {N : Nat} (hN : N ≤ 8) : ∀ (m i f : Nat) (h : ct_H) (s : Int × (Nat → Int)), i + m = N → m < f → h.1 73 27 = (N : Int) → (∀ j, j < N → h.1 88 j = X j ∧ h.1 89 j = Y j) → (∀ j, j < N → evOk (X j) (Y j)) → RG G h hi wi s.1 s.2 → evK hi wi s → ∃ h' : ct_H, (∀ k7 : ct_H → Option (Int × ct_H), l_X7_after_25 G 73 k7 f ((i : Int), h) = k7 h') ∧ RG G h' hi wi (evF hi wi X Y i m s).1 (evF hi wi X Y i m s).2 ∧ RTT h h'
  | 0, i, f + 1, h, s, e1, e2, q1, q2, q3, g, k => by
    refine ⟨h, fun k7 => ?_, g, RTT.refl⟩
    rw [l_X7_after_25, if_pos (by dsimp only; omega)]
  | m + 1, i, f + 1, h, s, e1, e2, q1, q2, q3, g, k => by
    have rf := gs.2.2.2.2.2.2.2.1.2.2.1
    have eo := q3 i (by omega)
    obtain ⟨h2, p1, p2, p3⟩ := m_happens g k eo
    obtain ⟨h', r1, r2, r3⟩ := m_afterL gs hN m (i + 1) f h2 (evS hi wi (X i) (Y i) s) (by omega) (by omega) (by rw [p3.2.1 27 (by omega)]; exact q1) (fun j hj => by rw [p3.1 88 (by omega) (by omega), p3.1 89 (by omega) (by omega)]; exact q2 j hj) q3 p2 (evS_K k eo)
    refine ⟨h', fun k7 => ?_, r2, p3.trans r3⟩
    rw [l_X7_after_25, if_neg (by dsimp only; omega)]
    dsimp only
    rw [rf.1, rdN (by rw [rf.2.1]; omega), bs, rf.2.2.1, rdN (by rw [rf.2.2.2]; omega), bs, (q2 i (by omega)).1, (q2 i (by omega)).2, p1, bs, wr_id (by omega) (by omega)]
    exact r1 k7
end
