/-! the calls told, odds, mean -/
def bzy (c : Nat → Int) : Nat → Nat → Nat → Nat
  | 0, _, b => b
  | m + 1, i, b => bzy c m (i + 1) (if c i ≤ c b then b else i)
theorem bzy_lt {c : Nat → Int} : ∀ (m i b : Nat), b < i + m → i + m ≤ 100 → b < 100 → bzy c m i b < 100
  | 0, i, b, _, _, h => h
  | m + 1, i, b, h1, h2, h3 => by
    rw [bzy]
    refine bzy_lt m (i + 1) _ ?_ (by omega) ?_
    · split <;> omega
    · split <;> omega
section
variable {G : ct_G} {h : ct_H} {hi wi : Nat} {B : Int}
theorem x2_busyL (gs : GS G) {c : Nat → Int} (hc : ∀ e, e < 100 → h.1 7 e = c e) : ∀ (k i b f : Nat), i + k = 100 → b < 100 → k < f → l_X2_busiest_4 G 3 h f ((b : Int), (i : Int)) = some ((bzy c k i b : Nat) : Int)
  | 0, i, b, f + 1, h1, h2, h3 => by
    rw [l_X2_busiest_4, if_pos (by dsimp only; omega)]
    rfl
  | k + 1, i, b, f + 1, h1, h2, h3 => by
    have lo := gs.2.2.1.1
    rw [l_X2_busiest_4, if_neg (by dsimp only; omega)]
    dsimp only
    rw [lo.2.2.2.2.2.2.2.1, rdN (by rw [lo.2.2.2.2.2.2.2.2.1]; omega), bs, rdN (by rw [lo.2.2.2.2.2.2.2.2.1]; omega), bs, jn_eq, hc i (by omega), hc b h2, wr_id (by omega) (by omega), show (i : Int) + 1 = ((i + 1 : Nat) : Int) by omega, bzy]
    by_cases z : c i ≤ c b
    · rw [if_pos z, if_pos z]
      exact x2_busyL gs hc k (i + 1) b f (by omega) h2 (by omega)
    · rw [if_neg z, if_neg z]
      exact x2_busyL gs hc k (i + 1) i f (by omega) (by omega) (by omega)
def nlv (F : Nat → Int) (hi wi : Nat) (kd : Int) (e : Nat) : Int := ((spL F hi wi kd (e : Int)).2.2.2.1 : Nat)
theorem r_linesAt (gs : GS G) (ig : IG G h hi wi) (ic : IC h hi wi) {e : Nat} (he : e < 100) : ∃ h' : ct_H, f_X7_linesAt G h 73 (e : Int) = some (nlv (h.1 2) hi wi (h.1 1 5) e, h') ∧ QF h h' ∧ IC h' hi wi := by
  obtain ⟨hx, x1, x2, x3, x4, x5⟩ := r_lines gs ig ic (L := (e : Int)) (by omega)
  refine ⟨hx, ?_, x2, x3⟩
  unfold f_X7_linesAt
  rw [x1, bs, x4.2.2.2]
  rfl
theorem m_busyL (gs : GS G) {F : Nat → Int} {kd : Int} : ∀ (k i b f : Nat) (h : ct_H), i + k = 100 → b < 100 → k < f → IG G h hi wi → IC h hi wi → h.1 2 = F → h.1 1 5 = kd → ∃ h' : ct_H, l_X7_busy_8 G 73 f ((b : Int), nlv F hi wi kd b, (i : Int), h) = some (((bzy (nlv F hi wi kd) k i b : Nat) : Int), h') ∧ QF h h' ∧ IC h' hi wi
  | 0, i, b, f + 1, h, h1, h2, h3, ig, ic, e1, e2 => by
    refine ⟨h, ?_, QF.refl, ic⟩
    rw [l_X7_busy_8, if_pos (by dsimp only; omega)]
    rfl
  | k + 1, i, b, f + 1, h, h1, h2, h3, ig, ic, e1, e2 => by
    obtain ⟨hx, x1, x2, x3⟩ := r_linesAt gs ig ic (e := i) (by omega)
    rw [e1, e2] at x1
    have ih := fun b' hb' => m_busyL gs (F := F) (kd := kd) k (i + 1) b' f hx (by omega) hb' (by omega) (ig.q x2) x3 (x2.row2.1.trans e1) (by rw [x2.row2.2]; exact e2)
    rw [l_X7_busy_8, if_neg (by dsimp only; omega)]
    dsimp only
    rw [x1, bs, jn_eq, wr_id (by omega) (by omega), show (i : Int) + 1 = ((i + 1 : Nat) : Int) by omega, bzy]
    by_cases z : nlv F hi wi kd i ≤ nlv F hi wi kd b
    · rw [if_neg (by dsimp only; omega), if_pos z]
      obtain ⟨h', a1, a2, a3⟩ := ih b h2
      exact ⟨h', a1, x2.trans a2, a3⟩
    · rw [if_pos (by dsimp only; omega), if_neg z]
      obtain ⟨h', a1, a2, a3⟩ := ih i (by omega)
      exact ⟨h', a1, x2.trans a2, a3⟩
theorem r_busy (gs : GS G) (ig : IG G h hi wi) (ic : IC h hi wi) : ∃ h' : ct_H, f_X7_busy G h 73 = some (((bzy (nlv (h.1 2) hi wi (h.1 1 5)) 99 1 0 : Nat) : Int), h') ∧ QF h h' ∧ IC h' hi wi := by
  obtain ⟨hx, x1, x2, x3⟩ := r_linesAt gs ig ic (e := 0) (by omega)
  obtain ⟨h', a1, a2, a3⟩ := m_busyL gs (F := h.1 2) (kd := h.1 1 5) 99 1 0 200 hx (by omega) (by omega) (by omega) (ig.q x2) x3 x2.row2.1 (by rw [x2.row2.2])
  refine ⟨h', ?_, x2.trans a2, a3⟩
  unfold f_X7_busy
  rw [show ((0 : Nat) : Int) = 0 from rfl] at x1
  rw [x1, bs]
  exact a1
/-- the first point of the greatest height -/
def topAt (M : Nat → Int) (n t : Nat) : Prop := t < n ∧ (∀ x, x < n → M x ≤ M t) ∧ ∀ x, x < t → M x < M t
theorem m_topL2 (m : MD G h 73 74 hi wi) : ∀ (k i b f : Nat), i + k = hi * wi → b < hi * wi → k < f → (∀ x, x < i → h.1 74 x ≤ h.1 74 b) → (∀ x, x < b → h.1 74 x < h.1 74 b) → ∃ t : Nat, l_X7_top_4 G 73 h f ((b : Int), (i : Int)) = some (t : Int) ∧ topAt (h.1 74) (hi * wi) t
  | 0, i, b, f + 1, h1, h2, h3, h4, h5 => by
    refine ⟨b, ?_, h2, fun x hx => h4 x (by omega), h5⟩
    rw [l_X7_top_4, m_points m, bs, if_pos (by dsimp only; omega)]
  | k + 1, i, b, f + 1, h1, h2, h3, h4, h5 => by
    have h49 : hi * wi ≤ 49 := Nat.mul_le_mul m.2.2.2.2.2.1.2 m.2.2.2.2.2.2.2
    rw [l_X7_top_4, m_points m, bs, if_neg (by dsimp only; omega)]
    dsimp only
    rw [m.1, rdN (by rw [m.2.1]; omega), bs, rdN (by rw [m.2.1]; omega), bs, jn_eq, wr_id (by omega) (by omega), show (i : Int) + 1 = ((i + 1 : Nat) : Int) by omega]
    by_cases z : h.1 74 i ≤ h.1 74 b
    · rw [if_pos z]
      refine m_topL2 m k (i + 1) b f (by omega) h2 (by omega) (fun x hx => ?_) h5
      by_cases e : x = i
      · subst e; exact z
      · exact h4 x (by omega)
    · rw [if_neg z]
      refine m_topL2 m k (i + 1) i f (by omega) (by omega) (by omega) (fun x hx => ?_) (fun x hx => ?_)
      · by_cases e : x = i
        · subst e; omega
        · have := h4 x (by omega); omega
      · have := h4 x hx; omega
theorem m_top (m : MD G h 73 74 hi wi) : ∃ t : Nat, f_X7_top G h 73 = some (t : Int) ∧ topAt (h.1 74) (hi * wi) t := by
  have h49 : hi * wi ≤ 49 := Nat.mul_le_mul m.2.2.2.2.2.1.2 m.2.2.2.2.2.2.2
  have h4 : 4 ≤ hi * wi := Nat.mul_le_mul m.2.2.2.2.2.1.1 m.2.2.2.2.2.2.1
  unfold f_X7_top
  exact m_topL2 m (hi * wi) 0 0 200 (by omega) (by omega) (by omega) (fun x hx => absurd hx (Nat.not_lt_zero _)) (fun x hx => absurd hx (Nat.not_lt_zero _))
theorem fst_eq {F : Nat → Int} {v : Int} {t : Nat} (hv : F (plc wi t) = v) : ∀ (m i : Nat), i ≤ t → t < i + m → (∀ x, i ≤ x → x < t → F (plc wi x) ≠ v) → fst F wi v i m = t
  | 0, i, h1, h2, _ => by omega
  | m + 1, i, h1, h2, h3 => by
    rw [fst]
    by_cases e : i = t
    · subst e; rw [if_pos hv]
    · rw [if_neg (h3 i (Nat.le_refl _) (by omega))]
      exact fst_eq hv m (i + 1) (by omega) (by omega) (fun x a b => h3 x (by omega) b)
theorem s_told (gs : GS G) (inv : INV G h hi wi B) (a : Int) : SAM G hi wi B (f_X6_told G h 0 a) (fun h1 => f_X7_told G h1 73 a) := by
  have ig := inv.1
  have top := gs.1
  have g8 := ig.1.2.2.2.2.2.2.2.1
  have g9 := ig.1.2.2.2.2.2.2.2.2
  have hN := N81 g8 g9
  have h49 : hi * wi ≤ 49 := Nat.mul_le_mul g8.2 g9.2
  have rm := ig.2.2.1.RM g9
  have same : ∀ r : Int, f_X6_told G h 0 a = some (r, h) → f_X7_told G h 73 a = some (r, h) → SAM G hi wi B (f_X6_told G h 0 a) (fun h1 => f_X7_told G h1 73 a) := fun r e1 e2 => SAM.of inv e1 QF.refl inv.2.1 ⟨h, e2, QF.refl, inv.2.1⟩
  obtain ⟨t, t1, t2, t3, t4⟩ := m_top ig.2.1
  have tr := ig.2.2.1.1 t t2
  have gre : mx (h.1 2) 0 ((hi + 2) * (wi + 2)) (-1) = h.1 74 t := by
    have mg := mx_ge (h.1 2) ((hi + 2) * (wi + 2)) 0 (-1)
    have ma := mx_at (h.1 2) ((hi + 2) * (wi + 2)) 0 (-1)
    have := mg.2 (plc wi t) (Nat.zero_le _) (by have := (plc_lt g8 g9 t2).1; omega)
    rcases ma with w | ⟨j, j1, j2, j3⟩
    · omega
    · obtain ⟨y, y1, y2⟩ := plc_sur g8 g9 (rm.inn (q := j) (by omega) (by omega))
      subst y2
      have yr := (ig.2.2.1.1 y y1).1
      have := t3 y y1
      omega
  have fse : fst (h.1 2) wi (h.1 74 t) 0 (hi * wi) = t := fst_eq tr.1.symm (hi * wi) 0 (by omega) (by omega) (fun x _ hx => by
    have := t4 x hx
    have := (ig.2.2.1.1 x (by omega)).1
    omega)
  by_cases a0 : a = 0
  · refine same (hi : Int) ?_ ?_
    · unfold f_X6_told; rw [if_pos a0, top.1, ig.1.2.2.2.1]
    · unfold f_X7_told; rw [if_pos a0, ig.2.1.2.2.2.1]
  by_cases a1 : a = 1
  · refine same (wi : Int) ?_ ?_
    · unfold f_X6_told; rw [if_neg a0, if_pos a1, top.1, ig.1.2.2.2.2.1]
    · unfold f_X7_told; rw [if_neg a0, if_pos a1, ig.2.1.2.2.2.2.1]
  by_cases a2 : a = 2
  · refine same (h.1 1 5) ?_ ?_
    · unfold f_X6_told; rw [if_neg a0, if_neg a1, if_pos a2, top.1]
    · unfold f_X7_told; rw [if_neg a0, if_neg a1, if_pos a2, ig.2.2.2.2.1]
  by_cases a3 : a = 3
  · refine same (h.1 74 t) ?_ ?_
    · unfold f_X6_told; rw [if_neg a0, if_neg a1, if_neg a2, if_pos a3, top.1, g_greatest ig.1, bs, gre]
    · unfold f_X7_told; rw [if_neg a0, if_neg a1, if_neg a2, if_pos a3, t1, bs, ig.2.1.1, rdN (by rw [ig.2.1.2.1]; omega), bs]
  by_cases a4 : a = 4
  · refine same (t : Int) ?_ ?_
    · unfold f_X6_told; rw [if_neg a0, if_neg a1, if_neg a2, if_neg a3, if_pos a4, top.1, g_greatest ig.1, bs, gre, g_firstOf ig.1, bs, fse]
    · unfold f_X7_told; rw [if_neg a0, if_neg a1, if_neg a2, if_neg a3, if_pos a4, t1, bs]
  by_cases a5 : a = 5
  · obtain ⟨r, r1, r2⟩ := half_same gs ig
    refine same r ?_ ?_
    · unfold f_X6_told; rw [if_neg a0, if_neg a1, if_neg a2, if_neg a3, if_neg a4, if_pos a5, r1, bs]
    · unfold f_X7_told; rw [if_neg a0, if_neg a1, if_neg a2, if_neg a3, if_neg a4, if_pos a5, r2, bs]
  by_cases a67 : a = 6 ∨ a = 7
  · obtain ⟨h1, c1, c2, c3, c4⟩ := c_count gs ig inv.2.1
    have g1 := ig.q c2
    have lo := gs.2.2.1.1
    have cb : f_X2_busiest G h1 3 = some ((bzy (nlv (h.1 2) hi wi (h.1 1 5)) 99 1 0 : Nat) : Int) := by
      unfold f_X2_busiest
      exact x2_busyL gs (c := nlv (h.1 2) hi wi (h.1 1 5)) c4 99 1 0 200 (by omega) (by omega) (by omega)
    have bl := bzy_lt (c := nlv (h.1 2) hi wi (h.1 1 5)) 99 1 0 (by omega) (by omega) (by omega)
    obtain ⟨h2, d1, d2, d3⟩ := r_busy gs g1 c3
    rw [c2.row2.1, c2.row2.2] at d1
    generalize bzy (nlv (h.1 2) hi wi (h.1 1 5)) 99 1 0 = bb at cb d1 bl
    rcases a67 with a6 | a7
    · refine SAM.of inv (r := (bb : Int)) (h1 := h1) ?_ c2 c3 ⟨h2, ?_, d2, d3⟩
      · unfold f_X6_told; rw [if_neg a0, if_neg a1, if_neg a2, if_neg a3, if_neg a4, if_neg a5, if_pos a6, top.2.1, c1, bs, cb, bs]
      · unfold f_X7_told; rw [if_neg a0, if_neg a1, if_neg a2, if_neg a3, if_neg a4, if_neg a5, if_pos a6, d1, bs]
    · obtain ⟨h3, e1, e2, e3⟩ := r_linesAt gs (g1.q d2) d3 (e := bb) bl
      rw [d2.row2.1, d2.row2.2, c2.row2.1, c2.row2.2] at e1
      have a6 : ¬ a = 6 := by omega
      refine SAM.of inv (r := nlv (h.1 2) hi wi (h.1 1 5) bb) (h1 := h1) ?_ c2 c3 ⟨h3, ?_, d2.trans e2, e3⟩
      · unfold f_X6_told; rw [if_neg a0, if_neg a1, if_neg a2, if_neg a3, if_neg a4, if_neg a5, if_neg a6, if_pos a7, top.2.1, c1, bs, cb, bs, lo.2.2.2.2.2.2.2.1, rdN (by rw [lo.2.2.2.2.2.2.2.2.1]; omega), bs, c4 bb bl]
        rfl
      · unfold f_X7_told; rw [if_neg a0, if_neg a1, if_neg a2, if_neg a3, if_neg a4, if_neg a5, if_neg a6, if_pos a7, d1, bs, e1, bs]
  · have a6 : ¬ a = 6 := fun w => a67 (Or.inl w)
    have a7 : ¬ a = 7 := fun w => a67 (Or.inr w)
    refine same (-1) ?_ ?_
    · unfold f_X6_told; rw [if_neg a0, if_neg a1, if_neg a2, if_neg a3, if_neg a4, if_neg a5, if_neg a6, if_neg a7]
    · unfold f_X7_told; rw [if_neg a0, if_neg a1, if_neg a2, if_neg a3, if_neg a4, if_neg a5, if_neg a6, if_neg a7]
end
