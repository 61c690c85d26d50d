/-! the calls: at, edge, line, goes, holds, ways -/
section
variable {G : ct_G} {h : ct_H} {hi wi : Nat} {B : Int}
theorem x6_isLevel (a : Int) : f_X6_isLevel G h a = some (if 0 ≤ a ∧ a ≤ 99 then 1 else 0) := by
  unfold f_X6_isLevel
  by_cases h1 : a < 0
  · rw [if_pos h1, if_neg (by omega)]
  · rw [if_neg h1]
    by_cases h2 : 100 ≤ a
    · rw [if_pos h2, if_neg (by omega)]
    · rw [if_neg h2, if_pos (by omega)]
theorem sp_facts (ig : IG G h hi wi) {L : Int} (hl : 0 ≤ L ∧ L ≤ 99) : SF (spL (h.1 2) hi wi (h.1 1 5) L) ∧ SG (spL (h.1 2) hi wi (h.1 1 5) L) hi wi := by
  have g8 := ig.1.2.2.2.2.2.2.2.1
  have g9 := ig.1.2.2.2.2.2.2.2.2
  have li := (spL_LI (kd := h.1 1 5) g8 g9 (ig.2.2.1.RM g9) hl.1).1
  exact ⟨LI.sf g8 g9 li, LI.sg li⟩
noncomputable def atV (F : Nat → Int) (hi wi : Nat) (kd L b : Int) : Int :=
  if b = 0 then ((spL F hi wi kd L).2.2.2.1 : Nat)
  else if b = 1 then sm (fun l => if dep (spL F hi wi kd L) (wi + 2) l % 2 = 0 then 1 else 0) 0 (spL F hi wi kd L).2.2.2.1
  else if b = 2 then nmb F hi wi kd L ((hi + 2) * (wi + 2))
  else if b = 3 then sm (fun q => if F q < L then 0 else 1) 0 ((hi + 2) * (wi + 2))
  else if b = 4 then sm (fun q => if (0 : Int) = 0 then (if cs F (wi + 2) (cor wi q) L = 5 ∨ cs F (wi + 2) (cor wi q) L = 10 then 1 else 0) else js F (wi + 2) kd (cor wi q) L) 0 ((hi + 1) * (wi + 1))
  else if b = 5 then sm (fun q => if (1 : Int) = 0 then (if cs F (wi + 2) (cor wi q) L = 5 ∨ cs F (wi + 2) (cor wi q) L = 10 then 1 else 0) else js F (wi + 2) kd (cor wi q) L) 0 ((hi + 1) * (wi + 1))
  else if b = 6 then sm (vol F wi hi L) 0 (hi * wi)
  else mx (dep (spL F hi wi kd L) (wi + 2)) 0 (spL F hi wi kd L).2.2.2.1 (-5)
theorem b07 {b : Int} (h : 0 ≤ b ∧ b ≤ 7) : b = 0 ∨ b = 1 ∨ b = 2 ∨ b = 3 ∨ b = 4 ∨ b = 5 ∨ b = 6 ∨ b = 7 := by omega
theorem c_at (gs : GS G) (ig : IG G h hi wi) (ic : IC h hi wi) {L b : Int} (hl : 0 ≤ L ∧ L ≤ 99) (hb : 0 ≤ b ∧ b ≤ 7) : ∃ h1 : ct_H, f_X6_at G h 0 L b = some (atV (h.1 2) hi wi (h.1 1 5) L b, h1) ∧ QF h h1 ∧ IC h1 hi wi := by
  have top := gs.1
  obtain ⟨sf, sg⟩ := sp_facts ig hl
  unfold f_X6_at
  rw [x6_isLevel, if_pos hl, bs, if_neg (by omega), top.1, top.2.1, top.2.2.1]
  obtain ⟨ht, t1, t2, t3, t4, t5⟩ := c_trace gs ig ic hl
  have gt := ig.q t2
  have lo := gs.2.2.1.1
  unfold atV
  rcases b07 hb with rfl | rfl | rfl | rfl | rfl | rfl | rfl | rfl
  · rw [if_pos rfl, if_pos rfl, t1, bs, t4.2.2.2]
    exact ⟨ht, rfl, t2, t3⟩
  · rw [if_neg (by omega), if_pos rfl, if_neg (by omega), if_pos rfl, t1, bs, x2_outerOnes lo gt.1 sf sg t4, bs]
    exact ⟨ht, rfl, t2, t3⟩
  · obtain ⟨hf, f1, f2, f3, f4, f5⟩ := c_find gs ig ic hl
    rw [if_neg (by omega), if_neg (by omega), if_pos rfl, if_neg (by omega), if_neg (by omega), if_pos rfl, f1, bs, f4.1]
    exact ⟨hf, rfl, f2, f3⟩
  · rw [if_neg (by omega), if_neg (by omega), if_neg (by omega), if_pos rfl, if_neg (by omega), if_neg (by omega), if_neg (by omega), if_pos rfl, g_pointsIn ig.1, bs]
    exact ⟨h, rfl, QF.refl, ic⟩
  · rw [if_neg (by omega), if_neg (by omega), if_neg (by omega), if_neg (by omega), if_pos rfl, if_neg (by omega), if_neg (by omega), if_neg (by omega), if_neg (by omega), if_pos rfl, g_saddles ig.1 ig.2.2.1.hB hl, bs]
    exact ⟨h, rfl, QF.refl, ic⟩
  · rw [if_neg (by omega), if_neg (by omega), if_neg (by omega), if_neg (by omega), if_neg (by omega), if_pos rfl, if_neg (by omega), if_neg (by omega), if_neg (by omega), if_neg (by omega), if_neg (by omega), if_pos rfl, g_saddles ig.1 ig.2.2.1.hB hl, bs]
    exact ⟨h, rfl, QF.refl, ic⟩
  · rw [if_neg (by omega), if_neg (by omega), if_neg (by omega), if_neg (by omega), if_neg (by omega), if_neg (by omega), if_pos rfl, if_neg (by omega), if_neg (by omega), if_neg (by omega), if_neg (by omega), if_neg (by omega), if_neg (by omega), if_pos rfl, g_volume ig.1 ig.2.2.1.hB hl, bs]
    exact ⟨h, rfl, QF.refl, ic⟩
  · rw [if_neg (by omega), if_neg (by omega), if_neg (by omega), if_neg (by omega), if_neg (by omega), if_neg (by omega), if_neg (by omega), if_pos rfl, if_neg (by omega), if_neg (by omega), if_neg (by omega), if_neg (by omega), if_neg (by omega), if_neg (by omega), if_neg (by omega), t1, bs, x2_greatestDepth lo gt.1 sf sg t4, bs]
    exact ⟨ht, rfl, t2, t3⟩
theorem r_at (gs : GS G) (ig : IG G h hi wi) (ic : IC h hi wi) {L b : Int} (hl : 0 ≤ L ∧ L ≤ 99) (hb : 0 ≤ b ∧ b ≤ 7) : ∃ h1 : ct_H, f_X7_at G h 73 L b = some (atV (h.1 2) hi wi (h.1 1 5) L b, h1) ∧ QF h h1 ∧ IC h1 hi wi := by
  obtain ⟨sf, sg⟩ := sp_facts ig hl
  obtain ⟨hx, x1, x2, x3, x4, x5⟩ := r_lines gs ig ic hl
  have gx := ig.q x2
  obtain ⟨hy, y1, y2, y3, y4, y5, y6, y7⟩ := r_lands gs gx x3 hl
  have gy := gx.q y2
  have q2 := x2.1 2 (by omega) (by omega) (by omega)
  have q1 := x2.1 1 (by omega) (by omega) (by omega)
  have w2 := y2.1 2 (by omega) (by omega) (by omega)
  have w1 := y2.1 1 (by omega) (by omega) (by omega)
  rw [q2, q1] at y4
  have rr : RR (spL (h.1 2) hi wi (h.1 1 5) L) (hy.1 79) (hy.1 80) (hy.1 81) (hy.1 73 14) := by
    rw [y7 79 (by omega) (by omega), y7 80 (by omega) (by omega), y7 81 (by omega) (by omega), y6 14 (by omega) (by omega)]
    exact x4
  have mo := gs.2.2.2.2.2.2.2.2.1
  have gr : RH (h.1 2) (hy.1 74) hi wi := by
    have := gy.2.2.1
    rwa [w2, q2] at this
  have gk : hy.1 73 2 = h.1 1 5 := by
    have := gy.2.2.2.2.1
    rwa [w1, q1] at this
  have gk2 : 0 ≤ hy.1 73 2 ∧ hy.1 73 2 ≤ 4 := by rw [gk]; exact ig.2.2.2.1
  unfold f_X7_at
  rw [m_isLevel, if_pos hl, bs, if_neg (by omega), m_in, if_pos hb, bs, if_neg (by omega), x1, bs, y1, bs]
  refine ⟨hy, ?_, x2.trans y2, y3⟩
  unfold atV
  rcases b07 hb with rfl | rfl | rfl | rfl | rfl | rfl | rfl | rfl
  · rw [if_pos rfl, if_pos rfl, rr.2.2.2]
  · rw [if_neg (by omega), if_pos rfl, if_neg (by omega), if_pos rfl, m_outers mo gy.2.1 sf rr, bs]
  · rw [if_neg (by omega), if_neg (by omega), if_pos rfl, if_neg (by omega), if_neg (by omega), if_pos rfl, y4]
  · rw [if_neg (by omega), if_neg (by omega), if_neg (by omega), if_pos rfl, if_neg (by omega), if_neg (by omega), if_neg (by omega), if_pos rfl, m_pointsIn gy.2.1 gr hl.1, bs]
  · rw [if_neg (by omega), if_neg (by omega), if_neg (by omega), if_neg (by omega), if_pos rfl, if_neg (by omega), if_neg (by omega), if_neg (by omega), if_neg (by omega), if_pos rfl, m_saddles gy.2.1 gr hl gk2, bs, gk]
  · rw [if_neg (by omega), if_neg (by omega), if_neg (by omega), if_neg (by omega), if_neg (by omega), if_pos rfl, if_neg (by omega), if_neg (by omega), if_neg (by omega), if_neg (by omega), if_neg (by omega), if_pos rfl, m_saddles gy.2.1 gr hl gk2, bs, gk]
  · rw [if_neg (by omega), if_neg (by omega), if_neg (by omega), if_neg (by omega), if_neg (by omega), if_neg (by omega), if_pos rfl, if_neg (by omega), if_neg (by omega), if_neg (by omega), if_neg (by omega), if_neg (by omega), if_neg (by omega), if_pos rfl, m_volume gy.2.1 gr hl, bs]
  · rw [if_neg (by omega), if_neg (by omega), if_neg (by omega), if_neg (by omega), if_neg (by omega), if_neg (by omega), if_neg (by omega), if_neg (by omega), if_neg (by omega), if_neg (by omega), if_neg (by omega), if_neg (by omega), if_neg (by omega), if_neg (by omega), m_deepest mo gy.2.1 sf rr, bs]
/-- two calls answer alike and what holds is kept -/
def SAM (G : ct_G) (hi wi : Nat) (B : Int) (P : Option (Int × ct_H)) (Q : ct_H → Option (Int × ct_H)) : Prop := ∃ (r : Int) (h1 h2 : ct_H), P = some (r, h1) ∧ Q h1 = some (r, h2) ∧ ∃ hi' wi' : Nat, INV G h2 hi' wi' B
theorem SAM.of {P : Option (Int × ct_H)} {Q : ct_H → Option (Int × ct_H)} (inv : INV G h hi wi B) {r : Int} {h1 : ct_H} (a : P = some (r, h1)) (q1 : QF h h1) (c1 : IC h1 hi wi) (b : ∃ h2 : ct_H, Q h1 = some (r, h2) ∧ QF h1 h2 ∧ IC h2 hi wi) : SAM G hi wi B P Q := by
  obtain ⟨h2, b1, b2, b3⟩ := b
  exact ⟨r, h1, h2, a, b1, hi, wi, inv.q (q1.trans b2) b3⟩
theorem QF.row2 {h' : ct_H} (q : QF h h') : h'.1 2 = h.1 2 ∧ h'.1 1 = h.1 1 := ⟨q.1 2 (by omega) (by omega) (by omega), q.1 1 (by omega) (by omega) (by omega)⟩
theorem s_at (gs : GS G) (inv : INV G h hi wi B) (a b : Int) : SAM G hi wi B (f_X6_at G h 0 a b) (fun h1 => f_X7_at G h1 73 a b) := by
  by_cases hl : 0 ≤ a ∧ a ≤ 99
  · by_cases hb : 0 ≤ b ∧ b ≤ 7
    · obtain ⟨h1, e1, e2, e3⟩ := c_at gs inv.1 inv.2.1 hl hb
      have q := e2.row2
      refine SAM.of inv e1 e2 e3 ?_
      have := r_at gs (inv.1.q e2) e3 hl hb
      rwa [q.1, q.2] at this
    · refine SAM.of inv (r := -1) (h1 := h) ?_ QF.refl inv.2.1 ⟨h, ?_, QF.refl, inv.2.1⟩
      · unfold f_X6_at
        rw [x6_isLevel, if_pos hl, bs, if_neg (by omega), if_neg (by omega), if_neg (by omega), if_neg (by omega), if_neg (by omega), if_neg (by omega), if_neg (by omega), if_neg (by omega), if_neg (by omega)]
      · unfold f_X7_at
        rw [m_isLevel, if_pos hl, bs, if_neg (by omega), m_in, if_neg hb, bs, if_pos rfl]
  · refine SAM.of inv (r := -2) (h1 := h) ?_ QF.refl inv.2.1 ⟨h, ?_, QF.refl, inv.2.1⟩
    · unfold f_X6_at
      rw [x6_isLevel, if_neg hl, bs, if_pos rfl]
    · unfold f_X7_at
      rw [m_isLevel, if_neg hl, bs, if_pos rfl]
theorem edge_iff (h1 : 2 ≤ hi ∧ hi ≤ 7) (h2 : 2 ≤ wi ∧ wi ≤ 7) (e : Int) : (0 ≤ e ∧ e < 2 * (((hi + 2) * (wi + 2) : Nat) : Int) ∧ ((e % 2 = 0 ∧ (e / 2) % ((wi + 2 : Nat) : Int) < ((wi + 1 : Nat) : Int)) ∨ (¬ e % 2 = 0 ∧ e / 2 + ((wi + 2 : Nat) : Int) < (((hi + 2) * (wi + 2) : Nat) : Int)))) ↔ ∃ n : Nat, e = n ∧ edg hi wi n := by
  constructor
  · rintro ⟨a, b, cc⟩
    obtain ⟨n, rfl⟩ := Int.eq_ofNat_of_zero_le a
    have d := (dm_lt (p := n / 2) h1 h2).2
    refine ⟨n, rfl, by omega, ?_⟩
    rcases cc with ⟨c1, c2⟩ | ⟨c1, c2⟩
    · refine Or.inl ⟨by omega, ?_⟩
      have e1 : ((n : Int) / 2) % ((wi + 2 : Nat) : Int) = ((n / 2 % (wi + 2) : Nat) : Int) := by rw [Int.natCast_emod]; rfl
      rw [e1] at c2
      omega
    · exact Or.inr ⟨by omega, d.mpr (by omega)⟩
  · rintro ⟨n, rfl, a, b⟩
    have d := (dm_lt (p := n / 2) h1 h2).2
    refine ⟨by omega, by omega, ?_⟩
    rcases b with ⟨c1, c2⟩ | ⟨c1, c2⟩
    · refine Or.inl ⟨by omega, ?_⟩
      have e1 : ((n : Int) / 2) % ((wi + 2 : Nat) : Int) = ((n / 2 % (wi + 2) : Nat) : Int) := by rw [Int.natCast_emod]; rfl
      rw [e1]
      omega
    · have := d.mp c2
      exact Or.inr ⟨by omega, by omega⟩
theorem s_edge (gs : GS G) (inv : INV G h hi wi B) (a b : Int) : SAM G hi wi B (f_X6_edge G h 0 a b) (fun h1 => f_X7_edge G h1 73 a b) := by
  have ig := inv.1
  have g8 := ig.1.2.2.2.2.2.2.2.1
  have g9 := ig.1.2.2.2.2.2.2.2.2
  have hN := N81 g8 g9
  have top := gs.1
  by_cases hl : 0 ≤ a ∧ a ≤ 99
  · have ei := edge_iff g8 g9 b
    by_cases hb : ∃ n : Nat, b = n ∧ edg hi wi n
    · obtain ⟨n, rfl, en⟩ := hb
      have n1 := en.1
      obtain ⟨ht, t1, t2, t3, t4, t5⟩ := c_trace gs ig inv.2.1 hl
      have gt := ig.q t2
      obtain ⟨hx, x1, x2, x3, x4, x5⟩ := r_lines gs gt t3 hl
      rw [t2.row2.1, t2.row2.2] at x4
      refine SAM.of inv (r := (spL (h.1 2) hi wi (h.1 1 5) a).1 n) (h1 := ht) ?_ t2 t3 ⟨hx, ?_, x2, x3⟩
      · unfold f_X6_edge
        rw [x6_isLevel, if_pos hl, bs, if_neg (by omega), top.1, g_isEdge ig.1, if_pos (ei.mpr ⟨n, rfl, en⟩), bs, if_neg (by omega), top.2.1, t1, bs, gs.2.2.1.1.2.1, rdN (by rw [gs.2.2.1.1.2.2.1]; omega), bs, t4.1 n (by omega)]
      · unfold f_X7_edge
        rw [m_isLevel, if_pos hl, bs, if_neg (by omega), m_isEdge gt.2.1 (by omega)]
        unfold edg at en
        rw [if_pos en, bs, if_neg (by omega), x1, bs, gs.2.2.2.2.2.2.2.2.1.2.2.1, rdN (by rw [gs.2.2.2.2.2.2.2.2.1.2.2.2.1]; omega), bs, x4.1 n (by omega)]
    · refine SAM.of inv (r := -1) (h1 := h) ?_ QF.refl inv.2.1 ⟨h, ?_, QF.refl, inv.2.1⟩
      · unfold f_X6_edge
        rw [x6_isLevel, if_pos hl, bs, if_neg (by omega), top.1, g_isEdge ig.1, if_neg (fun w => hb (ei.mp w)), bs, if_pos rfl]
      · unfold f_X7_edge
        rw [m_isLevel, if_pos hl, bs, if_neg (by omega)]
        by_cases b0 : b < 0
        · unfold f_X7_isEdge
          rw [if_pos b0, bs, if_pos rfl]
        · obtain ⟨n, rfl⟩ := Int.eq_ofNat_of_zero_le (show 0 ≤ b by omega)
          by_cases bn : n < 1000
          · have ne : ¬ edg hi wi n := fun w => hb ⟨n, rfl, w⟩
            rw [m_isEdge ig.2.1 bn]
            unfold edg at ne
            rw [if_neg ne, bs, if_pos rfl]
          · unfold f_X7_isEdge
            rw [if_neg b0, dv_eq (by omega) (by omega), bs, m_places ig.2.1, bs, if_neg (by omega), bs, if_pos rfl]
  · refine SAM.of inv (r := -2) (h1 := h) ?_ QF.refl inv.2.1 ⟨h, ?_, QF.refl, inv.2.1⟩
    · unfold f_X6_edge
      rw [x6_isLevel, if_neg hl, bs, if_pos rfl]
    · unfold f_X7_edge
      rw [m_isLevel, if_neg hl, bs, if_pos rfl]
end
