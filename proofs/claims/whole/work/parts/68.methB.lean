/-! the calls: line, goes, holds, ways -/
section
variable {G : ct_G} {h : ct_H} {hi wi : Nat} {B : Int}
theorem x2_isLine {o : Nat} {S : LSt} {lf od bg : Nat → Int} (rr : RR S lf od bg (h.1 o 5)) (l : Int) : f_X2_isLine G h o l = some (if 0 ≤ l ∧ l < (S.2.2.2.1 : Nat) then 1 else 0) := by
  unfold f_X2_isLine
  rw [rr.2.2.2]
  by_cases h1 : l < 0
  · rw [if_pos h1, if_neg (by omega)]
  · rw [if_neg h1]
    by_cases h2 : ((S.2.2.2.1 : Nat) : Int) ≤ l
    · rw [if_pos h2, if_neg (by omega)]
    · rw [if_neg h2, if_pos (by omega)]
theorem r_asked (gs : GS G) (ig : IG G h hi wi) (ic : IC h hi wi) {L : Int} (hl : 0 ≤ L ∧ L ≤ 99) (l : Int) : ∃ h' : ct_H, f_X7_asked G h 73 L l = some (if 0 ≤ l ∧ l < ((spL (h.1 2) hi wi (h.1 1 5) L).2.2.2.1 : Nat) then 0 else -1, h') ∧ QF h h' ∧ IC h' hi wi ∧ RR (spL (h.1 2) hi wi (h.1 1 5) L) (h'.1 79) (h'.1 80) (h'.1 81) (h'.1 73 14) := by
  obtain ⟨hx, x1, x2, x3, x4, x5⟩ := r_lines gs ig ic hl
  obtain ⟨sf, sg⟩ := sp_facts ig hl
  have s1 := sf.1
  refine ⟨hx, ?_, x2, x3, x4⟩
  unfold f_X7_asked
  rw [m_isLevel, if_pos hl, bs, if_neg (by omega), x1, bs, x4.2.2.2, wr_id (by omega) (by omega), m_in, bs]
  by_cases z : 0 ≤ l ∧ l < ((spL (h.1 2) hi wi (h.1 1 5) L).2.2.2.1 : Nat)
  · have z2 : 0 ≤ l ∧ l ≤ (((spL (h.1 2) hi wi (h.1 1 5) L).2.2.2.1 : Nat) : Int) - 1 := by omega
    rw [if_pos z, if_pos z2, if_neg (by omega)]
  · have z2 : ¬ (0 ≤ l ∧ l ≤ (((spL (h.1 2) hi wi (h.1 1 5) L).2.2.2.1 : Nat) : Int) - 1) := by omega
    rw [if_neg z, if_neg z2, if_pos rfl]
theorem r_asked0 {L : Int} (hl : ¬ (0 ≤ L ∧ L ≤ 99)) (l : Int) : f_X7_asked G h 73 L l = some (-2, h) := by
  unfold f_X7_asked
  rw [m_isLevel, if_neg hl, bs, if_pos rfl]
theorem s_line (gs : GS G) (inv : INV G h hi wi B) (a b d : Int) : SAM G hi wi B (f_X6_line G h 0 a b d) (fun h1 => f_X7_line G h1 73 a b d) := by
  have ig := inv.1
  have top := gs.1
  by_cases hl : 0 ≤ a ∧ a ≤ 99
  · obtain ⟨sf, sg⟩ := sp_facts ig hl
    obtain ⟨ht, t1, t2, t3, t4, t5⟩ := c_trace gs ig inv.2.1 hl
    have gt := ig.q t2
    obtain ⟨hx, x1, x2, x3, x4⟩ := r_asked gs gt t3 hl b
    rw [t2.row2.1, t2.row2.2] at x1 x4
    have gx := gt.q x2
    have lo := gs.2.2.1.1
    have mo := gs.2.2.2.2.2.2.2.2.1
    by_cases hb : 0 ≤ b ∧ b < ((spL (h.1 2) hi wi (h.1 1 5) a).2.2.2.1 : Nat)
    · obtain ⟨l, rfl⟩ := Int.eq_ofNat_of_zero_le hb.1
      have hll : l < (spL (h.1 2) hi wi (h.1 1 5) a).2.2.2.1 := by omega
      have fin : ∀ r : Int, f_X6_line G h 0 a (l : Int) d = some (r, ht) → f_X7_line G ht 73 a (l : Int) d = some (r, hx) → SAM G hi wi B (f_X6_line G h 0 a (l : Int) d) (fun h1 => f_X7_line G h1 73 a (l : Int) d) := fun r e1 e2 => SAM.of inv e1 t2 t3 ⟨hx, e2, x2, x3⟩
      have od := m_order0 mo sf x4 hll
      have od0 := od.2 0 (by have := (sf.2.2 l hll).2.2.1; omega)
      rw [Nat.add_zero] at od0
      have pre : ∀ X : Option (Int × ct_H), f_X6_line G h 0 a (l : Int) d = X ↔ (if d = 0 then ((f_X2_leastEdge G ht 3 (l : Int)).bind fun v4 => some (v4, ht)) else if d = 1 then ((f_X2_lengthOf G ht 3 (l : Int)).bind fun v6 => some (v6, ht)) else if d = 2 then ((f_X2_depthOf G ht 3 (l : Int)).bind fun v8 => some (v8, ht)) else if d = 3 then ((f_X2_parentOf G ht 3 (l : Int)).bind fun v10 => some (v10, ht)) else if d = 4 then ((f_X2_isOuter G ht 3 (l : Int)).bind fun v12 => if v12 = 0 then (some (0, ht)) else some (1, ht)) else if d = 5 then ((f_X2_areaOf G ht 3 (l : Int)).bind fun v15 => some (v15, ht)) else if d = 6 then ((f_X2_pointsHeld G ht 3 (l : Int)).bind fun v17 => some (v17, ht)) else some ((-1), ht)) = X := by
        intro X
        unfold f_X6_line
        rw [x6_isLevel, if_pos hl, bs, if_neg (by omega), top.2.1, t1, bs, x2_isLine t4, if_pos hb, bs, if_neg (by omega)]
      have pre2 : ∀ X : Option (Int × ct_H), f_X7_line G ht 73 a (l : Int) d = X ↔ (if d = 0 then ((ct_rd G hx (G.1 73 13) (l : Int)).bind fun v2 => (ct_rd G hx (G.1 73 12) v2).bind fun v3 => some (v3, hx)) else if d = 1 then ((f_X7_lengthOf G hx 73 (l : Int)).bind fun v5 => some (v5, hx)) else if d = 2 then ((f_X7_depthOf G hx 73 (l : Int)).bind fun v7 => some (v7, hx)) else if d = 3 then ((f_X7_parentOf G hx 73 (l : Int)).bind fun v9 => some (v9, hx)) else if d = 4 then ((f_X7_isOuter G hx 73 (l : Int)).bind fun v11 => if v11 = 0 then (some (0, hx)) else some (1, hx)) else if d = 5 then ((f_X7_areaOf G hx 73 (l : Int)).bind fun v14 => some (v14, hx)) else if d = 6 then ((f_X7_heldOf G hx 73 (l : Int)).bind fun v16 => some (v16, hx)) else some ((-1), hx)) = X := by
        intro X
        unfold f_X7_line
        rw [x1, if_pos hb, bs, if_pos rfl]
      by_cases d0 : d = 0
      · refine fin ((eN (spL (h.1 2) hi wi (h.1 1 5) a) l 0 : Nat) : Int) ((pre _).mpr ?_) ((pre2 _).mpr ?_)
        · rw [if_pos d0, x2_leastEdge lo sf t4 hll, bs]
        · rw [if_pos d0, od.1, bs, od0, bs]
      · by_cases d1 : d = 1
        · refine fin ((cN (spL (h.1 2) hi wi (h.1 1 5) a) l : Nat) : Int) ((pre _).mpr ?_) ((pre2 _).mpr ?_)
          · rw [if_neg d0, if_pos d1, x2_lengthOf lo sf t4 hll, bs]
          · rw [if_neg d0, if_pos d1, m_lengthOf mo sf x4 hll, bs]
        · by_cases d2 : d = 2
          · refine fin (dep (spL (h.1 2) hi wi (h.1 1 5) a) (wi + 2) l) ((pre _).mpr ?_) ((pre2 _).mpr ?_)
            · rw [if_neg d0, if_neg d1, if_pos d2, x2_depthOf lo gt.1 sf sg t4 hll, bs]
            · rw [if_neg d0, if_neg d1, if_pos d2, m_depthOf mo gx.2.1 sf x4 hll, bs]
          · by_cases d3 : d = 3
            · refine fin (prn (spL (h.1 2) hi wi (h.1 1 5) a) (wi + 2) l (spL (h.1 2) hi wi (h.1 1 5) a).2.2.2.1 0 (-5, -1)).1 ((pre _).mpr ?_) ((pre2 _).mpr ?_)
              · rw [if_neg d0, if_neg d1, if_neg d2, if_pos d3, x2_parentOf lo gt.1 sf sg t4 hll, bs]
              · rw [if_neg d0, if_neg d1, if_neg d2, if_pos d3, m_parentOf mo gx.2.1 sf x4 hll, bs]
            · by_cases d4 : d = 4
              · refine fin (if dep (spL (h.1 2) hi wi (h.1 1 5) a) (wi + 2) l % 2 = 0 then 1 else 0) ((pre _).mpr ?_) ((pre2 _).mpr ?_)
                · rw [if_neg d0, if_neg d1, if_neg d2, if_neg d3, if_pos d4, x2_isOuter lo gt.1 sf sg t4 hll, bs]
                  by_cases w : dep (spL (h.1 2) hi wi (h.1 1 5) a) (wi + 2) l % 2 = 0
                  · rw [if_pos w, if_neg (by omega)]
                  · rw [if_neg w, if_pos rfl]
                · rw [if_neg d0, if_neg d1, if_neg d2, if_neg d3, if_pos d4, m_isOuter mo gx.2.1 sf x4 hll, bs]
                  by_cases w : dep (spL (h.1 2) hi wi (h.1 1 5) a) (wi + 2) l % 2 = 0
                  · rw [if_pos w, if_neg (by omega)]
                  · rw [if_neg w, if_pos rfl]
              · by_cases d5 : d = 5
                · refine fin (ct_abs (sm (arE (spL (h.1 2) hi wi (h.1 1 5) a) (wi + 2) l) 0 (cN (spL (h.1 2) hi wi (h.1 1 5) a) l))) ((pre _).mpr ?_) ((pre2 _).mpr ?_)
                  · rw [if_neg d0, if_neg d1, if_neg d2, if_neg d3, if_neg d4, if_pos d5, x2_areaOf lo gt.1 sf t4 hll, bs]
                  · rw [if_neg d0, if_neg d1, if_neg d2, if_neg d3, if_neg d4, if_pos d5, m_areaOf mo gx.2.1 sf x4 hll, bs]
                · by_cases d6 : d = 6
                  · refine fin (sm (fun p => hld (spL (h.1 2) hi wi (h.1 1 5) a) (wi + 2) l (plc wi p)) 0 (hi * wi)) ((pre _).mpr ?_) ((pre2 _).mpr ?_)
                    · rw [if_neg d0, if_neg d1, if_neg d2, if_neg d3, if_neg d4, if_neg d5, if_pos d6, x2_pointsHeld lo gt.1 sf sg t4 hll, bs]
                    · rw [if_neg d0, if_neg d1, if_neg d2, if_neg d3, if_neg d4, if_neg d5, if_pos d6, m_heldOf mo gx.2.1 sf x4 hll, bs]
                  · refine fin (-1) ((pre _).mpr ?_) ((pre2 _).mpr ?_)
                    · rw [if_neg d0, if_neg d1, if_neg d2, if_neg d3, if_neg d4, if_neg d5, if_neg d6]
                    · rw [if_neg d0, if_neg d1, if_neg d2, if_neg d3, if_neg d4, if_neg d5, if_neg d6]
    · refine SAM.of inv (r := -1) (h1 := ht) ?_ t2 t3 ⟨hx, ?_, x2, x3⟩
      · unfold f_X6_line
        rw [x6_isLevel, if_pos hl, bs, if_neg (by omega), top.2.1, t1, bs, x2_isLine t4, if_neg hb, bs, if_pos rfl]
      · unfold f_X7_line
        rw [x1, if_neg hb, bs, if_neg (by dsimp only; omega)]
  · refine SAM.of inv (r := -2) (h1 := h) ?_ QF.refl inv.2.1 ⟨h, ?_, QF.refl, inv.2.1⟩
    · unfold f_X6_line
      rw [x6_isLevel, if_neg hl, bs, if_pos rfl]
    · unfold f_X7_line
      rw [r_asked0 hl, bs, if_neg (by dsimp only; omega)]
theorem s_goes (gs : GS G) (inv : INV G h hi wi B) (a b d : Int) : SAM G hi wi B (f_X6_goes G h 0 a b d) (fun h1 => f_X7_goes G h1 73 a b d) := by
  have ig := inv.1
  have top := gs.1
  by_cases hl : 0 ≤ a ∧ a ≤ 99
  · obtain ⟨sf, sg⟩ := sp_facts ig hl
    obtain ⟨ht, t1, t2, t3, t4, t5⟩ := c_trace gs ig inv.2.1 hl
    have gt := ig.q t2
    obtain ⟨hx, x1, x2, x3, x4⟩ := r_asked gs gt t3 hl b
    rw [t2.row2.1, t2.row2.2] at x1 x4
    have lo := gs.2.2.1.1
    have mo := gs.2.2.2.2.2.2.2.2.1
    by_cases hb : 0 ≤ b ∧ b < ((spL (h.1 2) hi wi (h.1 1 5) a).2.2.2.1 : Nat)
    · obtain ⟨l, rfl⟩ := Int.eq_ofNat_of_zero_le hb.1
      have hll : l < (spL (h.1 2) hi wi (h.1 1 5) a).2.2.2.1 := by omega
      have f := sf.2.2 l hll
      have s2 := sf.2.1
      have od := m_order0 mo sf x4 hll
      generalize spL (h.1 2) hi wi (h.1 1 5) a = S at *
      by_cases d0 : 0 ≤ d
      · obtain ⟨i, rfl⟩ := Int.eq_ofNat_of_zero_le d0
        by_cases di : i < cN S l
        · refine SAM.of inv (r := ((eN S l i : Nat) : Int)) (h1 := ht) ?_ t2 t3 ⟨hx, ?_, x2, x3⟩
          · unfold f_X6_goes
            rw [x6_isLevel, if_pos hl, bs, if_neg (by omega), top.2.1, t1, bs, x2_isLine t4, if_pos hb, bs, if_neg (by omega), if_pos d0, x2_lengthOf lo sf t4 hll, bs, if_neg (by omega), x2_edgeOf lo sf t4 hll di, bs]
          · unfold f_X7_goes
            rw [x1, if_pos hb, bs, if_pos rfl, if_pos d0, m_lengthOf mo sf x4 hll, bs, if_neg (by omega), od.1, bs, wr_id (by omega) (by omega), show ((bN S l : Nat) : Int) + (i : Int) = ((bN S l + i : Nat) : Int) by omega, od.2 i di, bs]
        · refine SAM.of inv (r := -5) (h1 := ht) ?_ t2 t3 ⟨hx, ?_, x2, x3⟩
          · unfold f_X6_goes
            rw [x6_isLevel, if_pos hl, bs, if_neg (by omega), top.2.1, t1, bs, x2_isLine t4, if_pos hb, bs, if_neg (by omega), if_pos d0, x2_lengthOf lo sf t4 hll, bs, if_pos (by omega)]
          · unfold f_X7_goes
            rw [x1, if_pos hb, bs, if_pos rfl, if_pos d0, m_lengthOf mo sf x4 hll, bs, if_pos (by omega)]
      · refine SAM.of inv (r := -1) (h1 := ht) ?_ t2 t3 ⟨hx, ?_, x2, x3⟩
        · unfold f_X6_goes
          rw [x6_isLevel, if_pos hl, bs, if_neg (by omega), top.2.1, t1, bs, x2_isLine t4, if_pos hb, bs, if_neg (by omega), if_neg d0]
        · unfold f_X7_goes
          rw [x1, if_pos hb, bs, if_pos rfl, if_neg d0]
    · refine SAM.of inv (r := -1) (h1 := ht) ?_ t2 t3 ⟨hx, ?_, x2, x3⟩
      · unfold f_X6_goes
        rw [x6_isLevel, if_pos hl, bs, if_neg (by omega), top.2.1, t1, bs, x2_isLine t4, if_neg hb, bs, if_pos rfl]
      · unfold f_X7_goes
        rw [x1, if_neg hb, bs, if_neg (by dsimp only; omega)]
  · refine SAM.of inv (r := -2) (h1 := h) ?_ QF.refl inv.2.1 ⟨h, ?_, QF.refl, inv.2.1⟩
    · unfold f_X6_goes
      rw [x6_isLevel, if_neg hl, bs, if_pos rfl]
    · unfold f_X7_goes
      rw [r_asked0 hl, bs, if_neg (by dsimp only; omega)]
theorem s_ways (gs : GS G) (inv : INV G h hi wi B) (a b d : Int) : SAM G hi wi B (f_X6_ways G h 0 a b d) (fun h1 => f_X7_ways G h1 73 a b d) := by
  have ig := inv.1
  have top := gs.1
  by_cases hl : 0 ≤ a ∧ a ≤ 99
  · obtain ⟨sf, sg⟩ := sp_facts ig hl
    obtain ⟨ht, t1, t2, t3, t4, t5⟩ := c_trace gs ig inv.2.1 hl
    have gt := ig.q t2
    obtain ⟨hx, x1, x2, x3, x4⟩ := r_asked gs gt t3 hl b
    have gx := gt.q x2
    have rh := gx.2.2.1
    rw [x2.row2.1, t2.row2.1] at rh
    rw [t2.row2.1, t2.row2.2] at x1 x4
    have lo := gs.2.2.1.1
    have mo := gs.2.2.2.2.2.2.2.2.1
    by_cases hb : 0 ≤ b ∧ b < ((spL (h.1 2) hi wi (h.1 1 5) a).2.2.2.1 : Nat)
    · obtain ⟨l, rfl⟩ := Int.eq_ofNat_of_zero_le hb.1
      have hll : l < (spL (h.1 2) hi wi (h.1 1 5) a).2.2.2.1 := by omega
      have f := sf.2.2 l hll
      have s2 := sf.2.1
      have od := m_order0 mo sf x4 hll
      generalize spL (h.1 2) hi wi (h.1 1 5) a = S at *
      by_cases d0 : 0 ≤ d
      · obtain ⟨i, rfl⟩ := Int.eq_ofNat_of_zero_le d0
        by_cases di : i < cN S l
        · have e1 := f.2.2.2.2.1 i di
          have inn : inner hi wi (eN S l i) := by
            rcases sg _ e1.2.1 with y | y
            · rw [e1.2.2] at y; omega
            · exact y.1
          have il := inner_lt ig.1.2.2.2.2.2.2.2.1 ig.1.2.2.2.2.2.2.2.2 inn
          have w1 := x2_wayOver lo.1 gt.1 t5 e1.2.1
          rw [t2.row2.1] at w1
          refine SAM.of inv (r := if eN S l i % 2 = 0 then (if h.1 2 (eN S l i / 2) < a then 100 else 117) else (if h.1 2 (eN S l i / 2) < a then 108 else 114)) (h1 := ht) ?_ t2 t3 ⟨hx, ?_, x2, x3⟩
          · unfold f_X6_ways
            rw [x6_isLevel, if_pos hl, bs, if_neg (by omega), top.2.1, t1, bs, x2_isLine t4, if_pos hb, bs, if_neg (by omega), if_pos d0, x2_lengthOf lo sf t4 hll, bs, if_neg (by omega), x2_edgeOf lo sf t4 hll di, bs, w1, bs]
          · unfold f_X7_ways
            rw [x1, if_pos hb, bs, if_pos rfl, if_pos d0, m_lengthOf mo sf x4 hll, bs, if_neg (by omega), od.1, bs, wr_id (by omega) (by omega), show ((bN S l : Nat) : Int) + (i : Int) = ((bN S l + i : Nat) : Int) by omega, od.2 i di, bs, m_signOf gx.2.1 rh (by omega), bs]
        · refine SAM.of inv (r := -5) (h1 := ht) ?_ t2 t3 ⟨hx, ?_, x2, x3⟩
          · unfold f_X6_ways
            rw [x6_isLevel, if_pos hl, bs, if_neg (by omega), top.2.1, t1, bs, x2_isLine t4, if_pos hb, bs, if_neg (by omega), if_pos d0, x2_lengthOf lo sf t4 hll, bs, if_pos (by omega)]
          · unfold f_X7_ways
            rw [x1, if_pos hb, bs, if_pos rfl, if_pos d0, m_lengthOf mo sf x4 hll, bs, if_pos (by omega)]
      · refine SAM.of inv (r := -1) (h1 := ht) ?_ t2 t3 ⟨hx, ?_, x2, x3⟩
        · unfold f_X6_ways
          rw [x6_isLevel, if_pos hl, bs, if_neg (by omega), top.2.1, t1, bs, x2_isLine t4, if_pos hb, bs, if_neg (by omega), if_neg d0]
        · unfold f_X7_ways
          rw [x1, if_pos hb, bs, if_pos rfl, if_neg d0]
    · refine SAM.of inv (r := -1) (h1 := ht) ?_ t2 t3 ⟨hx, ?_, x2, x3⟩
      · unfold f_X6_ways
        rw [x6_isLevel, if_pos hl, bs, if_neg (by omega), top.2.1, t1, bs, x2_isLine t4, if_neg hb, bs, if_pos rfl]
      · unfold f_X7_ways
        rw [x1, if_neg hb, bs, if_neg (by dsimp only; omega)]
  · refine SAM.of inv (r := -2) (h1 := h) ?_ QF.refl inv.2.1 ⟨h, ?_, QF.refl, inv.2.1⟩
    · unfold f_X6_ways
      rw [x6_isLevel, if_neg hl, bs, if_pos rfl]
    · unfold f_X7_ways
      rw [r_asked0 hl, bs, if_neg (by dsimp only; omega)]
theorem s_holds (gs : GS G) (inv : INV G h hi wi B) (a b d : Int) : SAM G hi wi B (f_X6_holds G h 0 a b d) (fun h1 => f_X7_holds G h1 73 a b d) := by
  have ig := inv.1
  have top := gs.1
  by_cases hl : 0 ≤ a ∧ a ≤ 99
  · obtain ⟨sf, sg⟩ := sp_facts ig hl
    obtain ⟨ht, t1, t2, t3, t4, t5⟩ := c_trace gs ig inv.2.1 hl
    have gt := ig.q t2
    obtain ⟨hx, x1, x2, x3, x4⟩ := r_asked gs gt t3 hl b
    have gx := gt.q x2
    rw [t2.row2.1, t2.row2.2] at x1 x4
    have lo := gs.2.2.1.1
    have mo := gs.2.2.2.2.2.2.2.2.1
    by_cases hb : 0 ≤ b ∧ b < ((spL (h.1 2) hi wi (h.1 1 5) a).2.2.2.1 : Nat)
    · obtain ⟨l, rfl⟩ := Int.eq_ofNat_of_zero_le hb.1
      have hll : l < (spL (h.1 2) hi wi (h.1 1 5) a).2.2.2.1 := by omega
      generalize spL (h.1 2) hi wi (h.1 1 5) a = S at *
      by_cases d0 : 0 ≤ d ∧ d < ((hi * wi : Nat) : Int)
      · obtain ⟨p, rfl⟩ := Int.eq_ofNat_of_zero_le d0.1
        have hp : p < hi * wi := by omega
        have pl := plc_lt ig.1.2.2.2.2.2.2.2.1 ig.1.2.2.2.2.2.2.2.2 hp
        have h01 := hld01 S (wi + 2) l (plc wi p)
        refine SAM.of inv (r := hld S (wi + 2) l (plc wi p)) (h1 := ht) ?_ t2 t3 ⟨hx, ?_, x2, x3⟩
        · unfold f_X6_holds
          rw [x6_isLevel, if_pos hl, bs, if_neg (by omega), top.2.1, t1, bs, x2_isLine t4, if_pos hb, bs, if_neg (by omega), top.1, g_isPoint gt.1, if_pos d0, bs, if_neg (by omega), g_placeOf gt.1 hp, bs, x2_isHeld lo gt.1 sf sg t4 hll pl.1, bs]
          rcases h01 with e | e
          · rw [e, if_pos rfl]
          · rw [e, if_neg (by omega)]
        · unfold f_X7_holds
          rw [x1, if_pos hb, bs, if_pos rfl, m_isPoint gx.2.1, if_pos d0, bs, if_neg (by omega), m_placeOf gx.2.1 hp, bs, m_isHeld mo gx.2.1 sf x4 hll pl.2, bs]
          rcases h01 with e | e
          · rw [e, if_pos rfl]
          · rw [e, if_neg (by omega)]
      · refine SAM.of inv (r := -1) (h1 := ht) ?_ t2 t3 ⟨hx, ?_, x2, x3⟩
        · unfold f_X6_holds
          rw [x6_isLevel, if_pos hl, bs, if_neg (by omega), top.2.1, t1, bs, x2_isLine t4, if_pos hb, bs, if_neg (by omega), top.1, g_isPoint gt.1, if_neg d0, bs, if_pos rfl]
        · unfold f_X7_holds
          rw [x1, if_pos hb, bs, if_pos rfl, m_isPoint gx.2.1, if_neg d0, bs, if_pos rfl]
    · refine SAM.of inv (r := -1) (h1 := ht) ?_ t2 t3 ⟨hx, ?_, x2, x3⟩
      · unfold f_X6_holds
        rw [x6_isLevel, if_pos hl, bs, if_neg (by omega), top.2.1, t1, bs, x2_isLine t4, if_neg hb, bs, if_pos rfl]
      · unfold f_X7_holds
        rw [x1, if_neg hb, bs, if_neg (by dsimp only; omega)]
  · refine SAM.of inv (r := -2) (h1 := h) ?_ QF.refl inv.2.1 ⟨h, ?_, QF.refl, inv.2.1⟩
    · unfold f_X6_holds
      rw [x6_isLevel, if_neg hl, bs, if_pos rfl]
    · unfold f_X7_holds
      rw [r_asked0 hl, bs, if_neg (by dsimp only; omega)]
end
