/-! the calls tape, item, shift -/
section
variable {G : ct_G} {h h' : ct_H} {hi wi : Nat} {B : Int}
theorem INV.tp1 (inv : INV G h hi wi B) {t : Nat} (ht : t < 6) {x y : Int} (k1 : h'.1 (50 + 2 * t) 1 = x) (k2 : h'.1 (50 + 2 * t) 2 = y) (k3 : h'.1 102 t = x) (k4 : h'.1 103 t = y) (k5 : ∀ s, s ≠ t → h'.1 102 s = h.1 102 s ∧ h'.1 103 s = h.1 103 s) (fr : ∀ a, a ≠ 50 + 2 * t → a ≠ 102 → a ≠ 103 → h'.1 a = h.1 a) (l : ∀ s, s < 6 → s ≠ t → h'.2 (51 + 2 * s) = h.2 (51 + 2 * s) ∧ h'.2 (105 + s) = h.2 (105 + s)) (e : ∀ i, i < 60 → h'.2 (51 + 2 * t) i = h'.2 (105 + t) i) (hx : -1 ≤ x ∧ x ≤ 4) (hy : 0 ≤ y ∧ y ≤ 60) (hxy : x = -1 → y = 0) : INV G h' hi wi B := by
  refine inv.tapes (fun a a1 a2 => fr a (by omega) (by omega) (by omega)) (fun s hs => ?_)
  by_cases z : s = t
  · subst z
    exact ⟨by rw [k1, k3], by rw [k2, k4], e, by rw [k3]; exact hx, by rw [k4]; exact hy, by rw [k3, k4]; exact hxy⟩
  · obtain ⟨p1, p2, p3, p4, p5, p6⟩ := inv.2.2.2.2.2.2.2.1 s hs
    have f := fr (50 + 2 * s) (by omega) (by omega) (by omega)
    rw [f, (k5 s z).1, (k5 s z).2, (l s hs z).1, (l s hs z).2]
    exact ⟨p1, p2, p3, p4, p5, p6⟩
theorem wtLN {a i : Nat} {v : Int64} (h1 : i < G.2 a) : ct_wtL G h a (i : Int) v = some (ct_wL h a i v) := by
  unfold ct_wtL
  rw [if_pos (by omega), Int.toNat_natCast]
theorem wL_1 (a i : Nat) (v : Int64) : (ct_wL h a i v).1 = h.1 := rfl
theorem wL_s (a i : Nat) (v : Int64) : (ct_wL h a i v).2 a i = v := by unfold ct_wL; dsimp only; rw [if_pos ⟨rfl, rfl⟩]
theorem wL_o (a : Nat) {i j : Nat} (v : Int64) (hj : j ≠ i) : (ct_wL h a i v).2 a j = h.2 a j := by unfold ct_wL; dsimp only; rw [if_neg (fun q => hj q.2)]
theorem wL_c {a c : Nat} (i : Nat) (v : Int64) (hc : c ≠ a) : (ct_wL h a i v).2 c = h.2 c := by
  funext j
  unfold ct_wL; dsimp only; rw [if_neg (fun q => hc q.1)]
theorem fillLL {a : Nat} {v : Int64} (h3 : G.2 a < 200) : ∀ (m i f : Nat) (h : ct_H), i + m = G.2 a → m < f → ∃ h' : ct_H, l_J7_fill_d0a16_5 G a v ((G.2 a : Nat) : Int) f ((i : Int), h) = some h' ∧ h'.1 = h.1 ∧ (∀ j, i ≤ j → j < G.2 a → h'.2 a j = v) ∧ (∀ j, j < i → h'.2 a j = h.2 a j) ∧ ∀ c, c ≠ a → h'.2 c = h.2 c
  | 0, i, f + 1, h, e1, e2 => by
    refine ⟨h, ?_, rfl, fun j h1 h2 => by omega, fun _ _ => rfl, fun _ _ => rfl⟩
    rw [l_J7_fill_d0a16_5, if_pos (by dsimp only; omega)]
  | m + 1, i, f + 1, h, e1, e2 => by
    obtain ⟨h', p1, p2, p3, p4, p5⟩ := fillLL h3 m (i + 1) f (ct_wL h a i v) (by omega) (by omega)
    refine ⟨h', ?_, p2, fun j h1 h2 => ?_, fun j hj => ?_, fun c hc => ?_⟩
    · rw [l_J7_fill_d0a16_5, if_neg (by dsimp only; omega)]
      dsimp only
      rw [wtLN (by omega), bs, wr_id (by omega) (by omega)]
      exact p1
    · by_cases z : j = i
      · rw [z, p4 i (by omega), wL_s]
      · exact p3 j (by omega) h2
    · rw [p4 j (by omega), wL_o _ _ (by omega)]
    · rw [p5 c hc, wL_c _ _ hc]
theorem m_tapeL (gs : GS G) {t : Nat} (ht : t < 6) : ∀ (m i f : Nat) (h : ct_H), i + m = 60 → m < f → ∃ h' : ct_H, l_X7_tape_39 G 73 (t : Int) f ((i : Int), h) = some (1, h') ∧ h'.1 = h.1 ∧ (∀ j, i ≤ j → j < 60 → h'.2 (105 + t) j = Int64.ofNat 0) ∧ (∀ j, j < i → h'.2 (105 + t) j = h.2 (105 + t) j) ∧ ∀ c, c ≠ 105 + t → h'.2 c = h.2 c
  | 0, i, f + 1, h, e1, e2 => by
    refine ⟨h, ?_, rfl, fun j h1 h2 => by omega, fun _ _ => rfl, fun _ _ => rfl⟩
    rw [l_X7_tape_39, if_pos (by dsimp only; omega)]
  | m + 1, i, f + 1, h, e1, e2 => by
    obtain ⟨t1, t2, t3, t4, t5, t6, t7, t8, t9⟩ := gs.2.2.2.2.2.2.1
    obtain ⟨h', p1, p2, p3, p4, p5⟩ := m_tapeL gs ht m (i + 1) f (ct_wL h (105 + t) i (Int64.ofNat 0)) (by omega) (by omega)
    refine ⟨h', ?_, p2, fun j h1 h2 => ?_, fun j hj => ?_, fun c hc => ?_⟩
    · rw [l_X7_tape_39, if_neg (by dsimp only; omega)]
      dsimp only
      rw [t7, rdRN (by omega), bs, (t9 t ht).1, wtLN (by rw [(t9 t ht).2]; omega), bs, wr_id (by omega) (by omega)]
      exact p1
    · by_cases z : j = i
      · rw [z, p4 i (by omega), wL_s]
      · exact p3 j (by omega) h2
    · rw [p4 j (by omega), wL_o _ _ (by omega)]
    · rw [p5 c hc, wL_c _ _ hc]
theorem x4_become (gs : GS G) {t : Nat} (ht : t < 6) (x y : Int) : ∃ h' : ct_H, f_X4_become G h (50 + 2 * t) x y = some h' ∧ h'.1 (50 + 2 * t) 1 = x ∧ h'.1 (50 + 2 * t) 2 = y ∧ (∀ a, a ≠ 50 + 2 * t → h'.1 a = h.1 a) ∧ (∀ j, j < 60 → h'.2 (51 + 2 * t) j = Int64.ofNat 0) ∧ ∀ c, c ≠ 51 + 2 * t → h'.2 c = h.2 c := by
  obtain ⟨t1, t2, t3, t4, t5, t6, t7, t8, t9⟩ := gs.2.2.2.2.2.2.1
  have g60 := (t2 t ht).2.2
  obtain ⟨h', p1, p2, p3, p4, p5⟩ := fillLL (G := G) (a := 51 + 2 * t) (v := Int64.ofNat 0) (by omega) 60 0 200 (hs (hs h (50 + 2 * t) (up (h.1 (50 + 2 * t)) 1 x)) (50 + 2 * t) (up ((hs h (50 + 2 * t) (up (h.1 (50 + 2 * t)) 1 x)).1 (50 + 2 * t)) 2 y)) (by omega) (by omega)
  refine ⟨h', ?_, ?_, ?_, fun a ha => ?_, fun j hj => p3 j (by omega) (by omega), fun c hc => p5 c hc⟩
  · unfold f_X4_become f_J7_fill_d0a16
    rw [lt_eq, ct_wF_hs, lt_eq, ct_wF_hs, lt_eq, (t2 t ht).2.1]
    rw [show ((0 : Int)) = ((0 : Nat) : Int) from rfl, p1, bs]
  · rw [p2, hs_same, up_other _ _ (by omega), hs_same, up_same]
  · rw [p2, hs_same, up_same]
  · rw [p2, hs_orow _ _ ha, hs_orow _ _ ha]
/-- the reference's tape laid anew -/
theorem m_become (gs : GS G) {t : Nat} (ht : t < 6) (x y : Int) : ∃ h' : ct_H, ((ct_wt G h 102 (t : Int) x).bind fun h9 => (ct_wt G h9 103 (t : Int) y).bind fun h13 => l_X7_tape_39 G 73 (t : Int) 200 (0, h13)) = some (1, h') ∧ h'.1 102 = up (h.1 102) t x ∧ h'.1 103 = up (h.1 103) t y ∧ (∀ a, a ≠ 102 → a ≠ 103 → h'.1 a = h.1 a) ∧ (∀ j, j < 60 → h'.2 (105 + t) j = Int64.ofNat 0) ∧ ∀ c, c ≠ 105 + t → h'.2 c = h.2 c := by
  obtain ⟨t1, t2, t3, t4, t5, t6, t7, t8, t9⟩ := gs.2.2.2.2.2.2.1
  obtain ⟨h', p1, p2, p3, p4, p5⟩ := m_tapeL gs ht 60 0 200 (hs (hs h 102 (up (h.1 102) t x)) 103 (up (h.1 103) t y)) (by omega) (by omega)
  refine ⟨h', ?_, ?_, ?_, fun a a1 a2 => ?_, fun j hj => p3 j (by omega) hj, fun c hc => p5 c hc⟩
  · rw [wtN (by omega), bs, wtN (by omega), bs, hs_orow _ _ (by omega)]
    exact p1
  · rw [p2, hs_orow _ _ (by omega), hs_row]
  · rw [p2, hs_row]
  · rw [p2, hs_orow _ _ a2, hs_orow _ _ a1]
theorem tape_both (gs : GS G) (inv : INV G h hi wi B) {t : Nat} (ht : t < 6) {x y : Int} (hx : -1 ≤ x ∧ x ≤ 4) (hy : 0 ≤ y ∧ y ≤ 60) (hxy : x = -1 → y = 0) {P : Option (Int × ct_H)} {Q : ct_H → Option (Int × ct_H)} (eP : P = (f_X4_become G h (50 + 2 * t) x y).bind fun r => some (1, r)) (eQ : ∀ h, Q h = ((ct_wt G h 102 (t : Int) x).bind fun h9 => (ct_wt G h9 103 (t : Int) y).bind fun h13 => l_X7_tape_39 G 73 (t : Int) 200 (0, h13))) : SAM G hi wi (B + 7000) P Q := by
  obtain ⟨h1, p1, p2, p3, p4, p5, p6⟩ := x4_become (h := h) gs ht x y
  obtain ⟨h2, q1, q2, q3, q4, q5, q6⟩ := m_become (h := h1) gs ht x y
  refine SAM.row (r := 1) (h1 := h1) (h2 := h2) (by rw [eP, p1, bs]) (by rw [eQ]; exact q1) (hi' := hi) (wi' := wi) ?_
  refine inv.tp1 ht (x := x) (y := y) (by rw [q4 _ (by omega) (by omega)]; exact p2) (by rw [q4 _ (by omega) (by omega)]; exact p3) (by rw [q2, up_same]) (by rw [q3, up_same]) (fun s hs => ⟨by rw [q2, up_other _ _ hs, p4 102 (by omega)], by rw [q3, up_other _ _ hs, p4 103 (by omega)]⟩) (fun a a1 a2 a3 => by rw [q4 a a2 a3, p4 a a1]) (fun s hs hst => ⟨by rw [q6 _ (by omega), p6 _ (by omega)], by rw [q6 _ (by omega), p6 _ (by omega)]⟩) (fun i hi => ?_) hx hy hxy
  rw [q6 _ (by omega), p5 i hi, q5 i hi]
theorem s_tape (gs : GS G) (inv : INV G h hi wi B) (a b d : Int) : SAM G hi wi (B + 7000) (f_X6_tape G h 0 a b d) (fun h1 => f_X7_tape G h1 73 a b d) := by
  obtain ⟨t1, t2, t3, t4, t5, t6, t7, t8, t9⟩ := gs.2.2.2.2.2.2.1
  have e11 := gs.1.2.2.2.2.2.2.2.2.2.2.2.1
  by_cases z : 0 ≤ a ∧ a ≤ 5
  · obtain ⟨t, rfl⟩ := Int.eq_ofNat_of_zero_le z.1
    have ht : t < 6 := by omega
    by_cases y1 : b = -1
    · refine tape_both gs inv ht (x := -1) (y := 0) (by omega) (by omega) (fun _ => rfl) ?_ (fun h => ?_)
      · unfold f_X6_tape
        rw [x6_isTape, if_pos z, bs, if_neg (by omega), if_pos y1, e11, rdRN (by omega), bs, (t2 t ht).1]
      · unfold f_X7_tape
        rw [m_isTape, if_pos z, bs, if_neg (by omega), m_in, if_pos (by omega), bs, if_neg (by omega), jn_eq, if_pos (by omega)]
        dsimp only
        rw [jn_eq, if_pos (by omega)]
        dsimp only
        rw [t3, t5, y1]
        congr 1
    · by_cases y2 : 0 ≤ b ∧ b ≤ 4
      · by_cases y3 : d ≤ 60
        · by_cases y4 : 0 ≤ d
          · refine tape_both gs inv ht (x := b) (y := d) (by omega) (by omega) (fun _ => by omega) ?_ (fun h => ?_)
            · unfold f_X6_tape f_X4_isSort
              rw [x6_isTape, if_pos z, bs, if_neg (by omega), if_neg y1, if_neg (by omega), if_neg (by omega), bs, if_neg (by omega), if_pos y3, if_pos y4, e11, rdRN (by omega), bs, (t2 t ht).1]
            · unfold f_X7_tape
              rw [m_isTape, if_pos z, bs, if_neg (by omega), m_in, if_pos (by omega), bs, if_neg (by omega), jn_eq, if_neg (by omega), if_pos y3]
              dsimp only
              rw [jn_eq, if_neg (by omega), if_pos y4]
              dsimp only
              rw [t3, t5]
              congr 1
              funext h9
              rw [jn_eq, if_pos y2.1]
          · refine SAM.same inv (r := -14) ?_ ?_
            · unfold f_X6_tape f_X4_isSort
              rw [x6_isTape, if_pos z, bs, if_neg (by omega), if_neg y1, if_neg (by omega), if_neg (by omega), bs, if_neg (by omega), if_pos y3, if_neg y4]
            · unfold f_X7_tape
              rw [m_isTape, if_pos z, bs, if_neg (by omega), m_in, if_pos (by omega), bs, if_neg (by omega), jn_eq, if_neg (by omega), if_pos y3, jn_eq, if_neg (by omega), if_neg y4]
        · refine SAM.same inv (r := -2) ?_ ?_
          · unfold f_X6_tape f_X4_isSort
            rw [x6_isTape, if_pos z, bs, if_neg (by omega), if_neg y1, if_neg (by omega), if_neg (by omega), bs, if_neg (by omega), if_neg y3]
          · unfold f_X7_tape
            rw [m_isTape, if_pos z, bs, if_neg (by omega), m_in, if_pos (by omega), bs, if_neg (by omega), jn_eq, if_neg (by omega), if_neg y3]
      · refine SAM.same inv (r := -2) ?_ ?_
        · unfold f_X6_tape f_X4_isSort
          rw [x6_isTape, if_pos z, bs, if_neg (by omega), if_neg y1]
          by_cases w : b < 0
          · rw [if_pos w, bs, if_pos rfl]
          · rw [if_neg w, if_pos (by omega), bs, if_pos rfl]
        · unfold f_X7_tape
          rw [m_isTape, if_pos z, bs, if_neg (by omega), m_in, if_neg (by omega), bs, if_pos rfl]
  · refine SAM.same inv (r := -1) ?_ ?_
    · unfold f_X6_tape
      rw [x6_isTape, if_neg z, bs, if_pos rfl]
    · unfold f_X7_tape
      rw [m_isTape, if_neg z, bs, if_pos rfl]
def itm (x : Int) (v : Int64) : Int64 := if x = 0 then ((Int32.ofInt ((Int32.ofInt ((v).toInt32.toInt)).toInt8.toInt32.toInt)).toInt64) else if x = 1 then ((Int32.ofInt ((Int32.ofInt ((v).toInt32.toInt)).toInt16.toInt32.toInt)).toInt64) else if x = 2 then ((Int32.ofInt ((v).toInt32.toInt)).toInt64) else if x = 3 then v else if ((lg_cmp v (Int64.ofNat 0)).toInt) = 0 then Int64.ofNat 0 else Int64.ofNat 1
theorem c04 {x : Int} (h : 0 ≤ x ∧ x ≤ 4) : x = 0 ∨ x = 1 ∨ x = 2 ∨ x = 3 ∨ x = 4 := by omega
theorem m_asItem {x : Int} (hx : 0 ≤ x ∧ x ≤ 4) (v : Int64) : f_X7_asItem G h x v = some (itm x v) := by
  unfold f_X7_asItem itm
  rcases c04 hx with rfl | rfl | rfl | rfl | rfl
  · rw [if_pos rfl, if_pos rfl]
  · rw [if_neg (by omega), if_pos rfl, if_neg (by omega), if_pos rfl]
  · rw [if_neg (by omega), if_neg (by omega), if_pos rfl, if_neg (by omega), if_neg (by omega), if_pos rfl]
  · rw [if_neg (by omega), if_neg (by omega), if_neg (by omega), if_pos rfl, if_neg (by omega), if_neg (by omega), if_neg (by omega), if_pos rfl]
  · have n0 : ¬ (4 : Int) = 0 := by omega
    have n1 : ¬ (4 : Int) = 1 := by omega
    have n2 : ¬ (4 : Int) = 2 := by omega
    have n3 : ¬ (4 : Int) = 3 := by omega
    rw [if_neg n0, if_neg n1, if_neg n2, if_neg n3, if_neg n0, if_neg n1, if_neg n2, if_neg n3]
    by_cases w : (lg_cmp v (Int64.ofNat 0)).toInt = 0
    · rw [if_pos w, if_pos w]
    · rw [if_neg w, if_neg w]
theorem x4_put {o i c : Nat} {x : Int} (hx : 0 ≤ x ∧ x ≤ 4) (e : h.1 o 1 = x) (g : G.1 o 0 = c) (hi : i < G.2 c) (v : Int64) : f_X4_put G h o (i : Int) v = some (ct_wL h c i (itm x v)) := by
  unfold f_X4_put itm
  rw [e, g]
  rcases c04 hx with rfl | rfl | rfl | rfl | rfl
  · rw [if_pos rfl, wtLN hi, bs, if_pos rfl]
  · rw [if_neg (by omega), if_pos rfl, wtLN hi, bs, if_neg (by omega), if_pos rfl]
  · rw [if_neg (by omega), if_neg (by omega), if_pos rfl, wtLN hi, bs, if_neg (by omega), if_neg (by omega), if_pos rfl]
  · rw [if_neg (by omega), if_neg (by omega), if_neg (by omega), if_pos rfl, wtLN hi, bs, if_neg (by omega), if_neg (by omega), if_neg (by omega), if_pos rfl]
  · rw [if_neg (by omega), if_neg (by omega), if_neg (by omega), if_neg (by omega), if_pos rfl, jn_eq]
    rw [if_neg (by omega : ¬ (4 : Int) = 0), if_neg (by omega : ¬ (4 : Int) = 1), if_neg (by omega : ¬ (4 : Int) = 2), if_neg (by omega : ¬ (4 : Int) = 3)]
    by_cases w : (lg_cmp v (Int64.ofNat 0)).toInt = 0
    · rw [if_pos w, if_pos w]
      dsimp only
      rw [wtLN hi, bs]
    · rw [if_neg w, if_neg w]
      dsimp only
      rw [wtLN hi, bs]
theorem x4_isEmpty (o : Nat) : f_X4_isEmpty G h o = some (if h.1 o 1 = -1 then 1 else 0) := by
  unfold f_X4_isEmpty
  split <;> rfl
theorem s_item (gs : GS G) (inv : INV G h hi wi B) (a b : Int) (v : Int64) : SAM G hi wi (B + 7000) (f_X6_item G h 0 a b v) (fun h1 => f_X7_item G h1 73 a b v) := by
  obtain ⟨t1, t2, t3, t4, t5, t6, t7, t8, t9⟩ := gs.2.2.2.2.2.2.1
  have e11 := gs.1.2.2.2.2.2.2.2.2.2.2.2.1
  by_cases z : 0 ≤ a ∧ a ≤ 5
  · obtain ⟨t, rfl⟩ := Int.eq_ofNat_of_zero_le z.1
    have ht : t < 6 := by omega
    obtain ⟨p1, p2, p3, p4, p5, p6⟩ := inv.2.2.2.2.2.2.2.1 t ht
    by_cases y1 : h.1 102 t = -1
    · refine SAM.same inv (r := -11) ?_ ?_
      · unfold f_X6_item
        rw [x6_isTape, if_pos z, bs, if_neg (by omega), e11, rdRN (by omega), bs, (t2 t ht).1, x4_isEmpty, p1, if_pos y1, bs, if_neg (by omega)]
      · unfold f_X7_item
        rw [m_isTape, if_pos z, bs, if_neg (by omega), t3, rdN (by omega), bs, if_neg (by omega)]
    · by_cases y2 : 0 ≤ b ∧ b < h.1 103 t
      · obtain ⟨i, rfl⟩ := Int.eq_ofNat_of_zero_le y2.1
        have hx : 0 ≤ h.1 102 t ∧ h.1 102 t ≤ 4 := by omega
        have e1 : f_X6_item G h 0 (t : Int) (i : Int) v = some (1, ct_wL h (51 + 2 * t) i (itm (h.1 102 t) v)) := by
          unfold f_X6_item
          rw [x6_isTape, if_pos z, bs, if_neg (by omega), e11, rdRN (by omega), bs, (t2 t ht).1, x4_isEmpty, p1, if_neg y1, bs, if_pos rfl, bs, x4_isPlace, p2, if_pos y2, bs, if_neg (by omega), bs, x4_put hx p1 (t2 t ht).2.1 (by rw [(t2 t ht).2.2]; omega), bs]
        have e2 : f_X7_item G (ct_wL h (51 + 2 * t) i (itm (h.1 102 t) v)) 73 (t : Int) (i : Int) v = some (1, ct_wL (ct_wL h (51 + 2 * t) i (itm (h.1 102 t) v)) (105 + t) i (itm (h.1 102 t) v)) := by
          unfold f_X7_item
          rw [m_isTape, if_pos z, bs, if_neg (by omega), t3, rdN (by omega), bs, wL_1, if_pos hx.1, t5, rdN (by omega), bs, wL_1, wr_id (by omega) (by omega), m_in, if_pos (by omega), bs, if_neg (by omega), t7, rdRN (by omega), bs, bs, (t9 t ht).1, m_asItem hx, bs, wtLN (by rw [(t9 t ht).2]; omega), bs]
        refine SAM.row e1 e2 (hi' := hi) (wi' := wi) (inv.tp1 ht (x := h.1 102 t) (y := h.1 103 t) p1 p2 rfl rfl (fun _ _ => ⟨rfl, rfl⟩) (fun _ _ _ _ => rfl) (fun s hs hst => ⟨?_, ?_⟩) (fun k hk => ?_) p4 p5 p6)
        · rw [wL_c _ _ (by omega), wL_c _ _ (by omega)]
        · rw [wL_c _ _ (by omega), wL_c _ _ (by omega)]
        · rw [wL_c (c := 51 + 2 * t) _ _ (by omega)]
          by_cases w : k = i
          · subst w; rw [wL_s, wL_s]
          · rw [wL_o _ _ w, wL_o _ _ w, wL_c (c := 105 + t) _ _ (by omega)]
            exact p3 k hk
      · refine SAM.same inv (r := -13) ?_ ?_
        · unfold f_X6_item
          rw [x6_isTape, if_pos z, bs, if_neg (by omega), e11, rdRN (by omega), bs, (t2 t ht).1, x4_isEmpty, p1, if_neg y1, bs, if_pos rfl, bs, x4_isPlace, p2, if_neg y2, bs, if_pos rfl]
        · unfold f_X7_item
          rw [m_isTape, if_pos z, bs, if_neg (by omega), t3, rdN (by omega), bs, if_pos (by omega), t5, rdN (by omega), bs, wr_id (by omega) (by omega), m_in, if_neg (by omega), bs, if_pos rfl]
  · refine SAM.same inv (r := -1) ?_ ?_
    · unfold f_X6_item
      rw [x6_isTape, if_neg z, bs, if_pos rfl]
    · unfold f_X7_item
      rw [m_isTape, if_neg z, bs, if_pos rfl]
theorem x4_isStretch {o : Nat} {i n ln : Int} (e : h.1 o 2 = ln) (hl : 0 ≤ ln ∧ ln ≤ 60) : f_X4_isStretch G h o i n = some (if 0 ≤ i ∧ 0 ≤ n ∧ i + n ≤ ln then 1 else 0) := by
  unfold f_X4_isStretch
  rw [e]
  by_cases h1 : i < 0
  · rw [if_pos h1, if_neg (by omega)]
  · rw [if_neg h1]
    by_cases h2 : n < 0
    · rw [if_pos h2, if_neg (by omega)]
    · rw [if_neg h2]
      by_cases h3 : ln < i
      · rw [if_pos h3, if_neg (by omega)]
      · rw [if_neg h3, wr_id (by omega) (by omega)]
        by_cases h4 : ln - i < n
        · rw [if_pos h4, if_neg (by omega)]
        · rw [if_neg h4, if_pos (by omega)]
theorem m_isWithin (gs : GS G) {t : Nat} (ht : t < 6) {i n : Int} (hl : 0 ≤ h.1 103 t ∧ h.1 103 t ≤ 60) (hn : 0 ≤ n ∧ n < 2147483648) : f_X7_isWithin G h 73 (t : Int) i n = some (if 0 ≤ i ∧ 0 ≤ n ∧ i + n ≤ h.1 103 t then 1 else 0) := by
  obtain ⟨t1, t2, t3, t4, t5, t6, t7, t8, t9⟩ := gs.2.2.2.2.2.2.1
  unfold f_X7_isWithin
  by_cases h1 : i < 0
  · rw [if_pos h1, if_neg (by omega)]
  · rw [if_neg h1, t5, rdN (by omega), bs, wr_id (by omega) (by omega)]
    by_cases h4 : h.1 103 t - n < i
    · rw [if_pos h4, if_neg (by omega)]
    · rw [if_neg h4, if_pos (by omega)]
theorem cpL_eq {a b : Nat} {sp dp n : Int} (h1 : 0 ≤ sp ∧ 0 ≤ dp ∧ 0 ≤ n ∧ sp + n ≤ (G.2 a : Int) ∧ dp + n ≤ (G.2 b : Int)) : ct_cpL G h a sp b dp n = some (h.1, fun c j => if c = b then va_cpy (h.2 a) (h.2 b) sp.toNat dp.toNat n.toNat j else h.2 c j) := by
  unfold ct_cpL
  rw [if_pos h1]
theorem s_shift (gs : GS G) (inv : INV G h hi wi B) (a b d e n : Int) (hn : n < 2147483648) : SAM G hi wi (B + 7000) (f_X6_shift G h 0 a b d e n) (fun h1 => f_X7_shift G h1 73 a b d e n) := by
  obtain ⟨t1, t2, t3, t4, t5, t6, t7, t8, t9⟩ := gs.2.2.2.2.2.2.1
  have e11 := gs.1.2.2.2.2.2.2.2.2.2.2.2.1
  by_cases z : (0 ≤ a ∧ a ≤ 5) ∧ (0 ≤ d ∧ d ≤ 5)
  · obtain ⟨t, rfl⟩ := Int.eq_ofNat_of_zero_le z.1.1
    obtain ⟨u, rfl⟩ := Int.eq_ofNat_of_zero_le z.2.1
    have ht : t < 6 := by omega
    have hu : u < 6 := by omega
    obtain ⟨p1, p2, p3, p4, p5, p6⟩ := inv.2.2.2.2.2.2.2.1 t ht
    obtain ⟨q1, q2, q3, q4, q5, q6⟩ := inv.2.2.2.2.2.2.2.1 u hu
    have c0 : f_X6_shift G h 0 (t : Int) b (u : Int) e n = (if h.1 102 t = -1 then some ((-11), h) else if h.1 102 u = -1 then some ((-11), h) else if h.1 102 t = h.1 102 u then (if 0 ≤ b ∧ 0 ≤ n ∧ b + n ≤ h.1 103 t then (if 0 ≤ e ∧ 0 ≤ n ∧ e + n ≤ h.1 103 u then ((ct_cpL G h (51 + 2 * t) b (51 + 2 * u) e n).bind fun h9 => some (n, h9)) else some ((-13), h)) else some ((-13), h)) else some ((-12), h)) := by
      unfold f_X6_shift
      rw [x6_isTape, if_pos z.1, bs, if_neg (by omega), x6_isTape, if_pos z.2, bs, if_neg (by omega), e11, rdRN (by omega), bs, rdRN (by omega), bs, (t2 t ht).1, (t2 u hu).1, x4_isEmpty, p1, bs, x4_isEmpty, q1, bs]
      by_cases y1 : h.1 102 t = -1
      · rw [if_pos y1, if_neg (by omega), if_pos y1]
      · rw [if_neg y1, if_pos rfl, if_neg y1]
        by_cases y2 : h.1 102 u = -1
        · rw [if_pos y2, if_neg (by omega), if_pos y2]
        · rw [if_neg y2, if_pos rfl, if_neg y2]
          by_cases y3 : h.1 102 t = h.1 102 u
          · rw [if_pos y3, if_pos y3, x4_isStretch p2 p5, bs]
            by_cases y4 : 0 ≤ b ∧ 0 ≤ n ∧ b + n ≤ h.1 103 t
            · rw [if_pos y4, if_neg (by omega), if_pos y4, x4_isStretch q2 q5, bs]
              by_cases y5 : 0 ≤ e ∧ 0 ≤ n ∧ e + n ≤ h.1 103 u
              · rw [if_pos y5, if_neg (by omega), if_pos y5, (t2 t ht).2.1, (t2 u hu).2.1]
              · rw [if_neg y5, if_pos rfl, if_neg y5]
            · rw [if_neg y4, if_pos rfl, if_neg y4]
          · rw [if_neg y3, if_neg y3]
    have m0 : ∀ h1 : ct_H, h1.1 = h.1 → f_X7_shift G h1 73 (t : Int) b (u : Int) e n = (if h.1 102 t = -1 then some ((-11), h1) else if h.1 102 u = -1 then some ((-11), h1) else if h.1 102 t = h.1 102 u then (if 0 ≤ b ∧ 0 ≤ n ∧ b + n ≤ h.1 103 t then (if 0 ≤ e ∧ 0 ≤ n ∧ e + n ≤ h.1 103 u then ((ct_cpL G h1 (105 + t) b (105 + u) e n).bind fun h9 => some (n, h9)) else some ((-13), h1)) else some ((-13), h1)) else some ((-12), h1)) := by
      intro h1 e1
      unfold f_X7_shift
      rw [m_isTape, if_pos z.1, bs, if_neg (by omega), m_isTape, if_pos z.2, bs, if_neg (by omega), t3, rdN (by omega), bs, e1]
      by_cases y1 : h.1 102 t = -1
      · rw [if_pos (by omega), if_pos y1]
      · rw [if_neg (by omega), if_neg y1, rdN (by omega), bs, e1]
        by_cases y2 : h.1 102 u = -1
        · rw [if_neg (by omega), if_pos y2]
        · rw [if_pos (by omega), if_neg y2, bs, bs]
          by_cases y3 : h.1 102 t = h.1 102 u
          · rw [if_pos y3, if_pos y3]
            by_cases y6 : n < 0
            · rw [if_pos y6, if_neg (by omega)]
            · rw [if_neg y6, m_isWithin gs ht (by rw [e1]; exact p5) ⟨by omega, hn⟩, bs, e1]
              by_cases y4 : 0 ≤ b ∧ 0 ≤ n ∧ b + n ≤ h.1 103 t
              · rw [if_pos y4, if_neg (by omega), if_pos y4, m_isWithin gs hu (by rw [e1]; exact q5) ⟨by omega, hn⟩, bs, e1]
                by_cases y5 : 0 ≤ e ∧ 0 ≤ n ∧ e + n ≤ h.1 103 u
                · rw [if_pos y5, if_neg (by omega), if_pos y5, t7, rdRN (by omega), bs, rdRN (by omega), bs, (t9 t ht).1, (t9 u hu).1]
                · rw [if_neg y5, if_pos rfl, if_neg y5]
              · rw [if_neg y4, if_pos rfl, if_neg y4]
          · rw [if_neg y3, if_neg y3]
    by_cases y1 : h.1 102 t = -1
    · exact SAM.same inv (r := -11) (by rw [c0, if_pos y1]) ((m0 h rfl).trans (by rw [if_pos y1]))
    by_cases y2 : h.1 102 u = -1
    · exact SAM.same inv (r := -11) (by rw [c0, if_neg y1, if_pos y2]) ((m0 h rfl).trans (by rw [if_neg y1, if_pos y2]))
    by_cases y3 : h.1 102 t = h.1 102 u
    · by_cases y4 : 0 ≤ b ∧ 0 ≤ n ∧ b + n ≤ h.1 103 t
      · by_cases y5 : 0 ≤ e ∧ 0 ≤ n ∧ e + n ≤ h.1 103 u
        · generalize hh1 : ((h.1, fun c j => if c = 51 + 2 * u then va_cpy (h.2 (51 + 2 * t)) (h.2 (51 + 2 * u)) b.toNat e.toNat n.toNat j else h.2 c j) : ct_H) = h1
          have a1 : h1.1 = h.1 := by rw [← hh1]
          have a2 : ∀ j, h1.2 (51 + 2 * u) j = va_cpy (h.2 (51 + 2 * t)) (h.2 (51 + 2 * u)) b.toNat e.toNat n.toNat j := fun j => by rw [← hh1]; exact if_pos rfl
          have a3 : ∀ c, c ≠ 51 + 2 * u → h1.2 c = h.2 c := fun c hc => by rw [← hh1]; funext j; exact if_neg hc
          generalize hh2 : ((h1.1, fun c j => if c = 105 + u then va_cpy (h1.2 (105 + t)) (h1.2 (105 + u)) b.toNat e.toNat n.toNat j else h1.2 c j) : ct_H) = h2
          have b1 : h2.1 = h.1 := by rw [← hh2]; exact a1
          have b2 : ∀ j, h2.2 (105 + u) j = va_cpy (h.2 (105 + t)) (h.2 (105 + u)) b.toNat e.toNat n.toNat j := fun j => by rw [← hh2, ← a3 (105 + t) (by omega), ← a3 (105 + u) (by omega)]; exact if_pos rfl
          have b3 : ∀ c, c ≠ 105 + u → h2.2 c = h1.2 c := fun c hc => by rw [← hh2]; funext j; exact if_neg hc
          refine SAM.row (r := n) (h1 := h1) (h2 := h2) (by rw [c0, if_neg y1, if_neg y2, if_pos y3, if_pos y4, if_pos y5, cpL_eq (by rw [(t2 t ht).2.2, (t2 u hu).2.2]; omega), bs, hh1]) ((m0 h1 a1).trans (by rw [if_neg y1, if_neg y2, if_pos y3, if_pos y4, if_pos y5, cpL_eq (by rw [(t9 t ht).2, (t9 u hu).2]; omega), bs, hh2])) (hi' := hi) (wi' := wi) ?_
          refine inv.tp1 hu (x := h.1 102 u) (y := h.1 103 u) (by rw [b1]; exact q1) (by rw [b1]; exact q2) (by rw [b1]) (by rw [b1]) (fun s _ => by rw [b1]; exact ⟨rfl, rfl⟩) (fun x _ _ _ => by rw [b1]) (fun s hs hst => ⟨by rw [b3 _ (by omega), a3 _ (by omega)], by rw [b3 _ (by omega), a3 _ (by omega)]⟩) (fun k hk => ?_) q4 q5 q6
          rw [b3 _ (by omega), a2, b2]
          unfold va_cpy
          by_cases w : e.toNat ≤ k ∧ k < e.toNat + n.toNat
          · rw [if_pos w, if_pos w]
            exact p3 _ (by omega)
          · rw [if_neg w, if_neg w]
            exact q3 k hk
        · exact SAM.same inv (r := -13) (by rw [c0, if_neg y1, if_neg y2, if_pos y3, if_pos y4, if_neg y5]) ((m0 h rfl).trans (by rw [if_neg y1, if_neg y2, if_pos y3, if_pos y4, if_neg y5]))
      · exact SAM.same inv (r := -13) (by rw [c0, if_neg y1, if_neg y2, if_pos y3, if_neg y4]) ((m0 h rfl).trans (by rw [if_neg y1, if_neg y2, if_pos y3, if_neg y4]))
    · exact SAM.same inv (r := -12) (by rw [c0, if_neg y1, if_neg y2, if_neg y3]) ((m0 h rfl).trans (by rw [if_neg y1, if_neg y2, if_neg y3]))
  · refine SAM.same inv (r := -1) ?_ ?_
    · unfold f_X6_shift
      rw [x6_isTape, bs]
      by_cases w : 0 ≤ a ∧ a ≤ 5
      · rw [if_pos w, if_neg (by omega), x6_isTape, if_neg (by omega), bs, if_pos rfl]
      · rw [if_neg w, if_pos rfl]
    · unfold f_X7_shift
      rw [m_isTape, bs]
      by_cases w : 0 ≤ a ∧ a ≤ 5
      · rw [if_pos w, if_neg (by omega), m_isTape, if_neg (by omega), bs, if_pos rfl]
      · rw [if_neg w, if_pos rfl]
end
