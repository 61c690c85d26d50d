/-! the image taken and taken back -/
def srw (i : Nat) : Nat := if i = 0 then 86 else if i = 1 then 87 else if i = 2 then 88 else if i = 3 then 89 else if i = 4 then 91 else 92
def srn (i : Nat) : Nat := if i = 0 then 6 else if i = 1 then 6 else 8
theorem i06 {i : Nat} (h : i < 6) : i = 0 ∨ i = 1 ∨ i = 2 ∨ i = 3 ∨ i = 4 ∨ i = 5 := by omega
section
variable {G : ct_G} {h : ct_H} {hi wi : Nat} {B : Int}
theorem x3_copyL {o a b o2 a2 b2 k n : Nat} (r : RWS G o a b k) (r2 : RWS G o2 a2 b2 k) (hn : n ≤ k) (hk : k < 100) (d : (o ≠ a ∧ o ≠ b ∧ a ≠ b) ∧ (a2 ≠ a ∧ a2 ≠ b) ∧ (b2 ≠ a ∧ b2 ≠ b)) : ∀ (m i f : Nat) (h : ct_H), i + m = n → m < f → h.1 o 2 = (n : Int) → ∃ h' : ct_H, l_X3_copyFrom_6 G o o2 f ((i : Int), h) = some h' ∧ (∀ j, i ≤ j → j < n → h'.1 a j = h.1 a2 j ∧ h'.1 b j = h.1 b2 j) ∧ (∀ j, j < i → h'.1 a j = h.1 a j ∧ h'.1 b j = h.1 b j) ∧ (∀ x, x ≠ a → x ≠ b → h'.1 x = h.1 x) ∧ h'.2 = h.2
  | 0, i, f + 1, h, e1, e2, q => by
    refine ⟨h, ?_, fun j h1 h2 => by omega, fun _ _ => ⟨rfl, rfl⟩, fun _ _ _ => rfl, rfl⟩
    rw [l_X3_copyFrom_6, if_pos (by dsimp only; omega)]
  | m + 1, i, f + 1, h, e1, e2, q => by
    obtain ⟨⟨d1, d2, d3⟩, ⟨d4, d5⟩, ⟨d6, d7⟩⟩ := id d
    obtain ⟨h', p1, p2, p3, p4, p5⟩ := x3_copyL r r2 hn hk d m (i + 1) f (hs (hs h a (up (h.1 a) i (h.1 a2 i))) b (up (h.1 b) i (h.1 b2 i))) (by omega) (by omega) (by rw [hs_orow _ _ d2, hs_orow _ _ d1]; exact q)
    have ra : (hs (hs h a (up (h.1 a) i (h.1 a2 i))) b (up (h.1 b) i (h.1 b2 i))).1 a = up (h.1 a) i (h.1 a2 i) := by rw [hs_orow _ _ d3, hs_row]
    have rb : (hs (hs h a (up (h.1 a) i (h.1 a2 i))) b (up (h.1 b) i (h.1 b2 i))).1 b = up (h.1 b) i (h.1 b2 i) := by rw [hs_row]
    have ra2 : (hs (hs h a (up (h.1 a) i (h.1 a2 i))) b (up (h.1 b) i (h.1 b2 i))).1 a2 = h.1 a2 := by rw [hs_orow _ _ d5, hs_orow _ _ d4]
    have rb2 : (hs (hs h a (up (h.1 a) i (h.1 a2 i))) b (up (h.1 b) i (h.1 b2 i))).1 b2 = h.1 b2 := by rw [hs_orow _ _ d7, hs_orow _ _ d6]
    refine ⟨h', ?_, fun j h1 h2 => ?_, fun j hj => ?_, fun x x1 x2 => ?_, ?_⟩
    · rw [l_X3_copyFrom_6, if_neg (by dsimp only; omega)]
      dsimp only
      rw [r2.1, rdN (by rw [r2.2.1]; omega), bs, r.1, wtN (by rw [r.2.1]; omega), bs, r2.2.2.1, rdN (by rw [r2.2.2.2]; omega), bs, hs_orow _ _ d6, r.2.2.1, wtN (by rw [r.2.2.2]; omega), bs, hs_orow _ _ (fun z => d3 z.symm), wr_id (by omega) (by omega)]
      exact p1
    · by_cases z : j = i
      · subst z
        have := p3 j (by omega)
        rw [this.1, this.2, ra, rb, up_same, up_same]
        exact ⟨rfl, rfl⟩
      · have := p2 j (by omega) h2
        rw [this.1, this.2, ra2, rb2]
        exact ⟨rfl, rfl⟩
    · have := p3 j (by omega)
      rw [this.1, this.2, ra, rb, up_other _ _ (by omega), up_other _ _ (by omega)]
      exact ⟨rfl, rfl⟩
    · rw [p4 x x1 x2, hs_orow _ _ x2, hs_orow _ _ x1]
    · rw [p5]; rfl
theorem x3_copy {o a b o2 a2 b2 k n : Nat} (r : RWS G o a b k) (r2 : RWS G o2 a2 b2 k) (hn : n ≤ k) (hk : k < 100) (e : h.1 o2 2 = (n : Int)) (d : (o ≠ a ∧ o ≠ b ∧ a ≠ b) ∧ (a2 ≠ a ∧ a2 ≠ b) ∧ (b2 ≠ a ∧ b2 ≠ b)) (d2 : a2 ≠ o ∧ b2 ≠ o) : ∃ h' : ct_H, f_X3_copyFrom G h o o2 = some h' ∧ (∀ j, j < n → h'.1 a j = h.1 a2 j ∧ h'.1 b j = h.1 b2 j) ∧ h'.1 o 2 = (n : Int) ∧ (∀ x, x ≠ o → x ≠ a → x ≠ b → h'.1 x = h.1 x) ∧ h'.2 = h.2 := by
  obtain ⟨h', p1, p2, p3, p4, p5⟩ := x3_copyL r r2 hn hk d n 0 200 (hs h o (up (h.1 o) 2 (n : Int))) (by omega) (by omega) (by rw [hs_same, up_same])
  refine ⟨h', ?_, fun j hj => ?_, ?_, fun x x1 x2 x3 => ?_, p5⟩
  · unfold f_X3_copyFrom
    rw [lt_eq, ct_wF_hs, e]
    exact p1
  · have := p2 j (by omega) hj
    rw [this.1, this.2, hs_orow _ _ d2.1, hs_orow _ _ d2.2]
    exact ⟨rfl, rfl⟩
  · rw [p4 o d.1.1 d.1.2.1, hs_same, up_same]
  · rw [p4 x x2 x3, hs_orow _ _ x1]
theorem rowsOf_eq (gs : GS G) {i : Nat} (hi : i < 6) : f_X7_rowsOf G h 73 (i : Int) = some (srw i) ∧ G.2 (srw i) = srn i ∧ ct_rdR G 95 (i : Int) = some (96 + i) ∧ G.2 (96 + i) = 8 := by
  obtain ⟨-, ⟨a1, a2, a3, a4⟩, ⟨b1, b2, b3, b4⟩, -, ⟨c1, c2, c3, c4⟩, ⟨d1, d2, d3, d4, d5, d6, d7⟩⟩ := gs.2.2.2.2.2.2.2.1
  have d := d7 i hi
  refine ⟨?_, ?_, ?_, d.2⟩
  · unfold f_X7_rowsOf
    rcases i06 hi with rfl | rfl | rfl | rfl | rfl | rfl
    · rw [if_pos (by omega), a1]; rfl
    · rw [if_neg (by omega), if_pos (by omega), a3]; rfl
    · rw [if_neg (by omega), if_neg (by omega), if_pos (by omega), b1]; rfl
    · rw [if_neg (by omega), if_neg (by omega), if_neg (by omega), if_pos (by omega), b3]; rfl
    · rw [if_neg (by omega), if_neg (by omega), if_neg (by omega), if_neg (by omega), if_pos (by omega), c1]; rfl
    · rw [if_neg (by omega), if_neg (by omega), if_neg (by omega), if_neg (by omega), if_neg (by omega), c3]; rfl
  · rcases i06 hi with rfl | rfl | rfl | rfl | rfl | rfl
    · exact a2
    · exact a4
    · exact b2
    · exact b4
    · exact c2
    · exact c4
  · rw [rdR_eq (by omega) (by rw [d6]; omega), Int.toNat_natCast, d.1]
theorem srn_le {i : Nat} : srn i ≤ 8 := by unfold srn; split; omega; split <;> omega
theorem srw_r {i : Nat} : 86 ≤ srw i ∧ srw i ≤ 92 ∧ srw i ≠ 90 := by unfold srw; repeat (first | split | omega)
theorem srw_inj {i j : Nat} (hi : i < 6) (hj : j < 6) (e : srw i = srw j) : i = j := by
  rcases i06 hi with rfl | rfl | rfl | rfl | rfl | rfl <;> rcases i06 hj with rfl | rfl | rfl | rfl | rfl | rfl <;> first | rfl | (exact absurd e (by decide))
theorem cpy0 {f g : Nat → Int} {n j : Nat} : va_cpy f g (0 : Int).toNat (0 : Int).toNat ((n : Nat) : Int).toNat j = if j < n then f j else g j := by
  unfold va_cpy
  by_cases z : j < n
  · rw [if_pos (show (0 : Int).toNat ≤ j ∧ j < (0 : Int).toNat + ((n : Nat) : Int).toNat by omega), if_pos z]
    show f (0 + (j - 0)) = f j
    rw [show 0 + (j - 0) = j by omega]
  · rw [if_neg (by omega), if_neg z]
theorem m_imgL (gs : GS G) : ∀ (m i f : Nat) (h : ct_H), i + m = 6 → m < f → ∃ h' : ct_H, (∀ k : ct_H → Option (Int × ct_H), l_X7_image_49 G 73 k f ((i : Int), h) = k h') ∧ (∀ t, i ≤ t → t < 6 → ∀ j, j < srn t → h'.1 (96 + t) j = h.1 (srw t) j) ∧ (∀ x, ¬ (96 + i ≤ x ∧ x ≤ 101) → h'.1 x = h.1 x) ∧ h'.2 = h.2
  | 0, i, f + 1, h, e1, e2 => by
    refine ⟨h, fun k => ?_, fun t h1 h2 => by omega, fun _ _ => rfl, rfl⟩
    rw [l_X7_image_49, if_pos (by dsimp only; omega)]
  | m + 1, i, f + 1, h, e1, e2 => by
    have hi6 : i < 6 := by omega
    have sn := srn_le (i := i)
    have sr := srw_r (i := i)
    obtain ⟨h', p1, p2, p3, p4⟩ := m_imgL gs m (i + 1) f (hs h (96 + i) (va_cpy (h.1 (srw i)) (h.1 (96 + i)) (0 : Int).toNat (0 : Int).toNat ((srn i : Nat) : Int).toNat)) (by omega) (by omega)
    refine ⟨h', fun k => ?_, fun t h1 h2 j hj => ?_, fun x hx => ?_, p4⟩
    · obtain ⟨r1, r2, r3, r4⟩ := rowsOf_eq (h := h) gs hi6
      rw [l_X7_image_49, if_neg (by dsimp only; omega)]
      dsimp only
      rw [r1, bs, gs.2.2.2.2.2.2.2.1.2.2.2.2.2.2.2.2.2.1, r3, bs, bs, r2, cpI_eq (by rw [r2, r4]; omega), bs, wr_id (by omega) (by omega)]
      exact p1 k
    · have st := srw_r (i := t)
      by_cases z : t = i
      · subst z
        rw [p3 (96 + t) (by omega), hs_same, cpy0, if_pos hj]
      · rw [p2 t (by omega) h2 j hj, hs_orow _ _ (by omega)]
    · rw [p3 x (by omega), hs_orow _ _ (by omega)]
theorem m_undL (gs : GS G) : ∀ (m i f : Nat) (h : ct_H), i + m = 6 → m < f → ∃ h' : ct_H, (∀ k : ct_H → Option (Int × ct_H), l_X7_undo_51 G 73 k f ((i : Int), h) = k h') ∧ (∀ t, i ≤ t → t < 6 → ∀ j, j < srn t → h'.1 (srw t) j = h.1 (96 + t) j) ∧ (∀ x, (∀ t, i ≤ t → t < 6 → x ≠ srw t) → h'.1 x = h.1 x) ∧ h'.2 = h.2
  | 0, i, f + 1, h, e1, e2 => by
    refine ⟨h, fun k => ?_, fun t h1 h2 => by omega, fun _ _ => rfl, rfl⟩
    rw [l_X7_undo_51, if_pos (by dsimp only; omega)]
  | m + 1, i, f + 1, h, e1, e2 => by
    have hi6 : i < 6 := by omega
    have sn := srn_le (i := i)
    have sr := srw_r (i := i)
    obtain ⟨h', p1, p2, p3, p4⟩ := m_undL gs m (i + 1) f (hs h (srw i) (va_cpy (h.1 (96 + i)) (h.1 (srw i)) (0 : Int).toNat (0 : Int).toNat ((srn i : Nat) : Int).toNat)) (by omega) (by omega)
    refine ⟨h', fun k => ?_, fun t h1 h2 j hj => ?_, fun x hx => ?_, p4⟩
    · obtain ⟨r1, r2, r3, r4⟩ := rowsOf_eq (h := h) gs hi6
      rw [l_X7_undo_51, if_neg (by dsimp only; omega)]
      dsimp only
      rw [gs.2.2.2.2.2.2.2.1.2.2.2.2.2.2.2.2.2.1, r3, bs, r1, bs, bs, r2, cpI_eq (by rw [r2, r4]; omega), bs, wr_id (by omega) (by omega)]
      exact p1 k
    · by_cases z : t = i
      · subst z
        rw [p3 (srw t) (fun t' h3 h4 e => by have := srw_inj h2 h4 e; omega), hs_same, cpy0, if_pos hj]
      · rw [p2 t (by omega) h2 j hj, hs_orow _ _ (by omega)]
    · rw [p3 x (fun t h3 h4 => hx t (by omega) h4), hs_orow _ _ (hx i (by omega) hi6)]
end
