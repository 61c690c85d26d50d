/-! words, clauses, whole texts, on both sides -/
def wln (w : Nat) : Nat := ct_sL.getD w 0
def mny (w : Nat) : Nat := if w = 5 then 0 else if w = 4 then 1 else if 2 ≤ w then 3 else 2
theorem wln_le : ∀ w, w < 7 → wln w ≤ 5 := by decide
theorem wln_pos : ∀ w, w < 6 → 0 < wln w := by decide
theorem mny_le (w : Nat) : mny w ≤ 3 := by unfold mny; repeat' (first | omega | split)
theorem slen_eq {w : Nat} (hw : w < 7) : ct_slen (1000 + w) = some ((wln w : Nat) : Int) := by
  unfold ct_slen
  rw [if_pos (by omega), Nat.add_sub_cancel_left]
  rfl
theorem schr_eq {w c : Nat} (hw : w < 7) (hc : c < wln w) : ct_schr (1000 + w) (c : Int) = some (ct_tb0 w c) := by
  unfold ct_schr
  have : ct_tl0 w = ((wln w : Nat) : Int) := rfl
  rw [Nat.add_sub_cancel_left, this, if_pos (by omega), Int.toNat_natCast]
theorem w06 {w : Nat} (h : w < 6) : w = 0 ∨ w = 1 ∨ w = 2 ∨ w = 3 ∨ w = 4 ∨ w = 5 := by omega
section
variable {G : ct_G} {h : ct_H} {n p k : Nat} {X : Nat → Int}
theorem wordOf_eq {w : Nat} (hw : w < 6) : f_X7_wordOf G h (w : Int) = some (1000 + w) := by
  rcases w06 hw with rfl | rfl | rfl | rfl | rfl | rfl <;> rfl
theorem lettersOf_eq {w : Nat} (hw : w < 6) : f_X5_lettersOf G h (w : Int) = some (1000 + w) := by
  rcases w06 hw with rfl | rfl | rfl | rfl | rfl | rfl <;> rfl
theorem manyOf_eq {w : Nat} (hw : w < 6) : f_X7_manyOf G h (w : Int) = some ((mny w : Nat) : Int) := by
  rcases w06 hw with rfl | rfl | rfl | rfl | rfl | rfl <;> rfl
theorem numbersOf_eq {w : Nat} (hw : w < 6) : f_X5_numbersOf G h (w : Int) = some ((mny w : Nat) : Int) := by
  rcases w06 hw with rfl | rfl | rfl | rfl | rfl | rfl <;> rfl
theorem letB (tx : TXT G) (hn : n ≤ 100) {w : Nat} (hw : w < 6) : ∀ (m c p : Nat), c + m = wln w → p ≤ n → ∃ (ok : Int) (q : Nat), (ok = 0 ∨ ok = 1) ∧ (p ≤ q ∧ q ≤ n) ∧ (∀ h, TC h n X p → ∃ h', CR k h h' q ∧ h'.1 47 = h.1 47 ∧ h'.1 48 = h.1 48 ∧ ∀ (k9 : ct_H → Option (Int × ct_H)) f, m < f → l_X5_readClause_24 G 45 (1000 + w) k9 f ((c : Int), h) = if ok = 0 then some (0, h') else k9 h') ∧ (∀ h, TM h n X p → ∃ h', MR k h h' q ∧ h'.1 76 = h.1 76 ∧ h'.1 77 = h.1 77 ∧ ∀ f, m < f → l_X7_takesWord_27 G 73 (w : Int) f ((c : Int), h) = some (ok, h'))
  | 0, c, p, e, hp => by
    refine ⟨1, p, Or.inr rfl, ⟨Nat.le_refl _, hp⟩, fun h t => ⟨h, CR.refl t, rfl, rfl, fun k9 f hf => ?_⟩, fun h t => ⟨h, MR.refl t, rfl, rfl, fun f hf => ?_⟩⟩
    · obtain ⟨f, rfl⟩ : ∃ g, f = g + 1 := ⟨f - 1, by omega⟩
      rw [l_X5_readClause_24, slen_eq (by omega), bs, if_pos (by dsimp only; omega), if_neg (by omega)]
    · obtain ⟨f, rfl⟩ : ∃ g, f = g + 1 := ⟨f - 1, by omega⟩
      rw [l_X7_takesWord_27, wordOf_eq hw, bs, slen_eq (by omega), bs, if_pos (by dsimp only; omega)]
  | m + 1, c, p, e, hp => by
    have l5 := wln_le w (by omega)
    by_cases z : p < n ∧ X p = ct_tb0 w c
    · obtain ⟨ok, q, a1, a2, a3, a4⟩ := letB tx hn hw m (c + 1) (p + 1) (by omega) (by omega)
      refine ⟨ok, q, a1, ⟨by omega, a2.2⟩, fun h t => ?_, fun h t => ?_⟩
      · have t1 := (cadv_CR k h (p + 1)).tc t
        obtain ⟨h', b1, b2, b3, b4⟩ := a3 (cadv h (p + 1)) t1
        refine ⟨h', (cadv_CR k h (p + 1)).trans b1, by rw [b2, cadv_o _ _ (by omega)], by rw [b3, cadv_o _ _ (by omega)], fun k9 f hf => ?_⟩
        obtain ⟨f, rfl⟩ : ∃ g, f = g + 1 := ⟨f - 1, by omega⟩
        rw [l_X5_readClause_24, slen_eq (by omega), bs, if_neg (by dsimp only; omega)]
        dsimp only
        rw [schr_eq (by omega) (by omega), bs, x5_take tx t hn, if_pos z, bs, if_neg (by omega), wr_id (by omega) (by omega)]
        exact b4 k9 f (by omega)
      · have t1 := (madv_MR k h (p + 1)).tm t
        obtain ⟨h', b1, b2, b3, b4⟩ := a4 (madv h (p + 1)) t1
        refine ⟨h', (madv_MR k h (p + 1)).trans b1, by rw [b2, madv_o _ _ (by omega)], by rw [b3, madv_o _ _ (by omega)], fun f hf => ?_⟩
        obtain ⟨f, rfl⟩ : ∃ g, f = g + 1 := ⟨f - 1, by omega⟩
        rw [l_X7_takesWord_27, wordOf_eq hw, bs, slen_eq (by omega), bs, if_neg (by dsimp only; omega)]
        dsimp only
        rw [bs, schr_eq (by omega) (by omega), bs, m_isAt tx t hn, if_pos z, bs, if_neg (by omega), lt_eq, m_adv t (by omega), wr_id (by omega) (by omega)]
        exact b4 f (by omega)
    · refine ⟨0, p, Or.inl rfl, ⟨Nat.le_refl _, hp⟩, fun h t => ⟨h, CR.refl t, rfl, rfl, fun k9 f hf => ?_⟩, fun h t => ⟨h, MR.refl t, rfl, rfl, fun f hf => ?_⟩⟩
      · obtain ⟨f, rfl⟩ : ∃ g, f = g + 1 := ⟨f - 1, by omega⟩
        rw [l_X5_readClause_24, slen_eq (by omega), bs, if_neg (by dsimp only; omega)]
        dsimp only
        rw [schr_eq (by omega) (by omega), bs, x5_take tx t hn, if_neg z, bs, if_pos rfl, if_pos rfl]
      · obtain ⟨f, rfl⟩ : ∃ g, f = g + 1 := ⟨f - 1, by omega⟩
        rw [l_X7_takesWord_27, wordOf_eq hw, bs, slen_eq (by omega), bs, if_neg (by dsimp only; omega)]
        dsimp only
        rw [bs, schr_eq (by omega) (by omega), bs, m_isAt tx t hn, if_neg z, bs, if_pos rfl]
theorem wordFrom_no {s : Int} (h0 : s ≠ 115) (h1 : s ≠ 112) (h2 : s ≠ 102) (h3 : s ≠ 104) (h4 : s ≠ 114) (h5 : s ≠ 116) : f_X5_wordFrom G h s = some (-1) := by
  unfold f_X5_wordFrom
  rw [if_neg h2, if_neg h3, if_neg h1, if_neg h4, if_neg h0, if_neg h5]
  repeat' (first | rfl | split)
theorem m_wst (tx : TXT G) (t : TM h n X p) (hn : n ≤ 100) {k3 : Int → Option (Int × ct_H)} {w : Nat} (hw : w < 6) (f : Nat) : l_X7_takesWord_2 G 73 h k3 (f + 1) (w : Int) = if p < n ∧ X p = ct_tb0 w 0 then k3 (w : Int) else l_X7_takesWord_2 G 73 h k3 f ((w + 1 : Nat) : Int) := by
  have hp := wln_pos w hw
  have := schr_eq (w := w) (c := 0) (by omega) hp
  rw [l_X7_takesWord_2, if_neg (by omega), wordOf_eq hw, bs, show ((0 : Int)) = ((0 : Nat) : Int) from rfl, this, bs, m_isAt tx t hn, bs]
  by_cases z : p < n ∧ X p = ct_tb0 w 0
  · rw [if_pos z, if_pos z, if_neg (by omega)]
  · rw [if_neg z, if_neg z, if_pos (by rfl), wr_id (by omega) (by omega)]
    rfl
theorem wordB (tx : TXT G) (hn : n ≤ 100) (hp : p ≤ n) : ∃ w : Nat, w ≤ 6 ∧ (∀ h, TC h n X p → ∀ k2 : Int → Option (Int × ct_H), (if (h.1 45 1) ≤ (h.1 45 5) then (k2 0) else (ct_rd G h (G.1 45 0) (h.1 45 5)).bind fun v28 => k2 v28) = k2 (if p < n then X p else 0)) ∧ (w < 6 → ∀ h, f_X5_wordFrom G h (if p < n then X p else 0) = some (w : Int)) ∧ (w = 6 → ∀ h, f_X5_wordFrom G h (if p < n then X p else 0) = some (-1)) ∧ (∀ h, TM h n X p → ∀ k3 : Int → Option (Int × ct_H), l_X7_takesWord_2 G 73 h k3 200 0 = k3 (w : Int)) := by
  have c1 : ∀ h, TC h n X p → ∀ k2 : Int → Option (Int × ct_H), (if (h.1 45 1) ≤ (h.1 45 5) then (k2 0) else (ct_rd G h (G.1 45 0) (h.1 45 5)).bind fun v28 => k2 v28) = k2 (if p < n then X p else 0) := by
    intro h t k2
    rw [t.1, t.2.1]
    by_cases z : p < n
    · rw [if_neg (by omega), tx.1, rdN (by rw [tx.2.1]; omega), bs, t.2.2 p z, if_pos z]
    · rw [if_pos (by omega), if_neg z]
  have T0 : ct_tb0 0 0 = 115 := rfl
  have T1 : ct_tb0 1 0 = 112 := rfl
  have T2 : ct_tb0 2 0 = 102 := rfl
  have T3 : ct_tb0 3 0 = 104 := rfl
  have T4 : ct_tb0 4 0 = 114 := rfl
  have T5 : ct_tb0 5 0 = 116 := rfl
  have S0 : ∀ h, TM h n X p → ∀ k3 : Int → Option (Int × ct_H), l_X7_takesWord_2 G 73 h k3 200 0 = if p < n ∧ X p = 115 then k3 0 else l_X7_takesWord_2 G 73 h k3 199 1 := fun h t k3 => m_wst tx t hn (w := 0) (by omega) 199
  have S1 : ∀ h, TM h n X p → ∀ k3 : Int → Option (Int × ct_H), l_X7_takesWord_2 G 73 h k3 199 1 = if p < n ∧ X p = 112 then k3 1 else l_X7_takesWord_2 G 73 h k3 198 2 := fun h t k3 => m_wst tx t hn (w := 1) (by omega) 198
  have S2 : ∀ h, TM h n X p → ∀ k3 : Int → Option (Int × ct_H), l_X7_takesWord_2 G 73 h k3 198 2 = if p < n ∧ X p = 102 then k3 2 else l_X7_takesWord_2 G 73 h k3 197 3 := fun h t k3 => m_wst tx t hn (w := 2) (by omega) 197
  have S3 : ∀ h, TM h n X p → ∀ k3 : Int → Option (Int × ct_H), l_X7_takesWord_2 G 73 h k3 197 3 = if p < n ∧ X p = 104 then k3 3 else l_X7_takesWord_2 G 73 h k3 196 4 := fun h t k3 => m_wst tx t hn (w := 3) (by omega) 196
  have S4 : ∀ h, TM h n X p → ∀ k3 : Int → Option (Int × ct_H), l_X7_takesWord_2 G 73 h k3 196 4 = if p < n ∧ X p = 114 then k3 4 else l_X7_takesWord_2 G 73 h k3 195 5 := fun h t k3 => m_wst tx t hn (w := 4) (by omega) 195
  have S5 : ∀ h, TM h n X p → ∀ k3 : Int → Option (Int × ct_H), l_X7_takesWord_2 G 73 h k3 195 5 = if p < n ∧ X p = 116 then k3 5 else l_X7_takesWord_2 G 73 h k3 194 6 := fun h t k3 => m_wst tx t hn (w := 5) (by omega) 194
  have S6 : ∀ h, ∀ k3 : Int → Option (Int × ct_H), l_X7_takesWord_2 G 73 h k3 194 6 = k3 6 := fun h k3 => by rw [l_X7_takesWord_2, if_pos (by omega)]
  by_cases z0 : p < n ∧ X p = 115
  · refine ⟨0, by omega, c1, fun _ h => by rw [if_pos z0.1, z0.2]; rfl, fun q => by omega, fun h t k3 => ?_⟩
    rw [S0 h t, if_pos z0]; rfl
  by_cases z1 : p < n ∧ X p = 112
  · refine ⟨1, by omega, c1, fun _ h => by rw [if_pos z1.1, z1.2]; rfl, fun q => by omega, fun h t k3 => ?_⟩
    rw [S0 h t, if_neg z0, S1 h t, if_pos z1]; rfl
  by_cases z2 : p < n ∧ X p = 102
  · refine ⟨2, by omega, c1, fun _ h => by rw [if_pos z2.1, z2.2]; rfl, fun q => by omega, fun h t k3 => ?_⟩
    rw [S0 h t, if_neg z0, S1 h t, if_neg z1, S2 h t, if_pos z2]; rfl
  by_cases z3 : p < n ∧ X p = 104
  · refine ⟨3, by omega, c1, fun _ h => by rw [if_pos z3.1, z3.2]; rfl, fun q => by omega, fun h t k3 => ?_⟩
    rw [S0 h t, if_neg z0, S1 h t, if_neg z1, S2 h t, if_neg z2, S3 h t, if_pos z3]; rfl
  by_cases z4 : p < n ∧ X p = 114
  · refine ⟨4, by omega, c1, fun _ h => by rw [if_pos z4.1, z4.2]; rfl, fun q => by omega, fun h t k3 => ?_⟩
    rw [S0 h t, if_neg z0, S1 h t, if_neg z1, S2 h t, if_neg z2, S3 h t, if_neg z3, S4 h t, if_pos z4]; rfl
  by_cases z5 : p < n ∧ X p = 116
  · refine ⟨5, by omega, c1, fun _ h => by rw [if_pos z5.1, z5.2]; rfl, fun q => by omega, fun h t k3 => ?_⟩
    rw [S0 h t, if_neg z0, S1 h t, if_neg z1, S2 h t, if_neg z2, S3 h t, if_neg z3, S4 h t, if_neg z4, S5 h t, if_pos z5]; rfl
  refine ⟨6, by omega, c1, fun q => by omega, fun _ h => ?_, fun h t k3 => ?_⟩
  · by_cases z : p < n
    · rw [if_pos z]
      exact wordFrom_no (fun e => z0 ⟨z, e⟩) (fun e => z1 ⟨z, e⟩) (fun e => z2 ⟨z, e⟩) (fun e => z3 ⟨z, e⟩) (fun e => z4 ⟨z, e⟩) (fun e => z5 ⟨z, e⟩)
    · rw [if_neg z]
      rfl
  · rw [S0 h t, if_neg z0, S1 h t, if_neg z1, S2 h t, if_neg z2, S3 h t, if_neg z3, S4 h t, if_neg z4, S5 h t, if_neg z5, S6]; rfl
/-- the numbers of a clause -/
theorem numsB (tx : TXT G) (hn : n ≤ 100) (hX : ∀ i, i < n → 0 ≤ X i ∧ X i ≤ 127) (hk : k < 12) {w : Nat} (hw : w < 6) : ∀ (m j p : Nat), j + m = mny w → p ≤ n → ∃ (ok : Int) (q : Nat) (v : Nat → Int), (ok = 0 ∨ ok = 1) ∧ (p ≤ q ∧ q ≤ n) ∧ (∀ i, 0 ≤ v i ∧ v i ≤ 99) ∧ (∀ h, TC h n X p → h.1 45 4 = (k : Int) → ∃ h', CR k h h' q ∧ h'.1 47 = h.1 47 ∧ (∀ i, i < j → h'.1 48 (3 * k + i) = h.1 48 (3 * k + i)) ∧ (ok = 1 → ∀ i, j ≤ i → i < mny w → h'.1 48 (3 * k + i) = v i) ∧ ∀ f, m < f → l_X5_readClause_46 G 45 (w : Int) f ((j : Int), h) = some (ok, h')) ∧ (∀ h, TM h n X p → h.1 73 9 = (k : Int) → h.1 76 k = (w : Int) → ∃ h', MR k h h' q ∧ h'.1 76 = h.1 76 ∧ (∀ i, i < j → h'.1 77 (3 * k + i) = h.1 77 (3 * k + i)) ∧ (ok = 1 → ∀ i, j ≤ i → i < mny w → h'.1 77 (3 * k + i) = v i) ∧ ∀ (k4 : ct_H → Option (Int × ct_H)) f, m < f → l_X7_takesClause_7 G 73 k4 f ((j : Int), h) = if ok = 0 then some (0, h') else k4 h')
  | 0, j, p, e, hp => by
    refine ⟨1, p, fun _ => 0, Or.inr rfl, ⟨Nat.le_refl _, hp⟩, fun _ => ⟨Int.le_refl 0, (by omega : (0 : Int) ≤ 99)⟩, fun h t e4 => ⟨h, CR.refl t, rfl, fun _ _ => rfl, fun _ i h1 h2 => by omega, fun f hf => ?_⟩, fun h t e9 e76 => ⟨h, MR.refl t, rfl, fun _ _ => rfl, fun _ i h1 h2 => by omega, fun k4 f hf => ?_⟩⟩
    · obtain ⟨f, rfl⟩ : ∃ g, f = g + 1 := ⟨f - 1, by omega⟩
      rw [l_X5_readClause_46, numbersOf_eq hw, bs, if_pos (by dsimp only; omega)]
    · obtain ⟨f, rfl⟩ : ∃ g, f = g + 1 := ⟨f - 1, by omega⟩
      rw [l_X7_takesClause_7]
      dsimp only
      rw [e9, tx.2.2.2.2.2.2.2.2.1, rdN (by rw [tx.2.2.2.2.2.2.2.2.2.1]; omega), bs, e76, manyOf_eq hw, bs, if_pos (by omega), if_neg (by omega)]
  | m + 1, j, p, e, hp => by
    have m3 := mny_le w
    obtain ⟨ok, q, v, a1, a2, a3, a4, a5⟩ := numB tx hn hX hp hk (j := j) (by omega)
    rcases a1 with rfl | rfl
    · refine ⟨0, q, fun _ => 0, Or.inl rfl, a2, fun _ => ⟨Int.le_refl 0, (by omega : (0 : Int) ≤ 99)⟩, fun h t e4 => ?_, fun h t e9 e76 => ?_⟩
      · obtain ⟨h', b1, b2, b3, b4, b5⟩ := a4 h t e4
        refine ⟨h', b1, b4, fun i hi => b3 _ (by omega), fun q => by omega, fun f hf => ?_⟩
        obtain ⟨f, rfl⟩ : ∃ g, f = g + 1 := ⟨f - 1, by omega⟩
        rw [l_X5_readClause_46, numbersOf_eq hw, bs, if_neg (by dsimp only; omega)]
        dsimp only
        have := b5 (fun hh => l_X5_readClause_46 G 45 (w : Int) f ((ct_wr ((j : Int) + 1)), hh))
        rw [if_pos rfl] at this
        exact this
      · obtain ⟨h', b1, b2, b3, b4, b5⟩ := a5 h t e9
        refine ⟨h', b1, b4, fun i hi => b3 _ (by omega), fun q => by omega, fun k4 f hf => ?_⟩
        obtain ⟨f, rfl⟩ : ∃ g, f = g + 1 := ⟨f - 1, by omega⟩
        rw [l_X7_takesClause_7]
        dsimp only
        rw [e9, tx.2.2.2.2.2.2.2.2.1, rdN (by rw [tx.2.2.2.2.2.2.2.2.2.1]; omega), bs, e76, manyOf_eq hw, bs, if_neg (by omega), b5, bs, if_pos rfl, if_pos rfl]
    · obtain ⟨ok, q', v', c1, c2, c3, c4, c5⟩ := numsB tx hn hX hk hw m (j + 1) q (by omega) a2.2
      refine ⟨ok, q', fun i => if i = j then v else v' i, c1, ⟨by omega, c2.2⟩, fun i => ?_, fun h t e4 => ?_, fun h t e9 e76 => ?_⟩
      · dsimp only
        split
        · exact a3
        · exact c3 i
      · obtain ⟨h1, b1, b2, b3, b4, b5⟩ := a4 h t e4
        obtain ⟨h', d1, d2, d3, d4, d5⟩ := c4 h1 (b1.tc t) (by rw [b1.2.1 4 (by omega)]; exact e4)
        refine ⟨h', b1.trans d1, by rw [d2, b4], fun i hi => by rw [d3 i (by omega), b3 _ (by omega)], fun hq i i1 i2 => ?_, fun f hf => ?_⟩
        · dsimp only
          by_cases z : i = j
          · rw [if_pos z, z, d3 j (by omega)]; exact b2 rfl
          · rw [if_neg z]; exact d4 hq i (by omega) i2
        · obtain ⟨f, rfl⟩ : ∃ g, f = g + 1 := ⟨f - 1, by omega⟩
          rw [l_X5_readClause_46, numbersOf_eq hw, bs, if_neg (by dsimp only; omega)]
          dsimp only
          have := b5 (fun hh => l_X5_readClause_46 G 45 (w : Int) f ((ct_wr ((j : Int) + 1)), hh))
          rw [if_neg (by omega), wr_id (by omega) (by omega)] at this
          rw [wr_id (a := (j : Int) + 1) (by omega) (by omega)]
          exact this.trans (d5 f (by omega))
      · obtain ⟨h1, b1, b2, b3, b4, b5⟩ := a5 h t e9
        obtain ⟨h', d1, d2, d3, d4, d5⟩ := c5 h1 (b1.tm t) (by rw [b1.2.1 9 (by omega)]; exact e9) (by rw [b4]; exact e76)
        refine ⟨h', b1.trans d1, by rw [d2, b4], fun i hi => by rw [d3 i (by omega), b3 _ (by omega)], fun hq i i1 i2 => ?_, fun k4 f hf => ?_⟩
        · dsimp only
          by_cases z : i = j
          · rw [if_pos z, z, d3 j (by omega)]; exact b2 rfl
          · rw [if_neg z]; exact d4 hq i (by omega) i2
        · obtain ⟨f, rfl⟩ : ∃ g, f = g + 1 := ⟨f - 1, by omega⟩
          rw [l_X7_takesClause_7]
          dsimp only
          rw [e9, tx.2.2.2.2.2.2.2.2.1, rdN (by rw [tx.2.2.2.2.2.2.2.2.2.1]; omega), bs, e76, manyOf_eq hw, bs, if_neg (by omega), b5, bs, if_neg (by omega), wr_id (by omega) (by omega)]
          exact d5 k4 f (by omega)
/-- a clause -/
theorem clauseB (tx : TXT G) (hn : n ≤ 100) (hX : ∀ i, i < n → 0 ≤ X i ∧ X i ≤ 127) (hk : k < 12) (hp : p ≤ n) : ∃ (ok : Int) (q w : Nat) (v : Nat → Int), (ok = 0 ∨ ok = 1) ∧ (p ≤ q ∧ q ≤ n) ∧ (ok = 1 → w < 6) ∧ (∀ i, 0 ≤ v i ∧ v i ≤ 99) ∧ (∀ h, TC h n X p → h.1 45 4 = (k : Int) → ∃ h', CR k h h' q ∧ (ok = 1 → h'.1 47 k = (w : Int) ∧ ∀ i, i < mny w → h'.1 48 (3 * k + i) = v i) ∧ f_X5_readClause G h 45 = some (ok, h')) ∧ (∀ h, TM h n X p → h.1 73 9 = (k : Int) → ∃ h', MR k h h' q ∧ (ok = 1 → h'.1 76 k = (w : Int) ∧ ∀ i, i < mny w → h'.1 77 (3 * k + i) = v i) ∧ f_X7_takesClause G h 73 = some (ok, if ok = 0 then h' else hs h' 73 (up (h'.1 73) 9 ((k + 1 : Nat) : Int)))) := by
  obtain ⟨w, w1, w2, w3, w4, w5⟩ := wordB (X := X) tx hn hp
  have v0 : ∀ i : Nat, (0 : Int) ≤ (fun _ : Nat => (0 : Int)) i ∧ (fun _ : Nat => (0 : Int)) i ≤ 99 := fun _ => ⟨Int.le_refl 0, (by omega : (0 : Int) ≤ 99)⟩
  by_cases z : w = 6
  · refine ⟨0, p, 0, fun _ => 0, Or.inl rfl, ⟨Nat.le_refl _, hp⟩, fun q => by omega, v0, fun h t e4 => ⟨h, CR.refl t, fun q => by omega, ?_⟩, fun h t e9 => ⟨h, MR.refl t, fun q => by omega, ?_⟩⟩
    · unfold f_X5_readClause
      rw [jn_eq]
      refine (w2 h t _).trans ?_
      rw [w4 z, bs]
      rfl
    · unfold f_X7_takesClause f_X7_takesWord
      rw [w5 h t, if_pos (by rw [z]; rfl), bs, if_pos rfl, if_pos rfl]
  have hw : w < 6 := by omega
  obtain ⟨ok1, q1, a1, a2, a3, a4⟩ := letB (k := k) (X := X) tx hn hw (wln w) 0 p (by omega) hp
  have l5 := wln_le w (by omega)
  have l0 := wln_pos w hw
  have m3 := mny_le w
  have hse : ct_semp (1000 + w) = some 0 := by
    unfold ct_semp
    have : ct_tl0 w = ((wln w : Nat) : Int) := rfl
    rw [if_pos (by omega), Nat.add_sub_cancel_left, this, if_neg (by omega)]
  have cstart : ∀ h, TC h n X p → ∀ h1, (∀ (k9 : ct_H → Option (Int × ct_H)) f, wln w < f → l_X5_readClause_24 G 45 (1000 + w) k9 f (((0 : Nat) : Int), h) = if ok1 = 0 then some (0, h1) else k9 h1) → f_X5_readClause G h 45 = if ok1 = 0 then some (0, h1) else ((ct_wt G h1 (G.1 45 2) (h1.1 45 4) (w : Int)).bind fun h18 => l_X5_readClause_46 G 45 (w : Int) 200 (0, h18)) := by
    intro h t h1 b
    unfold f_X5_readClause
    rw [jn_eq]
    refine (w2 h t _).trans ?_
    rw [w3 hw, bs, lettersOf_eq hw, bs, hse, bs, if_pos rfl]
    exact b _ 200 (by omega)
  rcases a1 with rfl | rfl
  · refine ⟨0, q1, 0, fun _ => 0, Or.inl rfl, a2, fun q => by omega, v0, fun h t e4 => ?_, fun h t e9 => ?_⟩
    · obtain ⟨h1, b1, b2, b3, b4⟩ := a3 h t
      refine ⟨h1, b1, fun q => by omega, ?_⟩
      rw [cstart h t h1 b4, if_pos rfl]
    · have tW : MR k h (hs h 76 (up (h.1 76) k (w : Int))) p := ⟨fun a _ a2 _ => hs_orow _ _ a2, fun j _ => by rw [hs_other _ _ _ (by omega)], by rw [hs_other _ _ _ (by omega)]; exact t.2.1, fun i hi => by rw [hs_same, up_other _ _ hi], fun i _ => by rw [hs_other _ _ _ (by omega)], rfl⟩
      obtain ⟨h1, b1, b2, b3, b4⟩ := a4 _ (tW.tm t)
      refine ⟨h1, tW.trans b1, fun q => by omega, ?_⟩
      unfold f_X7_takesClause f_X7_takesWord
      rw [w5 h t, if_neg (by omega), tx.2.2.2.2.2.2.2.2.1, e9, wtN (by rw [tx.2.2.2.2.2.2.2.2.2.1]; omega), bs, show ((0 : Int)) = ((0 : Nat) : Int) from rfl, b4 200 (by omega), bs, if_pos (by rfl)]
      rfl
  obtain ⟨ok, q, v, c1, c2, c3, c4, c5⟩ := numsB (k := k) (X := X) tx hn hX hk hw (mny w) 0 q1 (by omega) a2.2
  refine ⟨ok, q, w, v, c1, ⟨by omega, c2.2⟩, fun _ => hw, c3, fun h t e4 => ?_, fun h t e9 => ?_⟩
  · obtain ⟨h1, b1, b2, b3, b4⟩ := a3 h t
    have t1 := b1.tc t
    have e41 : h1.1 45 4 = (k : Int) := by rw [b1.2.1 4 (by omega)]; exact e4
    have tW : CR k h1 (hs h1 47 (up (h1.1 47) k (w : Int))) q1 := ⟨fun a _ a2 _ => hs_orow _ _ a2, fun j _ => by rw [hs_other _ _ _ (by omega)], by rw [hs_other _ _ _ (by omega)]; exact t1.2.1, fun i hi => by rw [hs_same, up_other _ _ hi], fun i _ => by rw [hs_other _ _ _ (by omega)], rfl⟩
    obtain ⟨h', d1, d2, d3, d4, d5⟩ := c4 _ (tW.tc t1) (by rw [hs_other _ _ _ (by omega)]; exact e41)
    refine ⟨h', (b1.trans tW).trans d1, fun hq => ⟨by rw [d2, hs_same, up_same], fun i hi => d4 hq i (by omega) hi⟩, ?_⟩
    rw [cstart h t h1 b4, if_neg (by omega), tx.2.2.1, e41, wtN (by rw [tx.2.2.2.1]; omega), bs]
    exact d5 200 (by omega)
  · have tW : MR k h (hs h 76 (up (h.1 76) k (w : Int))) p := ⟨fun a _ a2 _ => hs_orow _ _ a2, fun j _ => by rw [hs_other _ _ _ (by omega)], by rw [hs_other _ _ _ (by omega)]; exact t.2.1, fun i hi => by rw [hs_same, up_other _ _ hi], fun i _ => by rw [hs_other _ _ _ (by omega)], rfl⟩
    obtain ⟨h1, b1, b2, b3, b4⟩ := a4 _ (tW.tm t)
    have e91 : h1.1 73 9 = (k : Int) := by rw [b1.2.1 9 (by omega), tW.2.1 9 (by omega)]; exact e9
    obtain ⟨h', d1, d2, d3, d4, d5⟩ := c5 h1 (b1.tm (tW.tm t)) e91 (by rw [b2, hs_same, up_same])
    refine ⟨h', (tW.trans b1).trans d1, fun hq => ⟨by rw [d2, b2, hs_same, up_same], fun i hi => d4 hq i (by omega) hi⟩, ?_⟩
    unfold f_X7_takesClause f_X7_takesWord
    rw [w5 h t, if_neg (by omega), tx.2.2.2.2.2.2.2.2.1, e9, wtN (by rw [tx.2.2.2.2.2.2.2.2.2.1]; omega), bs, show ((0 : Int)) = ((0 : Nat) : Int) from rfl, b4 200 (by omega), bs, if_neg (by omega)]
    refine (d5 _ 200 (by omega)).trans ?_
    rcases c1 with rfl | rfl
    · rw [if_pos rfl, if_pos (by rfl)]
    · rw [if_neg (by omega), if_neg (by omega), lt_eq, ct_wF_hs, d1.2.1 9 (by omega), e91, wr_id (by omega) (by omega)]
      rfl
end
