/-! a whole text, on both sides -/
def CS (h : ct_H) (K : Nat) (W : Nat → Nat) (V : Nat → Nat → Int) : Prop := ∀ i, i < K → h.1 47 i = (W i : Int) ∧ ∀ j, j < mny (W i) → h.1 48 (3 * i + j) = V i j
def MS (h : ct_H) (K : Nat) (W : Nat → Nat) (V : Nat → Nat → Int) : Prop := ∀ i, i < K → h.1 76 i = (W i : Int) ∧ ∀ j, j < mny (W i) → h.1 77 (3 * i + j) = V i j
def WVok (K : Nat) (W : Nat → Nat) (V : Nat → Nat → Int) : Prop := ∀ i, i < K → W i < 6 ∧ ∀ j, 0 ≤ V i j ∧ V i j ≤ 99
theorem CS.add {k : Nat} {h h' : ct_H} {q : Nat} {W : Nat → Nat} {V : Nat → Nat → Int} (c : CS h k W V) (r : CR k h h' q) {w : Nat} {v : Nat → Int} (e : h'.1 47 k = (w : Int)) (e2 : ∀ i, i < mny w → h'.1 48 (3 * k + i) = v i) : CS h' (k + 1) (fun i => if i = k then w else W i) (fun i => if i = k then v else V i) := by
  intro i hi
  dsimp only
  by_cases z : i = k
  · rw [if_pos z, if_pos z, z]; exact ⟨e, e2⟩
  · rw [if_neg z, if_neg z]
    have c1 := c i (by omega)
    refine ⟨by rw [r.2.2.2.1 i z]; exact c1.1, fun j hj => ?_⟩
    have := mny_le (W i)
    rw [r.2.2.2.2.1 _ (by omega)]
    exact c1.2 j hj
theorem MS.add {k : Nat} {h h' : ct_H} {q : Nat} {W : Nat → Nat} {V : Nat → Nat → Int} (c : MS h k W V) (r : MR k h h' q) {w : Nat} {v : Nat → Int} (e : h'.1 76 k = (w : Int)) (e2 : ∀ i, i < mny w → h'.1 77 (3 * k + i) = v i) : MS h' (k + 1) (fun i => if i = k then w else W i) (fun i => if i = k then v else V i) := by
  intro i hi
  dsimp only
  by_cases z : i = k
  · rw [if_pos z, if_pos z, z]; exact ⟨e, e2⟩
  · rw [if_neg z, if_neg z]
    have c1 := c i (by omega)
    refine ⟨by rw [r.2.2.2.1 i z]; exact c1.1, fun j hj => ?_⟩
    have := mny_le (W i)
    rw [r.2.2.2.2.1 _ (by omega)]
    exact c1.2 j hj
theorem WVok.add {k : Nat} {W : Nat → Nat} {V : Nat → Nat → Int} (c : WVok k W V) {w : Nat} {v : Nat → Int} (hw : w < 6) (hv : ∀ i, 0 ≤ v i ∧ v i ≤ 99) : WVok (k + 1) (fun i => if i = k then w else W i) (fun i => if i = k then v else V i) := by
  intro i hi
  dsimp only
  by_cases z : i = k
  · rw [if_pos z, if_pos z]; exact ⟨hw, hv⟩
  · rw [if_neg z, if_neg z]; exact c i (by omega)
theorem CS.fr {K : Nat} {h h' : ct_H} {W : Nat → Nat} {V : Nat → Nat → Int} (c : CS h K W V) (e1 : h'.1 47 = h.1 47) (e2 : h'.1 48 = h.1 48) : CS h' K W V := by
  unfold CS
  rw [e1, e2]
  exact c
theorem MS.fr {K : Nat} {h h' : ct_H} {W : Nat → Nat} {V : Nat → Nat → Int} (c : MS h K W V) (e1 : h'.1 76 = h.1 76) (e2 : h'.1 77 = h.1 77) : MS h' K W V := by
  unfold MS
  rw [e1, e2]
  exact c
section
variable {G : ct_G} {n : Nat} {X : Nat → Int}
theorem parseB (tx : TXT G) (hn : n ≤ 100) (hX : ∀ i, i < n → 0 ≤ X i ∧ X i ≤ 127) : ∀ (m k p : Nat) (W : Nat → Nat) (V : Nat → Nat → Int), k + m = 12 → 0 < m → p ≤ n → WVok k W V → ∃ (ok : Int) (q K : Nat) (W' : Nat → Nat) (V' : Nat → Nat → Int), (ok = 0 ∨ ok = 1) ∧ q ≤ n ∧ K ≤ 12 ∧ WVok K W' V' ∧ (∀ h, TC h n X p → h.1 45 4 = (k : Int) → CS h k W V → ∃ h', (∀ f, m < f → l_X5_parse_8 G 45 (fun b22 => if (b22.1 45 5) = (b22.1 45 1) then (some ((-1), b22)) else some ((b22.1 45 5), b22)) f (1, h) = some (if ok = 1 then -1 else (q : Int), h')) ∧ (∀ a, a ≠ 45 → a ≠ 47 → a ≠ 48 → h'.1 a = h.1 a) ∧ (∀ j, j ≠ 4 → j ≠ 5 → h'.1 45 j = h.1 45 j) ∧ h'.2 = h.2 ∧ (ok = 1 → h'.1 45 4 = (K : Int) ∧ CS h' K W' V')) ∧ (∀ h, TM h n X p → h.1 73 9 = (k : Int) → MS h k W V → ∃ h', (∀ f, m < f → ((f_X7_takesClause G h 73).bind fun r3 => if r3.1 = 0 then some (0, r3.2) else l_X7_takesAll_11 G 73 f r3.2) = some (ok, h')) ∧ (∀ a, a ≠ 73 → a ≠ 76 → a ≠ 77 → h'.1 a = h.1 a) ∧ (∀ j, j ≠ 8 → j ≠ 9 → h'.1 73 j = h.1 73 j) ∧ h'.2 = h.2 ∧ (ok = 0 → h'.1 73 8 = (q : Int)) ∧ (ok = 1 → h'.1 73 9 = (K : Int) ∧ MS h' K W' V'))
  | 0, k, p, W, V, e, hm, hp, hwv => by omega
  | m + 1, k, p, W, V, e, hm, hp, hwv => by
    obtain ⟨ok1, q1, w, v, a1, a2, a3, a4, a5, a6⟩ := clauseB (k := k) (X := X) tx hn hX (by omega) hp
    rcases a1 with rfl | rfl
    · refine ⟨0, q1, 0, W, V, Or.inl rfl, a2.2, by omega, fun i hi => by omega, fun h t e4 cs => ?_, fun h t e9 ms => ?_⟩
      · obtain ⟨h', b1, b2, b3⟩ := a5 h t e4
        refine ⟨h', fun f hf => ?_, b1.1, fun j _ j5 => b1.2.1 j j5, b1.2.2.2.2.2, fun q => by omega⟩
        obtain ⟨f, rfl⟩ : ∃ g, f = g + 1 := ⟨f - 1, by omega⟩
        rw [l_X5_parse_8, if_neg (by dsimp only; omega)]
        dsimp only
        rw [e4, if_neg (by omega), b3, bs, if_pos rfl, if_neg (by omega), b1.2.2.1]
      · obtain ⟨h', b1, b2, b3⟩ := a6 h t e9
        refine ⟨h', fun f hf => ?_, b1.1, fun j j8 _ => b1.2.1 j j8, b1.2.2.2.2.2, fun _ => b1.2.2.1, fun q => by omega⟩
        rw [b3, bs, if_pos rfl, if_pos rfl]
    have hw := a3 rfl
    have hwv1 := hwv.add hw a4
    -- what the class has behind the clause
    have cA : ∀ h, TC h n X p → h.1 45 4 = (k : Int) → CS h k W V → ∃ h9, TC h9 n X q1 ∧ h9.1 45 4 = ((k + 1 : Nat) : Int) ∧ CS h9 (k + 1) (fun i => if i = k then w else W i) (fun i => if i = k then v else V i) ∧ (∀ a, a ≠ 45 → a ≠ 47 → a ≠ 48 → h9.1 a = h.1 a) ∧ (∀ j, j ≠ 4 → j ≠ 5 → h9.1 45 j = h.1 45 j) ∧ h9.2 = h.2 ∧ ∀ (k5 : ct_H → Option (Int × ct_H)) f, l_X5_parse_8 G 45 k5 (f + 1) (1, h) = ct_jn (β := Int × ct_H) (fun k11 => ct_jn (β := ct_H) (fun k14 => if 12 ≤ (h9.1 45 4) then (k14 h9) else (f_X5_take G h9 45 59).bind fun r16 => if r16.1 = 0 then (k14 (r16.2)) else k11 (1, r16.2)) (fun b13 => k11 (0, b13))) (fun b10 => l_X5_parse_8 G 45 k5 f (b10.1, b10.2)) := by
      intro h t e4 cs
      obtain ⟨h1, b1, b2, b3⟩ := a5 h t e4
      have t1 := b1.tc t
      have e41 : h1.1 45 4 = (k : Int) := by rw [b1.2.1 4 (by omega)]; exact e4
      have cs1 := cs.add b1 (b2 rfl).1 (b2 rfl).2
      refine ⟨hs h1 45 (up (h1.1 45) 4 ((k + 1 : Nat) : Int)), ⟨by rw [hs_same, up_other _ _ (by omega)]; exact t1.1, by rw [hs_same, up_other _ _ (by omega)]; exact t1.2.1, fun i hi => by rw [hs_other _ _ _ (by omega)]; exact t1.2.2 i hi⟩, by rw [hs_same, up_same], cs1.fr (hs_orow _ _ (by omega)) (hs_orow _ _ (by omega)), fun a x1 x2 x3 => by rw [hs_orow _ _ x1]; exact b1.1 a x1 x2 x3, fun j j4 j5 => by rw [hs_same, up_other _ _ j4]; exact b1.2.1 j j5, b1.2.2.2.2.2, fun k5 f => ?_⟩
      rw [l_X5_parse_8, if_neg (by dsimp only; omega)]
      dsimp only
      rw [e4, if_neg (by omega), b3, bs, if_neg (by omega), lt_eq, ct_wF_hs, e41, wr_id (by omega) (by omega), show (k : Int) + 1 = ((k + 1 : Nat) : Int) by omega]
    have mA : ∀ h, TM h n X p → h.1 73 9 = (k : Int) → MS h k W V → ∃ h9, TM h9 n X q1 ∧ h9.1 73 9 = ((k + 1 : Nat) : Int) ∧ MS h9 (k + 1) (fun i => if i = k then w else W i) (fun i => if i = k then v else V i) ∧ (∀ a, a ≠ 73 → a ≠ 76 → a ≠ 77 → h9.1 a = h.1 a) ∧ (∀ j, j ≠ 8 → j ≠ 9 → h9.1 73 j = h.1 73 j) ∧ h9.2 = h.2 ∧ ∀ F : ct_H → Option (Int × ct_H), ((f_X7_takesClause G h 73).bind fun r3 => if r3.1 = 0 then some (0, r3.2) else F r3.2) = F h9 := by
      intro h t e9 ms
      obtain ⟨h1, b1, b2, b3⟩ := a6 h t e9
      have t1 := b1.tm t
      have ms1 := ms.add b1 (b2 rfl).1 (b2 rfl).2
      refine ⟨hs h1 73 (up (h1.1 73) 9 ((k + 1 : Nat) : Int)), ⟨by rw [hs_same, up_other _ _ (by omega)]; exact t1.1, by rw [hs_same, up_other _ _ (by omega)]; exact t1.2.1, fun i hi => by rw [hs_other _ _ _ (by omega)]; exact t1.2.2 i hi⟩, by rw [hs_same, up_same], ms1.fr (hs_orow _ _ (by omega)) (hs_orow _ _ (by omega)), fun a x1 x2 x3 => by rw [hs_orow _ _ x1]; exact b1.1 a x1 x2 x3, fun j j8 j9 => by rw [hs_same, up_other _ _ j9]; exact b1.2.1 j j8, b1.2.2.2.2.2, fun F => ?_⟩
      rw [b3, bs, if_neg (by omega), if_neg (by omega)]
    -- the end of the text, good or not
    have fin : ¬ (k + 1 < 12 ∧ q1 < n ∧ X q1 = 59) → ∃ (ok : Int) (q K : Nat) (W' : Nat → Nat) (V' : Nat → Nat → Int), (ok = 0 ∨ ok = 1) ∧ q ≤ n ∧ K ≤ 12 ∧ WVok K W' V' ∧ (∀ h, TC h n X p → h.1 45 4 = (k : Int) → CS h k W V → ∃ h', (∀ f, m + 1 < f → l_X5_parse_8 G 45 (fun b22 => if (b22.1 45 5) = (b22.1 45 1) then (some ((-1), b22)) else some ((b22.1 45 5), b22)) f (1, h) = some (if ok = 1 then -1 else (q : Int), h')) ∧ (∀ a, a ≠ 45 → a ≠ 47 → a ≠ 48 → h'.1 a = h.1 a) ∧ (∀ j, j ≠ 4 → j ≠ 5 → h'.1 45 j = h.1 45 j) ∧ h'.2 = h.2 ∧ (ok = 1 → h'.1 45 4 = (K : Int) ∧ CS h' K W' V')) ∧ (∀ h, TM h n X p → h.1 73 9 = (k : Int) → MS h k W V → ∃ h', (∀ f, m + 1 < f → ((f_X7_takesClause G h 73).bind fun r3 => if r3.1 = 0 then some (0, r3.2) else l_X7_takesAll_11 G 73 f r3.2) = some (ok, h')) ∧ (∀ a, a ≠ 73 → a ≠ 76 → a ≠ 77 → h'.1 a = h.1 a) ∧ (∀ j, j ≠ 8 → j ≠ 9 → h'.1 73 j = h.1 73 j) ∧ h'.2 = h.2 ∧ (ok = 0 → h'.1 73 8 = (q : Int)) ∧ (ok = 1 → h'.1 73 9 = (K : Int) ∧ MS h' K W' V')) := by
      intro z
      refine ⟨if q1 = n then 1 else 0, q1, k + 1, _, _, by split <;> omega, a2.2, by omega, hwv1, fun h t e4 cs => ?_, fun h t e9 ms => ?_⟩
      · obtain ⟨h9, c1, c2, c3, c4, c5, c6, c7⟩ := cA h t e4 cs
        refine ⟨h9, fun f hf => ?_, c4, c5, c6, fun _ => ⟨c2, c3⟩⟩
        obtain ⟨f, rfl⟩ : ∃ g, f = g + 1 + 1 := ⟨f - 2, by omega⟩
        have last : ∀ k5 : ct_H → Option (Int × ct_H), l_X5_parse_8 G 45 k5 (f + 1 + 1) (1, h) = k5 h9 := by
          intro k5
          have l0 : l_X5_parse_8 G 45 k5 (f + 1) (0, h9) = k5 h9 := by rw [l_X5_parse_8, if_pos rfl]
          rw [c7, jn_eq, jn_eq]
          by_cases y : k + 1 < 12
          · rw [c2, if_neg (by omega), x5_take tx c1 hn, if_neg (fun u => z ⟨y, u⟩), bs, if_pos rfl]
            exact l0
          · rw [c2, if_pos (by omega)]
            exact l0
        rw [last, c1.2.1, c1.1]
        by_cases y : q1 = n
        · rw [if_pos (by omega), if_pos y, if_pos rfl]
        · rw [if_neg (by omega), if_neg y, if_neg (by omega)]
      · obtain ⟨h9, c1, c2, c3, c4, c5, c6, c7⟩ := mA h t e9 ms
        refine ⟨h9, fun f hf => ?_, c4, c5, c6, fun _ => c1.2.1, fun _ => ⟨c2, c3⟩⟩
        obtain ⟨f, rfl⟩ : ∃ g, f = g + 1 := ⟨f - 1, by omega⟩
        rw [c7, l_X7_takesAll_11, c1.1, c1.2.1]
        by_cases y : q1 = n
        · rw [if_pos (by omega), if_pos y]
        · rw [if_neg (by omega), if_neg y, c2]
          by_cases x : k + 1 < 12
          · rw [if_neg (by omega), m_isAt tx c1 hn, if_neg (fun u => z ⟨x, u⟩), bs, if_pos rfl]
          · rw [if_pos (by omega)]
    by_cases z : k + 1 < 12 ∧ q1 < n ∧ X q1 = 59
    case neg => exact fin z
    obtain ⟨ok, q, K, W', V', d1, d2, d3, d4, d5, d6⟩ := parseB tx hn hX m (k + 1) (q1 + 1) _ _ (by omega) (by omega) (by omega) hwv1
    refine ⟨ok, q, K, W', V', d1, d2, d3, d4, fun h t e4 cs => ?_, fun h t e9 ms => ?_⟩
    · obtain ⟨h9, c1, c2, c3, c4, c5, c6, c7⟩ := cA h t e4 cs
      have r := cadv_CR 99 h9 (q1 + 1)
      obtain ⟨h', b1, b2, b3, b4, b5⟩ := d5 (cadv h9 (q1 + 1)) (r.tc c1) (by rw [r.2.1 4 (by omega)]; exact c2) (c3.fr (cadv_o _ _ (by omega)) (cadv_o _ _ (by omega)))
      refine ⟨h', fun f hf => ?_, fun a x1 x2 x3 => by rw [b2 a x1 x2 x3, cadv_o _ _ x1, c4 a x1 x2 x3], fun j j4 j5 => by rw [b3 j j4 j5, r.2.1 j j5, c5 j j4 j5], by rw [b4, ← c6]; rfl, b5⟩
      obtain ⟨f, rfl⟩ : ∃ g, f = g + 1 := ⟨f - 1, by omega⟩
      rw [c7, jn_eq, jn_eq, c2, if_neg (by omega), x5_take tx c1 hn, if_pos z.2, bs, if_neg (by omega)]
      exact b1 f (by omega)
    · obtain ⟨h9, c1, c2, c3, c4, c5, c6, c7⟩ := mA h t e9 ms
      have r := madv_MR 99 h9 (q1 + 1)
      obtain ⟨h', b1, b2, b3, b4, b5, b6⟩ := d6 (madv h9 (q1 + 1)) (r.tm c1) (by rw [r.2.1 9 (by omega)]; exact c2) (c3.fr (madv_o _ _ (by omega)) (madv_o _ _ (by omega)))
      refine ⟨h', fun f hf => ?_, fun a x1 x2 x3 => by rw [b2 a x1 x2 x3, madv_o _ _ x1, c4 a x1 x2 x3], fun j j8 j9 => by rw [b3 j j8 j9, r.2.1 j j8, c5 j j8 j9], by rw [b4, ← c6]; rfl, b5, b6⟩
      obtain ⟨f, rfl⟩ : ∃ g, f = g + 1 := ⟨f - 1, by omega⟩
      rw [c7, l_X7_takesAll_11, c1.1, if_neg (by rw [c1.2.1]; omega), c2, if_neg (by omega), m_isAt tx c1 hn, if_pos z.2, bs, if_neg (by omega), lt_eq, m_adv c1 (by omega)]
      exact b1 f (by omega)
end
