/-! what is asked of lines: the class -/
theorem lg0 {a : Nat} (ha : a < 2 ^ 63) : (lg_cmp (lN a) (Int64.ofNat 1)).toInt = 0 ↔ a = 1 := by
  show (lg_cmp (lN a) (lN 1)).toInt = 0 ↔ a = 1
  unfold lg_cmp
  by_cases z : a = 1
  · subst z
    simp
  · have e : ¬ lN a = lN 1 := fun w => z ((pk_lEQ ha (by omega)).mp w)
    split
    · constructor
      · intro w; exact absurd w (by decide)
      · intro w; exact absurd w z
    · constructor
      · intro w; exact absurd w (by decide)
      · intro w; exact absurd w z
theorem shr_1 {n v : Nat} (h : n < 2 ^ 63) (hv : v < 63) : (lg_cmp ((lN n >>> ((Int32.ofInt (v : Int)).toInt64 &&& 63)) &&& (Int64.ofNat 1)) (Int64.ofNat 1)).toInt = 0 ↔ bt n v = 1 := by
  have h2 : n / 2 ^ v ≤ n := Nat.div_le_self _ _
  have e : (lN n >>> ((Int32.ofInt (v : Int)).toInt64 &&& 63)) &&& (Int64.ofNat 1) = lN (n / 2 ^ v % 2) := by
    rw [lN_shr h hv]
    show lN _ &&& lN 1 = _
    rw [lN_and (by omega) (by omega), Nat.and_one_is_mod]
  rw [e, lg0 (by omega)]
  rfl
theorem clr_bt {n l : Nat} (hn : n < 2 ^ 40) (hl : l < 63) : ∃ m, m < 2 ^ 40 ∧ lN n &&& (((Int64.ofNat 1) <<< ((Int32.ofInt (l : Int)).toInt64 &&& 63)) ^^^ (-1 : Int64)) = lN m ∧ ∀ j, bt m j = if j = l then 0 else bt n j := by
  have e1 : (-1 : Int64) = lN (2 ^ 64 - 1) := by decide
  have p1 : 2 ^ l < 2 ^ 64 := Nat.pow_lt_pow_right (by omega) (by omega)
  have p2 : 2 ^ l ^^^ (2 ^ 64 - 1) < 2 ^ 64 := Nat.xor_lt_two_pow p1 (by decide)
  refine ⟨n &&& (2 ^ l ^^^ (2 ^ 64 - 1)), ?_, ?_, ?_⟩
  · exact Nat.lt_of_le_of_lt Nat.and_le_left (by omega)
  · rw [one_shl l hl, e1, lN_xor p1 (by decide), lN_and (by omega) p2]
  · intro j
    rw [bt_tb, bt_tb, Nat.testBit_and, Nat.testBit_xor, Nat.testBit_two_pow, Nat.testBit_two_pow_sub_one]
    by_cases z : j = l
    · subst z
      have : j < 64 := by omega
      simp [this]
    · rw [if_neg z]
      have w : ¬ l = j := fun w => z w.symm
      by_cases y : j < 64
      · simp [w, y]
      · have : n.testBit j = false := Nat.testBit_lt_two_pow (Nat.lt_of_lt_of_le hn (Nat.pow_le_pow_right (by omega) (by omega)))
        simp [this]
section
variable {G : ct_G} {h : ct_H} {o og c cL cE cB cC hi wi : Nat} {S : LSt}
theorem x2_holdL (lo : LO G o og c cL cE cB cC) {v : Nat} (hv : v ≤ 81) : ∀ (k i n x : Nat), i + k = v → k < n → (∀ p, i ≤ p → p < i + k → h.1 cL (2 * p) < 40) → x < 2 ^ 40 → l_X2_holdersOf_18 G o h (v : Int) n (lN x, (i : Int)) = some (lN (hxr (h.1 cL) k i x))
  | 0, i, n + 1, x, h1, h2, h3, h4 => by
    rw [l_X2_holdersOf_18, if_pos (by dsimp only; omega)]
    rfl
  | k + 1, i, n + 1, x, h1, h2, h3, h4 => by
    have b := h3 i (by omega) (by omega)
    rw [l_X2_holdersOf_18, if_neg (by dsimp only; omega)]
    dsimp only
    rw [lo.2.1, wr_id (a := 2 * (i : Int)) (by omega) (by omega), show 2 * (i : Int) = ((2 * i : Nat) : Int) by omega, rdN (by rw [lo.2.2.1]; omega), bs, jn_eq, wr_id (by omega) (by omega), hxr]
    have ih := fun y hy => x2_holdL lo hv k (i + 1) n y (by omega) (by omega) (fun p p1 p2 => h3 p (by omega) (by omega)) hy
    rw [show ((i + 1 : Nat) : Int) = (i : Int) + 1 by omega] at ih
    by_cases z : h.1 cL (2 * i) < 0
    · rw [if_pos z, if_pos z]
      exact ih x h4
    · rw [if_neg z, if_neg z, lt_eq]
      obtain ⟨w, hw⟩ := Int.eq_ofNat_of_zero_le (show 0 ≤ h.1 cL (2 * i) by omega)
      rw [hw] at b ⊢
      have p1 : 2 ^ w < 2 ^ 40 := Nat.pow_lt_pow_right (by omega) (by omega)
      rw [one_shl w (by omega), lN_xor (by omega) (by omega), Int.toNat_natCast]
      exact ih _ (Nat.xor_lt_two_pow h4 p1)
theorem x2_holdersOf (lo : LO G o og c cL cE cB cC) (g : GR G h og c hi wi) (sf : SF S) (sg : SG S hi wi) (rr : RR S (h.1 cL) (h.1 cE) (h.1 cB) (h.1 o 5)) {q : Nat} (hq : q < (hi + 2) * (wi + 2)) : ∃ n, n < 2 ^ 40 ∧ f_X2_holdersOf G h o (q : Int) = some (lN n) ∧ ∀ j, ((bt n j : Nat) : Int) = if j < S.2.2.2.1 then hld S (wi + 2) j q else 0 := by
  have g8 := g.2.2.2.2.2.2.2.1
  have g9 := g.2.2.2.2.2.2.2.2
  have hN := N81 g8 g9
  have s1 := sf.1
  have ql : q < (wi + 2) * (q / (wi + 2) + 1) := Nat.lt_mul_div_succ q (by omega)
  have qr : q / (wi + 2) ≤ hi + 1 := (dm_lt (p := q) g8 g9).1.mpr hq
  have qe : (wi + 2) * (q / (wi + 2) + 1) ≤ 81 := mul_b (by omega) (by omega)
  have hlf : ∀ p, p < 81 → h.1 cL (2 * p) < 40 ∧ -5 ≤ h.1 cL (2 * p) := by
    intro p hp
    have := sg (2 * p) (by omega)
    rw [rr.1 (2 * p) (by omega)] at this
    omega
  have cr := fun j (hj : j < S.2.2.2.1) => crs_row g8 g9 sf sg hj hq
  refine ⟨hxr (h.1 cL) ((wi + 2) * (q / (wi + 2) + 1) - 1 - q) q 0, hxr_lt _ _ _ (fun p p1 p2 => (hlf p (by omega)).1) (by omega), ?_, ?_⟩
  · unfold f_X2_holdersOf
    rw [lt_eq, lo.1, g.2.2.2.2.2.1, dv_eq (by omega) (by omega), bs, lt_eq]
    rw [show (q : Int) / ((wi + 2 : Nat) : Int) = ((q / (wi + 2) : Nat) : Int) by rw [Int.natCast_ediv]]
    generalize q / (wi + 2) = x at ql qr qe ⊢
    rw [wr_id (a := (x : Int) + 1) (by omega) (by omega), show ((wi + 2 : Nat) : Int) * ((x : Int) + 1) = (((wi + 2) * (x + 1) : Nat) : Int) by rw [Int.natCast_mul]; rfl]
    generalize (wi + 2) * (x + 1) = E at ql qe ⊢
    rw [wr_id (a := (E : Int)) (by omega) (by omega), wr_id (by omega) (by omega), show (E : Int) - 1 = ((E - 1 : Nat) : Int) by omega]
    exact x2_holdL lo (by omega) (E - 1 - q) q 200 0 (by omega) (by omega) (fun p p1 p2 => (hlf p (by omega)).1) (by omega)
  · intro j
    rw [hxr_bt]
    have b0 : bt 0 j = 0 := by simp [bt]
    rw [b0, sm_congr (g := fun p => if S.1 (2 * p) = (j : Int) then 1 else 0) (fun p p1 p2 => by rw [rr.1 (2 * p) (by omega)])]
    by_cases z : j < S.2.2.2.1
    · rw [if_pos z, ← cr j z]
      unfold hld
      generalize crs S (wi + 2) j q = y
      omega
    · rw [if_neg z, sm_zero]
      · rfl
      · intro p p1 p2
        rw [if_neg]
        intro w
        have := sg (2 * p) (by omega)
        omega
theorem x2_isHeld (lo : LO G o og c cL cE cB cC) (g : GR G h og c hi wi) (sf : SF S) (sg : SG S hi wi) (rr : RR S (h.1 cL) (h.1 cE) (h.1 cB) (h.1 o 5)) {l q : Nat} (hl : l < S.2.2.2.1) (hq : q < (hi + 2) * (wi + 2)) : f_X2_isHeld G h o (l : Int) (q : Int) = some (hld S (wi + 2) l q) := by
  have s1 := sf.1
  obtain ⟨n, n1, n2, n3⟩ := x2_holdersOf lo g sf sg rr hq
  have n4 := n3 l
  rw [if_pos hl] at n4
  unfold f_X2_isHeld
  rw [n2, bs]
  have e := shr_1 (n := n) (v := l) (by omega) (by omega)
  have := bt01 n l
  by_cases z : bt n l = 1
  · rw [if_pos (e.mpr z), ← n4, z]; rfl
  · rw [if_neg (fun w => z (e.mp w)), ← n4, this.resolve_right z]; rfl
theorem x2_begins (lo : LO G o og c cL cE cB cC) (sf : SF S) (rr : RR S (h.1 cL) (h.1 cE) (h.1 cB) (h.1 o 5)) {l : Nat} (hl : l < S.2.2.2.1) : ct_rd G h (G.1 o 3) (l : Int) = some ((bN S l : Nat) : Int) ∧ ct_rd G h (G.1 o 3) ((l + 1 : Nat) : Int) = some ((bN S l + cN S l : Nat) : Int) ∧ ∀ i, i < cN S l → ct_rd G h (G.1 o 2) ((bN S l + i : Nat) : Int) = some ((eN S l i : Nat) : Int) := by
  have f := sf.2.2 l hl
  have s1 := sf.1
  have s2 := sf.2.1
  refine ⟨?_, ?_, ?_⟩
  · rw [lo.2.2.2.2.2.1, rdN (by rw [lo.2.2.2.2.2.2.1]; omega), ← rr.2.2.1 l (by omega), f.1]
  · rw [lo.2.2.2.2.2.1, rdN (by rw [lo.2.2.2.2.2.2.1]; omega), ← rr.2.2.1 (l + 1) (by omega), f.2.1]
  · intro i hi
    rw [lo.2.2.2.1, rdN (by rw [lo.2.2.2.2.1]; omega), ← rr.2.1 _ (by omega), (f.2.2.2.2.1 i hi).1]
theorem x2_leastEdge (lo : LO G o og c cL cE cB cC) (sf : SF S) (rr : RR S (h.1 cL) (h.1 cE) (h.1 cB) (h.1 o 5)) {l : Nat} (hl : l < S.2.2.2.1) : f_X2_leastEdge G h o (l : Int) = some ((eN S l 0 : Nat) : Int) := by
  have f := sf.2.2 l hl
  have b := x2_begins lo sf rr hl
  have b0 := b.2.2 0 (by omega)
  rw [Nat.add_zero] at b0
  unfold f_X2_leastEdge
  rw [b.1, bs, b0, bs]
theorem x2_lengthOf (lo : LO G o og c cL cE cB cC) (sf : SF S) (rr : RR S (h.1 cL) (h.1 cE) (h.1 cB) (h.1 o 5)) {l : Nat} (hl : l < S.2.2.2.1) : f_X2_lengthOf G h o (l : Int) = some ((cN S l : Nat) : Int) := by
  have f := sf.2.2 l hl
  have s1 := sf.1
  have s2 := sf.2.1
  have b := x2_begins lo sf rr hl
  unfold f_X2_lengthOf
  rw [wr_id (a := (l : Int) + 1) (by omega) (by omega), show (l : Int) + 1 = ((l + 1 : Nat) : Int) by omega, b.2.1, bs, b.1, bs, wr_id (by omega) (by omega)]
  congr 1
  omega
theorem x2_edgeOf (lo : LO G o og c cL cE cB cC) (sf : SF S) (rr : RR S (h.1 cL) (h.1 cE) (h.1 cB) (h.1 o 5)) {l i : Nat} (hl : l < S.2.2.2.1) (hi : i < cN S l) : f_X2_edgeOf G h o (l : Int) (i : Int) = some ((eN S l i : Nat) : Int) := by
  have f := sf.2.2 l hl
  have s2 := sf.2.1
  have b := x2_begins lo sf rr hl
  unfold f_X2_edgeOf
  rw [b.1, bs, wr_id (by omega) (by omega), show ((bN S l : Nat) : Int) + (i : Int) = ((bN S l + i : Nat) : Int) by omega, b.2.2 i hi, bs]
theorem x2_leastPlace (lo : LO G o og c cL cE cB cC) (sf : SF S) (rr : RR S (h.1 cL) (h.1 cE) (h.1 cB) (h.1 o 5)) {l : Nat} (hl : l < S.2.2.2.1) : f_X2_leastPlace G h o (l : Int) = some ((eN S l 0 / 2 : Nat) : Int) := by
  unfold f_X2_leastPlace
  rw [x2_leastEdge lo sf rr hl, bs, dv_eq (by omega) (by omega), bs, show ((eN S l 0 : Nat) : Int) / 2 = ((eN S l 0 / 2 : Nat) : Int) by omega]
theorem x2_lineHold (lo : LO G o og c cL cE cB cC) (g : GR G h og c hi wi) (sf : SF S) (sg : SG S hi wi) (rr : RR S (h.1 cL) (h.1 cE) (h.1 cB) (h.1 o 5)) {k : Nat} (hk : k < S.2.2.2.1) : ∃ m, m < 2 ^ 40 ∧ f_X2_holdersOfLine G h o (k : Int) = some (lN m) ∧ ∀ j, ((bt m j : Nat) : Int) = if j < S.2.2.2.1 then hlL S (wi + 2) j k else 0 := by
  have f := sf.2.2 k hk
  have s1 := sf.1
  have e1 := f.2.2.2.2.1 0 (by omega)
  have g8 := g.2.2.2.2.2.2.2.1
  have g9 := g.2.2.2.2.2.2.2.2
  have inn : inner hi wi (eN S k 0) := by
    rcases sg _ e1.2.1 with y | y
    · rw [e1.2.2] at y; omega
    · exact y.1
  have il := inner_lt g8 g9 inn
  obtain ⟨n, n1, n2, n3⟩ := x2_holdersOf lo g sf sg rr (q := eN S k 0 / 2) (by omega)
  obtain ⟨m, m1, m2, m3⟩ := clr_bt (l := k) n1 (by omega)
  refine ⟨m, m1, ?_, ?_⟩
  · unfold f_X2_holdersOfLine
    rw [x2_leastPlace lo sf rr hk, bs, n2, bs, m2]
  · intro j
    rw [m3 j]
    unfold hlL
    by_cases z : j = k
    · rw [if_pos z, if_pos (by omega), if_pos z]; rfl
    · rw [if_neg z, if_neg z]
      exact n3 j
theorem x2_depthOf (lo : LO G o og c cL cE cB cC) (g : GR G h og c hi wi) (sf : SF S) (sg : SG S hi wi) (rr : RR S (h.1 cL) (h.1 cE) (h.1 cB) (h.1 o 5)) {k : Nat} (hk : k < S.2.2.2.1) : f_X2_depthOf G h o (k : Int) = some (dep S (wi + 2) k) := by
  have s1 := sf.1
  obtain ⟨m, m1, m2, m3⟩ := x2_lineHold lo g sf sg rr hk
  unfold f_X2_depthOf dep
  rw [m2, bs, bitCount_sum (by omega), bs, show (64 : Nat) = S.2.2.2.1 + (64 - S.2.2.2.1) by omega, sm_cut, sm_congr (f := fun k => ((m / 2 ^ k % 2 : Nat) : Int)) (i := 0) (g := fun l => hlL S (wi + 2) l k) (fun j j1 j2 => by have := m3 j; rw [if_pos (by omega)] at this; exact this), sm_zero (f := fun k => ((m / 2 ^ k % 2 : Nat) : Int)) (fun j j1 j2 => by have := m3 j; rw [if_neg (by omega)] at this; exact this), Int.add_zero]
theorem x2_isOuter (lo : LO G o og c cL cE cB cC) (g : GR G h og c hi wi) (sf : SF S) (sg : SG S hi wi) (rr : RR S (h.1 cL) (h.1 cE) (h.1 cB) (h.1 o 5)) {k : Nat} (hk : k < S.2.2.2.1) : f_X2_isOuter G h o (k : Int) = some (if dep S (wi + 2) k % 2 = 0 then 1 else 0) := by
  unfold f_X2_isOuter
  rw [x2_depthOf lo g sf sg rr hk, bs, md_eq (dep_b sf).1 (by omega), bs]
  split <;> rfl
theorem x2_parentL (lo : LO G o og c cL cE cB cC) (g : GR G h og c hi wi) (sf : SF S) (sg : SG S hi wi) (rr : RR S (h.1 cL) (h.1 cE) (h.1 cB) (h.1 o 5)) {k m : Nat} (hm : m < 2 ^ 63) (m3 : ∀ j, ((bt m j : Nat) : Int) = if j < S.2.2.2.1 then hlL S (wi + 2) j k else 0) : ∀ (t i n : Nat) (a : Int × Int), i + t = S.2.2.2.1 → t < n → l_X2_parentOf_10 G o h (lN m) n (a.1, a.2, (i : Int)) = some (prn S (wi + 2) k t i a).1
  | 0, i, n + 1, a, h1, h2 => by
    rw [l_X2_parentOf_10, rr.2.2.2, if_pos (by dsimp only; omega)]
    rfl
  | t + 1, i, n + 1, a, h1, h2 => by
    have s1 := sf.1
    have hb := m3 i
    rw [if_pos (by omega)] at hb
    have := hlL01 S (wi + 2) i k
    rw [l_X2_parentOf_10, rr.2.2.2, if_neg (by dsimp only; omega)]
    dsimp only
    rw [jn_eq, wr_id (a := (i : Int) + 1) (by omega) (by omega), prn]
    have ih := fun a' => x2_parentL lo g sf sg rr hm m3 t (i + 1) n a' (by omega) (by omega)
    rw [show ((i + 1 : Nat) : Int) = (i : Int) + 1 by omega] at ih
    have sh := shr_1 (n := m) (v := i) hm (by omega)
    rcases this with e | e
    · rw [if_neg (fun w => by have := sh.mp w; omega), e, if_neg (by omega)]
      exact ih a
    · rw [if_pos (sh.mpr (by omega)), e, x2_depthOf lo g sf sg rr (by omega), bs]
      by_cases y : a.2 < dep S (wi + 2) i
      · rw [if_neg (by omega), bs, if_pos ⟨rfl, y⟩]
        exact ih ((i : Int), dep S (wi + 2) i)
      · rw [if_pos (by omega), if_neg (fun w => y w.2)]
        exact ih a
theorem x2_parentOf (lo : LO G o og c cL cE cB cC) (g : GR G h og c hi wi) (sf : SF S) (sg : SG S hi wi) (rr : RR S (h.1 cL) (h.1 cE) (h.1 cB) (h.1 o 5)) {k : Nat} (hk : k < S.2.2.2.1) : f_X2_parentOf G h o (k : Int) = some (prn S (wi + 2) k S.2.2.2.1 0 (-5, -1)).1 := by
  have s1 := sf.1
  obtain ⟨m, m1, m2, m3⟩ := x2_lineHold lo g sf sg rr hk
  unfold f_X2_parentOf
  rw [m2, bs]
  exact x2_parentL lo g sf sg rr (by omega) m3 S.2.2.2.1 0 200 (-5, -1) (by omega) (by omega)
theorem x2_acrossOf (lo : LO G o og c cL cE cB cC) (g : GR G h og c hi wi) {e : Nat} (he : e < 162) : f_X2_acrossOf G h o (e : Int) = some (axN (wi + 2) e) := by
  have g9 := g.2.2.2.2.2.2.2.2
  unfold f_X2_acrossOf axN
  rw [dv_eq (by omega) (by omega), bs, lo.1, g.2.2.2.2.2.1, md_eq (by omega) (by omega), bs, md_eq (by omega) (by omega), bs]
  rw [show (e : Int) / 2 = ((e / 2 : Nat) : Int) by omega, show ((e / 2 : Nat) : Int) % ((wi + 2 : Nat) : Int) = ((e / 2 % (wi + 2) : Nat) : Int) by rw [Int.natCast_emod]]
  have := Nat.mod_lt (e / 2) (show 0 < wi + 2 by omega)
  generalize e / 2 % (wi + 2) = x at this ⊢
  by_cases z : e % 2 = 0
  · rw [if_pos (by omega), if_pos z, wr_id (a := (x : Int) - 1) (by omega) (by omega), wr_id (a := 2 * ((x : Int) - 1)) (by omega) (by omega), wr_id (by omega) (by omega)]
  · rw [if_neg (by omega), if_neg z, wr_id (a := (x : Int) - 1) (by omega) (by omega), wr_id (a := 2 * ((x : Int) - 1)) (by omega) (by omega), wr_id (by omega) (by omega)]
theorem x2_downOf (lo : LO G o og c cL cE cB cC) (g : GR G h og c hi wi) {e : Nat} (he : e < 162) : f_X2_downOf G h o (e : Int) = some (dwN (wi + 2) e) := by
  have g9 := g.2.2.2.2.2.2.2.2
  unfold f_X2_downOf dwN
  rw [dv_eq (by omega) (by omega), bs, lo.1, g.2.2.2.2.2.1, dv_eq (by omega) (by omega), bs, md_eq (by omega) (by omega), bs]
  rw [show (e : Int) / 2 = ((e / 2 : Nat) : Int) by omega, show ((e / 2 : Nat) : Int) / ((wi + 2 : Nat) : Int) = ((e / 2 / (wi + 2) : Nat) : Int) from (Int.natCast_ediv _ _).symm]
  have : e / 2 / (wi + 2) ≤ e / 2 := Nat.div_le_self _ _
  generalize e / 2 / (wi + 2) = x at this ⊢
  rw [wr_id (a := (x : Int) - 1) (by omega) (by omega), wr_id (a := 2 * ((x : Int) - 1)) (by omega) (by omega), wr_id (by omega) (by omega)]
  congr 1
theorem x2_areaL (lo : LO G o og c cL cE cB cC) (g : GR G h og c hi wi) (sf : SF S) (rr : RR S (h.1 cL) (h.1 cE) (h.1 cB) (h.1 o 5)) {l : Nat} (hl : l < S.2.2.2.1) (K : Int → Option Int) : ∀ (k i n : Nat) (a : Int), i + k = cN S l → k < n → -80000 * (i : Int) ≤ a → a ≤ 80000 * (i : Int) → l_X2_areaOf_8 G o (l : Int) h ((cN S l : Nat) : Int) K n (a, (i : Int)) = K (a + sm (arE S (wi + 2) l) i k)
  | 0, i, n + 1, a, h1, h2, h3, h4 => by
    rw [l_X2_areaOf_8, if_pos (by dsimp only; omega)]
    simp [sm]
  | k + 1, i, n + 1, a, h1, h2, h3, h4 => by
    have g9 := g.2.2.2.2.2.2.2.2
    have f := sf.2.2 l hl
    have s1 := sf.1
    have s2 := sf.2.1
    have e1 := (f.2.2.2.2.1 i (by omega)).2.1
    have e2 := (f.2.2.2.2.1 (if i + 1 < cN S l then i + 1 else 0) (by split <;> omega)).2.1
    have ab := arE_b (S := S) (s := wi + 2) (by omega) (by omega) sf hl (show i < cN S l by omega)
    have nxt : ∀ K2 : Int → Option Int, (if ((cN S l : Nat) : Int) ≤ ((i + 1 : Nat) : Int) then ((f_X2_leastEdge G h o (l : Int)).bind fun v16 => K2 v16) else (f_X2_edgeOf G h o (l : Int) ((i + 1 : Nat) : Int)).bind fun v17 => K2 v17) = K2 ((eN S l (if i + 1 < cN S l then i + 1 else 0) : Nat) : Int) := by
      intro K2
      by_cases z : i + 1 < cN S l
      · rw [if_neg (by omega), if_pos z, x2_edgeOf lo sf rr hl z, bs]
      · rw [if_pos (by omega), if_neg z, x2_leastEdge lo sf rr hl, bs]
    rw [l_X2_areaOf_8, if_neg (by dsimp only; omega)]
    dsimp only
    rw [x2_edgeOf lo sf rr hl (show i < cN S l by omega), bs, jn_eq, wr_id (a := (i : Int) + 1) (by omega) (by omega), show (i : Int) + 1 = ((i + 1 : Nat) : Int) by omega]
    refine (nxt _).trans ?_
    rw [x2_acrossOf lo g e1, bs, x2_downOf lo g e2, bs, x2_downOf lo g e1, bs, x2_acrossOf lo g e2, bs, lt_eq]
    have a1 := mul_bd (axN_b (s := wi + 2) (by omega) e1 (by omega)) (dwN_b (s := wi + 2) e2)
    have a2 := mul_bd (dwN_b (s := wi + 2) e1) (axN_b (s := wi + 2) (by omega) e2 (by omega))
    have he : axN (wi + 2) (eN S l i) * dwN (wi + 2) (eN S l (if i + 1 < cN S l then i + 1 else 0)) - dwN (wi + 2) (eN S l i) * axN (wi + 2) (eN S l (if i + 1 < cN S l then i + 1 else 0)) = arE S (wi + 2) l i := rfl
    rw [wr_id (a := axN (wi + 2) (eN S l i) * _) (by omega) (by omega), wr_id (a := dwN (wi + 2) (eN S l i) * _) (by omega) (by omega), he, wr_id (a := arE S (wi + 2) l i) (by omega) (by omega), wr_id (by omega) (by omega)]
    rw [x2_areaL lo g sf rr hl K k (i + 1) n (a + arE S (wi + 2) l i) (by omega) (by omega) (by omega) (by omega), sm, Int.add_assoc]
theorem x2_areaOf (lo : LO G o og c cL cE cB cC) (g : GR G h og c hi wi) (sf : SF S) (rr : RR S (h.1 cL) (h.1 cE) (h.1 cB) (h.1 o 5)) {l : Nat} (hl : l < S.2.2.2.1) : f_X2_areaOf G h o (l : Int) = some (ct_abs (sm (arE S (wi + 2) l) 0 (cN S l))) := by
  have f := sf.2.2 l hl
  have s2 := sf.2.1
  unfold f_X2_areaOf
  rw [x2_lengthOf lo sf rr hl, bs]
  have := x2_areaL lo g sf rr hl (fun b => some (ct_abs b)) (cN S l) 0 200 0 (by omega) (by omega) (by omega) (by omega)
  rw [Int.zero_add] at this
  exact this
theorem x2_heldL (lo : LO G o og c cL cE cB cC) (g : GR G h og c hi wi) (sf : SF S) (sg : SG S hi wi) (rr : RR S (h.1 cL) (h.1 cE) (h.1 cB) (h.1 o 5)) {l : Nat} (hl : l < S.2.2.2.1) : ∀ (k i n : Nat) (a : Int), i + k = hi * wi → k < n → 0 ≤ a → a + k < 1000 → l_X2_pointsHeld_8 G o (l : Int) h ((hi * wi : Nat) : Int) n (a, (i : Int)) = some (a + sm (fun p => hld S (wi + 2) l (plc wi p)) i k)
  | 0, i, n + 1, a, h1, h2, h3, h4 => by
    rw [l_X2_pointsHeld_8, if_pos (by dsimp only; omega)]
    simp [sm]
  | k + 1, i, n + 1, a, h1, h2, h3, h4 => by
    have := hld01 S (wi + 2) l (plc wi i)
    have g8 := g.2.2.2.2.2.2.2.1
    have g9 := g.2.2.2.2.2.2.2.2
    have hp49 : hi * wi ≤ 49 := Nat.mul_le_mul g8.2 g9.2
    have hp := plc_lt g8 g9 (show i < hi * wi by omega)
    rw [l_X2_pointsHeld_8, if_neg (by dsimp only; omega)]
    dsimp only
    rw [lo.1, g_placeOf g (by omega), bs, x2_isHeld lo g sf sg rr hl hp.1, bs, jn_eq, wr_id (a := (i : Int) + 1) (by omega) (by omega), sm]
    have ih := fun a' x y => x2_heldL lo g sf sg rr hl k (i + 1) n a' (by omega) (by omega) x y
    rw [show ((i + 1 : Nat) : Int) = (i : Int) + 1 by omega] at ih
    rcases this with e | e
    · rw [e, if_pos rfl]
      dsimp only
      rw [ih _ (by omega) (by omega), Int.zero_add]
    · rw [e, if_neg (by omega)]
      dsimp only
      rw [wr_id (by omega) (by omega), ih _ (by omega) (by omega), Int.add_assoc]
theorem x2_pointsHeld (lo : LO G o og c cL cE cB cC) (g : GR G h og c hi wi) (sf : SF S) (sg : SG S hi wi) (rr : RR S (h.1 cL) (h.1 cE) (h.1 cB) (h.1 o 5)) {l : Nat} (hl : l < S.2.2.2.1) : f_X2_pointsHeld G h o (l : Int) = some (sm (fun p => hld S (wi + 2) l (plc wi p)) 0 (hi * wi)) := by
  have g8 := g.2.2.2.2.2.2.2.1
  have g9 := g.2.2.2.2.2.2.2.2
  have hp49 : hi * wi ≤ 49 := Nat.mul_le_mul g8.2 g9.2
  unfold f_X2_pointsHeld
  rw [lo.1, g_points g, bs]
  have := x2_heldL lo g sf sg rr hl (hi * wi) 0 200 0 (by omega) (by omega) (by omega) (by omega)
  rw [Int.zero_add] at this
  exact this
theorem x2_outersL (lo : LO G o og c cL cE cB cC) (g : GR G h og c hi wi) (sf : SF S) (sg : SG S hi wi) (rr : RR S (h.1 cL) (h.1 cE) (h.1 cB) (h.1 o 5)) : ∀ (k i n : Nat) (a : Int), i + k = S.2.2.2.1 → k < n → 0 ≤ a → a + k < 1000 → l_X2_outerOnes_4 G o h n (a, (i : Int)) = some (a + sm (fun l => if dep S (wi + 2) l % 2 = 0 then 1 else 0) i k)
  | 0, i, n + 1, a, h1, h2, h3, h4 => by
    rw [l_X2_outerOnes_4, rr.2.2.2, if_pos (by dsimp only; omega)]
    simp [sm]
  | k + 1, i, n + 1, a, h1, h2, h3, h4 => by
    have s1 := sf.1
    rw [l_X2_outerOnes_4, rr.2.2.2, if_neg (by dsimp only; omega)]
    dsimp only
    rw [x2_isOuter lo g sf sg rr (by omega), bs, jn_eq, wr_id (a := (i : Int) + 1) (by omega) (by omega), sm]
    have ih := fun a' x y => x2_outersL lo g sf sg rr k (i + 1) n a' (by omega) (by omega) x y
    rw [show ((i + 1 : Nat) : Int) = (i : Int) + 1 by omega] at ih
    by_cases z : dep S (wi + 2) i % 2 = 0
    · rw [if_pos z, if_neg (by omega)]
      dsimp only
      rw [wr_id (by omega) (by omega), ih _ (by omega) (by omega), Int.add_assoc]
    · rw [if_neg z, if_pos rfl]
      dsimp only
      rw [ih _ (by omega) (by omega), Int.zero_add]
theorem x2_outerOnes (lo : LO G o og c cL cE cB cC) (g : GR G h og c hi wi) (sf : SF S) (sg : SG S hi wi) (rr : RR S (h.1 cL) (h.1 cE) (h.1 cB) (h.1 o 5)) : f_X2_outerOnes G h o = some (sm (fun l => if dep S (wi + 2) l % 2 = 0 then 1 else 0) 0 S.2.2.2.1) := by
  have s1 := sf.1
  unfold f_X2_outerOnes
  have := x2_outersL lo g sf sg rr S.2.2.2.1 0 200 0 (by omega) (by omega) (by omega) (by omega)
  rw [Int.zero_add] at this
  exact this
theorem x2_deepL (lo : LO G o og c cL cE cB cC) (g : GR G h og c hi wi) (sf : SF S) (sg : SG S hi wi) (rr : RR S (h.1 cL) (h.1 cE) (h.1 cB) (h.1 o 5)) : ∀ (k i n : Nat) (a : Int), i + k = S.2.2.2.1 → k < n → l_X2_greatestDepth_4 G o h n (a, (i : Int)) = some (mx (dep S (wi + 2)) i k a)
  | 0, i, n + 1, a, h1, h2 => by
    rw [l_X2_greatestDepth_4, rr.2.2.2, if_pos (by dsimp only; omega)]
    rfl
  | k + 1, i, n + 1, a, h1, h2 => by
    have s1 := sf.1
    rw [l_X2_greatestDepth_4, rr.2.2.2, if_neg (by dsimp only; omega)]
    dsimp only
    rw [x2_depthOf lo g sf sg rr (by omega), bs, lt_eq, ct_max_eq, wr_id (a := (i : Int) + 1) (by omega) (by omega), mx]
    have ih := x2_deepL lo g sf sg rr k (i + 1) n (max a (dep S (wi + 2) i)) (by omega) (by omega)
    rw [show ((i + 1 : Nat) : Int) = (i : Int) + 1 by omega] at ih
    exact ih
theorem x2_greatestDepth (lo : LO G o og c cL cE cB cC) (g : GR G h og c hi wi) (sf : SF S) (sg : SG S hi wi) (rr : RR S (h.1 cL) (h.1 cE) (h.1 cB) (h.1 o 5)) : f_X2_greatestDepth G h o = some (mx (dep S (wi + 2)) 0 S.2.2.2.1 (-5)) := by
  have s1 := sf.1
  unfold f_X2_greatestDepth
  exact x2_deepL lo g sf sg rr S.2.2.2.1 0 200 (-5) (by omega) (by omega)
end
