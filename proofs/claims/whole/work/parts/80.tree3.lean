/-! the call tree: the reference -/
section
variable {G : ct_G} {h : ct_H} {hi wi : Nat} {B : Int}
theorem lav_lt (ig : IG G h hi wi) {L M : Nat} (hM : M ≤ 99) (hLM : L ≤ M) {z : Nat} (iz : isl (h.1 2) hi wi (h.1 1 5) (M : Int) z) : 0 ≤ lav (h.1 2) hi wi (h.1 1 5) (L : Int) z ∧ lav (h.1 2) hi wi (h.1 1 5) (L : Int) z < (nld (h.1 2) hi wi (h.1 1 5) L : Nat) := by
  have g8 := ig.1.2.2.2.2.2.2.2.1
  have g9 := ig.1.2.2.2.2.2.2.2.2
  have rm := ig.2.2.1.RM g9
  have zin : ¬ h.1 2 z < (L : Int) := fun u => iz.2.1 (by omega)
  obtain ⟨y, y1, y2⟩ := pk_least (fun y => con (h.1 2) hi wi (h.1 1 5) (L : Int) y z) ⟨z, con_refl⟩
  have ci := con_in g8 g9 y1
  have iy : isl (h.1 2) hi wi (h.1 1 5) (L : Int) y := ⟨ci.2.mpr iz.1, fun u => zin (ci.1.mp u), fun x cx => Classical.byContradiction fun u => y2 x (by omega) (con_trans cx y1)⟩
  rw [lav_eq (Or.inr ⟨zin, y, iy, y1, rfl⟩)]
  refine ⟨(isl_48 g8 g9 rm (by omega) iy).1, ?_⟩
  have lt := nmb_lt (show y < (hi + 2) * (wi + 2) from ci.2.mpr iz.1) iy
  rw [(nld_eq ig (L := L) (by omega)).1] at lt
  exact lt
theorem m_zrL (r : G.1 73 21 = 85 ∧ G.2 85 = 49) {n : Nat} (hn : n ≤ 49) : ∀ (t i f : Nat) (h : ct_H), i + t = n → t < f → (∀ l, l < i → h.1 85 l = 0) → ∃ h' : ct_H, (∀ k, l_X7_tree_32 G 73 (n : Int) k f ((i : Int), h) = k h') ∧ (∀ l, l < n → h'.1 85 l = 0) ∧ h'.2 = h.2 ∧ ∀ a, a ≠ 85 → h'.1 a = h.1 a
  | 0, i, f + 1, h, h1, h2, e => by
    have : i = n := by omega
    subst this
    refine ⟨h, fun k => ?_, e, rfl, fun _ _ => rfl⟩
    rw [l_X7_tree_32, if_pos (by dsimp only; omega)]
  | t + 1, i, f + 1, h, h1, h2, e => by
    obtain ⟨h', a1, a2, a3, a4⟩ := m_zrL r hn t (i + 1) f (hs h 85 (up (h.1 85) i 0)) (by omega) (by omega) (by
      intro l hl
      rw [hs_row]
      by_cases z : l = i
      · subst z; rw [up_same]
      · rw [up_other _ _ z]; exact e l (by omega))
    refine ⟨h', fun k => ?_, a2, a3, fun x hx => (a4 x hx).trans (hs_orow _ _ hx)⟩
    rw [l_X7_tree_32, if_neg (by dsimp only; omega)]
    dsimp only
    rw [r.1, wtN (by rw [r.2]; omega), bs, wr_id (by omega) (by omega), show (i : Int) + 1 = ((i + 1 : Nat) : Int) by omega]
    exact a1 k
theorem m_chL (r : G.1 73 20 = 84 ∧ G.2 84 = 49 ∧ G.1 73 21 = 85 ∧ G.2 85 = 49) (mp : MP G 73 74 82 83) {n mn : Nat} {A D : Nat → Int} {idx : Nat → Nat} {L : Int} (hL : 0 < L) (hn : n ≤ 49) (hm : mn ≤ 49) (hD : ∀ j, j < n → idx j < 49 ∧ D (idx j) = (j : Int) ∧ ∀ q, q < idx j → D q ≠ (j : Int)) (hA : ∀ j, j < n → 0 ≤ A (idx j) ∧ A (idx j) < (mn : Int)) : ∀ (t i f : Nat) (h : ct_H), i + t = n → t < f → h.1 73 18 = (n : Int) → h.1 82 = D → h.1 84 = A → (∀ l, l < mn → h.1 85 l = sm (fun j => if A (idx j) = (l : Int) then 1 else 0) 0 i) → ∃ h' : ct_H, (∀ k, l_X7_tree_44 G 73 L k f ((i : Int), h) = k h') ∧ (∀ l, l < mn → h'.1 85 l = sm (fun j => if A (idx j) = (l : Int) then 1 else 0) 0 n) ∧ h'.2 = h.2 ∧ ∀ a, a ≠ 85 → h'.1 a = h.1 a
  | 0, i, f + 1, h, h1, h2, e1, e2, e3, e4 => by
    have : i = n := by omega
    subst this
    refine ⟨h, fun k => ?_, e4, rfl, fun _ _ => rfl⟩
    rw [l_X7_tree_44, e1, if_pos (by dsimp only; omega)]
  | t + 1, i, f + 1, h, h1, h2, e1, e2, e3, e4 => by
    have d := hD i (by omega)
    have a := hA i (by omega)
    obtain ⟨v, hv⟩ := Int.eq_ofNat_of_zero_le a.1
    have sb : 0 ≤ sm (fun j => if A (idx j) = (v : Int) then 1 else 0) 0 i ∧ sm (fun j => if A (idx j) = (v : Int) then 1 else 0) 0 i ≤ i := by
      have := sm_le (f := fun j => if A (idx j) = (v : Int) then 1 else 0) (b := 1) (by omega) (m := i) (i := 0) (fun j _ _ => by split <;> omega)
      exact ⟨sm_nonneg (fun j _ _ => by split <;> omega), by omega⟩
    obtain ⟨h', a1, a2, a3, a4⟩ := m_chL r mp hL hn hm hD hA t (i + 1) f (hs h 85 (up (h.1 85) v (sm (fun j => if A (idx j) = (v : Int) then 1 else 0) 0 i + 1))) (by omega) (by omega) (by rw [hs_orow _ _ (by omega)]; exact e1) (by rw [hs_orow _ _ (by omega)]; exact e2) (by rw [hs_orow _ _ (by omega)]; exact e3) (by
      intro l hl
      rw [hs_row, sm_last, Nat.zero_add, hv]
      by_cases e : l = v
      · subst e; rw [up_same, if_pos rfl]
      · rw [up_other _ _ e, if_neg (by omega), Int.add_zero]; exact e4 l hl)
    refine ⟨h', fun k => ?_, a2, a3, fun x hx => (a4 x hx).trans (hs_orow _ _ hx)⟩
    rw [l_X7_tree_44, e1, if_neg (by dsimp only; omega), if_neg (by omega)]
    dsimp only
    rw [m_leastOf mp d.1 (by rw [e2]; exact d.2.1) (fun q hq => by rw [e2]; exact d.2.2 q hq), bs, r.1, rdN (by rw [r.2.1]; exact d.1), bs, e3, hv, r.2.2.1, rdN (by rw [r.2.2.2]; omega), bs, e4 v (by omega), wr_id (a := sm (fun j => if A (idx j) = (v : Int) then 1 else 0) 0 i + 1) (by omega) (by omega), wtN (by rw [r.2.2.2]; omega), bs, wr_id (by omega) (by omega), show (i : Int) + 1 = ((i + 1 : Nat) : Int) by omega]
    exact a1 k
theorem m_leavesL (r : G.1 73 21 = 85 ∧ G.2 85 = 49) {n : Nat} {X : Nat → Int} (hn : n ≤ 49) (e2 : ∀ l, l < n → h.1 85 l = X l) : ∀ (t i f : Nat) (a : Int), i + t = n → t < f → 0 ≤ a → a + t < 1000 → l_X7_leavesOf_4 G 73 (n : Int) h f (a, (i : Int)) = some (a + sm (fun l => if X l = 0 then 1 else 0) i t) ∧ l_X7_forksOf_4 G 73 (n : Int) h f (a, (i : Int)) = some (a + sm (fun l => if X l ≤ 1 then 0 else 1) i t)
  | 0, i, f + 1, a, h1, h2, h3, h4 => by
    rw [l_X7_leavesOf_4, l_X7_forksOf_4, if_pos (by dsimp only; omega), if_pos (by dsimp only; omega)]
    simp [sm]
  | t + 1, i, f + 1, a, h1, h2, h3, h4 => by
    have ih := fun a' x y => m_leavesL r hn e2 t (i + 1) f a' (by omega) (by omega) x y
    rw [show ((i + 1 : Nat) : Int) = (i : Int) + 1 by omega] at ih
    constructor
    · rw [l_X7_leavesOf_4, if_neg (by dsimp only; omega)]
      dsimp only
      rw [r.1, rdN (by rw [r.2]; omega), bs, jn_eq, e2 i (by omega), wr_id (a := (i : Int) + 1) (by omega) (by omega), sm]
      by_cases z : X i = 0
      · rw [if_pos z, if_pos z]
        dsimp only
        rw [wr_id (by omega) (by omega), (ih _ (by omega) (by omega)).1, Int.add_assoc]
      · rw [if_neg z, if_neg z]
        dsimp only
        rw [(ih _ (by omega) (by omega)).1, Int.zero_add]
    · rw [l_X7_forksOf_4, if_neg (by dsimp only; omega)]
      dsimp only
      rw [r.1, rdN (by rw [r.2]; omega), bs, jn_eq, e2 i (by omega), wr_id (a := (i : Int) + 1) (by omega) (by omega), sm]
      by_cases z : X i ≤ 1
      · rw [if_pos z, if_pos z]
        dsimp only
        rw [(ih _ (by omega) (by omega)).2, Int.zero_add]
      · rw [if_neg z, if_neg z]
        dsimp only
        rw [wr_id (by omega) (by omega), (ih _ (by omega) (by omega)).2, Int.add_assoc]
theorem sm01 {f : Nat → Int} {n : Nat} (hf : ∀ j, j < n → 0 ≤ f j ∧ f j ≤ 1) : 0 ≤ sm f 0 n ∧ sm f 0 n ≤ n := by
  have := sm_le (f := f) (b := 1) (by omega) (m := n) (i := 0) (fun j _ j2 => (hf j (by omega)).2)
  exact ⟨sm_nonneg (fun j _ j2 => (hf j (by omega)).1), by omega⟩
/-- one level of the reference's tree -/
theorem m_tree1 (gs : GS G) (ig : IG G h hi wi) (ic : IC h hi wi) {F : Nat → Int} {kd : Int} (e1 : h.1 2 = F) (e2 : h.1 1 5 = kd) {s L P mn : Nat} (hs1 : s ≤ 50) (hL : L ≤ 99) (hm : mn ≤ 49) {a b c : Int} (ha : 0 ≤ a ∧ a ≤ 10000) (hb : 0 ≤ b ∧ b ≤ 10000) (hc : 0 ≤ c ∧ c ≤ 10000) (h0 : L = 0 → mn = 0) (hp : 0 < L → mn = nld F hi wi kd P ∧ P ≤ L ∧ ∀ p, p < hi * wi → h.1 84 p = lav F hi wi kd (P : Int) (plc wi p)) (f : Nat) : ∃ h' : ct_H, (∀ k, l_X7_tree_24 G 73 (s : Int) k (f + 1) (a, b, c, (mn : Int), (L : Int), h) = l_X7_tree_24 G 73 (s : Int) k f (a + (nld F hi wi kd L : Nat), b + sm (fun l => if chd F hi wi kd P L l = 0 then 1 else 0) 0 mn, c + sm (fun l => if chd F hi wi kd P L l ≤ 1 then 0 else 1) 0 mn, (nld F hi wi kd L : Nat), ((L + s : Nat) : Int), h')) ∧ QF h h' ∧ IC h' hi wi ∧ ∀ p, p < hi * wi → h'.1 84 p = lav F hi wi kd (L : Int) (plc wi p) := by
  have g8 := ig.1.2.2.2.2.2.2.2.1
  have g9 := ig.1.2.2.2.2.2.2.2.2
  have h49 : hi * wi ≤ 49 := Nat.mul_le_mul g8.2 g9.2
  have rm := ig.2.2.1.RM g9
  have r := gs.2.2.2.2.2.2.2.1.1.2.2
  have mp := gs.2.2.2.2.2.2.2.2.2
  have ne := nld_eq ig hL
  obtain ⟨hy, y1, y2, y3, y4, y5, y6, y7⟩ := r_lands gs ig ic (L := (L : Int)) (by omega)
  rw [ne.1] at y4
  obtain ⟨hz, z1, z2, z3, z4⟩ := m_zrL ⟨r.2.2.1, r.2.2.2⟩ hm mn 0 200 hy (by omega) (by omega) (fun l hl => absurd hl (by omega))
  have z1' : ∀ k, l_X7_tree_32 G 73 (mn : Int) k 200 ((0 : Int), hy) = k hz := z1
  have core : ∃ hw : ct_H, (∀ k, l_X7_tree_44 G 73 (L : Int) k 200 ((0 : Int), hz) = k hw) ∧ (∀ l, l < mn → hw.1 85 l = chd F hi wi kd P L l) ∧ hw.2 = hz.2 ∧ ∀ a, a ≠ 85 → hw.1 a = hz.1 a := by
    by_cases c0 : L = 0
    · refine ⟨hz, fun k => ?_, fun l hl => absurd hl (by rw [h0 c0]; omega), rfl, fun _ _ => rfl⟩
      show l_X7_tree_44 G 73 (L : Int) k (199 + 1) ((0 : Int), hz) = k hz
      rw [l_X7_tree_44]
      by_cases q : hz.1 73 18 ≤ 0
      · rw [if_pos q]
      · rw [if_neg q, if_pos (by omega)]
    · obtain ⟨p1, p2, p3⟩ := hp (by omega)
      have ex : ∀ j : Nat, ∃ p : Nat, j < nld (h.1 2) hi wi (h.1 1 5) L → p < hi * wi ∧ plc wi p = lst (h.1 2) hi wi (h.1 1 5) (L : Int) j ∧ isl (h.1 2) hi wi (h.1 1 5) (L : Int) (plc wi p) ∧ nmb (h.1 2) hi wi (h.1 1 5) (L : Int) (plc wi p) = (j : Int) := by
        intro j
        by_cases hj : j < nld (h.1 2) hi wi (h.1 1 5) L
        · obtain ⟨z, z1, z2, z3⟩ := nmb_sur (F := h.1 2) (hi := hi) (wi := wi) (kd := h.1 1 5) (L := (L : Int)) (l := (j : Int)) (by omega) ((hi + 2) * (wi + 2)) (by rw [ne.1]; omega)
          obtain ⟨p, p1, p2⟩ := plc_sur g8 g9 (isl_inn g8 g9 rm (by omega) z2)
          exact ⟨p, fun _ => ⟨p1, by rw [p2, lst_eq z2 z3], by rw [p2]; exact z2, by rw [p2]; exact z3⟩⟩
        · exact ⟨0, fun w => absurd w hj⟩
      obtain ⟨idx, hidx⟩ := Classical.axiomOfChoice ex
      obtain ⟨hw, w1, w2, w3, w4⟩ := m_chL r mp (A := h.1 84) (D := hy.1 82) (idx := idx) (L := (L : Int)) (by omega) ne.2 hm (by
        intro j hj
        obtain ⟨q1, q2, q3, q4⟩ := hidx j hj
        refine ⟨by omega, ?_, fun q hq w => ?_⟩
        · have := (LD_land (y5 (idx j) q1)).2 _ q3
          rw [q4] at this
          exact this.mpr con_refl
        · have := ((LD_land (y5 q (by omega))).2 _ q3).mp (by rw [q4]; exact w)
          have := q3.2.2 _ (con_symm this)
          have := (plc_mono g9).mpr hq
          omega) (by
        intro j hj
        obtain ⟨q1, q2, q3, q4⟩ := hidx j hj
        have := lav_lt ig hL p2 q3
        rw [e1, e2] at this
        rw [p3 _ q1, p1]
        exact this) (nld (h.1 2) hi wi (h.1 1 5) L) 0 200 hz (by omega) (by have := ne.2; omega) (by rw [z4 73 (by omega)]; exact y4) (z4 82 (by omega)) (by rw [z4 84 (by omega), y7 84 (by omega) (by omega)]) (fun l hl => (z2 l hl))
      refine ⟨hw, w1, fun l hl => ?_, w3, w4⟩
      rw [w2 l hl]
      unfold chd
      rw [if_pos (by omega), ← e1, ← e2]
      refine sm_congr (fun j _ j2 => ?_)
      obtain ⟨q1, q2, q3, q4⟩ := hidx j (by omega)
      rw [p3 _ q1, q2, e1, e2]
  obtain ⟨hw, w1, w2, w3, w4⟩ := core
  rw [e1, e2] at ne y4 y5
  have lf := m_leavesL (h := hw) ⟨r.2.2.1, r.2.2.2⟩ hm w2 mn 0 200 0 (by omega) (by omega) (by omega) (by omega)
  rw [Int.zero_add, Int.zero_add] at lf
  have b1 := sm01 (f := fun l => if chd F hi wi kd P L l = 0 then 1 else 0) (n := mn) (fun j _ => by split <;> omega)
  have b2 := sm01 (f := fun l => if chd F hi wi kd P L l ≤ 1 then 0 else 1) (n := mn) (fun j _ => by split <;> omega)
  have lf1 : f_X7_leavesOf G hw 73 (mn : Int) = some (sm (fun l => if chd F hi wi kd P L l = 0 then 1 else 0) 0 mn) := lf.1
  have lf2 : f_X7_forksOf G hw 73 (mn : Int) = some (sm (fun l => if chd F hi wi kd P L l ≤ 1 then 0 else 1) 0 mn) := lf.2
  have w18 : hw.1 73 18 = (nld F hi wi kd L : Nat) := by rw [w4 73 (by omega), z4 73 (by omega)]; exact y4
  have rx : ∀ x, x ≠ 84 → x ≠ 85 → (hs hw 84 (va_cpy (hw.1 82) (hw.1 84) 0 0 49)).1 x = hy.1 x := fun x x1 x2 => by rw [hs_orow _ _ x1, w4 x x2, z4 x x2]
  refine ⟨hs hw 84 (va_cpy (hw.1 82) (hw.1 84) 0 0 49), fun k => ?_, y2.trans ⟨fun x _ x2 _ => rx x (by omega) (by omega), fun j _ _ _ _ => by rw [rx 73 (by omega) (by omega)], by rw [hs_long, w3, z3]⟩, y3.fr (fun x _ x2 => rx x (by omega) (by omega)), fun p hp' => ?_⟩
  · rw [l_X7_tree_24, if_neg (by dsimp only; omega)]
    dsimp only
    rw [y1, bs, z1', w1, lf1, bs, lt_eq, lf2, bs, lt_eq, lt_eq, w18, mp.1, r.1, cpI_eq (by rw [mp.2.1, r.2.1]; omega), bs, lt_eq, wr_id (a := b + sm (fun l => if chd F hi wi kd P L l = 0 then 1 else 0) 0 mn) (by omega) (by omega), wr_id (a := c + sm (fun l => if chd F hi wi kd P L l ≤ 1 then 0 else 1) 0 mn) (by omega) (by omega), wr_id (a := a + (nld F hi wi kd L : Nat)) (by omega) (by omega), wr_id (a := (L : Int) + (s : Int)) (by omega) (by omega), show (L : Int) + (s : Int) = ((L + s : Nat) : Int) by omega]
    rfl
  · rw [hs_row]
    unfold va_cpy
    rw [if_pos (by omega), Nat.zero_add, Nat.sub_zero, w4 82 (by omega), z4 82 (by omega)]
    exact (lav_eq (y5 p hp')).symm
theorem chd_top {F : Nat → Int} {kd : Int} {P L l : Nat} (hL : 100 ≤ L) : chd F hi wi kd P L l = 0 := by unfold chd; rw [if_neg (by omega)]
theorem sm_one : ∀ (n i : Nat), sm (fun _ => 1) i n = (n : Int)
  | 0, _ => rfl
  | n + 1, i => by rw [sm, sm_one n (i + 1)]; omega
theorem tvl1_top {F : Nat → Int} {kd : Int} {P L : Nat} (hL : 100 ≤ L) : tvl F hi wi kd 1 P L = (nld F hi wi kd P : Nat) ∧ tvl F hi wi kd 2 P L = 0 := by
  unfold tvl
  rw [if_neg (by omega), if_pos rfl, if_neg (by omega), if_neg (by omega)]
  constructor
  · rw [sm_congr (g := fun _ => 1) (fun j _ _ => by rw [chd_top hL]; rfl), sm_one]
  · exact sm_zero (fun j _ _ => by rw [chd_top hL]; rfl)
theorem m_treeL (gs : GS G) {F : Nat → Int} {kd : Int} {s : Nat} (hs1 : 1 ≤ s ∧ s ≤ 50) : ∀ (f L P : Nat) (a b c : Int) (h : ct_H), 100 < f + L → 1 ≤ f → L ≤ 149 → P ≤ 99 → L = P + s → (0 ≤ a ∧ a ≤ 49 * L) → (0 ≤ b ∧ b ≤ 49 * P) → (0 ≤ c ∧ c ≤ 49 * P) → IG G h hi wi → IC h hi wi → h.1 2 = F → h.1 1 5 = kd → (∀ p, p < hi * wi → h.1 84 p = lav F hi wi kd (P : Int) (plc wi p)) → ∃ (h' : ct_H) (a' b' c' m : Int), (∀ k, l_X7_tree_24 G 73 (s : Int) k f (a, b, c, (nld F hi wi kd P : Nat), (L : Int), h) = k (a', b', c', m, h')) ∧ a' = a + tsm F hi wi kd 0 s f L ∧ b' + m = b + tvl F hi wi kd 1 P L + tsm F hi wi kd 1 s f L ∧ c' = c + tvl F hi wi kd 2 P L + tsm F hi wi kd 2 s f L ∧ QF h h' ∧ IC h' hi wi ∧ 0 ≤ b' + m ∧ b' + m ≤ 10000
  | 0, L, P, a, b, c, h, _, h1, _, _, _, _, _, _, _, _, _, _, _ => absurd h1 (by omega)
  | f + 1, L, P, a, b, c, h, h0, _, hL, hP, hLP, ha, hb, hc, ig, ic, e1, e2, hA => by
    have neP := nld_eq ig (L := P) hP
    rw [e1, e2] at neP
    have t1 := tvl_b (F := F) (hi := hi) (wi := wi) (kd := kd) (w := 1) (M := L) neP.2
    have t2 := tvl_b (F := F) (hi := hi) (wi := wi) (kd := kd) (w := 2) (M := L) neP.2
    by_cases z : L ≤ 99
    · have ne := nld_eq ig (L := L) z
      rw [e1, e2] at ne
      obtain ⟨h1, x1, x2, x3, x4⟩ := m_tree1 gs ig ic e1 e2 (s := s) (L := L) (P := P) (mn := nld F hi wi kd P) hs1.2 z neP.2 (a := a) (b := b) (c := c) (by omega) (by omega) (by omega) (fun w => absurd w (by omega)) (fun _ => ⟨rfl, by omega, hA⟩) f
      have s1 : tvl F hi wi kd 1 P L = sm (fun l => if chd F hi wi kd P L l = 0 then 1 else 0) 0 (nld F hi wi kd P) := by unfold tvl; rw [if_neg (by omega), if_pos rfl]
      have s2 : tvl F hi wi kd 2 P L = sm (fun l => if chd F hi wi kd P L l ≤ 1 then 0 else 1) 0 (nld F hi wi kd P) := by unfold tvl; rw [if_neg (by omega), if_neg (by omega)]
      rw [← s1, ← s2] at x1
      obtain ⟨h', a', b', c', m, i1, i2, i3, i4, i5, i6, i7⟩ := m_treeL gs (F := F) (kd := kd) hs1 f (L + s) L (a + (nld F hi wi kd L : Nat)) (b + tvl F hi wi kd 1 P L) (c + tvl F hi wi kd 2 P L) h1 (by omega) (by omega) (by omega) z rfl (by omega) (by omega) (by omega) (ig.q x2) x3 (x2.row2.1.trans e1) (by rw [x2.row2.2]; exact e2) x4
      refine ⟨h', a', b', c', m, fun k => (x1 k).trans (i1 k), ?_, ?_, ?_, x2.trans i5, i6, i7⟩
      · rw [i2, tsm, if_neg (by omega)]
        unfold tvl
        rw [if_pos rfl]
        omega
      · rw [i3, tsm, if_neg (by omega)]; omega
      · rw [i4, tsm, if_neg (by omega)]; omega
    · have tt := tvl1_top (F := F) (hi := hi) (wi := wi) (kd := kd) (P := P) (L := L) (by omega)
      refine ⟨h, a, b, c, (nld F hi wi kd P : Nat), fun k => ?_, ?_, ?_, ?_, QF.refl, ic, by omega, by omega⟩
      · rw [l_X7_tree_24, if_pos (by dsimp only; omega)]
      · rw [tsm, if_pos (by omega)]; omega
      · rw [tsm, if_pos (by omega), tt.1]; omega
      · rw [tsm, if_pos (by omega), tt.2]; omega
theorem s_tree (gs : GS G) (inv : INV G h hi wi B) (a b : Int) : SAM G hi wi B (f_X6_tree G h 0 a b) (fun h1 => f_X7_tree G h1 73 a b) := by
  have ig := inv.1
  have top := gs.1
  by_cases ha : 1 ≤ a ∧ a ≤ 50
  · by_cases hb : 0 ≤ b ∧ b ≤ 2
    · obtain ⟨s, rfl⟩ := Int.eq_ofNat_of_zero_le (show 0 ≤ a by omega)
      have hs1 : 1 ≤ s ∧ s ≤ 50 := by omega
      obtain ⟨hf, f1, f2, f3, f4, f5⟩ := c_find gs ig inv.2.1 (L := 0) (by omega)
      have gf := ig.q f2
      obtain ⟨ht, t1, t2, t3⟩ := (c_treeL gs (F := h.1 2) (kd := h.1 1 5) (w := b) hs1 200 0 0 hf (by omega) (by omega) (by omega) (by omega) (by omega) gf f3 f2.row2.1 (by rw [f2.row2.2])).1 (fun _ => f4)
      have t1' : l_X6_tree_28 G (s : Int) b 200 ((0 : Int), 8, 15, (0 : Int), hf) = some (0 + tsm (h.1 2) hi wi (h.1 1 5) b s 200 0, ht) := t1
      have q := f2.trans t2
      have gt := ig.q q
      have e1 : ht.1 2 = h.1 2 := q.row2.1
      have e2 : ht.1 1 5 = h.1 1 5 := by rw [q.row2.2]
      obtain ⟨h1, x1, x2, x3, x4⟩ := m_tree1 gs gt t3 e1 e2 (s := s) (L := 0) (P := 0) (mn := 0) hs1.2 (by omega) (by omega) (a := 0) (b := 0) (c := 0) (by omega) (by omega) (by omega) (fun _ => rfl) (fun w => absurd w (by omega)) 199
      have ne := nld_eq gt (L := 0) (by omega)
      rw [e1, e2] at ne
      obtain ⟨h', a', b', c', m, i1, i2, i3, i4, i5, i6, i7, i8⟩ := m_treeL gs (F := h.1 2) (kd := h.1 1 5) hs1 199 (0 + s) 0 (0 + (nld (h.1 2) hi wi (h.1 1 5) 0 : Nat)) 0 0 h1 (by omega) (by omega) (by omega) (by omega) rfl (by omega) (by omega) (by omega) (gt.q x2) x3 (x2.row2.1.trans e1) (by rw [x2.row2.2]; exact e2) x4
      have x1' : ∀ k, l_X7_tree_24 G 73 (s : Int) k 200 ((0 : Int), (0 : Int), (0 : Int), (0 : Int), (0 : Int), ht) = k (a', b', c', m, h') := fun k => (x1 k).trans (i1 k)
      refine SAM.of inv (r := tsm (h.1 2) hi wi (h.1 1 5) b s 200 0) (h1 := ht) ?_ q t3 ⟨h', ?_, x2.trans i5, i6⟩
      · unfold f_X6_tree
        rw [if_neg (by omega), if_pos (by omega), if_neg (by omega), if_pos (by omega), top.2.2.1, f1, bs, top.2.2.2.1, t1', Int.zero_add]
      · unfold f_X7_tree
        rw [m_in, if_pos (by omega), bs, if_neg (by omega), m_in, if_pos (by omega), bs, if_neg (by omega), x1']
        dsimp only
        have ts : ∀ w, tsm (h.1 2) hi wi (h.1 1 5) w s 200 0 = tvl (h.1 2) hi wi (h.1 1 5) w 0 (0 + s) + tsm (h.1 2) hi wi (h.1 1 5) w s 199 (0 + s) := by
          intro w
          show tsm (h.1 2) hi wi (h.1 1 5) w s (199 + 1) 0 = _
          rw [tsm, if_neg (by omega)]
        rcases (show b = 0 ∨ b = 1 ∨ b = 2 by omega) with rfl | rfl | rfl
        · rw [if_pos rfl, ts, i2]
          unfold tvl
          rw [if_pos rfl, Int.zero_add]
        · rw [if_neg (by omega), if_pos rfl, wr_id (by omega) (by omega), ts, i3, Int.zero_add]
        · rw [if_neg (by omega), if_neg (by omega), ts, i4, Int.zero_add]
    · refine SAM.of inv (r := -1) (h1 := h) ?_ QF.refl inv.2.1 ⟨h, ?_, QF.refl, inv.2.1⟩
      · unfold f_X6_tree
        rw [if_neg (by omega), if_pos (by omega)]
        by_cases b0 : b < 0
        · rw [if_pos b0]
        · rw [if_neg b0, if_neg (by omega)]
      · unfold f_X7_tree
        rw [m_in, if_pos (by omega), bs, if_neg (by omega), m_in, if_neg hb, bs, if_pos rfl]
  · refine SAM.of inv (r := -2) (h1 := h) ?_ QF.refl inv.2.1 ⟨h, ?_, QF.refl, inv.2.1⟩
    · unfold f_X6_tree
      by_cases a0 : a < 1
      · rw [if_pos a0]
      · rw [if_neg a0, if_neg (by omega)]
    · unfold f_X7_tree
      rw [m_in, if_neg ha, bs, if_pos rfl]
end
