/-! the call tree: the class -/
section
variable {G : ct_G} {h : ct_H} {hi wi : Nat} {B : Int}
theorem chd_A {F A : Nat → Int} {kd : Int} {L M l : Nat} (hM : M < 100) (hA : ∀ j, j < nld F hi wi kd M → A (lst F hi wi kd (M : Int) j) = lav F hi wi kd (L : Int) (lst F hi wi kd (M : Int) j)) : sm (fun j => if A (lst F hi wi kd (M : Int) j) = (l : Int) then 1 else 0) 0 (nld F hi wi kd M) = chd F hi wi kd L M l := by
  unfold chd
  rw [if_pos hM]
  exact sm_congr (fun j _ j2 => by rw [hA j (by omega)])
theorem c_child8 (gs : GS G) (ig : IG G h hi wi) (ic : IC h hi wi) {L M : Nat} (hL : L ≤ 99) (hLM : L ≤ M) (d : DR (h.1 10) (h.1 11) (h.1 12) (h.1 13) (h.1 8 7) (h.1 2) hi wi (h.1 1 5) (L : Int) ((hi + 2) * (wi + 2))) : ∃ h' : ct_H, f_X6_countChildren G h 8 15 (M : Int) = some h' ∧ QF h h' ∧ IC h' hi wi ∧ h'.1 8 7 = h.1 8 7 ∧ (∀ l, l < 49 → h'.1 14 l = chd (h.1 2) hi wi (h.1 1 5) L M l) ∧ (M < 100 → DR (h'.1 17) (h'.1 18) (h'.1 19) (h'.1 20) (h'.1 15 7) (h.1 2) hi wi (h.1 1 5) (M : Int) ((hi + 2) * (wi + 2))) := by
  have g8 := ig.1.2.2.2.2.2.2.2.1
  have g9 := ig.1.2.2.2.2.2.2.2.2
  have hN := N81 g8 g9
  have D1 := gs.2.2.2.1.1
  have D2 := gs.2.2.2.1.2.1
  unfold f_X6_countChildren f_X1_clearChildren
  rw [D1.1.2.2.2.2.2.2.2.2.2.2.2.1, fill_eq (by rw [D1.1.2.2.2.2.2.2.2.2.2.2.2.2]; omega), bs, bs, D1.1.2.2.2.2.2.2.2.2.2.2.2.2]
  generalize hZ : (fun j => if j < 49 then (0 : Int) else h.1 14 j) = Z
  have z0 : ∀ l, l < 49 → Z l = 0 := fun l hl => by rw [← hZ]; exact if_pos hl
  have rx : ∀ a, a ≠ 14 → (hs h 14 Z).1 a = h.1 a := fun a ha => hs_orow _ _ ha
  have q0 : QF h (hs h 14 Z) := ⟨fun a a1 _ _ => rx a (by omega), fun j _ _ _ _ => by rw [rx 73 (by omega)], rfl⟩
  have ic0 : IC (hs h 14 Z) hi wi := ⟨ic.1.fr (fun a ha => rx a (by omega)), ic.2.1.fr8 (fun a ha => rx a (by omega)), ic.2.2.fr15 (fun a ha => rx a (by omega))⟩
  by_cases z : M < 100
  · obtain ⟨hf, f1, f2, f3, f4, f5⟩ := c_findU gs (ig.q q0) ic0 (L := (M : Int)) (by omega)
    rw [rx 2 (by omega), rx 1 (by omega)] at f4
    have sp1 := d.spec (nld_eq ig hL).1
    have sp2 := f4.spec (nld_eq ig (L := M) (by omega)).1
    have r10 : hf.1 10 = h.1 10 := by rw [f5 10 (by omega), rx 10 (by omega)]
    obtain ⟨h', a1, a2, a3, a4⟩ := c_chL D1 D2 (by omega) (n := nld (h.1 2) hi wi (h.1 1 5) M) (N := (hi + 2) * (wi + 2)) (A := h.1 10) (M := hf.1 18) (idx := lst (h.1 2) hi wi (h.1 1 5) (M : Int)) (nld_eq ig (L := M) (by omega)).2 hN (fun j hj => ⟨(sp2.2.2 j hj).1, (sp2.2.2 j hj).2.1⟩) (fun j hj => by
      have i := (sp2.2.2 j hj).2
      rw [sp1.2.1 _ i.1]
      exact lav_in ig (by omega) hLM i) (nld (h.1 2) hi wi (h.1 1 5) M) 0 200 hf (by omega) (by have := (nld_eq ig (L := M) (by omega)).2; omega) sp2.1 rfl r10 (by
      intro l hl
      rw [f5 14 (by omega), hs_row, z0 l hl]
      rfl)
    have q1 : QF hf h' := ⟨fun a b1 _ _ => a4 a (by omega), fun j _ _ _ _ => by rw [a4 73 (by omega)], a3⟩
    refine ⟨h', ?_, q0.trans (f2.trans q1), ⟨f3.1.fr (fun a ha => a4 a (by omega)), f3.2.1.fr8 (fun a ha => a4 a (by omega)), f3.2.2.fr15 (fun a ha => a4 a (by omega))⟩, by rw [a4 8 (by omega), f5 8 (by omega), rx 8 (by omega)], fun l hl => ?_, fun _ => ?_⟩
    · rw [if_neg (by omega), f1, bs]
      exact a1
    · rw [a2 l hl]
      exact chd_A z (fun j hj => sp1.2.1 _ (sp2.2.2 j hj).2.1)
    · rw [a4 17 (by omega), a4 18 (by omega), a4 19 (by omega), a4 20 (by omega), a4 15 (by omega)]
      exact f4
  · rw [if_pos (by omega)]
    refine ⟨_, rfl, q0, ic0, by rw [rx 8 (by omega)], fun l hl => ?_, fun w => absurd w z⟩
    rw [hs_row, z0 l hl]
    unfold chd
    rw [if_neg z]
theorem c_child15 (gs : GS G) (ig : IG G h hi wi) (ic : IC h hi wi) {L M : Nat} (hL : L ≤ 99) (hLM : L ≤ M) (d : DR (h.1 17) (h.1 18) (h.1 19) (h.1 20) (h.1 15 7) (h.1 2) hi wi (h.1 1 5) (L : Int) ((hi + 2) * (wi + 2))) : ∃ h' : ct_H, f_X6_countChildren G h 15 8 (M : Int) = some h' ∧ QF h h' ∧ IC h' hi wi ∧ h'.1 15 7 = h.1 15 7 ∧ (∀ l, l < 49 → h'.1 21 l = chd (h.1 2) hi wi (h.1 1 5) L M l) ∧ (M < 100 → DR (h'.1 10) (h'.1 11) (h'.1 12) (h'.1 13) (h'.1 8 7) (h.1 2) hi wi (h.1 1 5) (M : Int) ((hi + 2) * (wi + 2))) := by
  have g8 := ig.1.2.2.2.2.2.2.2.1
  have g9 := ig.1.2.2.2.2.2.2.2.2
  have hN := N81 g8 g9
  have D1 := gs.2.2.2.1.2.1
  have D2 := gs.2.2.2.1.1
  unfold f_X6_countChildren f_X1_clearChildren
  rw [D1.1.2.2.2.2.2.2.2.2.2.2.2.1, fill_eq (by rw [D1.1.2.2.2.2.2.2.2.2.2.2.2.2]; omega), bs, bs, D1.1.2.2.2.2.2.2.2.2.2.2.2.2]
  generalize hZ : (fun j => if j < 49 then (0 : Int) else h.1 21 j) = Z
  have z0 : ∀ l, l < 49 → Z l = 0 := fun l hl => by rw [← hZ]; exact if_pos hl
  have rx : ∀ a, a ≠ 21 → (hs h 21 Z).1 a = h.1 a := fun a ha => hs_orow _ _ ha
  have q0 : QF h (hs h 21 Z) := ⟨fun a a1 _ _ => rx a (by omega), fun j _ _ _ _ => by rw [rx 73 (by omega)], rfl⟩
  have ic0 : IC (hs h 21 Z) hi wi := ⟨ic.1.fr (fun a ha => rx a (by omega)), ic.2.1.fr8 (fun a ha => rx a (by omega)), ic.2.2.fr15 (fun a ha => rx a (by omega))⟩
  by_cases z : M < 100
  · obtain ⟨hf, f1, f2, f3, f4, f5⟩ := c_find gs (ig.q q0) ic0 (L := (M : Int)) (by omega)
    rw [rx 2 (by omega), rx 1 (by omega)] at f4
    have sp1 := d.spec (nld_eq ig hL).1
    have sp2 := f4.spec (nld_eq ig (L := M) (by omega)).1
    have r17 : hf.1 17 = h.1 17 := by rw [f5 17 (by omega), rx 17 (by omega)]
    obtain ⟨h', a1, a2, a3, a4⟩ := c_chL D1 D2 (by omega) (n := nld (h.1 2) hi wi (h.1 1 5) M) (N := (hi + 2) * (wi + 2)) (A := h.1 17) (M := hf.1 11) (idx := lst (h.1 2) hi wi (h.1 1 5) (M : Int)) (nld_eq ig (L := M) (by omega)).2 hN (fun j hj => ⟨(sp2.2.2 j hj).1, (sp2.2.2 j hj).2.1⟩) (fun j hj => by
      have i := (sp2.2.2 j hj).2
      rw [sp1.2.1 _ i.1]
      exact lav_in ig (by omega) hLM i) (nld (h.1 2) hi wi (h.1 1 5) M) 0 200 hf (by omega) (by have := (nld_eq ig (L := M) (by omega)).2; omega) sp2.1 rfl r17 (by
      intro l hl
      rw [f5 21 (by omega), hs_row, z0 l hl]
      rfl)
    have q1 : QF hf h' := ⟨fun a b1 _ _ => a4 a (by omega), fun j _ _ _ _ => by rw [a4 73 (by omega)], a3⟩
    refine ⟨h', ?_, q0.trans (f2.trans q1), ⟨f3.1.fr (fun a ha => a4 a (by omega)), f3.2.1.fr8 (fun a ha => a4 a (by omega)), f3.2.2.fr15 (fun a ha => a4 a (by omega))⟩, by rw [a4 15 (by omega), f5 15 (by omega), rx 15 (by omega)], fun l hl => ?_, fun _ => ?_⟩
    · rw [if_neg (by omega), f1, bs]
      exact a1
    · rw [a2 l hl]
      exact chd_A z (fun j hj => sp1.2.1 _ (sp2.2.2 j hj).2.1)
    · rw [a4 10 (by omega), a4 11 (by omega), a4 12 (by omega), a4 13 (by omega), a4 8 (by omega)]
      exact f4
  · rw [if_pos (by omega)]
    refine ⟨_, rfl, q0, ic0, by rw [rx 15 (by omega)], fun l hl => ?_, fun w => absurd w z⟩
    rw [hs_row, z0 l hl]
    unfold chd
    rw [if_neg z]
/-- what a level adds, told by the class -/
theorem c_tvl {o og c cR cA cM cS cT cK : Nat} (d : DO G o og c cR cA cM cS cT cK) {F : Nat → Int} {kd w : Int} {L M : Nat} (hn : nld F hi wi kd L ≤ 49) (e1 : h.1 o 7 = (nld F hi wi kd L : Nat)) (e2 : ∀ l, l < 49 → h.1 cK l = chd F hi wi kd L M l) (K : Int → Option (Int × ct_H)) : (if w = 0 then (K (h.1 o 7)) else if w = 1 then ((f_X1_leaves G h o).bind fun v11 => K v11) else (f_X1_forks G h o).bind fun v10 => K v10) = K (tvl F hi wi kd w L M) := by
  have ll := c_leavesL (h := h) d hn e1 (fun l hl => e2 l (by omega)) (nld F hi wi kd L) 0 200 0 (by omega) (by omega) (by omega) (by omega)
  rw [Int.zero_add, Int.zero_add] at ll
  unfold tvl f_X1_leaves f_X1_forks
  rw [show ((0 : Nat) : Int) = 0 from rfl] at ll
  rw [ll.1, ll.2, bs, bs, e1]
  by_cases a : w = 0
  · rw [if_pos a, if_pos a]
  · rw [if_neg a, if_neg a]
    by_cases b : w = 1
    · rw [if_pos b, if_pos b]
    · rw [if_neg b, if_neg b]
theorem c_treeL (gs : GS G) {F : Nat → Int} {kd w : Int} {s : Nat} (hs1 : 1 ≤ s ∧ s ≤ 50) : ∀ (f L : Nat) (a : Int) (h : ct_H), 100 < f + L → 1 ≤ f → L ≤ 149 → 0 ≤ a → a ≤ 49 * L → IG G h hi wi → IC h hi wi → h.1 2 = F → h.1 1 5 = kd → ((L < 100 → DR (h.1 10) (h.1 11) (h.1 12) (h.1 13) (h.1 8 7) F hi wi kd (L : Int) ((hi + 2) * (wi + 2))) → ∃ h' : ct_H, l_X6_tree_28 G (s : Int) w f (a, 8, 15, (L : Int), h) = some (a + tsm F hi wi kd w s f L, h') ∧ QF h h' ∧ IC h' hi wi) ∧ ((L < 100 → DR (h.1 17) (h.1 18) (h.1 19) (h.1 20) (h.1 15 7) F hi wi kd (L : Int) ((hi + 2) * (wi + 2))) → ∃ h' : ct_H, l_X6_tree_28 G (s : Int) w f (a, 15, 8, (L : Int), h) = some (a + tsm F hi wi kd w s f L, h') ∧ QF h h' ∧ IC h' hi wi)
  | 0, L, a, h, _, h1, _, _, _, _, _, _, _ => absurd h1 (by omega)
  | f + 1, L, a, h, h0, _, hL, h3, h4, ig, ic, e1, e2 => by
    by_cases z : L < 100
    · have ne := nld_eq ig (L := L) (by omega)
      rw [e1, e2] at ne
      have tb := tvl_b (w := w) (M := L + s) ne.2
      have stop : nld F hi wi kd L = 0 → tsm F hi wi kd w s (f + 1) L = 0 := fun q => tsm_0 (f + 1) L (fun M hM => by
        have := nld_up ig (L := L) (M := M) (by omega) hM (by rw [e1, e2]; exact q)
        rwa [e1, e2] at this)
      have tse : tsm F hi wi kd w s (f + 1) L = tvl F hi wi kd w L (L + s) + tsm F hi wi kd w s f (L + s) := by rw [tsm, if_neg (by omega)]
      refine ⟨fun d => ?_, fun d => ?_⟩
      · have d' := d z
        have dn := d'.1.trans ne.1
        by_cases q : nld F hi wi kd L = 0
        · refine ⟨h, ?_, QF.refl, ic⟩
          rw [l_X6_tree_28, if_neg (by dsimp only; omega), if_pos (by dsimp only; omega), stop q, Int.add_zero]
        · obtain ⟨h1, c1, c2, c3, c4, c5, c6⟩ := c_child8 gs ig ic (L := L) (M := L + s) (by omega) (by omega) (by rw [e1, e2]; exact d')
          rw [e1, e2] at c5 c6
          have ih := (c_treeL gs (F := F) (kd := kd) (w := w) hs1 f (L + s) (a + tvl F hi wi kd w L (L + s)) h1 (by omega) (by omega) (by omega) (by omega) (by omega) (ig.q c2) c3 (c2.row2.1.trans e1) (by rw [c2.row2.2]; exact e2)).2 c6
          obtain ⟨h2, i1, i2, i3⟩ := ih
          refine ⟨h2, ?_, c2.trans i2, i3⟩
          rw [l_X6_tree_28, if_neg (by dsimp only; omega), if_neg (by dsimp only; omega)]
          dsimp only
          rw [wr_id (a := (L : Int) + (s : Int)) (by omega) (by omega), show (L : Int) + (s : Int) = ((L + s : Nat) : Int) by omega, c1, bs, jn_eq]
          refine (c_tvl gs.2.2.2.1.1 (F := F) (kd := kd) (w := w) (M := L + s) ne.2 (by rw [c4]; exact dn) c5 _).trans ?_
          rw [lt_eq, lt_eq, wr_id (by omega) (by omega), i1, tse, Int.add_assoc]
      · have d' := d z
        have dn := d'.1.trans ne.1
        by_cases q : nld F hi wi kd L = 0
        · refine ⟨h, ?_, QF.refl, ic⟩
          rw [l_X6_tree_28, if_neg (by dsimp only; omega), if_pos (by dsimp only; omega), stop q, Int.add_zero]
        · obtain ⟨h1, c1, c2, c3, c4, c5, c6⟩ := c_child15 gs ig ic (L := L) (M := L + s) (by omega) (by omega) (by rw [e1, e2]; exact d')
          rw [e1, e2] at c5 c6
          have ih := (c_treeL gs (F := F) (kd := kd) (w := w) hs1 f (L + s) (a + tvl F hi wi kd w L (L + s)) h1 (by omega) (by omega) (by omega) (by omega) (by omega) (ig.q c2) c3 (c2.row2.1.trans e1) (by rw [c2.row2.2]; exact e2)).1 c6
          obtain ⟨h2, i1, i2, i3⟩ := ih
          refine ⟨h2, ?_, c2.trans i2, i3⟩
          rw [l_X6_tree_28, if_neg (by dsimp only; omega), if_neg (by dsimp only; omega)]
          dsimp only
          rw [wr_id (a := (L : Int) + (s : Int)) (by omega) (by omega), show (L : Int) + (s : Int) = ((L + s : Nat) : Int) by omega, c1, bs, jn_eq]
          refine (c_tvl gs.2.2.2.1.2.1 (F := F) (kd := kd) (w := w) (M := L + s) ne.2 (by rw [c4]; exact dn) c5 _).trans ?_
          rw [lt_eq, lt_eq, wr_id (by omega) (by omega), i1, tse, Int.add_assoc]
    · have te : tsm F hi wi kd w s (f + 1) L = 0 := by rw [tsm, if_pos (by omega)]
      refine ⟨fun _ => ⟨h, ?_, QF.refl, ic⟩, fun _ => ⟨h, ?_, QF.refl, ic⟩⟩
      · rw [l_X6_tree_28, if_pos (by dsimp only; omega), te, Int.add_zero]
      · rw [l_X6_tree_28, if_pos (by dsimp only; omega), te, Int.add_zero]
end
