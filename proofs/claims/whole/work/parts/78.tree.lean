/-! the call tree: the spec, and the class -/
section
variable {F : Nat → Int} {hi wi : Nat} {kd : Int}
noncomputable def lav (F : Nat → Int) (hi wi : Nat) (kd : Int) (L : Int) (x : Nat) : Int := @Classical.epsilon Int ⟨0⟩ (fun v => LD F hi wi kd L x v)
noncomputable def lst (F : Nat → Int) (hi wi : Nat) (kd : Int) (L : Int) (l : Nat) : Nat := @Classical.epsilon Nat ⟨0⟩ (fun z => isl F hi wi kd L z ∧ nmb F hi wi kd L z = (l : Int))
theorem lav_eq {L v : Int} {x : Nat} (h : LD F hi wi kd L x v) : lav F hi wi kd L x = v := LD_uniq (@Classical.epsilon_spec Int (fun v => LD F hi wi kd L x v) ⟨v, h⟩) h
theorem lst_eq {L : Int} {l z : Nat} (h : isl F hi wi kd L z) (h2 : nmb F hi wi kd L z = (l : Int)) : lst F hi wi kd L l = z := by
  have e := @Classical.epsilon_spec Nat (fun z => isl F hi wi kd L z ∧ nmb F hi wi kd L z = (l : Int)) ⟨z, h, h2⟩
  exact nmb_inj e.1 h (e.2.trans h2.symm)
noncomputable def nld (F : Nat → Int) (hi wi : Nat) (kd : Int) (L : Nat) : Nat := (nmb F hi wi kd (L : Int) ((hi + 2) * (wi + 2))).toNat
/-- how many lands of level M lie in land l of level L -/
noncomputable def chd (F : Nat → Int) (hi wi : Nat) (kd : Int) (L M l : Nat) : Int := if M < 100 then sm (fun j => if lav F hi wi kd (L : Int) (lst F hi wi kd (M : Int) j) = (l : Int) then 1 else 0) 0 (nld F hi wi kd M) else 0
noncomputable def tvl (F : Nat → Int) (hi wi : Nat) (kd w : Int) (L M : Nat) : Int := if w = 0 then (nld F hi wi kd L : Int) else if w = 1 then sm (fun l => if chd F hi wi kd L M l = 0 then 1 else 0) 0 (nld F hi wi kd L) else sm (fun l => if chd F hi wi kd L M l ≤ 1 then 0 else 1) 0 (nld F hi wi kd L)
noncomputable def tsm (F : Nat → Int) (hi wi : Nat) (kd w : Int) (s : Nat) : Nat → Nat → Int
  | 0, _ => 0
  | n + 1, L => if 100 ≤ L then 0 else tvl F hi wi kd w L (L + s) + tsm F hi wi kd w s n (L + s)
theorem tvl_b {w : Int} {L M : Nat} (hn : nld F hi wi kd L ≤ 49) : 0 ≤ tvl F hi wi kd w L M ∧ tvl F hi wi kd w L M ≤ 49 := by
  unfold tvl
  split
  · omega
  · split
    · have := sm_le (f := fun l => if chd F hi wi kd L M l = 0 then 1 else 0) (b := 1) (by omega) (m := nld F hi wi kd L) (i := 0) (fun j _ _ => by split <;> omega)
      have := sm_nonneg (f := fun l => if chd F hi wi kd L M l = 0 then 1 else 0) (m := nld F hi wi kd L) (i := 0) (fun j _ _ => by split <;> omega)
      omega
    · have := sm_le (f := fun l => if chd F hi wi kd L M l ≤ 1 then 0 else 1) (b := 1) (by omega) (m := nld F hi wi kd L) (i := 0) (fun j _ _ => by split <;> omega)
      have := sm_nonneg (f := fun l => if chd F hi wi kd L M l ≤ 1 then 0 else 1) (m := nld F hi wi kd L) (i := 0) (fun j _ _ => by split <;> omega)
      omega
theorem tvl_0 {w : Int} {L M : Nat} (hn : nld F hi wi kd L = 0) : tvl F hi wi kd w L M = 0 := by
  unfold tvl
  rw [hn]
  split
  · rfl
  · split <;> rfl
theorem tsm_0 {w : Int} {s : Nat} : ∀ (n L : Nat), (∀ M, L ≤ M → nld F hi wi kd M = 0) → tsm F hi wi kd w s n L = 0
  | 0, _, _ => rfl
  | n + 1, L, h => by
    rw [tsm]
    split
    · rfl
    · rw [tvl_0 (h L (Nat.le_refl _)), tsm_0 n (L + s) (fun M hM => h M (by omega))]
      rfl
end
section
variable {G : ct_G} {h : ct_H} {hi wi : Nat} {B : Int}
theorem nld_eq (ig : IG G h hi wi) {L : Nat} (hL : L ≤ 99) : nmb (h.1 2) hi wi (h.1 1 5) (L : Int) ((hi + 2) * (wi + 2)) = (nld (h.1 2) hi wi (h.1 1 5) L : Nat) ∧ nld (h.1 2) hi wi (h.1 1 5) L ≤ 49 := by
  have g8 := ig.1.2.2.2.2.2.2.2.1
  have g9 := ig.1.2.2.2.2.2.2.2.2
  have n49 := nmb_49 (kd := h.1 1 5) g8 g9 (ig.2.2.1.RM g9) (show (0 : Int) ≤ (L : Int) by omega) (a := (hi + 2) * (wi + 2)) (N81 g8 g9)
  have n0 := nmb_0 (F := h.1 2) (hi := hi) (wi := wi) (kd := h.1 1 5) (L := (L : Int)) (a := (hi + 2) * (wi + 2))
  unfold nld
  omega
/-- no land at a level: none further up -/
theorem nld_up (ig : IG G h hi wi) {L M : Nat} (hL : L ≤ 99) (hLM : L ≤ M) (h0 : nld (h.1 2) hi wi (h.1 1 5) L = 0) : nld (h.1 2) hi wi (h.1 1 5) M = 0 := by
  have g8 := ig.1.2.2.2.2.2.2.2.1
  have g9 := ig.1.2.2.2.2.2.2.2.2
  have hN := N81 g8 g9
  have rm := ig.2.2.1.RM g9
  have e := (nld_eq ig hL).1
  rw [h0] at e
  have out : ∀ x, x < (hi + 2) * (wi + 2) → h.1 2 x < (L : Int) := by
    intro x hx
    apply Classical.byContradiction
    intro w
    obtain ⟨z, z1, z2⟩ := pk_least (fun y => con (h.1 2) hi wi (h.1 1 5) (L : Int) y x) ⟨x, con_refl⟩
    have ci := con_in g8 g9 z1
    have iz : isl (h.1 2) hi wi (h.1 1 5) (L : Int) z := ⟨ci.2.mpr hx, fun u => w (ci.1.mp u), fun y cy => Classical.byContradiction fun u => z2 y (by omega) (con_trans cy z1)⟩
    have lt := nmb_lt (show z < (hi + 2) * (wi + 2) from ci.2.mpr hx) iz
    have := nmb_0 (F := h.1 2) (hi := hi) (wi := wi) (kd := h.1 1 5) (L := (L : Int)) (a := z)
    omega
  have : nmb (h.1 2) hi wi (h.1 1 5) (M : Int) ((hi + 2) * (wi + 2)) = 0 := by
    unfold nmb
    refine sm_zero (fun y _ y2 => b01_f (fun i => i.2.1 ?_))
    have := out y (by omega)
    omega
  unfold nld
  rw [this]
  rfl
/-- the class's rows at a level are the spec's -/
theorem DR.spec {A M S T : Nat → Int} {n : Int} {F : Nat → Int} {kd : Int} {L : Nat} (d : DR A M S T n F hi wi kd (L : Int) ((hi + 2) * (wi + 2))) (hn : nmb F hi wi kd (L : Int) ((hi + 2) * (wi + 2)) = (nld F hi wi kd L : Nat)) : n = (nld F hi wi kd L : Nat) ∧ (∀ x, x < (hi + 2) * (wi + 2) → A x = lav F hi wi kd (L : Int) x) ∧ ∀ l, l < nld F hi wi kd L → M l = (lst F hi wi kd (L : Int) l : Nat) ∧ isl F hi wi kd (L : Int) (lst F hi wi kd (L : Int) l) := by
  refine ⟨d.1.trans hn, fun x hx => (lav_eq (d.2.1 x hx)).symm, fun l hl => ?_⟩
  obtain ⟨z, z1, z2, z3⟩ := nmb_sur (F := F) (hi := hi) (wi := wi) (kd := kd) (L := (L : Int)) (l := (l : Int)) (by omega) ((hi + 2) * (wi + 2)) (by omega)
  have m := (d.2.2 z z1 z2).1
  rw [z3, Int.toNat_natCast] at m
  rw [lst_eq z2 z3]
  exact ⟨m, z2⟩
/-- a land of a higher level lies in a land of a lower one -/
theorem lav_in (ig : IG G h hi wi) {L M : Nat} (hM : M ≤ 99) (hLM : L ≤ M) {z : Nat} (iz : isl (h.1 2) hi wi (h.1 1 5) (M : Int) z) : 0 ≤ lav (h.1 2) hi wi (h.1 1 5) (L : Int) z ∧ lav (h.1 2) hi wi (h.1 1 5) (L : Int) z ≤ 48 := by
  have g8 := ig.1.2.2.2.2.2.2.2.1
  have g9 := ig.1.2.2.2.2.2.2.2.2
  have rm := ig.2.2.1.RM g9
  have zin : ¬ h.1 2 z < (L : Int) := fun u => iz.2.1 (by omega)
  obtain ⟨y, y1, y2⟩ := pk_least (fun y => con (h.1 2) hi wi (h.1 1 5) (L : Int) y z) ⟨z, con_refl⟩
  have ci := con_in g8 g9 y1
  have iy : isl (h.1 2) hi wi (h.1 1 5) (L : Int) y := ⟨ci.2.mpr iz.1, fun u => zin (ci.1.mp u), fun x cx => Classical.byContradiction fun u => y2 x (by omega) (con_trans cx y1)⟩
  rw [lav_eq (Or.inr ⟨zin, y, iy, y1, rfl⟩)]
  exact isl_48 g8 g9 rm (by omega) iy
theorem c_chL {o1 og1 c1 cR1 cA1 cM1 cS1 cT1 cK1 o2 og2 c2 cR2 cA2 cM2 cS2 cT2 cK2 : Nat} (d1 : DO G o1 og1 c1 cR1 cA1 cM1 cS1 cT1 cK1) (d2 : DO G o2 og2 c2 cR2 cA2 cM2 cS2 cT2 cK2) (nk : cK1 ≠ o2 ∧ cK1 ≠ cM2 ∧ cK1 ≠ cA1) {n N : Nat} {A M : Nat → Int} {idx : Nat → Nat} (hn : n ≤ 49) (hN : N ≤ 81) (hM : ∀ j, j < n → M j = (idx j : Nat) ∧ idx j < N) (hA : ∀ j, j < n → 0 ≤ A (idx j) ∧ A (idx j) ≤ 48) : ∀ (t i f : Nat) (h : ct_H), i + t = n → t < f → h.1 o2 7 = (n : Int) → h.1 cM2 = M → h.1 cA1 = A → (∀ l, l < 49 → h.1 cK1 l = sm (fun j => if A (idx j) = (l : Int) then 1 else 0) 0 i) → ∃ h' : ct_H, l_X6_countChildren_10 G o1 o2 f ((i : Int), h) = some h' ∧ (∀ l, l < 49 → h'.1 cK1 l = sm (fun j => if A (idx j) = (l : Int) then 1 else 0) 0 n) ∧ h'.2 = h.2 ∧ ∀ a, a ≠ cK1 → h'.1 a = h.1 a
  | 0, i, f + 1, h, h1, h2, e1, e2, e3, e4 => by
    have : i = n := by omega
    subst this
    refine ⟨h, ?_, e4, rfl, fun _ _ => rfl⟩
    rw [l_X6_countChildren_10, e1, if_pos (by dsimp only; omega)]
  | t + 1, i, f + 1, h, h1, h2, e1, e2, e3, e4 => by
    have m := hM i (by omega)
    have a := hA i (by omega)
    obtain ⟨v, hv⟩ := Int.eq_ofNat_of_zero_le a.1
    have sb : 0 ≤ sm (fun j => if A (idx j) = (v : Int) then 1 else 0) 0 i ∧ sm (fun j => if A (idx j) = (v : Int) then 1 else 0) 0 i ≤ i := by
      have := sm_le (f := fun j => if A (idx j) = (v : Int) then 1 else 0) (b := 1) (by omega) (m := i) (i := 0) (fun j _ _ => by split <;> omega)
      exact ⟨sm_nonneg (fun j _ _ => by split <;> omega), by omega⟩
    rw [l_X6_countChildren_10, e1, if_neg (by dsimp only; omega)]
    dsimp only
    unfold f_X1_addChild
    rw [d2.1.2.2.2.2.2.1, rdN (by rw [d2.1.2.2.2.2.2.2.1]; omega), bs, e2, m.1, d1.1.2.2.2.1, rdN (by rw [d1.1.2.2.2.2.1]; omega), bs, e3, hv, if_neg (show ¬ (v : Int) < 0 by omega), d1.1.2.2.2.2.2.2.2.2.2.2.2.1, rdN (by rw [d1.1.2.2.2.2.2.2.2.2.2.2.2.2]; omega), bs, e4 v (by omega), wr_id (a := sm (fun j => if A (idx j) = (v : Int) then 1 else 0) 0 i + 1) (by omega) (by omega), wtN (by rw [d1.1.2.2.2.2.2.2.2.2.2.2.2.2]; omega), bs, bs, wr_id (by omega) (by omega), show (i : Int) + 1 = ((i + 1 : Nat) : Int) by omega]
    obtain ⟨h', a1, a2, a3, a4⟩ := c_chL d1 d2 nk hn hN hM hA t (i + 1) f (hs h cK1 (up (h.1 cK1) v (sm (fun j => if A (idx j) = (v : Int) then 1 else 0) 0 i + 1))) (by omega) (by omega) (by rw [hs_orow _ _ (fun w => nk.1 w.symm)]; exact e1) (by rw [hs_orow _ _ (fun w => nk.2.1 w.symm)]; exact e2) (by rw [hs_orow _ _ (fun w => nk.2.2 w.symm)]; exact e3) (by
      intro l hl
      rw [hs_row, sm_last, Nat.zero_add, hv]
      by_cases e : l = v
      · subst e; rw [up_same, if_pos rfl]
      · rw [up_other _ _ e, if_neg (by omega), Int.add_zero]; exact e4 l hl)
    exact ⟨h', a1, a2, a3, fun x hx => (a4 x hx).trans (hs_orow _ _ hx)⟩
theorem c_leavesL {o og c cR cA cM cS cT cK : Nat} (d : DO G o og c cR cA cM cS cT cK) {n : Nat} {X : Nat → Int} (hn : n ≤ 49) (e1 : h.1 o 7 = (n : Int)) (e2 : ∀ l, l < n → h.1 cK l = X l) : ∀ (t i f : Nat) (a : Int), i + t = n → t < f → 0 ≤ a → a + t < 1000 → l_X1_leaves_4 G o h f (a, (i : Int)) = some (a + sm (fun l => if X l = 0 then 1 else 0) i t) ∧ l_X1_forks_4 G o h f (a, (i : Int)) = some (a + sm (fun l => if X l ≤ 1 then 0 else 1) i t)
  | 0, i, f + 1, a, h1, h2, h3, h4 => by
    rw [l_X1_leaves_4, l_X1_forks_4, e1, if_pos (by dsimp only; omega), if_pos (by dsimp only; omega)]
    simp [sm]
  | t + 1, i, f + 1, a, h1, h2, h3, h4 => by
    have ih := fun a' x y => c_leavesL d hn e1 e2 t (i + 1) f a' (by omega) (by omega) x y
    rw [show ((i + 1 : Nat) : Int) = (i : Int) + 1 by omega] at ih
    constructor
    · rw [l_X1_leaves_4, e1, if_neg (by dsimp only; omega)]
      dsimp only
      rw [d.1.2.2.2.2.2.2.2.2.2.2.2.1, rdN (by rw [d.1.2.2.2.2.2.2.2.2.2.2.2.2]; omega), bs, jn_eq, e2 i (by omega), wr_id (a := (i : Int) + 1) (by omega) (by omega), sm]
      by_cases z : X i = 0
      · rw [if_pos z, if_pos z]
        dsimp only
        rw [wr_id (by omega) (by omega), (ih _ (by omega) (by omega)).1, Int.add_assoc]
      · rw [if_neg z, if_neg z]
        dsimp only
        rw [(ih _ (by omega) (by omega)).1, Int.zero_add]
    · rw [l_X1_forks_4, e1, if_neg (by dsimp only; omega)]
      dsimp only
      rw [d.1.2.2.2.2.2.2.2.2.2.2.2.1, rdN (by rw [d.1.2.2.2.2.2.2.2.2.2.2.2.2]; omega), bs, jn_eq, e2 i (by omega), wr_id (a := (i : Int) + 1) (by omega) (by omega), sm]
      by_cases z : X i ≤ 1
      · rw [if_pos z, if_pos z]
        dsimp only
        rw [(ih _ (by omega) (by omega)).2, Int.zero_add]
      · rw [if_neg z, if_neg z]
        dsimp only
        rw [wr_id (by omega) (by omega), (ih _ (by omega) (by omega)).2, Int.add_assoc]
end
