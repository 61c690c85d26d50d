/-! how many lines each level has -/
section
variable {nxt nxt' : Nat → Nat} {C : Nat → Prop} {xr xr' : Nat → Int}
theorem fol_cg (hC : ∀ e, C e → nxt e = nxt' e ∧ C (nxt e)) {l : Int} : ∀ (n e : Nat) (lf od : Nat → Int) (nd : Nat), C e → fol nxt l n e lf od nd = fol nxt' l n e lf od nd
  | 0, e, lf, od, nd, _ => rfl
  | n + 1, e, lf, od, nd, he => by
    rw [fol, fol, ← (hC e he).1]
    by_cases z : lf e = -5
    · rw [if_pos z, if_pos z]
      exact fol_cg hC n _ _ _ _ (hC e he).2
    · rw [if_neg z, if_neg z]
theorem scn_cg (hC : ∀ e, C e → nxt e = nxt' e ∧ C (nxt e)) (hx : ∀ i, xr i = 1 → C i) : ∀ (m i : Nat) (t : LSt), (∀ j, i ≤ j → j < i + m → xr j = xr' j) → scn nxt xr m i t = scn nxt' xr' m i t
  | 0, i, t, _ => rfl
  | m + 1, i, t, h => by
    rw [scn, scn]
    have e : stp nxt xr i t = stp nxt' xr' i t := by
      unfold stp
      rw [← h i (by omega) (by omega)]
      by_cases z : xr i = 1 ∧ t.1 i = -5
      · rw [if_pos z, if_pos z, fol_cg hC _ _ _ _ _ (hx i z.1)]
      · rw [if_neg z, if_neg z]
    rw [e]
    exact scn_cg hC hx m (i + 1) _ (fun j a b => h j (by omega) (by omega))
end
section
variable {F : Nat → Int} {hi wi : Nat} {L M kd : Int}
theorem no_CE (h1 : 2 ≤ hi ∧ hi ≤ 7) (h2 : 2 ≤ wi ∧ wi ≤ 7) (r : RM F hi wi) (hL : 0 ≤ L) (hn : ∀ e, ¬ CE F hi wi L e) : ∀ q, q < 81 → F q < L := by
  intro q
  induction q with
  | zero =>
    intro _
    have := r.2 0 (by omega) (by simp)
    omega
  | succ q ih =>
    intro hq
    have i1 := ih (by omega)
    apply Classical.byContradiction
    intro z
    by_cases y : q % (wi + 2) ≤ wi
    · by_cases w : q < (hi + 2) * (wi + 2)
      · refine hn (2 * q) (CE_of h1 h2 r hL ⟨by omega, Or.inl ⟨by omega, by rw [show 2 * q / 2 = q by omega]; exact y⟩⟩ ?_)
        have o1 : oth (wi + 2) (2 * q) = q + 1 := by unfold oth; rw [if_pos (by omega)]; omega
        unfold XC
        rw [o1, show 2 * q / 2 = q by omega]
        exact if_neg (fun v => z (v.mp i1))
      · have d := (dm_lt (p := q + 1) h1 h2).1
        have := r.2 (q + 1) hq (by omega)
        omega
    · have d : (q + 1) % (wi + 2) = 0 := by
        have ml : q % (wi + 2) < wi + 2 := Nat.mod_lt _ (by omega)
        rcases w_cases h2 with rfl | rfl | rfl | rfl | rfl | rfl <;> omega
      have := r.2 (q + 1) hq (by omega)
      omega
theorem sp_zero (h1 : 2 ≤ hi ∧ hi ≤ 7) (h2 : 2 ≤ wi ∧ wi ≤ 7) (r : RM F hi wi) (hL : 0 ≤ L) (hLM : L ≤ M) (hz : (spL F hi wi kd L).2.2.2.1 = 0) : (spL F hi wi kd M).2.2.2.1 = 0 := by
  have li := spL_LI (kd := kd) h1 h2 r hL
  have hn : ∀ e, ¬ CE F hi wi L e := by
    intro e ce
    have a := li.2 e ce
    have b := li.1.2.2.2.2.1 e (inner_lt h1 h2 ce.1).2
    rw [hz] at b
    rcases b with b | b
    · exact a b
    · omega
  have low := no_CE h1 h2 r hL hn
  have hN := N81 h1 h2
  unfold spL
  rw [scn_idle]
  intro j _ _ x
  have ce := (XE_CE h1 h2 r (by omega : 0 ≤ M)).mp x
  have ie := inner_edg h1 h2 ce.1
  have ol := oth_lt h1 h2 ie
  have il := inner_lt h1 h2 ce.1
  have f1 := low (j / 2) (by omega)
  have f2 := low (oth (wi + 2) j) (by omega)
  have := ce.2
  rw [XC0 (by omega) (by omega)] at this
  omega
theorem sp_like (h1 : 2 ≤ hi ∧ hi ≤ 7) (h2 : 2 ≤ wi ∧ wi ≤ 7) (r : RM F hi wi) (hL : 0 ≤ L) (hM : 0 ≤ M) (k2 : kd ≠ 2) (k4 : kd ≠ 4) (hf : ∀ q, q < 81 → (F q < L ↔ F q < M)) : spL F hi wi kd L = spL F hi wi kd M := by
  have hN := N81 h1 h2
  have cn := CE_n (kd := kd) h1 h2 r hL
  unfold spL
  refine scn_cg (C := CE F hi wi L) ?_ cn.2.2.2 162 0 _ ?_
  · intro e ce
    refine ⟨?_, (cn.1 e ce).2⟩
    have il := inner_lt h1 h2 ce.1
    have ic := inner_cor (F := F) (L := L) h1 h2 ce.1
    have sl := sq_lt h1 h2 ic.1 ic.2.1
    have ee : ecor F (wi + 2) M e = ecor F (wi + 2) L e := by
      unfold ecor
      have := hf (e / 2) (by omega)
      by_cases z : F (e / 2) < L
      · simp only [if_pos z, if_pos (this.mp z)]
      · simp only [if_neg z, if_neg (fun w => z (this.mpr w))]
    have es : esid F M e = esid F L e := by
      unfold esid
      have := hf (e / 2) (by omega)
      by_cases z : F (e / 2) < L
      · simp only [if_pos z, if_pos (this.mp z)]
      · simp only [if_neg z, if_neg (fun w => z (this.mpr w))]
    rw [nx_out, nx_out, ee, es]
    generalize ecor F (wi + 2) L e = q at sl
    have d : ∀ p, p < 81 → decide (F p < L) = decide (F p < M) := fun p hp => by rw [decide_eq_decide]; exact hf p hp
    have ej : jd F (wi + 2) kd q L = jd F (wi + 2) kd q M := by
      unfold jd
      rw [if_neg k2, if_neg k4, if_neg k2, if_neg k4]
    rw [d q (by omega), d (q + 1) (by omega), d (q + (wi + 2) + 1) (by omega), d (q + (wi + 2)) (by omega), ej]
  · intro j _ _
    unfold XE
    by_cases z : edg hi wi j
    · have ol := oth_lt h1 h2 z
      have z1 := z.1
      unfold edg at z
      rw [if_pos z, if_pos z]
      unfold XC
      have a := hf (j / 2) (by omega)
      have b := hf (oth (wi + 2) j) (by omega)
      by_cases y : (F (j / 2) < L ↔ F (oth (wi + 2) j) < L)
      · rw [if_pos y, if_pos (by rw [← a, ← b]; exact y)]
      · rw [if_neg y, if_neg (by rw [← a, ← b]; exact y)]
    · unfold edg at z
      rw [if_neg z, if_neg z]
end
/-- the class's rows for lines are right where they are marked so -/
def LV (h : ct_H) (o og c cL cE cB cC hi wi : Nat) : Prop := h.1 cB 0 = 0 ∧ h.1 o 7 ≤ h.1 og 6 ∧ h.1 o 8 ≤ h.1 og 6 ∧ (h.1 o 7 = h.1 og 6 → LR (h.1 cL) (h.1 cE) (h.1 cB) (h.1 o 5) (h.1 c) hi wi (h.1 og 5) (h.1 o 6)) ∧ (h.1 o 8 = h.1 og 6 → ∀ e, e < 100 → h.1 cC e = ((spL (h.1 c) hi wi (h.1 og 5) (e : Int)).2.2.2.1 : Nat))
section
variable {G : ct_G} {h : ct_H} {o og c cL cE cB cC hi wi : Nat} {L : Int}
theorem x2_traceV (lo : LO G o og c cL cE cB cC) (g : GR G h og c hi wi) (r : RM (h.1 c) hi wi) (hl : 0 ≤ L ∧ L ≤ 99) (lv : LV h o og c cL cE cB cC hi wi) : ∃ h' : ct_H, f_X2_trace G h o L = some h' ∧ LV h' o og c cL cE cB cC hi wi ∧ LR (h'.1 cL) (h'.1 cE) (h'.1 cB) (h'.1 o 5) (h.1 c) hi wi (h.1 og 5) L ∧ h'.1 o 6 = L ∧ h'.2 = h.2 ∧ ∀ a, a ≠ o → a ≠ cL → a ≠ cE → a ≠ cB → h'.1 a = h.1 a := by
  obtain ⟨v1, v2, v3, v4, v5⟩ := lv
  obtain ⟨h', e1, e2, e3, e4, e5, e6, e7, e8⟩ := x2_trace lo g r hl v1 v4
  obtain ⟨l0, l1, l2, l3, l4, l5, l6, l7, l8, o1, o2, o3, o4, o5, o6⟩ := lo
  have hg := e8 og (by omega) (by omega) (by omega) (by omega)
  have hc := e8 c (by omega) (by omega) (by omega) (by omega)
  have hC := e8 cC (by omega) (by omega) (by omega) (by omega)
  refine ⟨h', e1, ⟨e6, by rw [e4, hg]; exact Int.le_refl _, by rw [e5, hg]; exact v3, fun _ => ?_, fun w => ?_⟩, e2, e3, e7, e8⟩
  · rw [hc, hg, e3]; exact e2
  · rw [hc, hg, hC]
    rw [hg, e5] at w
    exact v5 w
theorem g_isLikeBelow (g : GR G h og c hi wi) (r : RM (h.1 c) hi wi) (hl : 1 ≤ L ∧ L ≤ 99) : ∃ r, f_X0_isLikeBelow G h og L = some r ∧ (r = 0 ∨ (r = 1 ∧ spL (h.1 c) hi wi (h.1 og 5) (L - 1) = spL (h.1 c) hi wi (h.1 og 5) L)) := by
  have g8 := g.2.2.2.2.2.2.2.1
  have g9 := g.2.2.2.2.2.2.2.2
  have hN := N81 g8 g9
  unfold f_X0_isLikeBelow
  by_cases k2 : h.1 og 5 = 2
  · rw [if_pos k2]; exact ⟨0, rfl, Or.inl rfl⟩
  · rw [if_neg k2]
    by_cases k4 : h.1 og 5 = 4
    · rw [if_pos k4]; exact ⟨0, rfl, Or.inl rfl⟩
    · rw [if_neg k4]
      obtain ⟨v, e, hv⟩ := g_likeL g (L := L) (by omega) ((hi + 2) * (wi + 2)) 0 200 (by omega) (by omega)
      refine ⟨v, e, hv.imp id (fun w => ⟨w.1, ?_⟩)⟩
      refine sp_like g8 g9 r (by omega) (by omega) k2 k4 (fun q hq => ?_)
      by_cases y : q < (hi + 2) * (wi + 2)
      · have := w.2 q (by omega) (by omega)
        omega
      · have d := (dm_lt (p := q) g8 g9).1
        have := r.2 q hq (by omega)
        omega
theorem x2_countL (lo : LO G o og c cL cE cB cC) : ∀ (k i n : Nat) (h : ct_H), i + k = 100 → k < n → GR G h og c hi wi → RM (h.1 c) hi wi → h.1 cB 0 = 0 → h.1 o 7 ≤ h.1 og 6 → (h.1 o 7 = h.1 og 6 → LR (h.1 cL) (h.1 cE) (h.1 cB) (h.1 o 5) (h.1 c) hi wi (h.1 og 5) (h.1 o 6)) → (∀ e, e < i → h.1 cC e = ((spL (h.1 c) hi wi (h.1 og 5) (e : Int)).2.2.2.1 : Nat)) → ∃ h' : ct_H, l_X2_countLevels_14 G o n ((i : Int), h) = some h' ∧ h'.1 cB 0 = 0 ∧ h'.1 o 7 ≤ h.1 og 6 ∧ (h'.1 o 7 = h.1 og 6 → LR (h'.1 cL) (h'.1 cE) (h'.1 cB) (h'.1 o 5) (h.1 c) hi wi (h.1 og 5) (h'.1 o 6)) ∧ (∀ e, e < 100 → h'.1 cC e = ((spL (h.1 c) hi wi (h.1 og 5) (e : Int)).2.2.2.1 : Nat)) ∧ h'.1 o 8 = h.1 o 8 ∧ h'.2 = h.2 ∧ ∀ a, a ≠ o → a ≠ cL → a ≠ cE → a ≠ cB → a ≠ cC → h'.1 a = h.1 a
  | 0, i, n + 1, h, h1, h2, g, r, v1, v2, v3, v4 => by
    refine ⟨h, ?_, v1, v2, v3, fun e he => v4 e (by omega), rfl, rfl, fun a _ _ _ _ _ => rfl⟩
    rw [l_X2_countLevels_14, if_pos (by dsimp only; omega)]
  | k + 1, i, n + 1, h, h1, h2, g, r, v1, v2, v3, v4 => by
    have lo' := lo
    obtain ⟨l0, l1, l2, l3, l4, l5, l6, l7, l8, o1, o2, o3, o4, o5, o6⟩ := lo
    have g8 := g.2.2.2.2.2.2.2.1
    have g9 := g.2.2.2.2.2.2.2.2
    have fin : ∀ hh : ct_H, hh.1 cB 0 = 0 → hh.1 o 7 ≤ h.1 og 6 → (hh.1 o 7 = h.1 og 6 → LR (hh.1 cL) (hh.1 cE) (hh.1 cB) (hh.1 o 5) (h.1 c) hi wi (h.1 og 5) (hh.1 o 6)) → (∀ e, e < i → hh.1 cC e = h.1 cC e) → hh.1 o 8 = h.1 o 8 → hh.2 = h.2 → (∀ a, a ≠ o → a ≠ cL → a ≠ cE → a ≠ cB → a ≠ cC → hh.1 a = h.1 a) → ∃ h' : ct_H, l_X2_countLevels_14 G o n (((i + 1 : Nat) : Int), hs hh cC (up (hh.1 cC) i ((spL (h.1 c) hi wi (h.1 og 5) (i : Int)).2.2.2.1 : Nat))) = some h' ∧ h'.1 cB 0 = 0 ∧ h'.1 o 7 ≤ h.1 og 6 ∧ (h'.1 o 7 = h.1 og 6 → LR (h'.1 cL) (h'.1 cE) (h'.1 cB) (h'.1 o 5) (h.1 c) hi wi (h.1 og 5) (h'.1 o 6)) ∧ (∀ e, e < 100 → h'.1 cC e = ((spL (h.1 c) hi wi (h.1 og 5) (e : Int)).2.2.2.1 : Nat)) ∧ h'.1 o 8 = h.1 o 8 ∧ h'.2 = h.2 ∧ ∀ a, a ≠ o → a ≠ cL → a ≠ cE → a ≠ cB → a ≠ cC → h'.1 a = h.1 a := by
      intro hh q1 q2 q3 q4 q5 q6 q7
      generalize hX : up (hh.1 cC) i ((spL (h.1 c) hi wi (h.1 og 5) (i : Int)).2.2.2.1 : Nat) = X
      have x1 : X i = ((spL (h.1 c) hi wi (h.1 og 5) (i : Int)).2.2.2.1 : Nat) := by rw [← hX, up_same]
      have x2 : ∀ e, e ≠ i → X e = hh.1 cC e := fun e he => by rw [← hX, up_other _ _ he]
      have rg : (hs hh cC X).1 og = h.1 og := by rw [hs_orow _ _ (by omega)]; exact q7 og (by omega) (by omega) (by omega) (by omega) (by omega)
      have rc : (hs hh cC X).1 c = h.1 c := by rw [hs_orow _ _ (by omega)]; exact q7 c (by omega) (by omega) (by omega) (by omega) (by omega)
      have ro : (hs hh cC X).1 o = hh.1 o := hs_orow _ _ (by omega)
      have rL : (hs hh cC X).1 cL = hh.1 cL := hs_orow _ _ (by omega)
      have rE : (hs hh cC X).1 cE = hh.1 cE := hs_orow _ _ (by omega)
      have rB : (hs hh cC X).1 cB = hh.1 cB := hs_orow _ _ (by omega)
      have rC : (hs hh cC X).1 cC = X := hs_row _ _ _
      obtain ⟨h', e1, e2, e3, e4, e5, e6, e7, e8⟩ := x2_countL lo' k (i + 1) n (hs hh cC X) (by omega) (by omega) (GR_congr g rg) (by rw [rc]; exact r) (by rw [rB]; exact q1) (by rw [ro, rg]; exact q2) (by rw [ro, rg, rL, rE, rB, rc]; exact q3) (by
        intro e he
        rw [rC, rc, rg]
        by_cases z : e = i
        · subst z; exact x1
        · rw [x2 e z, q4 e (by omega)]; exact v4 e (by omega))
      rw [rg] at e3 e4 e5
      rw [rc] at e4 e5
      rw [ro] at e6
      refine ⟨h', e1, e2, e3, e4, e5, e6.trans q5, e7.trans q6, fun a a1 a2 a3 a4 a5 => ?_⟩
      rw [e8 a a1 a2 a3 a4 a5, hs_orow _ _ a5]
      exact q7 a a1 a2 a3 a4 a5
    have copy : ∀ v : Int, v = ((spL (h.1 c) hi wi (h.1 og 5) (i : Int)).2.2.2.1 : Nat) → ((ct_wt G h cC (i : Int) v).bind fun h17 => l_X2_countLevels_14 G o n (((i + 1 : Nat) : Int), h17)) = l_X2_countLevels_14 G o n (((i + 1 : Nat) : Int), hs h cC (up (h.1 cC) i ((spL (h.1 c) hi wi (h.1 og 5) (i : Int)).2.2.2.1 : Nat))) := by
      intro v hv
      rw [wtN (by omega), bs, hv]
    have frs : ∃ h' : ct_H, ((f_X2_trace G h o (i : Int)).bind fun r10 => (ct_wt G r10 cC (i : Int) (r10.1 o 5)).bind fun h11 => l_X2_countLevels_14 G o n (((i + 1 : Nat) : Int), h11)) = some h' ∧ h'.1 cB 0 = 0 ∧ h'.1 o 7 ≤ h.1 og 6 ∧ (h'.1 o 7 = h.1 og 6 → LR (h'.1 cL) (h'.1 cE) (h'.1 cB) (h'.1 o 5) (h.1 c) hi wi (h.1 og 5) (h'.1 o 6)) ∧ (∀ e, e < 100 → h'.1 cC e = ((spL (h.1 c) hi wi (h.1 og 5) (e : Int)).2.2.2.1 : Nat)) ∧ h'.1 o 8 = h.1 o 8 ∧ h'.2 = h.2 ∧ ∀ a, a ≠ o → a ≠ cL → a ≠ cE → a ≠ cB → a ≠ cC → h'.1 a = h.1 a := by
      obtain ⟨h', e1, e2, e3, e4, e5, e6, e7, e8⟩ := x2_trace lo' g r (L := (i : Int)) (by omega) v1 v3
      have rr := e2.rr.2.2.2
      obtain ⟨h'', f1⟩ := fin h' e6 (by rw [e4]; exact Int.le_refl _) (fun _ => by rw [e3]; exact e2) (fun e _ => by rw [e8 cC (by omega) (by omega) (by omega) (by omega)]) e5 e7 (fun a a1 a2 a3 a4 _ => e8 a a1 a2 a3 a4)
      refine ⟨h'', ?_, f1.2⟩
      rw [e1, bs, wtN (by omega), bs, rr]
      exact f1.1
    rw [l_X2_countLevels_14, if_neg (by dsimp only; omega)]
    dsimp only
    rw [jn_eq, jn_eq, wr_id (a := (i : Int) + 1) (by omega) (by omega), show (i : Int) + 1 = ((i + 1 : Nat) : Int) by omega, l7]
    by_cases z : i = 0
    · rw [if_pos (by omega)]
      exact frs
    · have vi := v4 (i - 1) (by omega)
      rw [if_neg (by omega), wr_id (by omega) (by omega), show (i : Int) - 1 = ((i - 1 : Nat) : Int) by omega, rdN (by omega), bs, jn_eq, l0]
      obtain ⟨lk, lk1, lk2⟩ := g_isLikeBelow g r (L := (i : Int)) (by omega)
      have cp := fin h v1 v2 v3 (fun _ _ => rfl) rfl rfl (fun _ _ _ _ _ _ => rfl)
      by_cases y : h.1 cC (i - 1) = 0
      · rw [if_pos y, bs, copy _ (by
          rw [vi] at y
          have := sp_zero (M := (i : Int)) (kd := h.1 og 5) g8 g9 r (show (0 : Int) ≤ ((i - 1 : Nat) : Int) by omega) (by omega) (by omega)
          rw [this, vi]; exact y)]
        exact cp
      · rw [if_neg y, lk1, bs]
        rcases lk2 with w | w
        · rw [if_pos w]
          exact frs
        · rw [if_neg (by omega), bs, copy _ (by rw [vi, show ((i - 1 : Nat) : Int) = (i : Int) - 1 by omega, w.2])]
          exact cp
theorem x2_countLevels (lo : LO G o og c cL cE cB cC) (g : GR G h og c hi wi) (r : RM (h.1 c) hi wi) (lv : LV h o og c cL cE cB cC hi wi) : ∃ h' : ct_H, f_X2_countLevels G h o = some h' ∧ LV h' o og c cL cE cB cC hi wi ∧ (∀ e, e < 100 → h'.1 cC e = ((spL (h.1 c) hi wi (h.1 og 5) (e : Int)).2.2.2.1 : Nat)) ∧ h'.2 = h.2 ∧ ∀ a, a ≠ o → a ≠ cL → a ≠ cE → a ≠ cB → a ≠ cC → h'.1 a = h.1 a := by
  have lo' := lo
  obtain ⟨l0, l1, l2, l3, l4, l5, l6, l7, l8, o1, o2, o3, o4, o5, o6⟩ := lo
  have lv' := lv
  obtain ⟨v1, v2, v3, v4, v5⟩ := lv
  unfold f_X2_countLevels
  rw [l0]
  by_cases z : h.1 o 8 = h.1 og 6
  · rw [if_pos z]
    exact ⟨h, rfl, lv', v5 z, rfl, fun a _ _ _ _ _ => rfl⟩
  · rw [if_neg z, lt_eq, ct_wF_hs]
    generalize hX : up (h.1 o) 8 (h.1 og 6) = X
    have rx : ∀ a, a ≠ o → (hs h o X).1 a = h.1 a := fun a ha => hs_orow _ _ ha
    have ro : ∀ j, j ≠ 8 → (hs h o X).1 o j = h.1 o j := fun j hj => by rw [hs_row, ← hX, up_other _ _ hj]
    have r8 : (hs h o X).1 o 8 = h.1 og 6 := by rw [hs_row, ← hX, up_same]
    have rg := rx og (by omega)
    have rc := rx c (by omega)
    obtain ⟨h', e1, e2, e3, e4, e5, e6, e7, e8⟩ := x2_countL lo' 100 0 200 (hs h o X) (by omega) (by omega) (GR_congr g rg) (by rw [rc]; exact r) (by rw [rx cB (by omega)]; exact v1) (by rw [ro 7 (by omega), rg]; exact v2) (by rw [ro 7 (by omega), ro 5 (by omega), ro 6 (by omega), rg, rc, rx cL (by omega), rx cE (by omega), rx cB (by omega)]; exact v4) (fun e he => absurd he (Nat.not_lt_zero _))
    rw [rg] at e3 e4 e5
    rw [rc] at e4 e5
    rw [r8] at e6
    have hg := (e8 og (by omega) (by omega) (by omega) (by omega) (by omega)).trans rg
    have hc := (e8 c (by omega) (by omega) (by omega) (by omega) (by omega)).trans rc
    refine ⟨h', e1, ⟨e2, by rw [hg]; exact e3, by rw [e6, hg]; exact Int.le_refl _, ?_, ?_⟩, e5, e7, fun a a1 a2 a3 a4 a5 => (e8 a a1 a2 a3 a4 a5).trans (rx a a1)⟩
    · rw [hg, hc]; exact e4
    · rw [hg, hc]; exact fun _ => e5
end
