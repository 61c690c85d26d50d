/-! the class: trace -/
theorem XE_even {F : Nat → Int} {hi wi p : Nat} {L : Int} (h1 : 2 ≤ hi ∧ hi ≤ 7) (h2 : 2 ≤ wi ∧ wi ≤ 7) (r : RM F hi wi) (hL : 0 ≤ L) (hp : p < (hi + 1) * (wi + 2)) : XE F hi wi L (2 * p) = XC F (wi + 2) L (2 * p) := by
  have hN := N81 h1 h2
  have hP : (hi + 2) * (wi + 2) = (hi + 1) * (wi + 2) + (wi + 2) := by rw [show hi + 2 = (hi + 1) + 1 by omega, Nat.add_mul]; omega
  unfold XE
  rw [show 2 * p / 2 = p by omega]
  by_cases z : p % (wi + 2) ≤ wi
  · rw [if_pos ⟨by omega, Or.inl ⟨by omega, z⟩⟩]
  · have ml : p % (wi + 2) < wi + 2 := Nat.mod_lt _ (by omega)
    rw [if_neg (fun w => by rcases w.2 with y | y <;> omega)]
    have d : (p + 1) % (wi + 2) = 0 := by
      rcases w_cases h2 with rfl | rfl | rfl | rfl | rfl | rfl <;> omega
    have f1 := r.2 p (by omega) (by omega)
    have f2 := r.2 (p + 1) (by omega) (by omega)
    rw [XC0]
    · rw [show 2 * p / 2 = p by omega]; omega
    · unfold oth; rw [if_pos (by omega), show 2 * p / 2 = p by omega]; omega
theorem XE_odd {F : Nat → Int} {hi wi p : Nat} {L : Int} (h1 : 2 ≤ hi ∧ hi ≤ 7) (h2 : 2 ≤ wi ∧ wi ≤ 7) (hp : p < (hi + 1) * (wi + 2)) : XE F hi wi L (2 * p + 1) = XC F (wi + 2) L (2 * p + 1) := by
  have hP : (hi + 2) * (wi + 2) = (hi + 1) * (wi + 2) + (wi + 2) := by rw [show hi + 2 = (hi + 1) + 1 by omega, Nat.add_mul]; omega
  have d := (dm_lt (p := p) h1 h2).2
  unfold XE
  rw [show (2 * p + 1) / 2 = p by omega, if_pos ⟨by omega, Or.inr ⟨by omega, d.mpr (by omega)⟩⟩]
section
variable {G : ct_G} {h : ct_H} {o og c cL cE cB cC hi wi : Nat} {L : Int}
theorem HX_c (lo : LO G o og c cL cE cB cC) (t : LSt) : (HX h o cL cE cB t).1 c = h.1 c ∧ (HX h o cL cE cB t).1 og = h.1 og ∧ (HX h o cL cE cB t).1 o = up (h.1 o) 5 t.2.2.2.1 := by
  obtain ⟨l0, l1, l2, l3, l4, l5, l6, l7, l8, o1, o2, o3, o4, o5, o6⟩ := lo
  unfold HX
  refine ⟨?_, ?_, ?_⟩
  · rw [hs_orow _ _ (by omega), hs_orow _ _ (by omega), hs_orow _ _ (by omega), hs_orow _ _ (by omega)]
  · rw [hs_orow _ _ (by omega), hs_orow _ _ (by omega), hs_orow _ _ (by omega), hs_orow _ _ (by omega)]
  · rw [hs_orow _ _ (by omega), hs_orow _ _ (by omega), hs_orow _ _ (by omega), hs_row]
theorem x2_half (lo : LO G o og c cL cE cB cC) (g : GR G h og c hi wi) (r : RM (h.1 c) hi wi) (hL : h.1 o 6 = L) (hl : 0 ≤ L ∧ L ≤ 99) {t : LSt} (li : LIt (nx (h.1 c) (wi + 2) (h.1 og 5) L) (CE (h.1 c) hi wi L) t) {e a b : Nat} (ha : e / 2 = a) (hb : oth (wi + 2) e = b) (hx : XE (h.1 c) hi wi L e = XC (h.1 c) (wi + 2) L e) (k : ct_H → Option ct_H) : (if (if h.1 c a < L then (0 : Int) else 1) = (if h.1 c b < L then (0 : Int) else 1) then k (HX h o cL cE cB t) else (f_X2_follow G (HX h o cL cE cB t) o (e : Int)).bind fun r => k r) = k (HX h o cL cE cB (stp (nx (h.1 c) (wi + 2) (h.1 og 5) L) (XE (h.1 c) hi wi L) e t)) := by
  have xc : XC (h.1 c) (wi + 2) L e = if (h.1 c a < L ↔ h.1 c b < L) then 0 else 1 := by unfold XC; rw [ha, hb]
  by_cases z : XE (h.1 c) hi wi L e = 1
  · rw [x2_follow lo g r hL hl li z, bs]
    rw [hx, xc] at z
    have : ¬ (h.1 c a < L ↔ h.1 c b < L) := fun y => by rw [if_pos y] at z; omega
    rw [if_neg]
    by_cases y1 : h.1 c a < L <;> by_cases y2 : h.1 c b < L <;> simp [y1, y2] at this ⊢
  · have st : stp (nx (h.1 c) (wi + 2) (h.1 og 5) L) (XE (h.1 c) hi wi L) e t = t := by unfold stp; rw [if_neg (fun w => z w.1)]
    rw [st]
    rw [hx, xc] at z
    have : (h.1 c a < L ↔ h.1 c b < L) := Classical.byContradiction fun y => by rw [if_neg y] at z; exact z rfl
    rw [if_pos]
    by_cases y1 : h.1 c a < L <;> by_cases y2 : h.1 c b < L <;> simp [y1, y2] at this ⊢
theorem x2_traceL (lo : LO G o og c cL cE cB cC) (g : GR G h og c hi wi) (r : RM (h.1 c) hi wi) (hL : h.1 o 6 = L) (hl : 0 ≤ L ∧ L ≤ 99) : ∀ (k p n : Nat) (t : LSt), p + k = (hi + 1) * (wi + 2) → k < n → LIt (nx (h.1 c) (wi + 2) (h.1 og 5) L) (CE (h.1 c) hi wi L) t → l_X2_trace_36 G o (((hi + 1) * (wi + 2) : Nat) : Int) n ((p : Int), HX h o cL cE cB t) = some (HX h o cL cE cB (scn (nx (h.1 c) (wi + 2) (h.1 og 5) L) (XE (h.1 c) hi wi L) (2 * k) (2 * p) t))
  | 0, p, n + 1, t, h1, h2, li => by
    rw [l_X2_trace_36, if_pos (by dsimp only; omega)]
    rfl
  | k + 1, p, n + 1, t, h1, h2, li => by
    have g8 := g.2.2.2.2.2.2.2.1
    have g9 := g.2.2.2.2.2.2.2.2
    have hN := N81 g8 g9
    have hP : (hi + 2) * (wi + 2) = (hi + 1) * (wi + 2) + (wi + 2) := by rw [show hi + 2 = (hi + 1) + 1 by omega, Nat.add_mul]; omega
    have cn := CE_n (kd := h.1 og 5) g8 g9 r hl.1
    have isI : ∀ (u : LSt) (q : Nat), q < 81 → f_X2_isIn G (HX h o cL cE cB u) o (q : Int) = some (if h.1 c q < L then 0 else 1) := by
      intro u q hq
      have hx := HX_c (h := h) lo u
      rw [x2_isIn lo.1 (GR_congr g hx.2.1) (L := L) (by rw [hx.2.2, up_other _ _ (by omega)]; exact hL) hq, hx.1]
    have sd : ∀ u : LSt, (HX h o cL cE cB u).1 (G.1 o 0) 3 = ((wi + 2 : Nat) : Int) := by
      intro u
      rw [lo.1, (HX_c (h := h) lo u).2.1, g.2.2.2.2.2.1]
    rw [l_X2_trace_36, if_neg (by dsimp only; omega)]
    dsimp only
    rw [wr_id (a := (p : Int) + 1) (by omega) (by omega), show (p : Int) + 1 = ((p + 1 : Nat) : Int) by omega, isI t p (by omega), bs, isI t (p + 1) (by omega), bs, jn_eq, wr_id (a := 2 * (p : Int)) (by omega) (by omega), show 2 * (p : Int) = ((2 * p : Nat) : Int) by omega]
    have s1 := stp_LI cn.1 cn.2.1 cn.2.2.1 li (cn.2.2.2 (2 * p))
    refine (x2_half lo g r hL hl li (e := 2 * p) (a := p) (b := p + 1) (by omega) (by unfold oth; rw [if_pos (by omega)]; omega) (XE_even g8 g9 r hl.1 (by omega)) _).trans ?_
    generalize ht : stp (nx (h.1 c) (wi + 2) (h.1 og 5) L) (XE (h.1 c) hi wi L) (2 * p) t = u at s1
    rw [isI u p (by omega), bs, sd u, wr_id (by omega) (by omega), show (p : Int) + ((wi + 2 : Nat) : Int) = ((p + (wi + 2) : Nat) : Int) by omega, isI u (p + (wi + 2)) (by omega), bs, jn_eq, wr_id (by omega) (by omega), show ((2 * p : Nat) : Int) + 1 = ((2 * p + 1 : Nat) : Int) by omega]
    refine (x2_half lo g r hL hl s1.1 (e := 2 * p + 1) (a := p) (b := p + (wi + 2)) (by omega) (by unfold oth; rw [if_neg (by omega)]; omega) (XE_odd g8 g9 (by omega)) _).trans ?_
    have s2 := stp_LI cn.1 cn.2.1 cn.2.2.1 s1.1 (cn.2.2.2 (2 * p + 1))
    refine (x2_traceL lo g r hL hl k (p + 1) n _ (by omega) (by omega) s2.1).trans ?_
    rw [show 2 * (k + 1) = (2 * k + 1) + 1 by omega, scn, ht, scn]
    rfl
/-- the spec: the lines of a level -/
def spL (F : Nat → Int) (hi wi : Nat) (kd L : Int) : LSt := scn (nx F (wi + 2) kd L) (XE F hi wi L) 162 0 (fun _ => -5, fun _ => 0, fun _ => 0, 0, 0)
/-- rows that tell the lines of a level -/
def LR (lf od bg : Nat → Int) (nl : Int) (F : Nat → Int) (hi wi : Nat) (kd L : Int) : Prop := AG (spL F hi wi kd L) (lf, od, bg, (spL F hi wi kd L).2.2.2.1, (spL F hi wi kd L).2.2.2.2) ∧ nl = ((spL F hi wi kd L).2.2.2.1 : Nat)
theorem spL_LI {F : Nat → Int} {kd : Int} (h1 : 2 ≤ hi ∧ hi ≤ 7) (h2 : 2 ≤ wi ∧ wi ≤ 7) (r : RM F hi wi) (hL : 0 ≤ L) : LIt (nx F (wi + 2) kd L) (CE F hi wi L) (spL F hi wi kd L) ∧ ∀ e, CE F hi wi L e → (spL F hi wi kd L).1 e ≠ -5 := by
  have cn := CE_n (kd := kd) h1 h2 r hL
  have s := scn_LI cn.1 cn.2.1 cn.2.2.1 cn.2.2.2 162 0 (fun _ => -5, fun _ => 0, fun _ => 0, 0, 0) (LI_0 (fun _ _ => rfl) rfl)
  unfold spL
  refine ⟨s.1, fun e ce => ?_⟩
  have c1 := (cn.1 e ce).1
  exact s.2 e (Or.inr ⟨Nat.zero_le _, (Nat.zero_add 162).symm ▸ c1, (XE_CE h1 h2 r hL).mpr ce⟩)
theorem x2_trace (lo : LO G o og c cL cE cB cC) (g : GR G h og c hi wi) (r : RM (h.1 c) hi wi) (hl : 0 ≤ L ∧ L ≤ 99) (hb : h.1 cB 0 = 0) (hv : h.1 o 7 = h.1 og 6 → LR (h.1 cL) (h.1 cE) (h.1 cB) (h.1 o 5) (h.1 c) hi wi (h.1 og 5) (h.1 o 6)) : ∃ h' : ct_H, f_X2_trace G h o L = some h' ∧ LR (h'.1 cL) (h'.1 cE) (h'.1 cB) (h'.1 o 5) (h.1 c) hi wi (h.1 og 5) L ∧ h'.1 o 6 = L ∧ h'.1 o 7 = h.1 og 6 ∧ h'.1 o 8 = h.1 o 8 ∧ h'.1 cB 0 = 0 ∧ h'.2 = h.2 ∧ ∀ a, a ≠ o → a ≠ cL → a ≠ cE → a ≠ cB → h'.1 a = h.1 a := by
  have g8 := g.2.2.2.2.2.2.2.1
  have g9 := g.2.2.2.2.2.2.2.2
  have hN := N81 g8 g9
  have hP : (hi + 2) * (wi + 2) = (hi + 1) * (wi + 2) + (wi + 2) := by rw [show hi + 2 = (hi + 1) + 1 by omega, Nat.add_mul]; omega
  have cn := CE_n (kd := h.1 og 5) g8 g9 r hl.1
  obtain ⟨l0, l1, l2, l3, l4, l5, l6, l7, l8, o1, o2, o3, o4, o5, o6⟩ := lo
  have lo : LO G o og c cL cE cB cC := ⟨l0, l1, l2, l3, l4, l5, l6, l7, l8, o1, o2, o3, o4, o5, o6⟩
  unfold f_X2_trace
  rw [jn_eq, l0]
  by_cases z : h.1 o 6 = L ∧ h.1 o 7 = h.1 og 6
  · rw [if_pos z.1, if_pos z.2]
    have v := hv z.2
    rw [z.1] at v
    exact ⟨h, rfl, v, z.1, z.2, rfl, hb, rfl, fun a _ _ _ _ => rfl⟩
  · have zz : ∀ A B : Option ct_H, (if h.1 o 6 = L then (if h.1 o 7 = h.1 og 6 then A else B) else B) = B := by
      intro A B
      by_cases y : h.1 o 6 = L
      · rw [if_pos y, if_neg (fun w => z ⟨y, w⟩)]
      · rw [if_neg y]
    rw [zz]
    dsimp only
    rw [lt_eq, lt_eq, lt_eq, ct_wF_hs, ct_wF_hs, ct_wF_hs, hs_row, hs_hs, hs_row, hs_hs, hs_orow _ _ (show og ≠ o by omega), l1, fill_eq (by rw [l2]; omega), bs, lt_eq, l2]
    let hb0 : ct_H := hs h o (up (up (h.1 o) 6 L) 7 (h.1 og 6))
    have b_o : hb0.1 o = up (up (h.1 o) 6 L) 7 (h.1 og 6) := hs_row _ _ _
    have b_x : ∀ a, a ≠ o → hb0.1 a = h.1 a := fun a ha => hs_orow _ _ ha
    let t0 : LSt := (fun j => if j < 162 then -5 else h.1 cL j, h.1 cE, h.1 cB, 0, 0)
    have e1 : hs (hs h o (up (up (up (h.1 o) 6 L) 7 (h.1 og 6)) 5 0)) cL (fun j => if j < 162 then -5 else (hs h o (up (up (up (h.1 o) 6 L) 7 (h.1 og 6)) 5 0)).1 cL j) = HX hb0 o cL cE cB t0 := by
      show _ = hs (hs (hs (hs hb0 o (up (hb0.1 o) 5 ((0 : Nat) : Int))) cB (h.1 cB)) cL (fun j => if j < 162 then -5 else h.1 cL j)) cE (h.1 cE)
      rw [b_o]
      show _ = hs (hs (hs (hs (hs h o _) o _) cB (h.1 cB)) cL _) cE (h.1 cE)
      rw [hs_hs, hs_orow _ _ (show cL ≠ o by omega)]
      have s1 : ∀ X : Nat → Int, hs (hs h o X) cB (h.1 cB) = hs h o X := fun X => by
        have := hs_self (hs h o X) cB
        rwa [hs_orow _ _ (show cB ≠ o by omega)] at this
      have s2 : ∀ X Y : Nat → Int, hs (hs (hs h o X) cL Y) cE (h.1 cE) = hs (hs h o X) cL Y := fun X Y => by
        have := hs_self (hs (hs h o X) cL Y) cE
        rwa [hs_orow _ _ (show cE ≠ cL by omega), hs_orow _ _ (show cE ≠ o by omega)] at this
      rw [s1, s2]
      rfl
    rw [e1, (HX_c (h := hb0) lo t0).2.1, b_x og (by omega), g.2.2.2.2.2.2.1, g.2.2.2.2.2.1, wr_id (by omega) (by omega), show (((hi + 2) * (wi + 2) : Nat) : Int) - ((wi + 2 : Nat) : Int) = (((hi + 1) * (wi + 2) : Nat) : Int) by omega]
    have bc : hb0.1 c = h.1 c := b_x c (by omega)
    have bg : hb0.1 og = h.1 og := b_x og (by omega)
    have li0 : LIt (nx (h.1 c) (wi + 2) (h.1 og 5) L) (CE (h.1 c) hi wi L) t0 := LI_0 (fun j hj => by rw [if_pos hj]) hb
    have tl := x2_traceL (h := hb0) (L := L) lo (GR_congr g bg) (by rw [bc]; exact r) (by rw [b_o]; rfl) hl ((hi + 1) * (wi + 2)) 0 200 t0 (by omega) (by omega) (by rw [bc, bg]; exact li0)
    rw [bc, bg] at tl
    have idle : scn (nx (h.1 c) (wi + 2) (h.1 og 5) L) (XE (h.1 c) hi wi L) 162 0 t0 = scn (nx (h.1 c) (wi + 2) (h.1 og 5) L) (XE (h.1 c) hi wi L) (2 * ((hi + 1) * (wi + 2))) (2 * 0) t0 := by
      rw [show (162 : Nat) = 2 * ((hi + 1) * (wi + 2)) + (162 - 2 * ((hi + 1) * (wi + 2))) by omega, scn_add, scn_idle]
      intro j j1 j2 x
      have := (inner_lt g8 g9 (cn.2.2.2 j x).1).1
      omega
    rw [← idle] at tl
    have tl2 : l_X2_trace_36 G o (((hi + 1) * (wi + 2) : Nat) : Int) 200 (0, HX hb0 o cL cE cB t0) = _ := tl
    rw [tl2]
    have ag : AG (spL (h.1 c) hi wi (h.1 og 5) L) (scn (nx (h.1 c) (wi + 2) (h.1 og 5) L) (XE (h.1 c) hi wi L) 162 0 t0) := by
      refine scn_ag cn.1 cn.2.2.2 162 0 _ _ ⟨fun j hj => ?_, fun i hi => absurd hi (Nat.not_lt_zero _), fun j hj => ?_, rfl, rfl⟩
      · show (-5 : Int) = if j < 162 then -5 else h.1 cL j
        rw [if_pos hj]
      · have : j = 0 := Nat.le_zero.mp hj
        subst this
        exact hb.symm
    have li := (scn_LI cn.1 cn.2.1 cn.2.2.1 cn.2.2.2 162 0 t0 li0).1
    generalize scn (nx (h.1 c) (wi + 2) (h.1 og 5) L) (XE (h.1 c) hi wi L) 162 0 t0 = t at ag li
    have rL : (HX hb0 o cL cE cB t).1 cL = t.1 := by unfold HX; rw [hs_orow _ _ (by omega), hs_row]
    have rE : (HX hb0 o cL cE cB t).1 cE = t.2.1 := by unfold HX; rw [hs_row]
    have rB : (HX hb0 o cL cE cB t).1 cB = t.2.2.1 := by unfold HX; rw [hs_orow _ _ (by omega), hs_orow _ _ (by omega), hs_row]
    have ro := (HX_c (h := hb0) lo t).2.2
    refine ⟨_, rfl, ?_, ?_, ?_, ?_, ?_, rfl, ?_⟩
    · rw [rL, rE, rB, ro, up_same]
      unfold LR
      generalize spL (h.1 c) hi wi (h.1 og 5) L = S at ag ⊢
      obtain ⟨a1, a2, a3, a4, a5⟩ := ag
      exact ⟨⟨a1, a2, a3, rfl, rfl⟩, by rw [a4]⟩
    · rw [ro, up_other _ _ (by omega), b_o, up_other _ _ (by omega), up_same]
    · rw [ro, up_other _ _ (by omega), b_o, up_same]
    · rw [ro, up_other _ _ (by omega), b_o, up_other _ _ (by omega), up_other _ _ (by omega)]
    · rw [rB]; exact li.1
    · intro a n1 n2 n3 n4
      unfold HX
      rw [hs_orow _ _ n3, hs_orow _ _ n2, hs_orow _ _ n4, hs_orow _ _ n1]
      exact b_x a n1
end
