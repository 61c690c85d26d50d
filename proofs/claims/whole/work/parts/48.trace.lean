/-! the class: follow, trace -/
def LO (G : ct_G) (o og c cL cE cB cC : Nat) : Prop := G.1 o 0 = og ∧ G.1 o 1 = cL ∧ G.2 cL = 162 ∧ G.1 o 2 = cE ∧ G.2 cE = 162 ∧ G.1 o 3 = cB ∧ G.2 cB = 41 ∧ G.1 o 4 = cC ∧ G.2 cC = 100 ∧ og < c ∧ c < o ∧ o < cL ∧ cL < cE ∧ cE < cB ∧ cB < cC
theorem GR_congr {G : ct_G} {h h' : ct_H} {o c hi wi : Nat} (g : GR G h o c hi wi) (e : h'.1 o = h.1 o) : GR G h' o c hi wi := by
  obtain ⟨g1, g2, g3, g4, g5, g6, g7, g8, g9⟩ := g
  exact ⟨g1, g2, g3, by rw [e]; exact g4, by rw [e]; exact g5, by rw [e]; exact g6, by rw [e]; exact g7, g8, g9⟩
theorem CE_n {F : Nat → Int} {hi wi : Nat} {L kd : Int} (h1 : 2 ≤ hi ∧ hi ≤ 7) (h2 : 2 ≤ wi ∧ wi ≤ 7) (r : RM F hi wi) (hL : 0 ≤ L) : (∀ e, CE F hi wi L e → e < 162 ∧ CE F hi wi L (nx F (wi + 2) kd L e)) ∧ (∀ a b, CE F hi wi L a → CE F hi wi L b → nx F (wi + 2) kd L a = nx F (wi + 2) kd L b → a = b) ∧ (∀ e, CE F hi wi L e → nx F (wi + 2) kd L e ≠ e ∧ nx F (wi + 2) kd L (nx F (wi + 2) kd L e) ≠ e) ∧ ∀ i, XE F hi wi L i = 1 → CE F hi wi L i :=
  ⟨fun e c => ⟨(inner_lt h1 h2 c.1).2, CE_nx h1 h2 r hL c⟩, fun _ _ a b q => nx_inj h1 h2 a b q, fun _ c => ⟨nx_ne h1 h2 c, nx_ne2 h1 h2 r hL c⟩, fun _ x => (XE_CE h1 h2 r hL).mp x⟩
section
variable {G : ct_G} {h : ct_H} {o og c cL cE cB cC hi wi : Nat} {L : Int}
theorem x2_next (lo : LO G o og c cL cE cB cC) (g : GR G h og c hi wi) (r : RM (h.1 c) hi wi) (hL : h.1 o 6 = L) (hl : 0 ≤ L ∧ L ≤ 99) {e : Nat} (ce : CE (h.1 c) hi wi L e) : f_X2_nextOf G h o (e : Int) = some ((nx (h.1 c) (wi + 2) (h.1 og 5) L e : Nat) : Int) := by
  have g8 := g.2.2.2.2.2.2.2.1
  have g9 := g.2.2.2.2.2.2.2.2
  have ic := inner_cor (F := h.1 c) (L := L) g8 g9 ce.1
  have sl := sq_lt g8 g9 ic.1 ic.2.1
  have hN := N81 g8 g9
  exact x2_nextOf lo.1 g r.1 hL hl (inner_lt g8 g9 ce.1).2 (by omega) (fun z _ => ic.2.2.1 z) (fun z _ => ic.2.2.2 z)
theorem x2_folL (lo : LO G o og c cL cE cB cC) (g : GR G h og c hi wi) (r : RM (h.1 c) hi wi) (hL : h.1 o 6 = L) (hl : 0 ≤ L ∧ L ≤ 99) {nl : Nat} (hn : h.1 o 5 = (nl : Int)) (K : Int × ct_H → Option ct_H) : ∀ (n e : Nat) (lf od : Nat → Int) (nd : Nat), CE (h.1 c) hi wi L e → unm lf < n → (nd : Int) + unm lf = 162 → l_X2_follow_19 G o K n ((nd : Int), (e : Int), hs (hs h cL lf) cE od) = K ((((fol (nx (h.1 c) (wi + 2) (h.1 og 5) L) nl n e lf od nd).2.2 : Nat) : Int), hs (hs h cL (fol (nx (h.1 c) (wi + 2) (h.1 og 5) L) nl n e lf od nd).1) cE (fol (nx (h.1 c) (wi + 2) (h.1 og 5) L) nl n e lf od nd).2.1)
  | 0, e, lf, od, nd, ce, hu, hd => by have := unm_nonneg lf; omega
  | n + 1, e, lf, od, nd, ce, hu, hd => by
    have g8 := g.2.2.2.2.2.2.2.1
    have g9 := g.2.2.2.2.2.2.2.2
    have cn := (CE_n (kd := h.1 og 5) g8 g9 r hl.1).1 e ce
    obtain ⟨l0, l1, l2, l3, l4, l5, l6, l7, l8, o1, o2, o3, o4, o5, o6⟩ := lo
    have lo : LO G o og c cL cE cB cC := ⟨l0, l1, l2, l3, l4, l5, l6, l7, l8, o1, o2, o3, o4, o5, o6⟩
    have eL : (hs (hs h cL lf) cE od).1 cL = lf := by rw [hs_orow _ _ (by omega), hs_row]
    rw [l_X2_follow_19, fol]
    dsimp only
    rw [l1, rdN (by omega), bs, eL]
    by_cases z : lf e = -5
    · have up1 := unm_pos cn.1 z
      have f5 : (hs (hs h cL lf) cE od).1 o 5 = (nl : Int) := by rw [hs_orow _ _ (by omega), hs_orow _ _ (by omega)]; exact hn
      rw [if_neg (by omega), if_pos z, if_pos z, f5, wtN (by omega), bs, l3, eL]
      have e1 : hs (hs (hs h cL lf) cE od) cL (up lf e nl) = hs (hs h cL (up lf e nl)) cE od := by
        rw [hs_comm _ _ _ (by omega), hs_hs]
      rw [e1, wtN (by omega), bs, hs_row, hs_hs]
      have rc : ∀ X Y, (hs (hs h cL X) cE Y).1 c = h.1 c := fun X Y => by rw [hs_orow _ _ (by omega), hs_orow _ _ (by omega)]
      have rg : ∀ X Y, (hs (hs h cL X) cE Y).1 og = h.1 og := fun X Y => by rw [hs_orow _ _ (by omega), hs_orow _ _ (by omega)]
      have ro : ∀ X Y, (hs (hs h cL X) cE Y).1 o = h.1 o := fun X Y => by rw [hs_orow _ _ (by omega), hs_orow _ _ (by omega)]
      have q := x2_next (h := hs (hs h cL (up lf e nl)) cE (up od nd (e : Int))) (L := L) lo (GR_congr g (rg _ _)) (by rw [rc]; exact r) (by rw [ro]; exact hL) hl (e := e) (by rw [rc]; exact ce)
      rw [rc, rg] at q
      rw [q, bs, wr_id (by omega) (by omega), show (nd : Int) + 1 = ((nd + 1 : Nat) : Int) by omega]
      exact x2_folL lo g r hL hl hn K n _ _ _ _ cn.2 (by rw [unm_up cn.1 (by omega) z]; omega) (by rw [unm_up cn.1 (by omega) z]; omega)
    · rw [if_neg z, if_neg z]
      split <;> rfl
def HX (h : ct_H) (o cL cE cB : Nat) (t : LSt) : ct_H := hs (hs (hs (hs h o (up (h.1 o) 5 t.2.2.2.1)) cB t.2.2.1) cL t.1) cE t.2.1
theorem x2_follow (lo : LO G o og c cL cE cB cC) (g : GR G h og c hi wi) (r : RM (h.1 c) hi wi) (hL : h.1 o 6 = L) (hl : 0 ≤ L ∧ L ≤ 99) {t : LSt} (li : LIt (nx (h.1 c) (wi + 2) (h.1 og 5) L) (CE (h.1 c) hi wi L) t) {e : Nat} (hx : XE (h.1 c) hi wi L e = 1) : f_X2_follow G (HX h o cL cE cB t) o (e : Int) = some (HX h o cL cE cB (stp (nx (h.1 c) (wi + 2) (h.1 og 5) L) (XE (h.1 c) hi wi L) e t)) := by
  have g8 := g.2.2.2.2.2.2.2.1
  have g9 := g.2.2.2.2.2.2.2.2
  have cn := CE_n (kd := h.1 og 5) g8 g9 r hl.1
  have ce := cn.2.2.2 e hx
  have he := (cn.1 e ce).1
  have h37 := LI_37 g8 g9 li
  obtain ⟨lf, od, bg, nl, nd⟩ := t
  dsimp only at h37
  obtain ⟨l0, l1, l2, l3, l4, l5, l6, l7, l8, o1, o2, o3, o4, o5, o6⟩ := lo
  have lo : LO G o og c cL cE cB cC := ⟨l0, l1, l2, l3, l4, l5, l6, l7, l8, o1, o2, o3, o4, o5, o6⟩
  have eo : (HX h o cL cE cB (lf, od, bg, nl, nd)).1 o = up (h.1 o) 5 nl := by
    unfold HX; rw [hs_orow _ _ (by omega), hs_orow _ _ (by omega), hs_orow _ _ (by omega), hs_row]
  have eL : (HX h o cL cE cB (lf, od, bg, nl, nd)).1 cL = lf := by
    unfold HX; rw [hs_orow _ _ (by omega), hs_row]
  have eB : (HX h o cL cE cB (lf, od, bg, nl, nd)).1 cB = bg := by
    unfold HX; rw [hs_orow _ _ (by omega), hs_orow _ _ (by omega), hs_row]
  unfold f_X2_follow stp
  dsimp only
  rw [l1, rdN (by omega), bs, eL]
  by_cases z : lf e = -5
  · have zz : XE (h.1 c) hi wi L e = 1 ∧ lf e = -5 := ⟨hx, z⟩
    rw [if_pos z, if_pos zz, eo, up_same, if_pos (by omega), l5, rdN (by omega), bs, eB]
    have b2 : bg nl = (nd : Int) := li.2.1
    have b3 : (nd : Int) + unm lf = 162 := li.2.2.1
    rw [b2]
    have h'c : (hs (hs h o (up (h.1 o) 5 nl)) cB bg).1 c = h.1 c := by rw [hs_orow _ _ (by omega), hs_orow _ _ (by omega)]
    have h'g : (hs (hs h o (up (h.1 o) 5 nl)) cB bg).1 og = h.1 og := by rw [hs_orow _ _ (by omega), hs_orow _ _ (by omega)]
    have h'o : (hs (hs h o (up (h.1 o) 5 nl)) cB bg).1 o = up (h.1 o) 5 nl := by rw [hs_orow _ _ (by omega), hs_row]
    have up0 := unm_nonneg lf
    have q := fun K => x2_folL (h := hs (hs h o (up (h.1 o) 5 nl)) cB bg) (L := L) lo (GR_congr g h'g) (by rw [h'c]; exact r) (by rw [h'o, up_other _ _ (by omega)]; exact hL) hl (nl := nl) (by rw [h'o, up_same]) K 200 e lf od nd (by rw [h'c]; exact ce) (by omega) (by omega)
    rw [h'c, h'g] at q
    unfold HX
    dsimp only
    rw [q]
    generalize fol (nx (h.1 c) (wi + 2) (h.1 og 5) L) nl 200 e lf od nd = R
    obtain ⟨lf', od', nd'⟩ := R
    dsimp only
    have ro : ∀ f b l d, (hs (hs (hs (hs h o f) cB b) cL l) cE d).1 o = f := fun f b l d => by rw [hs_orow _ _ (by omega), hs_orow _ _ (by omega), hs_orow _ _ (by omega), hs_row]
    rw [lt_eq, ct_wF_hs, ro, up_same, wr_id (by omega) (by omega)]
    have e2 : ∀ f f' b l d, hs (hs (hs (hs (hs h o f) cB b) cL l) cE d) o f' = hs (hs (hs (hs h o f') cB b) cL l) cE d := fun f f' b l d => by
      rw [hs_comm _ _ _ (show cE ≠ o by omega), hs_comm _ _ _ (show cL ≠ o by omega), hs_comm _ _ _ (show cB ≠ o by omega), hs_hs]
    rw [e2, ro, up_same, show (nl : Int) + 1 = ((nl + 1 : Nat) : Int) by omega, wtN (by omega), bs]
    have rB : ∀ f b l d, (hs (hs (hs (hs h o f) cB b) cL l) cE d).1 cB = b := fun f b l d => by rw [hs_orow _ _ (by omega), hs_orow _ _ (by omega), hs_row]
    have e3 : ∀ f b b' l d, hs (hs (hs (hs (hs h o f) cB b) cL l) cE d) cB b' = hs (hs (hs (hs h o f) cB b') cL l) cE d := fun f b b' l d => by
      rw [hs_comm _ _ _ (show cE ≠ cB by omega), hs_comm _ _ _ (show cL ≠ cB by omega), hs_hs]
    have e4 : up (up (h.1 o) 5 (nl : Int)) 5 ((nl + 1 : Nat) : Int) = up (h.1 o) 5 ((nl + 1 : Nat) : Int) := by
      funext j; unfold up; split <;> rfl
    rw [rB, e3, e4]
  · have zz : ¬ (XE (h.1 c) hi wi L e = 1 ∧ lf e = -5) := fun w => z w.2
    rw [if_neg z, if_neg zz]
end
