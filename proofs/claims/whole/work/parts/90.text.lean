/-! a text read: signs, words, numbers, on both sides -/
def TC (h : ct_H) (n : Nat) (X : Nat → Int) (p : Nat) : Prop := h.1 45 1 = (n : Int) ∧ h.1 45 5 = (p : Int) ∧ ∀ i, i < n → h.1 46 i = X i
def TM (h : ct_H) (n : Nat) (X : Nat → Int) (p : Nat) : Prop := h.1 73 5 = (n : Int) ∧ h.1 73 8 = (p : Int) ∧ ∀ i, i < n → h.1 75 i = X i
def CR (k : Nat) (h h' : ct_H) (q : Nat) : Prop := (∀ a, a ≠ 45 → a ≠ 47 → a ≠ 48 → h'.1 a = h.1 a) ∧ (∀ j, j ≠ 5 → h'.1 45 j = h.1 45 j) ∧ h'.1 45 5 = (q : Int) ∧ (∀ i, i ≠ k → h'.1 47 i = h.1 47 i) ∧ (∀ i, ¬ (3 * k ≤ i ∧ i < 3 * k + 3) → h'.1 48 i = h.1 48 i) ∧ h'.2 = h.2
def MR (k : Nat) (h h' : ct_H) (q : Nat) : Prop := (∀ a, a ≠ 73 → a ≠ 76 → a ≠ 77 → h'.1 a = h.1 a) ∧ (∀ j, j ≠ 8 → h'.1 73 j = h.1 73 j) ∧ h'.1 73 8 = (q : Int) ∧ (∀ i, i ≠ k → h'.1 76 i = h.1 76 i) ∧ (∀ i, ¬ (3 * k ≤ i ∧ i < 3 * k + 3) → h'.1 77 i = h.1 77 i) ∧ h'.2 = h.2
theorem CR.trans {k : Nat} {h h' h'' : ct_H} {q q' : Nat} (x : CR k h h' q) (y : CR k h' h'' q') : CR k h h'' q' := ⟨fun a a1 a2 a3 => (y.1 a a1 a2 a3).trans (x.1 a a1 a2 a3), fun j hj => (y.2.1 j hj).trans (x.2.1 j hj), y.2.2.1, fun i hi => (y.2.2.2.1 i hi).trans (x.2.2.2.1 i hi), fun i hi => (y.2.2.2.2.1 i hi).trans (x.2.2.2.2.1 i hi), y.2.2.2.2.2.trans x.2.2.2.2.2⟩
theorem MR.trans {k : Nat} {h h' h'' : ct_H} {q q' : Nat} (x : MR k h h' q) (y : MR k h' h'' q') : MR k h h'' q' := ⟨fun a a1 a2 a3 => (y.1 a a1 a2 a3).trans (x.1 a a1 a2 a3), fun j hj => (y.2.1 j hj).trans (x.2.1 j hj), y.2.2.1, fun i hi => (y.2.2.2.1 i hi).trans (x.2.2.2.1 i hi), fun i hi => (y.2.2.2.2.1 i hi).trans (x.2.2.2.2.1 i hi), y.2.2.2.2.2.trans x.2.2.2.2.2⟩
def cadv (h : ct_H) (q : Nat) : ct_H := hs h 45 (up (h.1 45) 5 (q : Int))
def madv (h : ct_H) (q : Nat) : ct_H := hs h 73 (up (h.1 73) 8 (q : Int))
theorem cadv_CR (k : Nat) (h : ct_H) (q : Nat) : CR k h (cadv h q) q := ⟨fun a a1 _ _ => hs_orow _ _ a1, fun j hj => by unfold cadv; rw [hs_same, up_other _ _ hj], by unfold cadv; rw [hs_same, up_same], fun i _ => by unfold cadv; rw [hs_other _ _ _ (by omega)], fun i _ => by unfold cadv; rw [hs_other _ _ _ (by omega)], rfl⟩
theorem madv_MR (k : Nat) (h : ct_H) (q : Nat) : MR k h (madv h q) q := ⟨fun a a1 _ _ => hs_orow _ _ a1, fun j hj => by unfold madv; rw [hs_same, up_other _ _ hj], by unfold madv; rw [hs_same, up_same], fun i _ => by unfold madv; rw [hs_other _ _ _ (by omega)], fun i _ => by unfold madv; rw [hs_other _ _ _ (by omega)], rfl⟩
theorem cadv_o (h : ct_H) (q : Nat) {a : Nat} (ha : a ≠ 45) : (cadv h q).1 a = h.1 a := hs_orow _ _ ha
theorem madv_o (h : ct_H) (q : Nat) {a : Nat} (ha : a ≠ 73) : (madv h q).1 a = h.1 a := hs_orow _ _ ha
theorem CR.refl {k : Nat} {h : ct_H} {n p : Nat} {X : Nat → Int} (t : TC h n X p) : CR k h h p := ⟨fun _ _ _ _ => rfl, fun _ _ => rfl, t.2.1, fun _ _ => rfl, fun _ _ => rfl, rfl⟩
theorem MR.refl {k : Nat} {h : ct_H} {n p : Nat} {X : Nat → Int} (t : TM h n X p) : MR k h h p := ⟨fun _ _ _ _ => rfl, fun _ _ => rfl, t.2.1, fun _ _ => rfl, fun _ _ => rfl, rfl⟩
theorem CR.tc {k : Nat} {h h' : ct_H} {n p q : Nat} {X : Nat → Int} (c : CR k h h' q) (t : TC h n X p) : TC h' n X q := ⟨by rw [c.2.1 1 (by omega)]; exact t.1, c.2.2.1, fun i hi => by rw [c.1 46 (by omega) (by omega) (by omega)]; exact t.2.2 i hi⟩
theorem MR.tm {k : Nat} {h h' : ct_H} {n p q : Nat} {X : Nat → Int} (c : MR k h h' q) (t : TM h n X p) : TM h' n X q := ⟨by rw [c.2.1 5 (by omega)]; exact t.1, c.2.2.1, fun i hi => by rw [c.1 75 (by omega) (by omega) (by omega)]; exact t.2.2 i hi⟩
theorem CR.put {k : Nat} {h h1 : ct_H} {q : Nat} (c : CR k h h1 q) (e : h1.1 48 = h.1 48) {j : Nat} (hj : j < 3) (v : Int) : CR k h (hs h1 48 (up (h.1 48) (3 * k + j) v)) q := ⟨fun a a1 a2 a3 => by rw [hs_orow _ _ a3]; exact c.1 a a1 a2 a3, fun i hi => by rw [hs_other _ _ _ (by omega)]; exact c.2.1 i hi, by rw [hs_other _ _ _ (by omega)]; exact c.2.2.1, fun i hi => by rw [hs_other _ _ _ (by omega)]; exact c.2.2.2.1 i hi, fun i hi => by rw [hs_same, up_other _ _ (by omega)], c.2.2.2.2.2⟩
theorem MR.put {k : Nat} {h h1 : ct_H} {q : Nat} (c : MR k h h1 q) (e : h1.1 77 = h.1 77) {j : Nat} (hj : j < 3) (v : Int) : MR k h (hs h1 77 (up (h.1 77) (3 * k + j) v)) q := ⟨fun a a1 a2 a3 => by rw [hs_orow _ _ a3]; exact c.1 a a1 a2 a3, fun i hi => by rw [hs_other _ _ _ (by omega)]; exact c.2.1 i hi, by rw [hs_other _ _ _ (by omega)]; exact c.2.2.1, fun i hi => by rw [hs_other _ _ _ (by omega)]; exact c.2.2.2.1 i hi, fun i hi => by rw [hs_same, up_other _ _ (by omega)], c.2.2.2.2.2⟩
section
variable {G : ct_G} {h : ct_H} {n p k : Nat} {X : Nat → Int}
theorem x5_take (tx : TXT G) (t : TC h n X p) (hn : n ≤ 100) (c : Int) : f_X5_take G h 45 c = some (if p < n ∧ X p = c then (1, cadv h (p + 1)) else (0, h)) := by
  unfold f_X5_take
  rw [t.1, t.2.1]
  by_cases w : n ≤ p
  · rw [if_pos (by omega), if_neg (by omega)]
  · rw [if_neg (by omega), tx.1, rdN (by rw [tx.2.1]; omega), bs, t.2.2 p (by omega)]
    by_cases z : X p = c
    · rw [if_pos z, lt_eq, ct_wF_hs, wr_id (by omega) (by omega), if_pos ⟨by omega, z⟩]
      rfl
    · rw [if_neg z, if_neg (fun u => z u.2)]
theorem x5_isDigit (tx : TXT G) (t : TC h n X p) (hn : n ≤ 100) : f_X5_isDigit G h 45 = some (if p < n ∧ 48 ≤ X p ∧ X p ≤ 57 then 1 else 0) := by
  unfold f_X5_isDigit
  rw [t.1, t.2.1]
  by_cases w : n ≤ p
  · rw [if_pos (by omega), if_neg (by omega)]
  · rw [if_neg (by omega), tx.1, rdN (by rw [tx.2.1]; omega), bs, t.2.2 p (by omega)]
    by_cases z : X p < 48
    · rw [if_pos z, if_neg (by omega)]
    · rw [if_neg z, bs]
      by_cases y : 57 < X p
      · rw [if_pos y, if_neg (by omega)]
      · rw [if_neg y, if_pos ⟨by omega, by omega, by omega⟩]
theorem x5_takeDigit (tx : TXT G) (t : TC h n X p) (hn : n ≤ 100) (hp : p < n) (hx : 0 ≤ X p ∧ X p ≤ 127) : f_X5_takeDigit G h 45 = some (X p - 48, cadv h (p + 1)) := by
  unfold f_X5_takeDigit
  rw [t.2.1, tx.1, rdN (by rw [tx.2.1]; omega), bs, t.2.2 p hp, lt_eq, lt_eq, ct_wF_hs, wr_id (by omega) (by omega), wr_id (by omega) (by omega)]
  rfl
theorem m_isAt (tx : TXT G) (t : TM h n X p) (hn : n ≤ 100) (c : Int) : f_X7_isAt G h 73 c = some (if p < n ∧ X p = c then 1 else 0) := by
  unfold f_X7_isAt
  rw [t.1, t.2.1]
  by_cases w : n ≤ p
  · rw [if_pos (by omega), if_neg (by omega)]
  · rw [if_neg (by omega), tx.2.2.2.2.2.2.1, rdN (by rw [tx.2.2.2.2.2.2.2.1]; omega), bs, t.2.2 p (by omega)]
    by_cases z : X p = c
    · rw [if_pos z, if_pos ⟨by omega, z⟩]
    · rw [if_neg z, if_neg (fun u => z u.2)]
theorem m_isDigit (tx : TXT G) (t : TM h n X p) (hn : n ≤ 100) : f_X7_isDigit G h 73 = some (if p < n ∧ 48 ≤ X p ∧ X p ≤ 57 then 1 else 0) := by
  unfold f_X7_isDigit
  rw [t.1, t.2.1]
  by_cases w : n ≤ p
  · rw [if_pos (by omega), if_neg (by omega)]
  · rw [if_neg (by omega), tx.2.2.2.2.2.2.1, rdN (by rw [tx.2.2.2.2.2.2.2.1]; omega), bs, t.2.2 p (by omega), m_in, bs]
    by_cases z : 48 ≤ X p ∧ X p ≤ 57
    · rw [if_pos z, if_neg (by omega), if_pos ⟨by omega, z⟩]
    · rw [if_neg z, if_pos rfl, if_neg (fun u => z u.2)]
theorem m_adv (t : TM h n X p) (hn : p ≤ 100) : ct_wF h 73 8 (ct_wr ((h.1 73 8) + 1)) = madv h (p + 1) := by
  rw [ct_wF_hs, t.2.1, wr_id (by omega) (by omega)]
  rfl
/-- a number behind a gap -/
theorem numB (tx : TXT G) (hn : n ≤ 100) (hX : ∀ i, i < n → 0 ≤ X i ∧ X i ≤ 127) (hp : p ≤ n) (hk : k < 12) {j : Nat} (hj : j < 3) : ∃ (ok : Int) (q : Nat) (v : Int), (ok = 0 ∨ ok = 1) ∧ (p ≤ q ∧ q ≤ n) ∧ (0 ≤ v ∧ v ≤ 99) ∧ (∀ h, TC h n X p → h.1 45 4 = (k : Int) → ∃ h', CR k h h' q ∧ (ok = 1 → h'.1 48 (3 * k + j) = v) ∧ (∀ i, i ≠ 3 * k + j → h'.1 48 i = h.1 48 i) ∧ h'.1 47 = h.1 47 ∧ ∀ F1 : ct_H → Option (Int × ct_H), ((f_X5_take G h 45 32).bind fun r22 => if r22.1 = 0 then (some (0, r22.2)) else (f_X5_readNumber G r22.2 45 (ct_wr ((ct_wr ((r22.2.1 45 4) * 3)) + (j : Int)))).bind fun r23 => if r23.1 = 0 then (some (0, r23.2)) else F1 r23.2) = if ok = 0 then some (0, h') else F1 h') ∧ (∀ h, TM h n X p → h.1 73 9 = (k : Int) → ∃ h', MR k h h' q ∧ (ok = 1 → h'.1 77 (3 * k + j) = v) ∧ (∀ i, i ≠ 3 * k + j → h'.1 77 i = h.1 77 i) ∧ h'.1 76 = h.1 76 ∧ f_X7_takesNumber G h 73 (j : Int) = some (ok, h')) := by
  by_cases w0 : p < n ∧ X p = 32
  case neg =>
    refine ⟨0, p, 0, Or.inl rfl, ⟨Nat.le_refl _, hp⟩, by omega, fun h t e => ⟨h, CR.refl t, fun q => by omega, fun _ _ => rfl, rfl, fun F1 => ?_⟩, fun h t e => ⟨h, MR.refl t, fun q => by omega, fun _ _ => rfl, rfl, ?_⟩⟩
    · rw [x5_take tx t hn, if_neg w0, bs, if_pos rfl, if_pos rfl]
    · unfold f_X7_takesNumber
      rw [m_isAt tx t hn, if_neg w0, bs, if_pos rfl]
  by_cases w1 : p + 1 < n ∧ 48 ≤ X (p + 1) ∧ X (p + 1) ≤ 57
  case neg =>
    refine ⟨0, p + 1, 0, Or.inl rfl, ⟨by omega, by omega⟩, by omega, fun h t e => ⟨cadv h (p + 1), cadv_CR _ _ _, fun q => by omega, fun _ _ => by rw [cadv_o _ _ (by omega)], cadv_o _ _ (by omega), fun F1 => ?_⟩, fun h t e => ⟨madv h (p + 1), madv_MR _ _ _, fun q => by omega, fun _ _ => by rw [madv_o _ _ (by omega)], madv_o _ _ (by omega), ?_⟩⟩
    · have t1 := (cadv_CR k h (p + 1)).tc t
      rw [x5_take tx t hn, if_pos w0, bs, if_neg (by omega)]
      unfold f_X5_readNumber
      rw [x5_isDigit tx t1 hn, if_neg w1, bs, if_pos rfl, bs, if_pos rfl]
    · have t1 := (madv_MR k h (p + 1)).tm t
      unfold f_X7_takesNumber
      rw [m_isAt tx t hn, if_pos w0, bs, if_neg (by omega), lt_eq, m_adv t (by omega), m_isDigit tx t1 hn, if_neg w1, bs, if_pos rfl]
  have x1 := hX (p + 1) w1.1
  by_cases w2 : p + 1 + 1 < n ∧ 48 ≤ X (p + 1 + 1) ∧ X (p + 1 + 1) ≤ 57
  · have x2 := hX (p + 1 + 1) w2.1
    refine ⟨1, p + 1 + 1 + 1, 10 * (X (p + 1) - 48) + (X (p + 1 + 1) - 48), Or.inr rfl, ⟨by omega, by omega⟩, by omega, fun h t e => ?_, fun h t e => ?_⟩
    · have t1 := (cadv_CR k h (p + 1)).tc t
      have t2 := (cadv_CR k (cadv h (p + 1)) (p + 1 + 1)).tc t1
      have c3 := ((cadv_CR k h (p + 1)).trans (cadv_CR k (cadv h (p + 1)) (p + 1 + 1))).trans (cadv_CR k (cadv (cadv h (p + 1)) (p + 1 + 1)) (p + 1 + 1 + 1))
      have hd : f_X5_readNumber G (cadv h (p + 1)) 45 (ct_wr ((ct_wr (((cadv h (p + 1)).1 45 4) * 3)) + (j : Int))) = some (1, hs (cadv (cadv (cadv h (p + 1)) (p + 1 + 1)) (p + 1 + 1 + 1)) 48 (up (h.1 48) (3 * k + j) (10 * (X (p + 1) - 48) + (X (p + 1 + 1) - 48)))) := by
        unfold f_X5_readNumber
        rw [x5_isDigit tx t1 hn, if_pos w1, bs, if_neg (by omega), x5_takeDigit tx t1 hn w1.1 x1, bs, x5_isDigit tx t2 hn, if_pos w2, bs, jn_eq, if_neg (by omega), x5_takeDigit tx t2 hn w2.1 x2, bs, lt_eq, wr_id (a := 10 * (X (p + 1) - 48)) (by omega) (by omega), wr_id (a := 10 * (X (p + 1) - 48) + (X (p + 1 + 1) - 48)) (by omega) (by omega)]
        dsimp only
        rw [(cadv_CR k h (p + 1)).2.1 4 (by omega), e, wr_id (a := (k : Int) * 3) (by omega) (by omega), wr_id (by omega) (by omega), tx.2.2.2.2.1, show (k : Int) * 3 + (j : Int) = ((3 * k + j : Nat) : Int) by omega, wtN (by rw [tx.2.2.2.2.2.1]; omega), bs, cadv_o _ _ (by omega), cadv_o _ _ (by omega), cadv_o _ _ (by omega)]
      refine ⟨_, CR.put c3 (by rw [cadv_o _ _ (by omega), cadv_o _ _ (by omega), cadv_o _ _ (by omega)]) hj (10 * (X (p + 1) - 48) + (X (p + 1 + 1) - 48)), fun _ => ?_, fun i hi => ?_, ?_, fun F1 => ?_⟩
      · rw [hs_same, up_same]
      · rw [hs_same, up_other _ _ hi]
      · rw [hs_orow _ _ (by omega), cadv_o _ _ (by omega), cadv_o _ _ (by omega), cadv_o _ _ (by omega)]
      · rw [x5_take tx t hn, if_pos w0, bs, if_neg (by omega), hd, bs, if_neg (by omega)]
    · have t1 := (madv_MR k h (p + 1)).tm t
      have t2 := (madv_MR k (madv h (p + 1)) (p + 1 + 1)).tm t1
      have c3 := ((madv_MR k h (p + 1)).trans (madv_MR k (madv h (p + 1)) (p + 1 + 1))).trans (madv_MR k (madv (madv h (p + 1)) (p + 1 + 1)) (p + 1 + 1 + 1))
      have hd : f_X7_takesNumber G h 73 (j : Int) = some (1, hs (madv (madv (madv h (p + 1)) (p + 1 + 1)) (p + 1 + 1 + 1)) 77 (up (h.1 77) (3 * k + j) (10 * (X (p + 1) - 48) + (X (p + 1 + 1) - 48)))) := by
        unfold f_X7_takesNumber
        rw [m_isAt tx t hn, if_pos w0, bs, if_neg (by omega), lt_eq, m_adv t (by omega), m_isDigit tx t1 hn, if_pos w1, bs, if_neg (by omega), t1.2.1, tx.2.2.2.2.2.2.1, rdN (by rw [tx.2.2.2.2.2.2.2.1]; omega), bs, t1.2.2 _ w1.1, lt_eq, wr_id (a := X (p + 1) - 48) (by omega) (by omega), lt_eq]
        rw [show ct_wF (madv h (p + 1)) 73 8 (ct_wr (((p + 1 : Nat) : Int) + 1)) = madv (madv h (p + 1)) (p + 1 + 1) by rw [ct_wF_hs, wr_id (by omega) (by omega)]; rfl]
        rw [m_isDigit tx t2 hn, if_pos w2, bs, jn_eq, if_neg (by omega), t2.2.1, rdN (by rw [tx.2.2.2.2.2.2.2.1]; omega), bs, t2.2.2 _ w2.1, lt_eq, wr_id (a := 10 * (X (p + 1) - 48)) (by omega) (by omega), wr_id (a := 10 * (X (p + 1) - 48) + X (p + 1 + 1)) (by omega) (by omega), wr_id (a := 10 * (X (p + 1) - 48) + X (p + 1 + 1) - 48) (by omega) (by omega), lt_eq]
        rw [show ct_wF (madv (madv h (p + 1)) (p + 1 + 1)) 73 8 (ct_wr (((p + 1 + 1 : Nat) : Int) + 1)) = madv (madv (madv h (p + 1)) (p + 1 + 1)) (p + 1 + 1 + 1) by rw [ct_wF_hs, wr_id (by omega) (by omega)]; rfl]
        dsimp only
        rw [c3.2.1 9 (by omega), e, wr_id (a := 3 * (k : Int)) (by omega) (by omega), wr_id (by omega) (by omega), tx.2.2.2.2.2.2.2.2.2.2.1, show 3 * (k : Int) + (j : Int) = ((3 * k + j : Nat) : Int) by omega, wtN (by rw [tx.2.2.2.2.2.2.2.2.2.2.2]; omega), bs, madv_o _ _ (by omega), madv_o _ _ (by omega), madv_o _ _ (by omega), Int.add_sub_assoc]
      refine ⟨_, MR.put c3 (by rw [madv_o _ _ (by omega), madv_o _ _ (by omega), madv_o _ _ (by omega)]) hj (10 * (X (p + 1) - 48) + (X (p + 1 + 1) - 48)), fun _ => ?_, fun i hi => ?_, ?_, hd⟩
      · rw [hs_same, up_same]
      · rw [hs_same, up_other _ _ hi]
      · rw [hs_orow _ _ (by omega), madv_o _ _ (by omega), madv_o _ _ (by omega), madv_o _ _ (by omega)]
  · refine ⟨1, p + 1 + 1, X (p + 1) - 48, Or.inr rfl, ⟨by omega, by omega⟩, by omega, fun h t e => ?_, fun h t e => ?_⟩
    · have t1 := (cadv_CR k h (p + 1)).tc t
      have t2 := (cadv_CR k (cadv h (p + 1)) (p + 1 + 1)).tc t1
      have c3 := (cadv_CR k h (p + 1)).trans (cadv_CR k (cadv h (p + 1)) (p + 1 + 1))
      have hd : f_X5_readNumber G (cadv h (p + 1)) 45 (ct_wr ((ct_wr (((cadv h (p + 1)).1 45 4) * 3)) + (j : Int))) = some (1, hs (cadv (cadv h (p + 1)) (p + 1 + 1)) 48 (up (h.1 48) (3 * k + j) (X (p + 1) - 48))) := by
        unfold f_X5_readNumber
        rw [x5_isDigit tx t1 hn, if_pos w1, bs, if_neg (by omega), x5_takeDigit tx t1 hn w1.1 x1, bs, x5_isDigit tx t2 hn, if_neg w2, bs, jn_eq, if_pos rfl]
        dsimp only
        rw [(cadv_CR k h (p + 1)).2.1 4 (by omega), e, wr_id (a := (k : Int) * 3) (by omega) (by omega), wr_id (by omega) (by omega), tx.2.2.2.2.1, show (k : Int) * 3 + (j : Int) = ((3 * k + j : Nat) : Int) by omega, wtN (by rw [tx.2.2.2.2.2.1]; omega), bs, cadv_o _ _ (by omega), cadv_o _ _ (by omega)]
      refine ⟨_, CR.put c3 (by rw [cadv_o _ _ (by omega), cadv_o _ _ (by omega)]) hj (X (p + 1) - 48), fun _ => ?_, fun i hi => ?_, ?_, fun F1 => ?_⟩
      · rw [hs_same, up_same]
      · rw [hs_same, up_other _ _ hi]
      · rw [hs_orow _ _ (by omega), cadv_o _ _ (by omega), cadv_o _ _ (by omega)]
      · rw [x5_take tx t hn, if_pos w0, bs, if_neg (by omega), hd, bs, if_neg (by omega)]
    · have t1 := (madv_MR k h (p + 1)).tm t
      have t2 := (madv_MR k (madv h (p + 1)) (p + 1 + 1)).tm t1
      have c3 := (madv_MR k h (p + 1)).trans (madv_MR k (madv h (p + 1)) (p + 1 + 1))
      have hd : f_X7_takesNumber G h 73 (j : Int) = some (1, hs (madv (madv h (p + 1)) (p + 1 + 1)) 77 (up (h.1 77) (3 * k + j) (X (p + 1) - 48))) := by
        unfold f_X7_takesNumber
        rw [m_isAt tx t hn, if_pos w0, bs, if_neg (by omega), lt_eq, m_adv t (by omega), m_isDigit tx t1 hn, if_pos w1, bs, if_neg (by omega), t1.2.1, tx.2.2.2.2.2.2.1, rdN (by rw [tx.2.2.2.2.2.2.2.1]; omega), bs, t1.2.2 _ w1.1, lt_eq, wr_id (a := X (p + 1) - 48) (by omega) (by omega), lt_eq]
        rw [show ct_wF (madv h (p + 1)) 73 8 (ct_wr (((p + 1 : Nat) : Int) + 1)) = madv (madv h (p + 1)) (p + 1 + 1) by rw [ct_wF_hs, wr_id (by omega) (by omega)]; rfl]
        rw [m_isDigit tx t2 hn, if_neg w2, bs, jn_eq, if_pos rfl]
        dsimp only
        rw [c3.2.1 9 (by omega), e, wr_id (a := 3 * (k : Int)) (by omega) (by omega), wr_id (by omega) (by omega), tx.2.2.2.2.2.2.2.2.2.2.1, show 3 * (k : Int) + (j : Int) = ((3 * k + j : Nat) : Int) by omega, wtN (by rw [tx.2.2.2.2.2.2.2.2.2.2.2]; omega), bs, madv_o _ _ (by omega), madv_o _ _ (by omega)]
      refine ⟨_, MR.put c3 (by rw [madv_o _ _ (by omega), madv_o _ _ (by omega)]) hj (X (p + 1) - 48), fun _ => ?_, fun i hi => ?_, ?_, hd⟩
      · rw [hs_same, up_same]
      · rw [hs_same, up_other _ _ hi]
      · rw [hs_orow _ _ (by omega), madv_o _ _ (by omega), madv_o _ _ (by omega)]
end
