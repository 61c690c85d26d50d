/-! what is asked of lines: the spec, and the reference -/
def bN (S : LSt) (l : Nat) : Nat := (S.2.2.1 l).toNat
def cN (S : LSt) (l : Nat) : Nat := (S.2.2.1 (l + 1)).toNat - (S.2.2.1 l).toNat
def eN (S : LSt) (l i : Nat) : Nat := (S.2.1 (bN S l + i)).toNat
def pP (s q e : Nat) : Int := if e % 2 = 0 ∧ e / 2 / s = q / s ∧ q ≤ e / 2 then 1 else 0
def crs (S : LSt) (s l q : Nat) : Int := sm (fun i => pP s q (S.2.1 i).toNat) (bN S l) (cN S l)
def hld (S : LSt) (s l q : Nat) : Int := crs S s l q % 2
def hlL (S : LSt) (s l k : Nat) : Int := if l = k then 0 else hld S s l (eN S k 0 / 2)
def dep (S : LSt) (s k : Nat) : Int := sm (fun l => hlL S s l k) 0 S.2.2.2.1
def prn (S : LSt) (s k : Nat) : Nat → Nat → Int × Int → Int × Int
  | 0, _, a => a
  | m + 1, l, a => prn S s k m (l + 1) (if hlL S s l k = 1 ∧ a.2 < dep S s l then ((l : Int), dep S s l) else a)
def axN (s e : Nat) : Int := 2 * (((e / 2 % s : Nat) : Int) - 1) + (if e % 2 = 0 then 1 else 0)
def dwN (s e : Nat) : Int := 2 * (((e / 2 / s : Nat) : Int) - 1) + ((e % 2 : Nat) : Int)
def arE (S : LSt) (s l i : Nat) : Int := axN s (eN S l i) * dwN s (eN S l (if i + 1 < cN S l then i + 1 else 0)) - dwN s (eN S l i) * axN s (eN S l (if i + 1 < cN S l then i + 1 else 0))
def SF (S : LSt) : Prop := S.2.2.2.1 ≤ 37 ∧ S.2.2.2.2 ≤ 112 ∧ ∀ l, l < S.2.2.2.1 → S.2.2.1 l = ((bN S l : Nat) : Int) ∧ S.2.2.1 (l + 1) = ((bN S l + cN S l : Nat) : Int) ∧ 3 ≤ cN S l ∧ bN S l + cN S l ≤ S.2.2.2.2 ∧ (∀ i, i < cN S l → S.2.1 (bN S l + i) = ((eN S l i : Nat) : Int) ∧ eN S l i < 162 ∧ S.1 (eN S l i) = l) ∧ ∀ P : Nat → Int, sm (fun i => P (S.2.1 i).toNat) (bN S l) (cN S l) = sm (fun e => if S.1 e = l then P e else 0) 0 162
def RR (S : LSt) (lf od bg : Nat → Int) (nl : Int) : Prop := (∀ j, j < 162 → S.1 j = lf j) ∧ (∀ i, i < S.2.2.2.2 → S.2.1 i = od i) ∧ (∀ j, j ≤ S.2.2.2.1 → S.2.2.1 j = bg j) ∧ nl = (S.2.2.2.1 : Nat)
theorem LR.rr {lf od bg : Nat → Int} {nl : Int} {F : Nat → Int} {hi wi : Nat} {kd L : Int} (h : LR lf od bg nl F hi wi kd L) : RR (spL F hi wi kd L) lf od bg nl := by
  unfold LR at h
  generalize spL F hi wi kd L = S at h ⊢
  exact ⟨h.1.1, h.1.2.1, h.1.2.2.1, h.2⟩
theorem LI.sf {F : Nat → Int} {hi wi : Nat} {L : Int} {nxt : Nat → Nat} (h1 : 2 ≤ hi ∧ hi ≤ 7) (h2 : 2 ≤ wi ∧ wi ≤ 7) {S : LSt} (h : LIt nxt (CE F hi wi L) S) : SF S := by
  have h37 := LI_37 h1 h2 h
  refine ⟨h37.1, h37.2, fun l hl => ?_⟩
  obtain ⟨b, c, b1, b2, b3, b4, b5⟩ := h.2.2.2.1 l hl
  have eb : bN S l = b := by unfold bN; rw [b1, Int.toNat_natCast]
  have ec : cN S l = c := by unfold cN; rw [b1, b2, Int.toNat_natCast, Int.toNat_natCast]; omega
  rw [eb, ec]
  refine ⟨b1, b2, b3, b4, fun i hi => ?_, b5.2.2⟩
  obtain ⟨e, e1, e2, e3⟩ := b5.1 i hi
  have ee : eN S l i = e := by unfold eN; rw [eb, e1, Int.toNat_natCast]
  rw [ee]
  exact ⟨e1, (inner_lt h1 h2 e2.1).2, e3⟩
theorem pP01 (s q e : Nat) : pP s q e = 0 ∨ pP s q e = 1 := by unfold pP; split <;> simp
theorem crs_b {S : LSt} {s l q : Nat} : 0 ≤ crs S s l q := sm_nonneg (fun j _ _ => by have := pP01 s q (S.2.1 j).toNat; omega)
theorem hld01 (S : LSt) (s l q : Nat) : hld S s l q = 0 ∨ hld S s l q = 1 := by unfold hld; omega
theorem hlL01 (S : LSt) (s l k : Nat) : hlL S s l k = 0 ∨ hlL S s l k = 1 := by
  unfold hlL; split
  · exact Or.inl rfl
  · exact hld01 _ _ _ _
theorem dep_b {S : LSt} {s k : Nat} (sf : SF S) : 0 ≤ dep S s k ∧ dep S s k ≤ 37 := by
  have a := sf.1
  refine ⟨sm_nonneg (fun j _ _ => by have := hlL01 S s j k; omega), ?_⟩
  have b := sm_le (f := fun l => hlL S s l k) (b := 1) (by omega) (m := S.2.2.2.1) (i := 0) (fun j _ _ => by have := hlL01 S s j k; omega)
  unfold dep
  omega
section
variable {G : ct_G} {h : ct_H} {o c cX cL cO cB hi wi : Nat} {S : LSt}
theorem m_crsL (mo : MO G o c cX cL cO cB) (m : MD G h o c hi wi) (sf : SF S) (rr : RR S (h.1 cL) (h.1 cO) (h.1 cB) (h.1 o 14)) {l q : Nat} (hl : l < S.2.2.2.1) (hq : q < 81) : ∀ (k i n : Nat) (a : Int), i + k = bN S l + cN S l → bN S l ≤ i → k < n → 0 ≤ a → a + k < 1000 → l_X7_crossings_7 G o (l : Int) (q : Int) h n (a, (i : Int)) = some (a + sm (fun i => pP (wi + 2) q (S.2.1 i).toNat) i k)
  | 0, i, n + 1, a, h1, hb, h2, h3, h4 => by
    have f := sf.2.2 l hl
    have s1 := sf.1
    rw [l_X7_crossings_7, mo.2.2.2.2.2.2.1, wr_id (by omega) (by omega), show (l : Int) + 1 = ((l + 1 : Nat) : Int) by omega, rdN (by rw [mo.2.2.2.2.2.2.2.1]; omega), bs, ← rr.2.2.1 (l + 1) (by omega), f.2.1, if_pos (by dsimp only; omega)]
    simp [sm]
  | k + 1, i, n + 1, a, h1, hb, h2, h3, h4 => by
    have f := sf.2.2 l hl
    have s1 := sf.1
    have s2 := sf.2.1
    have fe := f.2.2.2.2.1 (i - bN S l) (by omega)
    rw [show bN S l + (i - bN S l) = i by omega] at fe
    generalize he : eN S l (i - bN S l) = e at fe
    rw [l_X7_crossings_7, mo.2.2.2.2.2.2.1, wr_id (a := (l : Int) + 1) (by omega) (by omega), show (l : Int) + 1 = ((l + 1 : Nat) : Int) by omega, rdN (by rw [mo.2.2.2.2.2.2.2.1]; omega), bs, ← rr.2.2.1 (l + 1) (by omega), f.2.1, if_neg (by dsimp only; omega)]
    dsimp only
    rw [mo.2.2.2.2.1, rdN (by rw [mo.2.2.2.2.2.1]; omega), bs, ← rr.2.1 i (by omega), fe.1, dv_eq (by omega) (by omega), bs, bs, md_eq (by omega) (by omega), bs, jn_eq, wr_id (by omega) (by omega), show (e : Int) / 2 = ((e / 2 : Nat) : Int) by omega, m_row m (e / 2) (by omega), m_row m q (by omega)]
    rw [sm, fe.1, Int.toNat_natCast]
    have ih := fun a' x y => m_crsL mo m sf rr hl hq k (i + 1) n a' (by omega) (by omega) (by omega) x y
    rw [show ((i + 1 : Nat) : Int) = (i : Int) + 1 by omega] at ih
    have p01 := pP01 (wi + 2) q e
    by_cases z : e % 2 = 0 ∧ e / 2 / (wi + 2) = q / (wi + 2) ∧ q ≤ e / 2
    · have pe : pP (wi + 2) q e = 1 := by unfold pP; rw [if_pos z]
      rw [if_pos (by omega), bs, bs, if_pos (by rw [z.2.1]), if_neg (by omega), wr_id (by omega) (by omega)]
      dsimp only
      rw [ih _ (by omega) (by omega), pe, Int.add_assoc]
    · have pe : pP (wi + 2) q e = 0 := by unfold pP; rw [if_neg z]
      rw [pe, Int.zero_add]
      by_cases y1 : e % 2 = 0
      · rw [if_pos (by omega), bs, bs]
        by_cases y2 : e / 2 / (wi + 2) = q / (wi + 2)
        · rw [if_pos (by rw [y2]), if_pos (by have : ¬ q ≤ e / 2 := fun w => z ⟨y1, y2, w⟩
                                              omega)]
          dsimp only
          rw [ih _ (by omega) (by omega)]
        · rw [if_neg (by generalize e / 2 / (wi + 2) = u at y2
                         generalize q / (wi + 2) = v at y2
                         omega)]
          dsimp only
          rw [ih _ (by omega) (by omega)]
      · rw [if_neg (by omega)]
        dsimp only
        rw [ih _ (by omega) (by omega)]
theorem m_crossings (mo : MO G o c cX cL cO cB) (m : MD G h o c hi wi) (sf : SF S) (rr : RR S (h.1 cL) (h.1 cO) (h.1 cB) (h.1 o 14)) {l q : Nat} (hl : l < S.2.2.2.1) (hq : q < 81) : f_X7_crossings G h o (l : Int) (q : Int) = some (crs S (wi + 2) l q) := by
  have f := sf.2.2 l hl
  have s1 := sf.1
  have s2 := sf.2.1
  unfold f_X7_crossings crs
  rw [mo.2.2.2.2.2.2.1, rdN (by rw [mo.2.2.2.2.2.2.2.1]; omega), bs, ← rr.2.2.1 l (by omega), f.1, m_crsL mo m sf rr hl hq (cN S l) (bN S l) 200 0 (by omega) (by omega) (by omega) (by omega) (by omega), Int.zero_add]
theorem m_isHeld (mo : MO G o c cX cL cO cB) (m : MD G h o c hi wi) (sf : SF S) (rr : RR S (h.1 cL) (h.1 cO) (h.1 cB) (h.1 o 14)) {l q : Nat} (hl : l < S.2.2.2.1) (hq : q < 81) : f_X7_isHeld G h o (l : Int) (q : Int) = some (hld S (wi + 2) l q) := by
  unfold f_X7_isHeld
  rw [m_crossings mo m sf rr hl hq, bs, md_eq crs_b (by omega), bs]
  have := hld01 S (wi + 2) l q
  unfold hld at this ⊢
  generalize crs S (wi + 2) l q % 2 = x at this ⊢
  split <;> congr 1 <;> omega
theorem m_order0 (mo : MO G o c cX cL cO cB) (sf : SF S) (rr : RR S (h.1 cL) (h.1 cO) (h.1 cB) (h.1 o 14)) {l : Nat} (hl : l < S.2.2.2.1) : ct_rd G h (G.1 o 13) (l : Int) = some ((bN S l : Nat) : Int) ∧ ∀ i, i < cN S l → ct_rd G h (G.1 o 12) ((bN S l + i : Nat) : Int) = some ((eN S l i : Nat) : Int) := by
  have f := sf.2.2 l hl
  have s1 := sf.1
  have s2 := sf.2.1
  constructor
  · rw [mo.2.2.2.2.2.2.1, rdN (by rw [mo.2.2.2.2.2.2.2.1]; omega), ← rr.2.2.1 l (by omega), f.1]
  · intro i hi
    rw [mo.2.2.2.2.1, rdN (by rw [mo.2.2.2.2.2.1]; omega), ← rr.2.1 _ (by omega), (f.2.2.2.2.1 i hi).1]
theorem m_isHeldLine (mo : MO G o c cX cL cO cB) (m : MD G h o c hi wi) (sf : SF S) (rr : RR S (h.1 cL) (h.1 cO) (h.1 cB) (h.1 o 14)) {l k : Nat} (hl : l < S.2.2.2.1) (hk : k < S.2.2.2.1) : f_X7_isHeldLine G h o (l : Int) (k : Int) = some (hlL S (wi + 2) l k) := by
  have f := sf.2.2 k hk
  have od := m_order0 mo sf rr hk
  have od0 := od.2 0 (by omega)
  rw [Nat.add_zero] at od0
  have e1 := (f.2.2.2.2.1 0 (by omega)).2.1
  unfold f_X7_isHeldLine hlL
  by_cases z : l = k
  · rw [if_pos (by rw [z]), if_pos z]
  · rw [if_neg (by omega), if_neg z, od.1, bs, od0, bs, dv_eq (by omega) (by omega), bs, show ((eN S k 0 : Nat) : Int) / 2 = ((eN S k 0 / 2 : Nat) : Int) by omega, m_isHeld mo m sf rr hl (by omega), bs]
    have := hld01 S (wi + 2) l (eN S k 0 / 2)
    split <;> congr 1 <;> omega
theorem m_depthL (mo : MO G o c cX cL cO cB) (m : MD G h o c hi wi) (sf : SF S) (rr : RR S (h.1 cL) (h.1 cO) (h.1 cB) (h.1 o 14)) {k : Nat} (hk : k < S.2.2.2.1) : ∀ (t i n : Nat) (a : Int), i + t = S.2.2.2.1 → t < n → 0 ≤ a → a + t < 1000 → l_X7_depthOf_4 G o (k : Int) h n (a, (i : Int)) = some (a + sm (fun l => hlL S (wi + 2) l k) i t)
  | 0, i, n + 1, a, h1, h2, h3, h4 => by
    rw [l_X7_depthOf_4, rr.2.2.2, if_pos (by dsimp only; omega)]
    simp [sm]
  | t + 1, i, n + 1, a, h1, h2, h3, h4 => by
    have s1 := sf.1
    have := hlL01 S (wi + 2) i k
    rw [l_X7_depthOf_4, rr.2.2.2, if_neg (by dsimp only; omega)]
    dsimp only
    rw [m_isHeldLine mo m sf rr (by omega) hk, bs, jn_eq, wr_id (a := (i : Int) + 1) (by omega) (by omega), sm]
    have ih := fun a' x y => m_depthL mo m sf rr hk t (i + 1) n a' (by omega) (by omega) x y
    rw [show ((i + 1 : Nat) : Int) = (i : Int) + 1 by omega] at ih
    rcases this with e | e
    · rw [e, if_pos rfl]
      dsimp only
      rw [ih _ (by omega) (by omega), Int.zero_add]
    · rw [e, if_neg (by omega), wr_id (by omega) (by omega)]
      dsimp only
      rw [ih _ (by omega) (by omega), Int.add_assoc]
theorem m_depthOf (mo : MO G o c cX cL cO cB) (m : MD G h o c hi wi) (sf : SF S) (rr : RR S (h.1 cL) (h.1 cO) (h.1 cB) (h.1 o 14)) {k : Nat} (hk : k < S.2.2.2.1) : f_X7_depthOf G h o (k : Int) = some (dep S (wi + 2) k) := by
  have s1 := sf.1
  unfold f_X7_depthOf dep
  have := m_depthL mo m sf rr hk S.2.2.2.1 0 200 0 (by omega) (by omega) (by omega) (by omega)
  rw [show ((0 : Nat) : Int) = 0 from rfl] at this
  rw [this, Int.zero_add]
theorem m_isOuter (mo : MO G o c cX cL cO cB) (m : MD G h o c hi wi) (sf : SF S) (rr : RR S (h.1 cL) (h.1 cO) (h.1 cB) (h.1 o 14)) {k : Nat} (hk : k < S.2.2.2.1) : f_X7_isOuter G h o (k : Int) = some (if dep S (wi + 2) k % 2 = 0 then 1 else 0) := by
  unfold f_X7_isOuter
  rw [m_depthOf mo m sf rr hk, bs, md_eq (dep_b sf).1 (by omega), bs]
  split <;> rfl
theorem m_parentL (mo : MO G o c cX cL cO cB) (m : MD G h o c hi wi) (sf : SF S) (rr : RR S (h.1 cL) (h.1 cO) (h.1 cB) (h.1 o 14)) {k : Nat} (hk : k < S.2.2.2.1) : ∀ (t i n : Nat) (a : Int × Int), i + t = S.2.2.2.1 → t < n → l_X7_parentOf_6 G o (k : Int) h n (a.1, a.2, (i : Int)) = some (prn S (wi + 2) k t i a).1
  | 0, i, n + 1, a, h1, h2 => by
    rw [l_X7_parentOf_6, rr.2.2.2, if_pos (by dsimp only; omega)]
    rfl
  | t + 1, i, n + 1, a, h1, h2 => by
    have s1 := sf.1
    have := hlL01 S (wi + 2) i k
    rw [l_X7_parentOf_6, rr.2.2.2, if_neg (by dsimp only; omega)]
    dsimp only
    rw [m_isHeldLine mo m sf rr (by omega) hk, bs, jn_eq, wr_id (a := (i : Int) + 1) (by omega) (by omega), prn]
    have ih := fun a' => m_parentL mo m sf rr hk t (i + 1) n a' (by omega) (by omega)
    rw [show ((i + 1 : Nat) : Int) = (i : Int) + 1 by omega] at ih
    rcases this with e | e
    · rw [e, if_pos rfl, if_neg (by omega)]
      exact ih a
    · rw [e, if_neg (by omega), m_depthOf mo m sf rr (by omega), bs]
      by_cases y : a.2 < dep S (wi + 2) i
      · rw [if_pos y, bs, if_pos ⟨rfl, y⟩]
        exact ih ((i : Int), dep S (wi + 2) i)
      · rw [if_neg y, if_neg (fun w => y w.2)]
        exact ih a
theorem m_parentOf (mo : MO G o c cX cL cO cB) (m : MD G h o c hi wi) (sf : SF S) (rr : RR S (h.1 cL) (h.1 cO) (h.1 cB) (h.1 o 14)) {k : Nat} (hk : k < S.2.2.2.1) : f_X7_parentOf G h o (k : Int) = some (prn S (wi + 2) k S.2.2.2.1 0 (-5, -1)).1 := by
  have s1 := sf.1
  unfold f_X7_parentOf
  exact m_parentL mo m sf rr hk S.2.2.2.1 0 200 (-5, -1) (by omega) (by omega)
theorem m_lengthOf (mo : MO G o c cX cL cO cB) (sf : SF S) (rr : RR S (h.1 cL) (h.1 cO) (h.1 cB) (h.1 o 14)) {l : Nat} (hl : l < S.2.2.2.1) : f_X7_lengthOf G h o (l : Int) = some ((cN S l : Nat) : Int) := by
  have f := sf.2.2 l hl
  have s1 := sf.1
  have s2 := sf.2.1
  unfold f_X7_lengthOf
  rw [(m_order0 mo sf rr hl).1, mo.2.2.2.2.2.2.1, wr_id (a := (l : Int) + 1) (by omega) (by omega), show (l : Int) + 1 = ((l + 1 : Nat) : Int) by omega, rdN (by rw [mo.2.2.2.2.2.2.2.1]; omega), bs, bs, ← rr.2.2.1 (l + 1) (by omega), f.2.1, wr_id (by omega) (by omega)]
  congr 1
  omega
end
