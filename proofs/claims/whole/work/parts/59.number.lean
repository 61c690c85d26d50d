/-! lands have numbers: the spec, and the class -/
noncomputable def b01 (P : Prop) : Int := @ite Int P (Classical.propDecidable P) 1 0
theorem b01_t {P : Prop} (h : P) : b01 P = 1 := by unfold b01; rw [if_pos h]
theorem b01_f {P : Prop} (h : ¬ P) : b01 P = 0 := by unfold b01; rw [if_neg h]
theorem b01_b (P : Prop) : 0 ≤ b01 P ∧ b01 P ≤ 1 := by
  rcases Classical.em P with h | h
  · rw [b01_t h]; omega
  · rw [b01_f h]; omega
/-- the least place of its land -/
def isl (F : Nat → Int) (hi wi : Nat) (kd L : Int) (z : Nat) : Prop := z < (hi + 2) * (wi + 2) ∧ ¬ F z < L ∧ ∀ y, con F hi wi kd L y z → z ≤ y
noncomputable def nmb (F : Nat → Int) (hi wi : Nat) (kd L : Int) (z : Nat) : Int := sm (fun y => b01 (isl F hi wi kd L y)) 0 z
def LD (F : Nat → Int) (hi wi : Nat) (kd L : Int) (x : Nat) (v : Int) : Prop := (F x < L ∧ v = -5) ∨ (¬ F x < L ∧ ∃ z, isl F hi wi kd L z ∧ con F hi wi kd L z x ∧ v = nmb F hi wi kd L z)
def plB (hi wi q : Nat) : Bool := decide ((1 ≤ q / (wi + 2) ∧ q / (wi + 2) ≤ hi) ∧ 1 ≤ q % (wi + 2) ∧ q % (wi + 2) ≤ wi)
theorem pl49 : ∀ hi, hi < 8 → ∀ wi, wi < 8 → sm (fun q => if plB hi wi q = true then 1 else 0) 0 81 ≤ 49 := by decide +kernel
def szN (A : Nat → Int) (l : Int) (p : Nat) : Int := sm (fun x => if A x = l then 1 else 0) 0 p
def tpN (A F : Nat → Int) (l : Int) : Nat → Int
  | 0 => 0
  | p + 1 => if A p = l then max (tpN A F l p) (F p) else tpN A F l p
theorem tpN_congr {A A' F : Nat → Int} {l : Int} : ∀ p, (∀ x, x < p → A x = A' x) → tpN A F l p = tpN A' F l p
  | 0, _ => rfl
  | p + 1, h => by rw [tpN, tpN, h p (by omega), tpN_congr p (fun x hx => h x (by omega))]
theorem tpN_none {A F : Nat → Int} {l : Int} : ∀ p, (∀ x, x < p → A x ≠ l) → tpN A F l p = 0
  | 0, _ => rfl
  | p + 1, h => by rw [tpN, if_neg (h p (by omega)), tpN_none p (fun x hx => h x (by omega))]
section
variable {F : Nat → Int} {hi wi : Nat} {kd L : Int}
theorem nmb_succ {z : Nat} : nmb F hi wi kd L (z + 1) = nmb F hi wi kd L z + b01 (isl F hi wi kd L z) := by
  unfold nmb; rw [sm_last, Nat.zero_add]
theorem nmb_mono {a b : Nat} (h : a ≤ b) : nmb F hi wi kd L a ≤ nmb F hi wi kd L b := by
  obtain ⟨k, rfl⟩ : ∃ k, b = a + k := ⟨b - a, by omega⟩
  unfold nmb
  rw [sm_cut]
  have := sm_nonneg (f := fun y => b01 (isl F hi wi kd L y)) (m := k) (i := 0 + a) (fun j _ _ => (b01_b _).1)
  omega
theorem nmb_lt {a b : Nat} (h : a < b) (i : isl F hi wi kd L a) : nmb F hi wi kd L a < nmb F hi wi kd L b := by
  have := nmb_mono (F := F) (hi := hi) (wi := wi) (kd := kd) (L := L) (show a + 1 ≤ b by omega)
  rw [nmb_succ, b01_t i] at this
  omega
theorem nmb_0 {a : Nat} : 0 ≤ nmb F hi wi kd L a := sm_nonneg (fun j _ _ => (b01_b _).1)
theorem nmb_49 (h1 : 2 ≤ hi ∧ hi ≤ 7) (h2 : 2 ≤ wi ∧ wi ≤ 7) (r : RM F hi wi) (hL : 0 ≤ L) {a : Nat} (ha : a ≤ 81) : nmb F hi wi kd L a ≤ 49 := by
  refine Int.le_trans (nmb_mono ha) (Int.le_trans (sm_mono (fun j _ j2 => ?_)) (pl49 hi (by omega) wi (by omega)))
  rcases Classical.em (isl F hi wi kd L j) with h | h
  · have := r.inn (q := j) (by omega) (by have := h.2.1; omega)
    rw [b01_t h, if_pos (show plB hi wi j = true from decide_eq_true this)]
    omega
  · rw [b01_f h]; split <;> omega
theorem isl_48 (h1 : 2 ≤ hi ∧ hi ≤ 7) (h2 : 2 ≤ wi ∧ wi ≤ 7) (r : RM F hi wi) (hL : 0 ≤ L) {a : Nat} (h : isl F hi wi kd L a) : 0 ≤ nmb F hi wi kd L a ∧ nmb F hi wi kd L a ≤ 48 := by
  have hN := N81 h1 h2
  have h' := h.1
  have := nmb_49 (kd := kd) h1 h2 r hL (a := a + 1) (by omega)
  rw [nmb_succ, b01_t h] at this
  exact ⟨nmb_0, by omega⟩
theorem isl_uniq {a b : Nat} (ha : isl F hi wi kd L a) (hb : isl F hi wi kd L b) (h : con F hi wi kd L a b) : a = b := Nat.le_antisymm (ha.2.2 b (con_symm h)) (hb.2.2 a h)
theorem nmb_inj {a b : Nat} (ha : isl F hi wi kd L a) (hb : isl F hi wi kd L b) (h : nmb F hi wi kd L a = nmb F hi wi kd L b) : a = b := by
  rcases Nat.lt_trichotomy a b with w | w | w
  · have := nmb_lt w ha; omega
  · exact w
  · have := nmb_lt w hb; omega
theorem LD_uniq {x : Nat} {v w : Int} (h : LD F hi wi kd L x v) (h' : LD F hi wi kd L x w) : v = w := by
  rcases h with ⟨a, b⟩ | ⟨a, z, z1, z2, z3⟩ <;> rcases h' with ⟨c, d⟩ | ⟨c, y, y1, y2, y3⟩
  · omega
  · exact absurd a c
  · exact absurd c a
  · rw [isl_uniq z1 y1 (con_trans z2 (con_symm y2))] at z3
    omega
/-- rows that tell the lands of a level -/
def DR (A M S T : Nat → Int) (n : Int) (F : Nat → Int) (hi wi : Nat) (kd L : Int) (p : Nat) : Prop := n = nmb F hi wi kd L p ∧ (∀ x, x < p → LD F hi wi kd L x (A x)) ∧ ∀ z, z < p → isl F hi wi kd L z → M (nmb F hi wi kd L z).toNat = (z : Nat) ∧ S (nmb F hi wi kd L z).toNat = szN A (nmb F hi wi kd L z) p ∧ T (nmb F hi wi kd L z).toNat = tpN A F (nmb F hi wi kd L z) p
theorem RT_isl (h1 : 2 ≤ hi ∧ hi ≤ 7) (h2 : 2 ≤ wi ∧ wi ≤ 7) {R : Nat → Int} (t : RT F hi wi kd L R) {p : Nat} (hp : p < (hi + 2) * (wi + 2)) (hin : ¬ F p < L) : (rt R p = p ↔ isl F hi wi kd L p) := by
  have hN := N81 h1 h2
  constructor
  · intro e
    refine ⟨hp, hin, fun y cy => ?_⟩
    have := t.2.2 y p cy
    have yl := (con_in h1 h2 cy).2.mpr hp
    have := (rt_le t.1 (p := y) (by omega)).1
    omega
  · intro i
    have := i.2.2 (rt R p) (t.2.1 p hp)
    have := (rt_le t.1 (p := p) (by omega)).1
    omega
theorem szN_up {A : Nat → Int} {l v : Int} {p : Nat} : szN (up A p v) l (p + 1) = szN A l p + (if v = l then 1 else 0) := by
  unfold szN
  rw [sm_last, Nat.zero_add, up_same, sm_congr (fun j _ j2 => by rw [up_other _ _ (by omega)])]
theorem tpN_up {A F : Nat → Int} {l v : Int} {p : Nat} : tpN (up A p v) F l (p + 1) = if v = l then max (tpN A F l p) (F p) else tpN A F l p := by
  rw [tpN, up_same, tpN_congr (A' := A) p (fun x hx => by rw [up_other _ _ (by omega)])]
theorem szN_b {A : Nat → Int} {l : Int} {p : Nat} : 0 ≤ szN A l p ∧ szN A l p ≤ p := by
  unfold szN
  refine ⟨sm_nonneg (fun j _ _ => by split <;> omega), ?_⟩
  have := sm_le (f := fun x => if A x = l then 1 else 0) (b := 1) (by omega) (m := p) (i := 0) (fun j _ _ => by split <;> omega)
  omega
end
section
variable {G : ct_G} {o og c cR cA cM cS cT cK hi wi : Nat} {L : Int}
theorem x1_numL (d : DO G o og c cR cA cM cS cT cK) : ∀ (k p n : Nat) (h : ct_H), p + k = (hi + 2) * (wi + 2) → k < n → GR G h og c hi wi → RM (h.1 c) hi wi → h.1 o 8 = L → 0 ≤ L → RT (h.1 c) hi wi (h.1 og 5) L (h.1 cR) → DR (h.1 cA) (h.1 cM) (h.1 cS) (h.1 cT) (h.1 o 7) (h.1 c) hi wi (h.1 og 5) L p → ∃ h' : ct_H, l_X1_numberLands_5 G o n ((p : Int), h) = some h' ∧ DR (h'.1 cA) (h'.1 cM) (h'.1 cS) (h'.1 cT) (h'.1 o 7) (h.1 c) hi wi (h.1 og 5) L ((hi + 2) * (wi + 2)) ∧ (∀ j, j ≠ 7 → h'.1 o j = h.1 o j) ∧ h'.2 = h.2 ∧ ∀ a, a ≠ o → a ≠ cA → a ≠ cM → a ≠ cS → a ≠ cT → h'.1 a = h.1 a
  | 0, p, n + 1, h, h1, h2, g, r, hL, hl, t, dr => by
    refine ⟨h, ?_, by rw [← h1]; exact dr, fun _ _ => rfl, rfl, fun _ _ _ _ _ _ => rfl⟩
    rw [l_X1_numberLands_5, d.1.1, g.2.2.2.2.2.2.1, if_pos (by dsimp only; omega)]
  | k + 1, p, n + 1, h, h1, h2, g, r, hL, hl, t, dr => by
    have dd := d
    obtain ⟨⟨d0, d1, d2, d3, d4, d5, d6, d7, d8, d9, d10, d11, d12⟩, o1, o2, o3, o4, o5, o6, o7, o8⟩ := d
    have g8 := g.2.2.2.2.2.2.2.1
    have g9 := g.2.2.2.2.2.2.2.2
    have hN := N81 g8 g9
    have n49 := nmb_49 (kd := h.1 og 5) g8 g9 r hl (a := p) (by omega)
    have n0 := nmb_0 (F := h.1 c) (hi := hi) (wi := wi) (kd := h.1 og 5) (L := L) (a := p)
    obtain ⟨r1, r2, r3⟩ := dr
    -- what is left once the heap behind place p is known
    have fin : ∀ hh : ct_H, DR (hh.1 cA) (hh.1 cM) (hh.1 cS) (hh.1 cT) (hh.1 o 7) (h.1 c) hi wi (h.1 og 5) L (p + 1) → (∀ j, j ≠ 7 → hh.1 o j = h.1 o j) → hh.2 = h.2 → (∀ a, a ≠ o → a ≠ cA → a ≠ cM → a ≠ cS → a ≠ cT → hh.1 a = h.1 a) → ∃ h' : ct_H, l_X1_numberLands_5 G o n (((p + 1 : Nat) : Int), hh) = some h' ∧ DR (h'.1 cA) (h'.1 cM) (h'.1 cS) (h'.1 cT) (h'.1 o 7) (h.1 c) hi wi (h.1 og 5) L ((hi + 2) * (wi + 2)) ∧ (∀ j, j ≠ 7 → h'.1 o j = h.1 o j) ∧ h'.2 = h.2 ∧ ∀ a, a ≠ o → a ≠ cA → a ≠ cM → a ≠ cS → a ≠ cT → h'.1 a = h.1 a := by
      intro hh q1 q2 q3 q4
      have xg := q4 og (by omega) (by omega) (by omega) (by omega) (by omega)
      have xc := q4 c (by omega) (by omega) (by omega) (by omega) (by omega)
      have xR := q4 cR (by omega) (by omega) (by omega) (by omega) (by omega)
      obtain ⟨h', e1, e2, e3, e4, e5⟩ := x1_numL dd k (p + 1) n hh (by omega) (by omega) (GR_congr g xg) (by rw [xc]; exact r) (by rw [q2 8 (by omega)]; exact hL) hl (by rw [xc, xg, xR]; exact t) (by rw [xc, xg]; exact q1)
      rw [xc, xg] at e2
      exact ⟨h', e1, e2, fun j hj => (e3 j hj).trans (q2 j hj), e4.trans q3, fun a a1 a2 a3 a4 a5 => (e5 a a1 a2 a3 a4 a5).trans (q4 a a1 a2 a3 a4 a5)⟩
    have rp := rt_le t.1 (p := p) (by omega)
    rw [l_X1_numberLands_5, d0, g.2.2.2.2.2.2.1, if_neg (by dsimp only; omega)]
    dsimp only
    have isI : f_X1_isIn G h o (p : Int) = some (if h.1 c p < L then 0 else 1) := by
      unfold f_X1_isIn
      rw [d0, g.1, rdN (by rw [g.2.1]; omega), bs, hL]
      split <;> rfl
    rw [x1_rootOf dd rfl t.1 (by omega), bs, isI, bs, jn_eq, wr_id (a := (p : Int) + 1) (by omega) (by omega), show (p : Int) + 1 = ((p + 1 : Nat) : Int) by omega]
    by_cases z : h.1 c p < L
    · rw [if_pos z, if_pos rfl, d3, wtN (by omega), bs]
      have ni : ¬ isl (h.1 c) hi wi (h.1 og 5) L p := fun w => w.2.1 z
      refine fin _ ⟨?_, ?_, ?_⟩ (fun j _ => by rw [hs_orow _ _ (show o ≠ cA by omega)]) rfl (fun a _ a2 _ _ _ => hs_orow _ _ a2)
      · rw [hs_orow _ _ (show o ≠ cA by omega), nmb_succ, b01_f ni, Int.add_zero]; exact r1
      · intro x hx
        rw [hs_row]
        by_cases e : x = p
        · subst e; rw [up_same]; exact Or.inl ⟨z, rfl⟩
        · rw [up_other _ _ e]; exact r2 x (by omega)
      · intro y hy iy
        have yp : y ≠ p := fun e => ni (e ▸ iy)
        have ny := nmb_0 (F := h.1 c) (hi := hi) (wi := wi) (kd := h.1 og 5) (L := L) (a := y)
        obtain ⟨m1, m2, m3⟩ := r3 y (by omega) iy
        rw [hs_row, hs_orow _ _ (show cM ≠ cA by omega), hs_orow _ _ (show cS ≠ cA by omega), hs_orow _ _ (show cT ≠ cA by omega), szN_up, tpN_up, if_neg (by omega), if_neg (by omega), Int.add_zero]
        exact ⟨m1, m2, m3⟩
    · rw [if_neg z, if_neg (by omega)]
      have ri := RT_isl g8 g9 t (show p < (hi + 2) * (wi + 2) by omega) z
      by_cases e : rt (h.1 cR) p = p
      · have ip := ri.mp e
        have i48 := isl_48 g8 g9 r hl ip
        rw [if_pos (by rw [e]), d3, wtN (by omega), bs, d5, hs_orow _ _ (show o ≠ cA by omega), r1]
        obtain ⟨v, hv⟩ := Int.eq_ofNat_of_zero_le i48.1
        rw [hv]
        rw [wtN (by omega), bs, d7, hs_orow _ _ (show o ≠ cM by omega), hs_orow _ _ (show o ≠ cA by omega), r1, hv, wtN (by omega), bs, g.1, rdN (by rw [g.2.1]; omega), bs, d9, hs_orow _ _ (show o ≠ cS by omega), hs_orow _ _ (show o ≠ cM by omega), hs_orow _ _ (show o ≠ cA by omega), r1, hv, wtN (by omega), bs, lt_eq, ct_wF_hs, hs_orow _ _ (show o ≠ cT by omega), hs_orow _ _ (show o ≠ cS by omega), hs_orow _ _ (show o ≠ cM by omega), hs_orow _ _ (show o ≠ cA by omega), r1, hv, wr_id (by omega) (by omega)]
        rw [hs_orow _ _ (show cM ≠ cA by omega), hs_orow _ _ (show cS ≠ cM by omega), hs_orow _ _ (show cS ≠ cA by omega), hs_orow _ _ (show cT ≠ cS by omega), hs_orow _ _ (show cT ≠ cM by omega), hs_orow _ _ (show cT ≠ cA by omega), hs_orow _ _ (show c ≠ cS by omega), hs_orow _ _ (show c ≠ cM by omega), hs_orow _ _ (show c ≠ cA by omega)]
        -- rows of the new heap
        generalize hA : up (h.1 cA) p (v : Int) = A'
        generalize hM : up (h.1 cM) v (p : Int) = M'
        generalize hS : up (h.1 cS) v 1 = S'
        generalize hT : up (h.1 cT) v (h.1 c p) = T'
        generalize hO : up (h.1 o) 7 ((v : Int) + 1) = O'
        have none : ∀ x, x < p → h.1 cA x ≠ (v : Int) := by
          intro x hx w
          rcases r2 x hx with q | ⟨_, y, y1, y2, y3⟩
          · omega
          · have yx := y1.2.2 x (con_symm y2)
            have := nmb_lt (show y < p by omega) y1
            omega
        refine fin _ ⟨?_, ?_, ?_⟩ (fun j hj => by rw [hs_row, ← hO, up_other _ _ hj]) rfl (fun a a1 a2 a3 a4 a5 => by rw [hs_orow _ _ a1, hs_orow _ _ a5, hs_orow _ _ a4, hs_orow _ _ a3, hs_orow _ _ a2])
        · rw [hs_row, ← hO, up_same, nmb_succ, b01_t ip, hv]
        · intro x hx
          rw [hs_orow _ _ (show cA ≠ o by omega), hs_orow _ _ (show cA ≠ cT by omega), hs_orow _ _ (show cA ≠ cS by omega), hs_orow _ _ (show cA ≠ cM by omega), hs_row, ← hA]
          by_cases e2 : x = p
          · subst e2; rw [up_same]; exact Or.inr ⟨z, x, ip, con_refl, hv.symm⟩
          · rw [up_other _ _ e2]; exact r2 x (by omega)
        · intro y hy iy
          have ny := nmb_0 (F := h.1 c) (hi := hi) (wi := wi) (kd := h.1 og 5) (L := L) (a := y)
          rw [hs_orow _ _ (show cA ≠ o by omega), hs_orow _ _ (show cA ≠ cT by omega), hs_orow _ _ (show cA ≠ cS by omega), hs_orow _ _ (show cA ≠ cM by omega), hs_row, hs_orow _ _ (show cM ≠ o by omega), hs_orow _ _ (show cM ≠ cT by omega), hs_orow _ _ (show cM ≠ cS by omega), hs_row, hs_orow _ _ (show cS ≠ o by omega), hs_orow _ _ (show cS ≠ cT by omega), hs_row, hs_orow _ _ (show cT ≠ o by omega), hs_row, ← hA, ← hM, ← hS, ← hT, szN_up, tpN_up]
          by_cases yp : y = p
          · subst yp
            rw [hv, Int.toNat_natCast, up_same, up_same, up_same, if_pos rfl, if_pos rfl, tpN_none y none]
            refine ⟨rfl, ?_, by omega⟩
            unfold szN
            rw [sm_zero (fun x _ x2 => by rw [if_neg (none x (by omega))])]
            rfl
          · have lt := nmb_lt (show y < p by omega) iy
            obtain ⟨m1, m2, m3⟩ := r3 y (by omega) iy
            rw [up_other _ _ (by omega), up_other _ _ (by omega), up_other _ _ (by omega), if_neg (by omega), if_neg (by omega), Int.add_zero]
            exact ⟨m1, m2, m3⟩
      · have np : ¬ isl (h.1 c) hi wi (h.1 og 5) L p := fun w => e (ri.mpr w)
        have cr := t.2.1 p (by omega)
        have zin : ¬ h.1 c (rt (h.1 cR) p) < L := fun w => z ((con_in g8 g9 cr).1.mp w)
        have ldr := r2 (rt (h.1 cR) p) (by omega)
        obtain ⟨y, y1, y2, y3⟩ : ∃ z, isl (h.1 c) hi wi (h.1 og 5) L z ∧ con (h.1 c) hi wi (h.1 og 5) L z (rt (h.1 cR) p) ∧ h.1 cA (rt (h.1 cR) p) = nmb (h.1 c) hi wi (h.1 og 5) L z := by
          rcases ldr with q | q
          · exact absurd q.1 zin
          · exact q.2
        have yr := y1.2.2 _ (con_symm y2)
        have yp : y < p := by omega
        have i48 := isl_48 g8 g9 r hl y1
        obtain ⟨m1, m2, m3⟩ := r3 y yp y1
        obtain ⟨v, hv⟩ := Int.eq_ofNat_of_zero_le i48.1
        rw [hv] at m1 m2 m3
        rw [Int.toNat_natCast] at m1 m2 m3
        have sb := szN_b (A := h.1 cA) (l := (v : Int)) (p := p)
        rw [if_neg (by omega), d3, rdN (by omega), bs, y3, hv, wtN (by omega), bs, d7, rdN (by omega), bs, hs_orow _ _ (show cS ≠ cA by omega), m2, wr_id (by omega) (by omega), wtN (by omega), bs, hs_orow _ _ (show cS ≠ cA by omega), d9, rdN (by omega), bs, hs_orow _ _ (show cT ≠ cS by omega), hs_orow _ _ (show cT ≠ cA by omega), m3, g.1, rdN (by rw [g.2.1]; omega), bs, hs_orow _ _ (show c ≠ cS by omega), hs_orow _ _ (show c ≠ cA by omega), ct_max_eq, wtN (by omega), bs, hs_orow _ _ (show cT ≠ cS by omega), hs_orow _ _ (show cT ≠ cA by omega)]
        generalize hA : up (h.1 cA) p (v : Int) = A'
        generalize hS : up (h.1 cS) v (szN (h.1 cA) (v : Int) p + 1) = S'
        generalize hT : up (h.1 cT) v (max (tpN (h.1 cA) (h.1 c) (v : Int) p) (h.1 c p)) = T'
        refine fin _ ⟨?_, ?_, ?_⟩ (fun j _ => by rw [hs_orow _ _ (show o ≠ cT by omega), hs_orow _ _ (show o ≠ cS by omega), hs_orow _ _ (show o ≠ cA by omega)]) rfl (fun a a1 a2 a3 a4 a5 => by rw [hs_orow _ _ a5, hs_orow _ _ a4, hs_orow _ _ a2])
        · rw [hs_orow _ _ (show o ≠ cT by omega), hs_orow _ _ (show o ≠ cS by omega), hs_orow _ _ (show o ≠ cA by omega), nmb_succ, b01_f np, Int.add_zero]; exact r1
        · intro x hx
          rw [hs_orow _ _ (show cA ≠ cT by omega), hs_orow _ _ (show cA ≠ cS by omega), hs_row, ← hA]
          by_cases e2 : x = p
          · subst e2; rw [up_same]; exact Or.inr ⟨z, y, y1, con_trans y2 cr, hv.symm⟩
          · rw [up_other _ _ e2]; exact r2 x (by omega)
        · intro w hw iw
          have nw := nmb_0 (F := h.1 c) (hi := hi) (wi := wi) (kd := h.1 og 5) (L := L) (a := w)
          have wp : w ≠ p := fun e2 => np (e2 ▸ iw)
          rw [hs_orow _ _ (show cA ≠ cT by omega), hs_orow _ _ (show cA ≠ cS by omega), hs_row, hs_orow _ _ (show cM ≠ cT by omega), hs_orow _ _ (show cM ≠ cS by omega), hs_orow _ _ (show cM ≠ cA by omega), hs_orow _ _ (show cS ≠ cT by omega), hs_row, hs_row, ← hA, ← hS, ← hT, szN_up, tpN_up]
          obtain ⟨b1, b2, b3⟩ := r3 w (by omega) iw
          by_cases ew : nmb (h.1 c) hi wi (h.1 og 5) L w = (v : Int)
          · rw [ew, Int.toNat_natCast, up_same, up_same, if_pos rfl, if_pos rfl]
            rw [ew, Int.toNat_natCast] at b1
            exact ⟨b1, rfl, rfl⟩
          · rw [up_other _ _ (by omega), up_other _ _ (by omega), if_neg (by omega), if_neg (by omega), Int.add_zero]
            exact ⟨b1, b2, b3⟩
end
