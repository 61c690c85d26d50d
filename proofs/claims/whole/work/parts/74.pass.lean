/-! the calls pass and stands -/
section
variable {G : ct_G} {h : ct_H} {hi wi : Nat} {B : Int}
/-- at levels where both are in, the numbers of the lands are alike just if they hang together -/
theorem LD_same {F : Nat → Int} {kd L : Int} {x y : Nat} {v w : Int} (hx : LD F hi wi kd L x v) (hy : LD F hi wi kd L y w) (ix : ¬ F x < L) (iy : ¬ F y < L) : v = w ↔ con F hi wi kd L x y := by
  rcases hx with ⟨a, _⟩ | ⟨_, z, z1, z2, z3⟩
  · exact absurd a ix
  · have := (LD_land hy).2 z z1
    rw [z3]
    constructor
    · intro e; exact con_trans (con_symm z2) (this.mp e.symm)
    · intro c; exact (this.mpr (con_trans z2 c)).symm
theorem c_passL (gs : GS G) {F : Nat → Int} {kd : Int} {p q T : Nat} (hp : p < hi * wi) (hq : q < hi * wi) (hT : T ≤ 99) (tp : (T : Int) ≤ F (plc wi p)) (tq : (T : Int) ≤ F (plc wi q)) : ∀ (k l f : Nat) (h : ct_H), k ≤ 7 → l ≤ T → k < f → IG G h hi wi → IC h hi wi → h.1 2 = F → h.1 1 5 = kd → ∃ h' : ct_H, l_X6_pass_36 G 0 ((plc wi p : Nat) : Int) ((plc wi q : Nat) : Int) (T : Int) f ((l : Int), ((st2 k : Nat) : Int), h) = some (((hvn (fun x => con F hi wi kd (x : Int) (plc wi p) (plc wi q)) T k l : Nat) : Int), h') ∧ QF h h' ∧ IC h' hi wi
  | 0, l, f + 1, h, h1, hl, h2, ig, ic, e1, e2 => by
    refine ⟨h, ?_, QF.refl, ic⟩
    rw [l_X6_pass_36, if_pos (by rw [st2_0]; dsimp only; omega)]
    rfl
  | k + 1, l, f + 1, h, h1, hl, h2, ig, ic, e1, e2 => by
    have g8 := ig.1.2.2.2.2.2.2.2.1
    have g9 := ig.1.2.2.2.2.2.2.2.2
    have p2 := p2_le (k := k) (by omega)
    have pl := plc_lt g8 g9 hp
    have ql := plc_lt g8 g9 hq
    have dd := gs.2.2.2.1.1.1
    rw [l_X6_pass_36, if_neg (by rw [st2_s]; dsimp only; omega)]
    dsimp only
    rw [dv_eq (by omega) (by omega), show ((st2 (k + 1) : Nat) : Int) / 2 = ((st2 (k + 1) / 2 : Nat) : Int) by omega, st2_half, st2_s, hvn]
    generalize 2 ^ k = w at p2 ⊢
    rw [wr_id (a := (l : Int) + (w : Int)) (by omega) (by omega), show (l : Int) + (w : Int) = ((l + w : Nat) : Int) by omega, jn_eq]
    have ih := fun l' hl' hh a b c d => c_passL gs (F := F) (kd := kd) hp hq hT tp tq k l' f hh (by omega) hl' (by omega) a b c d
    by_cases z : l + w ≤ T
    · obtain ⟨hf, f1, f2, f3, f4, f5⟩ := c_find gs ig ic (L := ((l + w : Nat) : Int)) (by omega)
      rw [e1, e2] at f4
      have gf := ig.q f2
      rw [if_neg (by omega), gs.1.2.2.1, f1, bs, dd.2.2.2.1, rdN (by rw [dd.2.2.2.2.1]; omega), bs, rdN (by rw [dd.2.2.2.2.1]; omega), bs]
      have same := LD_same (f4.2.1 _ pl.1) (f4.2.1 _ ql.1) (by omega) (by omega)
      have fr := f2.row2
      by_cases y : hf.1 10 (plc wi p) = hf.1 10 (plc wi q)
      · rw [if_pos y, lt_eq, if_pos ⟨z, same.mp y⟩]
        dsimp only
        rw [bs]
        obtain ⟨h', a1, a2, a3⟩ := ih _ z hf gf f3 (fr.1.trans e1) (by rw [fr.2]; exact e2)
        exact ⟨h', a1, f2.trans a2, a3⟩
      · rw [if_neg y, if_neg (fun u => y (same.mpr u.2))]
        dsimp only
        rw [bs]
        obtain ⟨h', a1, a2, a3⟩ := ih _ hl hf gf f3 (fr.1.trans e1) (by rw [fr.2]; exact e2)
        exact ⟨h', a1, f2.trans a2, a3⟩
    · rw [if_pos (by omega), if_neg (fun u => z u.1)]
      dsimp only
      rw [bs]
      exact ih _ hl h ig ic e1 e2
theorem m_passL (gs : GS G) {F : Nat → Int} {kd : Int} {p q T m : Nat} (hp : p < hi * wi) (hq : q < hi * wi) (hT : T ≤ 99) (tp : (T : Int) ≤ F (plc wi p)) (tq : (T : Int) ≤ F (plc wi q)) (hm : m ≤ T) (hP : ∀ x, x ≤ T → (con F hi wi kd (x : Int) (plc wi p) (plc wi q) ↔ x ≤ m)) : ∀ (t f : Nat) (h : ct_H), m + t ≤ T → t < f → IG G h hi wi → IC h hi wi → h.1 2 = F → h.1 1 5 = kd → (∀ x, x < hi * wi → LD F hi wi kd ((m + t : Nat) : Int) (plc wi x) (h.1 82 x)) → ∃ h' : ct_H, l_X7_pass_31 G 73 (p : Int) (q : Int) f (((m + t : Nat) : Int), h) = some ((m : Int), h') ∧ QF h h' ∧ IC h' hi wi
  | 0, f + 1, h, h1, h2, ig, ic, e1, e2, hd => by
    have h49 : hi * wi ≤ 49 := Nat.mul_le_mul ig.1.2.2.2.2.2.2.2.1.2 ig.1.2.2.2.2.2.2.2.2.2
    have mp := gs.2.2.2.2.2.2.2.2.2
    rw [Nat.add_zero] at hd
    have same := LD_same (hd p hp) (hd q hq) (by omega) (by omega)
    refine ⟨h, ?_, QF.refl, ic⟩
    rw [l_X7_pass_31, Nat.add_zero]
    dsimp only
    rw [mp.1, rdN (by rw [mp.2.1]; omega), bs, rdN (by rw [mp.2.1]; omega), bs, if_pos (same.mpr ((hP m hm).mpr (Nat.le_refl _)))]
  | t + 1, f + 1, h, h1, h2, ig, ic, e1, e2, hd => by
    have h49 : hi * wi ≤ 49 := Nat.mul_le_mul ig.1.2.2.2.2.2.2.2.1.2 ig.1.2.2.2.2.2.2.2.2.2
    have mp := gs.2.2.2.2.2.2.2.2.2
    have same := LD_same (hd p hp) (hd q hq) (by omega) (by omega)
    obtain ⟨hy, y1, y2, y3, y4, y5, y6, y7⟩ := r_lands gs ig ic (L := ((m + t : Nat) : Int)) (by omega)
    rw [e1, e2] at y5
    obtain ⟨h', a1, a2, a3⟩ := m_passL gs hp hq hT tp tq hm hP t f hy (by omega) (by omega) (ig.q y2) y3 (y2.row2.1.trans e1) (by rw [y2.row2.2]; exact e2) y5
    refine ⟨h', ?_, y2.trans a2, a3⟩
    rw [l_X7_pass_31]
    dsimp only
    rw [mp.1, rdN (by rw [mp.2.1]; omega), bs, rdN (by rw [mp.2.1]; omega), bs, if_neg (fun w => by have := (hP _ h1).mp (same.mp w); omega), wr_id (by omega) (by omega), show ((m + (t + 1) : Nat) : Int) + -1 = ((m + t : Nat) : Int) by omega, y1, bs]
    exact a1
theorem s_pass (gs : GS G) (inv : INV G h hi wi B) (a b : Int) : SAM G hi wi B (f_X6_pass G h 0 a b) (fun h1 => f_X7_pass G h1 73 a b) := by
  have ig := inv.1
  have top := gs.1
  have g8 := ig.1.2.2.2.2.2.2.2.1
  have g9 := ig.1.2.2.2.2.2.2.2.2
  have h49 : hi * wi ≤ 49 := Nat.mul_le_mul g8.2 g9.2
  have rm := ig.2.2.1.RM g9
  by_cases ha : 0 ≤ a ∧ a < ((hi * wi : Nat) : Int)
  · by_cases hb : 0 ≤ b ∧ b < ((hi * wi : Nat) : Int)
    · obtain ⟨p, rfl⟩ := Int.eq_ofNat_of_zero_le ha.1
      obtain ⟨q, rfl⟩ := Int.eq_ofNat_of_zero_le hb.1
      have hp : p < hi * wi := by omega
      have hq : q < hi * wi := by omega
      have rp := ig.2.2.1.1 p hp
      have rq := ig.2.2.1.1 q hq
      have hF : ∀ x, x < hi * wi → 0 ≤ h.1 2 (plc wi x) := fun x hx => by have := ig.2.2.1.1 x hx; omega
      obtain ⟨T, hT⟩ := Int.eq_ofNat_of_zero_le (show 0 ≤ min (h.1 2 (plc wi p)) (h.1 2 (plc wi q)) by omega)
      have T99 : T ≤ 99 := by omega
      obtain ⟨m, hm, hP⟩ := hv_most (P := fun x => con (h.1 2) hi wi (h.1 1 5) (x : Int) (plc wi p) (plc wi q)) (con0 g8 g9 hF hp hq) (fun x w => con_mono g8 g9 rm (by omega) (by omega) w) T
      obtain ⟨h1, c1, c2, c3⟩ := c_passL gs hp hq T99 (F := h.1 2) (kd := h.1 1 5) (by omega) (by omega) 7 0 200 h (by omega) (by omega) (by omega) ig inv.2.1 rfl rfl
      rw [hvn_eq hm hP 7 0 (by omega) (by omega)] at c1
      have g1 := ig.q c2
      refine SAM.of inv (r := (m : Int)) (h1 := h1) ?_ c2 c3 ?_
      · unfold f_X6_pass
        rw [top.1, g_isPoint ig.1, if_pos ha, bs, if_neg (by omega), g_isPoint ig.1, if_pos hb, bs, if_neg (by omega), g_heightOf ig.1 hp, bs, g_heightOf ig.1 hq, bs, g_placeOf ig.1 hp, bs, g_placeOf ig.1 hq, bs, ct_min_eq, hT]
        exact c1
      · have rh1 := g1.2.2.1
        rw [c2.row2.1] at rh1
        have pre : ∀ X, f_X7_pass G h1 73 (p : Int) (q : Int) = X ↔ (if (p : Int) = (q : Int) then (some (h.1 2 (plc wi p), h1)) else (f_X7_layLands G h1 73 (T : Int)).bind fun r5 => l_X7_pass_31 G 73 (p : Int) (q : Int) 200 ((T : Int), r5)) = X := by
          intro X
          unfold f_X7_pass
          rw [m_isPoint g1.2.1, if_pos ha, bs, if_neg (by omega), m_isPoint g1.2.1, if_pos hb, bs, if_neg (by omega), g1.2.1.1, rdN (by rw [g1.2.1.2.1]; omega), bs, bs, rdN (by rw [g1.2.1.2.1]; omega), bs, (rh1.1 p hp).1, (rh1.1 q hq).1, ct_min_eq, hT]
        by_cases e : (p : Int) = (q : Int)
        · have e2 : p = q := Int.ofNat.inj e
          subst e2
          have mT : m = T := by
            have := (hP T (Nat.le_refl _)).mp con_refl
            omega
          refine ⟨h1, (pre _).mpr ?_, QF.refl, c3⟩
          rw [if_pos e, mT, ← hT]
          congr 2
          omega
        · obtain ⟨hy, y1, y2, y3, y4, y5, y6, y7⟩ := r_lands gs g1 c3 (L := (T : Int)) (by omega)
          rw [c2.row2.1, c2.row2.2] at y5
          obtain ⟨h2, a1, a2, a3⟩ := m_passL gs hp hq T99 (F := h.1 2) (kd := h.1 1 5) (by omega) (by omega) hm hP (T - m) 200 hy (by omega) (by omega) (g1.q y2) y3 (y2.row2.1.trans c2.row2.1) (by rw [y2.row2.2, c2.row2.2]) (by rw [show m + (T - m) = T by omega]; exact y5)
          rw [show m + (T - m) = T by omega] at a1
          refine ⟨h2, (pre _).mpr ?_, y2.trans a2, a3⟩
          rw [if_neg e, y1, bs]
          exact a1
    · refine SAM.of inv (r := -1) (h1 := h) ?_ QF.refl inv.2.1 ⟨h, ?_, QF.refl, inv.2.1⟩
      · unfold f_X6_pass
        rw [top.1, g_isPoint ig.1, if_pos ha, bs, if_neg (by omega), g_isPoint ig.1, if_neg hb, bs, if_pos rfl]
      · unfold f_X7_pass
        rw [m_isPoint ig.2.1, if_pos ha, bs, if_neg (by omega), m_isPoint ig.2.1, if_neg hb, bs, if_pos rfl]
  · refine SAM.of inv (r := -1) (h1 := h) ?_ QF.refl inv.2.1 ⟨h, ?_, QF.refl, inv.2.1⟩
    · unfold f_X6_pass
      rw [top.1, g_isPoint ig.1, if_neg ha, bs, if_pos rfl]
    · unfold f_X7_pass
      rw [m_isPoint ig.2.1, if_neg ha, bs, if_pos rfl]
/-! stands -/
theorem hvn_none {P : Nat → Prop} {T : Nat} (hP : ∀ x, ¬ P x) : ∀ k l, hvn P T k l = l
  | 0, l => rfl
  | k + 1, l => by
    rw [hvn, if_neg (fun u => hP _ u.2)]
    exact hvn_none hP k l
def hgh (F : Nat → Int) (hi wi : Nat) (kd : Int) (p : Nat) (x : Nat) : Prop := ∃ y, y < hi * wi ∧ con F hi wi kd (x : Int) (plc wi p) (plc wi y) ∧ F (plc wi p) < F (plc wi y)
theorem c_standsL (gs : GS G) {F : Nat → Int} {kd : Int} {p T : Nat} (hp : p < hi * wi) (hT : T ≤ 99) (tp : F (plc wi p) = (T : Int)) : ∀ (k l f : Nat) (h : ct_H), k ≤ 7 → l ≤ T → k < f → IG G h hi wi → IC h hi wi → h.1 2 = F → h.1 1 5 = kd → ∃ h' : ct_H, l_X6_stands_21 G 0 (T : Int) ((plc wi p : Nat) : Int) f ((l : Int), ((st2 k : Nat) : Int), h) = some ((T : Int) - ((hvn (hgh F hi wi kd p) T k l : Nat) : Int), h') ∧ QF h h' ∧ IC h' hi wi
  | 0, l, f + 1, h, h1, hl, h2, ig, ic, e1, e2 => by
    refine ⟨h, ?_, QF.refl, ic⟩
    rw [l_X6_stands_21, if_pos (by rw [st2_0]; dsimp only; omega)]
    dsimp only
    rw [wr_id (by omega) (by omega)]
    rfl
  | k + 1, l, f + 1, h, h1, hl, h2, ig, ic, e1, e2 => by
    have g8 := ig.1.2.2.2.2.2.2.2.1
    have g9 := ig.1.2.2.2.2.2.2.2.2
    have hN := N81 g8 g9
    have rm := ig.2.2.1.RM g9
    rw [e1] at rm
    have p2 := p2_le (k := k) (by omega)
    have pl := plc_lt g8 g9 hp
    have dd := gs.2.2.2.1.1.1
    rw [l_X6_stands_21, if_neg (by rw [st2_s]; dsimp only; omega)]
    dsimp only
    rw [dv_eq (by omega) (by omega), show ((st2 (k + 1) : Nat) : Int) / 2 = ((st2 (k + 1) / 2 : Nat) : Int) by omega, st2_half, st2_s, hvn]
    generalize 2 ^ k = w at p2 ⊢
    rw [wr_id (a := (l : Int) + (w : Int)) (by omega) (by omega), show (l : Int) + (w : Int) = ((l + w : Nat) : Int) by omega, jn_eq]
    have ih := fun l' hl' hh a b c d => c_standsL gs (F := F) (kd := kd) hp hT tp k l' f hh (by omega) hl' (by omega) a b c d
    by_cases z : l + w ≤ T
    · obtain ⟨hf, f1, f2, f3, f4, f5⟩ := c_find gs ig ic (L := ((l + w : Nat) : Int)) (by omega)
      rw [e1, e2] at f4
      have gf := ig.q f2
      have ldp := f4.2.1 _ pl.1
      obtain ⟨y, y1, y2, y3⟩ : ∃ z, isl F hi wi kd ((l + w : Nat) : Int) z ∧ con F hi wi kd ((l + w : Nat) : Int) z (plc wi p) ∧ hf.1 10 (plc wi p) = nmb F hi wi kd ((l + w : Nat) : Int) z := by
        rcases ldp with u | u
        · omega
        · exact u.2
      have i48 := isl_48 g8 g9 rm (show (0 : Int) ≤ ((l + w : Nat) : Int) by omega) y1
      obtain ⟨m1, m2, m3⟩ := f4.2.2 y y1.1 y1
      obtain ⟨v, hv⟩ := Int.eq_ofNat_of_zero_le i48.1
      rw [hv, Int.toNat_natCast] at m3
      have mxp := tpN_max (A := hf.1 10) (F := F) (l := (v : Int)) ((hi + 2) * (wi + 2))
      have iff : ¬ tpN (hf.1 10) F (v : Int) ((hi + 2) * (wi + 2)) ≤ (T : Int) ↔ hgh F hi wi kd p (l + w) := by
        constructor
        · intro u
          rcases mxp.2.2 with e | ⟨x, x1, x2⟩
          · omega
          · have xl := x1.1
            obtain ⟨x', a1, a2⟩ := plc_sur g8 g9 (rm.inn (q := x) (by omega) (by omega))
            subst a2
            refine ⟨x', a1, ?_, by omega⟩
            have := ((LD_land (f4.2.1 _ x1.1)).2 y y1).mp (by rw [x1.2, hv])
            exact con_trans (con_symm y2) this
        · rintro ⟨x, x1, x2, x3⟩
          have xl := (plc_lt g8 g9 x1).1
          have := ((LD_land (f4.2.1 _ xl)).2 y y1).mpr (con_trans y2 x2)
          have := mxp.1 (plc wi x) ⟨xl, by rw [this, hv]⟩
          omega
      have fr := f2.row2
      have tA : f_X1_topAround G hf 8 ((plc wi p : Nat) : Int) = some (tpN (hf.1 10) F (v : Int) ((hi + 2) * (wi + 2))) := by
        unfold f_X1_topAround
        rw [dd.2.2.2.1, rdN (by rw [dd.2.2.2.2.1]; omega), bs, y3, hv, if_neg (show ¬ (v : Int) < 0 by omega), dd.2.2.2.2.2.2.2.2.2.1, rdN (by rw [dd.2.2.2.2.2.2.2.2.2.2.1]; omega), bs, m3]
      rw [if_neg (by omega), gs.1.2.2.1, f1, bs, tA, bs]
      by_cases q : tpN (hf.1 10) F (v : Int) ((hi + 2) * (wi + 2)) ≤ (T : Int)
      · rw [if_pos q, if_neg (fun u => (iff.mpr u.2) q)]
        dsimp only
        rw [bs]
        obtain ⟨h', a1, a2, a3⟩ := ih _ hl hf gf f3 (fr.1.trans e1) (by rw [fr.2]; exact e2)
        exact ⟨h', a1, f2.trans a2, a3⟩
      · rw [if_neg q, lt_eq, if_pos ⟨z, iff.mp q⟩]
        dsimp only
        rw [bs]
        obtain ⟨h', a1, a2, a3⟩ := ih _ z hf gf f3 (fr.1.trans e1) (by rw [fr.2]; exact e2)
        exact ⟨h', a1, f2.trans a2, a3⟩
    · rw [if_pos (by omega), if_neg (fun u => z u.1)]
      dsimp only
      rw [bs]
      exact ih _ hl h ig ic e1 e2
theorem m_withL (gs : GS G) (ig : IG G h hi wi) {kd : Int} {p T L : Nat} (hp : p < hi * wi) (tp : h.1 2 (plc wi p) = (T : Int)) (hL : L ≤ T) (hd : ∀ x, x < hi * wi → LD (h.1 2) hi wi kd (L : Int) (plc wi x) (h.1 82 x)) : ∀ (t i f : Nat), i + t = hi * wi → t < f → l_X7_isWithHigher_2 G 73 (p : Int) h f (i : Int) = some (b01 (∃ y, i ≤ y ∧ y < hi * wi ∧ con (h.1 2) hi wi kd (L : Int) (plc wi p) (plc wi y) ∧ h.1 2 (plc wi p) < h.1 2 (plc wi y)))
  | 0, i, f + 1, h1, h2 => by
    rw [l_X7_isWithHigher_2, m_points ig.2.1, bs, if_pos (by omega), b01_f (fun ⟨y, a, b, _⟩ => by omega)]
  | t + 1, i, f + 1, h1, h2 => by
    have h49 : hi * wi ≤ 49 := Nat.mul_le_mul ig.1.2.2.2.2.2.2.2.1.2 ig.1.2.2.2.2.2.2.2.2.2
    have mp := gs.2.2.2.2.2.2.2.2.2
    have hi1 : i < hi * wi := by omega
    have ih := m_withL gs ig hp tp hL hd t (i + 1) f (by omega) (by omega)
    rw [show ((i + 1 : Nat) : Int) = (i : Int) + 1 by omega] at ih
    rw [l_X7_isWithHigher_2, m_points ig.2.1, bs, if_neg (by omega), mp.1, rdN (by rw [mp.2.1]; omega), bs, rdN (by rw [mp.2.1]; omega), bs, jn_eq, ig.2.1.1, rdN (by rw [ig.2.1.2.1]; omega), bs, rdN (by rw [ig.2.1.2.1]; omega), bs, (ig.2.2.1.1 i hi1).1, (ig.2.2.1.1 p hp).1, wr_id (by omega) (by omega), ih]
    have nxt : ¬ (con (h.1 2) hi wi kd (L : Int) (plc wi p) (plc wi i) ∧ h.1 2 (plc wi p) < h.1 2 (plc wi i)) → b01 (∃ y, i + 1 ≤ y ∧ y < hi * wi ∧ con (h.1 2) hi wi kd (L : Int) (plc wi p) (plc wi y) ∧ h.1 2 (plc wi p) < h.1 2 (plc wi y)) = b01 (∃ y, i ≤ y ∧ y < hi * wi ∧ con (h.1 2) hi wi kd (L : Int) (plc wi p) (plc wi y) ∧ h.1 2 (plc wi p) < h.1 2 (plc wi y)) := by
      intro w
      congr 1
      refine propext ⟨fun ⟨y, a, b⟩ => ⟨y, by omega, b⟩, fun ⟨y, a, b⟩ => ?_⟩
      by_cases e : y = i
      · subst e; exact absurd b.2 w
      · exact ⟨y, by omega, b⟩
    by_cases hg : h.1 2 (plc wi p) < h.1 2 (plc wi i)
    · have same := LD_same (hd i hi1) (hd p hp) (by omega) (by omega)
      by_cases e : h.1 82 i = h.1 82 p
      · rw [if_pos e, if_neg (by omega), b01_t ⟨i, Nat.le_refl _, hi1, con_symm (same.mp e), hg⟩]
      · rw [if_neg e, nxt (fun u => e (same.mpr (con_symm u.1)))]
    · rw [if_pos (by omega : h.1 2 (plc wi i) ≤ h.1 2 (plc wi p)), nxt (fun u => hg u.2)]
      split <;> rfl
theorem m_with (gs : GS G) (ig : IG G h hi wi) {kd : Int} {p T L : Nat} (hp : p < hi * wi) (tp : h.1 2 (plc wi p) = (T : Int)) (hL : L ≤ T) (hd : ∀ x, x < hi * wi → LD (h.1 2) hi wi kd (L : Int) (plc wi x) (h.1 82 x)) : f_X7_isWithHigher G h 73 (p : Int) = some (b01 (hgh (h.1 2) hi wi kd p L)) := by
  have h49 : hi * wi ≤ 49 := Nat.mul_le_mul ig.1.2.2.2.2.2.2.2.1.2 ig.1.2.2.2.2.2.2.2.2.2
  unfold f_X7_isWithHigher
  have := m_withL gs ig hp tp hL hd (hi * wi) 0 200 (by omega) (by omega)
  refine this.trans ?_
  congr 2
  unfold hgh
  exact propext ⟨fun ⟨y, _, b⟩ => ⟨y, b⟩, fun ⟨y, b⟩ => ⟨y, Nat.zero_le _, b⟩⟩
theorem m_standsL (gs : GS G) {F : Nat → Int} {kd : Int} {p T m : Nat} (hp : p < hi * wi) (hT : T ≤ 99) (tp : F (plc wi p) = (T : Int)) (hm : m ≤ T) (hP : ∀ x, x ≤ T → (hgh F hi wi kd p x ↔ x ≤ m)) (k5 : ct_H → Option (Int × ct_H)) (k8 : Int × ct_H → Option (Int × ct_H)) : ∀ (t f : Nat) (h : ct_H), m + t ≤ T → t < f → IG G h hi wi → IC h hi wi → h.1 2 = F → h.1 1 5 = kd → ∃ h' : ct_H, l_X7_stands_11 G 73 (p : Int) k5 k8 f (((m + t : Nat) : Int), h) = k8 ((m : Int), h') ∧ QF h h' ∧ IC h' hi wi
  | t, 0, h, h1, h2, _, _, _, _ => absurd h2 (Nat.not_lt_zero _)
  | t, f + 1, h, h1, h2, ig, ic, e1, e2 => by
    obtain ⟨hy, y1, y2, y3, y4, y5, y6, y7⟩ := r_lands gs ig ic (L := ((m + t : Nat) : Int)) (by omega)
    have gy := ig.q y2
    rw [e1, e2] at y5
    have w := m_with gs gy (kd := kd) hp (L := m + t) (by rw [y2.row2.1, e1]; exact tp) h1 (by rw [y2.row2.1, e1]; exact y5)
    rw [y2.row2.1, e1] at w
    rw [l_X7_stands_11, if_neg (by dsimp only; omega)]
    dsimp only
    rw [y1, bs, w, bs]
    cases t with
    | zero =>
      rw [b01_t ((hP _ h1).mpr (by omega)), if_neg (by omega)]
      exact ⟨hy, rfl, y2, y3⟩
    | succ t =>
      obtain ⟨h', a1, a2, a3⟩ := m_standsL gs hp hT tp hm hP k5 k8 t f hy (by omega) (by omega) gy y3 (y2.row2.1.trans e1) (by rw [y2.row2.2]; exact e2)
      rw [b01_f (fun u => by have := (hP _ h1).mp u; omega), if_pos rfl, wr_id (by omega) (by omega), show ((m + (t + 1) : Nat) : Int) + -1 = ((m + t : Nat) : Int) by omega]
      exact ⟨h', a1, y2.trans a2, a3⟩
theorem m_standsN (gs : GS G) {F : Nat → Int} {kd : Int} {p T : Nat} (hp : p < hi * wi) (hT : T ≤ 99) (tp : F (plc wi p) = (T : Int)) (hP : ∀ x, ¬ hgh F hi wi kd p x) (k5 : ct_H → Option (Int × ct_H)) (k8 : Int × ct_H → Option (Int × ct_H)) : ∀ (t f : Nat) (h : ct_H), t ≤ T + 1 → t < f → IG G h hi wi → IC h hi wi → h.1 2 = F → h.1 1 5 = kd → ∃ h' : ct_H, l_X7_stands_11 G 73 (p : Int) k5 k8 f ((t : Int) - 1, h) = k5 h' ∧ QF h h' ∧ IC h' hi wi
  | 0, f + 1, h, h1, h2, ig, ic, e1, e2 => by
    refine ⟨h, ?_, QF.refl, ic⟩
    rw [l_X7_stands_11, if_pos (by dsimp only; omega)]
  | t + 1, f + 1, h, h1, h2, ig, ic, e1, e2 => by
    obtain ⟨hy, y1, y2, y3, y4, y5, y6, y7⟩ := r_lands gs ig ic (L := ((t : Nat) : Int)) (by omega)
    have gy := ig.q y2
    rw [e1, e2] at y5
    have w := m_with gs gy (kd := kd) hp (L := t) (by rw [y2.row2.1, e1]; exact tp) (by omega) (by rw [y2.row2.1, e1]; exact y5)
    rw [y2.row2.1, e1] at w
    obtain ⟨h', a1, a2, a3⟩ := m_standsN gs hp hT tp hP k5 k8 t f hy (by omega) (by omega) gy y3 (y2.row2.1.trans e1) (by rw [y2.row2.2]; exact e2)
    refine ⟨h', ?_, y2.trans a2, a3⟩
    rw [l_X7_stands_11, if_neg (by dsimp only; omega), show ((t + 1 : Nat) : Int) - 1 = (t : Int) by omega]
    dsimp only
    rw [y1, bs, w, bs, b01_f (hP t), if_pos rfl, wr_id (by omega) (by omega), show (t : Int) + -1 = (t : Int) - 1 by omega]
    exact a1
theorem s_stands (gs : GS G) (inv : INV G h hi wi B) (a : Int) : SAM G hi wi B (f_X6_stands G h 0 a) (fun h1 => f_X7_stands G h1 73 a) := by
  have ig := inv.1
  have top := gs.1
  have g8 := ig.1.2.2.2.2.2.2.2.1
  have g9 := ig.1.2.2.2.2.2.2.2.2
  have hN := N81 g8 g9
  have h49 : hi * wi ≤ 49 := Nat.mul_le_mul g8.2 g9.2
  have rm := ig.2.2.1.RM g9
  by_cases ha : 0 ≤ a ∧ a < ((hi * wi : Nat) : Int)
  · obtain ⟨p, rfl⟩ := Int.eq_ofNat_of_zero_le ha.1
    have hp : p < hi * wi := by omega
    have rp := ig.2.2.1.1 p hp
    have pl := plc_lt g8 g9 hp
    obtain ⟨T, hT⟩ := Int.eq_ofNat_of_zero_le (show 0 ≤ h.1 2 (plc wi p) by omega)
    have T99 : T ≤ 99 := by omega
    have hF : ∀ x, x < hi * wi → 0 ≤ h.1 2 (plc wi x) := fun x hx => by have := ig.2.2.1.1 x hx; omega
    have mg := mx_ge (h.1 2) ((hi + 2) * (wi + 2)) 0 (-1)
    have ma := mx_at (h.1 2) ((hi + 2) * (wi + 2)) 0 (-1)
    have pre1 : ∀ X, f_X6_stands G h 0 (p : Int) = X ↔ l_X6_stands_21 G 0 (T : Int) ((plc wi p : Nat) : Int) 200 (0, 64, h) = X := by
      intro X
      unfold f_X6_stands
      rw [top.1, g_isPoint ig.1, if_pos ha, bs, if_neg (by omega), g_heightOf ig.1 hp, bs, hT, g_placeOf ig.1 hp, bs]
    have pre2 : ∀ h1 : ct_H, IG G h1 hi wi → h1.1 2 = h.1 2 → f_X7_stands G h1 73 (p : Int) = l_X7_stands_11 G 73 (p : Int) (fun b15 => (ct_rd G b15 (G.1 73 3) (p : Int)).bind fun v16 => some (v16, b15)) (fun b17 => (ct_rd G b17.2 (G.1 73 3) (p : Int)).bind fun v18 => some ((ct_wr (v18 - b17.1)), b17.2)) 200 ((T : Int), h1) := by
      intro h1 g1 e1
      have rh1 := g1.2.2.1
      rw [e1] at rh1
      unfold f_X7_stands
      rw [m_isPoint g1.2.1, if_pos ha, bs, if_neg (by omega), g1.2.1.1, rdN (by rw [g1.2.1.2.1]; omega), bs, (rh1.1 p hp).1, hT]
    have rdp : ∀ h1 : ct_H, IG G h1 hi wi → h1.1 2 = h.1 2 → ct_rd G h1 (G.1 73 3) (p : Int) = some (T : Int) := by
      intro h1 g1 e1
      have rh1 := g1.2.2.1
      rw [e1] at rh1
      rw [g1.2.1.1, rdN (by rw [g1.2.1.2.1]; omega), (rh1.1 p hp).1, hT]
    by_cases e : (T : Int) = mx (h.1 2) 0 ((hi + 2) * (wi + 2)) (-1)
    · have none : ∀ x, ¬ hgh (h.1 2) hi wi (h.1 1 5) p x := fun x ⟨y, b1, b2, b3⟩ => by
        have := mg.2 (plc wi y) (Nat.zero_le _) (by have := (plc_lt g8 g9 b1).1; omega)
        omega
      obtain ⟨h1, c1, c2, c3⟩ := c_standsL gs hp T99 hT (kd := h.1 1 5) 7 0 200 h (by omega) (by omega) (by omega) ig inv.2.1 rfl rfl
      rw [hvn_none none, show (T : Int) - ((0 : Nat) : Int) = (T : Int) by omega] at c1
      have g1 := ig.q c2
      refine SAM.of inv (r := (T : Int)) (h1 := h1) ((pre1 _).mpr c1) c2 c3 ?_
      obtain ⟨h2, a1, a2, a3⟩ := m_standsN gs hp T99 hT (kd := h.1 1 5) none (fun b15 => (ct_rd G b15 (G.1 73 3) (p : Int)).bind fun v16 => some (v16, b15)) (fun b17 => (ct_rd G b17.2 (G.1 73 3) (p : Int)).bind fun v18 => some ((ct_wr (v18 - b17.1)), b17.2)) (T + 1) 200 h1 (by omega) (by omega) g1 c3 c2.row2.1 (by rw [c2.row2.2])
      rw [show ((T + 1 : Nat) : Int) - 1 = (T : Int) by omega] at a1
      refine ⟨h2, ?_, a2, a3⟩
      rw [pre2 h1 g1 c2.row2.1, a1, rdp h2 (g1.q a2) (a2.row2.1.trans c2.row2.1), bs]
    · have m0 := mg.2 (plc wi p) (Nat.zero_le _) (by omega)
      obtain ⟨y, y1, y2⟩ : ∃ y, y < hi * wi ∧ (T : Int) < h.1 2 (plc wi y) := by
        rcases ma with w | ⟨j, j1, j2, j3⟩
        · omega
        · obtain ⟨y, y1, y2⟩ := plc_sur g8 g9 (rm.inn (q := j) (by omega) (by omega))
          subst y2
          exact ⟨y, y1, by omega⟩
      obtain ⟨m, hm, hP⟩ := hv_most (P := hgh (h.1 2) hi wi (h.1 1 5) p) ⟨y, y1, con0 g8 g9 hF hp y1, by omega⟩ (fun x ⟨z, b1, b2, b3⟩ => ⟨z, b1, con_mono g8 g9 rm (by omega) (by omega) b2, b3⟩) T
      obtain ⟨h1, c1, c2, c3⟩ := c_standsL gs hp T99 hT (kd := h.1 1 5) 7 0 200 h (by omega) (by omega) (by omega) ig inv.2.1 rfl rfl
      rw [hvn_eq hm hP 7 0 (by omega) (by omega)] at c1
      have g1 := ig.q c2
      refine SAM.of inv (r := (T : Int) - (m : Int)) (h1 := h1) ((pre1 _).mpr c1) c2 c3 ?_
      · obtain ⟨h2, a1, a2, a3⟩ := m_standsL gs hp T99 hT hm hP (fun b15 => (ct_rd G b15 (G.1 73 3) (p : Int)).bind fun v16 => some (v16, b15)) (fun b17 => (ct_rd G b17.2 (G.1 73 3) (p : Int)).bind fun v18 => some ((ct_wr (v18 - b17.1)), b17.2)) (T - m) 200 h1 (by omega) (by omega) g1 c3 c2.row2.1 (by rw [c2.row2.2])
        rw [show m + (T - m) = T by omega] at a1
        refine ⟨h2, ?_, a2, a3⟩
        rw [pre2 h1 g1 c2.row2.1, a1, rdp h2 (g1.q a2) (a2.row2.1.trans c2.row2.1), bs, wr_id (by omega) (by omega)]
  · refine SAM.of inv (r := -1) (h1 := h) ?_ QF.refl inv.2.1 ⟨h, ?_, QF.refl, inv.2.1⟩
    · unfold f_X6_stands
      rw [top.1, g_isPoint ig.1, if_neg ha, bs, if_pos rfl]
    · unfold f_X7_stands
      rw [m_isPoint ig.2.1, if_neg ha, bs, if_pos rfl]
end
