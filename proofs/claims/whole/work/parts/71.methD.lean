/-! the calls: land, landOf -/
section
variable {G : ct_G} {h : ct_H} {hi wi : Nat} {B : Int}
theorem s_land (gs : GS G) (inv : INV G h hi wi B) (a b : Int) : SAM G hi wi B (f_X6_land G h 0 a b) (fun h1 => f_X7_land G h1 73 a b) := by
  have ig := inv.1
  have top := gs.1
  have g8 := ig.1.2.2.2.2.2.2.2.1
  have g9 := ig.1.2.2.2.2.2.2.2.2
  have h49 : hi * wi ≤ 49 := Nat.mul_le_mul g8.2 g9.2
  by_cases hl : 0 ≤ a ∧ a ≤ 99
  · by_cases hb : 0 ≤ b ∧ b < ((hi * wi : Nat) : Int)
    · obtain ⟨p, rfl⟩ := Int.eq_ofNat_of_zero_le hb.1
      have hp : p < hi * wi := by omega
      have pl := plc_lt g8 g9 hp
      obtain ⟨hf, f1, f2, f3, f4, f5⟩ := c_find gs ig inv.2.1 hl
      have gf := ig.q f2
      obtain ⟨hy, y1, y2, y3, y4, y5, y6, y7⟩ := r_lands gs gf f3 hl
      rw [f2.row2.1, f2.row2.2] at y5
      have eq := LD_uniq (f4.2.1 _ pl.1) (y5 p hp)
      have d := gs.2.2.2.1.1.1
      have mp := gs.2.2.2.2.2.2.2.2.2
      refine SAM.of inv (r := hy.1 82 p) (h1 := hf) ?_ f2 f3 ⟨hy, ?_, y2, y3⟩
      · unfold f_X6_land
        rw [x6_isLevel, if_pos hl, bs, if_neg (by omega), top.1, g_isPoint ig.1, if_pos hb, bs, if_neg (by omega), top.2.2.1, f1, bs, g_placeOf gf.1 hp, bs, d.2.2.2.1, rdN (by rw [d.2.2.2.2.1]; omega), bs, eq]
      · unfold f_X7_land
        rw [m_isLevel, if_pos hl, bs, if_neg (by omega), m_isPoint gf.2.1, if_pos hb, bs, if_neg (by omega), y1, bs, mp.1, rdN (by rw [mp.2.1]; omega), bs]
    · refine SAM.of inv (r := -1) (h1 := h) ?_ QF.refl inv.2.1 ⟨h, ?_, QF.refl, inv.2.1⟩
      · unfold f_X6_land
        rw [x6_isLevel, if_pos hl, bs, if_neg (by omega), top.1, g_isPoint ig.1, if_neg hb, bs, if_pos rfl]
      · unfold f_X7_land
        rw [m_isLevel, if_pos hl, bs, if_neg (by omega), m_isPoint ig.2.1, if_neg hb, bs, if_pos rfl]
  · refine SAM.of inv (r := -2) (h1 := h) ?_ QF.refl inv.2.1 ⟨h, ?_, QF.refl, inv.2.1⟩
    · unfold f_X6_land
      rw [x6_isLevel, if_neg hl, bs, if_pos rfl]
    · unfold f_X7_land
      rw [m_isLevel, if_neg hl, bs, if_pos rfl]
theorem g_pointOf (g : GR G h 1 2 hi wi) {p : Nat} (hp : p < hi * wi) : f_X0_pointOf G h 1 ((plc wi p : Nat) : Int) = some ((p : Nat) : Int) := by
  have g8 := g.2.2.2.2.2.2.2.1
  have g9 := g.2.2.2.2.2.2.2.2
  have h49 : hi * wi ≤ 49 := Nat.mul_le_mul g8.2 g9.2
  have d := plc_dm g9 (p := p)
  have dm := Nat.div_add_mod p wi
  have d1 : p / wi ≤ p := Nat.div_le_self _ _
  have d2 : p % wi < wi := Nat.mod_lt _ (by omega)
  unfold f_X0_pointOf
  rw [g.2.2.2.2.1, g.2.2.2.2.2.1, dv_eq (by omega) (by omega), bs, md_eq (by omega) (by omega), bs, show ((plc wi p : Nat) : Int) / ((wi + 2 : Nat) : Int) = ((plc wi p / (wi + 2) : Nat) : Int) from (Int.natCast_ediv _ _).symm, show ((plc wi p : Nat) : Int) % ((wi + 2 : Nat) : Int) = ((plc wi p % (wi + 2) : Nat) : Int) from (Int.natCast_emod _ _).symm, d.1, d.2]
  generalize p / wi = x at *
  generalize p % wi = y at *
  rw [wr_id (a := ((x + 1 : Nat) : Int) - 1) (by omega) (by omega), show ((x + 1 : Nat) : Int) - 1 = (x : Int) by omega, ← Int.natCast_mul]
  generalize wi * x = z at *
  rw [wr_id (a := (z : Int)) (by omega) (by omega), wr_id (a := (z : Int) + ((y + 1 : Nat) : Int)) (by omega) (by omega), wr_id (by omega) (by omega)]
  congr 1
  omega
/-- the reference's landAt is a land's number, or -5 -/
theorem m_landAt {F : Nat → Int} {kd L : Int} (gs : GS G) (m : MD G h 73 74 hi wi) (r : RM F hi wi) (hL : 0 ≤ L) (hd : ∀ x, x < hi * wi → LD F hi wi kd L (plc wi x) (h.1 82 x)) {x : Nat} (hx : x < (hi + 2) * (wi + 2)) : ∃ v, f_X7_landAt G h 73 (x : Int) = some v ∧ LD F hi wi kd L x v := by
  have g8 := m.2.2.2.2.2.1
  have g9 := m.2.2.2.2.2.2
  have hN := N81 g8 g9
  have h49 : hi * wi ≤ 49 := Nat.mul_le_mul g8.2 g9.2
  have mp := gs.2.2.2.2.2.2.2.2.2
  unfold f_X7_landAt
  rw [m_row m x (by omega), bs, m_column m x (by omega), bs, m.2.2.2.1, m.2.2.2.2.1, wr_id (a := (hi : Int) - 1) (by omega) (by omega), wr_id (a := (wi : Int) - 1) (by omega) (by omega), m_in, bs]
  have rim := r.2 x (by omega)
  have dm := Nat.div_add_mod x (wi + 2)
  generalize x / (wi + 2) = R at *
  generalize x % (wi + 2) = C at *
  by_cases z1 : 0 ≤ (R : Int) - 1 ∧ (R : Int) - 1 ≤ (hi : Int) - 1
  · rw [if_pos z1, if_neg (by omega), m_in, bs]
    by_cases z2 : 0 ≤ (C : Int) - 1 ∧ (C : Int) - 1 ≤ (wi : Int) - 1
    · obtain ⟨y, rfl⟩ : ∃ y, R = y + 1 := ⟨R - 1, by omega⟩
      obtain ⟨w, rfl⟩ : ∃ w, C = w + 1 := ⟨C - 1, by omega⟩
      have lt := yx_lt (hi := hi) (wi := wi) (y := y) (x := w) (by omega) (by omega)
      have pe := plq_plc g9 (y := y) (x := w) (by omega)
      have px : plq wi y w = x := by unfold plq; omega
      rw [if_pos z2, if_neg (by omega), show ((y + 1 : Nat) : Int) - 1 = (y : Int) by omega, show ((w + 1 : Nat) : Int) - 1 = (w : Int) by omega, wr_yx (by omega), mp.1, rdN (by rw [mp.2.1]; omega), bs]
      have := hd _ lt
      rw [pe, px] at this
      exact ⟨_, rfl, this⟩
    · rw [if_neg z2, if_pos rfl]
      have := rim (by omega)
      exact ⟨-5, rfl, Or.inl ⟨by omega, rfl⟩⟩
  · rw [if_neg z1, if_pos rfl]
    have := rim (by omega)
    exact ⟨-5, rfl, Or.inl ⟨by omega, rfl⟩⟩
theorem m_atLandL {F : Nat → Int} {kd L : Int} {S : LSt} (hS : spL F hi wi kd L = S) (gs : GS G) (m : MD G h 73 74 hi wi) (r : RM F hi wi) (hL : 0 ≤ L) (hd : ∀ x, x < hi * wi → LD F hi wi kd L (plc wi x) (h.1 82 x)) (sf : SF S) (rr : RR S (h.1 79) (h.1 80) (h.1 81) (h.1 73 14)) {l z : Nat} (hl : l < S.2.2.2.1) (iz : isl F hi wi kd L z) : ∀ (k i f : Nat), i + k = cN S l → k < f → (k ≠ 0 ∨ ¬ con F hi wi kd L z (inn F (wi + 2) L (eN S l 0))) → l_X7_isAtLand_5 G 73 (l : Int) (nmb F hi wi kd L z) h f ((bN S l + i : Nat) : Int) = some (b01 (con F hi wi kd L z (inn F (wi + 2) L (eN S l 0))))
  | 0, i, f + 1, h1, h2, h3 => by
    have mo := gs.2.2.2.2.2.2.2.2.1
    have ff := sf.2.2 l hl
    have s1 := sf.1
    rw [l_X7_isAtLand_5, mo.2.2.2.2.2.2.1, wr_id (a := (l : Int) + 1) (by omega) (by omega), show (l : Int) + 1 = ((l + 1 : Nat) : Int) by omega, rdN (by rw [mo.2.2.2.2.2.2.2.1]; omega), bs, ← rr.2.2.1 (l + 1) (by omega), ff.2.1, if_pos (by omega), b01_f (h3.resolve_left (fun w => w rfl))]
  | k + 1, i, f + 1, h1, h2, h3 => by
    have mo := gs.2.2.2.2.2.2.2.2.1
    have g8 := m.2.2.2.2.2.1
    have g9 := m.2.2.2.2.2.2
    have ff := sf.2.2 l hl
    have s1 := sf.1
    have s2 := sf.2.1
    have od := (m_order0 mo sf rr hl).2 i (by omega)
    have lc := line_con (kd := kd) g8 g9 r hL (l := l) (by rw [hS]; exact hl) i (by rw [hS]; omega)
    rw [hS] at lc
    have il := inner_lt g8 g9 lc.1.1
    have ol := oth_lt g8 g9 (inner_edg g8 g9 lc.1.1)
    rw [l_X7_isAtLand_5, mo.2.2.2.2.2.2.1, wr_id (a := (l : Int) + 1) (by omega) (by omega), show (l : Int) + 1 = ((l + 1 : Nat) : Int) by omega, rdN (by rw [mo.2.2.2.2.2.2.2.1]; omega), bs, ← rr.2.2.1 (l + 1) (by omega), ff.2.1, if_neg (by omega), od, bs, dv_eq (by omega) (by omega), bs, show ((eN S l i : Nat) : Int) / 2 = ((eN S l i / 2 : Nat) : Int) by omega]
    obtain ⟨v, v1, v2⟩ := m_landAt gs m r hL hd (x := eN S l i / 2) (by omega)
    obtain ⟨w, w1, w2⟩ := m_landAt gs m r hL hd (x := oth (wi + 2) (eN S l i)) ol
    rw [v1, bs, bs, m_otherOf m (by omega), bs, w1, bs, wr_id (by omega) (by omega)]
    have n0 := nmb_0 (F := F) (hi := hi) (wi := wi) (kd := kd) (L := L) (a := z)
    have va := LD_land v2
    have wa := LD_land w2
    have iff : con F hi wi kd L z (inn F (wi + 2) L (eN S l i)) ↔ con F hi wi kd L z (inn F (wi + 2) L (eN S l 0)) := ⟨fun q => con_trans q (con_symm lc.2), fun q => con_trans q lc.2⟩
    have rcc : ¬ con F hi wi kd L z (inn F (wi + 2) L (eN S l i)) → l_X7_isAtLand_5 G 73 (l : Int) (nmb F hi wi kd L z) h f (((bN S l + i : Nat) : Int) + 1) = some (b01 (con F hi wi kd L z (inn F (wi + 2) L (eN S l 0)))) := by
      intro nc
      have := m_atLandL hS gs m r hL hd sf rr hl iz k (i + 1) f (by omega) (by omega) (Or.inr (fun q => nc (iff.mpr q)))
      rwa [show ((bN S l + (i + 1) : Nat) : Int) = ((bN S l + i : Nat) : Int) + 1 by omega] at this
    have xc := lc.1.2
    unfold XC at xc
    by_cases y : F (eN S l i / 2) < L
    · have y2 : ¬ F (oth (wi + 2) (eN S l i)) < L := fun q => by rw [if_pos ⟨fun _ => q, fun _ => y⟩] at xc; omega
      have ie : inn F (wi + 2) L (eN S l i) = oth (wi + 2) (eN S l i) := by unfold inn; rw [if_pos y]
      rw [ie] at iff rcc
      rw [if_neg (by rw [va.1.mpr y]; omega)]
      by_cases q : w = nmb F hi wi kd L z
      · rw [if_pos q, b01_t (iff.mp ((wa.2 z iz).mp q))]
      · rw [if_neg q]
        exact rcc (fun u => q ((wa.2 z iz).mpr u))
    · have y2 : F (oth (wi + 2) (eN S l i)) < L := Classical.byContradiction fun q => by rw [if_pos ⟨fun u => absurd u y, fun u => absurd u q⟩] at xc; omega
      have ie : inn F (wi + 2) L (eN S l i) = eN S l i / 2 := by unfold inn; rw [if_neg y]
      rw [ie] at iff rcc
      by_cases q : v = nmb F hi wi kd L z
      · rw [if_pos q, b01_t (iff.mp ((va.2 z iz).mp q))]
      · rw [if_neg q, if_neg (by rw [wa.1.mpr y2]; omega)]
        exact rcc (fun u => q ((va.2 z iz).mpr u))
theorem m_isAtLand {F : Nat → Int} {kd L : Int} {S : LSt} (hS : spL F hi wi kd L = S) (gs : GS G) (m : MD G h 73 74 hi wi) (r : RM F hi wi) (hL : 0 ≤ L) (hd : ∀ x, x < hi * wi → LD F hi wi kd L (plc wi x) (h.1 82 x)) (sf : SF S) (rr : RR S (h.1 79) (h.1 80) (h.1 81) (h.1 73 14)) {l z : Nat} (hl : l < S.2.2.2.1) (iz : isl F hi wi kd L z) : f_X7_isAtLand G h 73 (l : Int) (nmb F hi wi kd L z) = some (b01 (con F hi wi kd L z (inn F (wi + 2) L (eN S l 0)))) := by
  have ff := sf.2.2 l hl
  have s2 := sf.2.1
  have mo := gs.2.2.2.2.2.2.2.2.1
  unfold f_X7_isAtLand
  rw [(m_order0 mo sf rr hl).1, bs]
  have := m_atLandL hS gs m r hL hd sf rr hl iz (cN S l) 0 200 (by omega) (by omega) (Or.inl (by omega))
  rwa [Nat.add_zero] at this
noncomputable def holV (S : LSt) (F : Nat → Int) (hi wi : Nat) (kd L : Int) (z l : Nat) : Int := if dep S (wi + 2) l % 2 = 0 then 0 else b01 (con F hi wi kd L z (inn F (wi + 2) L (eN S l 0)))
theorem holV_b {S : LSt} {F : Nat → Int} {kd L : Int} {z l : Nat} : 0 ≤ holV S F hi wi kd L z l ∧ holV S F hi wi kd L z l ≤ 1 := by
  unfold holV
  split
  · omega
  · exact b01_b _
theorem m_holesL {F : Nat → Int} {kd L : Int} {S : LSt} (hS : spL F hi wi kd L = S) (gs : GS G) (m : MD G h 73 74 hi wi) (r : RM F hi wi) (hL : 0 ≤ L) (hd : ∀ x, x < hi * wi → LD F hi wi kd L (plc wi x) (h.1 82 x)) (sf : SF S) (rr : RR S (h.1 79) (h.1 80) (h.1 81) (h.1 73 14)) {z : Nat} (iz : isl F hi wi kd L z) : ∀ (k i f : Nat) (a : Int), i + k = S.2.2.2.1 → k < f → 0 ≤ a → a + k < 1000 → l_X7_holesOf_4 G 73 (nmb F hi wi kd L z) h f (a, (i : Int)) = some (a + sm (holV S F hi wi kd L z) i k)
  | 0, i, f + 1, a, h1, h2, h3, h4 => by
    rw [l_X7_holesOf_4, rr.2.2.2, if_pos (by dsimp only; omega)]
    simp [sm]
  | k + 1, i, f + 1, a, h1, h2, h3, h4 => by
    have mo := gs.2.2.2.2.2.2.2.2.1
    have s1 := sf.1
    have hb := holV_b (S := S) (F := F) (hi := hi) (wi := wi) (kd := kd) (L := L) (z := z) (l := i)
    rw [l_X7_holesOf_4, rr.2.2.2, if_neg (by dsimp only; omega)]
    dsimp only
    rw [m_isOuter mo m sf rr (by omega), bs, jn_eq, wr_id (a := (i : Int) + 1) (by omega) (by omega), sm]
    have ih := fun a' x y => m_holesL hS gs m r hL hd sf rr iz k (i + 1) f a' (by omega) (by omega) x y
    rw [show ((i + 1 : Nat) : Int) = (i : Int) + 1 by omega] at ih
    by_cases w : dep S (wi + 2) i % 2 = 0
    · have e : holV S F hi wi kd L z i = 0 := by unfold holV; rw [if_pos w]
      rw [if_pos w, if_neg (by omega), e]
      dsimp only
      rw [ih _ (by omega) (by omega), Int.zero_add]
    · have e : holV S F hi wi kd L z i = b01 (con F hi wi kd L z (inn F (wi + 2) L (eN S i 0))) := by unfold holV; rw [if_neg w]
      rw [if_neg w, if_pos rfl, m_isAtLand hS gs m r hL hd sf rr (by omega) iz, bs, e]
      rcases Classical.em (con F hi wi kd L z (inn F (wi + 2) L (eN S i 0))) with q | q
      · rw [b01_t q, if_neg (by omega)]
        dsimp only
        rw [wr_id (by omega) (by omega), ih _ (by omega) (by omega), Int.add_assoc]
      · rw [b01_f q, if_pos rfl]
        dsimp only
        rw [ih _ (by omega) (by omega), Int.zero_add]
theorem c_holesL {F : Nat → Int} {kd L : Int} {S : LSt} (hS : spL F hi wi kd L = S) (gs : GS G) (g : GR G h 1 2 hi wi) (hF : h.1 2 = F) (hL6 : h.1 3 6 = L) (r : RM F hi wi) (hL : 0 ≤ L) (hd : ∀ x, x < (hi + 2) * (wi + 2) → LD F hi wi kd L x (h.1 10 x)) (sf : SF S) (sg : SG S hi wi) (rr : RR S (h.1 4) (h.1 5) (h.1 6) (h.1 3 5)) {z : Nat} (iz : isl F hi wi kd L z) : ∀ (k i f : Nat) (a : Int), i + k = S.2.2.2.1 → k < f → 0 ≤ a → a + k < 1000 → l_X6_holesOf_8 G 0 (nmb F hi wi kd L z) h f (a, (i : Int)) = some (a + sm (holV S F hi wi kd L z) i k, h)
  | 0, i, f + 1, a, h1, h2, h3, h4 => by
    rw [l_X6_holesOf_8, gs.1.2.1, rr.2.2.2, if_pos (by dsimp only; omega)]
    simp [sm]
  | k + 1, i, f + 1, a, h1, h2, h3, h4 => by
    have lo := gs.2.2.1.1
    have g8 := g.2.2.2.2.2.2.2.1
    have g9 := g.2.2.2.2.2.2.2.2
    have hN := N81 g8 g9
    have s1 := sf.1
    have d := gs.2.2.2.1.1.1
    have hb := holV_b (S := S) (F := F) (hi := hi) (wi := wi) (kd := kd) (L := L) (z := z) (l := i)
    rw [l_X6_holesOf_8, gs.1.2.1, rr.2.2.2, if_neg (by dsimp only; omega)]
    dsimp only
    rw [x2_isOuter lo g sf sg rr (by omega), bs, jn_eq, wr_id (a := (i : Int) + 1) (by omega) (by omega), sm]
    have ih := fun a' x y => c_holesL hS gs g hF hL6 r hL hd sf sg rr iz k (i + 1) f a' (by omega) (by omega) x y
    rw [show ((i + 1 : Nat) : Int) = (i : Int) + 1 by omega] at ih
    by_cases w : dep S (wi + 2) i % 2 = 0
    · have e : holV S F hi wi kd L z i = 0 := by unfold holV; rw [if_pos w]
      rw [if_pos w, if_neg (by omega), e]
      dsimp only
      rw [ih _ (by omega) (by omega), Int.zero_add]
    · have e : holV S F hi wi kd L z i = b01 (con F hi wi kd L z (inn F (wi + 2) L (eN S i 0))) := by unfold holV; rw [if_neg w]
      have ff := sf.2.2 i (by omega)
      have ce := (line_con (kd := kd) g8 g9 r hL (l := i) (by rw [hS]; omega) 0 (by rw [hS]; omega)).1
      rw [hS] at ce
      have il := inner_lt g8 g9 ce.1
      have ol := oth_lt g8 g9 (inner_edg g8 g9 ce.1)
      have inl : inn F (wi + 2) L (eN S i 0) < (hi + 2) * (wi + 2) := by
        unfold inn
        split
        · exact ol
        · omega
      have ie : inn F (wi + 2) L (eN S i 0) = eN S i 0 / 2 := by
        unfold inn
        rw [if_neg (lp_in g8 g9 r hL hS (by omega) w)]
      rw [if_neg w, if_pos rfl, x2_leastPlace lo sf rr (by omega), bs, ← ie, gs.1.2.2.1, d.2.2.2.1, rdN (by rw [d.2.2.2.2.1]; omega), bs, e]
      have la := (LD_land (hd _ inl)).2 z iz
      rcases Classical.em (con F hi wi kd L z (inn F (wi + 2) L (eN S i 0))) with q | q
      · rw [b01_t q, if_pos (la.mpr q)]
        dsimp only
        rw [wr_id (by omega) (by omega), ih _ (by omega) (by omega), Int.add_assoc]
      · rw [b01_f q, if_neg (fun u => q (la.mp u))]
        dsimp only
        rw [ih _ (by omega) (by omega), Int.zero_add]
end
