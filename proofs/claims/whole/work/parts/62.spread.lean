/-! the reference: spreads -/
section
variable {G : ct_G} {h : ct_H} {o c cD cP hi wi : Nat} {L kd n : Int} {F D0 : Nat → Int} {p0 : Nat} {cur : Nat → Prop}
theorem cor_sq (h2 : 2 ≤ wi ∧ wi ≤ 7) {y x : Nat} (hx : x < wi) : cor wi ((wi + 1) * (y + 1) + x + 1) = plq wi y x := by
  unfold cor plq
  rw [Nat.add_assoc, Nat.mul_add_div (by omega), Nat.div_eq_of_lt (by omega), Nat.mul_add_mod, Nat.mod_eq_of_lt (by omega), show y + 1 + 0 = y + 1 from rfl]
  omega
theorem mincast (a b : Nat) : min (a : Int) (b : Int) = ((min a b : Nat) : Int) := by omega
theorem sq_in (h1 : 2 ≤ hi ∧ hi ≤ 7) {y x : Nat} (hy : y < hi) (hx : x < wi) : (wi + 1) * (y + 1) + x + 1 < (hi + 1) * (wi + 1) := by
  have : (wi + 1) * (y + 1) + (wi + 1) ≤ (hi + 1) * (wi + 1) := by
    rw [← Nat.mul_succ, Nat.mul_comm]; exact Nat.mul_le_mul_right _ (by omega)
  omega
theorem m_squareOf (m : MD G h o c hi wi) {y x : Nat} (hy : y < hi) (hx : x < wi) : f_X7_squareOf G h o (y : Int) (x : Int) = some (((wi + 1) * (y + 1) + x + 1 : Nat) : Int) := by
  have g8 := m.2.2.2.2.2.1
  have g9 := m.2.2.2.2.2.2
  have b := sq_in g8 hy hx
  have b2 : (hi + 1) * (wi + 1) ≤ 81 := mul_b (by omega) (by omega)
  unfold f_X7_squareOf
  rw [m.2.2.2.2.1, wr_id (a := (wi : Int) + 1) (by omega) (by omega), wr_id (a := (y : Int) + 1) (by omega) (by omega), show ((wi : Int) + 1) * ((y : Int) + 1) = (((wi + 1) * (y + 1) : Nat) : Int) by rw [Int.natCast_mul]; rfl]
  generalize (wi + 1) * (y + 1) = z at b ⊢
  rw [wr_id (a := (z : Int)) (by omega) (by omega), wr_id (a := (z : Int) + (x : Int)) (by omega) (by omega), wr_id (by omega) (by omega)]
  congr 1
def done (F : Nat → Int) (hi wi : Nat) (kd L : Int) (D : Nat → Int) (r c y x : Nat) : Prop := y < hi → x < wi → goP F wi kd L r c y x → ¬ F (plq wi y x) < L → D (y * wi + x) ≠ -5
theorem yx_lt {y x : Nat} (hy : y < hi) (hx : x < wi) : y * wi + x < hi * wi := Nat.lt_of_lt_of_le (Nat.add_lt_add_left hx _) (by rw [← Nat.succ_mul]; exact Nat.mul_le_mul_right _ hy)
theorem wr_yx {y x : Nat} (h : y * wi + x < 49) : ct_wr (ct_wr ((y : Int) * (wi : Int)) + (x : Int)) = ((y * wi + x : Nat) : Int) := by
  rw [← Int.natCast_mul]
  generalize y * wi = z at h ⊢
  rw [wr_id (a := (z : Int)) (by omega) (by omega), wr_id (by omega) (by omega)]
  rfl
theorem m_sprX (mp : MP G o c cD cP) (hn : 0 ≤ n) (hl : 0 ≤ L ∧ L ≤ 99) (hkd : 0 ≤ kd ∧ kd ≤ 4) {r c0 : Nat} (hr : r < hi) (hc : c0 < wi) {y : Int} (hy : (r : Int) - 1 ≤ y ∧ y ≤ (r : Int) + 1) (i1 : ¬ F (plq wi r c0) < L) (cc : con F hi wi kd L (plc wi p0) (plq wi r c0)) (K : ct_H → Option ct_H) : ∀ (t : Nat) (x : Int) (f : Nat) (h : ct_H) (k : Nat), x + t = (c0 : Int) + 2 → (c0 : Int) - 1 ≤ x → t < f → MD G h o c hi wi → RH F (h.1 c) hi wi → h.1 o 2 = kd → h.1 o 19 = (k : Nat) → PJ F hi wi kd L D0 n p0 (h.1 cD) (h.1 cP) k → PC F hi wi kd L D0 n cur (h.1 cD) (h.1 cP) k → ∃ (h' : ct_H) (k' : Nat), l_X7_spreads_23 G o L n (r : Int) (c0 : Int) y K f (x, h) = K h' ∧ FRM o cD cP h h' ∧ h'.1 o 19 = (k' : Nat) ∧ PJ F hi wi kd L D0 n p0 (h'.1 cD) (h'.1 cP) k' ∧ PC F hi wi kd L D0 n cur (h'.1 cD) (h'.1 cP) k' ∧ 2 * unv (h'.1 cD) + (k' : Int) ≤ 2 * unv (h.1 cD) + (k : Int) ∧ ∀ Y X : Nat, (Y : Int) = y → x ≤ (X : Int) → X ≤ c0 + 1 → done F hi wi kd L (h'.1 cD) r c0 Y X
  | 0, x, f + 1, h, k, h1, h2, h3, m, rh, kk, hk, pj, pc => by
    have g9 := m.2.2.2.2.2.2
    refine ⟨h, k, ?_, FRM.refl, hk, pj, pc, Int.le_refl _, fun Y X _ a b => by omega⟩
    rw [l_X7_spreads_23, wr_id (by omega) (by omega), if_pos (by dsimp only; omega)]
  | t + 1, x, f + 1, h, k, h1, h2, h3, m, rh, kk, hk, pj, pc => by
    have g8 := m.2.2.2.2.2.1
    have g9 := m.2.2.2.2.2.2
    have go : ∀ (hh : ct_H) (k1 : Nat), FRM o cD cP h hh → hh.1 o 19 = (k1 : Nat) → PJ F hi wi kd L D0 n p0 (hh.1 cD) (hh.1 cP) k1 → PC F hi wi kd L D0 n cur (hh.1 cD) (hh.1 cP) k1 → 2 * unv (hh.1 cD) + (k1 : Int) ≤ 2 * unv (h.1 cD) + (k : Int) → (∀ Y X : Nat, (Y : Int) = y → (X : Int) = x → done F hi wi kd L (hh.1 cD) r c0 Y X) → ∃ (h' : ct_H) (k' : Nat), l_X7_spreads_23 G o L n (r : Int) (c0 : Int) y K f (x + 1, hh) = K h' ∧ FRM o cD cP h h' ∧ h'.1 o 19 = (k' : Nat) ∧ PJ F hi wi kd L D0 n p0 (h'.1 cD) (h'.1 cP) k' ∧ PC F hi wi kd L D0 n cur (h'.1 cD) (h'.1 cP) k' ∧ 2 * unv (h'.1 cD) + (k' : Int) ≤ 2 * unv (h.1 cD) + (k : Int) ∧ ∀ Y X : Nat, (Y : Int) = y → x ≤ (X : Int) → X ≤ c0 + 1 → done F hi wi kd L (h'.1 cD) r c0 Y X := by
      intro hh k1 a1 a2 a3 a4 a5 a6
      obtain ⟨h', k', e1, e2, e3, e4, e5, e6, e7⟩ := m_sprX mp hn hl hkd hr hc hy i1 cc K t (x + 1) f hh k1 (by omega) (by omega) (by omega) (a1.md mp m) (by rw [a1.row mp]; exact rh) (by rw [a1.1 2 (by omega)]; exact kk) a2 a3 a4
      refine ⟨h', k', e1, a1.trans e2, e3, e4, e5, by omega, fun Y X b1 b2 b3 => ?_⟩
      by_cases e : (X : Int) = x
      · intro b4 b5 b6 b7
        exact e2.2.2.2 _ (a6 Y X b1 e b4 b5 b6 b7)
      · exact e7 Y X b1 (by omega) b3
    rw [l_X7_spreads_23, wr_id (a := (c0 : Int) + 1) (by omega) (by omega), if_neg (by dsimp only; omega)]
    dsimp only
    rw [m.2.2.2.1, m.2.2.2.2.1, wr_id (a := (hi : Int) - 1) (by omega) (by omega), wr_id (a := (wi : Int) - 1) (by omega) (by omega), m_in, bs, jn_eq, wr_id (a := x + 1) (by omega) (by omega), m_in]
    by_cases z1 : 0 ≤ y ∧ y ≤ (hi : Int) - 1
    · rw [if_pos z1, if_neg (by omega), bs]
      by_cases z2 : 0 ≤ x ∧ x ≤ (wi : Int) - 1
      · obtain ⟨Y, rfl⟩ := Int.eq_ofNat_of_zero_le z1.1
        obtain ⟨X, rfl⟩ := Int.eq_ofNat_of_zero_le z2.1
        have hY : Y < hi := by omega
        have hX : X < wi := by omega
        rw [if_pos z2, if_neg (by omega), jn_eq, jn_eq]
        have lt := yx_lt hY hX
        have h49 : hi * wi ≤ 49 := Nat.mul_le_mul g8.2 g9.2
        have vis : goP F wi kd L r c0 Y X → ∃ (h' : ct_H) (k' : Nat), ((f_X7_visit G h o L (ct_wr (ct_wr ((Y : Int) * (wi : Int)) + (X : Int))) n).bind fun r24 => l_X7_spreads_23 G o L n (r : Int) (c0 : Int) (Y : Int) K f ((X : Int) + 1, r24)) = K h' ∧ FRM o cD cP h h' ∧ h'.1 o 19 = (k' : Nat) ∧ PJ F hi wi kd L D0 n p0 (h'.1 cD) (h'.1 cP) k' ∧ PC F hi wi kd L D0 n cur (h'.1 cD) (h'.1 cP) k' ∧ 2 * unv (h'.1 cD) + (k' : Int) ≤ 2 * unv (h.1 cD) + (k : Int) ∧ ∀ Y' X' : Nat, (Y' : Int) = (Y : Int) → (X : Int) ≤ (X' : Int) → X' ≤ c0 + 1 → done F hi wi kd L (h'.1 cD) r c0 Y' X' := by
          intro gp
          have pe := plq_plc g9 (y := Y) hX
          obtain ⟨hh, k1, e1, e2, e3, e4, e5, e6, e7⟩ := m_visit mp m rh hn hk pj pc lt (by
            rw [pe]; intro w
            exact con_trans cc (goP_con g8 g9 hr hc hY hX (by omega) (by omega) gp i1 w))
          rw [wr_yx (Nat.lt_of_lt_of_le lt h49), e1, bs]
          refine go hh k1 e2 e3 e4 e5 e7 (fun Y' X' b1 b2 => ?_)
          have : Y' = Y := Int.ofNat.inj b1
          have : X' = X := Int.ofNat.inj b2
          subst Y' X'
          intro _ _ _ b6
          exact e6 (by rw [pe]; exact b6)
        by_cases w : (Y : Int) = (r : Int) ∨ (X : Int) = (c0 : Int)
        · have gp : goP F wi kd L r c0 Y X := by
            rcases w with w | w
            · exact Or.inl (by omega)
            · exact Or.inr (Or.inl (by omega))
          have hs1 : ∀ A B : Option ct_H, (if (Y : Int) = (r : Int) then A else if (X : Int) = (c0 : Int) then A else B) = A := by
            intro A B
            by_cases v : (Y : Int) = (r : Int)
            · rw [if_pos v]
            · rw [if_neg v, if_pos (w.resolve_left v)]
          rw [hs1]
          dsimp only
          rw [jn_eq, if_neg (by omega)]
          exact vis gp
        · have mY : min Y r < hi := Nat.lt_of_le_of_lt (Nat.min_le_left _ _) hY
          have mX : min X c0 < wi := Nat.lt_of_le_of_lt (Nat.min_le_left _ _) hX
          rw [if_neg (fun v => w (Or.inl v)), if_neg (fun v => w (Or.inr v))]
          dsimp only
          rw [jn_eq, if_pos rfl, ct_min_eq, ct_min_eq, mincast, mincast, m_squareOf m mY mX, bs, m_isJoined m rh (sq_in g8 mY mX) hl (by rw [kk]; exact hkd), bs, cor_sq g9 mX, kk]
          rcases js01 F (wi + 2) kd (plq wi (min Y r) (min X c0)) L with j | j
          · rw [j, if_pos rfl]
            refine go h k FRM.refl hk pj pc (Int.le_refl _) (fun Y' X' b1 b2 => ?_)
            have : Y' = Y := Int.ofNat.inj b1
            have : X' = X := Int.ofNat.inj b2
            subst Y' X'
            intro _ _ b5 _
            rcases b5 with b5 | b5 | b5
            · exact absurd (Or.inl (by rw [b5])) w
            · exact absurd (Or.inr (by rw [b5])) w
            · rw [j] at b5; exact absurd b5 (by decide)
          · rw [j, if_neg (by omega)]
            exact vis (Or.inr (Or.inr j))
      · rw [if_neg z2, if_pos rfl]
        exact go h k FRM.refl hk pj pc (Int.le_refl _) (fun Y' X' b1 b2 b3 b4 => by omega)
    · rw [if_neg z1, if_pos rfl]
      exact go h k FRM.refl hk pj pc (Int.le_refl _) (fun Y' X' b1 b2 b3 b4 => by omega)
theorem m_sprY (mp : MP G o c cD cP) (hn : 0 ≤ n) (hl : 0 ≤ L ∧ L ≤ 99) (hkd : 0 ≤ kd ∧ kd ≤ 4) {r c0 : Nat} (hr : r < hi) (hc : c0 < wi) (i1 : ¬ F (plq wi r c0) < L) (cc : con F hi wi kd L (plc wi p0) (plq wi r c0)) : ∀ (t : Nat) (y : Int) (f : Nat) (h : ct_H) (k : Nat), y + t = (r : Int) + 2 → (r : Int) - 1 ≤ y → t < f → MD G h o c hi wi → RH F (h.1 c) hi wi → h.1 o 2 = kd → h.1 o 19 = (k : Nat) → PJ F hi wi kd L D0 n p0 (h.1 cD) (h.1 cP) k → PC F hi wi kd L D0 n cur (h.1 cD) (h.1 cP) k → ∃ (h' : ct_H) (k' : Nat), l_X7_spreads_14 G o L n (r : Int) (c0 : Int) f (y, h) = some h' ∧ FRM o cD cP h h' ∧ h'.1 o 19 = (k' : Nat) ∧ PJ F hi wi kd L D0 n p0 (h'.1 cD) (h'.1 cP) k' ∧ PC F hi wi kd L D0 n cur (h'.1 cD) (h'.1 cP) k' ∧ 2 * unv (h'.1 cD) + (k' : Int) ≤ 2 * unv (h.1 cD) + (k : Int) ∧ ∀ Y X : Nat, y ≤ (Y : Int) → Y ≤ r + 1 → X ≤ c0 + 1 → c0 ≤ X + 1 → done F hi wi kd L (h'.1 cD) r c0 Y X
  | 0, y, f + 1, h, k, h1, h2, h3, m, rh, kk, hk, pj, pc => by
    have g8 := m.2.2.2.2.2.1
    refine ⟨h, k, ?_, FRM.refl, hk, pj, pc, Int.le_refl _, fun Y X a b => by omega⟩
    rw [l_X7_spreads_14, wr_id (by omega) (by omega), if_pos (by dsimp only; omega)]
  | t + 1, y, f + 1, h, k, h1, h2, h3, m, rh, kk, hk, pj, pc => by
    have g8 := m.2.2.2.2.2.1
    have g9 := m.2.2.2.2.2.2
    rw [l_X7_spreads_14, wr_id (a := (r : Int) + 1) (by omega) (by omega), if_neg (by dsimp only; omega)]
    dsimp only
    rw [lt_eq, wr_id (a := (c0 : Int) - 1) (by omega) (by omega), wr_id (a := y + 1) (by omega) (by omega)]
    obtain ⟨hh, k1, e1, e2, e3, e4, e5, e6, e7⟩ := m_sprX (K := fun b37 => l_X7_spreads_14 G o L n (r : Int) (c0 : Int) f (y + 1, b37)) (y := y) mp hn hl hkd hr hc (by omega) i1 cc 3 ((c0 : Int) - 1) 200 h k (by omega) (by omega) (by omega) m rh kk hk pj pc
    obtain ⟨h', k', f1, f2, f3, f4, f5, f6, f7⟩ := m_sprY mp hn hl hkd hr hc i1 cc t (y + 1) f hh k1 (by omega) (by omega) (by omega) (e2.md mp m) (by rw [e2.row mp]; exact rh) (by rw [e2.1 2 (by omega)]; exact kk) e3 e4 e5
    refine ⟨h', k', e1.trans f1, e2.trans f2, f3, f4, f5, by omega, fun Y X a b c d => ?_⟩
    by_cases e : (Y : Int) = y
    · intro b4 b5 b6 b7
      exact f2.2.2.2 _ (e7 Y X e (by omega) c b4 b5 b6 b7)
    · exact f7 Y X (by omega) b c d
theorem m_spreads (mp : MP G o c cD cP) (hn : 0 ≤ n) (hl : 0 ≤ L ∧ L ≤ 99) (hkd : 0 ≤ kd ∧ kd ≤ 4) (m : MD G h o c hi wi) (rh : RH F (h.1 c) hi wi) (kk : h.1 o 2 = kd) {k p : Nat} (hp : p < hi * wi) (i1 : ¬ F (plc wi p) < L) (cc : con F hi wi kd L (plc wi p0) (plc wi p)) (hk : h.1 o 19 = (k : Nat)) (pj : PJ F hi wi kd L D0 n p0 (h.1 cD) (h.1 cP) k) (pc : PC F hi wi kd L D0 n (fun x => x = p) (h.1 cD) (h.1 cP) k) : ∃ (h' : ct_H) (k' : Nat), f_X7_spreads G h o L (p : Int) n = some h' ∧ FRM o cD cP h h' ∧ h'.1 o 19 = (k' : Nat) ∧ PJ F hi wi kd L D0 n p0 (h'.1 cD) (h'.1 cP) k' ∧ PC F hi wi kd L D0 n (fun _ => False) (h'.1 cD) (h'.1 cP) k' ∧ 2 * unv (h'.1 cD) + (k' : Int) ≤ 2 * unv (h.1 cD) + (k : Int) := by
  have g8 := m.2.2.2.2.2.1
  have g9 := m.2.2.2.2.2.2
  have hr : p / wi < hi := Nat.div_lt_of_lt_mul (by rw [Nat.mul_comm]; exact hp)
  have hc : p % wi < wi := Nat.mod_lt _ (by omega)
  unfold f_X7_spreads
  rw [m.2.2.2.2.1, dv_eq (by omega) (by omega), bs, md_eq (by omega) (by omega), bs, lt_eq, show (p : Int) / (wi : Int) = ((p / wi : Nat) : Int) from (Int.natCast_ediv _ _).symm, show (p : Int) % (wi : Int) = ((p % wi : Nat) : Int) from (Int.natCast_emod _ _).symm]
  rw [wr_id (a := ((p / wi : Nat) : Int) - 1) (by generalize p / wi = z at hr; omega) (by generalize p / wi = z at hr; omega)]
  rw [plc_plq] at i1 cc
  obtain ⟨h', k', e1, e2, e3, e4, e5, e6, e7⟩ := m_sprY mp hn hl hkd hr hc i1 cc 3 (((p / wi : Nat) : Int) - 1) 200 h k (by omega) (by omega) (by omega) m rh kk hk pj pc
  refine ⟨h', k', e1, e2, e3, e4, fun x x1 x2 x3 x4 _ y y1 y2 => ?_, e6⟩
  by_cases e : x = p
  · subst e
    rw [plc_plq (p := x), plc_plq (p := y)] at y2
    have hyc : y % wi < wi := Nat.mod_lt _ (by omega)
    have hyr : y / wi < hi := Nat.div_lt_of_lt_mul (by rw [Nat.mul_comm]; exact y1)
    have ag := adj_goP g8 g9 hc hyc y2
    have yin : ¬ F (plq wi (y / wi) (y % wi)) < L := by
      rcases y2 with w | w
      · exact (adj_in g8 g9 w).1.2
      · exact (adj_in g8 g9 w).1.1
    have := e7 (y / wi) (y % wi) (by omega) ag.2.1.1 ag.2.2.1 ag.2.2.2 hyr hyc ag.1 yin
    rwa [Nat.mul_comm, Nat.div_add_mod] at this
  · exact e5 x x1 x2 x3 x4 e y y1 y2
end
