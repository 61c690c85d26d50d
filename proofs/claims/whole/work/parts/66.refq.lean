/-! the reference: what is asked of the ground -/
theorem sm_mul (k : Int) (f : Nat → Int) : ∀ (m i : Nat), sm (fun c => k * f c) i m = k * sm f i m
  | 0, i => by simp [sm]
  | m + 1, i => by rw [sm, sm, sm_mul k f m (i + 1), Int.mul_add]
theorem sm_add2 (f g : Nat → Int) : ∀ (m i : Nat), sm (fun c => f c + g c) i m = sm f i m + sm g i m
  | 0, i => by simp [sm]
  | m + 1, i => by rw [sm, sm, sm, sm_add2 f g m (i + 1)]; omega
theorem sm_rows (f : Nat → Int) (w : Nat) : ∀ hh, sm f 0 (hh * w) = sm (fun r => sm (fun c => f (r * w + c)) 0 w) 0 hh
  | 0 => by rw [Nat.zero_mul]; rfl
  | hh + 1 => by
    rw [Nat.succ_mul, sm_cut, sm_rows f w hh, sm_last, Nat.zero_add, Nat.zero_add]
    congr 1
    have := sm_shift f (hh * w) w 0
    rw [Nat.zero_add] at this
    rw [this]
    exact sm_congr (fun c _ _ => by rw [Nat.add_comm])
theorem wgt_sum (f : Nat → Int) : ∀ n, 2 ≤ n → n ≤ 7 → sm (fun c => f c + f (c + 1)) 0 (n - 1) = sm (fun c => wgt n c * f c) 0 n := by
  intro n h1 h2
  rcases w_cases ⟨h1, h2⟩ with rfl | rfl | rfl | rfl | rfl | rfl <;> simp [sm, wgt] <;> omega
def abv (M : Nat → Int) (L : Int) (p : Nat) : Int := max 0 (M p - L)
section
variable {G : ct_G} {h : ct_H} {o c hi wi : Nat} {L : Int}
theorem m_above (m : MD G h o c hi wi) {p : Nat} (hp : p < 49) (hM : -200 ≤ h.1 c p ∧ h.1 c p ≤ 200) (hL : 0 ≤ L ∧ L ≤ 99) : f_X7_above G h o L (p : Int) = some (abv (h.1 c) L p) := by
  unfold f_X7_above abv
  rw [m.1, rdN (by rw [m.2.1]; omega), bs, wr_id (by omega) (by omega), ct_max_eq]
def sq4 (M : Nat → Int) (wi : Nat) (L : Int) (r c : Nat) : Int := abv M L (r * wi + c) + abv M L (r * wi + c + 1) + abv M L (r * wi + c + wi) + abv M L (r * wi + c + wi + 1)
theorem abv_b {M : Nat → Int} {p : Nat} (hM : -200 ≤ M p ∧ M p ≤ 200) (hL : 0 ≤ L ∧ L ≤ 99) : 0 ≤ abv M L p ∧ abv M L p ≤ 200 := by unfold abv; omega
theorem m_volX (m : MD G h o c hi wi) (hM : ∀ p, p < hi * wi → -200 ≤ h.1 c p ∧ h.1 c p ≤ 200) (hL : 0 ≤ L ∧ L ≤ 99) {r : Nat} (hr : r + 1 < hi) (K : Int → Option Int) : ∀ (t x f : Nat) (a : Int), x + t = wi - 1 → t < f → 0 ≤ a → a + 800 * t < 1000000 → l_X7_volume_12 G o L h (r : Int) K f (a, (x : Int)) = K (a + sm (sq4 (h.1 c) wi L r) x t)
  | 0, x, f + 1, a, h1, h2, h3, h4 => by
    have g9 := m.2.2.2.2.2.2
    rw [l_X7_volume_12, m.2.2.2.2.1, wr_id (by omega) (by omega), if_pos (by dsimp only; omega)]
    simp [sm]
  | t + 1, x, f + 1, a, h1, h2, h3, h4 => by
    have g8 := m.2.2.2.2.2.1
    have g9 := m.2.2.2.2.2.2
    have h49 : hi * wi ≤ 49 := Nat.mul_le_mul g8.2 g9.2
    have lt : r * wi + x + wi + 1 < hi * wi := by
      have := yx_lt (hi := hi) (wi := wi) (y := r + 1) (x := x + 1) hr (by omega)
      rw [Nat.succ_mul] at this
      omega
    rw [l_X7_volume_12, m.2.2.2.2.1, wr_id (a := (x : Int) + 1) (by omega) (by omega), if_neg (by omega)]
    dsimp only
    rw [lt_eq, ← Int.natCast_mul]
    have ab := fun p (hp : p < hi * wi) => m_above m (show p < 49 by omega) (hM p hp) hL
    have b := fun p (hp : p < hi * wi) => abv_b (L := L) (hM p hp) hL
    generalize hz : r * wi = z at lt ⊢
    have b0 := b (z + x) (by omega)
    have b1 := b (z + x + 1) (by omega)
    have b2 := b (z + x + wi) (by omega)
    have b3 := b (z + x + wi + 1) (by omega)
    rw [wr_id (a := (z : Int)) (by omega) (by omega), wr_id (a := (z : Int) + (x : Int)) (by omega) (by omega), show (z : Int) + (x : Int) = ((z + x : Nat) : Int) by omega, ab _ (by omega), bs, wr_id (a := ((z + x : Nat) : Int) + 1) (by omega) (by omega), show ((z + x : Nat) : Int) + 1 = ((z + x + 1 : Nat) : Int) by omega, ab _ (by omega), bs, wr_id (a := ((z + x : Nat) : Int) + (wi : Int)) (by omega) (by omega), show ((z + x : Nat) : Int) + (wi : Int) = ((z + x + wi : Nat) : Int) by omega, ab _ (by omega), bs, wr_id (a := ((z + x + wi : Nat) : Int) + 1) (by omega) (by omega), show ((z + x + wi : Nat) : Int) + 1 = ((z + x + wi + 1 : Nat) : Int) by omega, ab _ (by omega), bs, lt_eq]
    rw [wr_id (a := abv (h.1 c) L (z + x) + abv (h.1 c) L (z + x + 1)) (by omega) (by omega), wr_id (a := abv (h.1 c) L (z + x) + abv (h.1 c) L (z + x + 1) + abv (h.1 c) L (z + x + wi)) (by omega) (by omega), wr_id (a := abv (h.1 c) L (z + x) + abv (h.1 c) L (z + x + 1) + abv (h.1 c) L (z + x + wi) + abv (h.1 c) L (z + x + wi + 1)) (by omega) (by omega), wr_id (by omega) (by omega), show (x : Int) + 1 = ((x + 1 : Nat) : Int) by omega]
    rw [m_volX m hM hL hr K t (x + 1) f _ (by omega) (by omega) (by omega) (by omega), sm]
    unfold sq4
    rw [hz]
    congr 1
    omega
theorem sq4_b {M : Nat → Int} (h1 : 2 ≤ hi ∧ hi ≤ 7) (h2 : 2 ≤ wi ∧ wi ≤ 7) (hM : ∀ p, p < hi * wi → -200 ≤ M p ∧ M p ≤ 200) (hL : 0 ≤ L ∧ L ≤ 99) {r x : Nat} (hr : r + 1 < hi) (hx : x + 1 < wi) : 0 ≤ sq4 M wi L r x ∧ sq4 M wi L r x ≤ 800 := by
  have lt : r * wi + x + wi + 1 < hi * wi := by
    have := yx_lt (hi := hi) (wi := wi) (y := r + 1) (x := x + 1) hr (by omega)
    rw [Nat.succ_mul] at this
    omega
  have b := fun p (hp : p < hi * wi) => abv_b (M := M) (L := L) (hM p hp) hL
  unfold sq4
  generalize r * wi = z at lt ⊢
  have b0 := b (z + x) (by omega)
  have b1 := b (z + x + 1) (by omega)
  have b2 := b (z + x + wi) (by omega)
  have b3 := b (z + x + wi + 1) (by omega)
  omega
theorem m_volY (m : MD G h o c hi wi) (hM : ∀ p, p < hi * wi → -200 ≤ h.1 c p ∧ h.1 c p ≤ 200) (hL : 0 ≤ L ∧ L ≤ 99) : ∀ (t r f : Nat) (a : Int), r + t = hi - 1 → t < f → 0 ≤ a → a + 8000 * t < 100000 → l_X7_volume_4 G o L h f (a, (r : Int)) = some (a + sm (fun r => sm (sq4 (h.1 c) wi L r) 0 (wi - 1)) r t)
  | 0, r, f + 1, a, h1, h2, h3, h4 => by
    have g8 := m.2.2.2.2.2.1
    rw [l_X7_volume_4, m.2.2.2.1, wr_id (by omega) (by omega), if_pos (by dsimp only; omega)]
    simp [sm]
  | t + 1, r, f + 1, a, h1, h2, h3, h4 => by
    have g8 := m.2.2.2.2.2.1
    have g9 := m.2.2.2.2.2.2
    have sb0 : 0 ≤ sm (sq4 (h.1 c) wi L r) 0 (wi - 1) := sm_nonneg (fun j _ j2 => (sq4_b g8 g9 hM hL (by omega) (by omega)).1)
    have sb1 := sm_le (f := sq4 (h.1 c) wi L r) (b := 800) (by omega) (m := wi - 1) (i := 0) (fun j _ j2 => (sq4_b g8 g9 hM hL (by omega) (by omega)).2)
    rw [l_X7_volume_4, m.2.2.2.1, wr_id (a := (r : Int) + 1) (by omega) (by omega), if_neg (by omega)]
    dsimp only
    have vx := m_volX m hM hL (r := r) (by omega) (fun b16 => l_X7_volume_4 G o L h f (b16, (r : Int) + 1)) (wi - 1) 0 200 a (by omega) (by omega) h3 (by omega)
    rw [show ((0 : Nat) : Int) = 0 from rfl] at vx
    rw [vx, show (r : Int) + 1 = ((r + 1 : Nat) : Int) by omega, m_volY m hM hL t (r + 1) f _ (by omega) (by omega) (by omega) (by omega), sm, Int.add_assoc]
theorem vol_eq {F M : Nat → Int} (h1 : 2 ≤ hi ∧ hi ≤ 7) (h2 : 2 ≤ wi ∧ wi ≤ 7) (hr : RH F M hi wi) : sm (fun r => sm (sq4 M wi L r) 0 (wi - 1)) 0 (hi - 1) = sm (vol F wi hi L) 0 (hi * wi) := by
  have e1 : ∀ r, sm (sq4 M wi L r) 0 (wi - 1) = sm (fun c => wgt wi c * abv M L (r * wi + c)) 0 wi + sm (fun c => wgt wi c * abv M L ((r + 1) * wi + c)) 0 wi := by
    intro r
    rw [← wgt_sum (fun c => abv M L (r * wi + c)) wi h2.1 h2.2, ← wgt_sum (fun c => abv M L ((r + 1) * wi + c)) wi h2.1 h2.2, ← sm_add2]
    refine sm_congr (fun c _ _ => ?_)
    unfold sq4
    rw [Nat.succ_mul, show r * wi + wi + c = r * wi + c + wi by omega, show r * wi + wi + (c + 1) = r * wi + c + wi + 1 by omega, show r * wi + (c + 1) = r * wi + c + 1 by omega]
    omega
  rw [sm_congr (fun r _ _ => e1 r), wgt_sum (fun r => sm (fun c => wgt wi c * abv M L (r * wi + c)) 0 wi) hi h1.1 h1.2, sm_rows]
  refine sm_congr (fun r _ r2 => ?_)
  rw [← sm_mul]
  refine sm_congr (fun x _ x2 => ?_)
  have lt := yx_lt (hi := hi) (wi := wi) (y := r) (x := x) (by omega) (by omega)
  have d := (dm_iff (w := wi) (j := r * wi + x) (r := r) (k := x) (by omega) (by omega)).mp rfl
  unfold vol abv
  rw [d.1, d.2, (hr.1 _ lt).1, Int.mul_assoc]
theorem m_volume {F : Nat → Int} (m : MD G h o c hi wi) (hr : RH F (h.1 c) hi wi) (hL : 0 ≤ L ∧ L ≤ 99) : f_X7_volume G h o L = some (sm (vol F wi hi L) 0 (hi * wi)) := by
  have g8 := m.2.2.2.2.2.1
  have g9 := m.2.2.2.2.2.2
  unfold f_X7_volume
  have := m_volY m (L := L) (fun p hp => by have := hr.1 p hp; omega) hL (hi - 1) 0 200 0 (by omega) (by omega) (by omega) (by omega)
  rw [Int.zero_add, vol_eq g8 g9 hr] at this
  exact this
theorem m_inL (m : MD G h o c hi wi) : ∀ (t i f : Nat) (a : Int), i + t = hi * wi → t < f → 0 ≤ a → a + t < 1000 → l_X7_pointsIn_4 G o L h f (a, (i : Int)) = some (a + sm (fun p => if h.1 c p < L then 0 else 1) i t)
  | 0, i, f + 1, a, h1, h2, h3, h4 => by
    rw [l_X7_pointsIn_4, m_points m, bs, if_pos (by dsimp only; omega)]
    simp [sm]
  | t + 1, i, f + 1, a, h1, h2, h3, h4 => by
    have h49 : hi * wi ≤ 49 := Nat.mul_le_mul m.2.2.2.2.2.1.2 m.2.2.2.2.2.2.2
    rw [l_X7_pointsIn_4, m_points m, bs, if_neg (by dsimp only; omega)]
    dsimp only
    rw [m.1, rdN (by rw [m.2.1]; omega), bs, jn_eq, wr_id (a := (i : Int) + 1) (by omega) (by omega), sm]
    have ih := fun a' x y => m_inL m t (i + 1) f a' (by omega) (by omega) x y
    rw [show ((i + 1 : Nat) : Int) = (i : Int) + 1 by omega] at ih
    by_cases z : h.1 c i < L
    · rw [if_pos z, if_pos z]
      dsimp only
      rw [ih _ (by omega) (by omega), Int.zero_add]
    · rw [if_neg z, if_neg z]
      dsimp only
      rw [wr_id (by omega) (by omega), ih _ (by omega) (by omega), Int.add_assoc]
theorem m_pointsIn {F : Nat → Int} (m : MD G h o c hi wi) (hr : RH F (h.1 c) hi wi) (hL : 0 ≤ L) : f_X7_pointsIn G h o L = some (sm (fun q => if F q < L then 0 else 1) 0 ((hi + 2) * (wi + 2))) := by
  have g8 := m.2.2.2.2.2.1
  have g9 := m.2.2.2.2.2.2
  have hN := N81 g8 g9
  have h49 : hi * wi ≤ 49 := Nat.mul_le_mul g8.2 g9.2
  unfold f_X7_pointsIn
  have e : sm (fun q => if F q < L then 0 else 1) 0 ((hi + 2) * (wi + 2)) = sm (fun p => if F (plc wi p) < L then 0 else 1) 0 (hi * wi) := sm_pts (f := fun q => if F q < L then 0 else 1) g8 g9 (fun q hq w => by
    have := (hr.RM g9).2 q (by omega) w
    rw [if_pos (by omega)])
  have := m_inL m (L := L) (hi * wi) 0 200 0 (by omega) (by omega) (by omega) (by omega)
  rw [Int.zero_add] at this
  rw [e]
  refine Eq.trans this ?_
  congr 1
  exact sm_congr (fun p _ p2 => by rw [(hr.1 p (by omega)).1])
theorem m_togL (m : MD G h o c hi wi) (hM : ∀ p, p < hi * wi → 0 ≤ h.1 c p ∧ h.1 c p ≤ 99) : ∀ (t i f : Nat) (a : Int), i + t = hi * wi → t < f → 0 ≤ a → a ≤ 100 * i → l_X7_together_4 G o h f (a, (i : Int)) = some (a + sm (h.1 c) i t)
  | 0, i, f + 1, a, h1, h2, h3, h4 => by
    rw [l_X7_together_4, m_points m, bs, if_pos (by dsimp only; omega)]
    simp [sm]
  | t + 1, i, f + 1, a, h1, h2, h3, h4 => by
    have h49 : hi * wi ≤ 49 := Nat.mul_le_mul m.2.2.2.2.2.1.2 m.2.2.2.2.2.2.2
    have b := hM i (by omega)
    rw [l_X7_together_4, m_points m, bs, if_neg (by dsimp only; omega)]
    dsimp only
    rw [m.1, rdN (by rw [m.2.1]; omega), bs, lt_eq, wr_id (a := (i : Int) + 1) (by omega) (by omega), wr_id (by omega) (by omega), sm]
    have ih := m_togL m hM t (i + 1) f (a + h.1 c i) (by omega) (by omega) (by omega) (by omega)
    rw [show ((i + 1 : Nat) : Int) = (i : Int) + 1 by omega] at ih
    rw [ih, Int.add_assoc]
theorem m_together {F : Nat → Int} (m : MD G h o c hi wi) (hr : RH F (h.1 c) hi wi) : f_X7_together G h o = some (sm (fun p => F (plc wi p)) 0 (hi * wi)) := by
  have h49 : hi * wi ≤ 49 := Nat.mul_le_mul m.2.2.2.2.2.1.2 m.2.2.2.2.2.2.2
  unfold f_X7_together
  have := m_togL m (fun p hp => (hr.1 p hp).2) (hi * wi) 0 200 0 (by omega) (by omega) (by omega) (by omega)
  rw [Int.zero_add] at this
  refine Eq.trans this ?_
  congr 1
  exact sm_congr (fun p _ p2 => (hr.1 p (by omega)).1)
theorem m_squares (m : MD G h o c hi wi) : f_X7_squares G h o = some (((hi + 1) * (wi + 1) : Nat) : Int) := by
  obtain ⟨g1, g2, g3, g4, g5, g8, g9⟩ := m
  have hN : (hi + 1) * (wi + 1) ≤ 81 := mul_b (by omega) (by omega)
  unfold f_X7_squares
  rw [g4, g5, wr_id (a := (wi : Int) + 1) (by omega) (by omega), wr_id (a := (hi : Int) + 1) (by omega) (by omega), show ((wi : Int) + 1) * ((hi : Int) + 1) = (((hi + 1) * (wi + 1) : Nat) : Int) by rw [Int.natCast_mul, Int.mul_comm]; rfl, wr_id (by omega) (by omega)]
theorem m_sadL {F : Nat → Int} (m : MD G h o c hi wi) (hr : RH F (h.1 c) hi wi) (hL : 0 ≤ L ∧ L ≤ 99) (hk : 0 ≤ h.1 o 2 ∧ h.1 o 2 ≤ 4) {j : Int} : ∀ (t i f : Nat) (a : Int), i + t = (hi + 1) * (wi + 1) → t < f → 0 ≤ a → a + t < 1000 → l_X7_saddles_4 G o L j h f (a, (i : Int)) = some (a + sm (fun q => if j = 0 then (if cs F (wi + 2) (cor wi q) L = 5 ∨ cs F (wi + 2) (cor wi q) L = 10 then 1 else 0) else js F (wi + 2) (h.1 o 2) (cor wi q) L) i t)
  | 0, i, f + 1, a, h1, h2, h3, h4 => by
    rw [l_X7_saddles_4, m_squares m, bs, if_pos (by dsimp only; omega)]
    simp [sm]
  | t + 1, i, f + 1, a, h1, h2, h3, h4 => by
    have hN : (hi + 1) * (wi + 1) ≤ 81 := mul_b (by have := m.2.2.2.2.2.1; omega) (by have := m.2.2.2.2.2.2; omega)
    rw [l_X7_saddles_4, m_squares m, bs, if_neg (by dsimp only; omega)]
    dsimp only
    rw [jn_eq, jn_eq, wr_id (a := (i : Int) + 1) (by omega) (by omega), sm]
    have ih := fun a' x y => m_sadL m hr hL hk (j := j) t (i + 1) f a' (by omega) (by omega) x y
    rw [show ((i + 1 : Nat) : Int) = (i : Int) + 1 by omega] at ih
    by_cases z : j = 0
    · rw [if_pos z, if_pos z, m_caseOf m hr (by omega), bs, x7_isSaddle, bs]
      by_cases y : cs F (wi + 2) (cor wi i) L = 5 ∨ cs F (wi + 2) (cor wi i) L = 10
      · rw [if_pos y, if_neg (by omega)]
        dsimp only
        rw [wr_id (by omega) (by omega), ih _ (by omega) (by omega), Int.add_assoc]
      · rw [if_neg y, if_pos rfl]
        dsimp only
        rw [ih _ (by omega) (by omega), Int.zero_add]
    · rw [if_neg z, if_neg z, m_isJoined m hr (by omega) hL hk, bs]
      rcases js01 F (wi + 2) (h.1 o 2) (cor wi i) L with e | e
      · rw [e, if_pos rfl]
        dsimp only
        rw [ih _ (by omega) (by omega), Int.zero_add]
      · rw [e, if_neg (by omega)]
        dsimp only
        rw [wr_id (by omega) (by omega), ih _ (by omega) (by omega), Int.add_assoc]
theorem m_saddles {F : Nat → Int} (m : MD G h o c hi wi) (hr : RH F (h.1 c) hi wi) (hL : 0 ≤ L ∧ L ≤ 99) (hk : 0 ≤ h.1 o 2 ∧ h.1 o 2 ≤ 4) {j : Int} : f_X7_saddles G h o L j = some (sm (fun q => if j = 0 then (if cs F (wi + 2) (cor wi q) L = 5 ∨ cs F (wi + 2) (cor wi q) L = 10 then 1 else 0) else js F (wi + 2) (h.1 o 2) (cor wi q) L) 0 ((hi + 1) * (wi + 1))) := by
  have hN : (hi + 1) * (wi + 1) ≤ 81 := mul_b (by have := m.2.2.2.2.2.1; omega) (by have := m.2.2.2.2.2.2; omega)
  unfold f_X7_saddles
  have := m_sadL m hr hL hk (j := j) ((hi + 1) * (wi + 1)) 0 200 0 (by omega) (by omega) (by omega) (by omega)
  rw [Int.zero_add] at this
  exact this
theorem g_saddles {og cg : Nat} (g : GR G h og cg hi wi) (hF : hB (h.1 cg)) (hL : 0 ≤ L ∧ L ≤ 99) {j : Int} : f_X0_saddles G h og L j = some (sm (fun q => if j = 0 then (if cs (h.1 cg) (wi + 2) (cor wi q) L = 5 ∨ cs (h.1 cg) (wi + 2) (cor wi q) L = 10 then 1 else 0) else js (h.1 cg) (wi + 2) (h.1 og 5) (cor wi q) L) 0 ((hi + 1) * (wi + 1))) := by
  have g8 := g.2.2.2.2.2.2.2.1
  have g9 := g.2.2.2.2.2.2.2.2
  have hN : (hi + 1) * (wi + 1) ≤ 81 := mul_b (by omega) (by omega)
  unfold f_X0_saddles
  have := g_saddlesL g (j := j) hF hL ((hi + 1) * (wi + 1)) 0 200 0 (by omega) (by omega) (by omega) (by omega)
  rw [Int.zero_add] at this
  rw [lt_eq, g.2.2.2.1, g.2.2.2.2.1, wr_id (a := (hi : Int) + 1) (by omega) (by omega), wr_id (a := (wi : Int) + 1) (by omega) (by omega), show ((hi : Int) + 1) * ((wi : Int) + 1) = (((hi + 1) * (wi + 1) : Nat) : Int) by rw [Int.natCast_mul]; rfl, wr_id (by omega) (by omega)]
  exact this
end
