/-! search by halves -/
noncomputable def hvn (P : Nat → Prop) (T : Nat) : Nat → Nat → Nat
  | 0, l => l
  | k + 1, l => hvn P T k (@ite Nat (l + 2 ^ k ≤ T ∧ P (l + 2 ^ k)) (Classical.propDecidable _) (l + 2 ^ k) l)
theorem hvn_eq {P : Nat → Prop} {T m : Nat} (hm : m ≤ T) (hP : ∀ x, x ≤ T → (P x ↔ x ≤ m)) : ∀ k l, l ≤ m → m < l + 2 ^ k → hvn P T k l = m
  | 0, l, h1, h2 => by rw [hvn]; rw [Nat.pow_zero] at h2; omega
  | k + 1, l, h1, h2 => by
    rw [hvn]
    rw [Nat.pow_succ] at h2
    by_cases z : l + 2 ^ k ≤ m
    · rw [if_pos ⟨by omega, (hP _ (by omega)).mpr z⟩]
      exact hvn_eq hm hP k _ z (by omega)
    · rw [if_neg (fun w => z ((hP _ w.1).mp w.2))]
      exact hvn_eq hm hP k _ h1 (by omega)
theorem hv_most {P : Nat → Prop} (h0 : P 0) (hd : ∀ x, P (x + 1) → P x) : ∀ T, ∃ m, m ≤ T ∧ ∀ x, x ≤ T → (P x ↔ x ≤ m)
  | 0 => ⟨0, Nat.le_refl _, fun x hx => by
    have : x = 0 := by omega
    subst this
    exact ⟨fun _ => Nat.le_refl _, fun _ => h0⟩⟩
  | T + 1 => by
    rcases Classical.em (P (T + 1)) with w | w
    · refine ⟨T + 1, Nat.le_refl _, fun x hx => ⟨fun _ => hx, fun _ => ?_⟩⟩
      have : ∀ d, P (T + 1 - d) := by
        intro d
        induction d with
        | zero => exact w
        | succ d ih =>
          rcases Nat.lt_or_ge d (T + 1) with u | u
          · apply hd
            rwa [show T + 1 - (d + 1) + 1 = T + 1 - d by omega]
          · rwa [show T + 1 - (d + 1) = T + 1 - d by omega]
      have := this (T + 1 - x)
      rwa [show T + 1 - (T + 1 - x) = x by omega] at this
    · obtain ⟨m, m1, m2⟩ := hv_most h0 hd T
      refine ⟨m, by omega, fun x hx => ?_⟩
      by_cases e : x = T + 1
      · subst e
        exact ⟨fun u => absurd u w, fun u => by omega⟩
      · exact m2 x (by omega)
def st2 (k : Nat) : Nat := if k = 0 then 0 else 2 ^ (k - 1)
theorem st2_0 : st2 0 = 0 := rfl
theorem st2_s (k : Nat) : st2 (k + 1) = 2 ^ k := by unfold st2; rw [if_neg (by omega)]; rfl
theorem st2_half (k : Nat) : st2 (k + 1) / 2 = st2 k := by
  rw [st2_s]
  cases k with
  | zero => rfl
  | succ k => rw [st2_s, Nat.pow_succ]; omega
theorem p2_le {k : Nat} (h : k ≤ 6) : 1 ≤ 2 ^ k ∧ 2 ^ k ≤ 64 := by
  refine ⟨Nat.one_le_two_pow, ?_⟩
  exact Nat.pow_le_pow_right (n := 2) (by omega) h
theorem hvn_le {P : Nat → Prop} {T : Nat} : ∀ k l, l ≤ T → hvn P T k l ≤ T
  | 0, l, h => h
  | k + 1, l, h => by
    rw [hvn]
    split
    · rename_i w; exact hvn_le k _ w.1
    · exact hvn_le k _ h
/-! the call told 5 -/
section
variable {G : ct_G} {h : ct_H} {hi wi : Nat} {B : Int}
def vlm (F : Nat → Int) (hi wi : Nat) (x : Nat) : Int := sm (vol F wi hi (x : Int)) 0 (hi * wi)
theorem wgt_nn (n i : Nat) : 0 ≤ wgt n i := by rcases wgt12 n i with e | e <;> omega
theorem vlm_mono {F : Nat → Int} {x : Nat} : vlm F hi wi (x + 1) ≤ vlm F hi wi x := by
  refine sm_mono (fun p _ _ => ?_)
  unfold vol
  refine Int.mul_le_mul_of_nonneg_left ?_ (Int.mul_nonneg (wgt_nn _ _) (wgt_nn _ _))
  omega
theorem vlm_b {F : Nat → Int} (ig : IG G h hi wi) (hF : h.1 2 = F) {x : Nat} (hx : x ≤ 99) : 0 ≤ vlm F hi wi x ∧ vlm F hi wi x ≤ 20000 := by
  have g8 := ig.1.2.2.2.2.2.2.2.1
  have g9 := ig.1.2.2.2.2.2.2.2.2
  have h49 : hi * wi ≤ 49 := Nat.mul_le_mul g8.2 g9.2
  have b := fun p (hp : p < hi * wi) => vol_b (F := F) (hi := hi) (wi := wi) (L := (x : Int)) (p := p) (by
    have := ig.2.2.1.1 p hp
    rw [← hF]
    omega) (by omega)
  refine ⟨sm_nonneg (fun j _ j2 => (b j (by omega)).1), ?_⟩
  have := sm_le (f := vol F wi hi (x : Int)) (b := 400) (by omega) (m := hi * wi) (i := 0) (fun j _ j2 => (b j (by omega)).2)
  unfold vlm
  omega
theorem c_halfL (gs : GS G) (ig : IG G h hi wi) : ∀ (k l f : Nat), k ≤ 7 → l ≤ 99 → k < f → l_X6_halfLevel_9 G 0 h (vlm (h.1 2) hi wi 0) f ((l : Int), ((st2 k : Nat) : Int)) = some ((hvn (fun x => vlm (h.1 2) hi wi 0 ≤ 2 * vlm (h.1 2) hi wi x) 99 k l : Nat) : Int)
  | 0, l, f + 1, h1, hl, h2 => by
    rw [l_X6_halfLevel_9, if_pos (by rw [st2_0]; dsimp only; omega)]
    rfl
  | k + 1, l, f + 1, h1, hl, h2 => by
    have p2 := p2_le (k := k) (by omega)
    rw [l_X6_halfLevel_9, if_neg (by rw [st2_s]; dsimp only; omega)]
    dsimp only
    rw [dv_eq (by omega) (by omega), show ((st2 (k + 1) : Nat) : Int) / 2 = ((st2 (k + 1) / 2 : Nat) : Int) by omega, st2_half, st2_s, hvn]
    generalize 2 ^ k = w at p2 ⊢
    rw [wr_id (a := (l : Int) + (w : Int)) (by omega) (by omega), show (l : Int) + (w : Int) = ((l + w : Nat) : Int) by omega, x6_isLevel, bs, jn_eq]
    have ih := fun l' hl' => c_halfL gs ig k l' f (by omega) hl' (by omega)
    by_cases z : l + w ≤ 99
    · have vb := vlm_b ig rfl (x := l + w) z
      have ev : f_X0_volume G h 1 ((l + w : Nat) : Int) = some (vlm (h.1 2) hi wi (l + w)) := g_volume ig.1 ig.2.2.1.hB (by omega)
      have zl : 0 ≤ ((l + w : Nat) : Int) ∧ ((l + w : Nat) : Int) ≤ 99 := by omega
      rw [if_pos zl, if_neg (by omega), gs.1.1, ev, bs, wr_id (by omega) (by omega)]
      by_cases y : vlm (h.1 2) hi wi 0 ≤ 2 * vlm (h.1 2) hi wi (l + w)
      · rw [if_neg (by omega), lt_eq, if_pos ⟨z, y⟩]
        dsimp only
        rw [bs]
        exact ih _ z
      · rw [if_pos (by omega), if_neg (fun u => y u.2)]
        dsimp only
        rw [bs]
        exact ih _ hl
    · have zl : ¬ (0 ≤ ((l + w : Nat) : Int) ∧ ((l + w : Nat) : Int) ≤ 99) := by omega
      rw [if_neg zl, if_pos rfl, if_neg (fun u => z u.1)]
      dsimp only
      rw [bs]
      exact ih _ hl
theorem half_most (ig : IG G h hi wi) : ∃ m, m ≤ 99 ∧ ∀ x, x ≤ 99 → (vlm (h.1 2) hi wi 0 ≤ 2 * vlm (h.1 2) hi wi x ↔ x ≤ m) := by
  have v0 := vlm_b ig rfl (x := 0) (by omega)
  refine hv_most (by omega) (fun x hx => ?_) 99
  have := vlm_mono (F := h.1 2) (hi := hi) (wi := wi) (x := x)
  omega
theorem m_halfL (ig : IG G h hi wi) {m : Nat} (hm : m ≤ 99) (hP : ∀ x, x ≤ 99 → (vlm (h.1 2) hi wi 0 ≤ 2 * vlm (h.1 2) hi wi x ↔ x ≤ m)) : ∀ (t f : Nat), m + t ≤ 99 → t < f → l_X7_half_6 G 73 h (vlm (h.1 2) hi wi 0) f ((m + t : Nat) : Int) = some ((m : Nat) : Int)
  | 0, f + 1, h1, h2 => by
    have vb := vlm_b ig rfl (x := m) hm
    have ev : f_X7_volume G h 73 ((m : Nat) : Int) = some (vlm (h.1 2) hi wi m) := m_volume ig.2.1 ig.2.2.1 (by omega)
    rw [l_X7_half_6, Nat.add_zero, ev, bs, wr_id (by omega) (by omega), if_pos ((hP m hm).mpr (Nat.le_refl _))]
  | t + 1, f + 1, h1, h2 => by
    have vb := vlm_b ig rfl (x := m + (t + 1)) (by omega)
    have ev : f_X7_volume G h 73 ((m + (t + 1) : Nat) : Int) = some (vlm (h.1 2) hi wi (m + (t + 1))) := m_volume ig.2.1 ig.2.2.1 (by omega)
    have nle : ¬ vlm (h.1 2) hi wi 0 ≤ 2 * vlm (h.1 2) hi wi (m + (t + 1)) := fun w => by have := (hP _ (by omega)).mp w; omega
    rw [l_X7_half_6, ev, bs, wr_id (by omega) (by omega), if_neg nle, wr_id (by omega) (by omega), show ((m + (t + 1) : Nat) : Int) + -1 = ((m + t : Nat) : Int) by omega]
    exact m_halfL ig hm hP t f (by omega) (by omega)
theorem half_same (gs : GS G) (ig : IG G h hi wi) : ∃ r, f_X6_halfLevel G h 0 = some r ∧ f_X7_half G h 73 = some r := by
  obtain ⟨m, hm, hP⟩ := half_most ig
  have e1 : f_X0_volume G h 1 0 = some (vlm (h.1 2) hi wi 0) := g_volume ig.1 ig.2.2.1.hB (by omega)
  have e2 : f_X7_volume G h 73 0 = some (vlm (h.1 2) hi wi 0) := m_volume ig.2.1 ig.2.2.1 (by omega)
  refine ⟨(m : Nat), ?_, ?_⟩
  · unfold f_X6_halfLevel
    rw [gs.1.1, e1, bs]
    have := c_halfL gs ig 7 0 200 (by omega) (by omega) (by omega)
    rw [hvn_eq hm hP 7 0 (by omega) (by omega)] at this
    exact this
  · unfold f_X7_half
    rw [e2, bs]
    have := m_halfL ig hm hP (99 - m) 200 (by omega) (by omega)
    rw [show m + (99 - m) = 99 by omega] at this
    exact this
end
/-! at level 0 all hangs together -/
section
variable {F : Nat → Int} {hi wi : Nat} {kd : Int}
theorem con0 (h1 : 2 ≤ hi ∧ hi ≤ 7) (h2 : 2 ≤ wi ∧ wi ≤ 7) (hF : ∀ p, p < hi * wi → 0 ≤ F (plc wi p)) {p q : Nat} (hp : p < hi * wi) (hq : q < hi * wi) : con F hi wi kd 0 (plc wi p) (plc wi q) := by
  have fin : ∀ y x, y < hi → x < wi → ¬ F (plq wi y x) < 0 := by
    intro y x hy hx
    have := hF _ (yx_lt hy hx)
    rw [plq_plc h2 hx] at this
    omega
  have rowc : ∀ x y, y < hi → x < wi → con F hi wi kd 0 (plq wi y 0) (plq wi y x) := by
    intro x
    induction x with
    | zero => intro y _ _; exact con_refl
    | succ x ih =>
      intro y hy hx
      exact con_trans (ih y hy (by omega)) (goP_con h1 h2 hy (by omega) hy hx (by omega) (by omega) (Or.inl rfl) (fin y x hy (by omega)) (fin y (x + 1) hy hx))
  have colc : ∀ y, y < hi → con F hi wi kd 0 (plq wi 0 0) (plq wi y 0) := by
    intro y
    induction y with
    | zero => intro _; exact con_refl
    | succ y ih =>
      intro hy
      exact con_trans (ih (by omega)) (goP_con h1 h2 (show y < hi by omega) (by omega) hy (by omega) (by omega) (by omega) (Or.inr (Or.inl rfl)) (fin y 0 (by omega) (by omega)) (fin (y + 1) 0 hy (by omega)))
  have all : ∀ p, p < hi * wi → con F hi wi kd 0 (plq wi 0 0) (plc wi p) := by
    intro p hp
    rw [plc_plq]
    have hr : p / wi < hi := Nat.div_lt_of_lt_mul (by rw [Nat.mul_comm]; exact hp)
    have hc : p % wi < wi := Nat.mod_lt _ (by omega)
    exact con_trans (colc _ hr) (rowc _ _ hr hc)
  exact con_trans (con_symm (all p hp)) (all q hq)
end
