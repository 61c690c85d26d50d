/-! places and points; what is asked of lands -/
theorem sm_pts {f : Nat → Int} {hi wi : Nat} (h1 : 2 ≤ hi ∧ hi ≤ 7) (h2 : 2 ≤ wi ∧ wi ≤ 7) (hf : ∀ q, q < (hi + 2) * (wi + 2) → ¬ ((1 ≤ q / (wi + 2) ∧ q / (wi + 2) ≤ hi) ∧ 1 ≤ q % (wi + 2) ∧ q % (wi + 2) ≤ wi) → f q = 0) : sm f 0 ((hi + 2) * (wi + 2)) = sm (fun p => f (plc wi p)) 0 (hi * wi) := by
  have e : plc wi (hi * wi) = (wi + 2) * (hi + 1) + 1 := by
    unfold plc
    rw [Nat.mul_div_cancel _ (by omega), Nat.mul_mod_left]
  have e2 : (hi + 2) * (wi + 2) = (wi + 2) * (hi + 1) + (wi + 2) := by rw [Nat.mul_comm, show hi + 2 = hi + 1 + 1 by omega, Nat.mul_add (wi + 2) (hi + 1) 1]; omega
  have e3 : wi + 2 ≤ (wi + 2) * (hi + 1) := Nat.le_mul_of_pos_right _ (by omega)
  have st : ∀ p, p ≤ hi * wi → sm f 0 (plc wi p) = sm (fun p => f (plc wi p)) 0 p := by
    intro p
    induction p with
    | zero =>
      intro _
      rw [sm_zero (fun q q1 q2 => hf q (by unfold plc at q2; rw [Nat.zero_div, Nat.zero_mod] at q2; omega) (fun w => by
        unfold plc at q2
        rcases w_cases h2 with rfl | rfl | rfl | rfl | rfl | rfl <;> omega))]
      rfl
    | succ p ih =>
      intro hp
      have mo := (plc_mono h2 (p := p) (q := p + 1)).mpr (by omega)
      have pl : plc wi (p + 1) ≤ plc wi (hi * wi) := by
        rcases Nat.lt_or_ge (p + 1) (hi * wi) with w | w
        · exact Nat.le_of_lt ((plc_mono h2).mpr w)
        · have : p + 1 = hi * wi := by omega
          rw [this]; exact Nat.le_refl _
      rw [sm_last, Nat.zero_add, ← ih (by omega), show plc wi (p + 1) = plc wi p + (1 + (plc wi (p + 1) - plc wi p - 1)) by omega, sm_cut, sm_cut, sm_zero (i := 0 + plc wi p + 1) (fun q q1 q2 => hf q (by omega) (fun w => plc_gap h2 (p := p) (by omega) (by omega) w.2)), Int.add_zero, Nat.zero_add]
      simp [sm]
  rw [show (hi + 2) * (wi + 2) = plc wi (hi * wi) + ((hi + 2) * (wi + 2) - plc wi (hi * wi)) by omega, sm_cut, st _ (Nat.le_refl _), sm_zero (i := 0 + plc wi (hi * wi)) (fun q q1 q2 => hf q (by omega) (fun w => by
    have : hi + 1 ≤ q / (wi + 2) := by
      rw [Nat.le_div_iff_mul_le (by omega), Nat.mul_comm]
      omega
    omega)), Int.add_zero]
section
variable {F : Nat → Int} {hi wi : Nat} {kd L : Int}
theorem nmb_sur {l : Int} (h0 : 0 ≤ l) : ∀ b, l < nmb F hi wi kd L b → ∃ z, z < b ∧ isl F hi wi kd L z ∧ nmb F hi wi kd L z = l
  | 0, h => by
    have : nmb F hi wi kd L 0 = 0 := rfl
    omega
  | b + 1, h => by
    rcases Classical.em (l < nmb F hi wi kd L b) with w | w
    · obtain ⟨z, z1, z2⟩ := nmb_sur h0 b w
      exact ⟨z, by omega, z2⟩
    · rw [nmb_succ] at h
      rcases Classical.em (isl F hi wi kd L b) with i | i
      · rw [b01_t i] at h
        exact ⟨b, by omega, i, by omega⟩
      · rw [b01_f i] at h; omega
/-- the value of a land's place, as the class and the reference tell it, is the same -/
theorem LD_land {x : Nat} {v : Int} (h : LD F hi wi kd L x v) : (v = -5 ↔ F x < L) ∧ ∀ z, isl F hi wi kd L z → (v = nmb F hi wi kd L z ↔ con F hi wi kd L z x) := by
  rcases h with ⟨a, b⟩ | ⟨a, y, y1, y2, y3⟩
  · refine ⟨⟨fun _ => a, fun _ => b⟩, fun z iz => ⟨fun w => ?_, fun w => ?_⟩⟩
    · have := nmb_0 (F := F) (hi := hi) (wi := wi) (kd := kd) (L := L) (a := z); omega
    · have := w (fun q => F q < L) (fun p q ad => by
        obtain ⟨s, _, ad⟩ := ad
        rcases ad with ⟨u, v, rfl, rfl⟩ | ⟨u, v, rfl, rfl⟩ | ⟨j, ⟨u, rfl, rfl⟩ | ⟨u, rfl, rfl⟩⟩
        · exact ⟨fun w => absurd w u, fun w => absurd w v⟩
        · exact ⟨fun w => absurd w u, fun w => absurd w v⟩
        · have := (js_in j).1 u; exact ⟨fun w => absurd w u, fun w => absurd w this.1⟩
        · have := (js_in j).2.1 u; exact ⟨fun w => absurd w this.1, fun w => absurd w this.2.1⟩)
      exact absurd (this.mpr a) iz.2.1
  · refine ⟨⟨fun w => ?_, fun w => absurd w a⟩, fun z iz => ⟨fun w => ?_, fun w => ?_⟩⟩
    · have := nmb_0 (F := F) (hi := hi) (wi := wi) (kd := kd) (L := L) (a := y); omega
    · have : y = z := nmb_inj y1 iz (by omega)
      subst this; exact y2
    · rw [isl_uniq y1 iz (con_trans y2 (con_symm w))] at y3
      exact y3
end
section
variable {G : ct_G} {h : ct_H} {o c cD cP hi wi : Nat} {L kd : Int} {F A : Nat → Int}
/-- first point with a value -/
theorem m_leastL (mp : MP G o c cD cP) {l : Int} {p : Nat} (hp : p < 49) (hl : h.1 cD p = l) : ∀ (t i f : Nat), i + t = p → t < f → (∀ j, i ≤ j → j < p → h.1 cD j ≠ l) → l_X7_leastOf_2 G o l h f (i : Int) = some ((p : Nat) : Int)
  | 0, i, f + 1, h1, h2, h3 => by
    have : i = p := by omega
    subst this
    rw [l_X7_leastOf_2, mp.1, rdN (by rw [mp.2.1]; omega), bs, if_pos hl]
  | t + 1, i, f + 1, h1, h2, h3 => by
    rw [l_X7_leastOf_2, mp.1, rdN (by rw [mp.2.1]; omega), bs, if_neg (h3 i (by omega) (by omega)), wr_id (by omega) (by omega), show (i : Int) + 1 = ((i + 1 : Nat) : Int) by omega]
    exact m_leastL mp hp hl t (i + 1) f (by omega) (by omega) (fun j a b => h3 j (by omega) b)
theorem m_leastOf (mp : MP G o c cD cP) {l : Int} {p : Nat} (hp : p < 49) (hl : h.1 cD p = l) (hj : ∀ j, j < p → h.1 cD j ≠ l) : f_X7_leastOf G h o l = some ((p : Nat) : Int) := by
  unfold f_X7_leastOf
  exact m_leastL mp hp hl p 0 200 (by omega) (by omega) (fun j _ b => hj j b)
theorem m_szL (mp : MP G o c cD cP) (m : MD G h o c hi wi) {l : Int} : ∀ (t i f : Nat) (a : Int), i + t = hi * wi → t < f → 0 ≤ a → a + t < 1000 → l_X7_sizeOf_4 G o l h f (a, (i : Int)) = some (a + sm (fun p => if h.1 cD p = l then 1 else 0) i t)
  | 0, i, f + 1, a, h1, h2, h3, h4 => by
    rw [l_X7_sizeOf_4, m_points m, bs, if_pos (by dsimp only; omega)]
    simp [sm]
  | t + 1, i, f + 1, a, h1, h2, h3, h4 => by
    have h49 : hi * wi ≤ 49 := Nat.mul_le_mul m.2.2.2.2.2.1.2 m.2.2.2.2.2.2.2
    rw [l_X7_sizeOf_4, m_points m, bs, if_neg (by dsimp only; omega)]
    dsimp only
    rw [mp.1, rdN (by rw [mp.2.1]; omega), bs, jn_eq, wr_id (a := (i : Int) + 1) (by omega) (by omega), sm]
    have ih := fun a' x y => m_szL mp m (l := l) t (i + 1) f a' (by omega) (by omega) x y
    rw [show ((i + 1 : Nat) : Int) = (i : Int) + 1 by omega] at ih
    by_cases z : h.1 cD i = l
    · rw [if_pos z, if_pos z]
      dsimp only
      rw [wr_id (by omega) (by omega), ih _ (by omega) (by omega), Int.add_assoc]
    · rw [if_neg z, if_neg z]
      dsimp only
      rw [ih _ (by omega) (by omega), Int.zero_add]
theorem m_sizeOf (mp : MP G o c cD cP) (m : MD G h o c hi wi) {l : Int} : f_X7_sizeOf G h o l = some (sm (fun p => if h.1 cD p = l then 1 else 0) 0 (hi * wi)) := by
  have h49 : hi * wi ≤ 49 := Nat.mul_le_mul m.2.2.2.2.2.1.2 m.2.2.2.2.2.2.2
  unfold f_X7_sizeOf
  have := m_szL mp m (l := l) (hi * wi) 0 200 0 (by omega) (by omega) (by omega) (by omega)
  rw [Int.zero_add] at this
  exact this
def tq (D M : Nat → Int) (l : Int) : Nat → Nat → Int → Int
  | _, 0, a => a
  | i, m + 1, a => tq D M l (i + 1) m (if D i = l then max a (M i) else a)
theorem m_topL (mp : MP G o c cD cP) (m : MD G h o c hi wi) {l : Int} : ∀ (t i f : Nat) (a : Int), i + t = hi * wi → t < f → l_X7_topOf_4 G o l h f (a, (i : Int)) = some (tq (h.1 cD) (h.1 c) l i t a)
  | 0, i, f + 1, a, h1, h2 => by
    rw [l_X7_topOf_4, m_points m, bs, if_pos (by dsimp only; omega)]
    rfl
  | t + 1, i, f + 1, a, h1, h2 => by
    have h49 : hi * wi ≤ 49 := Nat.mul_le_mul m.2.2.2.2.2.1.2 m.2.2.2.2.2.2.2
    rw [l_X7_topOf_4, m_points m, bs, if_neg (by dsimp only; omega)]
    dsimp only
    rw [mp.1, rdN (by rw [mp.2.1]; omega), bs, jn_eq, wr_id (a := (i : Int) + 1) (by omega) (by omega), tq]
    have ih := fun a' => m_topL mp m (l := l) t (i + 1) f a' (by omega) (by omega)
    rw [show ((i + 1 : Nat) : Int) = (i : Int) + 1 by omega] at ih
    by_cases z : h.1 cD i = l
    · rw [if_pos z, if_pos z, m.1, rdN (by rw [m.2.1]; omega), bs, lt_eq, ct_max_eq]
      exact ih _
    · rw [if_neg z, if_neg z]
      exact ih _
theorem m_topOf (mp : MP G o c cD cP) (m : MD G h o c hi wi) {l : Int} : f_X7_topOf G h o l = some (tq (h.1 cD) (h.1 c) l 0 (hi * wi) 0) := by
  have h49 : hi * wi ≤ 49 := Nat.mul_le_mul m.2.2.2.2.2.1.2 m.2.2.2.2.2.2.2
  unfold f_X7_topOf
  exact m_topL mp m (hi * wi) 0 200 0 (by omega) (by omega)
end
/-- a maximum told by an upper bound that is reached -/
def isMax (P : Nat → Prop) (F : Nat → Int) (v : Int) : Prop := (∀ x, P x → F x ≤ v) ∧ 0 ≤ v ∧ (v = 0 ∨ ∃ x, P x ∧ F x = v)
theorem isMax_uniq {P : Nat → Prop} {F : Nat → Int} {v w : Int} (a : isMax P F v) (b : isMax P F w) : v = w := by
  have h1 : v ≤ w := by
    rcases a.2.2 with e | ⟨x, x1, x2⟩
    · have := b.2.1; omega
    · have := b.1 x x1; omega
  have h2 : w ≤ v := by
    rcases b.2.2 with e | ⟨x, x1, x2⟩
    · have := a.2.1; omega
    · have := a.1 x x1; omega
  omega
theorem tpN_max {A F : Nat → Int} {l : Int} : ∀ p, isMax (fun x => x < p ∧ A x = l) F (tpN A F l p)
  | 0 => ⟨fun x h => absurd h.1 (Nat.not_lt_zero _), Int.le_refl _, Or.inl rfl⟩
  | p + 1 => by
    have ih := tpN_max (A := A) (F := F) (l := l) p
    rw [tpN]
    by_cases z : A p = l
    · rw [if_pos z]
      refine ⟨fun x h => ?_, by have := ih.2.1; omega, ?_⟩
      · by_cases e : x = p
        · subst e; omega
        · have := ih.1 x ⟨by omega, h.2⟩; omega
      · rcases Int.le_total (F p) (tpN A F l p) with w | w
        · rw [Int.max_eq_left w]
          exact ih.2.2.imp id (fun ⟨x, x1, x2⟩ => ⟨x, ⟨by omega, x1.2⟩, x2⟩)
        · rw [Int.max_eq_right w]
          exact Or.inr ⟨p, ⟨by omega, z⟩, rfl⟩
    · rw [if_neg z]
      refine ⟨fun x h => ?_, ih.2.1, ih.2.2.imp id (fun ⟨x, x1, x2⟩ => ⟨x, ⟨by omega, x1.2⟩, x2⟩)⟩
      by_cases e : x = p
      · subst e; exact absurd h.2 z
      · exact ih.1 x ⟨by omega, h.2⟩
theorem tq_max {D M : Nat → Int} {l : Int} : ∀ (m i : Nat) (a : Int) (Q : Nat → Prop), isMax Q M a → isMax (fun x => Q x ∨ (i ≤ x ∧ x < i + m ∧ D x = l)) M (tq D M l i m a)
  | 0, i, a, Q, h => ⟨fun x w => w.elim (h.1 x) (fun v => by omega), h.2.1, h.2.2.imp id (fun ⟨x, x1, x2⟩ => ⟨x, Or.inl x1, x2⟩)⟩
  | m + 1, i, a, Q, h => by
    rw [tq]
    by_cases z : D i = l
    · rw [if_pos z]
      have st : isMax (fun x => Q x ∨ x = i) M (max a (M i)) := by
        refine ⟨fun x w => ?_, by have := h.2.1; omega, ?_⟩
        · rcases w with w | w
          · have := h.1 x w; omega
          · subst w; omega
        · rcases Int.le_total (M i) a with w | w
          · rw [Int.max_eq_left w]
            exact h.2.2.imp id (fun ⟨x, x1, x2⟩ => ⟨x, Or.inl x1, x2⟩)
          · rw [Int.max_eq_right w]
            exact Or.inr ⟨i, Or.inr rfl, rfl⟩
      have ih := tq_max (D := D) (M := M) (l := l) m (i + 1) _ _ st
      refine ⟨fun x w => ih.1 x ?_, ih.2.1, ih.2.2.imp id (fun ⟨x, x1, x2⟩ => ⟨x, ?_, x2⟩)⟩
      · rcases w with w | w
        · exact Or.inl (Or.inl w)
        · by_cases e : x = i
          · exact Or.inl (Or.inr e)
          · exact Or.inr ⟨by omega, by omega, w.2.2⟩
      · rcases x1 with (x1 | x1) | x1
        · exact Or.inl x1
        · exact Or.inr ⟨by omega, by omega, by rw [x1]; exact z⟩
        · exact Or.inr ⟨by omega, by omega, x1.2.2⟩
    · rw [if_neg z]
      have ih := tq_max (D := D) (M := M) (l := l) m (i + 1) a Q h
      refine ⟨fun x w => ih.1 x ?_, ih.2.1, ih.2.2.imp id (fun ⟨x, x1, x2⟩ => ⟨x, ?_, x2⟩)⟩
      · rcases w with w | w
        · exact Or.inl w
        · by_cases e : x = i
          · subst e; exact absurd w.2.2 z
          · exact Or.inr ⟨by omega, by omega, w.2.2⟩
      · rcases x1 with x1 | x1
        · exact Or.inl x1
        · exact Or.inr ⟨by omega, by omega, x1.2.2⟩
