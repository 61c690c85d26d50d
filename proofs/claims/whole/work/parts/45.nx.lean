/-! nx on crossed edges: it stays there, it is one to one, no way back within two steps -/
def RM (F : Nat → Int) (hi wi : Nat) : Prop := hB F ∧ ∀ q, q < 81 → ¬ ((1 ≤ q / (wi + 2) ∧ q / (wi + 2) ≤ hi) ∧ 1 ≤ q % (wi + 2) ∧ q % (wi + 2) ≤ wi) → F q < 0
def edg (hi wi e : Nat) : Prop := e / 2 < (hi + 2) * (wi + 2) ∧ ((e % 2 = 0 ∧ e / 2 % (wi + 2) ≤ wi) ∨ (¬ e % 2 = 0 ∧ e / 2 / (wi + 2) ≤ hi))
def CE (F : Nat → Int) (hi wi : Nat) (L : Int) (e : Nat) : Prop := inner hi wi e ∧ XC F (wi + 2) L e = 1
theorem RH.RM {F M : Nat → Int} {hi wi : Nat} (h2 : 2 ≤ wi ∧ wi ≤ 7) (r : RH F M hi wi) : RM F hi wi := by
  refine ⟨r.hB, fun q hq hn => ?_⟩
  have := r.2 q hq (fun p hp e => hn ?_)
  · omega
  · have := plc_dm h2 (p := p)
    rw [← e] at this
    rw [this.1, this.2]
    have a1 : p / wi < hi := Nat.div_lt_of_lt_mul (by rw [Nat.mul_comm]; exact hp)
    have a2 : p % wi < wi := Nat.mod_lt _ (by omega)
    exact ⟨⟨Nat.le_add_left _ _, a1⟩, Nat.le_add_left _ _, a2⟩
theorem sq_lt {hi wi q : Nat} (h1 : 2 ≤ hi ∧ hi ≤ 7) (h2 : 2 ≤ wi ∧ wi ≤ 7) (a : q / (wi + 2) ≤ hi) (b : q % (wi + 2) ≤ wi) : q + wi + 3 < (hi + 2) * (wi + 2) := by
  rcases w_cases h2 with rfl | rfl | rfl | rfl | rfl | rfl <;> rcases w_cases h1 with rfl | rfl | rfl | rfl | rfl | rfl <;> omega
theorem N81 {hi wi : Nat} (h1 : 2 ≤ hi ∧ hi ≤ 7) (h2 : 2 ≤ wi ∧ wi ≤ 7) : (hi + 2) * (wi + 2) ≤ 81 := mul_b (by omega) (by omega)
theorem inner_lt {hi wi e : Nat} (h1 : 2 ≤ hi ∧ hi ≤ 7) (h2 : 2 ≤ wi ∧ wi ≤ 7) (n : inner hi wi e) : e / 2 + wi + 3 < (hi + 2) * (wi + 2) ∧ e < 162 := by
  have hN := N81 h1 h2
  have := sq_lt (q := e / 2) h1 h2 (by by_cases z : e % 2 = 0; exact (n.1 z).1.2; exact (n.2 z).1) (by by_cases z : e % 2 = 0; exact (n.1 z).2; exact (n.2 z).2.2)
  omega
theorem inner_edg {hi wi e : Nat} (h1 : 2 ≤ hi ∧ hi ≤ 7) (h2 : 2 ≤ wi ∧ wi ≤ 7) (n : inner hi wi e) : edg hi wi e := by
  refine ⟨by have := (inner_lt h1 h2 n).1; omega, ?_⟩
  by_cases z : e % 2 = 0
  · exact Or.inl ⟨z, (n.1 z).2⟩
  · exact Or.inr ⟨z, (n.2 z).1⟩
theorem dm_1 {wi p : Nat} (h2 : 2 ≤ wi ∧ wi ≤ 7) (b : p % (wi + 2) ≤ wi) : (p + 1) / (wi + 2) = p / (wi + 2) ∧ (p + 1) % (wi + 2) = p % (wi + 2) + 1 := by
  rcases w_cases h2 with rfl | rfl | rfl | rfl | rfl | rfl <;> omega
theorem dm_s {wi p : Nat} (h2 : 2 ≤ wi ∧ wi ≤ 7) : (p + (wi + 2)) / (wi + 2) = p / (wi + 2) + 1 ∧ (p + (wi + 2)) % (wi + 2) = p % (wi + 2) := by
  rcases w_cases h2 with rfl | rfl | rfl | rfl | rfl | rfl <;> omega
theorem dm_lt {hi wi p : Nat} (h1 : 2 ≤ hi ∧ hi ≤ 7) (h2 : 2 ≤ wi ∧ wi ≤ 7) : (p / (wi + 2) ≤ hi + 1 ↔ p < (hi + 2) * (wi + 2)) ∧ (p / (wi + 2) ≤ hi ↔ p + (wi + 2) < (hi + 2) * (wi + 2)) := by
  rcases w_cases h2 with rfl | rfl | rfl | rfl | rfl | rfl <;> rcases w_cases h1 with rfl | rfl | rfl | rfl | rfl | rfl <;> omega
theorem XC0 {F : Nat → Int} {s : Nat} {L : Int} {e : Nat} (a : F (e / 2) < L) (b : F (oth s e) < L) : XC F s L e = 0 := by
  unfold XC; rw [if_pos ⟨fun _ => b, fun _ => a⟩]
theorem CE_of {F : Nat → Int} {hi wi e : Nat} {L : Int} (h1 : 2 ≤ hi ∧ hi ≤ 7) (h2 : 2 ≤ wi ∧ wi ≤ 7) (r : RM F hi wi) (hL : 0 ≤ L) (z : edg hi wi e) (x : XC F (wi + 2) L e = 1) : CE F hi wi L e := by
  have hN := N81 h1 h2
  obtain ⟨z1, z2⟩ := z
  refine ⟨⟨fun w => ?_, fun w => ?_⟩, x⟩
  · have z3 : e / 2 % (wi + 2) ≤ wi := z2.elim (fun q => q.2) (fun q => absurd w q.1)
    refine ⟨Classical.byContradiction fun y => ?_, z3⟩
    have d := dm_1 h2 z3
    have d2 := (dm_lt (p := e / 2) h1 h2).1
    have o1 : oth (wi + 2) e = e / 2 + 1 := by unfold oth; rw [if_pos w]
    have f1 := r.2 (e / 2) (by omega) (fun y2 => y y2.1)
    by_cases hq : e / 2 + 1 < 81
    · have f2 := r.2 (e / 2 + 1) hq (by rw [d.1]; exact fun y2 => y y2.1)
      rw [XC0 (by omega) (by rw [o1]; omega)] at x
      omega
    · have d3 := (dm_lt (p := e / 2 + 1) h1 h2).1
      rw [d.1] at d3
      omega
  · have z3 : e / 2 / (wi + 2) ≤ hi := z2.elim (fun q => absurd q.1 w) (fun q => q.2)
    refine ⟨z3, Classical.byContradiction fun y => ?_⟩
    have d := dm_s (p := e / 2) h2
    have d2 := (dm_lt (p := e / 2) h1 h2).2
    have o1 : oth (wi + 2) e = e / 2 + (wi + 2) := by unfold oth; rw [if_neg w]
    have f1 := r.2 (e / 2) (by omega) (fun y2 => y y2.2)
    have f2 := r.2 (e / 2 + (wi + 2)) (by omega) (by rw [d.2]; exact fun y2 => y y2.2)
    rw [XC0 (by omega) (by rw [o1]; omega)] at x
    omega
theorem XE_CE {F : Nat → Int} {hi wi e : Nat} {L : Int} (h1 : 2 ≤ hi ∧ hi ≤ 7) (h2 : 2 ≤ wi ∧ wi ≤ 7) (r : RM F hi wi) (hL : 0 ≤ L) : XE F hi wi L e = 1 ↔ CE F hi wi L e := by
  constructor
  · intro x
    unfold XE at x
    by_cases z : edg hi wi e
    · unfold edg at z
      rw [if_pos z] at x
      exact CE_of h1 h2 r hL z x
    · unfold edg at z
      rw [if_neg z] at x
      omega
  · intro x
    have z := inner_edg h1 h2 x.1
    unfold edg at z
    unfold XE
    rw [if_pos z]
    exact x.2
theorem sid_edg {hi wi q k : Nat} (h1 : 2 ≤ hi ∧ hi ≤ 7) (h2 : 2 ≤ wi ∧ wi ≤ 7) (a : q / (wi + 2) ≤ hi) (b : q % (wi + 2) ≤ wi) (hk : k < 4) : edg hi wi (sid (wi + 2) q k) := by
  have hq := sq_lt h1 h2 a b
  have d1 := dm_1 h2 b
  have d2 := dm_s (p := q) h2
  have hk4 : k = 0 ∨ k = 1 ∨ k = 2 ∨ k = 3 := by omega
  unfold edg
  rcases hk4 with rfl | rfl | rfl | rfl
  · have e1 : sid (wi + 2) q 0 / 2 = q ∧ sid (wi + 2) q 0 % 2 = 0 := by simp [sid]
    rw [e1.1]
    exact ⟨by omega, Or.inl ⟨e1.2, b⟩⟩
  · have e1 : sid (wi + 2) q 1 / 2 = q + 1 ∧ sid (wi + 2) q 1 % 2 = 1 := by simp [sid]; omega
    rw [e1.1]
    exact ⟨by omega, Or.inr ⟨by omega, by rw [d1.1]; exact a⟩⟩
  · have e1 : sid (wi + 2) q 2 / 2 = q + (wi + 2) ∧ sid (wi + 2) q 2 % 2 = 0 := by simp [sid]
    rw [e1.1]
    exact ⟨by omega, Or.inl ⟨e1.2, by rw [d2.2]; exact b⟩⟩
  · have e1 : sid (wi + 2) q 3 / 2 = q ∧ sid (wi + 2) q 3 % 2 = 1 := by simp [sid]; omega
    rw [e1.1]
    exact ⟨by omega, Or.inr ⟨by omega, a⟩⟩
def outB (b0 b1 b2 b3 j : Bool) (k : Nat) : Nat := if codeB b0 b1 b2 b3 = 5 ∨ codeB b0 b1 b2 b3 = 10 then (if decide (codeB b0 b1 b2 b3 = 5) = j then xor1 k else 3 - k) else lea (codeB b0 b1 b2 b3)
def lvB (b0 b1 b2 b3 : Bool) (k : Nat) : Bool := if k = 0 then !b0 && b1 else if k = 1 then !b1 && b2 else if k = 2 then b3 && !b2 else b0 && !b3
theorem outB_ok : ∀ b0 b1 b2 b3 j : Bool, ∀ k, k < 4 → enB b0 b1 b2 b3 k = true → outB b0 b1 b2 b3 j k < 4 ∧ lvB b0 b1 b2 b3 (outB b0 b1 b2 b3 j k) = true := by decide +kernel
theorem outB_inj : ∀ b0 b1 b2 b3 j : Bool, ∀ k, k < 4 → ∀ l, l < 4 → enB b0 b1 b2 b3 k = true → enB b0 b1 b2 b3 l = true → outB b0 b1 b2 b3 j k = outB b0 b1 b2 b3 j l → k = l := by decide +kernel
theorem lvB_x : ∀ b0 b1 b2 b3 : Bool, ∀ k, k < 4 → lvB b0 b1 b2 b3 k = true → xB b0 b1 b2 b3 k = true ∧ enB b0 b1 b2 b3 k = false := by decide +kernel
theorem nx_out (F : Nat → Int) (s : Nat) (kd L : Int) (e : Nat) : nx F s kd L e = sid s (ecor F s L e) (outB (decide (F (ecor F s L e) < L)) (decide (F (ecor F s L e + 1) < L)) (decide (F (ecor F s L e + s + 1) < L)) (decide (F (ecor F s L e + s) < L)) (decide (jd F s kd (ecor F s L e) L = 1)) (esid F L e)) := by
  unfold nx outB
  rw [cs_codeB]
  generalize ecor F s L e = q
  have hj := jd01 F s kd q L
  generalize jd F s kd q L = j at hj ⊢
  generalize codeB (decide (F q < L)) (decide (F (q + 1) < L)) (decide (F (q + s + 1) < L)) (decide (F (q + s) < L)) = c
  by_cases z : c = 5 ∨ c = 10
  · rw [if_pos z, if_pos (by omega)]
    congr 1
    by_cases y : c = 5
    · subst y
      rcases hj with rfl | rfl <;> simp
    · have y2 : ¬ ((c : Nat) : Int) = 5 := by omega
      rw [if_neg y2]
      rcases hj with rfl | rfl <;> simp [y]
  · rw [if_neg z, if_neg (by omega), Int.toNat_natCast]
def fcor (F : Nat → Int) (s : Nat) (L : Int) (e : Nat) : Nat := if e % 2 = 0 then (if F (e / 2) < L then e / 2 - s else e / 2) else (if F (e / 2) < L then e / 2 else e / 2 - 1)
theorem lv_fcor {F : Nat → Int} {s q l : Nat} {L : Int} (hl : l < 4) (h : lvB (decide (F q < L)) (decide (F (q + 1) < L)) (decide (F (q + s + 1) < L)) (decide (F (q + s) < L)) l = true) : fcor F s L (sid s q l) = q ∧ ecor F s L (sid s q l) = (if l = 0 then q - s else if l = 1 then q + 1 else if l = 2 then q + s else q - 1) := by
  have hk4 : l = 0 ∨ l = 1 ∨ l = 2 ∨ l = 3 := by omega
  unfold fcor ecor
  rcases hk4 with rfl | rfl | rfl | rfl
  · have e1 : sid s q 0 / 2 = q ∧ sid s q 0 % 2 = 0 := by simp [sid]
    rw [e1.1, e1.2]
    simp [lvB] at h
    have hh : ¬ F q < L := by omega
    simp [hh]
  · have e1 : sid s q 1 / 2 = q + 1 ∧ sid s q 1 % 2 = 1 := by simp [sid]; omega
    rw [e1.1, e1.2]
    simp [lvB] at h
    have hh : ¬ F (q + 1) < L := by omega
    simp [hh]
  · have e1 : sid s q 2 / 2 = q + s ∧ sid s q 2 % 2 = 0 := by simp [sid]
    rw [e1.1, e1.2]
    simp [lvB] at h
    simp [h.1]
  · have e1 : sid s q 3 / 2 = q ∧ sid s q 3 % 2 = 1 := by simp [sid]; omega
    rw [e1.1, e1.2]
    simp [lvB] at h
    simp [h.1]
section
variable {F : Nat → Int} {hi wi e : Nat} {L kd : Int}
theorem nx_sq (h1 : 2 ≤ hi ∧ hi ≤ 7) (h2 : 2 ≤ wi ∧ wi ≤ 7) (c : CE F hi wi L e) : ∃ l, l < 4 ∧ nx F (wi + 2) kd L e = sid (wi + 2) (ecor F (wi + 2) L e) l ∧ lvB (decide (F (ecor F (wi + 2) L e) < L)) (decide (F (ecor F (wi + 2) L e + 1) < L)) (decide (F (ecor F (wi + 2) L e + (wi + 2) + 1) < L)) (decide (F (ecor F (wi + 2) L e + (wi + 2)) < L)) l = true := by
  have en := enters h1 h2 c.1 c.2
  have ok := outB_ok _ _ _ _ (decide (jd F (wi + 2) kd (ecor F (wi + 2) L e) L = 1)) _ (esid_lt F L e) en
  exact ⟨_, ok.1, nx_out _ _ _ _ _, ok.2⟩
theorem CE_nx (h1 : 2 ≤ hi ∧ hi ≤ 7) (h2 : 2 ≤ wi ∧ wi ≤ 7) (r : RM F hi wi) (hL : 0 ≤ L) (c : CE F hi wi L e) : CE F hi wi L (nx F (wi + 2) kd L e) := by
  obtain ⟨l, l4, e1, lv⟩ := nx_sq (kd := kd) h1 h2 c
  have hc := inner_cor (F := F) (L := L) h1 h2 c.1
  rw [e1]
  refine CE_of h1 h2 r hL (sid_edg h1 h2 hc.1 hc.2.1 l4) ?_
  rw [XC_sid _ _ _ _ l4, if_pos (lvB_x _ _ _ _ _ l4 lv).1]
theorem nx_fcor (h1 : 2 ≤ hi ∧ hi ≤ 7) (h2 : 2 ≤ wi ∧ wi ≤ 7) (c : CE F hi wi L e) : fcor F (wi + 2) L (nx F (wi + 2) kd L e) = ecor F (wi + 2) L e := by
  obtain ⟨l, l4, e1, lv⟩ := nx_sq (kd := kd) h1 h2 c
  rw [e1]
  exact (lv_fcor l4 lv).1
theorem nx_inj {e2 : Nat} (h1 : 2 ≤ hi ∧ hi ≤ 7) (h2 : 2 ≤ wi ∧ wi ≤ 7) (c : CE F hi wi L e) (c2 : CE F hi wi L e2) (q : nx F (wi + 2) kd L e = nx F (wi + 2) kd L e2) : e = e2 := by
  have q1 := nx_fcor (kd := kd) h1 h2 c
  have q2 := nx_fcor (kd := kd) h1 h2 c2
  rw [q, q2] at q1
  have en := enters h1 h2 c.1 c.2
  have en2 := enters h1 h2 c2.1 c2.2
  have s1 := sid_e (F := F) (L := L) h1 h2 c.1
  have s2 := sid_e (F := F) (L := L) h1 h2 c2.1
  rw [nx_out, nx_out, q1] at q
  rw [q1] at en2 s2
  have ok := outB_ok _ _ _ _ (decide (jd F (wi + 2) kd (ecor F (wi + 2) L e) L = 1)) _ (esid_lt F L e) en
  have ok2 := outB_ok _ _ _ _ (decide (jd F (wi + 2) kd (ecor F (wi + 2) L e) L = 1)) _ (esid_lt F L e2) en2
  have := outB_inj _ _ _ _ _ _ (esid_lt F L e) _ (esid_lt F L e2) en en2 (sid_inj (by omega) ok.1 ok2.1 q)
  rw [← s1, ← s2, this]
theorem nx_ne (h1 : 2 ≤ hi ∧ hi ≤ 7) (h2 : 2 ≤ wi ∧ wi ≤ 7) (c : CE F hi wi L e) : nx F (wi + 2) kd L e ≠ e := by
  obtain ⟨l, l4, e1, lv⟩ := nx_sq (kd := kd) h1 h2 c
  have en := enters h1 h2 c.1 c.2
  have s1 := sid_e (F := F) (L := L) h1 h2 c.1
  intro z
  rw [z] at e1
  have := sid_inj (by omega) (esid_lt F L e) l4 (s1.trans e1)
  rw [this] at en
  rw [(lvB_x _ _ _ _ _ l4 lv).2] at en
  exact absurd en (by decide)
theorem sid_c {s q l : Nat} (hl : l < 4) : sid s q l = 2 * q ∨ sid s q l = 2 * q + 3 ∨ sid s q l = 2 * q + 2 * s ∨ sid s q l = 2 * q + 1 := by
  have hk4 : l = 0 ∨ l = 1 ∨ l = 2 ∨ l = 3 := by omega
  rcases hk4 with rfl | rfl | rfl | rfl <;> simp [sid] <;> omega
theorem nx_ne2 (h1 : 2 ≤ hi ∧ hi ≤ 7) (h2 : 2 ≤ wi ∧ wi ≤ 7) (r : RM F hi wi) (hL : 0 ≤ L) (c : CE F hi wi L e) : nx F (wi + 2) kd L (nx F (wi + 2) kd L e) ≠ e := by
  obtain ⟨l, l4, e1, lv⟩ := nx_sq (kd := kd) h1 h2 c
  have c2 := CE_nx (kd := kd) h1 h2 r hL c
  obtain ⟨l', l4', e1', lv'⟩ := nx_sq (kd := kd) h1 h2 c2
  have hne := nx_ne (kd := kd) h1 h2 c
  have s1 := sid_e (F := F) (L := L) h1 h2 c.1
  have hcc := inner_cor (F := F) (L := L) h1 h2 c2.1
  have lf := (lv_fcor l4 lv).2
  rw [← e1] at lf
  intro z
  rw [z] at e1'
  have a := sid_c (s := wi + 2) (q := ecor F (wi + 2) L e) (esid_lt F L e)
  rw [s1] at a
  have b := sid_c (s := wi + 2) (q := ecor F (wi + 2) L (nx F (wi + 2) kd L e)) l4'
  rw [← e1'] at b
  rw [lf] at b
  generalize ecor F (wi + 2) L e = q at *
  have hk4 : l = 0 ∨ l = 1 ∨ l = 2 ∨ l = 3 := by omega
  rcases hk4 with rfl | rfl | rfl | rfl
  · simp [sid] at e1 b
    have := hcc.2.2.1 (by omega)
    omega
  · simp [sid] at e1 b
    omega
  · simp [sid] at e1 b
    omega
  · simp [sid] at e1 b
    have := hcc.2.2.2 (by omega)
    omega
end
