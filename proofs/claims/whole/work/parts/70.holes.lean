/-! the inner places along a line are of one land -/
def crn (s q k : Nat) : Nat := if k = 0 then q else if k = 1 then q + 1 else if k = 2 then q + s + 1 else q + s
def inB4 (b0 b1 b2 b3 : Bool) (k : Nat) : Bool := if k = 0 then !b0 else if k = 1 then !b1 else if k = 2 then !b2 else !b3
def adB (b0 b1 b2 b3 j : Bool) (x y : Nat) : Bool := inB4 b0 b1 b2 b3 x && inB4 b0 b1 b2 b3 y && (decide ((x + y) % 2 = 1) || (decide (codeB b0 b1 b2 b3 = 5 ∨ codeB b0 b1 b2 b3 = 10) && j))
theorem inn_B : ∀ b0 b1 b2 b3 j : Bool, ∀ k, k < 4 → enB b0 b1 b2 b3 k = true → (k + 1) % 4 = outB b0 b1 b2 b3 j k ∨ adB b0 b1 b2 b3 j ((k + 1) % 4) (outB b0 b1 b2 b3 j k) = true ∨ ∃ z, z < 4 ∧ adB b0 b1 b2 b3 j ((k + 1) % 4) z = true ∧ adB b0 b1 b2 b3 j z (outB b0 b1 b2 b3 j k) = true := by decide +kernel
def inn (F : Nat → Int) (s : Nat) (L : Int) (e : Nat) : Nat := if F (e / 2) < L then oth s e else e / 2
section
variable {F : Nat → Int} {hi wi : Nat} {kd L : Int}
theorem sq_con (h1 : 2 ≤ hi ∧ hi ≤ 7) (h2 : 2 ≤ wi ∧ wi ≤ 7) (r : RM F hi wi) (hL : 0 ≤ L) {q : Nat} (qq : q / (wi + 2) ≤ hi ∧ q % (wi + 2) ≤ wi) {x y : Nat} (hx : x < 4) (hy : y < 4) (h : adB (decide (F q < L)) (decide (F (q + 1) < L)) (decide (F (q + (wi + 2) + 1) < L)) (decide (F (q + (wi + 2)) < L)) (decide (jd F (wi + 2) kd q L = 1)) x y = true) : con F hi wi kd L (crn (wi + 2) q x) (crn (wi + 2) q y) := by
  have hN := N81 h1 h2
  have sl := sq_lt h1 h2 qq.1 qq.2
  have inn := fun p (hp : p < 81) (w : ¬ F p < L) => r.inn hp (by omega : 0 ≤ F p)
  have p01 : ¬ F q < L → ¬ F (q + 1) < L → con F hi wi kd L q (q + 1) := fun u v => con_adj ⟨q, qq, Or.inl ⟨u, v, rfl, rfl⟩⟩
  have p03 : ¬ F q < L → ¬ F (q + (wi + 2)) < L → con F hi wi kd L q (q + (wi + 2)) := fun u v => con_adj ⟨q, qq, Or.inr (Or.inl ⟨u, v, rfl, rfl⟩)⟩
  have p12 : ¬ F (q + 1) < L → ¬ F (q + (wi + 2) + 1) < L → con F hi wi kd L (q + 1) (q + (wi + 2) + 1) := fun u v => by
    have i1 := inn (q + 1) (by omega) u
    have := con_adj (kd := kd) (F := F) (hi := hi) (wi := wi) (L := L) (a := q + 1) (b := q + 1 + (wi + 2)) ⟨q + 1, ⟨i1.1.2, i1.2.2⟩, Or.inr (Or.inl ⟨u, by rw [show q + 1 + (wi + 2) = q + (wi + 2) + 1 by omega]; exact v, rfl, rfl⟩)⟩
    rwa [show q + 1 + (wi + 2) = q + (wi + 2) + 1 by omega] at this
  have p32 : ¬ F (q + (wi + 2)) < L → ¬ F (q + (wi + 2) + 1) < L → con F hi wi kd L (q + (wi + 2)) (q + (wi + 2) + 1) := fun u v => by
    have i1 := inn (q + (wi + 2)) (by omega) u
    exact con_adj ⟨q + (wi + 2), ⟨i1.1.2, i1.2.2⟩, Or.inl ⟨u, v, rfl, rfl⟩⟩
  have dg : (cs F (wi + 2) q L = 5 ∨ cs F (wi + 2) q L = 10) → jd F (wi + 2) kd q L = 1 → (¬ F q < L → con F hi wi kd L q (q + (wi + 2) + 1)) ∧ (¬ F (q + 1) < L → con F hi wi kd L (q + 1) (q + (wi + 2))) := fun u v => by
    have j := js_of (kd := kd) u
    rw [v] at j
    refine ⟨fun w => con_adj ⟨q, qq, Or.inr (Or.inr ⟨j, Or.inl ⟨w, rfl, rfl⟩⟩)⟩, fun w => ?_⟩
    have f : F q < L := Classical.byContradiction fun z => w ((js_in j).1 z).2.1
    exact con_adj ⟨q, qq, Or.inr (Or.inr ⟨j, Or.inr ⟨f, rfl, rfl⟩⟩)⟩
  rw [cs_codeB] at dg
  unfold adB at h
  generalize hc : codeB (decide (F q < L)) (decide (F (q + 1) < L)) (decide (F (q + (wi + 2) + 1) < L)) (decide (F (q + (wi + 2)) < L)) = cc at h dg
  have xx : x = 0 ∨ x = 1 ∨ x = 2 ∨ x = 3 := by omega
  have yy : y = 0 ∨ y = 1 ∨ y = 2 ∨ y = 3 := by omega
  rcases xx with rfl | rfl | rfl | rfl <;> rcases yy with rfl | rfl | rfl | rfl <;> simp [inB4] at h <;> simp only [crn, Nat.one_ne_zero, Nat.reduceEqDiff, ↓reduceIte]
  · exact con_refl
  · exact p01 (by omega) (by omega)
  · exact (dg (by omega) h.2.2).1 (by omega)
  · exact p03 (by omega) (by omega)
  · exact con_symm (p01 (by omega) (by omega))
  · exact con_refl
  · exact p12 (by omega) (by omega)
  · exact (dg (by omega) h.2.2).2 (by omega)
  · exact con_symm ((dg (by omega) h.2.2).1 (by omega))
  · exact con_symm (p12 (by omega) (by omega))
  · exact con_refl
  · exact con_symm (p32 (by omega) (by omega))
  · exact con_symm (p03 (by omega) (by omega))
  · exact con_symm ((dg (by omega) h.2.2).2 (by omega))
  · exact p32 (by omega) (by omega)
  · exact con_refl
theorem inn_sid {s q k : Nat} (hk : k < 4) : (enB (decide (F q < L)) (decide (F (q + 1) < L)) (decide (F (q + s + 1) < L)) (decide (F (q + s) < L)) k = true → inn F s L (sid s q k) = crn s q ((k + 1) % 4)) ∧ (lvB (decide (F q < L)) (decide (F (q + 1) < L)) (decide (F (q + s + 1) < L)) (decide (F (q + s) < L)) k = true → inn F s L (sid s q k) = crn s q k) := by
  have kk : k = 0 ∨ k = 1 ∨ k = 2 ∨ k = 3 := by omega
  unfold inn oth
  rcases kk with rfl | rfl | rfl | rfl
  · have e1 : sid s q 0 / 2 = q ∧ sid s q 0 % 2 = 0 := by simp [sid]
    rw [e1.1, e1.2]
    refine ⟨fun w => ?_, fun w => ?_⟩
    · simp [enB] at w
      simp [crn, w.1]
    · simp [lvB] at w
      have : ¬ F q < L := by omega
      simp [crn, this]
  · have e1 : sid s q 1 / 2 = q + 1 ∧ sid s q 1 % 2 = 1 := by simp [sid]; omega
    rw [e1.1, e1.2]
    refine ⟨fun w => ?_, fun w => ?_⟩
    · simp [enB] at w
      simp [crn, w.1]; omega
    · simp [lvB] at w
      have : ¬ F (q + 1) < L := by omega
      simp [crn, this]
  · have e1 : sid s q 2 / 2 = q + s ∧ sid s q 2 % 2 = 0 := by simp [sid]
    rw [e1.1, e1.2]
    refine ⟨fun w => ?_, fun w => ?_⟩
    · simp [enB] at w
      have : ¬ F (q + s) < L := by omega
      simp [crn, this]
    · simp [lvB] at w
      simp [crn, w.1]
  · have e1 : sid s q 3 / 2 = q ∧ sid s q 3 % 2 = 1 := by simp [sid]; omega
    rw [e1.1, e1.2]
    refine ⟨fun w => ?_, fun w => ?_⟩
    · simp [enB] at w
      have : ¬ F q < L := by omega
      simp [crn, this]
    · simp [lvB] at w
      simp [crn, w.1]
theorem inn_nx (h1 : 2 ≤ hi ∧ hi ≤ 7) (h2 : 2 ≤ wi ∧ wi ≤ 7) (r : RM F hi wi) (hL : 0 ≤ L) {e : Nat} (c : CE F hi wi L e) : con F hi wi kd L (inn F (wi + 2) L e) (inn F (wi + 2) L (nx F (wi + 2) kd L e)) := by
  have en := enters h1 h2 c.1 c.2
  have s1 := sid_e (F := F) (L := L) h1 h2 c.1
  have ic := inner_cor (F := F) (L := L) h1 h2 c.1
  have e4 := esid_lt F L e
  have ok := outB_ok _ _ _ _ (decide (jd F (wi + 2) kd (ecor F (wi + 2) L e) L = 1)) _ e4 en
  have ib := inn_B _ _ _ _ (decide (jd F (wi + 2) kd (ecor F (wi + 2) L e) L = 1)) _ e4 en
  rw [nx_out]
  have a := (inn_sid (F := F) (L := L) (s := wi + 2) (q := ecor F (wi + 2) L e) e4).1 en
  rw [s1] at a
  rw [a, (inn_sid (F := F) (L := L) (s := wi + 2) (q := ecor F (wi + 2) L e) ok.1).2 ok.2]
  have m4 : (esid F L e + 1) % 4 < 4 := Nat.mod_lt _ (by omega)
  generalize outB (decide (F (ecor F (wi + 2) L e) < L)) (decide (F (ecor F (wi + 2) L e + 1) < L)) (decide (F (ecor F (wi + 2) L e + (wi + 2) + 1) < L)) (decide (F (ecor F (wi + 2) L e + (wi + 2)) < L)) (decide (jd F (wi + 2) kd (ecor F (wi + 2) L e) L = 1)) (esid F L e) = l at ok ib
  rcases ib with w | w | ⟨z, z4, z1, z2⟩
  · rw [w]; exact con_refl
  · exact sq_con h1 h2 r hL ⟨ic.1, ic.2.1⟩ m4 ok.1 w
  · exact con_trans (sq_con h1 h2 r hL ⟨ic.1, ic.2.1⟩ m4 z4 z1) (sq_con h1 h2 r hL ⟨ic.1, ic.2.1⟩ z4 ok.1 z2)
/-- along a line: the spec's edges -/
theorem line_con (h1 : 2 ≤ hi ∧ hi ≤ 7) (h2 : 2 ≤ wi ∧ wi ≤ 7) (r : RM F hi wi) (hL : 0 ≤ L) {l : Nat} (hl : l < (spL F hi wi kd L).2.2.2.1) : ∀ i, i < cN (spL F hi wi kd L) l → CE F hi wi L (eN (spL F hi wi kd L) l i) ∧ con F hi wi kd L (inn F (wi + 2) L (eN (spL F hi wi kd L) l 0)) (inn F (wi + 2) L (eN (spL F hi wi kd L) l i)) := by
  have li := (spL_LI (kd := kd) h1 h2 r hL).1
  generalize spL F hi wi kd L = S at *
  obtain ⟨b, c, b1, b2, b3, b4, b5⟩ := li.2.2.2.1 l hl
  have eb : bN S l = b := by unfold bN; rw [b1, Int.toNat_natCast]
  have ec : cN S l = c := by unfold cN; rw [b1, b2, Int.toNat_natCast, Int.toNat_natCast]; omega
  rw [ec]
  have ce : ∀ i, i < c → CE F hi wi L (eN S l i) ∧ S.2.1 (b + i) = (eN S l i : Nat) := by
    intro i hi
    obtain ⟨e, e1, e2, e3⟩ := b5.1 i hi
    have ee : eN S l i = e := by unfold eN; rw [eb, e1, Int.toNat_natCast]
    rw [ee]
    exact ⟨e2, e1⟩
  intro i
  induction i with
  | zero => intro hi; exact ⟨(ce 0 hi).1, con_refl⟩
  | succ i ih =>
    intro hi
    have p := ih (by omega)
    have n := b5.2.1 i hi
    rw [(ce i (by omega)).2, Int.toNat_natCast, (ce (i + 1) hi).2] at n
    have n2 : eN S l (i + 1) = nx F (wi + 2) kd L (eN S l i) := Int.ofNat.inj n
    refine ⟨(ce (i + 1) hi).1, ?_⟩
    rw [n2]
    exact con_trans p.2 (inn_nx h1 h2 r hL p.1)
end
