/-! the reference: which numbers are edges -/
section
variable {G : ct_G} {h : ct_H} {o c hi wi : Nat} {L : Int}
theorem m_places (m : MD G h o c hi wi) : f_X7_places G h o = some (((hi + 2) * (wi + 2) : Nat) : Int) := by
  obtain ⟨g1, g2, g3, g4, g5, g8, g9⟩ := m
  have hN : (hi + 2) * (wi + 2) ≤ 81 := mul_b (by omega) (by omega)
  unfold f_X7_places
  rw [g4, g5, wr_id (a := (wi : Int) + 2) (by omega) (by omega), wr_id (a := (hi : Int) + 2) (by omega) (by omega), show ((wi : Int) + 2) * ((hi : Int) + 2) = (((hi + 2) * (wi + 2) : Nat) : Int) by rw [Int.natCast_mul, Int.mul_comm]; rfl, wr_id (by omega) (by omega)]
theorem m_isEdge (m : MD G h o c hi wi) {e : Nat} (he : e < 1000) : f_X7_isEdge G h o (e : Int) = some (if e / 2 < (hi + 2) * (wi + 2) ∧ ((e % 2 = 0 ∧ e / 2 % (wi + 2) ≤ wi) ∨ (¬ e % 2 = 0 ∧ e / 2 / (wi + 2) ≤ hi)) then 1 else 0) := by
  have m' := m
  obtain ⟨g1, g2, g3, g4, g5, g8, g9⟩ := m
  unfold f_X7_isEdge
  rw [if_neg (by omega), dv_eq (by omega) (by omega), bs, m_places m', bs, show (e : Int) / 2 = ((e / 2 : Nat) : Int) by omega]
  have hp : e / 2 < 500 := by omega
  generalize e / 2 = p at hp ⊢
  generalize (hi + 2) * (wi + 2) = N
  by_cases z1 : p < N
  · rw [if_pos (by omega), md_eq (by omega) (by omega), bs]
    by_cases z2 : e % 2 = 0
    · rw [if_pos (by omega), bs, m_column m' p (by omega), bs, g5]
      by_cases z3 : p % (wi + 2) ≤ wi
      · have hy : ¬ (wi : Int) ≤ ((p % (wi + 2) : Nat) : Int) - 1 := by
          generalize p % (wi + 2) = y at z3 ⊢
          omega
        rw [if_neg hy, if_pos ⟨z1, Or.inl ⟨z2, z3⟩⟩]
      · have hy : (wi : Int) ≤ ((p % (wi + 2) : Nat) : Int) - 1 := by
          generalize p % (wi + 2) = y at z3 ⊢
          omega
        rw [if_pos hy, if_neg (fun z => z.2.elim (fun w => z3 w.2) (fun w => w.1 z2))]
    · rw [if_neg (by omega), bs, m_row m' p (by omega), bs, g4]
      by_cases z3 : p / (wi + 2) ≤ hi
      · have hy : ¬ (hi : Int) ≤ ((p / (wi + 2) : Nat) : Int) - 1 := by
          generalize p / (wi + 2) = y at z3 ⊢
          omega
        rw [if_neg hy, if_pos ⟨z1, Or.inr ⟨z2, z3⟩⟩]
      · have hy : (hi : Int) ≤ ((p / (wi + 2) : Nat) : Int) - 1 := by
          generalize p / (wi + 2) = y at z3 ⊢
          omega
        rw [if_pos hy, if_neg (fun z => z.2.elim (fun w => z2 w.1) (fun w => z3 w.2))]
  · rw [if_neg (by omega), if_neg (fun z => z1 z.1)]
theorem m_otherOf (m : MD G h o c hi wi) {e : Nat} (he : e < 1000) : f_X7_otherOf G h o (e : Int) = some ((oth (wi + 2) e : Nat) : Int) := by
  obtain ⟨g1, g2, g3, g4, g5, g8, g9⟩ := m
  unfold f_X7_otherOf oth
  rw [dv_eq (by omega) (by omega), bs, md_eq (by omega) (by omega), bs, g5, wr_id (a := (wi : Int) + 2) (by omega) (by omega)]
  by_cases z : e % 2 = 0
  · rw [if_pos (by omega), if_pos z, wr_id (by omega) (by omega)]; congr 1
  · rw [if_neg (by omega), if_neg z, wr_id (by omega) (by omega)]; congr 1
theorem m_signOf (m : MD G h o c hi wi) {F : Nat → Int} (r : RH F (h.1 c) hi wi) {e : Nat} (he : e / 2 < (hi + 2) * (wi + 2)) : f_X7_signOf G h o L (e : Int) = some (if e % 2 = 0 then (if F (e / 2) < L then 100 else 117) else (if F (e / 2) < L then 108 else 114)) := by
  unfold f_X7_signOf
  rw [m_isBack m r he, bs, md_eq (by omega) (by omega), bs]
  by_cases z : e % 2 = 0
  · rw [if_pos z, if_pos z, if_pos (by omega)]
    by_cases w : F (e / 2) < L
    · rw [if_pos w, if_pos w, if_pos rfl]
    · rw [if_neg w, if_neg w, if_neg (by omega)]
  · rw [if_neg z, if_neg z, if_neg (by omega)]
    by_cases w : F (e / 2) < L
    · rw [if_pos w, if_pos w, if_neg (by omega)]
    · rw [if_neg w, if_neg w, if_pos rfl]
end
