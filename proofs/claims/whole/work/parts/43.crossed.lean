/-! the reference: which edges are crossed -/
def XE (F : Nat → Int) (hi wi : Nat) (L : Int) (e : Nat) : Int := if e / 2 < (hi + 2) * (wi + 2) ∧ ((e % 2 = 0 ∧ e / 2 % (wi + 2) ≤ wi) ∨ (¬ e % 2 = 0 ∧ e / 2 / (wi + 2) ≤ hi)) then XC F (wi + 2) L e else 0
theorem oth_lt {hi wi e : Nat} (h1 : 2 ≤ hi ∧ hi ≤ 7) (h2 : 2 ≤ wi ∧ wi ≤ 7) (z : e / 2 < (hi + 2) * (wi + 2) ∧ ((e % 2 = 0 ∧ e / 2 % (wi + 2) ≤ wi) ∨ (¬ e % 2 = 0 ∧ e / 2 / (wi + 2) ≤ hi))) : oth (wi + 2) e < (hi + 2) * (wi + 2) := by
  unfold oth
  obtain ⟨z1, z2⟩ := z
  by_cases w : e % 2 = 0
  · rw [if_pos w]
    have z3 : e / 2 % (wi + 2) ≤ wi := z2.elim (fun q => q.2) (fun q => absurd w q.1)
    generalize e / 2 = p at z1 z3 ⊢
    rcases w_cases h1 with rfl | rfl | rfl | rfl | rfl | rfl <;> rcases w_cases h2 with rfl | rfl | rfl | rfl | rfl | rfl <;> omega
  · rw [if_neg w]
    have z3 : e / 2 / (wi + 2) ≤ hi := z2.elim (fun q => absurd q.1 w) (fun q => q.2)
    generalize e / 2 = p at z1 z3 ⊢
    rcases w_cases h1 with rfl | rfl | rfl | rfl | rfl | rfl <;> rcases w_cases h2 with rfl | rfl | rfl | rfl | rfl | rfl <;> omega
theorem XC01 (F : Nat → Int) (s : Nat) (L : Int) (e : Nat) : XC F s L e = 0 ∨ XC F s L e = 1 := by
  unfold XC; split <;> simp
theorem XE01 (F : Nat → Int) (hi wi : Nat) (L : Int) (e : Nat) : XE F hi wi L e = 0 ∨ XE F hi wi L e = 1 := by
  unfold XE; split
  · exact XC01 _ _ _ _
  · exact Or.inl rfl
section
variable {G : ct_G} {h : ct_H} {o c hi wi : Nat} {L : Int}
theorem hs_MD2 (m : MD G h o c hi wi) {a : Nat} (n1 : a ≠ o) (X : Nat → Int) : MD G (hs h a X) o c hi wi := by
  obtain ⟨g1, g2, g3, g4, g5, g8, g9⟩ := m
  exact ⟨g1, g2, g3, by rw [hs_other _ _ _ (fun z => n1 z.symm)]; exact g4, by rw [hs_other _ _ _ (fun z => n1 z.symm)]; exact g5, g8, g9⟩
theorem m_cross1 (m : MD G h o c hi wi) {F : Nat → Int} (r : RH F (h.1 c) hi wi) {e : Nat} (he : e < 162) (K : Int → Option ct_H) : ((f_X7_isEdge G h o (e : Int)).bind fun v6 => ct_jn (β := Int) (fun k8 => ct_jn (β := Unit) (fun k13 => if v6 = 0 then (k13 ()) else (ct_dv (e : Int) 2).bind fun v15 => (f_X7_heightAt G h o v15).bind fun v16 => ct_jn (β := Int) (fun k18 => if v16 < L then (k18 0) else k18 1) (fun b17 => (f_X7_otherOf G h o (e : Int)).bind fun v20 => (f_X7_heightAt G h o v20).bind fun v21 => ct_jn (β := Int) (fun k23 => if v21 < L then (k23 0) else k23 1) (fun b22 => if b17 = b22 then (k13 ()) else k8 1))) (fun b12 => k8 0)) K) = K (XE F hi wi L e) := by
  have g8 := m.2.2.2.2.2.1
  have g9 := m.2.2.2.2.2.2
  rw [m_isEdge m (by omega), bs, jn_eq, jn_eq]
  unfold XE
  by_cases z : e / 2 < (hi + 2) * (wi + 2) ∧ ((e % 2 = 0 ∧ e / 2 % (wi + 2) ≤ wi) ∨ (¬ e % 2 = 0 ∧ e / 2 / (wi + 2) ≤ hi))
  · rw [if_pos z, if_pos z, if_neg (by omega), dv_eq (by omega) (by omega), bs, show (e : Int) / 2 = ((e / 2 : Nat) : Int) by omega, m_heightAt m r z.1, bs, jn_eq, m_otherOf m (by omega)]
    have ho := m_heightAt m r (oth_lt g8 g9 z)
    unfold XC
    by_cases w1 : F (e / 2) < L <;> by_cases w2 : F (oth (wi + 2) e) < L
    · rw [if_pos w1, if_pos (by simp [w1, w2])]
      dsimp only
      rw [bs, ho, bs, jn_eq, if_pos w2]
      dsimp only
      rw [if_pos rfl]
    · rw [if_pos w1, if_neg (by simp [w1, w2])]
      dsimp only
      rw [bs, ho, bs, jn_eq, if_neg w2]
      dsimp only
      rw [if_neg (by omega)]
    · rw [if_neg w1, if_neg (by simp [w1, w2])]
      dsimp only
      rw [bs, ho, bs, jn_eq, if_pos w2]
      dsimp only
      rw [if_neg (by omega)]
    · rw [if_neg w1, if_pos (by simp [w1, w2])]
      dsimp only
      rw [bs, ho, bs, jn_eq, if_neg w2]
      dsimp only
      rw [if_pos rfl]
  · rw [if_neg z, if_neg z, if_pos rfl]
end
