/-! the class: fill, copyFrom -/
section
variable {G : ct_G} {h : ct_H} {o c hi wi : Nat}
theorem g_fill2 (g : GR G h o c hi wi) {a t c0 c1 r1 : Nat} {v : Int} (ht : t < hi * wi) (hc0 : c0 = a % wi) (hc1 : c1 = t % wi) (hr1 : r1 = t / wi) (h01 : c0 ≤ c1) : ∀ (k r n : Nat) (F : Nat → Int) (ch : Int), r + k = r1 + 1 → k < n → 0 ≤ ch → ch + 10 * k < 2147480000 → ∃ ch' : Int, ch + k ≤ ch' ∧ ch' ≤ ch + 10 * k ∧ l_X0_fillUp_33 G o (a : Int) (t : Int) v n ((r : Int), gh h o c F ch) = some (1, gh h o c (fun q => if (r + 1 ≤ q / (wi + 2) ∧ q / (wi + 2) ≤ r1 + 1) ∧ c0 + 1 ≤ q % (wi + 2) ∧ q % (wi + 2) ≤ c1 + 1 then v else F q) ch')
  | 0, r, n + 1, F, ch, h1, h2, h3, h4 => by
    have hw := g.2.2.2.2.2.2.2.2
    have e5 : (gh h o c F ch).1 o 2 = (wi : Int) := (gh_GR g F ch).2.2.2.2.1
    refine ⟨ch, by omega, by omega, ?_⟩
    rw [l_X0_fillUp_33]
    dsimp only
    rw [e5, dv_eq (by omega) (by omega), bs, show (t : Int) / (wi : Int) = ((t / wi : Nat) : Int) by omega, ← hr1, if_pos (by omega)]
    have : (fun q => if (r + 1 ≤ q / (wi + 2) ∧ q / (wi + 2) ≤ r1 + 1) ∧ c0 + 1 ≤ q % (wi + 2) ∧ q % (wi + 2) ≤ c1 + 1 then v else F q) = F := by
      funext j; rw [if_neg (by intro z; have := z.1; omega)]
    rw [this]
  | k + 1, r, n + 1, F, ch, h1, h2, h3, h4 => by
    have hw := g.2.2.2.2.2.2.2.2
    have hi7 := g.2.2.2.2.2.2.2.1
    have h49 : hi * wi ≤ 49 := Nat.mul_le_mul hi7.2 hw.2
    have e5 : (gh h o c F ch).1 o 2 = (wi : Int) := (gh_GR g F ch).2.2.2.2.1
    have hr2 : r1 < hi := by rw [hr1]; exact Nat.div_lt_of_lt_mul (by rw [Nat.mul_comm]; exact ht)
    have hc2 : c1 < wi := by rw [hc1]; exact Nat.mod_lt _ (by omega)
    obtain ⟨ch', q1, q2, ih⟩ := g_fill2 g ht hc0 hc1 hr1 h01 (v := v) k (r + 1) n (fun q => if q / (wi + 2) = r + 1 ∧ c0 + 1 ≤ q % (wi + 2) ∧ q % (wi + 2) ≤ c1 + 1 then v else F q) (ch + ((c1 + 1 - c0 : Nat) : Int)) (by omega) (by omega) (by omega) (by omega)
    refine ⟨ch', by omega, by omega, ?_⟩
    rw [l_X0_fillUp_33]
    dsimp only
    rw [e5, dv_eq (by omega) (by omega), bs, show (t : Int) / (wi : Int) = ((t / wi : Nat) : Int) by omega, ← hr1, if_neg (by omega), md_eq (by omega) (by omega), bs, show (a : Int) % (wi : Int) = ((a % wi : Nat) : Int) by omega, ← hc0]
    rw [g_fill1 g ht hc1 (show r < hi by omega) _ (c1 + 1 - c0) c0 200 F ch (by omega) (by omega) h3 (by omega), wr_id (by omega) (by omega)]
    rw [show ((r + 1 : Nat) : Int) = (r : Int) + 1 by omega] at ih
    rw [ih]
    congr 3
    funext j
    generalize j / (wi + 2) = y1
    generalize j % (wi + 2) = y2
    by_cases e1 : (r + 1 + 1 ≤ y1 ∧ y1 ≤ r1 + 1) ∧ c0 + 1 ≤ y2 ∧ y2 ≤ c1 + 1
    · rw [if_pos e1, if_pos (by omega)]
    · rw [if_neg e1]
      by_cases e2 : y1 = r + 1 ∧ c0 + 1 ≤ y2 ∧ y2 ≤ c1 + 1
      · rw [if_pos e2, if_pos (by omega)]
      · rw [if_neg e2, if_neg (by omega)]
theorem g_fillUp (g : GR G h o c hi wi) (a b v : Int) (h0 : 0 ≤ h.1 o 6) (h1 : h.1 o 6 < 2147470000) : (fillOk hi wi a b → ∃ ch' : Int, h.1 o 6 + 1 ≤ ch' ∧ ch' ≤ h.1 o 6 + 500 ∧ f_X0_fillUp G h o a b v = some (1, gh h o c (fun q => if (a.toNat / wi + 1 ≤ q / (wi + 2) ∧ q / (wi + 2) ≤ b.toNat / wi + 1) ∧ a.toNat % wi + 1 ≤ q % (wi + 2) ∧ q % (wi + 2) ≤ b.toNat % wi + 1 then v else h.1 c q) ch')) ∧ (¬ fillOk hi wi a b → f_X0_fillUp G h o a b v = some (0, h)) := by
  have hw := g.2.2.2.2.2.2.2.2
  have h49 : hi * wi ≤ 49 := Nat.mul_le_mul g.2.2.2.2.2.2.2.1.2 hw.2
  unfold f_X0_fillUp fillOk
  rw [g_isPoint g, bs, g_isPoint g, g.2.2.2.2.1]
  by_cases za : 0 ≤ a ∧ a < ((hi * wi : Nat) : Int)
  · rw [if_pos za, if_neg (by omega), bs]
    by_cases zb : 0 ≤ b ∧ b < ((hi * wi : Nat) : Int)
    · rw [if_pos zb, if_neg (by omega), dv_eq (by omega) (by omega), bs, dv_eq (by omega) (by omega), bs]
      by_cases z1 : b / (wi : Int) < a / (wi : Int)
      · rw [if_pos z1]
        exact ⟨fun z => absurd z.2.2.1 (by omega), fun _ => rfl⟩
      · rw [if_neg z1, md_eq (by omega) (by omega), bs, md_eq (by omega) (by omega), bs]
        by_cases z2 : a % (wi : Int) ≤ b % (wi : Int)
        · rw [if_pos z2, bs]
          refine ⟨fun _ => ?_, fun z => absurd ⟨za, zb, by omega, z2⟩ z⟩
          obtain ⟨a0, rfl⟩ := Int.eq_ofNat_of_zero_le za.1
          obtain ⟨b0, rfl⟩ := Int.eq_ofNat_of_zero_le zb.1
          have q1 : (a0 : Int) / (wi : Int) = ((a0 / wi : Nat) : Int) := by omega
          have q2 : (a0 : Int) % (wi : Int) = ((a0 % wi : Nat) : Int) := by omega
          have q3 : (b0 : Int) / (wi : Int) = ((b0 / wi : Nat) : Int) := by omega
          have q4 : (b0 : Int) % (wi : Int) = ((b0 % wi : Nat) : Int) := by omega
          rw [q2, q4] at z2
          rw [q1, q3] at z1
          rw [q1]
          have hle : b0 / wi ≤ 48 := Nat.le_trans (Nat.div_le_self _ _) (by omega)
          have z1' : a0 / wi ≤ b0 / wi := Nat.le_of_not_lt (fun z => z1 (Int.ofNat_lt.mpr z))
          have z2' : a0 % wi ≤ b0 % wi := Int.ofNat_le.mp z2
          obtain ⟨d, hd⟩ := Nat.exists_eq_add_of_le z1'
          have hd2 : d ≤ 48 := by rw [hd] at hle; exact Nat.le_trans (Nat.le_add_left _ _) hle
          obtain ⟨ch', w1, w2, w3⟩ := g_fill2 g (a := a0) (t := b0) (v := v) (by omega) rfl rfl rfl z2' (d + 1) (a0 / wi) 200 (h.1 c) (h.1 o 6) (by rw [hd]; rfl) (by omega) h0 (by omega)
          rw [gh_id] at w3
          exact ⟨ch', by omega, by omega, w3⟩
        · rw [if_neg z2]
          exact ⟨fun z => absurd z.2.2.2 z2, fun _ => rfl⟩
    · rw [if_neg zb, if_pos rfl]
      exact ⟨fun z => absurd z.2.1 zb, fun _ => rfl⟩
  · rw [if_neg za, if_pos rfl]
    exact ⟨fun z => absurd z.1 za, fun _ => rfl⟩
theorem cpI_eq {a b : Nat} {sp dp n : Int} (h1 : 0 ≤ sp ∧ 0 ≤ dp ∧ 0 ≤ n ∧ sp + n ≤ (G.2 a : Int) ∧ dp + n ≤ (G.2 b : Int)) : ct_cpI G h a sp b dp n = some (hs h b (va_cpy (h.1 a) (h.1 b) sp.toNat dp.toNat n.toNat)) := by
  unfold ct_cpI
  rw [if_pos h1]
  rfl
/-- copyFrom of another ground -/
theorem g_copyFrom {o2 c2 : Nat} (g1 : G.1 o 0 = c) (g2 : G.2 c = 81) (g3 : c ≠ o) (k : GR G h o2 c2 hi wi) (n1 : o2 ≠ o) (n2 : o2 ≠ c) (n3 : c2 ≠ o) (n4 : c2 ≠ c) (h0 : 0 ≤ h.1 o 6) (h1 : h.1 o 6 < 2147470000) : ∃ F : Nat → Int, (∀ q, q < 81 → F q = h.1 c2 q) ∧ f_X0_copyFrom G h o o2 = some (hs (hs h c F) o (up (up (lay0 (h.1 o) hi wi) 5 (h.1 o2 5)) 6 (h.1 o 6 + (hi * wi : Nat) + 1))) := by
  have h49 : hi * wi ≤ 49 := Nat.mul_le_mul k.2.2.2.2.2.2.2.1.2 k.2.2.2.2.2.2.2.2.2
  refine ⟨va_cpy (h.1 c2) (flat (h.1 c) hi wi) 0 0 81, fun q hq => ?_, ?_⟩
  · unfold va_cpy; rw [if_pos (by omega), Nat.zero_add, Nat.sub_zero]
  · unfold f_X0_copyFrom
    rw [k.2.2.2.1, k.2.2.2.2.1, g_layOut g1 g2 g3 k.2.2.2.2.2.2.2.1 k.2.2.2.2.2.2.2.2 h0 (by omega), bs, g1, k.1, cpI_eq (by rw [g2, k.2.1]; omega), bs]
    generalize hX : up (lay0 (h.1 o) hi wi) 6 (h.1 o 6 + (hi * wi : Nat)) = X
    have e1 : (hs (hs h c (flat (h.1 c) hi wi)) o X).1 c2 = h.1 c2 := by rw [hs_orow _ _ n3, hs_orow _ _ n4]
    have e2 : (hs (hs h c (flat (h.1 c) hi wi)) o X).1 c = flat (h.1 c) hi wi := by rw [hs_orow _ _ g3, hs_row]
    rw [e1, e2]
    generalize hY : va_cpy (h.1 c2) (flat (h.1 c) hi wi) (0 : Int).toNat (0 : Int).toNat (81 : Int).toNat = Y
    have e3 : hs (hs (hs h c (flat (h.1 c) hi wi)) o X) c Y = hs (hs h c Y) o X := by
      rw [hs_comm _ _ _ (fun z => g3 z.symm), hs_hs]
    rw [e3]
    have e4 : (hs (hs h c Y) o X).1 o2 5 = h.1 o2 5 := by rw [hs_other _ _ _ n1, hs_other _ _ _ n2]
    have e5 : (hs (hs h c Y) o X).1 o = X := hs_row _ _ _
    have e6 : X 6 = h.1 o 6 + (hi * wi : Nat) := by rw [← hX, up_same]
    rw [e4, g_putKind (by rw [e5, e6]; omega) (by rw [e5, e6]; omega), bs, e5, e6, hs_hs]
    have e7 : up (up X 5 (h.1 o2 5)) 6 (h.1 o 6 + (hi * wi : Nat) + 1) = up (up (lay0 (h.1 o) hi wi) 5 (h.1 o2 5)) 6 (h.1 o 6 + (hi * wi : Nat) + 1) := by
      rw [← hX]
      funext j
      unfold up
      by_cases j6 : j = 6
      · simp [j6]
      · by_cases j5 : j = 5 <;> simp [j5, j6]
    rw [e7, ← hY]
    rfl
end
