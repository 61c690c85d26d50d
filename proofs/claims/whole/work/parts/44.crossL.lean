/-! the reference: the first loop of layLines -/
section
variable {G : ct_G} {h : ct_H} {o c hi wi : Nat} {L : Int}
theorem m_crossL (m : MD G h o c hi wi) {F : Nat → Int} (r : RH F (h.1 c) hi wi) {cX cL : Nat} (x1 : G.1 o 10 = cX) (x2 : G.2 cX = 162) (y1 : G.1 o 11 = cL) (y2 : G.2 cL = 162) (n1 : cX ≠ o) (n2 : cL ≠ o) (n3 : c ≠ cX) (n4 : c ≠ cL) (n5 : cX ≠ cL) (K : ct_H → Option ct_H) : ∀ (t i n : Nat) (X Y : Nat → Int), i + t = 162 → t < n → l_X7_layLines_2 G o L K n ((i : Int), hs (hs h cX X) cL Y) = K (hs (hs h cX (fun j => if i ≤ j ∧ j < 162 then XE F hi wi L j else X j)) cL (fun j => if i ≤ j ∧ j < 162 then -5 else Y j))
  | 0, i, n + 1, X, Y, h1, h2 => by
    rw [l_X7_layLines_2, if_pos (by dsimp only; omega)]
    dsimp only
    have e1 : (fun j => if i ≤ j ∧ j < 162 then XE F hi wi L j else X j) = X := by funext j; rw [if_neg (by omega)]
    have e2 : (fun j => if i ≤ j ∧ j < 162 then -5 else Y j) = Y := by funext j; rw [if_neg (by omega)]
    rw [e1, e2]
  | t + 1, i, n + 1, X, Y, h1, h2 => by
    have m2 : MD G (hs (hs h cX X) cL Y) o c hi wi := hs_MD2 (hs_MD2 m n1 X) n2 Y
    have r2 : RH F ((hs (hs h cX X) cL Y).1 c) hi wi := by rw [hs_orow _ _ n4, hs_orow _ _ n3]; exact r
    rw [l_X7_layLines_2, if_neg (by dsimp only; omega)]
    dsimp only
    refine (m_cross1 m2 r2 (L := L) (e := i) (by omega) _).trans ?_
    rw [x1, wtZ_eq (by omega) (by rw [x2]; omega) (XE01 F hi wi L i), bs, y1, wt_eq (by omega) (by rw [y2]; omega), bs, Int.toNat_natCast, wr_id (by omega) (by omega)]
    have e1 : (hs (hs h cX X) cL Y).1 cX = X := by rw [hs_orow _ _ n5, hs_row]
    rw [e1]
    have e2 : hs (hs (hs h cX X) cL Y) cX (up X i (XE F hi wi L i)) = hs (hs h cX (up X i (XE F hi wi L i))) cL Y := by
      rw [hs_comm _ _ _ (fun z => n5 z.symm), hs_hs]
    rw [e2, hs_row, hs_hs]
    have ih := m_crossL m r x1 x2 y1 y2 n1 n2 n3 n4 n5 K t (i + 1) n (up X i (XE F hi wi L i)) (up Y i (-5)) (by omega) (by omega)
    rw [show ((i + 1 : Nat) : Int) = (i : Int) + 1 by omega] at ih
    rw [ih]
    have f1 : (fun j => if i + 1 ≤ j ∧ j < 162 then XE F hi wi L j else up X i (XE F hi wi L i) j) = (fun j => if i ≤ j ∧ j < 162 then XE F hi wi L j else X j) := by
      funext j
      by_cases e : j = i
      · subst e; rw [if_neg (by omega), up_same, if_pos (by omega)]
      · rw [up_other _ _ e]
        by_cases e2 : i + 1 ≤ j ∧ j < 162
        · rw [if_pos e2, if_pos (by omega)]
        · rw [if_neg e2, if_neg (by omega)]
    have f2 : (fun j => if i + 1 ≤ j ∧ j < 162 then -5 else up Y i (-5) j) = (fun j => if i ≤ j ∧ j < 162 then -5 else Y j) := by
      funext j
      by_cases e : j = i
      · subst e; rw [if_neg (by omega), up_same, if_pos (by omega)]
      · rw [up_other _ _ e]
        by_cases e2 : i + 1 ≤ j ∧ j < 162
        · rw [if_pos e2, if_pos (by omega)]
        · rw [if_neg e2, if_neg (by omega)]
    rw [f1, f2]
end
