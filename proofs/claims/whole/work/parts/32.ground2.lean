/-! the class's ground: whole methods that change it -/
theorem fillL {G : ct_G} {a : Nat} {v : Int} : ∀ (m i n : Nat) (h : ct_H), i + m = G.2 a → m < n → G.2 a < 1000 → l_J7_fill_53178_5 G a v ((G.2 a : Nat) : Int) n ((i : Int), h) = some (hs h a (fun j => if i ≤ j ∧ j < G.2 a then v else h.1 a j))
  | 0, i, n + 1, h, h1, h2, h3 => by
    rw [l_J7_fill_53178_5, if_pos (by dsimp only; omega)]
    dsimp only
    have : (fun j => if i ≤ j ∧ j < G.2 a then v else h.1 a j) = h.1 a := by
      funext j; rw [if_neg (by omega)]
    rw [this, hs_self]
  | m + 1, i, n + 1, h, h1, h2, h3 => by
    rw [l_J7_fill_53178_5, if_neg (by dsimp only; omega)]
    dsimp only
    rw [wtN (by omega), bs, wr_id (by omega) (by omega)]
    have := fillL (G := G) (a := a) (v := v) m (i + 1) n (hs h a (up (h.1 a) i v)) (by omega) (by omega) h3
    rw [show ((i + 1 : Nat) : Int) = (i : Int) + 1 by omega] at this
    rw [this, hs_hs, hs_row]
    congr 2
    funext j
    unfold up
    by_cases e : j = i
    · subst e; rw [if_neg (by omega), if_pos rfl, if_pos (by omega)]
    · rw [if_neg e]
      by_cases e2 : i + 1 ≤ j ∧ j < G.2 a
      · rw [if_pos e2, if_pos (by omega)]
      · rw [if_neg e2, if_neg (by omega)]
theorem fill_eq {G : ct_G} {a : Nat} {v : Int} {h : ct_H} (h3 : G.2 a < 200) : f_J7_fill_53178 G h a v = some (hs h a (fun j => if j < G.2 a then v else h.1 a j)) := by
  unfold f_J7_fill_53178
  have := fillL (G := G) (a := a) (v := v) (G.2 a) 0 200 h (by omega) (by omega) (by omega)
  simp only [Nat.zero_le, true_and] at this
  exact this
def lay0 (f : Nat → Int) (nh nw : Nat) : Nat → Int := up (up (up (up f 1 nh) 2 nw) 3 (nw + 2 : Nat)) 4 ((nh + 2) * (nw + 2) : Nat)
def flat (f : Nat → Int) (nh nw : Nat) : Nat → Int := puts nw (fun _ _ => 0) 0 (nh * nw) (fun j => if j < 81 then -1 else f j)
theorem lay0_GR {G : ct_G} {h : ct_H} {o c nh nw : Nat} {F : Nat → Int} (g1 : G.1 o 0 = c) (g2 : G.2 c = 81) (g3 : c ≠ o) (h8 : 2 ≤ nh ∧ nh ≤ 7) (h9 : 2 ≤ nw ∧ nw ≤ 7) : GR G (hs (hs h c F) o (lay0 (h.1 o) nh nw)) o c nh nw := by
  refine ⟨g1, g2, g3, ?_, ?_, ?_, ?_, h8, h9⟩ <;> rw [hs_same] <;> unfold lay0 up <;> simp
theorem g_layOut {G : ct_G} {h : ct_H} {o c nh nw : Nat} (g1 : G.1 o 0 = c) (g2 : G.2 c = 81) (g3 : c ≠ o) (h8 : 2 ≤ nh ∧ nh ≤ 7) (h9 : 2 ≤ nw ∧ nw ≤ 7) (h0 : 0 ≤ h.1 o 6) (h1 : h.1 o 6 < 2147480000) : f_X0_layOut G h o (nh : Int) (nw : Int) = some (hs (hs h c (flat (h.1 c) nh nw)) o (up (lay0 (h.1 o) nh nw) 6 (h.1 o 6 + (nh * nw : Nat)))) := by
  have hb : nh * nw ≤ 49 := Nat.mul_le_mul h8.2 h9.2
  have hb2 : (nh + 2) * (nw + 2) ≤ 81 := mul_b (by omega) (by omega)
  unfold f_X0_layOut
  simp only [lt_eq, ct_wF_hs, hs_row, hs_hs]
  rw [g1]
  rw [up_same, wr_id (a := (nw : Int) + 2) (by omega) (by omega), wr_id (a := (nh : Int) + 2) (by omega) (by omega)]
  have e1 : ((nh : Int) + 2) * ((nw : Int) + 2) = (((nh + 2) * (nw + 2) : Nat) : Int) := by rw [Int.natCast_mul]; rfl
  rw [e1, wr_id (by omega) (by omega)]
  have e2 : up (up (up (up (h.1 o) 1 (nh : Int)) 2 (nw : Int)) 3 ((nw : Int) + 2)) 4 (((nh + 2) * (nw + 2) : Nat) : Int) = lay0 (h.1 o) nh nw := rfl
  rw [e2, fill_eq (by omega), bs, hs_orow _ _ g3, g2, hs_comm _ _ _ (fun z => g3 z.symm)]
  have gg := lay0_GR (h := h) (F := fun j => if j < 81 then -1 else h.1 c j) g1 g2 g3 h8 h9
  rw [g_points gg, bs]
  have e6 : (hs (hs h c (fun j => if j < 81 then -1 else h.1 c j)) o (lay0 (h.1 o) nh nw)).1 o 6 = h.1 o 6 := by rw [hs_same]; unfold lay0 up; simp
  have := g_layL gg (nh * nw) 0 200 ((hs (hs h c (fun j => if j < 81 then -1 else h.1 c j)) o (lay0 (h.1 o) nh nw)).1 c) (h.1 o 6) (by omega) (by omega) h0 (by omega)
  rw [← e6, gh_id, e6] at this
  rw [show ((0 : Int)) = ((0 : Nat) : Int) from rfl, this]
  congr 1
  unfold gh
  rw [hs_orow _ _ g3, hs_row, hs_row]
  rw [hs_comm (hs h c _) _ _ (fun z => g3 z.symm), hs_hs, hs_hs]
  rfl
theorem g_putKind {G : ct_G} {h : ct_H} {o : Nat} {k : Int} (h0 : 0 ≤ h.1 o 6) (h1 : h.1 o 6 < 2147480000) : f_X0_putKind G h o k = some (hs h o (up (up (h.1 o) 5 k) 6 (h.1 o 6 + 1))) := by
  unfold f_X0_putKind
  simp only [lt_eq, ct_wF_hs, hs_row, hs_hs]
  rw [up_other _ _ (by omega), wr_id (by omega) (by omega)]
theorem g_turnOver {G : ct_G} {h : ct_H} {o c hi wi : Nat} (g : GR G h o c hi wi) (h0 : 0 ≤ h.1 o 6) (h1 : h.1 o 6 < 2147480000) (hF : ∀ p, p < hi * wi → 0 ≤ h.1 c (plc wi p) ∧ h.1 c (plc wi p) ≤ 99) : f_X0_turnOver G h o = some (gh h o c (puts wi (fun _ v => 99 - v) 0 (hi * wi) (h.1 c)) (h.1 o 6 + (hi * wi : Nat))) := by
  have hb : hi * wi ≤ 49 := Nat.mul_le_mul g.2.2.2.2.2.2.2.1.2 g.2.2.2.2.2.2.2.2.2
  unfold f_X0_turnOver
  rw [g_points g, bs]
  have := g_turnL g (hi * wi) 0 200 (h.1 c) (h.1 o 6) (by omega) (by omega) h0 (by omega) hF
  rw [gh_id] at this
  exact this
theorem g_lowerAll {G : ct_G} {h : ct_H} {o c hi wi : Nat} (g : GR G h o c hi wi) {a : Int} (ha : 0 ≤ a ∧ a ≤ 99) (h0 : 0 ≤ h.1 o 6) (h1 : h.1 o 6 < 2147480000) (hF : ∀ p, p < hi * wi → 0 ≤ h.1 c (plc wi p) ∧ h.1 c (plc wi p) ≤ 99) : f_X0_lowerAll G h o a = some (gh h o c (puts wi (fun _ v => max 0 (v - a)) 0 (hi * wi) (h.1 c)) (h.1 o 6 + (hi * wi : Nat))) := by
  have hb : hi * wi ≤ 49 := Nat.mul_le_mul g.2.2.2.2.2.2.2.1.2 g.2.2.2.2.2.2.2.2.2
  unfold f_X0_lowerAll
  rw [g_points g, bs]
  have := g_lowL g ha (hi * wi) 0 200 (h.1 c) (h.1 o 6) (by omega) (by omega) h0 (by omega) hF
  rw [gh_id] at this
  exact this
theorem g_heapUp {G : ct_G} {h : ct_H} {o c hi wi : Nat} (g : GR G h o c hi wi) {t a2 a3 : Int} (hA : 0 ≤ a2 ∧ a2 ≤ 99) (hB : 0 ≤ a3 ∧ a3 ≤ 99) (h0 : 0 ≤ h.1 o 6) (h1 : h.1 o 6 < 2147480000) (hF : ∀ p, p < hi * wi → 0 ≤ h.1 c (plc wi p) ∧ h.1 c (plc wi p) ≤ 99) : f_X0_heapUp G h o t a2 a3 = some (if 0 ≤ t ∧ t < ((hi * wi : Nat) : Int) then (1, gh h o c (puts wi (fun p v => max v (a2 - a3 * far wi p t.toNat)) 0 (hi * wi) (h.1 c)) (h.1 o 6 + (hi * wi : Nat))) else (0, h)) := by
  have hb : hi * wi ≤ 49 := Nat.mul_le_mul g.2.2.2.2.2.2.2.1.2 g.2.2.2.2.2.2.2.2.2
  unfold f_X0_heapUp
  rw [g_isPoint g, bs]
  by_cases ht : 0 ≤ t ∧ t < ((hi * wi : Nat) : Int)
  · rw [if_pos ht, if_pos ht, if_neg (by omega), g_points g, bs]
    obtain ⟨t0, rfl⟩ := Int.eq_ofNat_of_zero_le ht.1
    have := g_heapL g (t := t0) (by omega) hA hB (hi * wi) 0 200 (h.1 c) (h.1 o 6) (by omega) (by omega) h0 (by omega) hF
    rw [gh_id] at this
    exact this
  · rw [if_neg ht, if_neg ht, if_pos rfl]
