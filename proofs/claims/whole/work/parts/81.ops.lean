/-! changes of a ground: in the class and in the reference -/
def CG (G : ct_G) (h : ct_H) (o c hi wi : Nat) (kd : Int) (M : Nat → Int) : Prop := GR G h o c hi wi ∧ RH (h.1 c) M hi wi ∧ h.1 o 5 = kd
def RG (G : ct_G) (h : ct_H) (hi wi : Nat) (kd : Int) (M : Nat → Int) : Prop := MD G h 73 74 hi wi ∧ (∀ p, p < hi * wi → h.1 74 p = M p) ∧ h.1 73 2 = kd
def CT (h : ct_H) (o c : Nat) (b : Int) (h' : ct_H) : Prop := (∀ a, a ≠ o → a ≠ c → h'.1 a = h.1 a) ∧ h'.2 = h.2 ∧ ((h'.1 o = h.1 o ∧ h'.1 c = h.1 c) ∨ h.1 o 6 < h'.1 o 6) ∧ h.1 o 6 ≤ h'.1 o 6 ∧ h'.1 o 6 ≤ h.1 o 6 + b
def RTT (h h' : ct_H) : Prop := (∀ a, a ≠ 73 → a ≠ 74 → h'.1 a = h.1 a) ∧ (∀ j, 3 ≤ j → h'.1 73 j = h.1 73 j) ∧ h'.2 = h.2
theorem CT.refl {h : ct_H} {o c : Nat} {b : Int} (hb : 0 ≤ b) : CT h o c b h := ⟨fun _ _ _ => rfl, rfl, Or.inl ⟨rfl, rfl⟩, Int.le_refl _, by omega⟩
theorem CT.trans {h h' h'' : ct_H} {o c : Nat} {b b' : Int} (x : CT h o c b h') (y : CT h' o c b' h'') : CT h o c (b + b') h'' := by
  refine ⟨fun a a1 a2 => (y.1 a a1 a2).trans (x.1 a a1 a2), y.2.1.trans x.2.1, ?_, by have := x.2.2.2.1; have := y.2.2.2.1; omega, by have := x.2.2.2.2; have := y.2.2.2.2; omega⟩
  have x4 := x.2.2.2.1
  have y4 := y.2.2.2.1
  rcases x.2.2.1 with ⟨p, q⟩ | p
  · rcases y.2.2.1 with ⟨r, s⟩ | r
    · exact Or.inl ⟨r.trans p, s.trans q⟩
    · rw [p] at r; exact Or.inr r
  · exact Or.inr (by omega)
theorem RTT.refl {h : ct_H} : RTT h h := ⟨fun _ _ _ => rfl, fun _ _ => rfl, rfl⟩
theorem RTT.trans {h h' h'' : ct_H} (x : RTT h h') (y : RTT h' h'') : RTT h h'' := ⟨fun a a1 a2 => (y.1 a a1 a2).trans (x.1 a a1 a2), fun j hj => (y.2.1 j hj).trans (x.2.1 j hj), y.2.2.trans x.2.2⟩
theorem RH_flat {f : Nat → Int} {nh nw : Nat} (h9 : 2 ≤ nw ∧ nw ≤ 7) : RH (flat f nh nw) (fun _ => 0) nh nw := by
  refine ⟨fun p hp => ⟨?_, Int.le_refl 0, (by omega : (0 : Int) ≤ 99)⟩, fun q hq hn => ?_⟩
  · unfold flat
    rw [puts_at h9 (Nat.zero_le _) (by omega)]
  · unfold flat
    rw [puts_out (fun p _ p2 => hn p (by omega)), if_pos hq]
theorem RH_up {F M : Nat → Int} {hi wi p : Nat} {v : Int} (h2 : 2 ≤ wi ∧ wi ≤ 7) (r : RH F M hi wi) (hp : p < hi * wi) (hv : 0 ≤ v ∧ v ≤ 99) : RH (up F (plc wi p) v) (up M p v) hi wi := by
  refine ⟨fun q hq => ?_, fun q hq hn => ?_⟩
  · by_cases e : q = p
    · subst e
      rw [up_same, up_same]
      exact ⟨rfl, hv⟩
    · rw [up_other _ _ e, up_other _ _ (fun w => e (plc_inj h2 w))]
      exact r.1 q hq
  · rw [up_other _ _ (hn p hp)]
    exact r.2 q hq hn
theorem RH_puts {F M : Nat → Int} {hi wi : Nat} {val : Nat → Int → Int} (h2 : 2 ≤ wi ∧ wi ≤ 7) (r : RH F M hi wi) (hv : ∀ p, p < hi * wi → 0 ≤ val p (M p) ∧ val p (M p) ≤ 99) : RH (puts wi val 0 (hi * wi) F) (fun j => val j (M j)) hi wi := by
  refine ⟨fun p hp => ⟨?_, hv p hp⟩, fun q hq hn => ?_⟩
  · rw [puts_at h2 (Nat.zero_le _) (by omega), ← (r.1 p hp).1]
  · rw [puts_out (fun p _ p2 => hn p (by omega))]
    exact r.2 q hq hn
theorem RH_fill {F M : Nat → Int} {hi wi a b : Nat} {v : Int} (h1 : 2 ≤ hi ∧ hi ≤ 7) (h2 : 2 ≤ wi ∧ wi ≤ 7) (r : RH F M hi wi) (hb : b < hi * wi) (hv : 0 ≤ v ∧ v ≤ 99) : RH (fun q => if (a / wi + 1 ≤ q / (wi + 2) ∧ q / (wi + 2) ≤ b / wi + 1) ∧ a % wi + 1 ≤ q % (wi + 2) ∧ q % (wi + 2) ≤ b % wi + 1 then v else F q) (fun j => if (a / wi ≤ j / wi ∧ j / wi ≤ b / wi) ∧ a % wi ≤ j % wi ∧ j % wi ≤ b % wi then v else M j) hi wi := by
  have hbw : b / wi < hi := (Nat.div_lt_iff_lt_mul (by omega)).mpr hb
  have hbm : b % wi < wi := Nat.mod_lt _ (by omega)
  refine ⟨fun p hp => ?_, fun q hq hn => ?_⟩
  · have d := plc_dm (p := p) h2
    dsimp only
    rw [d.1, d.2]
    generalize p / wi = X
    generalize p % wi = Y
    generalize a / wi = X1
    generalize a % wi = Y1
    generalize b / wi = X2
    generalize b % wi = Y2
    by_cases z : (X1 ≤ X ∧ X ≤ X2) ∧ Y1 ≤ Y ∧ Y ≤ Y2
    · rw [if_pos z, if_pos (by omega)]
      exact ⟨rfl, hv⟩
    · rw [if_neg z, if_neg (by omega)]
      exact r.1 p hp
  · dsimp only
    rw [if_neg]
    · exact r.2 q hq hn
    · intro w
      obtain ⟨p, p1, p2⟩ := plc_sur (q := q) h1 h2 (by
        generalize q / (wi + 2) = X at w ⊢
        generalize q % (wi + 2) = Y at w ⊢
        generalize a / wi = X1 at w
        generalize a % wi = Y1 at w
        generalize b / wi = X2 at w hbw
        generalize b % wi = Y2 at w hbm
        omega)
      exact hn p p1 p2.symm
section
variable {G : ct_G} {h : ct_H} {o c hi wi : Nat} {kd : Int} {M : Nat → Int}
theorem GR_lay {X : Nat → Int} {nh nw : Nat} (g1 : G.1 o 0 = c) (g2 : G.2 c = 81) (g3 : c ≠ o) (hX : h.1 o = X) (e1 : X 1 = nh) (e2 : X 2 = nw) (e3 : X 3 = (nw + 2 : Nat)) (e4 : X 4 = ((nh + 2) * (nw + 2) : Nat)) (h8 : 2 ≤ nh ∧ nh ≤ 7) (h9 : 2 ≤ nw ∧ nw ≤ 7) : GR G h o c nh nw := ⟨g1, g2, g3, by rw [hX]; exact e1, by rw [hX]; exact e2, by rw [hX]; exact e3, by rw [hX]; exact e4, h8, h9⟩
theorem cs_lay {nh nw : Nat} (g1 : G.1 o 0 = c) (g2 : G.2 c = 81) (g3 : c ≠ o) (h8 : 2 ≤ nh ∧ nh ≤ 7) (h9 : 2 ≤ nw ∧ nw ≤ 7) (h0 : 0 ≤ h.1 o 6) (h1 : h.1 o 6 < 2147470000) : ∃ h', f_X0_layOut G h o (nh : Int) (nw : Int) = some h' ∧ CG G h' o c nh nw (h.1 o 5) (fun _ => 0) ∧ CT h o c 500 h' := by
  have h49 : nh * nw ≤ 49 := Nat.mul_le_mul h8.2 h9.2
  have h4 : 0 < nh * nw := Nat.mul_pos (by omega) (by omega)
  refine ⟨_, g_layOut g1 g2 g3 h8 h9 h0 (by omega), ⟨GR_lay g1 g2 g3 (hs_row _ _ _) ?_ ?_ ?_ ?_ h8 h9, ?_, ?_⟩, fun a a1 a2 => ?_, rfl, ?_, ?_, ?_⟩
  · simp [up, lay0]
  · simp [up, lay0]
  · simp [up, lay0]
  · simp [up, lay0]
  · rw [hs_orow _ _ g3, hs_row]
    exact RH_flat h9
  · rw [hs_same]
    simp [up, lay0]
  · rw [hs_orow _ _ a1, hs_orow _ _ a2]
  · right
    rw [hs_same, up_same]
    omega
  · rw [hs_same, up_same]
    omega
  · rw [hs_same, up_same]
    omega
theorem gh_CT (hn : c ≠ o) {F : Nat → Int} {k b : Int} (h1 : h.1 o 6 < k) (h2 : k ≤ h.1 o 6 + b) : CT h o c b (gh h o c F k) := ⟨fun a a1 a2 => gh_x _ _ a1 a2, rfl, Or.inr (by rw [gh_o6]; exact h1), by rw [gh_o6]; omega, by rw [gh_o6]; exact h2⟩
theorem gh_CG (g : CG G h o c hi wi kd M) {F M' : Nat → Int} {k : Int} (r : RH F M' hi wi) : CG G (gh h o c F k) o c hi wi kd M' := ⟨gh_GR g.1 _ _, by rw [gh_c g.1.2.2.1]; exact r, by rw [gh_oj _ _ (by omega)]; exact g.2.2⟩
theorem cs_put (g : CG G h o c hi wi kd M) (h0 : 0 ≤ h.1 o 6) (h1 : h.1 o 6 < 2147470000) {p : Nat} {v : Int} (hp : p < hi * wi) (hv : 0 ≤ v ∧ v ≤ 99) : ∃ h', f_X0_putHeight G h o (p : Int) v = some h' ∧ CG G h' o c hi wi kd (up M p v) ∧ CT h o c 500 h' := by
  have e := g_put g.1 (F := h.1 c) (k := h.1 o 6) (v := v) hp h0 (by omega)
  rw [gh_id] at e
  exact ⟨_, e, gh_CG g (RH_up g.1.2.2.2.2.2.2.2.2 g.2.1 hp hv), gh_CT g.1.2.2.1 (by omega) (by omega)⟩
theorem cs_kind (g : CG G h o c hi wi kd M) (h0 : 0 ≤ h.1 o 6) (h1 : h.1 o 6 < 2147470000) (k : Int) : ∃ h', f_X0_putKind G h o k = some h' ∧ CG G h' o c hi wi k M ∧ CT h o c 500 h' := by
  obtain ⟨⟨g1, g2, g3, g4, g5, g6, g7, g8, g9⟩, r, kk⟩ := g
  refine ⟨_, g_putKind h0 (by omega), ⟨GR_lay g1 g2 g3 (hs_row _ _ _) ?_ ?_ ?_ ?_ g8 g9, ?_, ?_⟩, fun a a1 a2 => hs_orow _ _ a1, rfl, ?_, ?_, ?_⟩
  · rw [up_other _ _ (by omega), up_other _ _ (by omega)]; exact g4
  · rw [up_other _ _ (by omega), up_other _ _ (by omega)]; exact g5
  · rw [up_other _ _ (by omega), up_other _ _ (by omega)]; exact g6
  · rw [up_other _ _ (by omega), up_other _ _ (by omega)]; exact g7
  · rw [hs_orow _ _ g3]; exact r
  · rw [hs_same, up_other _ _ (by omega), up_same]
  · right
    rw [hs_same, up_same]
    omega
  · rw [hs_same, up_same]
    omega
  · rw [hs_same, up_same]
    omega
theorem CG.h49 (g : CG G h o c hi wi kd M) : hi * wi ≤ 49 ∧ 0 < hi * wi := ⟨Nat.mul_le_mul g.1.2.2.2.2.2.2.2.1.2 g.1.2.2.2.2.2.2.2.2.2, Nat.mul_pos (by have := g.1.2.2.2.2.2.2.2.1; omega) (by have := g.1.2.2.2.2.2.2.2.2; omega)⟩
theorem CG.hF (g : CG G h o c hi wi kd M) : ∀ p, p < hi * wi → 0 ≤ h.1 c (plc wi p) ∧ h.1 c (plc wi p) ≤ 99 := fun p hp => by
  have := g.2.1.1 p hp
  rw [← this.1]
  exact this.2
theorem cs_turn (g : CG G h o c hi wi kd M) (h0 : 0 ≤ h.1 o 6) (h1 : h.1 o 6 < 2147470000) : ∃ h', f_X0_turnOver G h o = some h' ∧ CG G h' o c hi wi kd (fun j => 99 - M j) ∧ CT h o c 500 h' := by
  have h4 := g.h49
  exact ⟨_, g_turnOver g.1 h0 (by omega) g.hF, gh_CG g (RH_puts g.1.2.2.2.2.2.2.2.2 g.2.1 (fun p hp => by have := g.2.1.1 p hp; omega)), gh_CT g.1.2.2.1 (by omega) (by omega)⟩
theorem cs_lower (g : CG G h o c hi wi kd M) (h0 : 0 ≤ h.1 o 6) (h1 : h.1 o 6 < 2147470000) {a : Int} (ha : 0 ≤ a ∧ a ≤ 99) : ∃ h', f_X0_lowerAll G h o a = some h' ∧ CG G h' o c hi wi kd (fun j => max 0 (M j - a)) ∧ CT h o c 500 h' := by
  have h4 := g.h49
  exact ⟨_, g_lowerAll g.1 ha h0 (by omega) g.hF, gh_CG g (RH_puts g.1.2.2.2.2.2.2.2.2 g.2.1 (fun p hp => by have := g.2.1.1 p hp; omega)), gh_CT g.1.2.2.1 (by omega) (by omega)⟩
theorem cs_heap (g : CG G h o c hi wi kd M) (h0 : 0 ≤ h.1 o 6) (h1 : h.1 o 6 < 2147470000) {t : Nat} {a2 a3 : Int} (ht : t < hi * wi) (hA : 0 ≤ a2 ∧ a2 ≤ 99) (hB : 0 ≤ a3 ∧ a3 ≤ 99) : ∃ h', f_X0_heapUp G h o (t : Int) a2 a3 = some (1, h') ∧ CG G h' o c hi wi kd (fun j => max (M j) (a2 - a3 * far wi j t)) ∧ CT h o c 500 h' := by
  have h4 := g.h49
  have e := g_heapUp g.1 (t := (t : Int)) hA hB h0 (by omega) g.hF
  rw [if_pos (by omega), Int.toNat_natCast] at e
  refine ⟨_, e, gh_CG g (RH_puts (val := fun p v => max v (a2 - a3 * far wi p t)) g.1.2.2.2.2.2.2.2.2 g.2.1 (fun p hp => ?_)), gh_CT g.1.2.2.1 (by omega) (by omega)⟩
  have := g.2.1.1 p hp
  have f := far_le (p := p) (q := t) g.1.2.2.2.2.2.2.2.2 (by omega) (by omega)
  have : 0 ≤ a3 * far wi p t := Int.mul_nonneg hB.1 f.1
  omega
theorem cs_fill (g : CG G h o c hi wi kd M) (h0 : 0 ≤ h.1 o 6) (h1 : h.1 o 6 < 2147470000) {a b v : Int} (ok : fillOk hi wi a b) (hv : 0 ≤ v ∧ v ≤ 99) : ∃ h', f_X0_fillUp G h o a b v = some (1, h') ∧ CG G h' o c hi wi kd (fun j => if (a.toNat / wi ≤ j / wi ∧ j / wi ≤ b.toNat / wi) ∧ a.toNat % wi ≤ j % wi ∧ j % wi ≤ b.toNat % wi then v else M j) ∧ CT h o c 500 h' := by
  obtain ⟨ch, c1, c2, c3⟩ := (g_fillUp g.1 a b v h0 h1).1 ok
  exact ⟨_, c3, gh_CG g (RH_fill g.1.2.2.2.2.2.2.2.1 g.1.2.2.2.2.2.2.2.2 g.2.1 (by have := ok.2.1; omega) hv), gh_CT g.1.2.2.1 (by omega) (by omega)⟩
theorem cs_copy {o2 c2 : Nat} (g1 : G.1 o 0 = c) (g2 : G.2 c = 81) (g3 : c ≠ o) (k : CG G h o2 c2 hi wi kd M) (n1 : o2 ≠ o) (n2 : o2 ≠ c) (n3 : c2 ≠ o) (n4 : c2 ≠ c) (h0 : 0 ≤ h.1 o 6) (h1 : h.1 o 6 < 2147470000) : ∃ h', f_X0_copyFrom G h o o2 = some h' ∧ CG G h' o c hi wi kd M ∧ CT h o c 500 h' ∧ h.1 o 6 < h'.1 o 6 := by
  obtain ⟨F, f1, f2⟩ := g_copyFrom g1 g2 g3 k.1 n1 n2 n3 n4 h0 h1
  have h8 := k.1.2.2.2.2.2.2.2.1
  have h9 := k.1.2.2.2.2.2.2.2.2
  have h4 := k.h49
  refine ⟨_, f2, ⟨GR_lay g1 g2 g3 (hs_row _ _ _) ?_ ?_ ?_ ?_ h8 h9, ?_, ?_⟩, ⟨fun a a1 a2 => ?_, rfl, ?_, ?_, ?_⟩, ?_⟩
  · simp [up, lay0]
  · simp [up, lay0]
  · simp [up, lay0]
  · simp [up, lay0]
  · rw [hs_orow _ _ g3, hs_row]
    exact ⟨fun p hp => by rw [f1 _ (plc_lt h8 h9 hp).2]; exact k.2.1.1 p hp, fun q hq hn => by rw [f1 q hq]; exact k.2.1.2 q hq hn⟩
  · rw [hs_same, up_other _ _ (by omega), up_same]
    exact k.2.2
  · rw [hs_orow _ _ a1, hs_orow _ _ a2]
  · right
    rw [hs_same, up_same]
    omega
  · rw [hs_same, up_same]
    omega
  · rw [hs_same, up_same]
    omega
  · rw [hs_same, up_same]
    omega
end
/-! the reference's changes -/
section
variable {G : ct_G} {h : ct_H} {hi wi : Nat} {kd : Int} {M : Nat → Int}
theorem RG_hs (g : RG G h hi wi kd M) {M' : Nat → Int} {X : Nat → Int} (e : ∀ p, p < hi * wi → X p = M' p) : RG G (hs h 74 X) hi wi kd M' := ⟨hs_MD g.1 _, fun p hp => by rw [hs_same]; exact e p hp, by rw [hs_other _ _ _ (by omega)]; exact g.2.2⟩
theorem RTT_hs {X : Nat → Int} : RTT h (hs h 74 X) := ⟨fun a _ a2 => hs_orow _ _ a2, fun j _ => by rw [hs_other _ _ _ (by omega)], rfl⟩
theorem RG.h49 (g : RG G h hi wi kd M) : hi * wi ≤ 49 := Nat.mul_le_mul g.1.2.2.2.2.2.1.2 g.1.2.2.2.2.2.2.2
theorem RG.hM (g : RG G h hi wi kd M) (b : ∀ p, p < hi * wi → 0 ≤ M p ∧ M p ≤ 99) : ∀ p, p < hi * wi → 0 ≤ h.1 74 p ∧ h.1 74 p ≤ 99 := fun p hp => by rw [g.2.1 p hp]; exact b p hp
theorem rs_size (g : RG G h hi wi kd M) {nh nw : Nat} (h8 : 2 ≤ nh ∧ nh ≤ 7) (h9 : 2 ≤ nw ∧ nw ≤ 7) : ∃ h', f_X7_size G h 73 (nh : Int) (nw : Int) = some (10 * (hi : Int) + wi, h') ∧ RG G h' nh nw kd (fun _ => 0) ∧ RTT h h' := by
  have e := m_size g.1 (nh : Int) (nw : Int)
  rw [if_pos (by omega)] at e
  obtain ⟨⟨m1, m2, m3, m4, m5, m6, m7⟩, g2, g3⟩ := g
  have h49 : nh * nw ≤ 49 := Nat.mul_le_mul h8.2 h9.2
  refine ⟨_, e, ⟨⟨m1, m2, m3, ?_, ?_, h8, h9⟩, fun p hp => ?_, ?_⟩, fun a a1 a2 => ?_, fun j hj => ?_, rfl⟩
  · rw [hs_same, up_other _ _ (by omega), up_same]
  · rw [hs_same, up_same]
  · rw [hs_other _ _ _ (by omega), hs_same, if_pos (by omega)]
  · rw [hs_same, up_other _ _ (by omega), up_other _ _ (by omega)]; exact g3
  · rw [hs_orow _ _ a1, hs_orow _ _ a2]
  · rw [hs_same, up_other _ _ (by omega), up_other _ _ (by omega)]
theorem rs_put (g : RG G h hi wi kd M) {p : Nat} {v : Int} (hp : p < hi * wi) (hv : 0 ≤ v ∧ v ≤ 99) : ∃ h', f_X7_height G h 73 (p : Int) v = some (M p, h') ∧ RG G h' hi wi kd (up M p v) ∧ RTT h h' := by
  have e := m_height g.1 (p : Int) v
  rw [if_pos (by omega), if_pos hv, Int.toNat_natCast, g.2.1 p hp] at e
  refine ⟨_, e, RG_hs g (fun q hq => ?_), RTT_hs⟩
  by_cases z : q = p
  · subst z; rw [up_same, up_same]
  · rw [up_other _ _ z, up_other _ _ z]; exact g.2.1 q hq
theorem rs_kind (g : RG G h hi wi kd M) (k : Int) : RG G (hs h 73 (up (h.1 73) 2 k)) hi wi k M ∧ RTT h (hs h 73 (up (h.1 73) 2 k)) := by
  obtain ⟨⟨m1, m2, m3, m4, m5, m6, m7⟩, g2, g3⟩ := g
  refine ⟨⟨⟨m1, m2, m3, ?_, ?_, m6, m7⟩, fun p hp => ?_, ?_⟩, fun a a1 a2 => hs_orow _ _ a1, fun j hj => ?_, rfl⟩
  · rw [hs_same, up_other _ _ (by omega)]; exact m4
  · rw [hs_same, up_other _ _ (by omega)]; exact m5
  · rw [hs_other _ _ _ (by omega)]; exact g2 p hp
  · rw [hs_same, up_same]
  · rw [hs_same, up_other _ _ (by omega)]
theorem rs_turn (g : RG G h hi wi kd M) (b : ∀ p, p < hi * wi → 0 ≤ M p ∧ M p ≤ 99) : ∃ h', f_X7_turn G h 73 = some (1, h') ∧ RG G h' hi wi kd (fun j => 99 - M j) ∧ RTT h h' :=
  ⟨_, m_turn g.1 (g.hM b), RG_hs g (fun p hp => by rw [if_pos hp, g.2.1 p hp]), RTT_hs⟩
theorem rs_hill (g : RG G h hi wi kd M) (b : ∀ p, p < hi * wi → 0 ≤ M p ∧ M p ≤ 99) {t : Nat} {a2 a3 : Int} (ht : t < hi * wi) (hA : 0 ≤ a2 ∧ a2 ≤ 99) (hB : 0 ≤ a3 ∧ a3 ≤ 99) : ∃ h', f_X7_hill G h 73 (t : Int) a2 a3 = some (1, h') ∧ RG G h' hi wi kd (fun j => max (M j) (a2 - a3 * far wi j t)) ∧ RTT h h' := by
  have e := m_hill g.1 (t := (t : Int)) hA hB (g.hM b)
  rw [if_pos (by omega), Int.toNat_natCast] at e
  exact ⟨_, e, RG_hs g (fun p hp => by rw [if_pos hp, g.2.1 p hp]), RTT_hs⟩
theorem rs_fill (g : RG G h hi wi kd M) {a b v : Int} (ok : fillOk hi wi a b) : ∃ h', f_X7_fill G h 73 a b v = some (1, h') ∧ RG G h' hi wi kd (fun j => if (a.toNat / wi ≤ j / wi ∧ j / wi ≤ b.toNat / wi) ∧ a.toNat % wi ≤ j % wi ∧ j % wi ≤ b.toNat % wi then v else M j) ∧ RTT h h' := by
  refine ⟨_, (m_fill g.1 a b v).1 ok, RG_hs g (fun p hp => ?_), RTT_hs⟩
  split
  · rfl
  · exact g.2.1 p hp
end
