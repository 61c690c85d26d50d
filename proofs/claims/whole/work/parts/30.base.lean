/-! B: the pure side. Rewriting rules for the functions of parts 13-23 -/
def hs (h : ct_H) (c : Nat) (f : Nat → Int) : ct_H := (fun a b => if a = c then f b else h.1 a b, h.2)
def up (f : Nat → Int) (j : Nat) (v : Int) : Nat → Int := fun b => if b = j then v else f b
theorem ct_wF_hs (h : ct_H) (i j : Nat) (v : Int) : ct_wF h i j v = hs h i (up (h.1 i) j v) := by
  unfold ct_wF hs up
  congr 1
  funext a b
  by_cases ha : a = i
  · subst ha; simp
  · simp [ha]
theorem hs_same (h : ct_H) (c : Nat) (f : Nat → Int) (b : Nat) : (hs h c f).1 c b = f b := by unfold hs; simp
theorem hs_row (h : ct_H) (c : Nat) (f : Nat → Int) : (hs h c f).1 c = f := by funext b; exact hs_same h c f b
theorem hs_other (h : ct_H) {a c : Nat} (f : Nat → Int) (b : Nat) (hn : a ≠ c) : (hs h c f).1 a b = h.1 a b := by unfold hs; simp [hn]
theorem hs_orow (h : ct_H) {a c : Nat} (f : Nat → Int) (hn : a ≠ c) : (hs h c f).1 a = h.1 a := by funext b; exact hs_other h f b hn
theorem hs_long (h : ct_H) (c : Nat) (f : Nat → Int) : (hs h c f).2 = h.2 := rfl
theorem hs_hs (h : ct_H) (c : Nat) (f g : Nat → Int) : hs (hs h c f) c g = hs h c g := by
  unfold hs
  congr 1
  funext a b
  by_cases ha : a = c <;> simp [ha]
theorem hs_comm (h : ct_H) {c d : Nat} (f g : Nat → Int) (hn : c ≠ d) : hs (hs h c f) d g = hs (hs h d g) c f := by
  unfold hs
  congr 1
  funext a b
  by_cases ha : a = c
  · subst ha; simp [hn]
  · by_cases hb : a = d <;> simp [ha, hb]
    intro h2; exact absurd h2.symm hn
theorem hs_self (h : ct_H) (c : Nat) : hs h c (h.1 c) = h := by
  unfold hs
  ext a b
  · by_cases ha : a = c <;> simp [ha]
  · rfl
theorem up_same (f : Nat → Int) (j : Nat) (v : Int) : up f j v j = v := by unfold up; simp
theorem up_other (f : Nat → Int) {j b : Nat} (v : Int) (hn : b ≠ j) : up f j v b = f b := by unfold up; simp [hn]
theorem wr_id {a : Int} (h1 : -2147483648 ≤ a) (h2 : a < 2147483648) : ct_wr a = a := ct_wr_id ⟨h1, h2⟩
theorem dv_eq {a b : Int} (ha : 0 ≤ a) (hb : 0 < b) : ct_dv a b = some (a / b) := by unfold ct_dv; rw [if_pos ⟨ha, hb⟩]
theorem md_eq {a b : Int} (ha : 0 ≤ a) (hb : 0 < b) : ct_md a b = some (a % b) := by unfold ct_md; rw [if_pos ⟨ha, hb⟩]
theorem rd_eq {G : ct_G} {h : ct_H} {a : Nat} {i : Int} (h0 : 0 ≤ i) (h1 : i < (G.2 a : Int)) : ct_rd G h a i = some (h.1 a i.toNat) := by unfold ct_rd; rw [if_pos ⟨h0, h1⟩]
theorem rdN {G : ct_G} {h : ct_H} {a : Nat} {i : Nat} (h1 : i < G.2 a) : ct_rd G h a (i : Int) = some (h.1 a i) := by
  rw [rd_eq (by omega) (by omega), Int.toNat_natCast]
theorem rdL_eq {G : ct_G} {h : ct_H} {a : Nat} {i : Int} (h0 : 0 ≤ i) (h1 : i < (G.2 a : Int)) : ct_rdL G h a i = some (h.2 a i.toNat) := by unfold ct_rdL; rw [if_pos ⟨h0, h1⟩]
theorem rdR_eq {G : ct_G} {a : Nat} {i : Int} (h0 : 0 ≤ i) (h1 : i < (G.2 a : Int)) : ct_rdR G a i = some (G.1 a i.toNat) := by unfold ct_rdR; rw [if_pos ⟨h0, h1⟩]
theorem wt_eq {G : ct_G} {h : ct_H} {a : Nat} {i v : Int} (h0 : 0 ≤ i) (h1 : i < (G.2 a : Int)) : ct_wt G h a i v = some (hs h a (up (h.1 a) i.toNat v)) := by unfold ct_wt; rw [if_pos ⟨h0, h1⟩, ct_wF_hs]
theorem wtN {G : ct_G} {h : ct_H} {a : Nat} {i : Nat} {v : Int} (h1 : i < G.2 a) : ct_wt G h a (i : Int) v = some (hs h a (up (h.1 a) i v)) := by
  rw [wt_eq (by omega) (by omega), Int.toNat_natCast]
theorem wtB_eq {G : ct_G} {h : ct_H} {a : Nat} {i v : Int} (h0 : 0 ≤ i) (h1 : i < (G.2 a : Int)) (h2 : -128 ≤ v) (h3 : v ≤ 127) : ct_wtB G h a i v = some (hs h a (up (h.1 a) i.toNat v)) := by unfold ct_wtB; rw [if_pos ⟨⟨h0, h1⟩, h2, h3⟩, ct_wF_hs]
theorem wtZ_eq {G : ct_G} {h : ct_H} {a : Nat} {i v : Int} (h0 : 0 ≤ i) (h1 : i < (G.2 a : Int)) (h2 : v = 0 ∨ v = 1) : ct_wtZ G h a i v = some (hs h a (up (h.1 a) i.toNat v)) := by unfold ct_wtZ; rw [if_pos ⟨⟨h0, h1⟩, h2⟩, ct_wF_hs]
theorem bs {α β : Type} (a : α) (f : α → Option β) : (some a).bind f = f a := rfl
theorem lt_eq {β α : Type} (a : β) (F : β → Option α) : ct_lt a F = F a := rfl
theorem jn_eq {β α : Type} (f : (β → Option α) → Option α) (k : β → Option α) : ct_jn f k = f k := rfl
theorem bz01 {P : Prop} (dp : Decidable P) : ct_bz (@ite _ P dp 1 0) = some (@ite _ P dp 1 0) := by unfold ct_bz; split <;> simp
/-- sums over i, i+1, .. m times -/
def sm (f : Nat → Int) : Nat → Nat → Int
  | _, 0 => 0
  | i, m + 1 => f i + sm f (i + 1) m
theorem sm_last (f : Nat → Int) : ∀ m i, sm f i (m + 1) = sm f i m + f (i + m)
  | 0, i => by simp [sm]
  | m + 1, i => by
    rw [sm, sm_last f m (i + 1), sm]
    rw [show i + 1 + m = i + (m + 1) by omega]
    omega
theorem sm_congr {f g : Nat → Int} : ∀ {m i : Nat}, (∀ j, i ≤ j → j < i + m → f j = g j) → sm f i m = sm g i m
  | 0, _, _ => rfl
  | m + 1, i, h => by
    rw [sm, sm, h i (by omega) (by omega), sm_congr (fun j h1 h2 => h j (by omega) (by omega))]
theorem sm_nonneg {f : Nat → Int} : ∀ {m i : Nat}, (∀ j, i ≤ j → j < i + m → 0 ≤ f j) → 0 ≤ sm f i m
  | 0, _, _ => Int.le_refl 0
  | m + 1, i, h => by
    rw [sm]
    have := h i (by omega) (by omega)
    have := sm_nonneg (m := m) (i := i + 1) (fun j h1 h2 => h j (by omega) (by omega))
    omega
theorem sm_le {f : Nat → Int} {b : Int} (hb : 0 ≤ b) : ∀ {m i : Nat}, (∀ j, i ≤ j → j < i + m → f j ≤ b) → sm f i m ≤ m * b
  | 0, _, _ => by simp [sm]
  | m + 1, i, h => by
    rw [sm]
    have h1 := h i (by omega) (by omega)
    have h2 := sm_le hb (m := m) (i := i + 1) (fun j h1 h2 => h j (by omega) (by omega))
    have : ((m + 1 : Nat) : Int) * b = (m : Int) * b + b := by
      rw [Int.natCast_add, Int.add_mul]; simp
    omega
/-! the ground of the class: Ground object o, heights c -/
def GR (G : ct_G) (h : ct_H) (o c hi wi : Nat) : Prop := G.1 o 0 = c ∧ G.2 c = 81 ∧ c ≠ o ∧ h.1 o 1 = hi ∧ h.1 o 2 = wi ∧ h.1 o 3 = (wi + 2 : Nat) ∧ h.1 o 4 = ((hi + 2) * (wi + 2) : Nat) ∧ (2 ≤ hi ∧ hi ≤ 7) ∧ (2 ≤ wi ∧ wi ≤ 7)
def plc (wi p : Nat) : Nat := (wi + 2) * (p / wi + 1) + p % wi + 1
theorem mul_b {a b : Nat} (ha : a ≤ 9) (hb : b ≤ 9) : a * b ≤ 81 := Nat.mul_le_mul ha hb
theorem w_cases {w : Nat} (h : 2 ≤ w ∧ w ≤ 7) : w = 2 ∨ w = 3 ∨ w = 4 ∨ w = 5 ∨ w = 6 ∨ w = 7 := by omega
theorem plc_lt {hi wi p : Nat} (h1 : 2 ≤ hi ∧ hi ≤ 7) (h2 : 2 ≤ wi ∧ wi ≤ 7) (hp : p < hi * wi) : plc wi p < (hi + 2) * (wi + 2) ∧ plc wi p < 81 := by
  unfold plc
  rcases w_cases h1 with rfl | rfl | rfl | rfl | rfl | rfl <;> rcases w_cases h2 with rfl | rfl | rfl | rfl | rfl | rfl <;> omega
section
variable {G : ct_G} {h : ct_H} {o c hi wi : Nat}
theorem g_points (g : GR G h o c hi wi) : f_X0_points G h o = some ((hi * wi : Nat) : Int) := by
  obtain ⟨g1, g2, g3, g4, g5, g6, g7, g8, g9⟩ := g
  unfold f_X0_points
  have : hi * wi ≤ 81 := mul_b (by omega) (by omega)
  rw [g4, g5, ← Int.natCast_mul, wr_id (by omega) (by omega)]
theorem g_isPoint (g : GR G h o c hi wi) (p : Int) : f_X0_isPoint G h o p = some (if 0 ≤ p ∧ p < ((hi * wi : Nat) : Int) then 1 else 0) := by
  unfold f_X0_isPoint
  rw [g_points g, bs]
  by_cases h0 : p < 0
  · rw [if_pos h0, if_neg (by omega)]
  · rw [if_neg h0]
    by_cases h1 : ((hi * wi : Nat) : Int) ≤ p
    · rw [if_pos h1, if_neg (by omega)]
    · rw [if_neg h1, if_pos (by omega)]
theorem g_placeOf (g : GR G h o c hi wi) {p : Nat} (hp : p < hi * wi) : f_X0_placeOf G h o (p : Int) = some ((plc wi p : Nat) : Int) := by
  obtain ⟨g1, g2, g3, g4, g5, g6, g7, g8, g9⟩ := g
  have hb := (plc_lt g8 g9 hp).2
  unfold f_X0_placeOf
  rw [g5, g6, dv_eq (by omega) (by omega), bs, md_eq (by omega) (by omega), bs]
  have e1 : (p : Int) / (wi : Int) = ((p / wi : Nat) : Int) := by omega
  have e2 : (p : Int) % (wi : Int) = ((p % wi : Nat) : Int) := by omega
  rw [e1, e2]
  unfold plc at hb ⊢
  generalize p / wi = D at hb ⊢
  generalize p % wi = R at hb ⊢
  have hD : D + 1 ≤ (wi + 2) * (D + 1) := Nat.le_mul_of_pos_left _ (by omega)
  rw [wr_id (a := (D : Int) + 1) (by omega) (by omega)]
  have e3 : ((wi + 2 : Nat) : Int) * ((D : Int) + 1) = (((wi + 2) * (D + 1) : Nat) : Int) := by rw [Int.natCast_mul]; rfl
  rw [e3]
  generalize (wi + 2) * (D + 1) = Z at hb hD ⊢
  rw [wr_id (a := (Z : Int)) (by omega) (by omega), wr_id (a := (Z : Int) + (R : Int)) (by omega) (by omega), wr_id (by omega) (by omega)]
  congr 1
theorem g_heightOf (g : GR G h o c hi wi) {p : Nat} (hp : p < hi * wi) : f_X0_heightOf G h o (p : Int) = some (h.1 c (plc wi p)) := by
  unfold f_X0_heightOf
  rw [g_placeOf g hp, bs, g.1, rdN (by rw [g.2.1]; exact (plc_lt g.2.2.2.2.2.2.2.1 g.2.2.2.2.2.2.2.2 hp).2), bs]
end
