/-! the reference: lands by flood -/
def unv (D : Nat → Int) : Int := sm (fun x => if D x = -5 then 1 else 0) 0 49
theorem unv_nonneg (D : Nat → Int) : 0 ≤ unv D := sm_nonneg (fun j _ _ => by split <;> omega)
theorem unv_up {D : Nat → Int} {x : Nat} {n : Int} (hx : x < 49) (hn : 0 ≤ n) (hm : D x = -5) : unv (up D x n) = unv D - 1 := by
  unfold unv
  rw [sm_up (f := fun j => if up D x n j = -5 then 1 else 0) (g := fun j => if D j = -5 then 1 else 0) (j := x) (fun j hj => by rw [up_other _ _ hj]) (by omega) (by omega)]
  rw [up_same, if_pos hm, if_neg (by omega)]
  omega
def MP (G : ct_G) (o c cD cP : Nat) : Prop := G.1 o 16 = cD ∧ G.2 cD = 49 ∧ G.1 o 17 = cP ∧ G.2 cP = 49 ∧ o < c ∧ c < cD ∧ cD < cP
def PJ (F : Nat → Int) (hi wi : Nat) (kd L : Int) (D0 : Nat → Int) (n : Int) (p0 : Nat) (D Pl : Nat → Int) (k : Nat) : Prop :=
  (∀ x, x < hi * wi → D x = D0 x ∨ (D0 x = -5 ∧ D x = n ∧ con F hi wi kd L (plc wi p0) (plc wi x) ∧ ¬ F (plc wi x) < L)) ∧ (∀ i, i < k → ∃ x, x < hi * wi ∧ Pl i = ((x : Nat) : Int) ∧ D x = n ∧ D0 x = -5) ∧ (k : Int) + unv D ≤ 49
def PC (F : Nat → Int) (hi wi : Nat) (kd L : Int) (D0 : Nat → Int) (n : Int) (cur : Nat → Prop) (D Pl : Nat → Int) (k : Nat) : Prop :=
  ∀ x, x < hi * wi → D0 x = -5 → D x = n → (∀ i, i < k → Pl i ≠ ((x : Nat) : Int)) → ¬ cur x → ∀ y, y < hi * wi → (adj F hi wi kd L (plc wi x) (plc wi y) ∨ adj F hi wi kd L (plc wi y) (plc wi x)) → D y ≠ -5
def FRM (o cD cP : Nat) (h h' : ct_H) : Prop := (∀ j, j ≠ 19 → h'.1 o j = h.1 o j) ∧ h'.2 = h.2 ∧ (∀ a, a ≠ o → a ≠ cD → a ≠ cP → h'.1 a = h.1 a) ∧ (∀ x, h.1 cD x ≠ -5 → h'.1 cD x ≠ -5)
theorem FRM.refl {o cD cP : Nat} {h : ct_H} : FRM o cD cP h h := ⟨fun _ _ => rfl, rfl, fun _ _ _ _ => rfl, fun _ h => h⟩
theorem FRM.trans {o cD cP : Nat} {h h' h'' : ct_H} (a : FRM o cD cP h h') (b : FRM o cD cP h' h'') : FRM o cD cP h h'' := ⟨fun j hj => (b.1 j hj).trans (a.1 j hj), b.2.1.trans a.2.1, fun x x1 x2 x3 => (b.2.2.1 x x1 x2 x3).trans (a.2.2.1 x x1 x2 x3), fun x hx => b.2.2.2 x (a.2.2.2 x hx)⟩
section
variable {G : ct_G} {h : ct_H} {o c cD cP hi wi : Nat} {L kd n : Int} {F D0 : Nat → Int} {p0 : Nat} {cur : Nat → Prop}
theorem FRM.md {h' : ct_H} (mp : MP G o c cD cP) (f : FRM o cD cP h h') (m : MD G h o c hi wi) : MD G h' o c hi wi := by
  obtain ⟨g1, g2, g3, g4, g5, g8, g9⟩ := m
  exact ⟨g1, g2, g3, by rw [f.1 0 (by omega)]; exact g4, by rw [f.1 1 (by omega)]; exact g5, g8, g9⟩
theorem FRM.row {h' : ct_H} (mp : MP G o c cD cP) (f : FRM o cD cP h h') : h'.1 c = h.1 c := f.2.2.1 c (by have := mp.2.2.2.2; omega) (by have := mp.2.2.2.2; omega) (by have := mp.2.2.2.2; omega)
theorem m_visit (mp : MP G o c cD cP) (m : MD G h o c hi wi) (r : RH F (h.1 c) hi wi) (hn : 0 ≤ n) {k y : Nat} (hk : h.1 o 19 = (k : Nat)) (pj : PJ F hi wi kd L D0 n p0 (h.1 cD) (h.1 cP) k) (pc : PC F hi wi kd L D0 n cur (h.1 cD) (h.1 cP) k) (hy : y < hi * wi) (hcon : ¬ F (plc wi y) < L → con F hi wi kd L (plc wi p0) (plc wi y)) : ∃ (h' : ct_H) (k' : Nat), f_X7_visit G h o L (y : Int) n = some h' ∧ FRM o cD cP h h' ∧ h'.1 o 19 = (k' : Nat) ∧ PJ F hi wi kd L D0 n p0 (h'.1 cD) (h'.1 cP) k' ∧ PC F hi wi kd L D0 n cur (h'.1 cD) (h'.1 cP) k' ∧ (¬ F (plc wi y) < L → h'.1 cD y ≠ -5) ∧ 2 * unv (h'.1 cD) + (k' : Int) ≤ 2 * unv (h.1 cD) + (k : Int) := by
  obtain ⟨p1, p2, p3, p4, q1, q2, q3⟩ := mp
  have h49 : hi * wi ≤ 49 := Nat.mul_le_mul m.2.2.2.2.2.1.2 m.2.2.2.2.2.2.2
  unfold f_X7_visit
  rw [m.1, rdN (by rw [m.2.1]; omega), bs, (r.1 y hy).1]
  by_cases z : F (plc wi y) < L
  · rw [if_pos z]
    exact ⟨h, k, rfl, FRM.refl, hk, pj, pc, fun w => absurd z w, Int.le_refl _⟩
  · rw [if_neg z, p1, rdN (by omega), bs]
    by_cases w : h.1 cD y = -5
    · obtain ⟨j1, j2, j3⟩ := pj
      have u1 : 1 ≤ unv (h.1 cD) := by
        have := unv_up (n := 0) (show y < 49 by omega) (by omega) w
        have := unv_nonneg (up (h.1 cD) y 0)
        omega
      have d0 : D0 y = -5 := by
        rcases j1 y hy with v | v
        · rw [← v]; exact w
        · exact v.1
      rw [if_pos w, wtN (by omega), bs, p3, hs_orow _ _ (show o ≠ cD by omega), hk, wtN (by omega), bs, lt_eq, ct_wF_hs, hs_orow _ _ (show o ≠ cP by omega), hs_orow _ _ (show o ≠ cD by omega), hk, hs_orow _ _ (show cP ≠ cD by omega), wr_id (by omega) (by omega)]
      generalize hD : up (h.1 cD) y n = D'
      generalize hP : up (h.1 cP) k ((y : Nat) : Int) = P'
      generalize hO : up (h.1 o) 19 ((k : Int) + 1) = O'
      have rD : (hs (hs (hs h cD D') cP P') o O').1 cD = D' := by rw [hs_orow _ _ (by omega), hs_orow _ _ (by omega), hs_row]
      have rP : (hs (hs (hs h cD D') cP P') o O').1 cP = P' := by rw [hs_orow _ _ (by omega), hs_row]
      have ro : (hs (hs (hs h cD D') cP P') o O').1 o = O' := hs_row _ _ _
      have Dy : D' y = n := by rw [← hD, up_same]
      have Dx : ∀ x, x ≠ y → D' x = h.1 cD x := fun x hx => by rw [← hD, up_other _ _ hx]
      have Dm : ∀ x, h.1 cD x ≠ -5 → D' x ≠ -5 := fun x hx => by
        by_cases e : x = y
        · rw [e, Dy]; omega
        · rw [Dx x e]; exact hx
      refine ⟨_, k + 1, rfl, ⟨fun j hj => by rw [ro, ← hO, up_other _ _ hj], rfl, fun a a1 a2 a3 => by rw [hs_orow _ _ a1, hs_orow _ _ a3, hs_orow _ _ a2], by rw [rD]; exact Dm⟩, by rw [ro, ← hO, up_same]; rfl, ?_, ?_, fun _ => by rw [rD, Dy]; omega, ?_⟩
      · rw [rD, rP]
        refine ⟨fun x hx => ?_, fun i hi => ?_, ?_⟩
        · by_cases e : x = y
          · subst e; exact Or.inr ⟨d0, Dy, hcon z, z⟩
          · rw [Dx x e]; exact j1 x hx
        · by_cases e : i = k
          · subst e; exact ⟨y, hy, by rw [← hP, up_same], Dy, d0⟩
          · obtain ⟨x, x1, x2, x3, x4⟩ := j2 i (by omega)
            refine ⟨x, x1, by rw [← hP, up_other _ _ e]; exact x2, ?_, x4⟩
            by_cases e2 : x = y
            · rw [e2]; exact Dy
            · rw [Dx x e2]; exact x3
        · rw [← hD, unv_up (by omega) hn w]; omega
      · rw [rD, rP]
        intro x x1 x2 x3 x4 x5 b b1 b2
        have xy : x ≠ y := fun e => x4 k (by omega) (by rw [← hP, up_same, e])
        refine Dm b (pc x x1 x2 (by rw [← Dx x xy]; exact x3) (fun i hi => ?_) x5 b b1 b2)
        have := x4 i (by omega)
        rwa [← hP, up_other _ _ (by omega)] at this
      · rw [rD, ← hD, unv_up (by omega) hn w]; omega
    · rw [if_neg w]
      exact ⟨h, k, rfl, FRM.refl, hk, pj, pc, fun _ => w, Int.le_refl _⟩
end
/-! neighbours of a point -/
section
variable {F : Nat → Int} {hi wi : Nat} {kd L : Int}
def plq (wi : Nat) (y x : Nat) : Nat := (wi + 2) * (y + 1) + x + 1
theorem plq_dm {y x : Nat} (hx : x < wi) : plq wi y x / (wi + 2) = y + 1 ∧ plq wi y x % (wi + 2) = x + 1 := by
  unfold plq
  rw [Nat.add_assoc, Nat.mul_add_div (by omega), Nat.div_eq_of_lt (by omega), Nat.mul_add_mod, Nat.mod_eq_of_lt (by omega)]
  exact ⟨rfl, rfl⟩
theorem plq_plc (h2 : 2 ≤ wi ∧ wi ≤ 7) {y x : Nat} (hx : x < wi) : plc wi (y * wi + x) = plq wi y x := plc_back h2 hx
theorem plc_plq {p : Nat} : plc wi p = plq wi (p / wi) (p % wi) := rfl
/-- whether the reference goes from (r, c) to (y, x) -/
def goP (F : Nat → Int) (wi : Nat) (kd L : Int) (r c : Nat) (y x : Nat) : Prop := y = r ∨ x = c ∨ js F (wi + 2) kd (plq wi (min y r) (min x c)) L = 1
theorem goP_con (h1 : 2 ≤ hi ∧ hi ≤ 7) (h2 : 2 ≤ wi ∧ wi ≤ 7) {r c y x : Nat} (hr : r < hi) (hc : c < wi) (hy : y < hi) (hx : x < wi) (dy : y ≤ r + 1 ∧ r ≤ y + 1) (dx : x ≤ c + 1 ∧ c ≤ x + 1) (g : goP F wi kd L r c y x) (i1 : ¬ F (plq wi r c) < L) (i2 : ¬ F (plq wi y x) < L) : con F hi wi kd L (plq wi r c) (plq wi y x) := by
  have sqc := fun (y x : Nat) (hy : y < hi) (hx : x < wi) => (show (plq wi y x / (wi + 2) ≤ hi ∧ plq wi y x % (wi + 2) ≤ wi) from by rw [(plq_dm hx).1, (plq_dm hx).2]; omega)
  have right : ∀ y x : Nat, plq wi y (x + 1) = plq wi y x + 1 := fun y x => by unfold plq; omega
  have below : ∀ y x : Nat, plq wi (y + 1) x = plq wi y x + (wi + 2) := fun y x => by unfold plq; rw [Nat.mul_add (wi + 2) (y + 1) 1]; omega
  rcases Nat.lt_trichotomy y r with a | a | a <;> rcases Nat.lt_trichotomy x c with b | b | b
  · obtain rfl : r = y + 1 := by omega
    obtain rfl : c = x + 1 := by omega
    have j : js F (wi + 2) kd (plq wi y x) L = 1 := by
      rcases g with g | g | g
      · omega
      · omega
      · rwa [Nat.min_eq_left (by omega), Nat.min_eq_left (by omega)] at g
    have e : plq wi (y + 1) (x + 1) = plq wi y x + (wi + 2) + 1 := by rw [right, below]
    rw [e] at i1 ⊢
    exact con_symm (con_adj ⟨_, sqc y x hy hx, Or.inr (Or.inr ⟨j, Or.inl ⟨i2, rfl, rfl⟩⟩)⟩)
  · obtain rfl : r = y + 1 := by omega
    subst b
    rw [below] at i1 ⊢
    exact con_symm (con_adj ⟨_, sqc y x hy hx, Or.inr (Or.inl ⟨i2, i1, rfl, rfl⟩)⟩)
  · obtain rfl : r = y + 1 := by omega
    obtain rfl : x = c + 1 := by omega
    have j : js F (wi + 2) kd (plq wi y c) L = 1 := by
      rcases g with g | g | g
      · omega
      · omega
      · rwa [Nat.min_eq_left (by omega), Nat.min_eq_right (by omega)] at g
    rw [below] at i1 ⊢
    rw [right] at i2 ⊢
    have v : F (plq wi y c) < L := Classical.byContradiction fun w => i1 ((js_in j).1 w).2.2.1
    exact con_symm (con_adj ⟨_, sqc y c hy hc, Or.inr (Or.inr ⟨j, Or.inr ⟨v, rfl, rfl⟩⟩)⟩)
  · subst a
    obtain rfl : c = x + 1 := by omega
    rw [right] at i1 ⊢
    exact con_symm (con_adj ⟨_, sqc y x hy hx, Or.inl ⟨i2, i1, rfl, rfl⟩⟩)
  · subst a; subst b; exact con_refl
  · subst a
    obtain rfl : x = c + 1 := by omega
    rw [right] at i2 ⊢
    exact con_adj ⟨_, sqc y c hy hc, Or.inl ⟨i1, i2, rfl, rfl⟩⟩
  · obtain rfl : y = r + 1 := by omega
    obtain rfl : c = x + 1 := by omega
    have j : js F (wi + 2) kd (plq wi r x) L = 1 := by
      rcases g with g | g | g
      · omega
      · omega
      · rwa [Nat.min_eq_right (by omega), Nat.min_eq_left (by omega)] at g
    rw [below] at i2 ⊢
    rw [right] at i1 ⊢
    have v : F (plq wi r x) < L := Classical.byContradiction fun w => i1 ((js_in j).1 w).2.1
    exact con_adj ⟨_, sqc r x hr hx, Or.inr (Or.inr ⟨j, Or.inr ⟨v, rfl, rfl⟩⟩)⟩
  · obtain rfl : y = r + 1 := by omega
    subst b
    rw [below] at i2 ⊢
    exact con_adj ⟨_, sqc r x hr hx, Or.inr (Or.inl ⟨i1, i2, rfl, rfl⟩)⟩
  · obtain rfl : y = r + 1 := by omega
    obtain rfl : x = c + 1 := by omega
    have j : js F (wi + 2) kd (plq wi r c) L = 1 := by
      rcases g with g | g | g
      · omega
      · omega
      · rwa [Nat.min_eq_right (by omega), Nat.min_eq_right (by omega)] at g
    have e : plq wi (r + 1) (c + 1) = plq wi r c + (wi + 2) + 1 := by rw [right, below]
    rw [e] at i2 ⊢
    exact con_adj ⟨_, sqc r c hr hc, Or.inr (Or.inr ⟨j, Or.inl ⟨i1, rfl, rfl⟩⟩)⟩
theorem plq_inj {y x y' x' : Nat} (hx : x < wi) (hx' : x' < wi) (e : plq wi y x = plq wi y' x') : y = y' ∧ x = x' := by
  have a := plq_dm (y := y) hx
  have b := plq_dm (y := y') hx'
  rw [e] at a
  omega
theorem adj_goP (h1 : 2 ≤ hi ∧ hi ≤ 7) (h2 : 2 ≤ wi ∧ wi ≤ 7) {r c y x : Nat} (hc : c < wi) (hx : x < wi) (h : adj F hi wi kd L (plq wi r c) (plq wi y x) ∨ adj F hi wi kd L (plq wi y x) (plq wi r c)) : goP F wi kd L r c y x ∧ (y ≤ r + 1 ∧ r ≤ y + 1) ∧ (x ≤ c + 1 ∧ c ≤ x + 1) := by
  have right : ∀ y x : Nat, plq wi y (x + 1) = plq wi y x + 1 := fun y x => by unfold plq; omega
  have below : ∀ y x : Nat, plq wi (y + 1) x = plq wi y x + (wi + 2) := fun y x => by unfold plq; rw [Nat.mul_add (wi + 2) (y + 1) 1]; omega
  have key : ∀ (r c y x : Nat), c < wi → x < wi → adj F hi wi kd L (plq wi r c) (plq wi y x) → (y = r ∧ x = c + 1) ∨ (y = r + 1 ∧ x = c) ∨ (y = r + 1 ∧ x = c + 1 ∧ js F (wi + 2) kd (plq wi r c) L = 1) ∨ (y = r + 1 ∧ x + 1 = c ∧ js F (wi + 2) kd (plq wi r x) L = 1) := by
    intro r c y x hc hx ad
    obtain ⟨q, qq, ad⟩ := ad
    have dx := plq_dm (y := y) hx
    have dc := plq_dm (y := r) hc
    have d1 := dm_1 h2 qq.2
    have ds := dm_s (p := q) h2
    rcases ad with ⟨_, _, a, b⟩ | ⟨_, _, a, b⟩ | ⟨j, ⟨_, a, b⟩ | ⟨_, a, b⟩⟩
    · rw [a] at dc; rw [b] at dx
      exact Or.inl (by omega)
    · rw [a] at dc; rw [b] at dx
      exact Or.inr (Or.inl (by omega))
    · rw [a] at dc; rw [b] at dx
      have d2 := dm_1 (p := q + (wi + 2)) h2 (by rw [ds.2]; exact qq.2)
      refine Or.inr (Or.inr (Or.inl ⟨by omega, by omega, by rw [a]; exact j⟩))
    · rw [a] at dc; rw [b] at dx
      have e : q = plq wi r x := by
        have : c = x + 1 := by omega
        subst this
        rw [right] at a
        omega
      refine Or.inr (Or.inr (Or.inr ⟨by omega, by omega, by rw [← e]; exact j⟩))
  rcases h with h | h
  · rcases key r c y x hc hx h with k | k | k | k
    · exact ⟨Or.inl k.1, by omega, by omega⟩
    · exact ⟨Or.inr (Or.inl k.2), by omega, by omega⟩
    · refine ⟨Or.inr (Or.inr ?_), by omega, by omega⟩
      rw [Nat.min_eq_right (by omega), Nat.min_eq_right (by omega)]; exact k.2.2
    · refine ⟨Or.inr (Or.inr ?_), by omega, by omega⟩
      rw [Nat.min_eq_right (by omega), Nat.min_eq_left (by omega)]; exact k.2.2
  · rcases key y x r c hx hc h with k | k | k | k
    · exact ⟨Or.inl k.1.symm, by omega, by omega⟩
    · exact ⟨Or.inr (Or.inl k.2.symm), by omega, by omega⟩
    · refine ⟨Or.inr (Or.inr ?_), by omega, by omega⟩
      rw [Nat.min_eq_left (by omega), Nat.min_eq_left (by omega)]; exact k.2.2
    · refine ⟨Or.inr (Or.inr ?_), by omega, by omega⟩
      rw [Nat.min_eq_left (by omega), Nat.min_eq_right (by omega)]; exact k.2.2
end
