/-! the calls size, height, rule, feed, see, book, event -/
section
variable {G : ct_G} {h : ct_H} {hi wi : Nat} {B : Int}
theorem x0_isSize (a : Int) : f_X0_isSize G h a = some (if 2 ≤ a ∧ a ≤ 7 then 1 else 0) := by
  unfold f_X0_isSize
  by_cases h1 : a < 2
  · rw [if_pos h1, if_neg (by omega)]
  · rw [if_neg h1]
    by_cases h2 : 7 < a
    · rw [if_pos h2, if_neg (by omega)]
    · rw [if_neg h2, if_pos (by omega)]
theorem x6_isHeight (a : Int) : f_X6_isHeight G h a = some (if 0 ≤ a ∧ a ≤ 99 then 1 else 0) := by
  unfold f_X6_isHeight
  by_cases h1 : a < 0
  · rw [if_pos h1, if_neg (by omega)]
  · rw [if_neg h1]
    by_cases h2 : 99 < a
    · rw [if_pos h2, if_neg (by omega)]
    · rw [if_neg h2, if_pos (by omega)]
theorem x6_isKind (a : Int) : f_X6_isKind G h a = some (if 0 ≤ a ∧ a ≤ 4 then 1 else 0) := by
  unfold f_X6_isKind
  by_cases h1 : a < 0
  · rw [if_pos h1, if_neg (by omega)]
  · rw [if_neg h1]
    by_cases h2 : 5 ≤ a
    · rw [if_pos h2, if_neg (by omega)]
    · rw [if_neg h2, if_pos (by omega)]
/-- size, height, rule as the class does them -/
theorem c_size {kd : Int} {M : Nat → Int} (gs : GS G) (g : CG G h 1 2 hi wi kd M) (h0 : 0 ≤ h.1 1 6) (h1 : h.1 1 6 < 2147470000) (a b : Int) : ((2 ≤ a ∧ a ≤ 7) ∧ (2 ≤ b ∧ b ≤ 7) → ∃ h', f_X6_size G h 0 a b = some (10 * (hi : Int) + wi, h') ∧ CG G h' 1 2 a.toNat b.toNat kd (fun _ => 0) ∧ CT h 1 2 500 h') ∧ (¬ ((2 ≤ a ∧ a ≤ 7) ∧ (2 ≤ b ∧ b ≤ 7)) → f_X6_size G h 0 a b = some (-2, h)) := by
  unfold f_X6_size
  rw [x0_isSize, x0_isSize, bs, bs, gs.1.1, g.1.2.2.2.1, g.1.2.2.2.2.1]
  constructor
  · rintro ⟨ha, hb⟩
    obtain ⟨nh, rfl⟩ := Int.eq_ofNat_of_zero_le (show 0 ≤ a by omega)
    obtain ⟨nw, rfl⟩ := Int.eq_ofNat_of_zero_le (show 0 ≤ b by omega)
    have h8 := g.1.2.2.2.2.2.2.2.1
    have h9 := g.1.2.2.2.2.2.2.2.2
    obtain ⟨h', e1, e2, e3⟩ := cs_lay (h := h) (o := 1) (c := 2) (nh := nh) (nw := nw) g.1.1 g.1.2.1 g.1.2.2.1 (by omega) (by omega) h0 h1
    rw [g.2.2] at e2
    refine ⟨h', ?_, e2, e3⟩
    rw [if_pos ha, if_neg (by omega), if_pos hb, if_neg (by omega), lt_eq, e1, bs, wr_id (a := 10 * (hi : Int)) (by omega) (by omega), wr_id (by omega) (by omega)]
  · intro w
    by_cases ha : 2 ≤ a ∧ a ≤ 7
    · rw [if_pos ha, if_neg (by omega), if_neg (fun u => w ⟨ha, u⟩), if_pos rfl]
    · rw [if_neg ha, if_pos rfl]
theorem c_height {kd : Int} {M : Nat → Int} (gs : GS G) (g : CG G h 1 2 hi wi kd M) (h0 : 0 ≤ h.1 1 6) (h1 : h.1 1 6 < 2147470000) (p v : Int) : ((0 ≤ p ∧ p < ((hi * wi : Nat) : Int)) ∧ (0 ≤ v ∧ v ≤ 99) → ∃ h', f_X6_height G h 0 p v = some (M p.toNat, h') ∧ CG G h' 1 2 hi wi kd (up M p.toNat v) ∧ CT h 1 2 500 h') ∧ ((0 ≤ p ∧ p < ((hi * wi : Nat) : Int)) → ¬ (0 ≤ v ∧ v ≤ 99) → f_X6_height G h 0 p v = some (-2, h)) ∧ (¬ (0 ≤ p ∧ p < ((hi * wi : Nat) : Int)) → f_X6_height G h 0 p v = some (-1, h)) := by
  unfold f_X6_height
  rw [gs.1.1, g_isPoint g.1, bs, x6_isHeight, bs]
  refine ⟨?_, fun a b => ?_, fun a => ?_⟩
  · rintro ⟨a, b⟩
    obtain ⟨q, rfl⟩ := Int.eq_ofNat_of_zero_le a.1
    have hq : q < hi * wi := by omega
    obtain ⟨h', e1, e2, e3⟩ := cs_put g h0 h1 hq b
    rw [Int.toNat_natCast]
    refine ⟨h', ?_, e2, e3⟩
    rw [if_pos a, if_neg (by omega), if_pos b, if_neg (by omega), g_heightOf g.1 hq, bs, e1, bs, (g.2.1.1 q hq).1]
  · rw [if_pos a, if_neg (by omega), if_neg b, if_pos rfl]
  · rw [if_neg a, if_pos rfl]
theorem c_rule {kd : Int} {M : Nat → Int} (gs : GS G) (g : CG G h 1 2 hi wi kd M) (h0 : 0 ≤ h.1 1 6) (h1 : h.1 1 6 < 2147470000) (k : Int) : ((0 ≤ k ∧ k ≤ 4) → ∃ h', f_X6_rule G h 0 k = some (kd, h') ∧ CG G h' 1 2 hi wi k M ∧ CT h 1 2 500 h') ∧ (¬ (0 ≤ k ∧ k ≤ 4) → f_X6_rule G h 0 k = some (-1, h)) := by
  unfold f_X6_rule
  rw [gs.1.1, x6_isKind, bs]
  refine ⟨fun a => ?_, fun a => ?_⟩
  · obtain ⟨h', e1, e2, e3⟩ := cs_kind g h0 h1 k
    refine ⟨h', ?_, e2, e3⟩
    rw [if_pos a, if_neg (by omega), lt_eq, e1, bs, g.2.2]
  · rw [if_neg a, if_pos rfl]
theorem INV.b (inv : INV G h hi wi B) (hB : B ≤ 2000000000) : 0 ≤ h.1 1 6 ∧ h.1 1 6 < 2147470000 := ⟨inv.1.2.2.2.2.2, by have := inv.2.2.2.2.2.2.2.2.1; omega⟩
theorem CT.rg {h1 : ct_H} {kd : Int} {M : Nat → Int} {b : Int} (c : CT h 1 2 b h1) (g : RG G h hi wi kd M) : RG G h1 hi wi kd M := g.fr (fun j _ => by rw [c.1 73 (by omega) (by omega)]) (c.1 74 (by omega) (by omega))
theorem s_size (gs : GS G) (inv : INV G h hi wi B) (hB : B ≤ 2000000000) (a b : Int) : SAM G hi wi (B + 7000) (f_X6_size G h 0 a b) (fun h1 => f_X7_size G h1 73 a b) := by
  obtain ⟨cg, rg⟩ := inv.1.cg
  have hb := inv.b hB
  have cs := c_size gs cg hb.1 hb.2 a b
  by_cases z : (2 ≤ a ∧ a ≤ 7) ∧ (2 ≤ b ∧ b ≤ 7)
  · obtain ⟨h1, e1, e2, e3⟩ := cs.1 z
    obtain ⟨nh, rfl⟩ := Int.eq_ofNat_of_zero_le (show 0 ≤ a by omega)
    obtain ⟨nw, rfl⟩ := Int.eq_ofNat_of_zero_le (show 0 ≤ b by omega)
    exact SAM.gnd inv e1 e2 e3 inv.1.2.2.2.1 (rs_size (e3.rg rg) (by omega) (by omega))
  · refine SAM.same inv (cs.2 z) ?_
    rw [m_size rg.1, if_neg z]
theorem s_height (gs : GS G) (inv : INV G h hi wi B) (hB : B ≤ 2000000000) (a b : Int) : SAM G hi wi (B + 7000) (f_X6_height G h 0 a b) (fun h1 => f_X7_height G h1 73 a b) := by
  obtain ⟨cg, rg⟩ := inv.1.cg
  have hb := inv.b hB
  have cs := c_height gs cg hb.1 hb.2 a b
  by_cases z : 0 ≤ a ∧ a < ((hi * wi : Nat) : Int)
  · by_cases y : 0 ≤ b ∧ b ≤ 99
    · obtain ⟨h1, e1, e2, e3⟩ := cs.1 ⟨z, y⟩
      obtain ⟨q, rfl⟩ := Int.eq_ofNat_of_zero_le z.1
      rw [Int.toNat_natCast] at e1 e2
      exact SAM.gnd inv e1 e2 e3 inv.1.2.2.2.1 (rs_put (e3.rg rg) (by omega) y)
    · refine SAM.same inv (cs.2.1 z y) ?_
      rw [m_height rg.1, if_pos z, if_neg y]
  · refine SAM.same inv (cs.2.2 z) ?_
    rw [m_height rg.1, if_neg z]
theorem s_rule (gs : GS G) (inv : INV G h hi wi B) (hB : B ≤ 2000000000) (a : Int) : SAM G hi wi (B + 7000) (f_X6_rule G h 0 a) (fun h1 => f_X7_rule G h1 73 a) := by
  obtain ⟨cg, rg⟩ := inv.1.cg
  have hb := inv.b hB
  have cs := c_rule gs cg hb.1 hb.2 a
  by_cases z : 0 ≤ a ∧ a ≤ 4
  · obtain ⟨h1, e1, e2, e3⟩ := cs.1 z
    have rk := rs_kind (e3.rg rg) a
    refine SAM.gnd inv e1 e2 e3 z ⟨_, ?_, rk.1, rk.2⟩
    rw [m_rule, if_pos z, (e3.rg rg).2.2]
  · refine SAM.same inv (cs.2 z) ?_
    rw [m_rule, if_neg z]
set_option maxRecDepth 100000 in
theorem b8_all : ∀ n : Fin 128, (Int32.ofInt ((n.val : Nat) : Int)).toInt8.toInt32.toInt = ((n.val : Nat) : Int) := by decide +kernel
theorem b8_eq {a : Int} (ha : 0 ≤ a ∧ a ≤ 127) : (Int32.ofInt a).toInt8.toInt32.toInt = a := by
  obtain ⟨n, rfl⟩ := Int.eq_ofNat_of_zero_le ha.1
  exact b8_all ⟨n, by omega⟩
theorem s_feed (gs : GS G) (inv : INV G h hi wi B) (a : Int) : SAM G hi wi (B + 7000) (f_X6_feed G h 0 a) (fun h1 => f_X7_feed G h1 73 a) := by
  have top := gs.1
  have tx := gs.2.2.2.2.2.1
  obtain ⟨n, n1, n2, n3, n4⟩ := inv.2.2.2.2.2.2.1
  by_cases z : 0 ≤ a ∧ a ≤ 127
  · by_cases y : n = 100
    · refine SAM.same inv (r := -4) ?_ ?_
      · unfold f_X6_feed f_X5_isFull
        rw [if_neg (by omega), if_pos z.2, top.2.2.2.2.2.2.2.2.2.2.1, n2, if_neg (by omega), bs, if_neg (by omega)]
      · unfold f_X7_feed
        rw [m_in, if_pos z, bs, if_neg (by omega), n3, if_pos (by omega)]
    · have e1 : f_X6_feed G h 0 a = some (((n + 1 : Nat) : Int), hs (hs h 46 (up (h.1 46) n a)) 45 (up (h.1 45) 1 ((n + 1 : Nat) : Int))) := by
        unfold f_X6_feed f_X5_isFull f_X5_append
        rw [if_neg (by omega), if_pos z.2, top.2.2.2.2.2.2.2.2.2.2.1, n2, if_pos (by omega), bs, if_pos rfl, tx.1, wtN (by rw [tx.2.1]; omega), bs, lt_eq, bs, ct_wF_hs, hs_orow (a := 45) (c := 46) _ _ (by omega), n2, wr_id (by omega) (by omega), hs_same, up_same, show (n : Int) + 1 = ((n + 1 : Nat) : Int) by omega]
      generalize hh1 : hs (hs h 46 (up (h.1 46) n a)) 45 (up (h.1 45) 1 ((n + 1 : Nat) : Int)) = h1 at e1
      have r1 : ∀ x, x ≠ 45 → x ≠ 46 → h1.1 x = h.1 x := fun x x1 x2 => by rw [← hh1, hs_orow _ _ x1, hs_orow _ _ x2]
      have r46 : h1.1 46 = up (h.1 46) n a := by rw [← hh1, hs_orow _ _ (by omega), hs_row]
      have r45 : h1.1 45 1 = ((n + 1 : Nat) : Int) := by rw [← hh1, hs_same, up_same]
      have m3 : h1.1 73 5 = (n : Int) := by rw [r1 73 (by omega) (by omega)]; exact n3
      have l1 : h1.2 = h.2 := by rw [← hh1]; rfl
      have e2 : f_X7_feed G h1 73 a = some (((n + 1 : Nat) : Int), hs (hs h1 75 (up (h1.1 75) n a)) 73 (up (h1.1 73) 5 ((n + 1 : Nat) : Int))) := by
        unfold f_X7_feed
        rw [m_in, if_pos z, bs, if_neg (by omega), m3, if_neg (by omega), tx.2.2.2.2.2.2.1, b8_eq z, wtB_eq (by omega) (by rw [tx.2.2.2.2.2.2.2.1]; omega) (by omega) (by omega), bs, lt_eq, Int.toNat_natCast, ct_wF_hs, hs_orow (a := 73) (c := 75) _ _ (by omega), m3, wr_id (by omega) (by omega), hs_same, up_same, show (n : Int) + 1 = ((n + 1 : Nat) : Int) by omega]
      refine SAM.row e1 e2 (hi' := hi) (wi' := wi) ?_
      generalize hh2 : hs (hs h1 75 (up (h1.1 75) n a)) 73 (up (h1.1 73) 5 ((n + 1 : Nat) : Int)) = h2
      have q1 : ∀ x, x ≠ 73 → x ≠ 75 → h2.1 x = h1.1 x := fun x x1 x2 => by rw [← hh2, hs_orow _ _ x1, hs_orow _ _ x2]
      have q73 : ∀ j, j ≠ 5 → h2.1 73 j = h.1 73 j := fun j hj => by rw [← hh2, hs_same, up_other _ _ hj, r1 73 (by omega) (by omega)]
      have q75 : h2.1 75 = up (h.1 75) n a := by rw [← hh2, hs_orow _ _ (by omega), hs_row, r1 75 (by omega) (by omega)]
      have q5 : h2.1 73 5 = ((n + 1 : Nat) : Int) := by rw [← hh2, hs_same, up_same]
      have l2 : h2.2 = h.2 := by rw [← hh2]; exact l1
      have p1 : h2.1 1 = h.1 1 := by rw [q1 1 (by omega) (by omega), r1 1 (by omega) (by omega)]
      have p2 : h2.1 2 = h.1 2 := by rw [q1 2 (by omega) (by omega), r1 2 (by omega) (by omega)]
      obtain ⟨cg, rg⟩ := inv.1.cg
      refine inv.gnd (fun x x1 x2 x3 x4 => by rw [q1 x (by omega) (by omega), r1 x (by omega) (by omega)]) (fun j _ j2 _ _ => q73 j j2) l2 (Or.inl ⟨p1, p2⟩) (by rw [p1]; exact Int.le_refl _) (by rw [p1]; exact inv.2.2.2.2.2.2.2.2.1) (Int.le_refl _) (cg.fr p1 p2) (rg.fr (fun j _ => q73 j (by omega)) (by rw [q1 74 (by omega) (by omega), r1 74 (by omega) (by omega)])) inv.1.2.2.2.1 ⟨n + 1, by omega, ?_, q5, fun i hi => ?_⟩
      · rw [q1 45 (by omega) (by omega)]; exact r45
      · rw [q1 46 (by omega) (by omega), r46, q75]
        by_cases w : i = n
        · subst w; rw [up_same, up_same]; exact ⟨rfl, z.1, z.2⟩
        · rw [up_other _ _ w, up_other _ _ w]; exact n4 i (by omega)
  · refine SAM.same inv (r := -2) ?_ ?_
    · unfold f_X6_feed
      by_cases w : a < 0
      · rw [if_pos w]
      · rw [if_neg w, if_neg (by omega)]
    · unfold f_X7_feed
      rw [m_in, if_neg z, bs, if_pos rfl]
/-- a row more, on either side -/
theorem app3 {o f X Y n : Nat} (n1 : X ≠ o) (n2 : Y ≠ o) (n3 : X ≠ Y) (e : h.1 o f = (n : Int)) (hX : n < G.2 X) (hY : n < G.2 Y) (hn : n < 1000) (v w : Int) : ∃ h', ((ct_wt G h X (h.1 o f) v).bind fun h3 => (ct_wt G h3 Y (h3.1 o f) w).bind fun h4 => ct_lt (ct_wF h4 o f (ct_wr ((h4.1 o f) + 1))) fun h5 => some ((h5.1 o f), h5)) = some (((n + 1 : Nat) : Int), h') ∧ h'.1 X = up (h.1 X) n v ∧ h'.1 Y = up (h.1 Y) n w ∧ h'.1 o f = ((n + 1 : Nat) : Int) ∧ (∀ j, j ≠ f → h'.1 o j = h.1 o j) ∧ h'.2 = h.2 ∧ ∀ x, x ≠ o → x ≠ X → x ≠ Y → h'.1 x = h.1 x := by
  refine ⟨hs (hs (hs h X (up (h.1 X) n v)) Y (up (h.1 Y) n w)) o (up (h.1 o) f ((n + 1 : Nat) : Int)), ?_, ?_, ?_, ?_, fun j hj => ?_, rfl, fun x x1 x2 x3 => ?_⟩
  · rw [e, wtN hX, bs, hs_orow _ _ (fun q => n1 q.symm), e, wtN hY, bs, lt_eq, ct_wF_hs, hs_orow _ _ (fun q => n2 q.symm), hs_orow _ _ (fun q => n1 q.symm), e, wr_id (by omega) (by omega), hs_same, up_same, hs_orow _ _ (fun q => n3 q.symm), show (n : Int) + 1 = ((n + 1 : Nat) : Int) by omega]
  · rw [hs_orow _ _ n1, hs_orow _ _ n3, hs_row]
  · rw [hs_orow _ _ n2, hs_row]
  · rw [hs_same, up_same]
  · rw [hs_same, up_other _ _ hj]
  · rw [hs_orow _ _ x1, hs_orow _ _ x3, hs_orow _ _ x2]
/-- a row told on both sides -/
theorem IRow.app {o a b f x y k n : Nat} {h1 h2 : ct_H} {v w : Int} (i : ∀ i, i < n → h.1 a i = h.1 x i ∧ h.1 b i = h.1 y i) (hn : n < k) (c1 : h2.1 o 2 = ((n + 1 : Nat) : Int)) (c2 : h2.1 73 f = ((n + 1 : Nat) : Int)) (c3 : h2.1 a = up (h.1 a) n v) (c4 : h2.1 b = up (h.1 b) n w) (c5 : h2.1 x = up (h.1 x) n v) (c6 : h2.1 y = up (h.1 y) n w) : IRow h2 o a b f x y k := by
  refine ⟨n + 1, by omega, c1, c2, fun j hj => ?_⟩
  rw [c3, c4, c5, c6]
  by_cases e : j = n
  · subst e; rw [up_same, up_same, up_same, up_same]; exact ⟨rfl, rfl⟩
  · rw [up_other _ _ e, up_other _ _ e, up_other _ _ e, up_other _ _ e]; exact i j (by omega)
theorem x3_isFull {o a b n k : Nat} (r : RWS G o a b k) (e : h.1 o 2 = (n : Int)) : f_X3_isFull G h o = some (if n < k then 0 else 1) := by
  unfold f_X3_isFull
  rw [r.1, r.2.1, e]
  by_cases z : n < k
  · rw [if_pos (by omega), if_pos z]
  · rw [if_neg (by omega), if_neg z]
theorem x3_clear (o : Nat) : f_X3_clear G h o = some (0, hs h o (up (h.1 o) 2 0)) := by
  unfold f_X3_clear
  rw [lt_eq, ct_wF_hs, hs_same, up_same]
theorem s_see (gs : GS G) (inv : INV G h hi wi B) (a b : Int) : SAM G hi wi (B + 7000) (f_X6_see G h 0 a b) (fun h1 => f_X7_see G h1 73 a b) := by
  have top := gs.1
  have rw1 := gs.2.2.2.2.1.1
  have rf := gs.2.2.2.2.2.2.2.1.2.1
  obtain ⟨r1, r2, r3⟩ := inv.2.2.2.1
  have ev := inv.2.2.2.2.1
  obtain ⟨n, n1, n2, n3, n4⟩ := r1
  have ig := inv.1
  by_cases z : a = -1
  · have e1 : f_X6_see G h 0 a b = some (0, hs h 36 (up (h.1 36) 2 0)) := by
      unfold f_X6_see
      rw [if_pos z, top.2.2.2.2.2.2.2.1, x3_clear, bs]
    refine SAM.row e1 (h2 := hs (hs h 36 (up (h.1 36) 2 0)) 73 (up (h.1 73) 24 0)) ?_ (hi' := hi) (wi' := wi) ?_
    · unfold f_X7_see
      rw [if_pos z, lt_eq, ct_wF_hs, hs_orow _ _ (by omega)]
    · have fr : ∀ x, x ≠ 36 → x ≠ 73 → (hs (hs h 36 (up (h.1 36) 2 0)) 73 (up (h.1 73) 24 0)).1 x = h.1 x := fun x x1 x2 => by rw [hs_orow _ _ x2, hs_orow _ _ x1]
      have f73 : ∀ j, j ≠ 24 → (hs (hs h 36 (up (h.1 36) 2 0)) 73 (up (h.1 73) 24 0)).1 73 j = h.1 73 j := fun j hj => by rw [hs_same, up_other _ _ hj]
      refine inv.rows (fun x x1 x2 x3 => fr x (by omega) (by omega)) (fun j j1 _ _ => f73 j j1) rfl ⟨0, by omega, ?_, ?_, fun i hi => absurd hi (by omega)⟩ (r2.fr (fr 39 (by omega) (by omega)) (fr 40 (by omega) (by omega)) (fr 41 (by omega) (by omega)) (f73 27 (by omega)) (fr 88 (by omega) (by omega)) (fr 89 (by omega) (by omega))) (r3.fr (fr 42 (by omega) (by omega)) (fr 43 (by omega) (by omega)) (fr 44 (by omega) (by omega)) (f73 31 (by omega)) (fr 91 (by omega) (by omega)) (fr 92 (by omega) (by omega))) (ev.fr (fr 39 (by omega) (by omega)) (fr 40 (by omega) (by omega)) (fr 41 (by omega) (by omega)))
      · rw [hs_orow _ _ (by omega), hs_same, up_same]; rfl
      · rw [hs_same, up_same]; rfl
  · by_cases y : 0 ≤ a ∧ a < ((hi * wi : Nat) : Int)
    · by_cases x : 0 ≤ b ∧ b ≤ 1
      · by_cases w : n < 6
        · obtain ⟨h1, a1, a2, a3, a4, a5, a6, a7⟩ := app3 (G := G) (h := h) (o := 36) (f := 2) (X := 37) (Y := 38) (n := n) (by omega) (by omega) (by omega) n2 (by rw [rw1.2.1]; exact w) (by rw [rw1.2.2.2]; exact w) (by omega) a b
          obtain ⟨h2, b1, b2, b3, b4, b5, b6, b7⟩ := app3 (G := G) (h := h1) (o := 73) (f := 24) (X := 86) (Y := 87) (n := n) (by omega) (by omega) (by omega) (by rw [a7 73 (by omega) (by omega) (by omega)]; exact n3) (by rw [rf.2.1]; exact w) (by rw [rf.2.2.2]; exact w) (by omega) a b
          have ig1 : MD G h1 73 74 hi wi := (ig.fr (a7 1 (by omega) (by omega) (by omega)) (a7 2 (by omega) (by omega) (by omega)) (a7 74 (by omega) (by omega) (by omega)) (fun j _ => by rw [a7 73 (by omega) (by omega) (by omega)])).2.1
          refine SAM.row (r := ((n + 1 : Nat) : Int)) (h1 := h1) (h2 := h2) ?_ ?_ (hi' := hi) (wi' := wi) ?_
          · unfold f_X6_see
            rw [if_neg z, top.1, g_isPoint ig.1, if_pos y, bs, if_neg (by omega), if_neg (by omega), if_pos x.2, top.2.2.2.2.2.2.2.1, x3_isFull rw1 n2, if_pos w, bs, if_pos rfl]
            unfold f_X3_append
            rw [rw1.1, rw1.2.2.1, a1, bs]
          · unfold f_X7_see
            rw [if_neg z, m_isPoint ig1, if_pos y, bs, if_neg (by omega), m_in, if_pos x, bs, if_neg (by omega), if_neg (by rw [a7 73 (by omega) (by omega) (by omega), n3]; omega), rf.1, rf.2.2.1]
            exact b1
          · have fr : ∀ q, q ≠ 36 → q ≠ 37 → q ≠ 38 → q ≠ 73 → q ≠ 86 → q ≠ 87 → h2.1 q = h.1 q := fun q q1 q2 q3 q4 q5 q6 => by rw [b7 q q4 q5 q6, a7 q q1 q2 q3]
            have f73 : ∀ j, j ≠ 24 → h2.1 73 j = h.1 73 j := fun j hj => by rw [b5 j hj, a7 73 (by omega) (by omega) (by omega)]
            refine inv.rows (fun q q1 q2 q3 => fr q (by omega) (by omega) (by omega) (by omega) (by omega) (by omega)) (fun j j1 _ _ => f73 j j1) (b6.trans a6) (IRow.app (h := h) (h1 := h1) (v := a) (w := b) n4 w ?_ b4 ?_ ?_ ?_ ?_) (r2.fr (fr 39 (by omega) (by omega) (by omega) (by omega) (by omega) (by omega)) (fr 40 (by omega) (by omega) (by omega) (by omega) (by omega) (by omega)) (fr 41 (by omega) (by omega) (by omega) (by omega) (by omega) (by omega)) (f73 27 (by omega)) (fr 88 (by omega) (by omega) (by omega) (by omega) (by omega) (by omega)) (fr 89 (by omega) (by omega) (by omega) (by omega) (by omega) (by omega))) (r3.fr (fr 42 (by omega) (by omega) (by omega) (by omega) (by omega) (by omega)) (fr 43 (by omega) (by omega) (by omega) (by omega) (by omega) (by omega)) (fr 44 (by omega) (by omega) (by omega) (by omega) (by omega) (by omega)) (f73 31 (by omega)) (fr 91 (by omega) (by omega) (by omega) (by omega) (by omega) (by omega)) (fr 92 (by omega) (by omega) (by omega) (by omega) (by omega) (by omega))) (ev.fr (fr 39 (by omega) (by omega) (by omega) (by omega) (by omega) (by omega)) (fr 40 (by omega) (by omega) (by omega) (by omega) (by omega) (by omega)) (fr 41 (by omega) (by omega) (by omega) (by omega) (by omega) (by omega)))
            · rw [b7 36 (by omega) (by omega) (by omega)]; exact a4
            · rw [b7 37 (by omega) (by omega) (by omega)]; exact a2
            · rw [b7 38 (by omega) (by omega) (by omega)]; exact a3
            · rw [b2, a7 86 (by omega) (by omega) (by omega)]
            · rw [b3, a7 87 (by omega) (by omega) (by omega)]
        · refine SAM.same inv (r := -4) ?_ ?_
          · unfold f_X6_see
            rw [if_neg z, top.1, g_isPoint ig.1, if_pos y, bs, if_neg (by omega), if_neg (by omega), if_pos x.2, top.2.2.2.2.2.2.2.1, x3_isFull rw1 n2, if_neg w, bs, if_neg (by omega)]
          · unfold f_X7_see
            rw [if_neg z, m_isPoint ig.2.1, if_pos y, bs, if_neg (by omega), m_in, if_pos x, bs, if_neg (by omega), n3, if_pos (by omega)]
      · refine SAM.same inv (r := -2) ?_ ?_
        · unfold f_X6_see
          rw [if_neg z, top.1, g_isPoint ig.1, if_pos y, bs, if_neg (by omega)]
          by_cases v : b < 0
          · rw [if_pos v]
          · rw [if_neg v, if_neg (by omega)]
        · unfold f_X7_see
          rw [if_neg z, m_isPoint ig.2.1, if_pos y, bs, if_neg (by omega), m_in, if_neg x, bs, if_pos rfl]
    · refine SAM.same inv (r := -1) ?_ ?_
      · unfold f_X6_see
        rw [if_neg z, top.1, g_isPoint ig.1, if_neg y, bs, if_pos rfl]
      · unfold f_X7_see
        rw [if_neg z, m_isPoint ig.2.1, if_neg y, bs, if_pos rfl]
end
