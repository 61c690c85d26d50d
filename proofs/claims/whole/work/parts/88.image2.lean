/-! the calls image and undo -/
section
variable {G : ct_G} {h : ct_H} {hi wi : Nat} {B : Int}
theorem cpy49 {f g : Nat → Int} {j : Nat} (hj : j < 49) : va_cpy f g (0 : Int).toNat (0 : Int).toNat (49 : Int).toNat j = f j := by
  have := cpy0 (f := f) (g := g) (n := 49) (j := j)
  rw [if_pos hj] at this
  exact this
theorem m_image (gs : GS G) {F : Nat → Int} (md : MD G h 73 74 hi wi) (r : RH F (h.1 74) hi wi) : ∃ h' : ct_H, f_X7_image G h 73 = some (sm (fun p => F (plc wi p)) 0 (hi * wi), h') ∧ h'.1 73 35 = 1 ∧ (∀ j, j ≠ 35 → h'.1 73 j = h.1 73 j) ∧ (h'.1 93 0 = h.1 73 0 ∧ h'.1 93 1 = h.1 73 1 ∧ h'.1 93 2 = h.1 73 2 ∧ h'.1 93 3 = h.1 73 24 ∧ h'.1 93 4 = h.1 73 27 ∧ h'.1 93 5 = h.1 73 31) ∧ (∀ p, p < 49 → h'.1 94 p = h.1 74 p) ∧ (∀ t, t < 6 → ∀ j, j < srn t → h'.1 (96 + t) j = h.1 (srw t) j) ∧ (∀ x, x ≠ 73 → ¬ (93 ≤ x ∧ x ≤ 101) → h'.1 x = h.1 x) ∧ h'.2 = h.2 := by
  obtain ⟨a0, -, -, -, -, ⟨d1, d2, d3, d4, d5, d6, d7⟩⟩ := gs.2.2.2.2.2.2.2.1
  obtain ⟨m1, m2, m3, m4, m5, m6, m7⟩ := md
  generalize hU : up (up (up (up (up (up (h.1 93) 0 (h.1 73 0)) 1 (h.1 73 1)) 2 (h.1 73 2)) 3 (h.1 73 24)) 4 (h.1 73 27)) 5 (h.1 73 31) = U
  generalize hV : va_cpy (h.1 74) (h.1 94) (0 : Int).toNat (0 : Int).toNat (49 : Int).toNat = V
  generalize hS : up (h.1 73) 35 1 = S
  have s0 : ∀ j, j ≠ 35 → S j = h.1 73 j := fun j hj => by rw [← hS, up_other _ _ hj]
  obtain ⟨h', p1, p2, p3, p4⟩ := m_imgL gs 6 0 200 (hs (hs (hs h 73 S) 93 U) 94 V) (by omega) (by omega)
  have q73 : h'.1 73 = S := by rw [p3 73 (by omega), hs_orow _ _ (by omega), hs_orow _ _ (by omega), hs_row]
  have q74 : h'.1 74 = h.1 74 := by rw [p3 74 (by omega), hs_orow _ _ (by omega), hs_orow _ _ (by omega), hs_orow _ _ (by omega)]
  have md' : MD G h' 73 74 hi wi := ⟨m1, m2, m3, by rw [q73, s0 0 (by omega)]; exact m4, by rw [q73, s0 1 (by omega)]; exact m5, m6, m7⟩
  have q93 : h'.1 93 = U := by rw [p3 93 (by omega), hs_orow _ _ (by omega), hs_row]
  refine ⟨h', ?_, by rw [q73, ← hS, up_same], fun j hj => by rw [q73]; exact s0 j hj, ?_, fun p hp => ?_, fun t ht j hj => ?_, fun x x1 x2 => ?_, by rw [p4]; rfl⟩
  · unfold f_X7_image
    rw [lt_eq, ct_wF_hs, hS, d1]
    rw [wt_eq (by omega) (by rw [d2]; omega), bs, hs_same, s0 0 (by omega), hs_orow (a := 93) (c := 73) _ _ (by omega)]
    rw [hs_other (a := 73) (c := 93) _ _ _ (by omega), hs_same, s0 1 (by omega), wt_eq (by omega) (by rw [d2]; omega), bs, hs_hs, hs_row]
    rw [hs_other (a := 73) (c := 93) _ _ _ (by omega), hs_same, s0 2 (by omega), wt_eq (by omega) (by rw [d2]; omega), bs, hs_hs, hs_row]
    rw [hs_other (a := 73) (c := 93) _ _ _ (by omega), hs_same, s0 24 (by omega), wt_eq (by omega) (by rw [d2]; omega), bs, hs_hs, hs_row]
    rw [hs_other (a := 73) (c := 93) _ _ _ (by omega), hs_same, s0 27 (by omega), wt_eq (by omega) (by rw [d2]; omega), bs, hs_hs, hs_row]
    rw [hs_other (a := 73) (c := 93) _ _ _ (by omega), hs_same, s0 31 (by omega), wt_eq (by omega) (by rw [d2]; omega), bs, hs_hs, hs_row]
    rw [show up (up (up (up (up (up (h.1 93) (0 : Int).toNat (h.1 73 0)) (1 : Int).toNat (h.1 73 1)) (2 : Int).toNat (h.1 73 2)) (3 : Int).toNat (h.1 73 24)) (4 : Int).toNat (h.1 73 27)) (5 : Int).toNat (h.1 73 31) = U from hU]
    rw [a0.1, d3, cpI_eq (by rw [a0.2.1, d4]; omega), bs, hs_orow (a := 74) (c := 93) _ _ (by omega), hs_orow (a := 74) (c := 73) _ _ (by omega), hs_orow (a := 94) (c := 93) _ _ (by omega), hs_orow (a := 94) (c := 73) _ _ (by omega), hV]
    refine (p1 _).trans ?_
    rw [m_together md' (by rw [q74]; exact r), bs]
  · rw [q93, ← hU]
    exact ⟨rfl, rfl, rfl, rfl, rfl, rfl⟩
  · rw [p3 94 (by omega), hs_same, ← hV]
    exact cpy49 hp
  · have st := srw_r (i := t)
    rw [p2 t (by omega) ht j hj, hs_orow _ _ (by omega), hs_orow _ _ (by omega), hs_orow _ _ (by omega)]
  · rw [p3 x (by omega), hs_orow _ _ (by omega), hs_orow _ _ (by omega), hs_orow _ _ (by omega)]
theorem m_undo (gs : GS G) {F : Nat → Int} (i35 : h.1 73 35 = 1) (e0 : h.1 93 0 = (hi : Int)) (e1 : h.1 93 1 = (wi : Int)) (g8 : 2 ≤ hi ∧ hi ≤ 7) (g9 : 2 ≤ wi ∧ wi ≤ 7) (r : RH F (h.1 94) hi wi) : ∃ h' : ct_H, f_X7_undo G h 73 = some (sm (fun p => F (plc wi p)) 0 (hi * wi), h') ∧ (h'.1 73 0 = h.1 93 0 ∧ h'.1 73 1 = h.1 93 1 ∧ h'.1 73 2 = h.1 93 2 ∧ h'.1 73 24 = h.1 93 3 ∧ h'.1 73 27 = h.1 93 4 ∧ h'.1 73 31 = h.1 93 5) ∧ (∀ j, 3 ≤ j → j ≠ 24 → j ≠ 27 → j ≠ 31 → h'.1 73 j = h.1 73 j) ∧ (∀ p, p < 49 → h'.1 74 p = h.1 94 p) ∧ (∀ t, t < 6 → ∀ j, j < srn t → h'.1 (srw t) j = h.1 (96 + t) j) ∧ (∀ x, x ≠ 73 → x ≠ 74 → ¬ (86 ≤ x ∧ x ≤ 92) → h'.1 x = h.1 x) ∧ h'.2 = h.2 := by
  obtain ⟨a0, -, -, -, -, ⟨d1, d2, d3, d4, d5, d6, d7⟩⟩ := gs.2.2.2.2.2.2.2.1
  have h49 : hi * wi ≤ 49 := Nat.mul_le_mul g8.2 g9.2
  generalize hU : up (up (up (up (up (up (h.1 73) 0 (h.1 93 0)) 1 (h.1 93 1)) 2 (h.1 93 2)) 24 (h.1 93 3)) 27 (h.1 93 4)) 31 (h.1 93 5) = U
  generalize hV : va_cpy (h.1 94) (h.1 74) (0 : Int).toNat (0 : Int).toNat (49 : Int).toNat = V
  obtain ⟨h', p1, p2, p3, p4⟩ := m_undL gs 6 0 200 (hs (hs h 73 U) 74 V) (by omega) (by omega)
  have n86 : ∀ x, ¬ (86 ≤ x ∧ x ≤ 92) → ∀ t, 0 ≤ t → t < 6 → x ≠ srw t := fun x hx t _ _ => by have := srw_r (i := t); omega
  have q73 : h'.1 73 = U := by rw [p3 73 (n86 73 (by omega)), hs_orow _ _ (by omega), hs_row]
  have q74 : h'.1 74 = V := by rw [p3 74 (n86 74 (by omega)), hs_row]
  have v49 : ∀ p, p < 49 → V p = h.1 94 p := fun p hp => by rw [← hV]; exact cpy49 hp
  have u0 : U 0 = h.1 93 0 := by rw [← hU]; rfl
  have u1 : U 1 = h.1 93 1 := by rw [← hU]; rfl
  have md' : MD G h' 73 74 hi wi := ⟨a0.1, a0.2.1, by omega, by rw [q73, u0]; exact e0, by rw [q73, u1]; exact e1, g8, g9⟩
  refine ⟨h', ?_, ?_, fun j j1 j2 j3 j4 => ?_, fun p hp => by rw [q74]; exact v49 p hp, fun t ht j hj => ?_, fun x x1 x2 x3 => ?_, by rw [p4]; rfl⟩
  · unfold f_X7_undo
    rw [i35, if_neg (by omega), d1, rd_eq (by omega) (by rw [d2]; omega), bs, lt_eq, ct_wF_hs]
    rw [rd_eq (by omega) (by rw [d2]; omega), bs, lt_eq, ct_wF_hs, hs_other (a := 93) (c := 73) _ _ _ (by omega), hs_row, hs_hs]
    rw [rd_eq (by omega) (by rw [d2]; omega), bs, lt_eq, ct_wF_hs, hs_other (a := 93) (c := 73) _ _ _ (by omega), hs_row, hs_hs]
    rw [rd_eq (by omega) (by rw [d2]; omega), bs, lt_eq, ct_wF_hs, hs_other (a := 93) (c := 73) _ _ _ (by omega), hs_row, hs_hs]
    rw [rd_eq (by omega) (by rw [d2]; omega), bs, lt_eq, ct_wF_hs, hs_other (a := 93) (c := 73) _ _ _ (by omega), hs_row, hs_hs]
    rw [rd_eq (by omega) (by rw [d2]; omega), bs, lt_eq, ct_wF_hs, hs_other (a := 93) (c := 73) _ _ _ (by omega), hs_row, hs_hs]
    rw [show up (up (up (up (up (up (h.1 73) 0 (h.1 93 (0 : Int).toNat)) 1 (h.1 93 (1 : Int).toNat)) 2 (h.1 93 (2 : Int).toNat)) 24 (h.1 93 (3 : Int).toNat)) 27 (h.1 93 (4 : Int).toNat)) 31 (h.1 93 (5 : Int).toNat) = U from hU]
    rw [d3, a0.1, cpI_eq (by rw [a0.2.1, d4]; omega), bs, hs_orow (a := 94) (c := 73) _ _ (by omega), hs_orow (a := 74) (c := 73) _ _ (by omega), hV]
    refine (p1 _).trans ?_
    rw [m_together md' (F := F) ⟨fun p hp => by rw [q74, v49 p (by omega)]; exact r.1 p hp, r.2⟩, bs]
  · rw [q73, ← hU]
    exact ⟨rfl, rfl, rfl, rfl, rfl, rfl⟩
  · rw [q73, ← hU, up_other _ _ j4, up_other _ _ j3, up_other _ _ j2, up_other _ _ (by omega), up_other _ _ (by omega), up_other _ _ (by omega)]
  · rw [p2 t (by omega) ht j hj, hs_orow _ _ (by omega), hs_orow _ _ (by omega)]
  · rw [p3 x (n86 x x3), hs_orow _ _ x2, hs_orow _ _ x1]
theorem s_image (gs : GS G) (inv : INV G h hi wi B) (hB : B ≤ 2000000000) : SAM G hi wi (B + 7000) (f_X6_image G h 0) (fun h1 => f_X7_image G h1 73) := by
  have top := gs.1
  obtain ⟨t0, t1, t2, t3, t4, t5, t6, t7, t8, t9, t10, t11, t13, t14, t15, t16⟩ := gs.1
  obtain ⟨w1, w2, w3, w4, w5, w6⟩ := gs.2.2.2.2.1
  obtain ⟨a1, a2, a3, ⟨a4, a5, a6⟩, a7, a8, a9, a10, ⟨a11, a12, a13⟩⟩ := id inv
  obtain ⟨n, n1, n2, n3, n4⟩ := a4
  obtain ⟨e, e1, e2, e3, e4⟩ := a5
  obtain ⟨b, b1, b2, b3, b4⟩ := a6
  have cg := a1.cg.1
  have h62 := a3.2.2.2.2.2.2
  obtain ⟨x1, c1, c2, c3, c4⟩ := cs_copy (o := 62) (c := 63) gs.2.1.2.2.1 gs.2.1.2.2.2 (by omega) cg (by omega) (by omega) (by omega) (by omega) h62 (by omega)
  have f1 : ∀ a, a ≠ 62 → a ≠ 63 → x1.1 a = h.1 a := c3.1
  obtain ⟨x2, p1, p2, p3, p4, p5⟩ := x3_copy (h := x1) (o := 64) (o2 := 36) w4 w1 n1 (by omega) (by rw [f1 36 (by omega) (by omega)]; exact n2) (by omega) (by omega)
  have f2 : ∀ a, ¬ (62 ≤ a ∧ a ≤ 66) → x2.1 a = h.1 a := fun a ha => by rw [p4 a (by omega) (by omega) (by omega), f1 a (by omega) (by omega)]
  obtain ⟨x3, q1, q2, q3, q4, q5⟩ := x3_copy (h := x2) (o := 67) (o2 := 39) w5 w2 e1 (by omega) (by rw [f2 39 (by omega)]; exact e2) (by omega) (by omega)
  have f3 : ∀ a, ¬ (62 ≤ a ∧ a ≤ 69) → x3.1 a = h.1 a := fun a ha => by rw [q4 a (by omega) (by omega) (by omega), f2 a (by omega)]
  obtain ⟨x4, r1, r2, r3, r4, r5⟩ := x3_copy (h := x3) (o := 70) (o2 := 42) w6 w3 b1 (by omega) (by rw [f3 42 (by omega)]; exact b2) (by omega) (by omega)
  have f4 : ∀ a, ¬ (62 ≤ a ∧ a ≤ 72) → x4.1 a = h.1 a := fun a ha => by rw [r4 a (by omega) (by omega) (by omega), f3 a (by omega)]
  generalize hx5 : hs x4 0 (up (x4.1 0) 12 1) = x5
  have f5 : ∀ a, ¬ (62 ≤ a ∧ a ≤ 72) → a ≠ 0 → x5.1 a = h.1 a := fun a ha h0 => by rw [← hx5, hs_orow _ _ h0, f4 a ha]
  have g5 : ∀ a, a ≠ 0 → x5.1 a = x4.1 a := fun a h0 => by rw [← hx5, hs_orow _ _ h0]
  have k5 : x5.1 0 12 = 1 := by rw [← hx5, hs_same, up_same]
  have l5 : x5.2 = h.2 := by rw [← hx5]; show x4.2 = h.2; rw [r5, q5, p5, c3.2.1]
  have e73 := f5 73 (by omega) (by omega)
  have ig5 : IG G x5 hi wi := a1.fr (f5 1 (by omega) (by omega)) (f5 2 (by omega) (by omega)) (f5 74 (by omega) (by omega)) (fun j _ => by rw [e73])
  obtain ⟨h', m1, m2, m3, m4, m5, m6, m7, m8⟩ := m_image (h := x5) gs ig5.2.1 ig5.2.2.1
  have fr : ∀ x, ¬ (62 ≤ x ∧ x ≤ 72) → x ≠ 0 → x ≠ 73 → ¬ (93 ≤ x ∧ x ≤ 101) → h'.1 x = h.1 x := fun x y1 y2 y3 y4 => by rw [m7 x y3 y4, f5 x y1 y2]
  have f73 : ∀ j, j ≠ 35 → h'.1 73 j = h.1 73 j := fun j hj => by rw [m3 j hj, e73]
  have gx : ∀ x, (64 ≤ x ∧ x ≤ 72) → h'.1 x = x4.1 x := fun x hx => by rw [m7 x (by omega) (by omega), g5 x (by omega)]
  have z62 : h'.1 62 = x1.1 62 := by rw [m7 62 (by omega) (by omega), g5 62 (by omega), r4 62 (by omega) (by omega) (by omega), q4 62 (by omega) (by omega) (by omega), p4 62 (by omega) (by omega) (by omega)]
  have z63 : h'.1 63 = x1.1 63 := by rw [m7 63 (by omega) (by omega), g5 63 (by omega), r4 63 (by omega) (by omega) (by omega), q4 63 (by omega) (by omega) (by omega), p4 63 (by omega) (by omega) (by omega)]
  refine ⟨_, x5, h', ?_, m1, hi, wi, a1.fr (fr 1 (by omega) (by omega) (by omega) (by omega)) (fr 2 (by omega) (by omega) (by omega) (by omega)) (fr 74 (by omega) (by omega) (by omega) (by omega)) (fun j hj => f73 j (by omega)), a2.fr (fun a y1 y2 => fr a (by omega) (by omega) (by omega) (by omega)), ?_, ⟨?_, ?_, ?_⟩, ?_, ?_, ?_, ?_, ?_, ?_, ?_⟩
  · unfold f_X6_image
    rw [t13, t0, c1, bs, t14, t7, p1, bs, t15, t8, q1, bs, t16, t9, r1, bs, lt_eq, ct_wF_hs, hx5, g_together ig5.1 ig5.2.2.1.hB, bs]
  · unfold IW at a3 ⊢
    rw [fr 22 (by omega) (by omega) (by omega) (by omega), fr 27 (by omega) (by omega) (by omega) (by omega), fr 24 (by omega) (by omega) (by omega) (by omega), fr 30 (by omega) (by omega) (by omega) (by omega), fr 29 (by omega) (by omega) (by omega) (by omega), z62]
    exact ⟨a3.1, a3.2.1, a3.2.2.1, a3.2.2.2.1, a3.2.2.2.2.1, a3.2.2.2.2.2.1, by omega⟩
  · exact inv.2.2.2.1.1.fr (fr 36 (by omega) (by omega) (by omega) (by omega)) (fr 37 (by omega) (by omega) (by omega) (by omega)) (fr 38 (by omega) (by omega) (by omega) (by omega)) (f73 24 (by omega)) (fr 86 (by omega) (by omega) (by omega) (by omega)) (fr 87 (by omega) (by omega) (by omega) (by omega))
  · exact inv.2.2.2.1.2.1.fr (fr 39 (by omega) (by omega) (by omega) (by omega)) (fr 40 (by omega) (by omega) (by omega) (by omega)) (fr 41 (by omega) (by omega) (by omega) (by omega)) (f73 27 (by omega)) (fr 88 (by omega) (by omega) (by omega) (by omega)) (fr 89 (by omega) (by omega) (by omega) (by omega))
  · exact inv.2.2.2.1.2.2.fr (fr 42 (by omega) (by omega) (by omega) (by omega)) (fr 43 (by omega) (by omega) (by omega) (by omega)) (fr 44 (by omega) (by omega) (by omega) (by omega)) (f73 31 (by omega)) (fr 91 (by omega) (by omega) (by omega) (by omega)) (fr 92 (by omega) (by omega) (by omega) (by omega))
  · exact a7.fr (fr 39 (by omega) (by omega) (by omega) (by omega)) (fr 40 (by omega) (by omega) (by omega) (by omega)) (fr 41 (by omega) (by omega) (by omega) (by omega))
  · refine Or.inr ⟨by rw [m7 0 (by omega) (by omega)]; exact k5, m2, ⟨hi, wi, GR_congr c2.1 z62, ⟨fun p hp => ?_, by rw [z63]; exact c2.2.1.2⟩, ?_, ?_⟩, ?_, ?_, ⟨n, n1, ?_, ?_, fun i hi => ?_⟩, ⟨e, e1, ?_, ?_, fun i hi => ?_⟩, ⟨b, b1, ?_, ?_, fun i hi => ?_⟩, ?_⟩
    · have h49 := cg.h49
      rw [z63, m5 p (by omega), f5 74 (by omega) (by omega)]
      exact c2.2.1.1 p hp
    · rw [m4.1]; exact ig5.2.1.2.2.2.1
    · rw [m4.2.1]; exact ig5.2.1.2.2.2.2.1
    · rw [z62, c2.2.2]; exact a1.2.2.2.1
    · rw [z62, c2.2.2, m4.2.2.1, e73]; exact a1.2.2.2.2.1
    · rw [gx 64 (by omega), r4 64 (by omega) (by omega) (by omega), q4 64 (by omega) (by omega) (by omega)]; exact p3
    · rw [m4.2.2.2.1, e73]; exact n3
    · have t0 := m6 0 (by omega) i (by show i < 6; omega)
      have t1 := m6 1 (by omega) i (by show i < 6; omega)
      rw [gx 65 (by omega), gx 66 (by omega), r4 65 (by omega) (by omega) (by omega), r4 66 (by omega) (by omega) (by omega), q4 65 (by omega) (by omega) (by omega), q4 66 (by omega) (by omega) (by omega), (p2 i hi).1, (p2 i hi).2, f1 37 (by omega) (by omega), f1 38 (by omega) (by omega)]
      rw [show h'.1 96 i = x5.1 86 i from t0, show h'.1 97 i = x5.1 87 i from t1, f5 86 (by omega) (by omega), f5 87 (by omega) (by omega)]
      exact n4 i hi
    · rw [gx 67 (by omega), r4 67 (by omega) (by omega) (by omega)]; exact q3
    · rw [m4.2.2.2.2.1, e73]; exact e3
    · have t0 := m6 2 (by omega) i (by show i < 8; omega)
      have t1 := m6 3 (by omega) i (by show i < 8; omega)
      rw [gx 68 (by omega), gx 69 (by omega), r4 68 (by omega) (by omega) (by omega), r4 69 (by omega) (by omega) (by omega), (q2 i hi).1, (q2 i hi).2, f2 40 (by omega), f2 41 (by omega)]
      rw [show h'.1 98 i = x5.1 88 i from t0, show h'.1 99 i = x5.1 89 i from t1, f5 88 (by omega) (by omega), f5 89 (by omega) (by omega)]
      exact e4 i hi
    · rw [gx 70 (by omega)]; exact r3
    · rw [m4.2.2.2.2.2, e73]; exact b3
    · have t0 := m6 4 (by omega) i (by show i < 8; omega)
      have t1 := m6 5 (by omega) i (by show i < 8; omega)
      rw [gx 71 (by omega), gx 72 (by omega), (r2 i hi).1, (r2 i hi).2, f3 43 (by omega), f3 44 (by omega)]
      rw [show h'.1 100 i = x5.1 91 i from t0, show h'.1 101 i = x5.1 92 i from t1, f5 91 (by omega) (by omega), f5 92 (by omega) (by omega)]
      exact b4 i hi
    · intro i hi
      rw [gx 67 (by omega), r4 67 (by omega) (by omega) (by omega), q3] at hi
      have hi' : i < e := by omega
      rw [gx 68 (by omega), gx 69 (by omega), r4 68 (by omega) (by omega) (by omega), r4 69 (by omega) (by omega) (by omega), (q2 i hi').1, (q2 i hi').2, f2 40 (by omega), f2 41 (by omega)]
      exact a7 i (by rw [e2]; exact hi)
  · exact a9.fr (by rw [fr 45 (by omega) (by omega) (by omega) (by omega)]) (fr 46 (by omega) (by omega) (by omega) (by omega)) (fr 75 (by omega) (by omega) (by omega) (by omega)) (f73 5 (by omega))
  · exact a10.fr (fun a _ => fr a (by omega) (by omega) (by omega) (by omega)) (by rw [m8, l5])
  · rw [fr 1 (by omega) (by omega) (by omega) (by omega)]; omega
  · rw [fr 22 (by omega) (by omega) (by omega) (by omega)]; omega
  · have := c3.2.2.2.2
    rw [z62]; omega
theorem s_undo (gs : GS G) (inv : INV G h hi wi B) (hB : B ≤ 2000000000) : SAM G hi wi (B + 7000) (f_X6_undo G h 0) (fun h1 => f_X7_undo G h1 73) := by
  obtain ⟨t0, t1, t2, t3, t4, t5, t6, t7, t8, t9, t10, t11, t13, t14, t15, t16⟩ := gs.1
  obtain ⟨w1, w2, w3, w4, w5, w6⟩ := gs.2.2.2.2.1
  obtain ⟨a1, a2, a3, -, a7, a8, a9, a10, ⟨a11, a12, a13⟩⟩ := id inv
  rcases a8 with ⟨z1, z2⟩ | ⟨z1, z2, ⟨hi2, wi2, g62, r63, y0, y1⟩, kk, k2, ⟨n, n1, n2, n3, n4⟩, ⟨e, e1, e2, e3, e4⟩, ⟨b, b1, b2, b3, b4⟩, ev⟩
  · refine SAM.same inv (r := -3) ?_ ?_
    · unfold f_X6_undo
      rw [z1, if_pos rfl]
    · unfold f_X7_undo
      rw [z2, if_pos rfl]
  have g8 := g62.2.2.2.2.2.2.2.1
  have g9 := g62.2.2.2.2.2.2.2.2
  have h49 : hi2 * wi2 ≤ 49 := Nat.mul_le_mul g8.2 g9.2
  have cg62 : CG G h 62 63 hi2 wi2 (h.1 62 5) (h.1 94) := ⟨g62, r63, rfl⟩
  obtain ⟨x1, c1, c2, c3, c4⟩ := cs_copy (o := 1) (c := 2) gs.2.1.1.1 gs.2.1.1.2 (by omega) cg62 (by omega) (by omega) (by omega) (by omega) a1.2.2.2.2.2 (by omega)
  have f1 : ∀ a, a ≠ 1 → a ≠ 2 → x1.1 a = h.1 a := c3.1
  obtain ⟨x2, p1, p2, p3, p4, p5⟩ := x3_copy (h := x1) (o := 36) (o2 := 64) w1 w4 n1 (by omega) (by rw [f1 64 (by omega) (by omega)]; exact n2) (by omega) (by omega)
  have f2 : ∀ a, ¬ (1 ≤ a ∧ a ≤ 2) → ¬ (36 ≤ a ∧ a ≤ 38) → x2.1 a = h.1 a := fun a ha hb => by rw [p4 a (by omega) (by omega) (by omega), f1 a (by omega) (by omega)]
  obtain ⟨x3, q1, q2, q3, q4, q5⟩ := x3_copy (h := x2) (o := 39) (o2 := 67) w2 w5 e1 (by omega) (by rw [f2 67 (by omega) (by omega)]; exact e2) (by omega) (by omega)
  have f3 : ∀ a, ¬ (1 ≤ a ∧ a ≤ 2) → ¬ (36 ≤ a ∧ a ≤ 41) → x3.1 a = h.1 a := fun a ha hb => by rw [q4 a (by omega) (by omega) (by omega), f2 a (by omega) (by omega)]
  obtain ⟨x4, r1, r2, r3, r4, r5⟩ := x3_copy (h := x3) (o := 42) (o2 := 70) w3 w6 b1 (by omega) (by rw [f3 70 (by omega) (by omega)]; exact b2) (by omega) (by omega)
  have f4 : ∀ a, ¬ (1 ≤ a ∧ a ≤ 2) → ¬ (36 ≤ a ∧ a ≤ 44) → x4.1 a = h.1 a := fun a ha hb => by rw [r4 a (by omega) (by omega) (by omega), f3 a (by omega) (by omega)]
  have u1 : x4.1 1 = x1.1 1 := by rw [r4 1 (by omega) (by omega) (by omega), q4 1 (by omega) (by omega) (by omega), p4 1 (by omega) (by omega) (by omega)]
  have u2 : x4.1 2 = x1.1 2 := by rw [r4 2 (by omega) (by omega) (by omega), q4 2 (by omega) (by omega) (by omega), p4 2 (by omega) (by omega) (by omega)]
  have cg4 : CG G x4 1 2 hi2 wi2 (h.1 62 5) (h.1 94) := c2.fr u1 u2
  have e73 := f4 73 (by omega) (by omega)
  have e93 := f4 93 (by omega) (by omega)
  have e94 := f4 94 (by omega) (by omega)
  obtain ⟨h', m1, m2, m3, m4, m5, m6, m7⟩ := m_undo (h := x4) (hi := hi2) (wi := wi2) (F := x4.1 2) gs (by rw [e73]; exact z2) (by rw [e93]; exact y0) (by rw [e93]; exact y1) g8 g9 (by rw [e94]; exact cg4.2.1)
  have fr : ∀ x, ¬ (1 ≤ x ∧ x ≤ 2) → ¬ (36 ≤ x ∧ x ≤ 44) → x ≠ 73 → x ≠ 74 → ¬ (86 ≤ x ∧ x ≤ 92) → h'.1 x = h.1 x := fun x v1 v2 v3 v4 v5 => by rw [m6 x v3 v4 v5, f4 x v1 v2]
  have gx : ∀ x, (1 ≤ x ∧ x ≤ 44) → h'.1 x = x4.1 x := fun x hx => m6 x (by omega) (by omega) (by omega)
  have f73 : ∀ j, 3 ≤ j → j ≠ 24 → j ≠ 27 → j ≠ 31 → h'.1 73 j = h.1 73 j := fun j j1 j2 j3 j4 => by rw [m3 j j1 j2 j3 j4, e73]
  rw [e93] at m2
  have cgH : CG G h' 1 2 hi2 wi2 (h.1 62 5) (h.1 94) := cg4.fr (gx 1 (by omega)) (gx 2 (by omega))
  have rgH : RG G h' hi2 wi2 (h.1 62 5) (h.1 94) := ⟨⟨gs.2.2.2.2.2.2.2.1.1.1, gs.2.2.2.2.2.2.2.1.1.2.1, by omega, by rw [m2.1]; exact y0, by rw [m2.2.1]; exact y1, g8, g9⟩, fun p hp => by rw [m4 p (by omega), e94], by rw [m2.2.2.1]; exact k2⟩
  have x16 : h'.1 1 6 = x1.1 1 6 := by rw [gx 1 (by omega), u1]
  have i16 := a1.2.2.2.2.2
  refine ⟨_, x4, h', ?_, m1, hi2, wi2, IG.of cgH rgH kk (by omega), a2.gr (fun a v1 v2 => fr a (by omega) (by omega) (by omega) (by omega) (by omega)) (by omega), a3.fr (fun a _ => fr a (by omega) (by omega) (by omega) (by omega) (by omega)), ⟨⟨n, n1, ?_, ?_, fun i hi => ?_⟩, ⟨e, e1, ?_, ?_, fun i hi => ?_⟩, ⟨b, b1, ?_, ?_, fun i hi => ?_⟩⟩, ?_, ?_, ?_, ?_, ?_, ?_, ?_⟩
  · unfold f_X6_undo
    rw [z1, if_neg (by omega), t13, t0, c1, bs, t14, t7, p1, bs, t15, t8, q1, bs, t16, t9, r1, bs, g_together cg4.1 cg4.2.1.hB, bs]
  · rw [gx 36 (by omega), r4 36 (by omega) (by omega) (by omega), q4 36 (by omega) (by omega) (by omega)]; exact p3
  · rw [m2.2.2.2.1]; exact n3
  · have t0 := m5 0 (by omega) i (by show i < 6; omega)
    have t1 := m5 1 (by omega) i (by show i < 6; omega)
    rw [gx 37 (by omega), gx 38 (by omega), r4 37 (by omega) (by omega) (by omega), r4 38 (by omega) (by omega) (by omega), q4 37 (by omega) (by omega) (by omega), q4 38 (by omega) (by omega) (by omega), (p2 i hi).1, (p2 i hi).2, f1 65 (by omega) (by omega), f1 66 (by omega) (by omega)]
    rw [show h'.1 86 i = x4.1 96 i from t0, show h'.1 87 i = x4.1 97 i from t1, f4 96 (by omega) (by omega), f4 97 (by omega) (by omega)]
    exact n4 i hi
  · rw [gx 39 (by omega), r4 39 (by omega) (by omega) (by omega)]; exact q3
  · rw [m2.2.2.2.2.1]; exact e3
  · have t0 := m5 2 (by omega) i (by show i < 8; omega)
    have t1 := m5 3 (by omega) i (by show i < 8; omega)
    rw [gx 40 (by omega), gx 41 (by omega), r4 40 (by omega) (by omega) (by omega), r4 41 (by omega) (by omega) (by omega), (q2 i hi).1, (q2 i hi).2, f2 68 (by omega) (by omega), f2 69 (by omega) (by omega)]
    rw [show h'.1 88 i = x4.1 98 i from t0, show h'.1 89 i = x4.1 99 i from t1, f4 98 (by omega) (by omega), f4 99 (by omega) (by omega)]
    exact e4 i hi
  · rw [gx 42 (by omega)]; exact r3
  · rw [m2.2.2.2.2.2]; exact b3
  · have t0 := m5 4 (by omega) i (by show i < 8; omega)
    have t1 := m5 5 (by omega) i (by show i < 8; omega)
    rw [gx 43 (by omega), gx 44 (by omega), (r2 i hi).1, (r2 i hi).2, f3 71 (by omega) (by omega), f3 72 (by omega) (by omega)]
    rw [show h'.1 91 i = x4.1 100 i from t0, show h'.1 92 i = x4.1 101 i from t1, f4 100 (by omega) (by omega), f4 101 (by omega) (by omega)]
    exact b4 i hi
  · intro i hi
    rw [gx 39 (by omega), r4 39 (by omega) (by omega) (by omega), q3] at hi
    have hi' : i < e := by omega
    rw [gx 40 (by omega), gx 41 (by omega), r4 40 (by omega) (by omega) (by omega), r4 41 (by omega) (by omega) (by omega), (q2 i hi').1, (q2 i hi').2, f2 68 (by omega) (by omega), f2 69 (by omega) (by omega)]
    exact ev i (by rw [e2]; exact hi)
  · exact inv.2.2.2.2.2.1.fr (fun a _ => fr a (by omega) (by omega) (by omega) (by omega) (by omega)) (by rw [fr 0 (by omega) (by omega) (by omega) (by omega) (by omega)]) (f73 35 (by omega) (by omega) (by omega) (by omega))
  · exact a9.fr (by rw [fr 45 (by omega) (by omega) (by omega) (by omega) (by omega)]) (fr 46 (by omega) (by omega) (by omega) (by omega) (by omega)) (fr 75 (by omega) (by omega) (by omega) (by omega) (by omega)) (f73 5 (by omega) (by omega) (by omega) (by omega))
  · exact a10.fr (fun a _ => fr a (by omega) (by omega) (by omega) (by omega) (by omega)) (by rw [m7, r5, q5, p5, c3.2.1])
  · have := c3.2.2.2.2
    omega
  · rw [fr 22 (by omega) (by omega) (by omega) (by omega) (by omega)]; omega
  · rw [fr 62 (by omega) (by omega) (by omega) (by omega) (by omega)]; omega
end
