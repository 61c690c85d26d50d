/-! the call after -/
noncomputable def aftV (F : Nat → Int) (hi wi : Nat) (kd L b : Int) : Int :=
  if b = 0 then ((spL F hi wi kd L).2.2.2.1 : Nat) else if b = 1 then nmb F hi wi kd L ((hi + 2) * (wi + 2)) else sm (vol F wi hi L) 0 (hi * wi)
section
variable {G : ct_G} {h h' : ct_H} {hi wi : Nat} {B B' : Int}
theorem INV.aft (inv : INV G h hi wi B) (fr : ∀ a, ¬ (22 ≤ a ∧ a ≤ 35) → ¬ (73 ≤ a ∧ a ≤ 74) → ¬ (78 ≤ a ∧ a ≤ 83) → a ≠ 90 → h'.1 a = h.1 a) (fr73 : ∀ j, j ≠ 14 → j ≠ 15 → j ≠ 18 → j ≠ 19 → h'.1 73 j = h.1 73 j) (f74 : ∀ p, p < 49 → h'.1 74 p = h.1 74 p) (l : h'.2 = h.2) (iw : IW h') (le : h'.1 22 6 ≤ B') (BB : B ≤ B') : INV G h' hi wi B' := by
  obtain ⟨a1, a2, a3, ⟨a4, a5, a6⟩, a7, a8, a9, a10, a11⟩ := inv
  have q := fun a b c d e => fr a b c d e
  have f1 := fr 1 (by omega) (by omega) (by omega) (by omega)
  have f2 := fr 2 (by omega) (by omega) (by omega) (by omega)
  refine ⟨?_, a2.fr (fun a x y => fr a (by omega) (by omega) (by omega) (by omega)), iw, ⟨?_, ?_, ?_⟩, ?_, ?_, ?_, ?_, ?_, le, ?_⟩
  · obtain ⟨i1, ⟨m1, m2, m3, m4, m5, m6, m7⟩, i3, i4, i5, i6⟩ := a1
    have h49 : hi * wi ≤ 49 := Nat.mul_le_mul m6.2 m7.2
    exact ⟨GR_congr i1 f1, ⟨m1, m2, m3, by rw [fr73 0 (by omega) (by omega) (by omega) (by omega)]; exact m4, by rw [fr73 1 (by omega) (by omega) (by omega) (by omega)]; exact m5, m6, m7⟩, ⟨fun p hp => by rw [f2, f74 p (by omega)]; exact i3.1 p hp, by rw [f2]; exact i3.2⟩, by rw [f1]; exact i4, by rw [f1, fr73 2 (by omega) (by omega) (by omega) (by omega)]; exact i5, by rw [f1]; exact i6⟩
  · exact a4.fr (fr 36 (by omega) (by omega) (by omega) (by omega)) (fr 37 (by omega) (by omega) (by omega) (by omega)) (fr 38 (by omega) (by omega) (by omega) (by omega)) (fr73 24 (by omega) (by omega) (by omega) (by omega)) (fr 86 (by omega) (by omega) (by omega) (by omega)) (fr 87 (by omega) (by omega) (by omega) (by omega))
  · exact a5.fr (fr 39 (by omega) (by omega) (by omega) (by omega)) (fr 40 (by omega) (by omega) (by omega) (by omega)) (fr 41 (by omega) (by omega) (by omega) (by omega)) (fr73 27 (by omega) (by omega) (by omega) (by omega)) (fr 88 (by omega) (by omega) (by omega) (by omega)) (fr 89 (by omega) (by omega) (by omega) (by omega))
  · exact a6.fr (fr 42 (by omega) (by omega) (by omega) (by omega)) (fr 43 (by omega) (by omega) (by omega) (by omega)) (fr 44 (by omega) (by omega) (by omega) (by omega)) (fr73 31 (by omega) (by omega) (by omega) (by omega)) (fr 91 (by omega) (by omega) (by omega) (by omega)) (fr 92 (by omega) (by omega) (by omega) (by omega))
  · exact a7.fr (fr 39 (by omega) (by omega) (by omega) (by omega)) (fr 40 (by omega) (by omega) (by omega) (by omega)) (fr 41 (by omega) (by omega) (by omega) (by omega))
  · exact a8.fr (fun a _ => fr a (by omega) (by omega) (by omega) (by omega)) (by rw [fr 0 (by omega) (by omega) (by omega) (by omega)]) (fr73 35 (by omega) (by omega) (by omega) (by omega))
  · exact a9.fr (by rw [fr 45 (by omega) (by omega) (by omega) (by omega)]) (fr 46 (by omega) (by omega) (by omega) (by omega)) (fr 75 (by omega) (by omega) (by omega) (by omega)) (fr73 5 (by omega) (by omega) (by omega) (by omega))
  · exact a10.fr (fun a _ => fr a (by omega) (by omega) (by omega) (by omega)) l
  · rw [f1]; have := a11.1; omega
  · rw [fr 62 (by omega) (by omega) (by omega) (by omega)]; have := a11.2.2; omega
theorem b02 {b : Int} (h : 0 ≤ b ∧ b ≤ 2) : b = 0 ∨ b = 1 ∨ b = 2 := by omega
theorem m_after (gs : GS G) {kd0 : Int} {M0 X Y F : Nat → Int} {N : Nat} (g : RG G h hi wi kd0 M0) (k : evK hi wi (kd0, M0)) (n3 : h.1 73 27 = (N : Int)) (hN : N ≤ 8) (n4 : ∀ j, j < N → h.1 88 j = X j ∧ h.1 89 j = Y j) (ev : ∀ j, j < N → evOk (X j) (Y j)) (r : RH F (evF hi wi X Y 0 N (kd0, M0)).2 hi wi) {L b : Int} (hl : 0 ≤ L ∧ L ≤ 99) (hb : 0 ≤ b ∧ b ≤ 2) : ∃ h', f_X7_after G h 73 L b = some (aftV F hi wi (evF hi wi X Y 0 N (kd0, M0)).1 L b, h') ∧ (∀ a, ¬ (73 ≤ a ∧ a ≤ 74) → ¬ (78 ≤ a ∧ a ≤ 83) → a ≠ 90 → h'.1 a = h.1 a) ∧ (∀ j, j ≠ 14 → j ≠ 15 → j ≠ 18 → j ≠ 19 → h'.1 73 j = h.1 73 j) ∧ (∀ p, p < 49 → h'.1 74 p = h.1 74 p) ∧ h'.2 = h.2 := by
  have rf := gs.2.2.2.2.2.2.2.1.2.2.2.1
  have K := evF_K N 0 (X := X) (Y := Y) k (fun j _ hj => ev j (by omega))
  obtain ⟨⟨m1, m2, m3, m4, m5, m6, m7⟩, g2, g3⟩ := id g
  have g9 := m7
  generalize hW : va_cpy (h.1 74) (h.1 90) (0 : Int).toNat (0 : Int).toNat (49 : Int).toNat = W
  have W49 : ∀ p, p < 49 → W p = h.1 74 p := fun p hp => by
    rw [← hW]
    unfold va_cpy
    rw [if_pos (show (0 : Int).toNat ≤ p ∧ p < (0 : Int).toNat + (49 : Int).toNat by omega)]
    show h.1 74 (0 + (p - 0)) = h.1 74 p
    rw [show 0 + (p - 0) = p by omega]
  generalize hh3 : hs h 90 W = h3
  have t3 : ∀ a, a ≠ 90 → h3.1 a = h.1 a := fun a ha => by rw [← hh3, hs_orow _ _ ha]
  have t390 : h3.1 90 = W := by rw [← hh3, hs_row]
  have t3l : h3.2 = h.2 := by rw [← hh3]; rfl
  have rg3 : RG G h3 hi wi kd0 M0 := g.fr (fun j _ => by rw [t3 73 (by omega)]) (t3 74 (by omega))
  obtain ⟨h4, c1, c2, c3⟩ := m_afterL gs hN N 0 200 h3 (kd0, M0) (by omega) (by omega) (by rw [t3 73 (by omega)]; exact n3) (fun j hj => by rw [t3 88 (by omega), t3 89 (by omega)]; exact n4 j hj) ev rg3 k
  obtain ⟨kd, M, hS⟩ : ∃ (kd : Int) (M : Nat → Int), evF hi wi X Y 0 N (kd0, M0) = (kd, M) := ⟨_, _, rfl⟩
  rw [hS] at r K c2 ⊢
  dsimp only at r K c2 ⊢
  have rm := r.RM g9
  have rh4 : RH F (h4.1 74) hi wi := ⟨fun p hp => by rw [c2.2.1 p hp]; exact r.1 p hp, r.2⟩
  have mf : MF G 73 74 hi wi (h4.1 73) := ⟨m1, m2, c2.1.2.2.2.1, c2.1.2.2.2.2.1, m6, m7, by rw [c2.2.2]; exact K.1.1, by rw [c2.2.2]; exact K.1.2⟩
  obtain ⟨h5, d1, d2, d3, d4, d5⟩ := m_layLines gs.2.2.2.2.2.2.2.2.1 mf rh4 rm hl
  rw [c2.2.2] at d2
  have md5 : MD G h5 73 74 hi wi := ⟨m1, m2, m3, (d4 0 (by omega) (by omega)).trans c2.1.2.2.2.1, (d4 1 (by omega) (by omega)).trans c2.1.2.2.2.2.1, m6, m7⟩
  have r5 : RH F (h5.1 74) hi wi := by rw [d5 74 (by omega) (by omega) (by omega) (by omega) (by omega)]; exact rh4
  obtain ⟨h6, e1, e2, e3, e4, e5, e6⟩ := m_layLands gs.2.2.2.2.2.2.2.2.2 hl K.1 rm md5 r5 ((d4 2 (by omega) (by omega)).trans c2.2.2)
  have md6 : MD G h6 73 74 hi wi := ⟨m1, m2, m3, (e4 0 (by omega) (by omega)).trans md5.2.2.2.1, (e4 1 (by omega) (by omega)).trans md5.2.2.2.2.1, m6, m7⟩
  have r6 : RH F (h6.1 74) hi wi := by rw [e6 74 (by omega) (by omega) (by omega)]; exact r5
  have q90 : h6.1 90 = W := by rw [e6 90 (by omega) (by omega) (by omega), d5 90 (by omega) (by omega) (by omega) (by omega) (by omega), c3.1 90 (by omega) (by omega), t390]
  have k73 : h3.1 73 2 = h.1 73 2 := by rw [t3 73 (by omega)]
  have tail : ∀ b17 : Int, ((ct_cpI G h6 90 0 74 0 49).bind fun h20 => ct_lt (ct_wF h20 73 2 (h3.1 73 2)) fun h21 => some (b17, h21)) = some (b17, hs (hs h6 74 (va_cpy (h6.1 90) (h6.1 74) (0 : Int).toNat (0 : Int).toNat (49 : Int).toNat)) 73 (up (h6.1 73) 2 (h.1 73 2))) := by
    intro b17
    rw [cpI_eq (by rw [m2, rf.2]; omega), bs, lt_eq, ct_wF_hs, hs_orow _ _ (by omega), k73]
  have rr := d2.rr
  refine ⟨hs (hs h6 74 (va_cpy (h6.1 90) (h6.1 74) (0 : Int).toNat (0 : Int).toNat (49 : Int).toNat)) 73 (up (h6.1 73) 2 (h.1 73 2)), ?_, ?_, ?_, ?_, ?_⟩
  · unfold f_X7_after
    rw [m_isLevel, if_pos hl, bs, if_neg (by omega), m_in, if_pos hb, bs, if_neg (by omega), m1, rf.1, cpI_eq (by rw [m2, rf.2]; omega), bs, hW, hh3]
    refine (c1 _).trans ?_
    rw [d1, bs, e1, bs, jn_eq]
    unfold aftV
    rcases b02 hb with rfl | rfl | rfl
    · rw [if_pos rfl, if_pos rfl]
      refine (tail _).trans ?_
      rw [e4 14 (by omega) (by omega), rr.2.2.2]
    · rw [if_neg (by omega), if_pos rfl, if_neg (by omega), if_pos rfl]
      refine (tail _).trans ?_
      rw [e2]
    · rw [if_neg (by omega), if_neg (by omega), if_neg (by omega), if_neg (by omega), m_volume md6 r6 hl, bs]
      exact tail _
  · intro a a1 a2 a3
    rw [hs_orow _ _ (by omega), hs_orow _ _ (by omega), e6 a (by omega) (by omega) (by omega), d5 a (by omega) (by omega) (by omega) (by omega) (by omega), c3.1 a (by omega) (by omega), t3 a a3]
  · intro j j1 j2 j3 j4
    rw [hs_same]
    by_cases z : j = 2
    · subst z; rw [up_same]
    · rw [up_other _ _ z, e4 j j3 j4, d4 j j1 j2]
      by_cases z0 : 3 ≤ j
      · rw [c3.2.1 j z0, t3 73 (by omega)]
      · rcases (show j = 0 ∨ j = 1 by omega) with rfl | rfl
        · rw [c2.1.2.2.2.1, m4]
        · rw [c2.1.2.2.2.2.1, m5]
  · intro p hp
    rw [hs_other _ _ _ (by omega), hs_same]
    unfold va_cpy
    rw [if_pos (show (0 : Int).toNat ≤ p ∧ p < (0 : Int).toNat + (49 : Int).toNat by omega), show (0 : Int).toNat + (p - (0 : Int).toNat) = p by show 0 + (p - 0) = p; omega, q90]
    exact W49 p hp
  · show h6.2 = h.2
    rw [e5, d3, c3.2.2, t3l]
theorem c_after (gs : GS G) {kd : Int} {M : Nat → Int} (cg : CG G h 22 23 hi wi kd M) (iw : h.1 27 0 = 0 ∧ h.1 24 7 < h.1 22 6 ∧ h.1 24 8 < h.1 22 6 ∧ UF (h.1 30) ∧ h.1 29 9 < h.1 22 6) {L b : Int} (hl : 0 ≤ L ∧ L ≤ 99) (hb : 0 ≤ b ∧ b ≤ 2) : ∃ h' : ct_H, (if b = 0 then ((f_X2_trace G h 24 L).bind fun r6 => some ((r6.1 24 5), r6)) else if b = 1 then ((f_X1_find G h 29 L).bind fun r4 => some ((r4.1 29 7), r4)) else (f_X0_volume G h 22 L).bind fun v3 => some (v3, h)) = some (aftV (h.1 23) hi wi kd L b, h') ∧ (∀ a, ¬ (24 ≤ a ∧ a ≤ 35) → h'.1 a = h.1 a) ∧ h'.2 = h.2 ∧ (h'.1 27 0 = 0 ∧ h'.1 24 7 ≤ h'.1 22 6 ∧ h'.1 24 8 ≤ h'.1 22 6 ∧ UF (h'.1 30) ∧ h'.1 29 9 ≤ h'.1 22 6) := by
  obtain ⟨w1, w2, w3, w4, w5⟩ := iw
  have g9 := cg.1.2.2.2.2.2.2.2.2
  have rm := cg.2.1.RM g9
  unfold aftV
  rcases b02 hb with rfl | rfl | rfl
  · have lv : LV h 24 22 23 25 26 27 28 hi wi := ⟨w1, by omega, by omega, fun z => by omega, fun z => by omega⟩
    obtain ⟨h', e1, e2, e3, e4, e5, e6⟩ := x2_traceV gs.2.2.1.2 cg.1 rm hl lv
    rw [cg.2.2] at e3
    refine ⟨h', ?_, fun a ha => e6 a (by omega) (by omega) (by omega) (by omega), e5, e2.1, e2.2.1, e2.2.2.1, ?_, ?_⟩
    · rw [if_pos rfl, if_pos rfl, e1, bs, e3.rr.2.2.2]
    · rw [e6 30 (by omega) (by omega) (by omega) (by omega)]; exact w4
    · rw [e6 29 (by omega) (by omega) (by omega) (by omega), e6 22 (by omega) (by omega) (by omega) (by omega)]; omega
  · have dv : DV h 29 22 23 30 31 32 33 34 hi wi := ⟨w4, by omega, fun z => by omega⟩
    obtain ⟨h', e1, e2, e3, e4, e5, e6⟩ := x1_findV gs.2.2.2.1.2.2 cg.1 rm hl dv
    rw [cg.2.2] at e3
    refine ⟨h', ?_, fun a ha => e6 a (by omega) (by omega) (by omega) (by omega) (by omega) (by omega), e5, ?_, ?_, ?_, e2.1, e2.2.1⟩
    · rw [if_neg (by omega), if_pos rfl, if_neg (by omega), if_pos rfl, e1, bs, e3.1]
    · rw [e6 27 (by omega) (by omega) (by omega) (by omega) (by omega) (by omega)]; exact w1
    · rw [e6 24 (by omega) (by omega) (by omega) (by omega) (by omega) (by omega), e6 22 (by omega) (by omega) (by omega) (by omega) (by omega) (by omega)]; omega
    · rw [e6 24 (by omega) (by omega) (by omega) (by omega) (by omega) (by omega), e6 22 (by omega) (by omega) (by omega) (by omega) (by omega) (by omega)]; omega
  · refine ⟨h, ?_, fun _ _ => rfl, rfl, w1, by omega, by omega, w4, by omega⟩
    rw [if_neg (by omega), if_neg (by omega), if_neg (by omega), if_neg (by omega), g_volume cg.1 cg.2.1.hB hl, bs]
theorem s_after (gs : GS G) (inv : INV G h hi wi B) (hB : B ≤ 2000000000) (a b : Int) : SAM G hi wi (B + 7000) (f_X6_after G h 0 a b) (fun h1 => f_X7_after G h1 73 a b) := by
  have top := gs.1
  have ig := inv.1
  by_cases hl : 0 ≤ a ∧ a ≤ 99
  · by_cases hb : 0 ≤ b ∧ b ≤ 2
    · obtain ⟨N, n1, n2, n3, n4⟩ := inv.2.2.2.1.2.1
      have ev : ∀ j, j < N → evOk (h.1 40 j) (h.1 41 j) := fun j hj => inv.2.2.2.2.1 j (by rw [n2]; omega)
      obtain ⟨h1, a1, a2, a3, a4⟩ := c_try gs inv hB n2 n1
      have iw := inv.2.2.1
      obtain ⟨h2, b1, b2, b3, b4⟩ := c_after gs a2 (L := a) (b := b) ⟨by rw [a3.1 27 (by omega) (by omega)]; exact iw.2.1, by rw [a3.1 24 (by omega) (by omega)]; have := iw.2.2.1; omega, by rw [a3.1 24 (by omega) (by omega)]; have := iw.2.2.2.1; omega, by rw [a3.1 30 (by omega) (by omega)]; exact iw.2.2.2.2.1, by rw [a3.1 29 (by omega) (by omega)]; have := iw.2.2.2.2.2.1; omega⟩ hl hb
      have fr2 : ∀ x, ¬ (22 ≤ x ∧ x ≤ 35) → h2.1 x = h.1 x := fun x hx => by rw [b2 x (by omega), a3.1 x (by omega) (by omega)]
      have e73 := fr2 73 (by omega)
      have k : evK hi wi (h.1 1 5, h.1 74) := ⟨ig.2.2.2.1, fun p hp => (ig.2.2.1.1 p hp).2⟩
      obtain ⟨h3, c1, c2, c3, c4, c5⟩ := m_after (h := h2) gs (X := h.1 40) (Y := h.1 41) (F := h1.1 23) (N := N) (ig.cg.2.fr (fun j _ => by rw [e73]) (fr2 74 (by omega))) k (by rw [e73]; exact n3) n1 (fun j hj => by rw [fr2 88 (by omega), fr2 89 (by omega)]; exact ⟨(n4 j hj).1.symm, (n4 j hj).2.symm⟩) ev a2.2.1 hl hb
      refine ⟨aftV (h1.1 23) hi wi (evF hi wi (h.1 40) (h.1 41) 0 N (h.1 1 5, h.1 74)).1 a b, h2, h3, ?_, c1, hi, wi, ?_⟩
      · unfold f_X6_after
        rw [x6_isLevel, if_pos hl, bs, if_neg (by omega), if_neg (by omega), if_pos hb.2, a1, bs, top.2.2.2.2.2.1, top.2.2.2.2.2.2.1, top.2.2.2.2.1]
        exact b1
      · have bb := inv.2.2.2.2.2.2.2.2.2
        have c5' := a3.2.2.2.2
        have z22 : h3.1 22 = h1.1 22 := by rw [c2 22 (by omega) (by omega) (by omega), b2 22 (by omega)]
        have z2 : ∀ x, (22 ≤ x ∧ x ≤ 35) ∨ x = 62 → h3.1 x = h2.1 x := fun x hx => c2 x (by omega) (by omega) (by omega)
        refine inv.aft (fun x x1 x2 x3 x4 => by rw [c2 x x2 x3 x4, fr2 x x1]) (fun j j1 j2 j3 j4 => by rw [c3 j j1 j2 j3 j4, e73]) (fun p hp => by rw [c4 p hp, fr2 74 (by omega)]) (by rw [c5, b3, a3.2.1]) ?_ (by rw [z22]; omega) (by omega)
        refine IW.fr (h := h2) ⟨?_, b4.1, b4.2.1, b4.2.2.1, b4.2.2.2.1, b4.2.2.2.2, ?_⟩ z2
        · rw [b2 22 (by omega)]; have := iw.1; omega
        · rw [fr2 62 (by omega)]; exact iw.2.2.2.2.2.2
    · refine SAM.same inv (r := -1) ?_ ?_
      · unfold f_X6_after
        rw [x6_isLevel, if_pos hl, bs, if_neg (by omega)]
        by_cases z : b < 0
        · rw [if_pos z]
        · rw [if_neg z, if_neg (by omega)]
      · unfold f_X7_after
        rw [m_isLevel, if_pos hl, bs, if_neg (by omega), m_in, if_neg hb, bs, if_pos rfl]
  · refine SAM.same inv (r := -2) ?_ ?_
    · unfold f_X6_after
      rw [x6_isLevel, if_neg hl, bs, if_pos rfl]
    · unfold f_X7_after
      rw [m_isLevel, if_neg hl, bs, if_pos rfl]
end
