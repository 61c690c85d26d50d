/-! the call landOf -/
section
variable {G : ct_G} {h : ct_H} {hi wi : Nat} {B : Int}
theorem s_landOf (gs : GS G) (inv : INV G h hi wi B) (a b d : Int) : SAM G hi wi B (f_X6_landOf G h 0 a b d) (fun h1 => f_X7_landOf G h1 73 a b d) := by
  have ig := inv.1
  have top := gs.1
  have g8 := ig.1.2.2.2.2.2.2.2.1
  have g9 := ig.1.2.2.2.2.2.2.2.2
  have h49 : hi * wi ≤ 49 := Nat.mul_le_mul g8.2 g9.2
  have hN := N81 g8 g9
  have rm := ig.2.2.1.RM g9
  by_cases hl : 0 ≤ a ∧ a ≤ 99
  · obtain ⟨hf, f1, f2, f3, f4, f5⟩ := c_find gs ig inv.2.1 hl
    have gf := ig.q f2
    have n49 := nmb_49 (kd := h.1 1 5) g8 g9 rm hl.1 (a := (hi + 2) * (wi + 2)) hN
    have n0 := nmb_0 (F := h.1 2) (hi := hi) (wi := wi) (kd := h.1 1 5) (L := a) (a := (hi + 2) * (wi + 2))
    have dd := gs.2.2.2.1.1.1
    have mp := gs.2.2.2.2.2.2.2.2.2
    by_cases hb : 0 ≤ b ∧ b < nmb (h.1 2) hi wi (h.1 1 5) a ((hi + 2) * (wi + 2))
    · have hb2 : 0 ≤ b ∧ b ≤ nmb (h.1 2) hi wi (h.1 1 5) a ((hi + 2) * (wi + 2)) - 1 := by omega
      obtain ⟨z, z1, z2, z3⟩ := nmb_sur hb.1 _ hb.2
      obtain ⟨m1, m2, m3⟩ := f4.2.2 z z1 z2
      have i48 := isl_48 g8 g9 rm hl.1 z2
      obtain ⟨p0, p1, p2⟩ := plc_sur g8 g9 (isl_inn g8 g9 rm hl.1 z2)
      by_cases hd : 0 ≤ d ∧ d ≤ 3
      · -- the class's side by itself
        have pre : ∀ X, f_X6_landOf G h 0 a b d = X ↔ (if d = 0 then ((ct_rd G hf 11 b).bind fun v3 => (f_X0_pointOf G hf 1 v3).bind fun v4 => some (v4, hf)) else if d = 1 then ((ct_rd G hf 12 b).bind fun v6 => some (v6, hf)) else if d = 2 then ((ct_rd G hf 13 b).bind fun v8 => some (v8, hf)) else if d = 3 then ((f_X6_holesOf G hf 0 a b).bind fun r10 => some (r10.1, r10.2)) else some ((-1), hf)) = X := by
          intro X
          unfold f_X6_landOf
          rw [x6_isLevel, if_pos hl, bs, if_neg (by omega), top.2.2.1, f1, bs, if_neg (by omega), f4.1, if_pos hb.2, top.1, dd.2.2.2.2.2.1, dd.2.2.2.2.2.2.2.1, dd.2.2.2.2.2.2.2.2.2.1]
        -- the reference behind any heap that only asking has changed
        have ref : ∀ hh : ct_H, QF h hh → IC hh hi wi → ∃ h5 : ct_H, QF hh h5 ∧ IC h5 hi wi ∧ (∀ x, x < hi * wi → LD (h.1 2) hi wi (h.1 1 5) a (plc wi x) (h5.1 82 x)) ∧ RR (spL (h.1 2) hi wi (h.1 1 5) a) (h5.1 79) (h5.1 80) (h5.1 81) (h5.1 73 14) ∧ f_X7_landOf G hh 73 a b d = (if d = 0 then ((f_X7_leastOf G h5 73 b).bind fun v11 => some (v11, h5)) else if d = 1 then ((f_X7_sizeOf G h5 73 b).bind fun v9 => some (v9, h5)) else if d = 2 then ((f_X7_topOf G h5 73 b).bind fun v7 => some (v7, h5)) else (f_X7_holesOf G h5 73 b).bind fun v6 => some (v6, h5)) := by
          intro hh q1 q2
          have g1 := ig.q q1
          obtain ⟨hy, y1, y2, y3, y4, y5, y6, y7⟩ := r_lands gs g1 q2 hl
          have g2 := g1.q y2
          obtain ⟨hx, x1, x2, x3, x4, x5⟩ := r_lines gs g2 y3 hl
          rw [y2.row2.1, y2.row2.2, q1.row2.1, q1.row2.2] at x4
          rw [q1.row2.1, q1.row2.2] at y4 y5
          refine ⟨hx, y2.trans x2, x3, fun x hx2 => by rw [x5 82 (by omega) (by omega)]; exact y5 x hx2, x4, ?_⟩
          unfold f_X7_landOf
          rw [m_isLevel, if_pos hl, bs, if_neg (by omega), y1, bs, y4, wr_id (by omega) (by omega), m_in, if_pos hb2, bs, if_neg (by omega), m_in, if_pos hd, bs, if_neg (by omega), x1, bs]
        have dv : ∀ h5 : ct_H, (∀ x, x < hi * wi → LD (h.1 2) hi wi (h.1 1 5) a (plc wi x) (h5.1 82 x)) → ∀ x, x < hi * wi → h5.1 82 x = hf.1 10 (plc wi x) := fun h5 hd x hx => LD_uniq (hd x hx) (f4.2.1 _ (plc_lt g8 g9 hx).1)
        have b49 : b < 49 := by omega
        obtain ⟨l, rfl⟩ := Int.eq_ofNat_of_zero_le hb.1
        rw [z3, Int.toNat_natCast] at m1 m2 m3
        by_cases d0 : d = 0
        · obtain ⟨h5, r1, r2, r3, r4, r5⟩ := ref hf f2 f3
          refine SAM.of inv (r := (p0 : Int)) (h1 := hf) ((pre _).mpr ?_) f2 f3 ⟨h5, ?_, r1, r2⟩
          · rw [if_pos d0, rdN (by omega), bs, m1, ← p2, g_pointOf gf.1 p1, bs]
          · rw [r5, if_pos d0, m_leastOf mp (p := p0) (by omega) (by
              have := (LD_land (r3 p0 p1)).2 z z2
              rw [z3] at this
              rw [this.mpr (by rw [p2]; exact con_refl)]) (by
              intro j hj w
              have := ((LD_land (r3 j (by omega))).2 z z2).mp (by rw [z3]; exact w)
              have := z2.2.2 _ (con_symm this)
              have := (plc_mono g9).mpr hj
              omega), bs]
        · by_cases d1 : d = 1
          · obtain ⟨h5, r1, r2, r3, r4, r5⟩ := ref hf f2 f3
            refine SAM.of inv (r := szN (hf.1 10) (l : Int) ((hi + 2) * (wi + 2))) (h1 := hf) ((pre _).mpr ?_) f2 f3 ⟨h5, ?_, r1, r2⟩
            · rw [if_neg d0, if_pos d1, rdN (by omega), bs, m2]
            · rw [r5, if_neg d0, if_pos d1, m_sizeOf mp ((gf.q r1).2.1), bs]
              unfold szN
              have e : sm (fun x => if hf.1 10 x = (l : Int) then 1 else 0) 0 ((hi + 2) * (wi + 2)) = sm (fun p => if hf.1 10 (plc wi p) = (l : Int) then 1 else 0) 0 (hi * wi) := sm_pts (f := fun x => if hf.1 10 x = (l : Int) then 1 else 0) g8 g9 (fun q hq w => by
                have rim := rm.2 q (by omega) w
                have := (LD_land (f4.2.1 q hq)).1.mpr (by omega)
                rw [this, if_neg (by omega)])
              rw [e, sm_congr (fun p _ p2 => by rw [dv h5 r3 p (by omega)])]
          · by_cases d2 : d = 2
            · obtain ⟨h5, r1, r2, r3, r4, r5⟩ := ref hf f2 f3
              refine SAM.of inv (r := tpN (hf.1 10) (h.1 2) (l : Int) ((hi + 2) * (wi + 2))) (h1 := hf) ((pre _).mpr ?_) f2 f3 ⟨h5, ?_, r1, r2⟩
              · rw [if_neg d0, if_neg d1, if_pos d2, rdN (by omega), bs, m3]
              · have g5 := gf.q r1
                have rh5 := g5.2.2.1
                rw [r1.row2.1, f2.row2.1] at rh5
                rw [r5, if_neg d0, if_neg d1, if_pos d2, m_topOf mp g5.2.1, bs]
                congr 2
                have a1 := tpN_max (A := hf.1 10) (F := h.1 2) (l := (l : Int)) ((hi + 2) * (wi + 2))
                have a2 := tq_max (D := h5.1 82) (M := h5.1 74) (l := (l : Int)) (hi * wi) 0 0 (fun _ => False) ⟨fun _ w => absurd w id, Int.le_refl _, Or.inl rfl⟩
                refine isMax_uniq (P := fun x => x < hi * wi ∧ h5.1 82 x = (l : Int)) (F := h5.1 74) ⟨fun x w => a2.1 x (Or.inr ⟨Nat.zero_le _, by omega, w.2⟩), a2.2.1, a2.2.2.imp id (fun ⟨x, w1, w2⟩ => ⟨x, w1.elim (fun v => absurd v id) (fun v => ⟨by omega, v.2.2⟩), w2⟩)⟩ ⟨fun x w => ?_, a1.2.1, a1.2.2.imp id (fun ⟨x, w1, w2⟩ => ?_)⟩
                · rw [(rh5.1 x w.1).1]
                  exact a1.1 _ ⟨(plc_lt g8 g9 w.1).1, by rw [← dv h5 r3 x w.1]; exact w.2⟩
                · have xin : ¬ h.1 2 x < a := fun u => by
                    have := (LD_land (f4.2.1 x w1.1)).1.mpr u
                    omega
                  have x81 := w1.1
                  obtain ⟨y, y1, y2⟩ := plc_sur g8 g9 (rm.inn (q := x) (by omega) (by omega))
                  subst y2
                  exact ⟨y, ⟨y1, by rw [dv h5 r3 y y1]; exact w1.2⟩, by rw [(rh5.1 y y1).1]; exact w2⟩
            · have d3 : d = 3 := by omega
              obtain ⟨ht, t1, t2, t3, t4, t5⟩ := c_trace gs gf f3 hl
              have gt := gf.q t2
              have qt := f2.trans t2
              obtain ⟨h5, r1, r2, r3, r4, r5⟩ := ref ht qt t3
              have g5 := gt.q r1
              rw [f2.row2.1, f2.row2.2] at t4
              obtain ⟨sf, sg⟩ := sp_facts ig hl
              have t10 : ∀ x, x < (hi + 2) * (wi + 2) → LD (h.1 2) hi wi (h.1 1 5) a x (ht.1 10 x) := by
                have lo := gs.2.2.1.1
                obtain ⟨ht', u1, u2, u3, u4, u5, u6⟩ := x2_traceV gs.2.2.1.1 gf.1 (gf.2.2.1.RM g9) hl f3.1
                rw [t1] at u1
                cases u1
                rw [u6 10 (by omega) (by omega) (by omega) (by omega)]
                exact f4.2.1
              have s1 := sf.1
              have cl := c_holesL rfl gs gt.1 qt.row2.1 t5 rm hl.1 t10 sf sg t4 z2 (spL (h.1 2) hi wi (h.1 1 5) a).2.2.2.1 0 200 0 (by omega) (by omega) (by omega) (by omega)
              have ml := m_holesL rfl gs g5.2.1 rm hl.1 r3 sf r4 z2 (spL (h.1 2) hi wi (h.1 1 5) a).2.2.2.1 0 200 0 (by omega) (by omega) (by omega) (by omega)
              rw [z3, Int.zero_add, show ((0 : Nat) : Int) = 0 from rfl] at cl ml
              refine SAM.of inv (r := sm (holV (spL (h.1 2) hi wi (h.1 1 5) a) (h.1 2) hi wi (h.1 1 5) a z) 0 (spL (h.1 2) hi wi (h.1 1 5) a).2.2.2.1) (h1 := ht) ((pre _).mpr ?_) qt t3 ⟨h5, ?_, r1, r2⟩
              · rw [if_neg d0, if_neg d1, if_neg d2, if_pos d3]
                unfold f_X6_holesOf
                rw [top.2.1, t1, bs, cl, bs]
              · rw [r5, if_neg d0, if_neg d1, if_neg d2]
                unfold f_X7_holesOf
                rw [ml, bs]
      · obtain ⟨hy, y1, y2, y3, y4, y5, y6, y7⟩ := r_lands gs gf f3 hl
        rw [f2.row2.1, f2.row2.2] at y4
        refine SAM.of inv (r := -1) (h1 := hf) ?_ f2 f3 ⟨hy, ?_, y2, y3⟩
        · unfold f_X6_landOf
          rw [x6_isLevel, if_pos hl, bs, if_neg (by omega), top.2.2.1, f1, bs, if_neg (by omega), f4.1, if_pos hb.2, if_neg (by omega), if_neg (by omega), if_neg (by omega), if_neg (by omega)]
        · unfold f_X7_landOf
          rw [m_isLevel, if_pos hl, bs, if_neg (by omega), y1, bs, y4, wr_id (by omega) (by omega), m_in, if_pos hb2, bs, if_neg (by omega), m_in, if_neg hd, bs, if_pos rfl]
    · have hb2 : ¬ (0 ≤ b ∧ b ≤ nmb (h.1 2) hi wi (h.1 1 5) a ((hi + 2) * (wi + 2)) - 1) := by omega
      obtain ⟨hy, y1, y2, y3, y4, y5, y6, y7⟩ := r_lands gs gf f3 hl
      rw [f2.row2.1, f2.row2.2] at y4
      refine SAM.of inv (r := -1) (h1 := hf) ?_ f2 f3 ⟨hy, ?_, y2, y3⟩
      · unfold f_X6_landOf
        rw [x6_isLevel, if_pos hl, bs, if_neg (by omega), top.2.2.1, f1, bs, f4.1]
        by_cases v : b < 0
        · rw [if_pos v]
        · rw [if_neg v, if_neg (by omega)]
      · unfold f_X7_landOf
        rw [m_isLevel, if_pos hl, bs, if_neg (by omega), y1, bs, y4, wr_id (by omega) (by omega), m_in, if_neg hb2, bs, if_pos rfl]
  · refine SAM.of inv (r := -2) (h1 := h) ?_ QF.refl inv.2.1 ⟨h, ?_, QF.refl, inv.2.1⟩
    · unfold f_X6_landOf
      rw [x6_isLevel, if_neg hl, bs, if_pos rfl]
    · unfold f_X7_landOf
      rw [m_isLevel, if_neg hl, bs, if_pos rfl]
end
