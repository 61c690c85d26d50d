/-! the reference: layLands -/
theorem unv_le (D : Nat → Int) : unv D ≤ 49 := by
  have := sm_le (f := fun x => if D x = -5 then 1 else 0) (b := 1) (by omega) (m := 49) (i := 0) (fun j _ _ => by split <;> omega)
  unfold unv
  omega
section
variable {F : Nat → Int} {hi wi : Nat} {kd L : Int}
theorem nmb_gap {a b : Nat} (h : a ≤ b) (hq : ∀ q, a ≤ q → q < b → ¬ isl F hi wi kd L q) : nmb F hi wi kd L a = nmb F hi wi kd L b := by
  obtain ⟨k, rfl⟩ : ∃ k, b = a + k := ⟨b - a, by omega⟩
  unfold nmb
  rw [sm_cut, sm_zero (i := 0 + a) (fun j j1 j2 => b01_f (hq j (by omega) (by omega))), Int.add_zero]
theorem isl_inn (h1 : 2 ≤ hi ∧ hi ≤ 7) (h2 : 2 ≤ wi ∧ wi ≤ 7) (r : RM F hi wi) (hL : 0 ≤ L) {q : Nat} (i : isl F hi wi kd L q) : (1 ≤ q / (wi + 2) ∧ q / (wi + 2) ≤ hi) ∧ 1 ≤ q % (wi + 2) ∧ q % (wi + 2) ≤ wi := by
  have hN := N81 h1 h2
  have a := i.1
  have b := i.2.1
  exact r.inn (by omega) (by omega)
theorem plc_gap (h2 : 2 ≤ wi ∧ wi ≤ 7) {p q : Nat} (a : plc wi p < q) (b : q < plc wi (p + 1)) : ¬ (1 ≤ q % (wi + 2) ∧ q % (wi + 2) ≤ wi) := by
  unfold plc at a b
  rcases w_cases h2 with rfl | rfl | rfl | rfl | rfl | rfl <;> omega
theorem plc_mono (h2 : 2 ≤ wi ∧ wi ≤ 7) {p q : Nat} : plc wi p < plc wi q ↔ p < q := by
  unfold plc
  rcases w_cases h2 with rfl | rfl | rfl | rfl | rfl | rfl <;> omega
theorem plc_sur (h1 : 2 ≤ hi ∧ hi ≤ 7) (h2 : 2 ≤ wi ∧ wi ≤ 7) {q : Nat} (h : (1 ≤ q / (wi + 2) ∧ q / (wi + 2) ≤ hi) ∧ 1 ≤ q % (wi + 2) ∧ q % (wi + 2) ≤ wi) : ∃ p, p < hi * wi ∧ plc wi p = q := by
  obtain ⟨⟨a1, a2⟩, b1, b2⟩ := h
  have dm := Nat.div_add_mod q (wi + 2)
  generalize q / (wi + 2) = R at *
  generalize q % (wi + 2) = C at *
  obtain ⟨y, rfl⟩ : ∃ y, R = y + 1 := ⟨R - 1, by omega⟩
  obtain ⟨x, rfl⟩ : ∃ x, C = x + 1 := ⟨C - 1, by omega⟩
  refine ⟨y * wi + x, yx_lt (by omega) (by omega), ?_⟩
  rw [plq_plc h2 (by omega)]
  unfold plq
  omega
theorem nmb_next (h1 : 2 ≤ hi ∧ hi ≤ 7) (h2 : 2 ≤ wi ∧ wi ≤ 7) (r : RM F hi wi) (hL : 0 ≤ L) {p : Nat} : nmb F hi wi kd L (plc wi (p + 1)) = nmb F hi wi kd L (plc wi p + 1) := by
  have := (plc_mono h2 (p := p) (q := p + 1)).mpr (by omega)
  refine (nmb_gap (by omega) (fun q q1 q2 i => ?_)).symm
  exact plc_gap h2 (p := p) (by omega) q2 (isl_inn h1 h2 r hL i).2
theorem nmb_first (h1 : 2 ≤ hi ∧ hi ≤ 7) (h2 : 2 ≤ wi ∧ wi ≤ 7) (r : RM F hi wi) (hL : 0 ≤ L) : nmb F hi wi kd L (plc wi 0) = 0 := by
  have e : nmb F hi wi kd L 0 = nmb F hi wi kd L (plc wi 0) := nmb_gap (by omega) (fun q q1 q2 i => by
    have := isl_inn h1 h2 r hL i
    unfold plc at q2
    rcases w_cases h2 with rfl | rfl | rfl | rfl | rfl | rfl <;> omega)
  rw [← e]
  rfl
theorem nmb_last (h1 : 2 ≤ hi ∧ hi ≤ 7) (h2 : 2 ≤ wi ∧ wi ≤ 7) (r : RM F hi wi) (hL : 0 ≤ L) : nmb F hi wi kd L (plc wi (hi * wi)) = nmb F hi wi kd L ((hi + 2) * (wi + 2)) := by
  have e : plc wi (hi * wi) = (wi + 2) * (hi + 1) + 1 := by
    unfold plc
    rw [Nat.mul_div_cancel _ (by omega), Nat.mul_mod_left]
  have e2 : (hi + 2) * (wi + 2) = (wi + 2) * (hi + 1) + (wi + 2) := by rw [Nat.mul_comm, show hi + 2 = hi + 1 + 1 by omega, Nat.mul_add (wi + 2) (hi + 1) 1]; omega
  refine nmb_gap (by omega) (fun q q1 q2 i => ?_)
  have a := (isl_inn h1 h2 r hL i).1.2
  have : hi + 1 ≤ q / (wi + 2) := by
    rw [Nat.le_div_iff_mul_le (by omega), Nat.mul_comm]
    omega
  omega
end
section
variable {G : ct_G} {o c cD cP hi wi : Nat} {L kd : Int} {F : Nat → Int}
theorem m_flood (mp : MP G o c cD cP) {n : Int} {D0 : Nat → Int} {p0 : Nat} (hn : 0 ≤ n) (hl : 0 ≤ L ∧ L ≤ 99) (hkd : 0 ≤ kd ∧ kd ≤ 4) (K : ct_H → Option ct_H) : ∀ (f : Nat) (h : ct_H) (k : Nat), 2 * unv (h.1 cD) + (k : Int) < f → MD G h o c hi wi → RH F (h.1 c) hi wi → h.1 o 2 = kd → h.1 o 18 = n → h.1 o 19 = (k : Nat) → PJ F hi wi kd L D0 n p0 (h.1 cD) (h.1 cP) k → PC F hi wi kd L D0 n (fun _ => False) (h.1 cD) (h.1 cP) k → ∃ h' : ct_H, l_X7_layLands_43 G o L K f h = K h' ∧ FRM o cD cP h h' ∧ PJ F hi wi kd L D0 n p0 (h'.1 cD) (h'.1 cP) 0 ∧ PC F hi wi kd L D0 n (fun _ => False) (h'.1 cD) (h'.1 cP) 0
  | 0, h, k, h1, m, rh, kk, h18, hk, pj, pc => by have := unv_nonneg (h.1 cD); omega
  | f + 1, h, 0, h1, m, rh, kk, h18, hk, pj, pc => by
    refine ⟨h, ?_, FRM.refl, pj, pc⟩
    rw [l_X7_layLands_43, if_pos (by omega)]
  | f + 1, h, k + 1, h1, m, rh, kk, h18, hk, pj, pc => by
    obtain ⟨p1, p2, p3, p4, q1, q2, q3⟩ := mp
    have mp : MP G o c cD cP := ⟨p1, p2, p3, p4, q1, q2, q3⟩
    obtain ⟨j1, j2, j3⟩ := pj
    have u0 := unv_nonneg (h.1 cD)
    obtain ⟨x, x1, x2, x3, x4⟩ := j2 k (by omega)
    rw [l_X7_layLands_43, if_neg (by omega), lt_eq, ct_wF_hs, hk, wr_id (by omega) (by omega), show ((k + 1 : Nat) : Int) - 1 = (k : Int) by omega]
    generalize hO : up (h.1 o) 19 (k : Int) = O'
    have ro : (hs h o O').1 o = O' := hs_row _ _ _
    have rx : ∀ a, a ≠ o → (hs h o O').1 a = h.1 a := fun a ha => hs_orow _ _ ha
    have O19 : O' 19 = (k : Int) := by rw [← hO, up_same]
    have Oj : ∀ j, j ≠ 19 → O' j = h.1 o j := fun j hj => by rw [← hO, up_other _ _ hj]
    have f0 : FRM o cD cP h (hs h o O') := ⟨fun j hj => by rw [ro]; exact Oj j hj, rfl, fun a a1 _ _ => rx a a1, fun y hy => by rw [rx cD (by omega)]; exact hy⟩
    have rD := rx cD (by omega)
    have rP := rx cP (by omega)
    rw [ro, O19, Oj 18 (by omega), h18, p3, rdN (by omega), bs, rP, x2]
    have in0 : con F hi wi kd L (plc wi p0) (plc wi x) ∧ ¬ F (plc wi x) < L := by
      rcases j1 x x1 with w | w
      · rw [x3, x4] at w; omega
      · exact ⟨w.2.2.1, w.2.2.2⟩
    obtain ⟨h', k', e1, e2, e3, e4, e5, e6⟩ := m_spreads (h := hs h o O') (k := k) (p := x) mp hn hl hkd (f0.md mp m) (by rw [f0.row mp]; exact rh) (by rw [ro, Oj 2 (by omega)]; exact kk) x1 in0.2 in0.1 (by rw [ro]; exact O19) (by
      rw [rD, rP]; exact ⟨j1, fun i hi => j2 i (by omega), by omega⟩) (by
      rw [rD, rP]
      intro y y1 y2 y3 y4 y5 z z1 z2
      refine pc y y1 y2 y3 (fun i hi w => ?_) id z z1 z2
      by_cases e : i = k
      · subst e; rw [x2] at w; exact y5 (Int.ofNat.inj w).symm
      · exact y4 i (by omega) w)
    rw [rD] at e6
    rw [e1, bs]
    obtain ⟨h'', g1, g2, g3, g4⟩ := m_flood mp hn hl hkd K f h' k' (by omega) (e2.md mp (f0.md mp m)) (by rw [e2.row mp, f0.row mp]; exact rh) (by rw [e2.1 2 (by omega), f0.1 2 (by omega)]; exact kk) (by rw [e2.1 18 (by omega), f0.1 18 (by omega)]; exact h18) e3 e4 e5
    exact ⟨h'', g1, (f0.trans e2).trans g2, g3, g4⟩
/-- what stands once all points ahead of p are done -/
def LJ (F : Nat → Int) (hi wi : Nat) (kd L : Int) (D : Nat → Int) (n : Int) (p : Nat) : Prop := n = nmb F hi wi kd L (plc wi p) ∧ (∀ x, x < hi * wi → D x = -5 ∨ (¬ F (plc wi x) < L ∧ ∃ z, z < plc wi p ∧ isl F hi wi kd L z ∧ con F hi wi kd L z (plc wi x) ∧ D x = nmb F hi wi kd L z)) ∧ (∀ x, x < p → ¬ F (plc wi x) < L → D x ≠ -5) ∧ ∀ x y, x < hi * wi → y < hi * wi → D x ≠ -5 → con F hi wi kd L (plc wi x) (plc wi y) → D y ≠ -5
theorem m_lay1 (mp : MP G o c cD cP) (hl : 0 ≤ L ∧ L ≤ 99) (hkd : 0 ≤ kd ∧ kd ≤ 4) (r : RM F hi wi) {p : Nat} (hp : p < hi * wi) {h : ct_H} (m : MD G h o c hi wi) (rh : RH F (h.1 c) hi wi) (kk : h.1 o 2 = kd) (lj : LJ F hi wi kd L (h.1 cD) (h.1 o 18) p) (K : ct_H → Option ct_H) : ∃ h' : ct_H, ((ct_rd G h (G.1 o 3) (p : Int)).bind fun v13 => ct_jn (β := ct_H) (fun k15 => if v13 < L then (k15 h) else (ct_rd G h (G.1 o 16) (p : Int)).bind fun v17 => if v17 = (-5) then (ct_lt (ct_wF h o 19 0) fun h18 => (f_X7_visit G h18 o L (p : Int) (h18.1 o 18)).bind fun r19 => l_X7_layLands_43 G o L (fun b30 => ct_lt (ct_wF b30 o 18 (ct_wr ((b30.1 o 18) + 1))) fun h31 => k15 h31) 200 r19) else k15 h) K) = K h' ∧ LJ F hi wi kd L (h'.1 cD) (h'.1 o 18) (p + 1) ∧ (∀ j, j ≠ 18 → j ≠ 19 → h'.1 o j = h.1 o j) ∧ h'.2 = h.2 ∧ ∀ a, a ≠ o → a ≠ cD → a ≠ cP → h'.1 a = h.1 a := by
  obtain ⟨p1, p2, p3, p4, q1, q2, q3⟩ := mp
  have mp : MP G o c cD cP := ⟨p1, p2, p3, p4, q1, q2, q3⟩
  have g8 := m.2.2.2.2.2.1
  have g9 := m.2.2.2.2.2.2
  have hN := N81 g8 g9
  have h49 : hi * wi ≤ 49 := Nat.mul_le_mul g8.2 g9.2
  have pl := plc_lt g8 g9 hp
  have pn := (plc_mono g9 (p := p) (q := p + 1)).mpr (by omega)
  obtain ⟨l1, l2, l3, l4⟩ := lj
  rw [m.1, rdN (by rw [m.2.1]; omega), bs, (rh.1 p hp).1, jn_eq]
  have idle : ¬ isl F hi wi kd L (plc wi p) → (¬ F (plc wi p) < L → h.1 cD p ≠ -5) → LJ F hi wi kd L (h.1 cD) (h.1 o 18) (p + 1) := by
    intro ni hd
    refine ⟨by rw [nmb_next g8 g9 r hl.1, nmb_succ, b01_f ni, Int.add_zero]; exact l1, fun x hx => ?_, fun x hx w => ?_, l4⟩
    · rcases l2 x hx with w | ⟨w1, z, z1, z2⟩
      · exact Or.inl w
      · exact Or.inr ⟨w1, z, Nat.lt_trans z1 pn, z2⟩
    · by_cases e : x = p
      · subst e; exact hd w
      · exact l3 x (by omega) w
  by_cases z : F (plc wi p) < L
  · rw [if_pos z]
    exact ⟨h, rfl, idle (fun i => i.2.1 z) (fun w => absurd z w), fun _ _ _ => rfl, rfl, fun _ _ _ _ => rfl⟩
  · rw [if_neg z, p1, rdN (by omega), bs]
    by_cases w : h.1 cD p = -5
    · have ip : isl F hi wi kd L (plc wi p) := by
        refine ⟨pl.1, z, fun y cy => Classical.byContradiction fun yl => ?_⟩
        have ci := con_in g8 g9 cy
        have y81 : y < (hi + 2) * (wi + 2) := ci.2.mpr pl.1
        have yin : ¬ F y < L := fun v => z (ci.1.mp v)
        obtain ⟨y', a1, a2⟩ := plc_sur g8 g9 (r.inn (q := y) (by omega) (by omega))
        subst a2
        have yp : y' < p := (plc_mono g9).mp (by omega)
        exact l4 y' p a1 hp (l3 y' yp yin) cy w
      have i48 := isl_48 g8 g9 r hl.1 ip
      rw [if_pos w, lt_eq, ct_wF_hs]
      generalize hO : up (h.1 o) 19 0 = O'
      have ro : (hs h o O').1 o = O' := hs_row _ _ _
      have rx : ∀ a, a ≠ o → (hs h o O').1 a = h.1 a := fun a ha => hs_orow _ _ ha
      have O19 : O' 19 = 0 := by rw [← hO, up_same]
      have Oj : ∀ j, j ≠ 19 → O' j = h.1 o j := fun j hj => by rw [← hO, up_other _ _ hj]
      have f0 : FRM o cD cP h (hs h o O') := ⟨fun j hj => by rw [ro]; exact Oj j hj, rfl, fun a a1 _ _ => rx a a1, fun y hy => by rw [rx cD (by omega)]; exact hy⟩
      have rD := rx cD (by omega)
      have n0 : 0 ≤ h.1 o 18 := by rw [l1]; exact i48.1
      have ul := unv_le (h.1 cD)
      obtain ⟨h1, k1, e1, e2, e3, e4, e5, e6, e7⟩ := m_visit (h := hs h o O') (k := 0) (y := p) (n := h.1 o 18) (kd := kd) (L := L) (D0 := h.1 cD) (p0 := p) (cur := fun _ => False) mp (f0.md mp m) (by rw [f0.row mp]; exact rh) n0 (by rw [ro]; exact O19) (by
        rw [rD]; exact ⟨fun _ _ => Or.inl rfl, fun i hi => absurd hi (Nat.not_lt_zero _), by omega⟩) (by
        rw [rD]
        intro x _ x2 x3
        rw [x2] at x3; omega) hp (fun _ => con_refl)
      rw [rD] at e7
      rw [ro, Oj 18 (by omega), e1, bs]
      obtain ⟨h2, f1, f2, f3, f4⟩ := m_flood (kd := kd) (L := L) (D0 := h.1 cD) (p0 := p) mp n0 hl hkd (fun b30 => ct_lt (ct_wF b30 o 18 (ct_wr ((b30.1 o 18) + 1))) fun h31 => K h31) 200 h1 k1 (by omega) (e2.md mp (f0.md mp m)) (by rw [e2.row mp, f0.row mp]; exact rh) (by rw [e2.1 2 (by omega), f0.1 2 (by omega)]; exact kk) (by rw [e2.1 18 (by omega), f0.1 18 (by omega)]) e3 e4 e5
      have ft := (f0.trans e2).trans f2
      rw [f1, lt_eq, ct_wF_hs, ft.1 18 (by omega), wr_id (by omega) (by omega)]
      have dp : h2.1 cD p ≠ -5 := f2.2.2.2 p (e6 z)
      obtain ⟨g1, g2, g3⟩ := f3
      -- all that hangs together with p is reached
      have all : ∀ x, x < hi * wi → con F hi wi kd L (plc wi p) (plc wi x) → h2.1 cD x = h.1 o 18 ∧ h.1 cD x = -5 := by
        intro x hx cx
        have inv := cx (fun q => ∃ y, y < hi * wi ∧ plc wi y = q ∧ h2.1 cD y = h.1 o 18 ∧ h.1 cD y = -5) (fun a b ad => by
          have ai := adj_in g8 g9 ad
          obtain ⟨a', a1, a2⟩ := plc_sur g8 g9 (r.inn (q := a) (by omega) (by omega))
          obtain ⟨b', b1, b2⟩ := plc_sur g8 g9 (r.inn (q := b) (by omega) (by omega))
          subst a2 b2
          have step : ∀ u v, u < hi * wi → v < hi * wi → (adj F hi wi kd L (plc wi u) (plc wi v) ∨ adj F hi wi kd L (plc wi v) (plc wi u)) → h2.1 cD u = h.1 o 18 → h.1 cD u = -5 → h2.1 cD v = h.1 o 18 ∧ h.1 cD v = -5 := by
            intro u v u1 v1 uv u2 u3
            have dv := f4 u u1 u3 u2 (fun i hi => absurd hi (Nat.not_lt_zero _)) id v v1 uv
            rcases g1 v v1 with y | y
            · exfalso
              rw [y] at dv
              refine l4 v u v1 u1 dv ?_ u3
              rcases uv with uv | uv
              · exact con_symm (con_adj uv)
              · exact con_adj uv
            · exact ⟨y.2.1, y.1⟩
          constructor
          · rintro ⟨y, y1, y2, y3, y4⟩
            have := plc_inj g9 y2
            subst this
            exact ⟨b', b1, rfl, step _ b' y1 b1 (Or.inl ad) y3 y4⟩
          · rintro ⟨y, y1, y2, y3, y4⟩
            have := plc_inj g9 y2
            subst this
            exact ⟨a', a1, rfl, step _ a' y1 a1 (Or.inr ad) y3 y4⟩)
        have pp : h2.1 cD p = h.1 o 18 := by
          rcases g1 p hp with y | y
          · rw [w] at y; exact absurd y dp
          · exact y.2.1
        obtain ⟨y, y1, y2, y3⟩ := inv.mp ⟨p, hp, rfl, pp, w⟩
        have := plc_inj g9 y2
        subst this
        exact y3
      have none : ∀ x, x < hi * wi → ¬ con F hi wi kd L (plc wi p) (plc wi x) → h2.1 cD x = h.1 cD x := by
        intro x hx cx
        rcases g1 x hx with y | y
        · exact y
        · exact absurd y.2.2.1 cx
      generalize hU : up (h2.1 o) 18 (h.1 o 18 + 1) = U'
      have uD : (hs h2 o U').1 cD = h2.1 cD := hs_orow _ _ (by omega)
      have uo : (hs h2 o U').1 o = U' := hs_row _ _ _
      refine ⟨_, rfl, ?_, fun j j1 j2 => by rw [uo, ← hU, up_other _ _ j1]; exact ft.1 j j2, ft.2.1, fun a a1 a2 a3 => (hs_orow _ _ a1).trans (ft.2.2.1 a a1 a2 a3)⟩
      rw [uD, uo]
      refine ⟨by rw [← hU, up_same, nmb_next g8 g9 r hl.1, nmb_succ, b01_t ip, l1], fun x hx => ?_, fun x hx v => ?_, fun x y hx hy dx cxy => ?_⟩
      · rcases Classical.em (con F hi wi kd L (plc wi p) (plc wi x)) with cx | cx
        · refine Or.inr ⟨fun v => z ((con_in g8 g9 cx).1.mpr v), plc wi p, pn, ip, cx, ?_⟩
          rw [(all x hx cx).1, l1]
        · rw [none x hx cx]
          rcases l2 x hx with v | ⟨v1, y, y1, y2⟩
          · exact Or.inl v
          · exact Or.inr ⟨v1, y, Nat.lt_trans y1 pn, y2⟩
      · by_cases e : x = p
        · subst e; exact dp
        · exact ft.2.2.2 x (l3 x (by omega) v)
      · rcases Classical.em (con F hi wi kd L (plc wi p) (plc wi x)) with cx | cx
        · rw [(all y hy (con_trans cx cxy)).1]; omega
        · rw [none x hx cx] at dx
          exact ft.2.2.2 y (l4 x y hx hy dx cxy)
    · rw [if_neg w]
      refine ⟨h, rfl, idle (fun i => ?_) (fun _ => w), fun _ _ _ => rfl, rfl, fun _ _ _ _ => rfl⟩
      rcases l2 p hp with v | ⟨_, y, y1, y2, y3, _⟩
      · exact w v
      · have := i.2.2 y y3; omega
theorem m_layDL (mp : MP G o c cD cP) (hl : 0 ≤ L ∧ L ≤ 99) (hkd : 0 ≤ kd ∧ kd ≤ 4) (r : RM F hi wi) : ∀ (t p f : Nat) (h : ct_H), p + t = hi * wi → t < f → MD G h o c hi wi → RH F (h.1 c) hi wi → h.1 o 2 = kd → LJ F hi wi kd L (h.1 cD) (h.1 o 18) p → ∃ h' : ct_H, l_X7_layLands_17 G o L f ((p : Int), h) = some h' ∧ LJ F hi wi kd L (h'.1 cD) (h'.1 o 18) (hi * wi) ∧ (∀ j, j ≠ 18 → j ≠ 19 → h'.1 o j = h.1 o j) ∧ h'.2 = h.2 ∧ ∀ a, a ≠ o → a ≠ cD → a ≠ cP → h'.1 a = h.1 a
  | 0, p, f + 1, h, h1, h2, m, rh, kk, lj => by
    refine ⟨h, ?_, by rw [← h1]; exact lj, fun _ _ _ => rfl, rfl, fun _ _ _ _ => rfl⟩
    rw [l_X7_layLands_17, m_points m, bs, if_pos (by dsimp only; omega)]
  | t + 1, p, f + 1, h, h1, h2, m, rh, kk, lj => by
    have h49 : hi * wi ≤ 49 := Nat.mul_le_mul m.2.2.2.2.2.1.2 m.2.2.2.2.2.2.2
    rw [l_X7_layLands_17, m_points m, bs, if_neg (by dsimp only; omega)]
    dsimp only
    rw [wr_id (a := (p : Int) + 1) (by omega) (by omega), show (p : Int) + 1 = ((p + 1 : Nat) : Int) by omega]
    obtain ⟨hh, e1, e2, e3, e4, e5⟩ := m_lay1 mp hl hkd r (show p < hi * wi by omega) m rh kk lj (fun b14 => l_X7_layLands_17 G o L f (((p + 1 : Nat) : Int), b14))
    have hoc := mp.2.2.2.2
    have ec := e5 c (by omega) (by omega) (by omega)
    have m2 : MD G hh o c hi wi := by
      obtain ⟨g1, g2, g3, g4, g5, g8, g9⟩ := m
      exact ⟨g1, g2, g3, by rw [e3 0 (by omega) (by omega)]; exact g4, by rw [e3 1 (by omega) (by omega)]; exact g5, g8, g9⟩
    obtain ⟨h', f1, f2, f3, f4, f5⟩ := m_layDL mp hl hkd r t (p + 1) f hh (by omega) (by omega) m2 (by rw [ec]; exact rh) (by rw [e3 2 (by omega) (by omega)]; exact kk) e2
    exact ⟨h', e1.trans f1, f2, fun j a b => (f3 j a b).trans (e3 j a b), f4.trans e4, fun a a1 a2 a3 => (f5 a a1 a2 a3).trans (e5 a a1 a2 a3)⟩
theorem m_lay0L (mp : MP G o c cD cP) {h : ct_H} (K : ct_H → Option ct_H) : ∀ (t i f : Nat) (D : Nat → Int), i + t = 49 → t < f → l_X7_layLands_2 G o K f ((i : Int), hs h cD D) = K (hs h cD (fun j => if i ≤ j ∧ j < 49 then -5 else D j))
  | 0, i, f + 1, D, h1, h2 => by
    rw [l_X7_layLands_2, if_pos (by dsimp only; omega)]
    dsimp only
    have e : (fun j => if i ≤ j ∧ j < 49 then -5 else D j) = D := by funext j; rw [if_neg (by omega)]
    rw [e]
  | t + 1, i, f + 1, D, h1, h2 => by
    rw [l_X7_layLands_2, if_neg (by dsimp only; omega)]
    dsimp only
    rw [mp.1, wtN (by rw [mp.2.1]; omega), bs, hs_row, hs_hs, wr_id (by omega) (by omega)]
    have ih := m_lay0L mp (h := h) K t (i + 1) f (up D i (-5)) (by omega) (by omega)
    rw [show ((i + 1 : Nat) : Int) = (i : Int) + 1 by omega] at ih
    rw [ih]
    congr 2
    funext j
    by_cases e : j = i
    · subst e; rw [if_neg (by omega), up_same, if_pos (by omega)]
    · rw [up_other _ _ e]
      by_cases e2 : i + 1 ≤ j ∧ j < 49
      · rw [if_pos e2, if_pos (by omega)]
      · rw [if_neg e2, if_neg (by omega)]
theorem m_layLands {h : ct_H} (mp : MP G o c cD cP) (hl : 0 ≤ L ∧ L ≤ 99) (hkd : 0 ≤ kd ∧ kd ≤ 4) (r : RM F hi wi) (m : MD G h o c hi wi) (rh : RH F (h.1 c) hi wi) (kk : h.1 o 2 = kd) : ∃ h' : ct_H, f_X7_layLands G h o L = some h' ∧ h'.1 o 18 = nmb F hi wi kd L ((hi + 2) * (wi + 2)) ∧ (∀ x, x < hi * wi → LD F hi wi kd L (plc wi x) (h'.1 cD x)) ∧ (∀ j, j ≠ 18 → j ≠ 19 → h'.1 o j = h.1 o j) ∧ h'.2 = h.2 ∧ ∀ a, a ≠ o → a ≠ cD → a ≠ cP → h'.1 a = h.1 a := by
  have g8 := m.2.2.2.2.2.1
  have g9 := m.2.2.2.2.2.2
  have h49 : hi * wi ≤ 49 := Nat.mul_le_mul g8.2 g9.2
  have hoc := mp.2.2.2.2
  unfold f_X7_layLands
  have a1 := fun K => m_lay0L mp (h := h) K 49 0 200 (h.1 cD) (by omega) (by omega)
  rw [hs_self] at a1
  have a2 := a1 (fun b8 => ct_lt (ct_wF b8 o 18 0) fun h9 => l_X7_layLands_17 G o L 200 (0, h9))
  rw [show ((0 : Nat) : Int) = 0 from rfl] at a2
  rw [a2, lt_eq, ct_wF_hs, hs_orow _ _ (show o ≠ cD by omega)]
  generalize hD : (fun j => if 0 ≤ j ∧ j < 49 then (-5 : Int) else h.1 cD j) = D
  have d5 : ∀ x, x < 49 → D x = -5 := fun x hx => by rw [← hD]; exact if_pos ⟨Nat.zero_le _, hx⟩
  generalize hO : up (h.1 o) 18 0 = O'
  have ro : (hs (hs h cD D) o O').1 o = O' := hs_row _ _ _
  have rD : (hs (hs h cD D) o O').1 cD = D := by rw [hs_orow _ _ (by omega), hs_row]
  have rx : ∀ a, a ≠ o → a ≠ cD → (hs (hs h cD D) o O').1 a = h.1 a := fun a x1 x2 => by rw [hs_orow _ _ x1, hs_orow _ _ x2]
  have O18 : O' 18 = 0 := by rw [← hO, up_same]
  have Oj : ∀ j, j ≠ 18 → O' j = h.1 o j := fun j hj => by rw [← hO, up_other _ _ hj]
  have m2 : MD G (hs (hs h cD D) o O') o c hi wi := by
    obtain ⟨g1, g2, g3, g4, g5, g8, g9⟩ := m
    exact ⟨g1, g2, g3, by rw [ro, Oj 0 (by omega)]; exact g4, by rw [ro, Oj 1 (by omega)]; exact g5, g8, g9⟩
  obtain ⟨h', e1, e2, e3, e4, e5⟩ := m_layDL (kd := kd) (L := L) (F := F) mp hl hkd r (hi * wi) 0 200 (hs (hs h cD D) o O') (by omega) (by omega) m2 (by rw [rx c (by omega) (by omega)]; exact rh) (by rw [ro, Oj 2 (by omega)]; exact kk) (by
    rw [rD, ro, O18]
    exact ⟨(nmb_first g8 g9 r hl.1).symm, fun x hx => Or.inl (d5 x (by omega)), fun x hx => absurd hx (Nat.not_lt_zero _), fun x y hx hy w => absurd (d5 x (by omega)) w⟩)
  obtain ⟨l1, l2, l3, l4⟩ := e2
  refine ⟨h', e1, by rw [l1, nmb_last g8 g9 r hl.1], fun x hx => ?_, fun j j1 j2 => by rw [e3 j j1 j2, ro, Oj j j1], e4, fun a x1 x2 x3 => (e5 a x1 x2 x3).trans (rx a x1 x2)⟩
  rcases Classical.em (F (plc wi x) < L) with w | w
  · rcases l2 x hx with v | v
    · exact Or.inl ⟨w, v⟩
    · exact absurd w v.1
  · rcases l2 x hx with v | ⟨_, y, y1, y2, y3, y4⟩
    · exact absurd v (l3 x hx w)
    · exact Or.inr ⟨w, y, y2, y3, y4⟩
end
