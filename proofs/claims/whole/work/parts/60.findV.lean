/-! the class: find -/
def DV (h : ct_H) (o og c cR cA cM cS cT hi wi : Nat) : Prop := UF (h.1 cR) ∧ h.1 o 9 ≤ h.1 og 6 ∧ (h.1 o 9 = h.1 og 6 → DR (h.1 cA) (h.1 cM) (h.1 cS) (h.1 cT) (h.1 o 7) (h.1 c) hi wi (h.1 og 5) (h.1 o 8) ((hi + 2) * (wi + 2)))
section
variable {G : ct_G} {h : ct_H} {o og c cR cA cM cS cT cK hi wi : Nat} {L : Int}
theorem hgs_UF {F : Nat → Int} {s : Nat} {kd L : Int} : ∀ (m k : Nat) (R : Nat → Int), UF R → UF (hgs F s kd L m k R)
  | 0, _, _, u => u
  | m + 1, k, R, u => hgs_UF m (k + 1) _ (hg_UF (F := F) (s := s) (k := k) (kd := kd) (L := L) u).2.2
theorem x1_findV (d : DO G o og c cR cA cM cS cT cK) (g : GR G h og c hi wi) (r : RM (h.1 c) hi wi) (hl : 0 ≤ L ∧ L ≤ 99) (dv : DV h o og c cR cA cM cS cT hi wi) : ∃ h' : ct_H, f_X1_find G h o L = some h' ∧ DV h' o og c cR cA cM cS cT hi wi ∧ DR (h'.1 cA) (h'.1 cM) (h'.1 cS) (h'.1 cT) (h'.1 o 7) (h.1 c) hi wi (h.1 og 5) L ((hi + 2) * (wi + 2)) ∧ h'.1 o 8 = L ∧ h'.2 = h.2 ∧ ∀ a, a ≠ o → a ≠ cR → a ≠ cA → a ≠ cM → a ≠ cS → a ≠ cT → h'.1 a = h.1 a := by
  have dd := d
  obtain ⟨⟨d0, d1, d2, d3, d4, d5, d6, d7, d8, d9, d10, d11, d12⟩, o1, o2, o3, o4, o5, o6, o7, o8⟩ := d
  have g8 := g.2.2.2.2.2.2.2.1
  have g9 := g.2.2.2.2.2.2.2.2
  have hN := N81 g8 g9
  have hN2 : wi + 2 + (wi + 2) ≤ (hi + 2) * (wi + 2) := by rw [show hi + 2 = hi + 1 + 1 by omega, Nat.add_mul, Nat.add_mul]; omega
  obtain ⟨v1, v2, v3⟩ := dv
  unfold f_X1_find
  rw [jn_eq, d0]
  by_cases z : h.1 o 8 = L ∧ h.1 o 9 = h.1 og 6
  · rw [if_pos z.1, if_pos z.2]
    have v := v3 z.2
    rw [z.1] at v
    exact ⟨h, rfl, ⟨v1, v2, v3⟩, v, z.1, rfl, fun a _ _ _ _ _ _ => rfl⟩
  · have zz : ∀ A B : Option ct_H, (if h.1 o 8 = L then (if h.1 o 9 = h.1 og 6 then A else B) else B) = B := by
      intro A B
      by_cases y : h.1 o 8 = L
      · rw [if_pos y, if_neg (fun w => z ⟨y, w⟩)]
      · rw [if_neg y]
    rw [zz]
    dsimp only
    rw [lt_eq, lt_eq, ct_wF_hs, ct_wF_hs, hs_row, hs_hs, hs_orow _ _ (show og ≠ o by omega)]
    generalize hX : up (up (h.1 o) 8 L) 9 (h.1 og 6) = X
    have hb_o : (hs h o X).1 o = X := hs_row _ _ _
    have hb_x : ∀ a, a ≠ o → (hs h o X).1 a = h.1 a := fun a ha => hs_orow _ _ ha
    have X8 : X 8 = L := by rw [← hX, up_other _ _ (by omega), up_same]
    have X9 : X 9 = h.1 og 6 := by rw [← hX, up_same]
    have bg := hb_x og (by omega)
    have bc := hb_x c (by omega)
    have bR := hb_x cR (by omega)
    have st : hs (hs h o X) cR (h.1 cR) = hs h o X := by
      have := hs_self (hs h o X) cR
      rwa [bR] at this
    have i1 := fun K => x1_initL (h := hs h o X) dd (GR_congr g bg) K ((hi + 2) * (wi + 2)) 0 200 (h.1 cR) (by omega) (by omega)
    rw [st] at i1
    have i2 := i1 (fun b13 => ct_lt (ct_wr ((ct_wr ((b13.1 og 4) - (b13.1 og 3))) - 1)) fun v14 => l_X1_find_45 G o v14 (fun b22 => (f_X1_numberLands G b22 o).bind fun r23 => some r23) 200 (0, b13))
    rw [show ((0 : Nat) : Int) = 0 from rfl] at i2
    rw [i2]
    generalize hR0 : (fun j => if 0 ≤ j ∧ j < (hi + 2) * (wi + 2) then (j : Int) else h.1 cR j) = R0
    have r0 : ∀ j, j < (hi + 2) * (wi + 2) → R0 j = (j : Int) := fun j hj => by rw [← hR0]; exact if_pos ⟨Nat.zero_le _, hj⟩
    have u0 : UF R0 := by
      intro x hx
      by_cases y : x < (hi + 2) * (wi + 2)
      · rw [r0 x y]; omega
      · rw [← hR0]
        dsimp only
        rw [if_neg (fun w => y w.2)]
        exact v1 x hx
    rw [lt_eq, hs_orow _ _ (show og ≠ cR by omega), bg, g.2.2.2.2.2.2.1, g.2.2.2.2.2.1, wr_id (a := (((hi + 2) * (wi + 2) : Nat) : Int) - ((wi + 2 : Nat) : Int)) (by omega) (by omega), wr_id (by omega) (by omega), show (((hi + 2) * (wi + 2) : Nat) : Int) - ((wi + 2 : Nat) : Int) - 1 = (((hi + 2) * (wi + 2) - (wi + 3) : Nat) : Int) by omega]
    have l1 := fun K => x1_hangL (h := hs h o X) (L := L) dd (GR_congr g bg) (by rw [bc]; exact r.1) (by rw [hb_o]; exact X8) hl K (v := (hi + 2) * (wi + 2) - (wi + 3)) (by omega) ((hi + 2) * (wi + 2) - (wi + 3)) 0 200 R0 (by omega) (by omega) u0
    rw [bc, bg] at l1
    have l2 := l1 (fun b22 => (f_X1_numberLands G b22 o).bind fun r23 => some r23)
    rw [show ((0 : Nat) : Int) = 0 from rfl] at l2
    rw [l2]
    have hs0 : HS (h.1 c) hi wi (h.1 og 5) L 0 R0 := ⟨u0, fun x hx => by rw [rt_fix (r0 x hx)]; exact con_refl, fun q hq => absurd hq (Nat.not_lt_zero _)⟩
    have hse := HS_all (kd := h.1 og 5) g8 g9 r hl.1 ((hi + 2) * (wi + 2) - (wi + 3)) 0 R0 (by omega) hs0
    have rtr := HS_end g8 g9 (by omega) hse
    generalize hgs (h.1 c) (wi + 2) (h.1 og 5) L ((hi + 2) * (wi + 2) - (wi + 3)) 0 R0 = R at rtr
    unfold f_X1_numberLands
    rw [lt_eq, ct_wF_hs, hs_orow _ _ (show o ≠ cR by omega), hb_o]
    generalize hY : up X 7 0 = Y
    have Y7 : Y 7 = 0 := by rw [← hY, up_same]
    have Yj : ∀ j, j ≠ 7 → Y j = X j := fun j hj => by rw [← hY, up_other _ _ hj]
    have co : (hs (hs (hs h o X) cR R) o Y).1 o = Y := hs_row _ _ _
    have cR1 : (hs (hs (hs h o X) cR R) o Y).1 cR = R := by rw [hs_orow _ _ (by omega), hs_row]
    have cx : ∀ a, a ≠ o → a ≠ cR → (hs (hs (hs h o X) cR R) o Y).1 a = h.1 a := fun a a1 a2 => by rw [hs_orow _ _ a1, hs_orow _ _ a2, hs_orow _ _ a1]
    have cg := cx og (by omega) (by omega)
    have cc := cx c (by omega) (by omega)
    obtain ⟨h', e1, e2, e3, e4, e5⟩ := x1_numL (L := L) dd ((hi + 2) * (wi + 2)) 0 200 (hs (hs (hs h o X) cR R) o Y) (by omega) (by omega) (GR_congr g cg) (by rw [cc]; exact r) (by rw [co, Yj 8 (by omega)]; exact X8) hl.1 (by rw [cc, cg, cR1]; exact rtr) ⟨by rw [co, Y7]; rfl, fun x hx => absurd hx (Nat.not_lt_zero _), fun x hx => absurd hx (Nat.not_lt_zero _)⟩
    rw [cc, cg] at e2
    have e1' : l_X1_numberLands_5 G o 200 (0, hs (hs (hs h o X) cR R) o Y) = some h' := e1
    rw [e1', bs]
    have hg := (e5 og (by omega) (by omega) (by omega) (by omega) (by omega)).trans cg
    have hc := (e5 c (by omega) (by omega) (by omega) (by omega) (by omega)).trans cc
    have hR := (e5 cR (by omega) (by omega) (by omega) (by omega) (by omega)).trans cR1
    have h8 : h'.1 o 8 = L := by rw [e3 8 (by omega), co, Yj 8 (by omega)]; exact X8
    have h9 : h'.1 o 9 = h.1 og 6 := by rw [e3 9 (by omega), co, Yj 9 (by omega)]; exact X9
    refine ⟨h', rfl, ⟨by rw [hR]; exact rtr.1, by rw [h9, hg]; exact Int.le_refl _, fun _ => ?_⟩, e2, h8, e4, fun a a1 a2 a3 a4 a5 a6 => (e5 a a1 a3 a4 a5 a6).trans (cx a a1 a2)⟩
    rw [hc, hg, h8]
    exact e2
end
