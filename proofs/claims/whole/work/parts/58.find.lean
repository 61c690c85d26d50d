/-! the class: lands found -/
def DO (G : ct_G) (o og c cR cA cM cS cT cK : Nat) : Prop := (G.1 o 0 = og ∧ G.1 o 1 = cR ∧ G.2 cR = 81 ∧ G.1 o 2 = cA ∧ G.2 cA = 81 ∧ G.1 o 3 = cM ∧ G.2 cM = 49 ∧ G.1 o 4 = cS ∧ G.2 cS = 49 ∧ G.1 o 5 = cT ∧ G.2 cT = 49 ∧ G.1 o 6 = cK ∧ G.2 cK = 49) ∧ og < c ∧ c < o ∧ o < cR ∧ cR < cA ∧ cA < cM ∧ cM < cS ∧ cS < cT ∧ cT < cK
def hg1 (F : Nat → Int) (L : Int) (k : Nat) (R : Nat → Int) : Nat → Int := if ¬ F k < L ∧ ¬ F (k + 1) < L then uni R k (k + 1) else R
def hg2 (F : Nat → Int) (s : Nat) (L : Int) (k : Nat) (R : Nat → Int) : Nat → Int := if ¬ F k < L ∧ ¬ F (k + s) < L then uni R k (k + s) else R
def hg3 (F : Nat → Int) (s : Nat) (kd L : Int) (k : Nat) (R : Nat → Int) : Nat → Int := if js F s kd k L = 1 then (if F k < L then uni R (k + 1) (k + s) else uni R k (k + s + 1)) else R
def hg (F : Nat → Int) (s : Nat) (kd L : Int) (k : Nat) (R : Nat → Int) : Nat → Int := hg3 F s kd L k (hg2 F s L k (hg1 F L k R))
def hgs (F : Nat → Int) (s : Nat) (kd L : Int) : Nat → Nat → (Nat → Int) → Nat → Int
  | 0, _, R => R
  | m + 1, k, R => hgs F s kd L m (k + 1) (hg F s kd L k R)
theorem js01 (F : Nat → Int) (s : Nat) (kd : Int) (q : Nat) (L : Int) : js F s kd q L = 0 ∨ js F s kd q L = 1 := by
  unfold js; split
  · exact jd01 _ _ _ _ _
  · exact Or.inl rfl
theorem hg_UF {F : Nat → Int} {s k : Nat} {kd L : Int} {R : Nat → Int} (u : UF R) : UF (hg1 F L k R) ∧ UF (hg2 F s L k (hg1 F L k R)) ∧ UF (hg F s kd L k R) := by
  have a : UF (hg1 F L k R) := by unfold hg1; split; exact uni_UF u; exact u
  have b : UF (hg2 F s L k (hg1 F L k R)) := by unfold hg2; split; exact uni_UF a; exact a
  refine ⟨a, b, ?_⟩
  unfold hg hg3
  split
  · split <;> exact uni_UF b
  · exact b
section
variable {G : ct_G} {h : ct_H} {o og c cR cA cM cS cT cK hi wi : Nat} {L : Int}
theorem x1_rootL (d : DO G o og c cR cA cM cS cT cK) {R : Nat → Int} (hR : h.1 cR = R) (u : UF R) : ∀ (n p st : Nat), p + st ≤ 80 → p < n → l_X1_rootOf_4 G o h n ((p : Int), (st : Int)) = some ((rt R p : Nat) : Int)
  | 0, p, st, h1, h2 => absurd h2 (Nat.not_lt_zero _)
  | n + 1, p, st, h1, h2 => by
    have up := u p (by omega)
    rw [l_X1_rootOf_4, d.1.2.1, d.1.2.2.1, if_neg (by dsimp only; omega)]
    dsimp only
    rw [rdN (by rw [d.1.2.2.1]; omega), bs, hR, rt_eq u (by omega)]
    by_cases z : R p = (p : Int)
    · rw [if_pos z, if_pos z]
    · rw [if_neg z, if_neg z, bs, wr_id (by omega) (by omega)]
      have ih := x1_rootL d hR u n (R p).toNat (st + 1) (by omega) (by omega)
      rw [show (((R p).toNat : Nat) : Int) = R p by omega, show ((st + 1 : Nat) : Int) = (st : Int) + 1 by omega] at ih
      exact ih
theorem x1_rootOf (d : DO G o og c cR cA cM cS cT cK) {R : Nat → Int} (hR : h.1 cR = R) (u : UF R) {p : Nat} (hp : p < 81) : f_X1_rootOf G h o (p : Int) = some ((rt R p : Nat) : Int) := by
  unfold f_X1_rootOf
  exact x1_rootL d hR u 200 p 0 (by omega) (by omega)
theorem x1_unite (d : DO G o og c cR cA cM cS cT cK) {R : Nat → Int} (u : UF R) {a b : Nat} (ha : a < 81) (hb : b < 81) : f_X1_unite G (hs h cR R) o (a : Int) (b : Int) = some (hs h cR (uni R a b)) := by
  have ra := rt_le u ha
  have rb := rt_le u hb
  unfold f_X1_unite
  rw [x1_rootOf d (hs_row _ _ _) u ha, bs, x1_rootOf d (hs_row _ _ _) u hb, bs, ct_max_eq, ct_min_eq, show max ((rt R a : Nat) : Int) ((rt R b : Nat) : Int) = ((max (rt R a) (rt R b) : Nat) : Int) by omega, show min ((rt R a : Nat) : Int) ((rt R b : Nat) : Int) = ((min (rt R a) (rt R b) : Nat) : Int) by omega, d.1.2.1, wtN (by rw [d.1.2.2.1]; omega), bs, hs_row, hs_hs]
  rfl
theorem x1_hang (d : DO G o og c cR cA cM cS cT cK) (g : GR G h og c hi wi) (hF : hB (h.1 c)) (hL : h.1 o 8 = L) (hl : 0 ≤ L ∧ L ≤ 99) {R : Nat → Int} (u : UF R) {k : Nat} (hk : k + wi + 3 < 81) : f_X1_hangTogether G (hs h cR R) o (k : Int) = some (hs h cR (hg (h.1 c) (wi + 2) (h.1 og 5) L k R)) := by
  have dd := d
  obtain ⟨⟨d0, d1, d2, d3, d4, d5, d6, d7, d8, d9, d10, d11, d12⟩, o1, o2, o3, o4, o5, o6, o7, o8⟩ := d
  have g9 := g.2.2.2.2.2.2.2.2
  have xc : ∀ X, (hs h cR X).1 c = h.1 c := fun X => hs_orow _ _ (by omega)
  have xg : ∀ X, (hs h cR X).1 og = h.1 og := fun X => hs_orow _ _ (by omega)
  have xo : ∀ X, (hs h cR X).1 o = h.1 o := fun X => hs_orow _ _ (by omega)
  have isI : ∀ X (q : Nat), q < 81 → f_X1_isIn G (hs h cR X) o (q : Int) = some (if h.1 c q < L then 0 else 1) := by
    intro X q hq
    unfold f_X1_isIn
    rw [d0, g.1, rdN (by rw [g.2.1]; omega), bs, xc, xo, hL]
    split <;> rfl
  obtain ⟨u1, u2, u3⟩ := hg_UF (F := h.1 c) (s := wi + 2) (k := k) (kd := h.1 og 5) (L := L) u
  unfold f_X1_hangTogether
  rw [lt_eq, d0, xg, g.2.2.2.2.2.1, wr_id (a := (k : Int) + ((wi + 2 : Nat) : Int)) (by omega) (by omega), show (k : Int) + ((wi + 2 : Nat) : Int) = ((k + (wi + 2) : Nat) : Int) by omega, isI R k (by omega), bs, jn_eq, wr_id (a := (k : Int) + 1) (by omega) (by omega), show (k : Int) + 1 = ((k + 1 : Nat) : Int) by omega, wr_id (a := ((k + (wi + 2) : Nat) : Int) + 1) (by omega) (by omega), show ((k + (wi + 2) : Nat) : Int) + 1 = ((k + (wi + 2) + 1 : Nat) : Int) by omega]
  have third : ∀ X, UF X → ((f_X0_isJoinedSaddle G (hs h cR X) og (k : Int) ((hs h cR X).1 o 8)).bind fun v6 => if v6 = 0 then (some (hs h cR X)) else (f_X1_isIn G (hs h cR X) o (k : Int)).bind fun v7 => if v7 = 0 then ((f_X1_unite G (hs h cR X) o ((k + 1 : Nat) : Int) ((k + (wi + 2) : Nat) : Int)).bind fun r8 => some r8) else (f_X1_unite G (hs h cR X) o (k : Int) ((k + (wi + 2) + 1 : Nat) : Int)).bind fun r9 => some r9) = some (hs h cR (hg3 (h.1 c) (wi + 2) (h.1 og 5) L k X)) := by
    intro X uX
    have q := g_isJoinedSaddle (GR_congr g (xg X)) (q := k) (L := L) (by omega) (by rw [xc]; exact hF) hl
    rw [xc, xg] at q
    rw [xo, hL, q, bs]
    unfold hg3
    rcases js01 (h.1 c) (wi + 2) (h.1 og 5) k L with e | e
    · rw [e, if_pos rfl, if_neg (by omega)]
    · rw [e, if_neg (by omega), if_pos rfl, isI X k (by omega), bs]
      by_cases w : h.1 c k < L
      · rw [if_pos w, if_pos rfl, if_pos w, x1_unite dd uX (by omega) (by omega), bs]
      · rw [if_neg w, if_neg (by omega), if_neg w, x1_unite dd uX (by omega) (by omega), bs]
  by_cases w : h.1 c k < L
  · have e1 : hg1 (h.1 c) L k R = R := by unfold hg1; rw [if_neg (fun v => v.1 w)]
    have e2 : hg2 (h.1 c) (wi + 2) L k R = R := by unfold hg2; rw [if_neg (fun v => v.1 w)]
    rw [if_pos w, if_pos rfl]
    unfold hg
    rw [e1, e2]
    exact third R u
  · rw [if_neg w, if_neg (by omega), isI R (k + 1) (by omega), bs, jn_eq]
    have second : ∀ X, UF X → ∀ K : ct_H → Option ct_H, ((f_X1_isIn G (hs h cR X) o ((k + (wi + 2) : Nat) : Int)).bind fun v16 => if v16 = 0 then (K (hs h cR X)) else (f_X1_unite G (hs h cR X) o (k : Int) ((k + (wi + 2) : Nat) : Int)).bind fun r17 => K r17) = K (hs h cR (hg2 (h.1 c) (wi + 2) L k X)) := by
      intro X uX K
      unfold hg2
      rw [isI X _ (by omega), bs]
      by_cases y : h.1 c (k + (wi + 2)) < L
      · rw [if_pos y, if_pos rfl, if_neg (fun v => v.2 y)]
      · rw [if_neg y, if_neg (by omega), x1_unite dd uX (by omega) (by omega), bs, if_pos ⟨w, y⟩]
    by_cases y : h.1 c (k + 1) < L
    · have e1 : hg1 (h.1 c) L k R = R := by unfold hg1; rw [if_neg (fun v => v.2 y)]
      rw [if_pos y, if_pos rfl]
      unfold hg
      rw [e1] at u2 ⊢
      refine (second R u _).trans ?_
      exact third _ u2
    · have e1 : hg1 (h.1 c) L k R = uni R k (k + 1) := by unfold hg1; rw [if_pos ⟨w, y⟩]
      rw [if_neg y, if_neg (by omega), x1_unite dd u (by omega) (by omega), bs]
      unfold hg
      rw [e1] at u1 u2 ⊢
      refine (second _ u1 _).trans ?_
      exact third _ u2
theorem x1_hangL (d : DO G o og c cR cA cM cS cT cK) (g : GR G h og c hi wi) (hF : hB (h.1 c)) (hL : h.1 o 8 = L) (hl : 0 ≤ L ∧ L ≤ 99) (K : ct_H → Option ct_H) {v : Nat} (hv : v + wi + 2 < 81) : ∀ (m k n : Nat) (R : Nat → Int), k + m = v → m < n → UF R → l_X1_find_45 G o (v : Int) K n ((k : Int), hs h cR R) = K (hs h cR (hgs (h.1 c) (wi + 2) (h.1 og 5) L m k R))
  | 0, k, n + 1, R, h1, h2, u => by
    rw [l_X1_find_45, if_pos (by dsimp only; omega)]
    rfl
  | m + 1, k, n + 1, R, h1, h2, u => by
    rw [l_X1_find_45, if_neg (by dsimp only; omega)]
    dsimp only
    rw [x1_hang d g hF hL hl u (by omega), bs, wr_id (by omega) (by omega)]
    have ih := x1_hangL d g hF hL hl K hv m (k + 1) n _ (by omega) (by omega) (hg_UF (F := h.1 c) (s := wi + 2) (k := k) (kd := h.1 og 5) (L := L) u).2.2
    rw [show ((k + 1 : Nat) : Int) = (k : Int) + 1 by omega] at ih
    exact ih
theorem x1_initL (d : DO G o og c cR cA cM cS cT cK) (g : GR G h og c hi wi) (K : ct_H → Option ct_H) : ∀ (m i n : Nat) (R : Nat → Int), i + m = (hi + 2) * (wi + 2) → m < n → l_X1_find_21 G o K n ((i : Int), hs h cR R) = K (hs h cR (fun j => if i ≤ j ∧ j < (hi + 2) * (wi + 2) then (j : Int) else R j))
  | 0, i, n + 1, R, h1, h2 => by
    have og1 : og ≠ cR := by have := d.2; omega
    rw [l_X1_find_21, d.1.1]
    dsimp only
    rw [hs_orow _ _ og1, g.2.2.2.2.2.2.1, if_pos (by omega)]
    congr 2
    funext j
    rw [if_neg (by omega)]
  | m + 1, i, n + 1, R, h1, h2 => by
    have og1 : og ≠ cR := by have := d.2; omega
    have hN := N81 g.2.2.2.2.2.2.2.1 g.2.2.2.2.2.2.2.2
    rw [l_X1_find_21, d.1.1]
    dsimp only
    rw [hs_orow _ _ og1, g.2.2.2.2.2.2.1, if_neg (by omega), d.1.2.1, wtN (by rw [d.1.2.2.1]; omega), bs, hs_row, hs_hs, wr_id (by omega) (by omega)]
    have ih := x1_initL d g K m (i + 1) n (up R i (i : Int)) (by omega) (by omega)
    rw [show ((i + 1 : Nat) : Int) = (i : Int) + 1 by omega] at ih
    rw [ih]
    congr 2
    funext j
    by_cases e : j = i
    · subst e; rw [if_neg (by omega), up_same, if_pos (by omega)]
    · rw [up_other _ _ e]
      by_cases e2 : i + 1 ≤ j ∧ j < (hi + 2) * (wi + 2)
      · rw [if_pos e2, if_pos (by omega)]
      · rw [if_neg e2, if_neg (by omega)]
end
/-! what the fold over all squares gives -/
section
variable {F : Nat → Int} {hi wi : Nat} {kd L : Int}
theorem hg_rim (h1 : 2 ≤ hi ∧ hi ≤ 7) (h2 : 2 ≤ wi ∧ wi ≤ 7) (r : RM F hi wi) (hL : 0 ≤ L) {k : Nat} {R : Nat → Int} (hk : k + wi + 3 < (hi + 2) * (wi + 2)) (hc : ¬ k % (wi + 2) ≤ wi) : hg F (wi + 2) kd L k R = R := by
  have hN := N81 h1 h2
  have ml : k % (wi + 2) < wi + 2 := Nat.mod_lt _ (by omega)
  have d : (k + 1) % (wi + 2) = 0 ∧ (k + (wi + 2)) % (wi + 2) = wi + 1 ∧ (k + (wi + 2) + 1) % (wi + 2) = 0 := by
    rcases w_cases h2 with rfl | rfl | rfl | rfl | rfl | rfl <;> omega
  have f0 := r.2 k (by omega) (by omega)
  have f1 := r.2 (k + 1) (by omega) (by omega)
  have f2 := r.2 (k + (wi + 2)) (by omega) (by omega)
  have f3 := r.2 (k + (wi + 2) + 1) (by omega) (by omega)
  have c0 : cs F (wi + 2) k L = 0 := by
    unfold cs
    rw [if_pos (by omega), if_pos (by omega), if_pos (by omega), if_pos (by omega)]
    rfl
  have e1 : hg1 F L k R = R := by unfold hg1; exact if_neg (fun v => v.1 (by omega))
  have e2 : hg2 F (wi + 2) L k R = R := by unfold hg2; exact if_neg (fun v => v.1 (by omega))
  have j0 : js F (wi + 2) kd k L = 0 := by unfold js; rw [c0]; exact if_neg (by omega)
  unfold hg
  rw [e1, e2]
  unfold hg3
  rw [j0]
  exact if_neg (by omega)
/-- R tells what hangs together by the squares ahead of k -/
def HS (F : Nat → Int) (hi wi : Nat) (kd L : Int) (k : Nat) (R : Nat → Int) : Prop := UF R ∧ (∀ x, x < (hi + 2) * (wi + 2) → con F hi wi kd L (rt R x) x) ∧ ∀ q, q < k → (q / (wi + 2) ≤ hi ∧ q % (wi + 2) ≤ wi) → (¬ F q < L ∧ ¬ F (q + 1) < L → rt R q = rt R (q + 1)) ∧ (¬ F q < L ∧ ¬ F (q + (wi + 2)) < L → rt R q = rt R (q + (wi + 2))) ∧ (js F (wi + 2) kd q L = 1 → if F q < L then rt R (q + 1) = rt R (q + (wi + 2)) else rt R q = rt R (q + (wi + 2) + 1))
theorem HS_step (h1 : 2 ≤ hi ∧ hi ≤ 7) (h2 : 2 ≤ wi ∧ wi ≤ 7) (r : RM F hi wi) (hL : 0 ≤ L) {k : Nat} {R : Nat → Int} (hk : k + wi + 3 < (hi + 2) * (wi + 2)) (h : HS F hi wi kd L k R) : HS F hi wi kd L (k + 1) (hg F (wi + 2) kd L k R) := by
  have hN := N81 h1 h2
  by_cases hc : k % (wi + 2) ≤ wi
  · have hr : k / (wi + 2) ≤ hi := (dm_lt (p := k) h1 h2).2.mpr (by omega)
    obtain ⟨u, s, t⟩ := h
    obtain ⟨u1, u2, u3⟩ := hg_UF (F := F) (s := wi + 2) (k := k) (kd := kd) (L := L) u
    have sound : ∀ {R : Nat → Int} {a b : Nat}, UF R → a < (hi + 2) * (wi + 2) → b < (hi + 2) * (wi + 2) → adj F hi wi kd L a b → (∀ x, x < (hi + 2) * (wi + 2) → con F hi wi kd L (rt R x) x) → ∀ x, x < (hi + 2) * (wi + 2) → con F hi wi kd L (rt (uni R a b) x) x :=
      fun uu ha hb ad hh => uni_con uu hN ha hb (E := con F hi wi kd L) (fun _ => con_refl) (fun _ _ => con_symm) (fun _ _ _ => con_trans) (con_adj ad) hh
    have s1 : ∀ x, x < (hi + 2) * (wi + 2) → con F hi wi kd L (rt (hg1 F L k R) x) x := by
      unfold hg1
      split
      · rename_i z
        exact sound u (by omega) (by omega) ⟨k, ⟨hr, hc⟩, Or.inl ⟨z.1, z.2, rfl, rfl⟩⟩ s
      · exact s
    have s2 : ∀ x, x < (hi + 2) * (wi + 2) → con F hi wi kd L (rt (hg2 F (wi + 2) L k (hg1 F L k R)) x) x := by
      unfold hg2
      split
      · rename_i z
        exact sound u1 (by omega) (by omega) ⟨k, ⟨hr, hc⟩, Or.inr (Or.inl ⟨z.1, z.2, rfl, rfl⟩)⟩ s1
      · exact s1
    have s3 : ∀ x, x < (hi + 2) * (wi + 2) → con F hi wi kd L (rt (hg F (wi + 2) kd L k R) x) x := by
      unfold hg hg3
      split
      · rename_i z
        split
        · rename_i y
          exact sound u2 (by omega) (by omega) ⟨k, ⟨hr, hc⟩, Or.inr (Or.inr ⟨z, Or.inr ⟨y, rfl, rfl⟩⟩)⟩ s2
        · rename_i y
          exact sound u2 (by omega) (by omega) ⟨k, ⟨hr, hc⟩, Or.inr (Or.inr ⟨z, Or.inl ⟨y, rfl, rfl⟩⟩)⟩ s2
      · exact s2
    have k1 : ∀ x y, x < 81 → y < 81 → rt R x = rt R y → rt (hg1 F L k R) x = rt (hg1 F L k R) y := by
      unfold hg1
      split
      · exact (uni_cl u (by omega) (by omega)).1
      · exact fun _ _ _ _ e => e
    have k2 : ∀ x y, x < 81 → y < 81 → rt (hg1 F L k R) x = rt (hg1 F L k R) y → rt (hg2 F (wi + 2) L k (hg1 F L k R)) x = rt (hg2 F (wi + 2) L k (hg1 F L k R)) y := by
      unfold hg2
      split
      · exact (uni_cl u1 (by omega) (by omega)).1
      · exact fun _ _ _ _ e => e
    have k3 : ∀ x y, x < 81 → y < 81 → rt (hg2 F (wi + 2) L k (hg1 F L k R)) x = rt (hg2 F (wi + 2) L k (hg1 F L k R)) y → rt (hg F (wi + 2) kd L k R) x = rt (hg F (wi + 2) kd L k R) y := by
      unfold hg hg3
      split
      · split
        · exact (uni_cl u2 (by omega) (by omega)).1
        · exact (uni_cl u2 (by omega) (by omega)).1
      · exact fun _ _ _ _ e => e
    have kk : ∀ x y, x < 81 → y < 81 → rt R x = rt R y → rt (hg F (wi + 2) kd L k R) x = rt (hg F (wi + 2) kd L k R) y := fun x y hx hy e => k3 x y hx hy (k2 x y hx hy (k1 x y hx hy e))
    refine ⟨u3, s3, fun q hq qq => ?_⟩
    by_cases e : q = k
    · subst e
      refine ⟨fun z => ?_, fun z => ?_, fun z => ?_⟩
      · refine k3 _ _ (by omega) (by omega) (k2 _ _ (by omega) (by omega) ?_)
        unfold hg1
        rw [if_pos z]
        exact (uni_cl u (by omega) (by omega)).2
      · refine k3 _ _ (by omega) (by omega) ?_
        have : hg2 F (wi + 2) L q (hg1 F L q R) = uni (hg1 F L q R) q (q + (wi + 2)) := by unfold hg2; rw [if_pos z]
        rw [this]
        exact (uni_cl u1 (by omega) (by omega)).2
      · unfold hg hg3
        rw [if_pos z]
        split
        · exact (uni_cl u2 (by omega) (by omega)).2
        · exact (uni_cl u2 (by omega) (by omega)).2
    · have sl := sq_lt h1 h2 qq.1 qq.2
      have tq := t q (by omega) qq
      refine ⟨fun z => kk _ _ (by omega) (by omega) (tq.1 z), fun z => kk _ _ (by omega) (by omega) (tq.2.1 z), fun z => ?_⟩
      have := tq.2.2 z
      split at this
      · rename_i y
        rw [if_pos y]
        exact kk _ _ (by omega) (by omega) this
      · rename_i y
        rw [if_neg y]
        exact kk _ _ (by omega) (by omega) this
  · rw [hg_rim h1 h2 r hL hk hc]
    refine ⟨h.1, h.2.1, fun q hq qq => ?_⟩
    by_cases e : q = k
    · subst e; exact absurd qq.2 hc
    · exact h.2.2 q (by omega) qq
theorem HS_all (h1 : 2 ≤ hi ∧ hi ≤ 7) (h2 : 2 ≤ wi ∧ wi ≤ 7) (r : RM F hi wi) (hL : 0 ≤ L) : ∀ (m k : Nat) (R : Nat → Int), k + m + wi + 3 ≤ (hi + 2) * (wi + 2) → HS F hi wi kd L k R → HS F hi wi kd L (k + m) (hgs F (wi + 2) kd L m k R)
  | 0, k, R, _, h => h
  | m + 1, k, R, hk, h => by
    rw [hgs, show k + (m + 1) = k + 1 + m by omega]
    exact HS_all h1 h2 r hL m (k + 1) _ (by omega) (HS_step h1 h2 r hL (by omega) h)
/-- a row that tells what hangs together -/
def RT (F : Nat → Int) (hi wi : Nat) (kd L : Int) (R : Nat → Int) : Prop := UF R ∧ (∀ x, x < (hi + 2) * (wi + 2) → con F hi wi kd L (rt R x) x) ∧ ∀ x y, con F hi wi kd L x y → rt R x = rt R y
theorem HS_end (h1 : 2 ≤ hi ∧ hi ≤ 7) (h2 : 2 ≤ wi ∧ wi ≤ 7) {k : Nat} {R : Nat → Int} (hk : k + wi + 3 = (hi + 2) * (wi + 2)) (h : HS F hi wi kd L k R) : RT F hi wi kd L R := by
  refine ⟨h.1, h.2.1, fun x y cxy => ?_⟩
  have := cxy (fun z => rt R x = rt R z) (fun a b ad => by
    obtain ⟨q, qq, ad⟩ := ad
    have sl := sq_lt h1 h2 qq.1 qq.2
    have t := h.2.2 q (by omega) qq
    have e : rt R a = rt R b := by
      rcases ad with ⟨x, y, rfl, rfl⟩ | ⟨x, y, rfl, rfl⟩ | ⟨j, ⟨x, rfl, rfl⟩ | ⟨x, rfl, rfl⟩⟩
      · exact t.1 ⟨x, y⟩
      · exact t.2.1 ⟨x, y⟩
      · have := t.2.2 j; rwa [if_neg x] at this
      · have := t.2.2 j; rwa [if_pos x] at this
    show rt R x = rt R a ↔ rt R x = rt R b
    rw [e])
  exact this.mp rfl
end
