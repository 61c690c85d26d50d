/-! lines are closed; their least edge; a line that isn't outer begins below a place that is in -/
def CLO (nxt : Nat → Nat) (C : Nat → Prop) (lf : Nat → Int) : Prop := ∀ m, C m → lf m ≠ -5 → lf (nxt m) = lf m
def CLQ (nxt : Nat → Nat) (C : Nat → Prop) (l : Int) (lf : Nat → Int) (e : Nat) : Prop := ∀ m, C m → lf m ≠ -5 → lf (nxt m) = lf m ∨ (lf m = l ∧ nxt m = e)
section
variable {nxt : Nat → Nat} {C : Nat → Prop}
theorem CLQ_step {l : Int} {lf : Nat → Int} {e : Nat} (hl : 0 ≤ l) (q : CLQ nxt C l lf e) (hm : lf e = -5) : CLQ nxt C l (up lf e l) (nxt e) := by
  intro m c n
  by_cases z : m = e
  · subst z
    exact Or.inr ⟨up_same _ _ _, rfl⟩
  · rw [up_other _ _ z] at n ⊢
    rcases q m c n with a | ⟨a, b⟩
    · refine Or.inl ?_
      have ne : nxt m ≠ e := fun w => by rw [w, hm] at a; exact n a.symm
      rw [up_other _ _ ne]
      exact a
    · refine Or.inl ?_
      rw [b, up_same, a]
theorem fol_clq {l : Int} (hl : 0 ≤ l) : ∀ (n e : Nat) (lf od : Nat → Int) (nd : Nat), CLQ nxt C l lf e → (∃ k x : Nat, nd = k + 1 ∧ od k = (x : Int) ∧ nxt x = e) → ∃ e', CLQ nxt C l (fol nxt l n e lf od nd).1 e' ∧ ∃ k x : Nat, (fol nxt l n e lf od nd).2.2 = k + 1 ∧ (fol nxt l n e lf od nd).2.1 k = (x : Int) ∧ nxt x = e'
  | 0, e, lf, od, nd, q, k => ⟨e, q, k⟩
  | n + 1, e, lf, od, nd, q, k => by
    rw [fol]
    by_cases z : lf e = -5
    · rw [if_pos z]
      exact fol_clq hl n _ _ _ _ (CLQ_step hl q z) ⟨nd, e, rfl, up_same _ _ _, rfl⟩
    · rw [if_neg z]
      exact ⟨e, q, k⟩
theorem fol_lf {l : Int} : ∀ (n e : Nat) (lf od : Nat → Int) (nd j : Nat), (fol nxt l n e lf od nd).1 j = lf j ∨ (fol nxt l n e lf od nd).1 j = l
  | 0, e, lf, od, nd, j => Or.inl rfl
  | n + 1, e, lf, od, nd, j => by
    rw [fol]
    by_cases z : lf e = -5
    · rw [if_pos z]
      rcases fol_lf n (nxt e) (up lf e l) (up od nd (e : Int)) (nd + 1) j with a | a
      · by_cases y : j = e
        · subst y; rw [up_same] at a; exact Or.inr a
        · rw [up_other _ _ y] at a; exact Or.inl a
      · exact Or.inr a
    · rw [if_neg z]
      exact Or.inl rfl
theorem fol_first {l : Int} (hl : 0 ≤ l) {n e : Nat} {lf od : Nat → Int} {nd : Nat} (z : lf e = -5) : (fol nxt l (n + 1) e lf od nd).2.1 nd = (e : Int) ∧ (fol nxt l (n + 1) e lf od nd).1 e = l := by
  rw [fol, if_pos z]
  have k := fol_keep (nxt := nxt) (l := l) hl n (nxt e) (up lf e l) (up od nd (e : Int)) (nd + 1)
  constructor
  · rw [k.2.1 nd (by omega), up_same]
  · rw [k.1 e (by rw [up_same]; omega), up_same]
theorem LI_clo (hC : ∀ e, C e → e < 162 ∧ C (nxt e)) (hI : ∀ a b, C a → C b → nxt a = nxt b → a = b) {lf od bg : Nat → Int} {nl nd e0 : Nat} (h : LI nxt C lf od bg nl nd) (cl : CLO nxt C lf) (he : C e0) (hm : lf e0 = -5) : CLO nxt C (fol nxt nl 200 e0 lf od nd).1 := by
  obtain ⟨i1, i2, i3, i4, i5, i6⟩ := h
  have he1 := hC e0 he
  have mk : ∀ j, up lf e0 nl j ≠ -5 ↔ (j = e0 ∨ lf j ≠ -5) := by
    intro j
    by_cases y : j = e0
    · subst y; rw [up_same]; simp
    · rw [up_other _ _ y]; simp [y]
  have lp0 : LnP nxt C lf od nl nd 0 := by
    refine ⟨fun i hi => absurd hi (by omega), fun i hi => absurd hi (by omega), fun P => ?_⟩
    rw [sm_congr (f := fun e => if lf e = (nl : Int) then P e else 0) (g := fun _ => 0) (fun j _ j2 => by rw [if_neg]; intro y; have := i5 j (by omega); omega)]
    rw [sm]
    have : ∀ m i, sm (fun _ => 0) i m = 0 := by
      intro m
      induction m with
      | zero => intro i; rfl
      | succ m ih => intro i; rw [sm, ih]; rfl
    rw [this]
  have hmi : MI nxt C nl e0 nd (up lf e0 nl) (up od nd (e0 : Int)) (nd + 1) (nxt e0) := by
    refine ⟨he1.2, by rw [unm_up he1.1 (by omega) hm]; omega, ?_, ⟨he, by rw [up_same]; omega, up_same _ _ _⟩, 0, rfl, ?_, e0, he, by rw [up_same]; omega, rfl, up_same _ _ _, ?_⟩
    · intro j hj
      by_cases y : j = e0
      · subst y; rw [up_same]; exact Or.inr ⟨he, by omega, by omega⟩
      · rw [up_other _ _ y]; exact (i5 j hj).imp id (fun w => ⟨w.1, w.2.1, by omega⟩)
    · exact LnP_add hC (by omega) lp0 he hm (fun k hk => absurd hk (by omega))
    · intro m m1 m2 m3
      rcases (mk m).mp m2 with y | y
      · exact absurd y m3
      · obtain ⟨m', a1, a2, a3⟩ := i6 m m1 y
        exact ⟨m', a1, (mk m').mpr (Or.inr a2), fun z => a2 (by rw [z]; exact hm), a3⟩
  have eq : fol nxt nl 200 e0 lf od nd = fol nxt nl 199 (nxt e0) (up lf e0 nl) (up od nd (e0 : Int)) (nd + 1) := by
    rw [show (200 : Nat) = 199 + 1 from rfl, fol, if_pos hm]
  have hu : unm (up lf e0 nl) < 199 := by rw [unm_up he1.1 (by omega) hm]; omega
  obtain ⟨e', mi, mm⟩ := fol_mid hC (l := nl) (by omega) 199 _ _ _ _ hmi hu
  have q0 : CLQ nxt C nl (up lf e0 nl) (nxt e0) := CLQ_step (by omega) (fun m c n => Or.inl (cl m c n)) hm
  obtain ⟨e2, qq, k, x, k1, k2, k3⟩ := fol_clq (l := nl) (by omega) 199 (nxt e0) (up lf e0 nl) (up od nd (e0 : Int)) (nd + 1) q0 ⟨nd, e0, rfl, up_same _ _ _, rfl⟩
  have ff := (fol_first (nxt := nxt) (l := nl) (by omega) (n := 199) (od := od) (nd := nd) hm).2
  rw [show (199 : Nat) + 1 = 200 from rfl] at ff
  rw [← eq] at mi mm qq k1 k2
  generalize fol nxt nl 200 e0 lf od nd = R at mi mm qq k1 k2 ff ⊢
  obtain ⟨lf', od', nd'⟩ := R
  dsimp only at mi mm qq k1 k2 ff ⊢
  obtain ⟨c1, c2, c3, ⟨z1, z2, z3⟩, c, hc, hlp, last, l1, l2, l3, l4, l5⟩ := mi
  have hlast : e' = e0 := Classical.byContradiction fun y => by
    obtain ⟨m', a1, a2, a3, a4⟩ := l5 e' (hC e' c1).1 mm y
    exact a3 (hI m' last a1 l1 (a4.trans l3.symm))
  have kk : k = nd + c := by omega
  subst kk
  have xl : x = last := by omega
  subst xl
  have e20 : e2 = e0 := k3.symm.trans (l3.trans hlast)
  intro m cm nm
  rcases qq m cm nm with a | ⟨a, b⟩
  · exact a
  · rw [b, e20, ff, a]
def LST (t : LSt) : Prop := ∀ l : Nat, l < t.2.2.2.1 → ∀ e, e < 162 → t.1 e = l → (t.2.1 (t.2.2.1 l).toNat).toNat ≤ e
theorem stp_cl (hC : ∀ e, C e → e < 162 ∧ C (nxt e)) (hI : ∀ a b, C a → C b → nxt a = nxt b → a = b) (hN : ∀ e, C e → nxt e ≠ e ∧ nxt (nxt e) ≠ e) {xr : Nat → Int} {t : LSt} (h : LIt nxt C t) (cl : CLO nxt C t.1) (ls : LST t) {i : Nat} (hx : xr i = 1 → C i) (hc : ∀ e, C e → xr e = 1) (hd : ∀ j, j < i → xr j = 1 → t.1 j ≠ -5) : CLO nxt C (stp nxt xr i t).1 ∧ LST (stp nxt xr i t) := by
  have st := (stp_LI hC hI hN h hx).1
  unfold stp at st ⊢
  by_cases z : xr i = 1 ∧ t.1 i = -5
  · rw [if_pos z] at st ⊢
    have ci := hC i (hx z.1)
    refine ⟨LI_clo hC hI h cl (hx z.1) z.2, ?_⟩
    have kp := fol_keep (nxt := nxt) (l := t.2.2.2.1) (by omega) 200 i t.1 t.2.1 t.2.2.2.2
    have ff := fol_first (nxt := nxt) (l := t.2.2.2.1) (by omega) (n := 199) (od := t.2.1) (nd := t.2.2.2.2) z.2
    rw [show (199 : Nat) + 1 = 200 from rfl] at ff
    have fl := fol_lf (nxt := nxt) (l := t.2.2.2.1) 200 i t.1 t.2.1 t.2.2.2.2
    intro l hl e he hle
    dsimp only at hl hle ⊢
    have bn := h.2.1
    by_cases y : l = t.2.2.2.1
    · subst y
      rw [up_other _ _ (by omega), bn, Int.toNat_natCast, ff.1, Int.toNat_natCast]
      apply Classical.byContradiction
      intro w
      have r5 := st.2.2.2.2.1 e he
      dsimp only at r5
      have ce : C e := by
        rcases r5 with r5 | r5
        · omega
        · exact r5.1
      have m := hd e (by omega) (hc e ce)
      have m2 := kp.1 e m
      have := h.2.2.2.2.1 e he
      omega
    · have lt : l < t.2.2.2.1 := by omega
      obtain ⟨b, c, b1, b2, b3, b4, b5⟩ := h.2.2.2.1 l lt
      rw [up_other _ _ (by omega), b1, Int.toNat_natCast, kp.2.1 b (by omega)]
      have old : t.1 e = l := by
        rcases fl e with a | a
        · rw [← a]; exact hle
        · omega
      have := ls l lt e he old
      rw [b1, Int.toNat_natCast] at this
      exact this
  · rw [if_neg z]
    exact ⟨cl, ls⟩
theorem scn_cl (hC : ∀ e, C e → e < 162 ∧ C (nxt e)) (hI : ∀ a b, C a → C b → nxt a = nxt b → a = b) (hN : ∀ e, C e → nxt e ≠ e ∧ nxt (nxt e) ≠ e) {xr : Nat → Int} (hx : ∀ i, xr i = 1 → C i) (hc : ∀ e, C e → xr e = 1) : ∀ (m i : Nat) (t : LSt), LIt nxt C t → CLO nxt C t.1 → LST t → (∀ j, j < i → xr j = 1 → t.1 j ≠ -5) → CLO nxt C (scn nxt xr m i t).1 ∧ LST (scn nxt xr m i t)
  | 0, i, t, _, c, l, _ => ⟨c, l⟩
  | m + 1, i, t, h, c, l, d => by
    have s := stp_LI hC hI hN h (hx i)
    have s2 := stp_cl hC hI hN h c l (hx i) hc d
    exact scn_cl hC hI hN hx hc m (i + 1) _ s.1 s2.1 s2.2 (fun j hj x => by
      by_cases e : j = i
      · subst e; exact s.2.1 x
      · exact s.2.2 j (d j (by omega) x))
end
section
variable {F : Nat → Int} {hi wi : Nat} {kd L : Int}
theorem spL_cl (h1 : 2 ≤ hi ∧ hi ≤ 7) (h2 : 2 ≤ wi ∧ wi ≤ 7) (r : RM F hi wi) (hL : 0 ≤ L) : CLO (nx F (wi + 2) kd L) (CE F hi wi L) (spL F hi wi kd L).1 ∧ LST (spL F hi wi kd L) := by
  have n := CE_n (kd := kd) h1 h2 r hL
  exact scn_cl n.1 n.2.1 n.2.2.1 n.2.2.2 (fun e c => (XE_CE h1 h2 r hL).mpr c) 162 0 _ (LI_0 (fun _ _ => rfl) rfl) (fun m _ w => absurd rfl w) (fun l hl => absurd hl (Nat.not_lt_zero _)) (fun j hj => absurd hj (Nat.not_lt_zero _))
/-- a line has no edge in a row of its least edge's row -/
theorem lst_row (h1 : 2 ≤ hi ∧ hi ≤ 7) (h2 : 2 ≤ wi ∧ wi ≤ 7) (r : RM F hi wi) (hL : 0 ≤ L) {S : LSt} (hS : spL F hi wi kd L = S) {k e : Nat} (hk : k < S.2.2.2.1) (he : e < 162) (hle : S.1 e = k) (ev : e % 2 = 0) : e / 2 / (wi + 2) ≠ eN S k 0 / 2 / (wi + 2) := by
  have cl := spL_cl (kd := kd) h1 h2 r hL
  have li := (spL_LI (kd := kd) h1 h2 r hL).1
  rw [hS] at cl li
  have least : ∀ x, x < 162 → S.1 x = k → eN S k 0 ≤ x := fun x a b => by
    have := cl.2 k hk x a b
    unfold eN bN
    rw [Nat.add_zero]
    exact this
  have ce : CE F hi wi L e := by
    rcases li.2.2.2.2.1 e he with y | y
    · omega
    · exact y.1
  intro same
  -- an edge of the square above
  have up2 : ∀ x, x < 162 → S.1 x = k → ∀ j, j < 4 → x = sid (wi + 2) (e / 2 - (wi + 2)) j → x ≠ e → False := by
    intro x x1 x2 j j4 xe xn
    have lx := least x x1 x2
    have le0 := least e he hle
    have ic := (ce.1.1 ev).1
    have s := sid_c (s := wi + 2) (q := e / 2 - (wi + 2)) j4
    rw [← xe] at s
    have dm := Nat.div_add_mod (e / 2) (wi + 2)
    have dm0 := Nat.div_add_mod (eN S k 0 / 2) (wi + 2)
    have cc := (ce.1.1 ev).2
    have e3 := inner_cor (F := F) (L := L) h1 h2 ce.1
    have e4 := e3.2.2.1 ev
    rw [← same] at dm0
    generalize (wi + 2) * (e / 2 / (wi + 2)) = Z at dm dm0
    generalize e / 2 % (wi + 2) = Y at *
    omega
  by_cases w : F (e / 2) < L
  · -- the way goes down: the edge ahead is above
    obtain ⟨m, m1, m2, m3⟩ := li.2.2.2.2.2 e he (by omega)
    have cm := cl.1 m m1 m2
    rw [m3, hle] at cm
    have fc := nx_fcor (kd := kd) h1 h2 m1
    rw [m3] at fc
    unfold fcor at fc
    rw [if_pos ev, if_pos w] at fc
    have sm := sid_e (F := F) (L := L) h1 h2 m1.1
    rw [← fc] at sm
    refine up2 m (inner_lt h1 h2 m1.1).2 cm.symm _ (esid_lt F L m) sm.symm ?_
    intro z
    rw [z] at m3
    exact nx_ne (kd := kd) h1 h2 ce m3
  · obtain ⟨l, l4, l5, l6⟩ := nx_sq (kd := kd) h1 h2 ce
    have ec : ecor F (wi + 2) L e = e / 2 - (wi + 2) := by unfold ecor; rw [if_pos ev, if_neg w]
    rw [ec] at l5
    have cn := CE_nx (kd := kd) h1 h2 r hL ce
    exact up2 _ (inner_lt h1 h2 cn.1).2 ((cl.1 e ce (by omega)).trans hle) l l4 l5 (nx_ne (kd := kd) h1 h2 ce)
theorem own_hld (h1 : 2 ≤ hi ∧ hi ≤ 7) (h2 : 2 ≤ wi ∧ wi ≤ 7) (r : RM F hi wi) (hL : 0 ≤ L) {S : LSt} (hS : spL F hi wi kd L = S) {k : Nat} (hk : k < S.2.2.2.1) : hld S (wi + 2) k (eN S k 0 / 2) = 0 := by
  have li := (spL_LI (kd := kd) h1 h2 r hL).1
  rw [hS] at li
  have sf := LI.sf h1 h2 li
  have f := sf.2.2 k hk
  unfold hld crs
  rw [sm_zero]
  · rfl
  · intro j j1 j2
    obtain ⟨a1, a2, a3⟩ := f.2.2.2.2.1 (j - bN S k) (by omega)
    rw [show bN S k + (j - bN S k) = j by omega] at a1
    rw [a1, Int.toNat_natCast]
    unfold pP
    rw [if_neg]
    intro u
    exact lst_row h1 h2 r hL hS hk a2 a3 u.1 u.2.1
/-- along a row: how often in and out change -/
theorem row_par {s : Nat} : ∀ (m q : Nat), (sm (fun p => XC F s L (2 * p)) q m) % 2 = (if (F q < L ↔ F (q + m) < L) then 0 else 1)
  | 0, q => by rw [sm, Nat.add_zero, if_pos Iff.rfl]; rfl
  | m + 1, q => by
    have ih := row_par (s := s) m (q + 1)
    have x : XC F s L (2 * q) = if (F q < L ↔ F (q + 1) < L) then 0 else 1 := by
      unfold XC oth
      rw [show 2 * q / 2 = q by omega, if_pos (show 2 * q % 2 = 0 by omega)]
    rw [show q + 1 + m = q + (m + 1) by omega] at ih
    rw [sm, x]
    generalize sm (fun p => XC F s L (2 * p)) (q + 1) m = Z at ih ⊢
    by_cases a : F q < L <;> by_cases b : F (q + 1) < L <;> by_cases c : F (q + (m + 1)) < L <;> simp only [a, b, c, iff_self, ↓reduceIte, iff_true, iff_false, true_iff, false_iff, not_true, not_false_eq_true] at ih ⊢ <;> omega
/-- how often the lines of a number below n stand there, together -/
theorem sum_num {v : Int} {n : Nat} (hv : v = -5 ∨ (0 ≤ v ∧ v < (n : Int))) : sm (fun j => if v = (j : Int) then 1 else 0) 0 n = if v = -5 then 0 else 1 := by
  rcases hv with e | ⟨a, b⟩
  · rw [if_pos e, sm_zero (fun j _ _ => by rw [if_neg (by omega)])]
  · rw [if_neg (by omega)]
    obtain ⟨x, rfl⟩ := Int.eq_ofNat_of_zero_le a
    rw [show n = x + (1 + (n - x - 1)) by omega, sm_cut, sm_cut, sm_zero (fun j _ j2 => by rw [if_neg (by omega)]), sm_zero (i := 0 + x + 1) (fun j j1 _ => by rw [if_neg (by omega)]), sm, sm, if_pos (by omega)]
    rfl
theorem sm_swap (f : Nat → Nat → Int) : ∀ (a i b j : Nat), sm (fun x => sm (fun y => f x y) j b) i a = sm (fun y => sm (fun x => f x y) i a) j b
  | 0, i, b, j => by rw [sm, sm_zero (fun y _ _ => by rw [sm])]
  | a + 1, i, b, j => by
    rw [sm, sm_swap f a (i + 1) b j, ← sm_add2]
    exact sm_congr (fun y _ _ => rfl)
theorem sm_mod2 (f : Nat → Int) : ∀ (m i : Nat), sm (fun x => f x % 2) i m % 2 = sm f i m % 2
  | 0, i => rfl
  | m + 1, i => by
    have ih := sm_mod2 f m (i + 1)
    rw [sm, sm]
    generalize sm (fun x => f x % 2) (i + 1) m = A at ih ⊢
    generalize sm f (i + 1) m = B at ih ⊢
    omega
/-- a place is in, just if an odd number of lines holds it -/
theorem hld_par (h1 : 2 ≤ hi ∧ hi ≤ 7) (h2 : 2 ≤ wi ∧ wi ≤ 7) (r : RM F hi wi) (hL : 0 ≤ L) {S : LSt} (hS : spL F hi wi kd L = S) {q : Nat} (hq : q < (hi + 2) * (wi + 2)) : sm (fun l => hld S (wi + 2) l q) 0 S.2.2.2.1 % 2 = if F q < L then 0 else 1 := by
  have li := spL_LI (kd := kd) h1 h2 r hL
  rw [hS] at li
  have sf := LI.sf h1 h2 li.1
  have sg := LI.sg li.1
  have hN := N81 h1 h2
  have ql : q < (wi + 2) * (q / (wi + 2) + 1) := Nat.lt_mul_div_succ q (by omega)
  have qr : q / (wi + 2) ≤ hi + 1 := (dm_lt (p := q) h1 h2).1.mpr hq
  have qe : (wi + 2) * (q / (wi + 2) + 1) ≤ 81 := mul_b (by omega) (by omega)
  have rim : F ((wi + 2) * (q / (wi + 2) + 1) - 1) < 0 := by
    refine r.2 _ (by omega) (fun u => ?_)
    have e3 : ((wi + 2) * (q / (wi + 2) + 1) - 1) % (wi + 2) = wi + 1 := by
      generalize q / (wi + 2) = x
      rw [Nat.mul_add, show (wi + 2) * x + (wi + 2) * 1 - 1 = (wi + 2) * x + (wi + 1) by omega, Nat.mul_add_mod, Nat.mod_eq_of_lt (by omega)]
    omega
  have key : sm (fun l => crs S (wi + 2) l q) 0 S.2.2.2.1 = sm (fun p => XC F (wi + 2) L (2 * p)) q ((wi + 2) * (q / (wi + 2) + 1) - 1 - q) := by
    rw [sm_congr (f := fun l => crs S (wi + 2) l q) (g := fun l => sm (fun p => if S.1 (2 * p) = (l : Int) then 1 else 0) q ((wi + 2) * (q / (wi + 2) + 1) - 1 - q)) (fun l _ l2 => crs_row h1 h2 sf sg (by omega) hq), sm_swap (fun l p => if S.1 (2 * p) = (l : Int) then 1 else 0)]
    refine sm_congr (fun p p1 p2 => ?_)
    rw [sum_num ((sg (2 * p) (by omega)).imp id (fun u => u.2))]
    have win := (row_win (s := wi + 2) (p := p) (q := q) (by omega)).mpr ⟨p1, by omega⟩
    have dm := Nat.div_add_mod p (wi + 2)
    have col : p % (wi + 2) ≤ wi := by
      rw [win.1] at dm
      rw [Nat.mul_add] at p2
      omega
    by_cases z : S.1 (2 * p) = -5
    · rw [if_pos z]
      rcases XC01 F (wi + 2) L (2 * p) with x | x
      · exact x.symm
      · refine absurd z (li.2 _ (CE_of h1 h2 r hL ⟨?_, Or.inl ⟨by omega, ?_⟩⟩ x))
        · rw [show 2 * p / 2 = p by omega]
          exact (dm_lt (p := p) h1 h2).1.mp (by rw [win.1]; exact qr)
        · rw [show 2 * p / 2 = p by omega]
          exact col
    · rw [if_neg z]
      rcases li.1.2.2.2.2.1 (2 * p) (by omega) with y | y
      · exact absurd y z
      · exact y.1.2.symm
  have par := row_par (F := F) (L := L) (s := wi + 2) ((wi + 2) * (q / (wi + 2) + 1) - 1 - q) q
  rw [show q + ((wi + 2) * (q / (wi + 2) + 1) - 1 - q) = (wi + 2) * (q / (wi + 2) + 1) - 1 by omega] at par
  rw [show (fun l => hld S (wi + 2) l q) = (fun l => crs S (wi + 2) l q % 2) from rfl, sm_mod2 (fun l => crs S (wi + 2) l q), key, par]
  have rl : F ((wi + 2) * (q / (wi + 2) + 1) - 1) < L := by omega
  by_cases a : F q < L
  · rw [if_pos a, if_pos ⟨fun _ => rl, fun _ => a⟩]
  · rw [if_neg a, if_neg (fun u => a (u.mpr rl))]
theorem lp_in (h1 : 2 ≤ hi ∧ hi ≤ 7) (h2 : 2 ≤ wi ∧ wi ≤ 7) (r : RM F hi wi) (hL : 0 ≤ L) {S : LSt} (hS : spL F hi wi kd L = S) {k : Nat} (hk : k < S.2.2.2.1) (w : ¬ dep S (wi + 2) k % 2 = 0) : ¬ F (eN S k 0 / 2) < L := by
  have own := own_hld (kd := kd) h1 h2 r hL hS hk
  have li := (spL_LI (kd := kd) h1 h2 r hL).1
  rw [hS] at li
  have f := (LI.sf h1 h2 li).2.2 k hk
  have e1 := f.2.2.2.2.1 0 (by omega)
  have inn : inner hi wi (eN S k 0) := by
    rcases LI.sg li _ e1.2.1 with y | y
    · rw [e1.2.2] at y; omega
    · exact y.1
  have il := inner_lt h1 h2 inn
  have par := hld_par (kd := kd) h1 h2 r hL hS (q := eN S k 0 / 2) (by omega)
  have d : dep S (wi + 2) k = sm (fun l => hld S (wi + 2) l (eN S k 0 / 2)) 0 S.2.2.2.1 := by
    unfold dep
    refine sm_congr (fun l _ _ => ?_)
    unfold hlL
    by_cases z : l = k
    · subst z; rw [if_pos rfl, own]
    · rw [if_neg z]
  intro u
  rw [if_pos u, ← d] at par
  exact w par
end
