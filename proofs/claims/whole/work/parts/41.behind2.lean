/-! the edge behind an edge: the reference, whole -/
def oth (s e : Nat) : Nat := if e % 2 = 0 then e / 2 + 1 else e / 2 + s
def XC (F : Nat → Int) (s : Nat) (L : Int) (e : Nat) : Int := if (F (e / 2) < L ↔ F (oth s e) < L) then 0 else 1
def codeB (b0 b1 b2 b3 : Bool) : Nat := (if b0 then 0 else 1) + (if b1 then 0 else 2) + (if b2 then 0 else 4) + (if b3 then 0 else 8)
def xB (b0 b1 b2 b3 : Bool) (k : Nat) : Bool := if k = 0 then b0 != b1 else if k = 1 then b1 != b2 else if k = 2 then b2 != b3 else b3 != b0
def enB (b0 b1 b2 b3 : Bool) (k : Nat) : Bool := if k = 0 then b0 && !b1 else if k = 1 then b1 && !b2 else if k = 2 then !b3 && b2 else !b0 && b3
theorem leaB : ∀ b0 b1 b2 b3 : Bool, ∀ k, k < 4 → enB b0 b1 b2 b3 k = true → codeB b0 b1 b2 b3 ≠ 5 → codeB b0 b1 b2 b3 ≠ 10 → lea (codeB b0 b1 b2 b3) ≠ k ∧ xB b0 b1 b2 b3 (lea (codeB b0 b1 b2 b3)) = true ∧ ∀ j, j < lea (codeB b0 b1 b2 b3) → j = k ∨ xB b0 b1 b2 b3 j = false := by
  intro b0 b1 b2 b3 k hk
  have hk4 : k = 0 ∨ k = 1 ∨ k = 2 ∨ k = 3 := by omega
  rcases hk4 with rfl | rfl | rfl | rfl <;> cases b0 <;> cases b1 <;> cases b2 <;> cases b3 <;> intro h1 h2 h3 <;> first
    | exact absurd h1 (by decide)
    | exact absurd rfl h2
    | exact absurd rfl h3
    | exact ⟨by decide, by decide, by decide⟩
theorem cs_codeB (F : Nat → Int) (s q : Nat) (L : Int) : cs F s q L = ((codeB (decide (F q < L)) (decide (F (q + 1) < L)) (decide (F (q + s + 1) < L)) (decide (F (q + s) < L)) : Nat) : Int) := by
  unfold cs codeB
  by_cases x1 : F q < L <;> by_cases x2 : F (q + 1) < L <;> by_cases x3 : F (q + s + 1) < L <;> by_cases x4 : F (q + s) < L <;> simp [x1, x2, x3, x4]
theorem XC_sid (F : Nat → Int) (s q : Nat) (L : Int) {k : Nat} (hk : k < 4) : XC F s L (sid s q k) = if xB (decide (F q < L)) (decide (F (q + 1) < L)) (decide (F (q + s + 1) < L)) (decide (F (q + s) < L)) k = true then 1 else 0 := by
  have a : k = 0 ∨ k = 1 ∨ k = 2 ∨ k = 3 := by omega
  rcases a with rfl | rfl | rfl | rfl
  · have e1 : sid s q 0 / 2 = q := by simp [sid]
    have e2 : oth s (sid s q 0) = q + 1 := by unfold oth; rw [e1, if_pos (by simp [sid])]
    unfold XC
    rw [e1, e2]
    by_cases x1 : F q < L <;> by_cases x2 : F (q + 1) < L <;> simp [x1, x2, xB]
  · have e1 : sid s q 1 / 2 = q + 1 := by simp [sid]; omega
    have e2 : oth s (sid s q 1) = q + s + 1 := by unfold oth; rw [e1, if_neg (by simp [sid])]; omega
    unfold XC
    rw [e1, e2]
    by_cases x1 : F (q + 1) < L <;> by_cases x2 : F (q + s + 1) < L <;> simp [x1, x2, xB]
  · have e1 : sid s q 2 / 2 = q + s := by simp [sid]
    have e2 : oth s (sid s q 2) = q + s + 1 := by unfold oth; rw [e1, if_pos (by simp [sid])]
    unfold XC
    rw [e1, e2]
    by_cases x1 : F (q + s) < L <;> by_cases x2 : F (q + s + 1) < L <;> simp [x1, x2, xB]
  · have e1 : sid s q 3 / 2 = q := by simp [sid]; omega
    have e2 : oth s (sid s q 3) = q + s := by unfold oth; rw [e1, if_neg (by simp [sid])]
    unfold XC
    rw [e1, e2]
    by_cases x1 : F q < L <;> by_cases x2 : F (q + s) < L <;> simp [x1, x2, xB]
theorem esid_lt (F : Nat → Int) (L : Int) (e : Nat) : esid F L e < 4 := by
  unfold esid
  repeat' split
  all_goals omega
/-- a crossed edge enters the square to which its way leads -/
theorem enters {F : Nat → Int} {hi wi e : Nat} {L : Int} (h1 : 2 ≤ hi ∧ hi ≤ 7) (h2 : 2 ≤ wi ∧ wi ≤ 7) (hn : inner hi wi e) (hx : XC F (wi + 2) L e = 1) : enB (decide (F (ecor F (wi + 2) L e) < L)) (decide (F (ecor F (wi + 2) L e + 1) < L)) (decide (F (ecor F (wi + 2) L e + (wi + 2) + 1) < L)) (decide (F (ecor F (wi + 2) L e + (wi + 2)) < L)) (esid F L e) = true := by
  have hi4 := inner_cor (F := F) (L := L) h1 h2 hn
  unfold XC oth at hx
  unfold enB ecor esid
  by_cases z : e % 2 = 0
  · have q := hi4.2.2.1 z
    simp only [if_pos z] at hx ⊢
    by_cases w : F (e / 2) < L
    · simp only [if_pos w] at hx ⊢
      by_cases y : F (e / 2 + 1) < L
      · rw [if_pos (by simp [w, y])] at hx; omega
      · simp [w, y]
    · simp only [if_neg w] at hx ⊢
      by_cases y : F (e / 2 + 1) < L
      · rw [show e / 2 - (wi + 2) + (wi + 2) = e / 2 by omega]
        simp [w, y]
      · rw [if_pos (by simp [w, y])] at hx; omega
  · have q := hi4.2.2.2 z
    simp only [if_neg z] at hx ⊢
    by_cases w : F (e / 2) < L
    · simp only [if_pos w] at hx ⊢
      by_cases y : F (e / 2 + (wi + 2)) < L
      · rw [if_pos (by simp [w, y])] at hx; omega
      · rw [show e / 2 - 1 + 1 = e / 2 by omega, show e / 2 - 1 + (wi + 2) + 1 = e / 2 + (wi + 2) by omega]
        simp [w, y]
    · simp only [if_neg w] at hx ⊢
      by_cases y : F (e / 2 + (wi + 2)) < L
      · simp [w, y]
      · rw [if_pos (by simp [w, y])] at hx; omega
section
variable {G : ct_G} {h : ct_H} {o c hi wi : Nat} {L : Int}
theorem m_findL (m : MD G h o c hi wi) {sq e k : Nat} (hq : sq < (hi + 1) * (wi + 1)) (hk : k < 4) (he : sid (wi + 2) (cor wi sq) k = e) (K : Int → Option Int) : ∀ (t b n : Nat), b + t = k → t < n → l_X7_behind_7 G o (e : Int) h (sq : Int) K n (b : Int) = K (k : Int)
  | 0, b, n + 1, h1, h2 => by
    rw [l_X7_behind_7, m_edgeAt m hq (by omega), bs, if_pos (by rw [show b = k by omega, he]), show b = k by omega]
  | t + 1, b, n + 1, h1, h2 => by
    have hw := m.2.2.2.2.2.2
    rw [l_X7_behind_7, m_edgeAt m hq (by omega), bs, if_neg (fun z => by
      have := sid_inj (s := wi + 2) (by omega) (show b < 4 by omega) hk ((Int.ofNat.inj z).trans he.symm)
      omega), wr_id (by omega) (by omega), show (b : Int) + 1 = ((b + 1 : Nat) : Int) by omega]
    exact m_findL m hq hk he K t (b + 1) n (by omega) (by omega)
theorem m_otherL (m : MD G h o c hi wi) {sq k J cX : Nat} {X : Nat → Int} (hq : sq < (hi + 1) * (wi + 1)) (hk : k < 4) (hJ : J < 4) (x1 : G.1 o 10 = cX) (x2 : G.2 cX = 162) (hX : ∀ i, i < 4 → h.1 cX (sid (wi + 2) (cor wi sq) i) = X i) (hn : J ≠ k) (hJX : X J ≠ 0) (K : Int → Option Int) : ∀ (t b n : Nat), b + t = J → (∀ i, b ≤ i → i < J → i = k ∨ X i = 0) → t < n → l_X7_behind_53 G o h (sq : Int) (k : Int) K n (b : Int) = K (J : Int)
  | 0, b, n + 1, h1, h2, h3 => by
    have hb : b = J := by omega
    subst hb
    have hc := (cor_lt m.2.2.2.2.2.1 m.2.2.2.2.2.2 hq).2
    have hs4 : sid (wi + 2) (cor wi sq) b < 162 := by
      have := m.2.2.2.2.2.2
      unfold sid; repeat' split
      all_goals omega
    rw [l_X7_behind_53, jn_eq, if_neg (by omega), m_edgeAt m hq hJ, bs, x1, rdN (by omega), bs, hX b hJ, if_neg hJX]
  | t + 1, b, n + 1, h1, h2, h3 => by
    have hc := (cor_lt m.2.2.2.2.2.1 m.2.2.2.2.2.2 hq).2
    have hs4 : sid (wi + 2) (cor wi sq) b < 162 := by
      have := m.2.2.2.2.2.2
      unfold sid; repeat' split
      all_goals omega
    have ih := m_otherL m hq hk hJ x1 x2 hX hn hJX K t (b + 1) n (by omega) (fun i a1 a2 => h2 i (by omega) a2) (by omega)
    rw [l_X7_behind_53, jn_eq, wr_id (by omega) (by omega), show (b : Int) + 1 = ((b + 1 : Nat) : Int) by omega]
    by_cases z : b = k
    · rw [if_pos (by omega)]
      exact ih
    · have hz := (h2 b (by omega) (by omega)).resolve_left z
      rw [if_neg (by omega), m_edgeAt m hq (by omega), bs, x1, rdN (by omega), bs, hX b (by omega), if_pos hz]
      exact ih
/-- the edge behind a crossed one, in the reference -/
theorem m_behind (m : MD G h o c hi wi) {F : Nat → Int} (r : RH F (h.1 c) hi wi) (hl : 0 ≤ L ∧ L ≤ 99) (hk : 0 ≤ h.1 o 2 ∧ h.1 o 2 ≤ 4) {e cX : Nat} (he : e / 2 < (hi + 2) * (wi + 2)) (hn : inner hi wi e) (hx : XC F (wi + 2) L e = 1) (x1 : G.1 o 10 = cX) (x2 : G.2 cX = 162) (hX : ∀ i, i < 4 → h.1 cX (sid (wi + 2) (ecor F (wi + 2) L e) i) = XC F (wi + 2) L (sid (wi + 2) (ecor F (wi + 2) L e) i)) : f_X7_behind G h o L (e : Int) = some ((nx F (wi + 2) (h.1 o 2) L e : Nat) : Int) := by
  have g8 := m.2.2.2.2.2.1
  have g9 := m.2.2.2.2.2.2
  have hi4 := inner_cor (F := F) (L := L) g8 g9 hn
  have hsq := sqn_cor g8 g9 hi4.1 hi4.2.1
  have hes := sid_e (F := F) (L := L) g8 g9 hn
  have hen := enters (F := F) (L := L) g8 g9 hn hx
  have hk4 := esid_lt F L e
  unfold f_X7_behind nx
  rw [m_leadsTo m r he hn, bs]
  generalize hq : ecor F (wi + 2) L e = q at *
  generalize hks : esid F L e = k at *
  refine (m_findL m hsq.2 hk4 (by rw [hsq.1]; exact hes) _ k 0 200 (by omega) (by omega)).trans ?_
  rw [m_caseOf m r hsq.2, bs, x7_isSaddle, bs, hsq.1]
  have hx4 := xor1_lt k
  by_cases z : cs F (wi + 2) q L = 5 ∨ cs F (wi + 2) q L = 10
  · rw [if_pos z, if_neg (by omega), if_pos z, jn_eq, m_isJoined m r hsq.2 hl hk, hsq.1]
    have hj : js F (wi + 2) (h.1 o 2) q L = jd F (wi + 2) (h.1 o 2) q L := by unfold js; rw [if_pos z]
    rw [hj]
    have j01 := jd01 F (wi + 2) (h.1 o 2) q L
    generalize jd F (wi + 2) (h.1 o 2) q L = jj at j01 ⊢
    have fin : ∀ x : Int, ((some jj).bind fun v29 => ct_jn (β := Int) (fun k31 => if x = v29 then (k31 1) else k31 0) (fun b30 => ct_jn (β := Int) (fun k34 => if b30 = 0 then (k34 (ct_bop (fun x y => x ^^^ y) (k : Int) 1)) else k34 (ct_wr (3 - (k : Int)))) (fun b33 => (f_X7_edgeAt G h o ((sqn wi q : Nat) : Int) b33).bind fun v36 => some v36))) = some ((sid (wi + 2) q (if x = jj then 3 - k else xor1 k) : Nat) : Int) := by
      intro x
      rw [bs, jn_eq]
      by_cases w : x = jj
      · rw [if_pos w, if_pos w]
        dsimp only
        rw [jn_eq, if_neg (by omega), wr_id (by omega) (by omega), show (3 : Int) - (k : Int) = ((3 - k : Nat) : Int) by omega]
        dsimp only
        rw [m_edgeAt m hsq.2 (by omega), bs, hsq.1]
      · rw [if_neg w, if_neg w]
        dsimp only
        rw [jn_eq, if_pos rfl, xor_k k hk4]
        dsimp only
        rw [m_edgeAt m hsq.2 hx4, bs, hsq.1]
    by_cases w5 : cs F (wi + 2) q L = 5
    · rw [if_neg (show ¬ cs F (wi + 2) q L = 10 by omega), if_pos w5]
      refine (fin 0).trans ?_
      rcases j01 with e0 | e0 <;> rw [e0] <;> simp
    · rw [if_pos (show cs F (wi + 2) q L = 10 by omega), if_neg w5]
      refine (fin 1).trans ?_
      rcases j01 with e0 | e0 <;> rw [e0] <;> simp
  · rw [if_neg z, if_pos rfl, if_neg z]
    have hcB := cs_codeB F (wi + 2) q L
    rw [hcB] at z ⊢
    have hlB := leaB _ _ _ _ k hk4 hen (fun w => z (Or.inl (by rw [w]; rfl))) (fun w => z (Or.inr (by rw [w]; rfl)))
    rw [Int.toNat_natCast]
    generalize hJ : lea (codeB (decide (F q < L)) (decide (F (q + 1) < L)) (decide (F (q + (wi + 2) + 1) < L)) (decide (F (q + (wi + 2)) < L))) = J at hlB ⊢
    have hJ4 : J < 4 := by rw [← hJ]; exact lea_lt _
    have hXs := fun i (hi : i < 4) => XC_sid F (wi + 2) q L hi
    have := m_otherL m (X := fun i => XC F (wi + 2) L (sid (wi + 2) q i)) hsq.2 hk4 hJ4 x1 x2 (by rw [hsq.1]; exact hX) hlB.1 (by show ¬ XC F (wi + 2) L (sid (wi + 2) q J) = 0; rw [hXs J hJ4, if_pos hlB.2.1]; omega) (fun b24 => (f_X7_edgeAt G h o ((sqn wi q : Nat) : Int) b24).bind fun v25 => some v25) J 0 200 (by omega) (fun i _ hi => by
      rcases hlB.2.2 i hi with a | a
      · exact Or.inl a
      · refine Or.inr ?_
        show XC F (wi + 2) L (sid (wi + 2) q i) = 0
        rw [hXs i (by omega), if_neg (by rw [a]; simp)]) (by omega)
    refine this.trans ?_
    rw [m_edgeAt m hsq.2 hJ4, bs, hsq.1]
end
