/-! the edge behind an edge: the reference, whole -/
def oth (s e : Nat) : Nat := if e % 2 = 0 then e / 2 + 1 else e / 2 + s
def XC (F : Nat → Int) (s : Nat) (L : Int) (e : Nat) : Int := if (F (e / 2) < L ↔ F (oth s e) < L) then 0 else 1
def codeB (b0 b1 b2 b3 : Bool) : Nat := (if b0 then 0 else 1) + (if b1 then 0 else 2) + (if b2 then 0 else 4) + (if b3 then 0 else 8)
def xB (b0 b1 b2 b3 : Bool) (k : Nat) : Bool := if k = 0 then b0 != b1 else if k = 1 then b1 != b2 else if k = 2 then b2 != b3 else b3 != b0
def enB (b0 b1 b2 b3 : Bool) (k : Nat) : Bool := if k = 0 then b0 && !b1 else if k = 1 then b1 && !b2 else if k = 2 then !b3 && b2 else !b0 && b3
theorem leaB : ∀ b0 b1 b2 b3 : Bool, ∀ k, k < 4 → enB b0 b1 b2 b3 k = true → codeB b0 b1 b2 b3 ≠ 5 → codeB b0 b1 b2 b3 ≠ 10 → lea (codeB b0 b1 b2 b3) ≠ k ∧ xB b0 b1 b2 b3 (lea (codeB b0 b1 b2 b3)) = true ∧ ∀ j, j < lea (codeB b0 b1 b2 b3) → j = k ∨ xB b0 b1 b2 b3 j = false := by decide +kernel
theorem cs_codeB (F : Nat → Int) (s q : Nat) (L : Int) : cs F s q L = ((codeB (decide (F q < L)) (decide (F (q + 1) < L)) (decide (F (q + s + 1) < L)) (decide (F (q + s) < L)) : Nat) : Int) := by
  unfold cs codeB
  by_cases x1 : F q < L <;> by_cases x2 : F (q + 1) < L <;> by_cases x3 : F (q + s + 1) < L <;> by_cases x4 : F (q + s) < L <;> simp [x1, x2, x3, x4]
theorem XC_sid (F : Nat → Int) (s q : Nat) (L : Int) {k : Nat} (hk : k < 4) : XC F s L (sid s q k) = if xB (decide (F q < L)) (decide (F (q + 1) < L)) (decide (F (q + s + 1) < L)) (decide (F (q + s) < L)) k = true then 1 else 0 := by
  have a : k = 0 ∨ k = 1 ∨ k = 2 ∨ k = 3 := by omega
  rcases a with rfl | rfl | rfl | rfl
  · have e1 : sid s q 0 / 2 = q := by simp [sid]
    have e2 : oth s (sid s q 0) = q + 1 := by unfold oth; rw [e1, if_pos (by simp [sid])]
    unfold XC
    rw [e1, e2]
    by_cases x1 : F q < L <;> by_cases x2 : F (q + 1) < L <;> simp [x1, x2, xB]
  · have e1 : sid s q 1 / 2 = q + 1 := by simp [sid]; omega
    have e2 : oth s (sid s q 1) = q + s + 1 := by unfold oth; rw [e1, if_neg (by simp [sid]; omega)]; omega
    unfold XC
    rw [e1, e2]
    by_cases x1 : F (q + 1) < L <;> by_cases x2 : F (q + s + 1) < L <;> simp [x1, x2, xB]
  · have e1 : sid s q 2 / 2 = q + s := by simp [sid]
    have e2 : oth s (sid s q 2) = q + s + 1 := by unfold oth; rw [e1, if_pos (by simp [sid])]
    unfold XC
    rw [e1, e2]
    by_cases x1 : F (q + s) < L <;> by_cases x2 : F (q + s + 1) < L <;> simp [x1, x2, xB]
  · have e1 : sid s q 3 / 2 = q := by simp [sid]; omega
    have e2 : oth s (sid s q 3) = q + s := by unfold oth; rw [e1, if_neg (by simp [sid])]
    unfold XC
    rw [e1, e2]
    by_cases x1 : F q < L <;> by_cases x2 : F (q + s) < L <;> simp [x1, x2, xB]
theorem esid_lt (F : Nat → Int) (L : Int) (e : Nat) : esid F L e < 4 := by
  unfold esid
  repeat' split
  all_goals omega
/-- a crossed edge enters the square to which its way leads -/
theorem enters {F : Nat → Int} {hi wi e : Nat} {L : Int} (h1 : 2 ≤ hi ∧ hi ≤ 7) (h2 : 2 ≤ wi ∧ wi ≤ 7) (hn : inner hi wi e) (hx : XC F (wi + 2) L e = 1) : enB (decide (F (ecor F (wi + 2) L e) < L)) (decide (F (ecor F (wi + 2) L e + 1) < L)) (decide (F (ecor F (wi + 2) L e + (wi + 2) + 1) < L)) (decide (F (ecor F (wi + 2) L e + (wi + 2)) < L)) (esid F L e) = true := by
  have hi4 := inner_cor (F := F) (L := L) h1 h2 hn
  unfold XC oth at hx
  unfold enB ecor esid
  by_cases z : e % 2 = 0
  · have q := hi4.2.2.1 z
    simp only [if_pos z] at hx ⊢
    by_cases w : F (e / 2) < L
    · simp only [if_pos w] at hx ⊢
      by_cases y : F (e / 2 + 1) < L
      · rw [if_pos (by simp [w, y])] at hx; omega
      · simp [w, y]
    · simp only [if_neg w] at hx ⊢
      by_cases y : F (e / 2 + 1) < L
      · rw [show e / 2 - (wi + 2) + (wi + 2) = e / 2 by omega]
        simp [w, y]
      · rw [if_pos (by simp [w, y])] at hx; omega
  · have q := hi4.2.2.2 z
    simp only [if_neg z] at hx ⊢
    by_cases w : F (e / 2) < L
    · simp only [if_pos w] at hx ⊢
      by_cases y : F (e / 2 + (wi + 2)) < L
      · rw [if_pos (by simp [w, y])] at hx; omega
      · rw [show e / 2 - 1 + 1 = e / 2 by omega, show e / 2 - 1 + (wi + 2) + 1 = e / 2 + (wi + 2) by omega]
        simp [w, y]
    · simp only [if_neg w] at hx ⊢
      by_cases y : F (e / 2 + (wi + 2)) < L
      · simp [w, y]
      · rw [if_pos (by simp [w, y])] at hx; omega
section
variable {G : ct_G} {h : ct_H} {o c hi wi : Nat} {L : Int}
theorem m_findL (m : MD G h o c hi wi) {sq e k : Nat} (hq : sq < (hi + 1) * (wi + 1)) (hk : k < 4) (he : sid (wi + 2) (cor wi sq) k = e) (K : Int → Option Int) : ∀ (t b n : Nat), b + t = k → t < n → l_X7_behind_7 G o (e : Int) h (sq : Int) K n (b : Int) = K (k : Int)
  | 0, b, n + 1, h1, h2 => by
    rw [l_X7_behind_7, m_edgeAt m hq (by omega), bs, if_pos (by rw [show b = k by omega, he]), show b = k by omega]
  | t + 1, b, n + 1, h1, h2 => by
    have hw := m.2.2.2.2.2.2
    rw [l_X7_behind_7, m_edgeAt m hq (by omega), bs, if_neg (fun z => by
      have := sid_inj (s := wi + 2) (by omega) (show b < 4 by omega) hk ((Int.ofNat.inj z).trans he.symm)
      omega), wr_id (by omega) (by omega), show (b : Int) + 1 = ((b + 1 : Nat) : Int) by omega]
    exact m_findL m hq hk he K t (b + 1) n (by omega) (by omega)
theorem m_otherL (m : MD G h o c hi wi) {sq k J cX : Nat} {X : Nat → Int} (hq : sq < (hi + 1) * (wi + 1)) (hk : k < 4) (hJ : J < 4) (x1 : G.1 o 10 = cX) (x2 : G.2 cX = 162) (hX : ∀ i, i < 4 → h.1 cX (sid (wi + 2) (cor wi sq) i) = X i) (hn : J ≠ k) (hJX : X J ≠ 0) (K : Int → Option Int) : ∀ (t b n : Nat), b + t = J → (∀ i, b ≤ i → i < J → i = k ∨ X i = 0) → t < n → l_X7_behind_53 G o h (sq : Int) (k : Int) K n (b : Int) = K (J : Int)
  | 0, b, n + 1, h1, h2, h3 => by
    have hb : b = J := by omega
    subst hb
    have hc := (cor_lt m.2.2.2.2.2.1 m.2.2.2.2.2.2 hq).2
    have hs4 : sid (wi + 2) (cor wi sq) b < 162 := by
      have := m.2.2.2.2.2.2
      unfold sid; repeat' split
      all_goals omega
    rw [l_X7_behind_53, jn_eq, if_neg (by omega), m_edgeAt m hq hJ, bs, x1, rdN (by omega), bs, hX b hJ, if_neg hJX]
  | t + 1, b, n + 1, h1, h2, h3 => by
    have hc := (cor_lt m.2.2.2.2.2.1 m.2.2.2.2.2.2 hq).2
    have hs4 : sid (wi + 2) (cor wi sq) b < 162 := by
      have := m.2.2.2.2.2.2
      unfold sid; repeat' split
      all_goals omega
    have ih := m_otherL m hq hk hJ x1 x2 hX hn hJX K t (b + 1) n (by omega) (fun i a1 a2 => h2 i (by omega) a2) (by omega)
    rw [l_X7_behind_53, jn_eq, wr_id (by omega) (by omega), show (b : Int) + 1 = ((b + 1 : Nat) : Int) by omega]
    by_cases z : b = k
    · rw [if_pos (by omega)]
      exact ih
    · have hz := (h2 b (by omega) (by omega)).resolve_left z
      rw [if_neg (by omega), m_edgeAt m hq (by omega), bs, x1, rdN (by omega), bs, hX b (by omega), if_pos hz]
      exact ih
end
