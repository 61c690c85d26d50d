/-! the class: which lines hold a place, a bit each -/
def bt (n j : Nat) : Nat := n / 2 ^ j % 2
theorem bt_tb (n j : Nat) : bt n j = if n.testBit j = true then 1 else 0 := by
  unfold bt
  rw [Nat.testBit_eq_decide_div_mod_eq]
  by_cases z : n / 2 ^ j % 2 = 1
  · rw [if_pos (decide_eq_true z), z]
  · rw [if_neg (by simpa using z)]; omega
theorem bt_xor (n v j : Nat) : bt (n ^^^ 2 ^ v) j = if j = v then 1 - bt n j else bt n j := by
  rw [bt_tb, bt_tb, Nat.testBit_xor, Nat.testBit_two_pow]
  by_cases z : j = v
  · subst z
    rw [if_pos rfl]
    cases n.testBit j <;> simp
  · rw [if_neg z]
    have : ¬ v = j := fun w => z w.symm
    cases n.testBit j <;> simp [this]
theorem bt01 (n j : Nat) : bt n j = 0 ∨ bt n j = 1 := by unfold bt; omega
theorem lN_xor {a b : Nat} (ha : a < 2 ^ 64) (hb : b < 2 ^ 64) : lN a ^^^ lN b = lN (a ^^^ b) := by
  apply Int64.toBitVec_inj.mp
  apply BitVec.eq_of_toNat_eq
  show (BitVec.ofNat 64 a ^^^ BitVec.ofNat 64 b).toNat = (BitVec.ofNat 64 (a ^^^ b)).toNat
  rw [BitVec.toNat_xor, BitVec.toNat_ofNat, BitVec.toNat_ofNat, BitVec.toNat_ofNat, Nat.mod_eq_of_lt ha, Nat.mod_eq_of_lt hb, Nat.mod_eq_of_lt (Nat.xor_lt_two_pow ha hb)]
theorem one_shl : ∀ v, v < 63 → ((Int64.ofNat 1) <<< ((Int32.ofInt ((v : Nat) : Int)).toInt64 &&& 63)) = lN (2 ^ v) := by decide +kernel
theorem sh_k : ∀ v, v < 63 → (((Int32.ofInt ((v : Nat) : Int)).toInt64 &&& 63).toBitVec.smod 64).toNat = v := by decide +kernel
theorem lN_shr {n v : Nat} (h : n < 2 ^ 63) (hv : v < 63) : lN n >>> ((Int32.ofInt (v : Int)).toInt64 &&& 63) = lN (n / 2 ^ v) := by
  apply Int64.toInt_inj.mp
  have h2 : n / 2 ^ v ≤ n := Nat.div_le_self _ _
  have e : (lN n >>> ((Int32.ofInt (v : Int)).toInt64 &&& 63)).toInt = (lN n).toInt >>> v := by
    show ((lN n).toBitVec.sshiftRight (((Int32.ofInt (v : Int)).toInt64 &&& 63).toBitVec.smod 64).toNat).toInt = _
    rw [sh_k v hv, BitVec.toInt_sshiftRight]
    rfl
  rw [e, pk_lT h, pk_lT (by omega), Int.shiftRight_eq_div_pow]
  rfl
def hxr (lf : Nat → Int) : Nat → Nat → Nat → Nat
  | 0, _, n => n
  | k + 1, i, n => hxr lf k (i + 1) (if lf (2 * i) < 0 then n else n ^^^ 2 ^ (lf (2 * i)).toNat)
theorem hxr_lt {lf : Nat → Int} : ∀ (k i n : Nat), (∀ p, i ≤ p → p < i + k → lf (2 * p) < 40) → n < 2 ^ 40 → hxr lf k i n < 2 ^ 40
  | 0, i, n, h, hn => hn
  | k + 1, i, n, h, hn => by
    rw [hxr]
    refine hxr_lt k (i + 1) _ (fun p a b => h p (by omega) (by omega)) ?_
    split
    · exact hn
    · have := h i (by omega) (by omega)
      exact Nat.xor_lt_two_pow hn (Nat.pow_lt_pow_right (by omega) (by omega))
theorem hxr_bt {lf : Nat → Int} {j : Nat} : ∀ (k i n : Nat), ((bt (hxr lf k i n) j : Nat) : Int) = ((bt n j : Nat) + sm (fun p => if lf (2 * p) = j then 1 else 0) i k) % 2
  | 0, i, n => by
    have := bt01 n j
    rw [hxr, sm]
    omega
  | k + 1, i, n => by
    rw [hxr, hxr_bt k (i + 1), sm]
    generalize sm (fun p => if lf (2 * p) = j then 1 else 0) (i + 1) k = Z
    have := bt01 n j
    by_cases z : lf (2 * i) < 0
    · rw [if_pos z, if_neg (by omega)]; omega
    · rw [if_neg z, bt_xor]
      by_cases y : j = (lf (2 * i)).toNat
      · rw [if_pos y, if_pos (by omega)]; omega
      · rw [if_neg y, if_neg (by omega)]; omega
def SG (S : LSt) (hi wi : Nat) : Prop := ∀ e, e < 162 → S.1 e = -5 ∨ (inner hi wi e ∧ 0 ≤ S.1 e ∧ S.1 e < (S.2.2.2.1 : Nat))
theorem LI.sg {F : Nat → Int} {hi wi : Nat} {L : Int} {nxt : Nat → Nat} {S : LSt} (h : LIt nxt (CE F hi wi L) S) : SG S hi wi := fun e he => (h.2.2.2.2.1 e he).imp id (fun w => ⟨w.1.1, w.2.1, w.2.2⟩)
theorem sm_even (g : Nat → Int) : ∀ (m i : Nat), sm g (2 * i) (2 * m) = sm (fun p => g (2 * p) + g (2 * p + 1)) i m
  | 0, i => rfl
  | m + 1, i => by
    rw [show 2 * (m + 1) = 2 * m + 1 + 1 by omega, sm, sm, sm, show 2 * i + 1 + 1 = 2 * (i + 1) by omega, sm_even g m (i + 1)]
    omega
theorem sm_cut (f : Nat → Int) : ∀ (a b i : Nat), sm f i (a + b) = sm f i a + sm f (i + a) b
  | 0, b, i => by rw [Nat.zero_add, sm]; simp
  | a + 1, b, i => by
    rw [show a + 1 + b = (a + b) + 1 by omega, sm, sm, sm_cut f a b (i + 1), show i + 1 + a = i + (a + 1) by omega]
    omega
theorem sm_zero {f : Nat → Int} {m i : Nat} (h : ∀ j, i ≤ j → j < i + m → f j = 0) : sm f i m = 0 := by
  rw [sm_congr (g := fun _ => 0) h, sm_const]; simp
theorem row_win {s p q : Nat} (hs2 : 0 < s) : (p / s = q / s ∧ q ≤ p) ↔ (q ≤ p ∧ p < s * (q / s + 1)) := by
  constructor
  · intro h
    refine ⟨h.2, ?_⟩
    rw [← h.1]
    exact Nat.lt_mul_div_succ p hs2
  · intro h
    refine ⟨?_, h.1⟩
    have h1 : q / s ≤ p / s := Nat.div_le_div_right h.1
    have h2 : p / s < q / s + 1 := Nat.div_lt_of_lt_mul h.2
    omega
theorem crs_row {S : LSt} {hi wi j q : Nat} (h1 : 2 ≤ hi ∧ hi ≤ 7) (h2 : 2 ≤ wi ∧ wi ≤ 7) (sf : SF S) (sg : SG S hi wi) (hj : j < S.2.2.2.1) (hq : q < (hi + 2) * (wi + 2)) : crs S (wi + 2) j q = sm (fun p => if S.1 (2 * p) = j then 1 else 0) q ((wi + 2) * (q / (wi + 2) + 1) - 1 - q) := by
  have hN := N81 h1 h2
  have ql : q < (wi + 2) * (q / (wi + 2) + 1) := Nat.lt_mul_div_succ q (by omega)
  have qr : q / (wi + 2) ≤ hi + 1 := (dm_lt (p := q) h1 h2).1.mpr hq
  have qe : (wi + 2) * (q / (wi + 2) + 1) ≤ 81 := mul_b (by omega) (by omega)
  unfold crs
  rw [(sf.2.2 j hj).2.2.2.2.2]
  have e0 := sm_even (fun e => if S.1 e = j then pP (wi + 2) q e else 0) 81 0
  rw [show 2 * 0 = 0 from rfl, show 2 * 81 = 162 from rfl] at e0
  rw [e0]
  have lastc : S.1 (2 * ((wi + 2) * (q / (wi + 2) + 1) - 1)) ≠ (j : Int) := by
    rcases sg (2 * ((wi + 2) * (q / (wi + 2) + 1) - 1)) (by omega) with y | y
    · omega
    · intro _
      have := (y.1.1 (by omega)).2
      rw [show 2 * ((wi + 2) * (q / (wi + 2) + 1) - 1) / 2 = (wi + 2) * (q / (wi + 2) + 1) - 1 by omega] at this
      have e3 : ((wi + 2) * (q / (wi + 2) + 1) - 1) % (wi + 2) = wi + 1 := by
        generalize q / (wi + 2) = x
        rw [Nat.mul_add, show (wi + 2) * x + (wi + 2) * 1 - 1 = (wi + 2) * x + (wi + 1) by omega, Nat.mul_add_mod, Nat.mod_eq_of_lt (by omega)]
      omega
  generalize hE : (wi + 2) * (q / (wi + 2) + 1) = E at ql qe lastc ⊢
  have hv : ∀ p, ((fun e => if S.1 e = (j : Int) then pP (wi + 2) q e else 0) (2 * p) + (fun e => if S.1 e = (j : Int) then pP (wi + 2) q e else 0) (2 * p + 1)) = if q ≤ p ∧ p < E then (if S.1 (2 * p) = (j : Int) then 1 else 0) else 0 := by
    intro p
    have o1 : pP (wi + 2) q (2 * p + 1) = 0 := by unfold pP; rw [if_neg (by omega)]
    have o2 : pP (wi + 2) q (2 * p) = if q ≤ p ∧ p < E then 1 else 0 := by
      unfold pP
      rw [show 2 * p / 2 = p by omega]
      have rw1 := row_win (s := wi + 2) (p := p) (q := q) (by omega)
      rw [hE] at rw1
      by_cases y : q ≤ p ∧ p < E
      · rw [if_pos y, if_pos ⟨by omega, rw1.mpr y⟩]
      · rw [if_neg y, if_neg (fun w => y (rw1.mp w.2))]
    show (if S.1 (2 * p) = (j : Int) then pP (wi + 2) q (2 * p) else 0) + (if S.1 (2 * p + 1) = (j : Int) then pP (wi + 2) q (2 * p + 1) else 0) = _
    rw [o1, o2]
    repeat' split
    all_goals omega
  rw [sm_congr (g := fun p => if q ≤ p ∧ p < E then (if S.1 (2 * p) = (j : Int) then 1 else 0) else 0) (fun p _ _ => hv p), show (81 : Nat) = q + ((E - 1 - q) + (81 - (E - 1))) by omega, sm_cut, sm_cut, sm_zero (i := 0) (m := q) (fun p _ p2 => by rw [if_neg (by omega)]), sm_zero (i := 0 + q + (E - 1 - q)) (fun p p1 p2 => by
    by_cases y : p = E - 1
    · subst y; rw [if_neg lastc]; split <;> rfl
    · rw [if_neg (by omega)]), Int.zero_add, Int.add_zero, Nat.zero_add]
  exact sm_congr (fun p p1 p2 => by rw [if_pos (by omega)])
