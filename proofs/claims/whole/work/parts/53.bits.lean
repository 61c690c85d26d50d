/-! Long.bitCount counts bits -/
def mkb (c : Nat) : Nat → Nat
  | 0 => 0
  | m + 1 => c + 256 * mkb c m
def mpb (g : Nat → Nat) : Nat → Nat → Nat
  | 0, _ => 0
  | m + 1, x => g (x % 256) + 256 * mpb g m (x / 256)
theorem and_split (A B : Nat) : A &&& B = (A % 256 &&& B % 256) + 256 * (A / 256 &&& B / 256) := by
  have h1 : (A &&& B) % 2 ^ 8 = (A % 2 ^ 8) &&& (B % 2 ^ 8) := Nat.and_mod_two_pow
  have h2 : (A &&& B) / 2 ^ 8 = A / 2 ^ 8 &&& B / 2 ^ 8 := Nat.and_div_two_pow
  have h3 := Nat.mod_add_div (A &&& B) (2 ^ 8)
  rw [h1, h2] at h3
  exact h3.symm
theorem and_low {A c j : Nat} (h : c < 2 ^ j) : A &&& c = A % 2 ^ j &&& c := by
  have h1 : (A &&& c) % 2 ^ j = (A % 2 ^ j) &&& (c % 2 ^ j) := Nat.and_mod_two_pow
  rw [Nat.mod_eq_of_lt (Nat.lt_of_le_of_lt Nat.and_le_right h), Nat.mod_eq_of_lt h] at h1
  exact h1
theorem shr_mask {c k : Nat} (hk : k ≤ 8) (hc : c < 2 ^ (8 - k)) : ∀ (m x : Nat), (x / 2 ^ k) &&& mkb c m = mpb (fun b => (b / 2 ^ k) &&& c) m x
  | 0, x => by simp [mkb, mpb]
  | m + 1, x => by
    have hc2 : c < 256 := Nat.lt_of_lt_of_le hc (Nat.pow_le_pow_right (by omega) (show 8 - k ≤ 8 by omega))
    rw [mkb, mpb, and_split, show (c + 256 * mkb c m) % 256 = c by omega, show (c + 256 * mkb c m) / 256 = mkb c m by omega, Nat.div_div_eq_div_mul, Nat.mul_comm (2 ^ k) 256, ← Nat.div_div_eq_div_mul, shr_mask hk hc m (x / 256)]
    congr 1
    rw [and_low (A := x / 2 ^ k % 256) hc, and_low (A := x % 256 / 2 ^ k) hc]
    congr 1
    have : k = 0 ∨ k = 1 ∨ k = 2 ∨ k = 3 ∨ k = 4 ∨ k = 5 ∨ k = 6 ∨ k = 7 ∨ k = 8 := by omega
    rcases this with rfl | rfl | rfl | rfl | rfl | rfl | rfl | rfl | rfl <;> simp only [Nat.reducePow, Nat.reduceSub] <;> omega
theorem mpb_add (f g : Nat → Nat) : ∀ (m x : Nat), mpb f m x + mpb g m x = mpb (fun b => f b + g b) m x
  | 0, x => rfl
  | m + 1, x => by
    rw [mpb, mpb, mpb, ← mpb_add f g m (x / 256)]
    omega
theorem mpb_comp {f g : Nat → Nat} (h : ∀ b, b < 256 → f b < 256) : ∀ (m x : Nat), mpb g m (mpb f m x) = mpb (fun b => g (f b)) m x
  | 0, x => rfl
  | m + 1, x => by
    have := h (x % 256) (by omega)
    rw [mpb, mpb, mpb, show (f (x % 256) + 256 * mpb f m (x / 256)) % 256 = f (x % 256) by omega, show (f (x % 256) + 256 * mpb f m (x / 256)) / 256 = mpb f m (x / 256) by omega, mpb_comp h m]
theorem mpb_congr {f g : Nat → Nat} (h : ∀ b, b < 256 → f b = g b) : ∀ (m x : Nat), mpb f m x = mpb g m x
  | 0, x => rfl
  | m + 1, x => by rw [mpb, mpb, h _ (by omega), mpb_congr h m]
theorem mpb_lt {f : Nat → Nat} (h : ∀ b, b < 256 → f b < 256) : ∀ (m x : Nat), mpb f m x < 256 ^ m
  | 0, x => by simp [mpb]
  | m + 1, x => by
    have h1 := h (x % 256) (by omega)
    have h2 := mpb_lt h m (x / 256)
    rw [mpb, Nat.pow_succ]
    omega
def gA (b : Nat) : Nat := b - ((b / 2) &&& 85)
def gB (b : Nat) : Nat := (gA b &&& 51) + ((gA b / 4) &&& 51)
def gC (b : Nat) : Nat := (gB b + gB b / 16) % 16
theorem gA_lt : ∀ b, b < 256 → gA b < 256 := by decide +kernel
theorem gA_le : ∀ b, b < 256 → ((b / 2) &&& 85) ≤ b := by decide +kernel
theorem gB_lt : ∀ b, b < 256 → gB b < 256 ∧ gB b % 16 ≤ 4 ∧ gB b / 16 ≤ 4 := by decide +kernel
theorem gC_eq : ∀ b, b < 256 → gC b = b % 2 + b / 2 % 2 + b / 4 % 2 + b / 8 % 2 + b / 16 % 2 + b / 32 % 2 + b / 64 % 2 + b / 128 % 2 := by decide +kernel
theorem stA : ∀ (m x : Nat), x < 256 ^ m → x - ((x / 2) &&& mkb 85 m) = mpb gA m x ∧ ((x / 2) &&& mkb 85 m) ≤ x
  | 0, x, h => by
    have : x = 0 := by simp at h; omega
    subst this
    simp [mkb, mpb]
  | m + 1, x, h => by
    have e := shr_mask (c := 85) (k := 1) (by omega) (by omega) (m + 1) x
    have e2 := shr_mask (c := 85) (k := 1) (by omega) (by omega) m (x / 256)
    rw [show (2 : Nat) ^ 1 = 2 from rfl] at e e2
    rw [e, mpb, mpb, ← e2]
    have hx : x / 256 < 256 ^ m := by rw [Nat.pow_succ] at h; omega
    have ih := stA m (x / 256) hx
    have l := gA_le (x % 256) (by omega)
    unfold gA at *
    omega
theorem stC {g : Nat → Nat} (hg : ∀ b, b < 256 → g b < 256 ∧ g b % 16 ≤ 4 ∧ g b / 16 ≤ 4) : ∀ (m x : Nat), ((mpb g m x + mpb g m x / 16) &&& mkb 15 m = mpb (fun b => (g b + g b / 16) % 16) m x) ∧ mpb g m x % 16 ≤ 4
  | 0, x => by simp [mpb, mkb]
  | m + 1, x => by
    have b1 := hg (x % 256) (by omega)
    have ih := stC hg m (x / 256)
    rw [mpb, mpb, mkb, and_split]
    generalize g (x % 256) = b at b1 ⊢
    rw [← ih.1]
    have i2 := ih.2
    generalize mpb g m (x / 256) = y at i2 ⊢
    generalize mkb 15 m = M
    rw [show (15 + 256 * M) % 256 = 15 by omega, show (15 + 256 * M) / 256 = M by omega, show (b + 256 * y + (b + 256 * y) / 16) / 256 = y + y / 16 by omega]
    refine ⟨?_, by omega⟩
    congr 1
    have := Nat.and_two_pow_sub_one_eq_mod ((b + 256 * y + (b + 256 * y) / 16) % 256) 4
    rw [show 2 ^ 4 - 1 = 15 from rfl, show 2 ^ 4 = 16 from rfl] at this
    rw [this]
    omega
theorem gB_le : ∀ (m x : Nat), mpb gB m x ≤ 68 * mkb 1 m
  | 0, x => by simp [mpb]
  | m + 1, x => by
    have b := gB_lt (x % 256) (by omega)
    have q := gB_le m (x / 256)
    rw [mpb, mkb]
    omega
theorem bq_l {x y : Nat} (h1 : x ≤ 68 * 72340172838076673) (h2 : y ≤ x) : x + y < 2 ^ 64 := by omega
/-- the last steps, on numbers -/
theorem bc_end {p0 p1 p2 p3 p4 p5 p6 p7 : Nat} (h0 : p0 ≤ 8) (h1 : p1 ≤ 8) (h2 : p2 ≤ 8) (h3 : p3 ≤ 8) (h4 : p4 ≤ 8) (h5 : p5 ≤ 8) (h6 : p6 ≤ 8) (h7 : p7 ≤ 8) : ∃ v v4 v5 v6 : Nat, v = p0 + 256 * (p1 + 256 * (p2 + 256 * (p3 + 256 * (p4 + 256 * (p5 + 256 * (p6 + 256 * (p7 + 256 * 0))))))) ∧ v4 = v + v / 256 ∧ v5 = v4 + v4 / 65536 ∧ v6 = v5 + v5 / 4294967296 ∧ v < 2 ^ 64 ∧ v4 < 2 ^ 64 ∧ v5 < 2 ^ 64 ∧ v6 % 2 ^ 32 % 128 = p0 + p1 + p2 + p3 + p4 + p5 + p6 + p7 := by
  have a : (p0 + 256 * (p1 + 256 * (p2 + 256 * (p3 + 256 * (p4 + 256 * (p5 + 256 * (p6 + 256 * (p7 + 256 * 0)))))))) / 256 = p1 + 256 * (p2 + 256 * (p3 + 256 * (p4 + 256 * (p5 + 256 * (p6 + 256 * p7))))) := by omega
  have b : ((p0 + p1) + 256 * (p1 + p2) + 65536 * ((p2 + p3) + 256 * (p3 + p4) + 65536 * (p4 + p5) + 16777216 * (p5 + p6) + 4294967296 * (p6 + p7) + 1099511627776 * p7)) / 65536 = (p2 + p3) + 256 * (p3 + p4) + 65536 * (p4 + p5) + 16777216 * (p5 + p6) + 4294967296 * (p6 + p7) + 1099511627776 * p7 := by omega
  have c : ((p0 + p1 + p2 + p3) + 256 * (p1 + p2 + p3 + p4) + 65536 * (p2 + p3 + p4 + p5) + 16777216 * (p3 + p4 + p5 + p6) + 4294967296 * ((p4 + p5 + p6 + p7) + 256 * (p5 + p6 + p7) + 65536 * (p6 + p7) + 16777216 * p7)) / 4294967296 = (p4 + p5 + p6 + p7) + 256 * (p5 + p6 + p7) + 65536 * (p6 + p7) + 16777216 * p7 := by omega
  refine ⟨_, (p0 + p1) + 256 * (p1 + p2) + 65536 * ((p2 + p3) + 256 * (p3 + p4) + 65536 * (p4 + p5) + 16777216 * (p5 + p6) + 4294967296 * (p6 + p7) + 1099511627776 * p7), (p0 + p1 + p2 + p3) + 256 * (p1 + p2 + p3 + p4) + 65536 * (p2 + p3 + p4 + p5) + 16777216 * (p3 + p4 + p5 + p6) + 4294967296 * ((p4 + p5 + p6 + p7) + 256 * (p5 + p6 + p7) + 65536 * (p6 + p7) + 16777216 * p7), (p0 + p1 + p2 + p3) + 256 * (p1 + p2 + p3 + p4) + 65536 * (p2 + p3 + p4 + p5) + 16777216 * (p3 + p4 + p5 + p6) + 4294967296 * ((p4 + p5 + p6 + p7) + 256 * (p5 + p6 + p7) + 65536 * (p6 + p7) + 16777216 * p7) + ((p4 + p5 + p6 + p7) + 256 * (p5 + p6 + p7) + 65536 * (p6 + p7) + 16777216 * p7), rfl, ?_, ?_, ?_, ?_, ?_, ?_, ?_⟩
  · rw [a]; clear a b c; omega
  · rw [b]; clear a b c; omega
  · rw [c]
  · clear a b c; omega
  · clear a b c; omega
  · clear a b c; omega
  · clear a b c; omega
theorem lN_and {a b : Nat} (ha : a < 2 ^ 64) (hb : b < 2 ^ 64) : lN a &&& lN b = lN (a &&& b) := by
  apply Int64.toBitVec_inj.mp
  apply BitVec.eq_of_toNat_eq
  show (BitVec.ofNat 64 a &&& BitVec.ofNat 64 b).toNat = (BitVec.ofNat 64 (a &&& b)).toNat
  rw [BitVec.toNat_and, BitVec.toNat_ofNat, BitVec.toNat_ofNat, BitVec.toNat_ofNat, Nat.mod_eq_of_lt ha, Nat.mod_eq_of_lt hb, Nat.mod_eq_of_lt (Nat.lt_of_le_of_lt Nat.and_le_left ha)]
theorem lN_ushr {a : Nat} (ha : a < 2 ^ 64) (s : UInt64) (k : Nat) (hk : (s.toBitVec % 64).toNat = k) : ((lN a).toUInt64 >>> s).toInt64 = lN (a / 2 ^ k) := by
  apply Int64.toBitVec_inj.mp
  apply BitVec.eq_of_toNat_eq
  have e : ((lN a).toUInt64 >>> s).toInt64.toBitVec = (BitVec.ofNat 64 a) >>> k := by
    rw [← hk]
    exact UInt64.toBitVec_shiftRight _ _
  rw [e, BitVec.toNat_ushiftRight, Nat.shiftRight_eq_div_pow]
  show _ = (BitVec.ofNat 64 (a / 2 ^ k)).toNat
  rw [BitVec.toNat_ofNat, BitVec.toNat_ofNat, Nat.mod_eq_of_lt ha, Nat.mod_eq_of_lt (Nat.lt_of_le_of_lt (Nat.div_le_self _ _) ha)]
theorem lN_of (x : Int64) : x = lN x.toBitVec.toNat := by
  apply Int64.toBitVec_inj.mp
  show x.toBitVec = BitVec.ofNat 64 x.toBitVec.toNat
  rw [BitVec.ofNat_toNat, BitVec.setWidth_eq]
theorem bitCount_eq {G : ct_G} {h : ct_H} {n : Nat} (hn : n < 2 ^ 64) : f_J13_bitCount_95d88 G h (lN n) = some ((gC (n % 256) + gC (n / 256 % 256) + gC (n / 256 / 256 % 256) + gC (n / 256 / 256 / 256 % 256) + gC (n / 256 / 256 / 256 / 256 % 256) + gC (n / 256 / 256 / 256 / 256 / 256 % 256) + gC (n / 256 / 256 / 256 / 256 / 256 / 256 % 256) + gC (n / 256 / 256 / 256 / 256 / 256 / 256 / 256 % 256) : Nat) : Int) := by
  unfold f_J13_bitCount_95d88
  have c5 : (6148914691236517205 : Int64) = lN (mkb 85 8) := by decide
  have c3 : (3689348814741910323 : Int64) = lN (mkb 51 8) := by decide
  have c1 : (1085102592571150095 : Int64) = lN (mkb 15 8) := by decide
  have l5 : mkb 85 8 < 2 ^ 64 := by decide
  have l3 : mkb 51 8 < 2 ^ 64 := by decide
  have l1 : mkb 15 8 < 2 ^ 64 := by decide
  have n8 : n < 256 ^ 8 := by simpa using hn
  have A := stA 8 n n8
  have A2 : mpb gA 8 n < 2 ^ 64 := by simpa using mpb_lt gA_lt 8 n
  have B1 := shr_mask (c := 51) (k := 0) (by omega) (by omega) 8 (mpb gA 8 n)
  have B2 := shr_mask (c := 51) (k := 2) (by omega) (by omega) 8 (mpb gA 8 n)
  rw [mpb_comp gA_lt] at B1 B2
  have B3 : (mpb gA 8 n &&& mkb 51 8) + (mpb gA 8 n / 2 ^ 2 &&& mkb 51 8) = mpb gB 8 n := by
    rw [B2, show mpb gA 8 n &&& mkb 51 8 = mpb gA 8 n / 2 ^ 0 &&& mkb 51 8 by rw [Nat.pow_zero, Nat.div_one], B1, mpb_add]
    exact mpb_congr (fun b _ => by unfold gB; rw [Nat.pow_zero, Nat.div_one]) 8 n
  have B4 : mpb gB 8 n < 2 ^ 64 := by simpa using mpb_lt (fun b hb => (gB_lt b hb).1) 8 n
  have C := (stC gB_lt 8 n).1
  have C2 : mpb gC 8 n = mpb (fun b => (gB b + gB b / 16) % 16) 8 n := rfl
  rw [lt_eq, lN_ushr hn _ 1 (by decide), c5, lN_and (Nat.lt_of_le_of_lt (Nat.div_le_self _ _) hn) l5, show (2 : Nat) ^ 1 = 2 from rfl, lN_sub A.2, A.1, lt_eq, c3, lN_and A2 l3, lN_ushr A2 _ 2 (by decide), lN_and (Nat.lt_of_le_of_lt (Nat.div_le_self _ _) A2) l3, lN_add, B3, lt_eq, lN_ushr B4 _ 4 (by decide), lN_add, c1]
  have gc : ∀ x, gC (x % 256) ≤ 8 := fun x => by rw [gC_eq _ (by omega)]; omega
  have V : mpb gC 8 n = gC (n % 256) + 256 * (gC (n / 256 % 256) + 256 * (gC (n / 256 / 256 % 256) + 256 * (gC (n / 256 / 256 / 256 % 256) + 256 * (gC (n / 256 / 256 / 256 / 256 % 256) + 256 * (gC (n / 256 / 256 / 256 / 256 / 256 % 256) + 256 * (gC (n / 256 / 256 / 256 / 256 / 256 / 256 % 256) + 256 * (gC (n / 256 / 256 / 256 / 256 / 256 / 256 / 256 % 256) + 256 * 0))))))) := rfl
  have g7 := gc (n / 256 / 256 / 256 / 256 / 256 / 256 / 256)
  have g6 := gc (n / 256 / 256 / 256 / 256 / 256 / 256)
  have g5 := gc (n / 256 / 256 / 256 / 256 / 256)
  have g4 := gc (n / 256 / 256 / 256 / 256)
  have g3 := gc (n / 256 / 256 / 256)
  have g2 := gc (n / 256 / 256)
  have g1 := gc (n / 256)
  have g0 := gc n
  have bq : mpb gB 8 n + mpb gB 8 n / 2 ^ 4 < 2 ^ 64 := by
    have h68 := gB_le 8 n
    rw [show mkb 1 8 = 72340172838076673 from rfl] at h68
    have d4 : mpb gB 8 n / 2 ^ 4 ≤ mpb gB 8 n := Nat.div_le_self _ _
    exact bq_l h68 d4
  rw [lN_and bq l1, show (2 : Nat) ^ 4 = 16 from rfl, C, ← C2, V]
  generalize gC (n % 256) = p0 at *
  generalize gC (n / 256 % 256) = p1 at *
  generalize gC (n / 256 / 256 % 256) = p2 at *
  generalize gC (n / 256 / 256 / 256 % 256) = p3 at *
  generalize gC (n / 256 / 256 / 256 / 256 % 256) = p4 at *
  generalize gC (n / 256 / 256 / 256 / 256 / 256 % 256) = p5 at *
  generalize gC (n / 256 / 256 / 256 / 256 / 256 / 256 % 256) = p6 at *
  generalize gC (n / 256 / 256 / 256 / 256 / 256 / 256 / 256 % 256) = p7 at *
  obtain ⟨v, v4, v5, v6, q1, q2, q3, q4, q5, q6, q7, q8⟩ := bc_end g0 g1 g2 g3 g4 g5 g6 g7
  rw [← q1, lt_eq, lN_ushr q5 _ 8 (by decide), lN_add, show (2 : Nat) ^ 8 = 256 from rfl, ← q2, lt_eq, lN_ushr q6 _ 16 (by decide), lN_add, show (2 : Nat) ^ 16 = 65536 from rfl, ← q3, lt_eq, lN_ushr q7 _ 32 (by decide), lN_add, show (2 : Nat) ^ 32 = 4294967296 from rfl, ← q4, lN_i]
  unfold ct_bop
  rw [Int32.ofInt_toInt]
  dsimp only
  rw [pk_and (nI v6) 7 (by decide), nI_toInt (by have := Nat.mod_lt (nI v6).toBitVec.toNat (show 0 < 2 ^ 7 by decide); omega)]
  have e : (nI v6).toBitVec.toNat = v6 % 2 ^ 32 := by
    show (BitVec.ofNat 32 v6).toNat = _
    rw [BitVec.toNat_ofNat]
  rw [e, show (2 : Nat) ^ 7 = 128 from rfl, q8]
theorem sm_shift (f : Nat → Int) (d : Nat) : ∀ (m i : Nat), sm f (i + d) m = sm (fun k => f (k + d)) i m
  | 0, i => rfl
  | m + 1, i => by
    rw [sm, sm, show i + d + 1 = i + 1 + d by omega, sm_shift f d m (i + 1)]
theorem byt (x : Nat) : ∀ m, sm (fun k => ((x / 2 ^ k % 2 : Nat) : Int)) 0 (8 + m) = ((gC (x % 256) : Nat) : Int) + sm (fun k => ((x / 256 / 2 ^ k % 2 : Nat) : Int)) 0 m := by
  intro m
  rw [show 8 + m = m + 1 + 1 + 1 + 1 + 1 + 1 + 1 + 1 by omega, sm, sm, sm, sm, sm, sm, sm, sm, gC_eq _ (by omega), show 0 + 1 + 1 + 1 + 1 + 1 + 1 + 1 + 1 = 0 + 8 from rfl, sm_shift]
  rw [sm_congr (f := fun k => ((x / 2 ^ (k + 8) % 2 : Nat) : Int)) (g := fun k => ((x / 256 / 2 ^ k % 2 : Nat) : Int)) (fun k _ _ => by rw [Nat.div_div_eq_div_mul, Nat.pow_add, Nat.mul_comm])]
  generalize sm (fun k => ((x / 256 / 2 ^ k % 2 : Nat) : Int)) 0 m = Z
  simp only [Nat.zero_add, Nat.reduceAdd, Nat.reducePow]
  omega
theorem bitCount_sum {G : ct_G} {h : ct_H} {n : Nat} (hn : n < 2 ^ 64) : f_J13_bitCount_95d88 G h (lN n) = some (sm (fun k => ((n / 2 ^ k % 2 : Nat) : Int)) 0 64) := by
  rw [bitCount_eq hn, show (64 : Nat) = 8 + (8 + (8 + (8 + (8 + (8 + (8 + (8 + 0))))))) from rfl, byt, byt, byt, byt, byt, byt, byt, byt, sm]
  congr 1
  simp only [Int.natCast_add, Int.add_zero, Int.add_assoc]
