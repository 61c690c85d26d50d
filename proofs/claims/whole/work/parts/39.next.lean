/-! the edge behind an edge: its spec, and the class -/
def ecor (F : Nat → Int) (s : Nat) (L : Int) (e : Nat) : Nat := if e % 2 = 0 then (if F (e / 2) < L then e / 2 else e / 2 - s) else (if F (e / 2) < L then e / 2 - 1 else e / 2)
def esid (F : Nat → Int) (L : Int) (e : Nat) : Nat := if e % 2 = 0 then (if F (e / 2) < L then 0 else 2) else (if F (e / 2) < L then 1 else 3)
def sid (s q k : Nat) : Nat := if k = 0 then 2 * q else if k = 1 then 2 * (q + 1) + 1 else if k = 2 then 2 * (q + s) else 2 * q + 1
def lea (code : Nat) : Nat := if code % 4 = 1 then 0 else if code / 2 % 4 = 1 then 1 else if code / 4 % 4 = 1 then 2 else 3
def xor1 (k : Nat) : Nat := if k = 0 then 1 else if k = 1 then 0 else if k = 2 then 3 else 2
def nx (F : Nat → Int) (s : Nat) (kd L : Int) (e : Nat) : Nat :=
  if cs F s (ecor F s L e) L = 5 ∨ cs F s (ecor F s L e) L = 10 then sid s (ecor F s L e) (if (if cs F s (ecor F s L e) L = 5 then (1 : Int) else 0) = jd F s kd (ecor F s L e) L then xor1 (esid F L e) else 3 - esid F L e)
  else sid s (ecor F s L e) (lea (cs F s (ecor F s L e) L).toNat)
theorem cs_b (F : Nat → Int) (s q : Nat) (L : Int) : 0 ≤ cs F s q L ∧ cs F s q L < 16 := by
  unfold cs
  repeat' split
  all_goals omega
theorem shr_and : ∀ code, code < 16 → ∀ b, b < 3 → ct_bop (fun x y => x &&& y) (ct_bop (fun x y => x >>> (y &&& 31)) ((code : Nat) : Int) ((b : Nat) : Int)) 3 = ((code / 2 ^ b % 4 : Nat) : Int) := by decide +kernel
theorem x2_leaveL {G : ct_G} (K : Int → Option Int) {code : Nat} (hc : code < 16) : l_X2_leave_42 G (code : Int) K 200 0 = K ((lea code : Nat) : Int) := by
  have st : ∀ (b n : Nat), b < 3 → l_X2_leave_42 G (code : Int) K (n + 1) (b : Int) = if code / 2 ^ b % 4 = 1 then K (b : Int) else l_X2_leave_42 G (code : Int) K n ((b + 1 : Nat) : Int) := by
    intro b n hb
    rw [l_X2_leave_42, if_neg (by omega), shr_and code hc b hb, wr_id (by omega) (by omega), show (b : Int) + 1 = ((b + 1 : Nat) : Int) by omega]
    by_cases z : code / 2 ^ b % 4 = 1
    · rw [if_pos z, if_pos (by rw [z]; rfl)]
    · rw [if_neg z, if_neg (show ¬ ((code / 2 ^ b % 4 : Nat) : Int) = 1 from fun w => z (Int.ofNat.inj w))]
  have s0 := st 0 199 (by omega)
  have s1 := st 1 198 (by omega)
  have s2 := st 2 197 (by omega)
  have s3 : l_X2_leave_42 G (code : Int) K 197 ((2 + 1 : Nat) : Int) = K ((3 : Nat) : Int) := by
    rw [show (197 : Nat) = 196 + 1 from rfl, l_X2_leave_42, if_pos (by omega)]
  rw [show (200 : Nat) = 199 + 1 from rfl, show (0 : Int) = ((0 : Nat) : Int) from rfl, s0, s1, s2, s3]
  unfold lea
  rw [show (2 : Nat) ^ 2 = 4 from rfl, show (2 : Nat) ^ 1 = 2 from rfl, show (2 : Nat) ^ 0 = 1 from rfl, Nat.div_one]
  by_cases z0 : code % 4 = 1
  · rw [if_pos z0, if_pos z0]
  · rw [if_neg z0, if_neg z0]
    by_cases z1 : code / 2 % 4 = 1
    · rw [if_pos z1, if_pos z1]
    · rw [if_neg z1, if_neg z1]
      by_cases z2 : code / 4 % 4 = 1
      · rw [if_pos z2, if_pos z2]
      · rw [if_neg z2, if_neg z2]
section
variable {G : ct_G} {h : ct_H} {o og c hi wi : Nat} {L : Int}
theorem x2_isIn (l0 : G.1 o 0 = og) (g : GR G h og c hi wi) (hL : h.1 o 6 = L) {q : Nat} (hq : q < 81) : f_X2_isIn G h o (q : Int) = some (if h.1 c q < L then 0 else 1) := by
  unfold f_X2_isIn
  rw [l0, g.1, rdN (by rw [g.2.1]; exact hq), bs, hL]
  split <;> rfl
theorem x2_wayOver (l0 : G.1 o 0 = og) (g : GR G h og c hi wi) (hL : h.1 o 6 = L) {e : Nat} (he : e < 162) : f_X2_wayOver G h o (e : Int) = some (if e % 2 = 0 then (if h.1 c (e / 2) < L then 100 else 117) else (if h.1 c (e / 2) < L then 108 else 114)) := by
  unfold f_X2_wayOver
  rw [dv_eq (by omega) (by omega), bs, show (e : Int) / 2 = ((e / 2 : Nat) : Int) by omega, x2_isIn l0 g hL (by omega), bs, md_eq (by omega) (by omega), bs]
  by_cases z : e % 2 = 0
  · rw [if_pos z, if_pos (by omega)]
    by_cases w : h.1 c (e / 2) < L
    · rw [if_pos w, if_pos w, if_pos rfl]
    · rw [if_neg w, if_neg w, if_neg (by omega)]
  · rw [if_neg z, if_neg (by omega)]
    by_cases w : h.1 c (e / 2) < L
    · rw [if_pos w, if_pos w, if_pos rfl]
    · rw [if_neg w, if_neg w, if_neg (by omega)]
theorem x2_sideOf (l0 : G.1 o 0 = og) (g : GR G h og c hi wi) {q k : Nat} (hq : q < 81) (hk : k < 4) : f_X2_sideOf G h o (q : Int) (k : Int) = some ((sid (wi + 2) q k : Nat) : Int) := by
  unfold f_X2_sideOf sid
  have g9 := g.2.2.2.2.2.2.2.2
  rw [l0, g.2.2.2.2.2.1, wr_id (a := 2 * (q : Int)) (by omega) (by omega), wr_id (a := (q : Int) + 1) (by omega) (by omega), wr_id (a := 2 * ((q : Int) + 1)) (by omega) (by omega), wr_id (a := 2 * ((q : Int) + 1) + 1) (by omega) (by omega), wr_id (a := (q : Int) + ((wi + 2 : Nat) : Int)) (by omega) (by omega), wr_id (a := 2 * ((q : Int) + ((wi + 2 : Nat) : Int))) (by omega) (by omega), wr_id (a := 2 * (q : Int) + 1) (by omega) (by omega)]
  have : k = 0 ∨ k = 1 ∨ k = 2 ∨ k = 3 := by omega
  rcases this with rfl | rfl | rfl | rfl
  · rw [if_pos (by omega), if_pos rfl]; congr 1
  · rw [if_neg (by omega), if_pos (by omega), if_neg (by omega), if_pos rfl]; congr 1
  · rw [if_neg (by omega), if_neg (by omega), if_pos (by omega), if_neg (by omega), if_neg (by omega), if_pos rfl]; congr 1
  · rw [if_neg (by omega), if_neg (by omega), if_neg (by omega), if_neg (by omega), if_neg (by omega), if_neg (by omega)]; congr 1
theorem xor1_lt (k : Nat) : xor1 k < 4 := by
  unfold xor1
  repeat' split
  all_goals omega
theorem lea_lt (k : Nat) : lea k < 4 := by
  unfold lea
  repeat' split
  all_goals omega
theorem xor_k : ∀ k, k < 4 → ct_bop (fun x y => x ^^^ y) ((k : Nat) : Int) 1 = ((xor1 k : Nat) : Int) := by decide +kernel
theorem x2_leave (l0 : G.1 o 0 = og) (g : GR G h og c hi wi) (hF : hB (h.1 c)) (hL : h.1 o 6 = L) (hl : 0 ≤ L ∧ L ≤ 99) {q k : Nat} (hq : q + wi + 3 < 81) (hk : k < 4) : f_X2_leave G h o (q : Int) (k : Int) = some ((if cs (h.1 c) (wi + 2) q L = 5 ∨ cs (h.1 c) (wi + 2) q L = 10 then sid (wi + 2) q (if (if cs (h.1 c) (wi + 2) q L = 5 then (1 : Int) else 0) = jd (h.1 c) (wi + 2) (h.1 og 5) q L then xor1 k else 3 - k) else sid (wi + 2) q (lea (cs (h.1 c) (wi + 2) q L).toNat) : Nat) : Int) := by
  unfold f_X2_leave
  have hcb := cs_b (h.1 c) (wi + 2) q L
  have hx4 := xor1_lt k
  rw [l0, hL, g_caseOf g hq, bs, x0_isSaddle, bs]
  by_cases z : cs (h.1 c) (wi + 2) q L = 5 ∨ cs (h.1 c) (wi + 2) q L = 10
  · rw [if_pos z, if_neg (by omega), if_pos z, jn_eq, g_isJoined g hq hF hl]
    have fin : ∀ x : Int, (x = 0 ∨ x = 1) → ((some (jd (h.1 c) (wi + 2) (h.1 og 5) q L)).bind fun v15 => ct_jn (β := Int) (fun k17 => if x = v15 then (k17 1) else k17 0) (fun b16 => ct_jn (β := Int) (fun k20 => if b16 = 0 then (k20 (ct_wr (3 - (k : Int)))) else k20 (ct_bop (fun x y => x ^^^ y) (k : Int) 1)) (fun b19 => (f_X2_sideOf G h o (q : Int) b19).bind fun v22 => some v22))) = some ((sid (wi + 2) q (if x = jd (h.1 c) (wi + 2) (h.1 og 5) q L then xor1 k else 3 - k) : Nat) : Int) := by
      intro x hx
      rw [bs, jn_eq]
      by_cases w : x = jd (h.1 c) (wi + 2) (h.1 og 5) q L
      · rw [if_pos w, if_pos w]
        dsimp only
        rw [jn_eq, if_neg (by omega), xor_k k hk]
        dsimp only
        rw [x2_sideOf l0 g (by omega) hx4, bs]
      · rw [if_neg w, if_neg w]
        dsimp only
        rw [jn_eq, if_pos rfl, wr_id (by omega) (by omega), show (3 : Int) - (k : Int) = ((3 - k : Nat) : Int) by omega]
        dsimp only
        rw [x2_sideOf l0 g (by omega) (by omega), bs]
    by_cases w5 : cs (h.1 c) (wi + 2) q L = 5
    · rw [if_pos w5, if_pos w5]
      exact fin 1 (Or.inr rfl)
    · rw [if_neg w5, if_neg w5]
      exact fin 0 (Or.inl rfl)
  · rw [if_neg z, if_pos rfl, if_neg z]
    obtain ⟨n, hn⟩ := Int.eq_ofNat_of_zero_le hcb.1
    have hl4 := lea_lt n
    rw [hn, x2_leaveL _ (by omega), x2_sideOf l0 g (by omega) hl4, bs]
    rfl
theorem x2_nextOf (l0 : G.1 o 0 = og) (g : GR G h og c hi wi) (hF : hB (h.1 c)) (hL : h.1 o 6 = L) (hl : 0 ≤ L ∧ L ≤ 99) {e : Nat} (he : e < 162) (h1 : ecor (h.1 c) (wi + 2) L e + wi + 3 < 81) (h2 : e % 2 = 0 → ¬ h.1 c (e / 2) < L → wi + 2 ≤ e / 2) (h3 : ¬ e % 2 = 0 → h.1 c (e / 2) < L → 1 ≤ e / 2) : f_X2_nextOf G h o (e : Int) = some ((nx (h.1 c) (wi + 2) (h.1 og 5) L e : Nat) : Int) := by
  unfold f_X2_nextOf nx
  have g9 := g.2.2.2.2.2.2.2.2
  rw [x2_wayOver l0 g hL he, bs, dv_eq (by omega) (by omega), show (e : Int) / 2 = ((e / 2 : Nat) : Int) by omega, l0, g.2.2.2.2.2.1]
  have fin := fun {q k : Nat} (a : q + wi + 3 < 81) (b : k < 4) => x2_leave l0 g hF hL hl a b
  by_cases z : e % 2 = 0
  · have s1 : esid (h.1 c) L e = if h.1 c (e / 2) < L then 0 else 2 := by unfold esid; rw [if_pos z]
    have s2 : ecor (h.1 c) (wi + 2) L e = if h.1 c (e / 2) < L then e / 2 else e / 2 - (wi + 2) := by unfold ecor; rw [if_pos z]
    rw [if_pos z]
    by_cases w : h.1 c (e / 2) < L
    · rw [if_pos w] at s1 s2 ⊢
      rw [s2] at h1 ⊢
      rw [s1, if_pos rfl, bs]
      have := fin (q := e / 2) (k := 0) h1 (by omega)
      rw [show ((0 : Nat) : Int) = 0 from rfl] at this
      rw [this, bs]
    · rw [if_neg w] at s1 s2 ⊢
      rw [s2] at h1 ⊢
      have h2' := h2 z w
      rw [s1, if_neg (by omega), if_neg (by omega), if_pos rfl, bs, wr_id (by omega) (by omega), show ((e / 2 : Nat) : Int) - ((wi + 2 : Nat) : Int) = ((e / 2 - (wi + 2) : Nat) : Int) by omega]
      have := fin (q := e / 2 - (wi + 2)) (k := 2) h1 (by omega)
      rw [show ((2 : Nat) : Int) = 2 from rfl] at this
      rw [this, bs]
  · have s1 : esid (h.1 c) L e = if h.1 c (e / 2) < L then 1 else 3 := by unfold esid; rw [if_neg z]
    have s2 : ecor (h.1 c) (wi + 2) L e = if h.1 c (e / 2) < L then e / 2 - 1 else e / 2 := by unfold ecor; rw [if_neg z]
    rw [if_neg z]
    by_cases w : h.1 c (e / 2) < L
    · rw [if_pos w] at s1 s2 ⊢
      rw [s2] at h1 ⊢
      have h3' := h3 z w
      rw [s1, if_neg (by omega), if_neg (by omega), if_neg (by omega), bs, wr_id (by omega) (by omega), show ((e / 2 : Nat) : Int) - 1 = ((e / 2 - 1 : Nat) : Int) by omega]
      have := fin (q := e / 2 - 1) (k := 1) h1 (by omega)
      rw [show ((1 : Nat) : Int) = 1 from rfl] at this
      rw [this, bs]
    · rw [if_neg w] at s1 s2 ⊢
      rw [s2] at h1 ⊢
      rw [s1, if_neg (by omega), if_pos rfl, bs]
      have := fin (q := e / 2) (k := 3) h1 (by omega)
      rw [show ((3 : Nat) : Int) = 3 from rfl] at this
      rw [this, bs]
end
