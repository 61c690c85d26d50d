/-! the call fits -/
section
variable {G : ct_G} {h : ct_H} {hi wi : Nat} {B : Int}
def soR (F : Nat → Int) (hi wi : Nat) (p s L : Int) : Prop := (0 ≤ p ∧ p < ((hi * wi : Nat) : Int)) ∧ (¬ F (plc wi p.toNat) < L ↔ s = 1)
theorem c_fitsL (gs : GS G) (ig : IG G h hi wi) {n : Nat} (hn : n ≤ 6) (n1 : h.1 36 2 = (n : Int)) (n3 : ∀ i, i < n → h.1 37 i = h.1 86 i ∧ h.1 38 i = h.1 87 i) (K : Int × Int → Option Int) : ∀ (t i f : Nat) (lo gr : Int), i + t = n → t < f → 0 ≤ lo → lo ≤ 100 → -1 ≤ gr → gr ≤ 99 → ∃ lo' gr' : Int, l_X6_fits_13 G 0 h K f (lo, gr, (i : Int)) = K (lo', gr') ∧ (0 ≤ lo' ∧ lo' ≤ 100 ∧ -1 ≤ gr' ∧ gr' ≤ 99) ∧ ∀ L : Int, 0 ≤ L → L ≤ 99 → ((lo ≤ L ∧ L ≤ gr ∧ ∀ j, i ≤ j → j < n → soR (h.1 2) hi wi (h.1 86 j) (h.1 87 j) L) ↔ (lo' ≤ L ∧ L ≤ gr'))
  | 0, i, f + 1, lo, gr, h1, h2, b1, b2, b3, b4 => by
    refine ⟨lo, gr, ?_, ⟨b1, b2, b3, b4⟩, fun L _ _ => ⟨fun w => ⟨w.1, w.2.1⟩, fun w => ⟨w.1, w.2, fun j j1 j2 => by omega⟩⟩⟩
    rw [l_X6_fits_13, gs.1.2.2.2.2.2.2.2.1, n1, if_pos (by dsimp only; omega)]
  | t + 1, i, f + 1, lo, gr, h1, h2, b1, b2, b3, b4 => by
    obtain ⟨w1, w2, w3, w4⟩ := gs.2.2.2.2.1.1
    have e := n3 i (by omega)
    have ih := fun lo' gr' a b c d => c_fitsL gs ig hn n1 n3 K t (i + 1) f lo' gr' (by omega) (by omega) a b c d
    rw [show ((i + 1 : Nat) : Int) = (i : Int) + 1 by omega] at ih
    have cut : ∀ L, (∀ j, i ≤ j → j < n → soR (h.1 2) hi wi (h.1 86 j) (h.1 87 j) L) ↔ (soR (h.1 2) hi wi (h.1 86 i) (h.1 87 i) L ∧ ∀ j, i + 1 ≤ j → j < n → soR (h.1 2) hi wi (h.1 86 j) (h.1 87 j) L) := by
      intro L
      refine ⟨fun w => ⟨w i (Nat.le_refl _) (by omega), fun j a b => w j (by omega) b⟩, fun w j a b => ?_⟩
      by_cases ej : j = i
      · subst ej; exact w.1
      · exact w.2 j (by omega) b
    rw [l_X6_fits_13, gs.1.2.2.2.2.2.2.2.1, n1, if_neg (by dsimp only; omega)]
    dsimp only
    rw [w1, w3, rdN (by omega), bs, gs.1.1, g_isPoint ig.1, bs, jn_eq, e.1, wr_id (a := (i : Int) + 1) (by omega) (by omega)]
    by_cases z : 0 ≤ h.1 86 i ∧ h.1 86 i < ((hi * wi : Nat) : Int)
    · obtain ⟨q, hq⟩ := Int.eq_ofNat_of_zero_le z.1
      have hq2 : q < hi * wi := by omega
      have rq := ig.2.2.1.1 q hq2
      rw [if_pos z, if_neg (by omega), rdN (by omega), bs, e.2, bs, bs, hq, g_heightOf ig.1 hq2, bs, bs, lt_eq, lt_eq, ct_min_eq, ct_max_eq, wr_id (by omega) (by omega)]
      have so : ∀ L, soR (h.1 2) hi wi (h.1 86 i) (h.1 87 i) L ↔ (¬ h.1 2 (plc wi q) < L ↔ h.1 87 i = 1) := by
        intro L
        unfold soR
        rw [hq, Int.toNat_natCast]
        rw [hq] at z
        exact ⟨fun w => w.2, fun w => ⟨z, w⟩⟩
      generalize h.1 2 (plc wi q) = v at rq so ⊢
      by_cases y : h.1 87 i = 1
      · rw [if_pos y]
        obtain ⟨lo', gr', a1, a2, a3⟩ := ih lo (min gr v) b1 b2 (by omega) (by omega)
        refine ⟨lo', gr', a1, a2, fun L l0 l9 => ?_⟩
        rw [← a3 L l0 l9, cut L, so L]
        constructor
        · rintro ⟨p1, p2, p3, p4⟩
          have := p3.mpr y
          exact ⟨p1, by omega, p4⟩
        · rintro ⟨p1, p2, p4⟩
          exact ⟨p1, by omega, ⟨fun _ => y, fun _ => by omega⟩, p4⟩
      · rw [if_neg y]
        obtain ⟨lo', gr', a1, a2, a3⟩ := ih (max lo (v + 1)) gr (by omega) (by omega) b3 b4
        refine ⟨lo', gr', a1, a2, fun L l0 l9 => ?_⟩
        rw [← a3 L l0 l9, cut L, so L]
        constructor
        · rintro ⟨p1, p2, p3, p4⟩
          have : v < L := Classical.byContradiction fun u => y (p3.mp u)
          exact ⟨by omega, p2, p4⟩
        · rintro ⟨p1, p2, p4⟩
          exact ⟨by omega, p2, ⟨fun u => absurd (show v < L by omega) u, fun u => absurd u y⟩, p4⟩
    · rw [if_neg z, if_pos rfl]
      obtain ⟨lo', gr', a1, a2, a3⟩ := ih lo (-1) b1 b2 (by omega) (by omega)
      refine ⟨lo', gr', a1, a2, fun L l0 l9 => ?_⟩
      rw [← a3 L l0 l9, cut L]
      constructor
      · rintro ⟨p1, p2, p3, p4⟩
        exact absurd p3.1 z
      · rintro ⟨p1, p2, p4⟩
        omega
theorem m_soL (gs : GS G) (ig : IG G h hi wi) {n : Nat} (hn : n ≤ 6) (n2 : h.1 73 24 = (n : Int)) {L : Int} : ∀ (t i f : Nat), i + t = n → t < f → l_X7_isSo_2 G 73 L h f (i : Int) = some (b01 (∀ j, i ≤ j → j < n → soR (h.1 2) hi wi (h.1 86 j) (h.1 87 j) L))
  | 0, i, f + 1, h1, h2 => by
    rw [l_X7_isSo_2, n2, if_pos (by omega), b01_t (fun j a b => by omega)]
  | t + 1, i, f + 1, h1, h2 => by
    obtain ⟨_, ⟨r1, r2, r3, r4⟩, _⟩ := gs.2.2.2.2.2.2.2.1
    have h49 : hi * wi ≤ 49 := Nat.mul_le_mul ig.1.2.2.2.2.2.2.2.1.2 ig.1.2.2.2.2.2.2.2.2.2
    have ih := m_soL gs ig hn n2 (L := L) t (i + 1) f (by omega) (by omega)
    rw [show ((i + 1 : Nat) : Int) = (i : Int) + 1 by omega] at ih
    have cut : soR (h.1 2) hi wi (h.1 86 i) (h.1 87 i) L → b01 (∀ j, i + 1 ≤ j → j < n → soR (h.1 2) hi wi (h.1 86 j) (h.1 87 j) L) = b01 (∀ j, i ≤ j → j < n → soR (h.1 2) hi wi (h.1 86 j) (h.1 87 j) L) := by
      intro s
      congr 1
      refine propext ⟨fun w j a b => ?_, fun w j a b => w j (by omega) b⟩
      by_cases ej : j = i
      · subst ej; exact s
      · exact w j (by omega) b
    rw [l_X7_isSo_2, n2, if_neg (by omega), r1, rdN (by omega), bs, m_isPoint ig.2.1, bs]
    by_cases z : 0 ≤ h.1 86 i ∧ h.1 86 i < ((hi * wi : Nat) : Int)
    · obtain ⟨q, hq⟩ := Int.eq_ofNat_of_zero_le z.1
      have hq2 : q < hi * wi := by omega
      have so : soR (h.1 2) hi wi (h.1 86 i) (h.1 87 i) L ↔ (¬ h.1 2 (plc wi q) < L ↔ h.1 87 i = 1) := by
        unfold soR
        rw [hq, Int.toNat_natCast]
        rw [hq] at z
        exact ⟨fun w => w.2, fun w => ⟨z, w⟩⟩
      have nso : ¬ soR (h.1 2) hi wi (h.1 86 i) (h.1 87 i) L → b01 (∀ j, i ≤ j → j < n → soR (h.1 2) hi wi (h.1 86 j) (h.1 87 j) L) = 0 := fun w => b01_f (fun u => w (u i (Nat.le_refl _) (by omega)))
      rw [if_pos z, if_neg (by omega), hq, ig.2.1.1, rdN (by rw [ig.2.1.2.1]; omega), bs, (ig.2.2.1.1 q hq2).1, jn_eq, r3, rdN (by omega)]
      rw [hq] at so nso cut
      by_cases u : h.1 2 (plc wi q) < L
      · rw [if_pos u]
        dsimp only
        rw [bs, jn_eq]
        by_cases y : h.1 87 i = 1
        · rw [if_pos y]
          dsimp only
          rw [if_neg (by omega), nso (fun s => (so.mp s).mpr y u)]
        · rw [if_neg y]
          dsimp only
          rw [if_pos rfl, wr_id (by omega) (by omega), ih, cut (so.mpr ⟨fun v => absurd u v, fun v => absurd v y⟩)]
      · rw [if_neg u]
        dsimp only
        rw [bs, jn_eq]
        by_cases y : h.1 87 i = 1
        · rw [if_pos y]
          dsimp only
          rw [if_pos rfl, wr_id (by omega) (by omega), ih, cut (so.mpr ⟨fun _ => y, fun _ => u⟩)]
        · rw [if_neg y]
          dsimp only
          rw [if_neg (by omega), nso (fun s => y ((so.mp s).mp u))]
    · rw [if_neg z, if_pos rfl, b01_f (fun u => z (u i (Nat.le_refl _) (by omega)).1)]
theorem m_fitsL (gs : GS G) (ig : IG G h hi wi) {n : Nat} (hn : n ≤ 6) (n2 : h.1 73 24 = (n : Int)) {lo gr : Int} (hb : 0 ≤ lo ∧ lo ≤ 100 ∧ -1 ≤ gr ∧ gr ≤ 99) (hP : ∀ L : Int, 0 ≤ L → L ≤ 99 → ((∀ j, 0 ≤ j → j < n → soR (h.1 2) hi wi (h.1 86 j) (h.1 87 j) L) ↔ (lo ≤ L ∧ L ≤ gr))) (K : Int × Int → Option Int) : ∀ (t f : Nat) (a b : Int), t ≤ 100 → t < f → 0 ≤ a → a + t < 1000 → l_X7_fits_13 G 73 h K f (a, b, (t : Int) - 1) = K (a + (if lo ≤ min gr ((t : Int) - 1) then min gr ((t : Int) - 1) - lo + 1 else 0), if lo ≤ min gr ((t : Int) - 1) then lo else b)
  | 0, f + 1, a, b, h1, h2, h3, h4 => by
    rw [l_X7_fits_13, if_pos (by dsimp only; omega), if_neg (by omega), if_neg (by omega), Int.add_zero]
  | t + 1, f + 1, a, b, h1, h2, h3, h4 => by
    have so : f_X7_isSo G h 73 (t : Int) = some (b01 (∀ j, 0 ≤ j → j < n → soR (h.1 2) hi wi (h.1 86 j) (h.1 87 j) (t : Int))) := by
      unfold f_X7_isSo
      exact m_soL gs ig hn n2 n 0 200 (by omega) (by omega)
    have ih := fun a' b' x y => m_fitsL gs ig hn n2 hb hP K t f a' b' (by omega) (by omega) x y
    rw [l_X7_fits_13, if_neg (by dsimp only; omega), show ((t + 1 : Nat) : Int) - 1 = (t : Int) by omega]
    dsimp only
    rw [so, bs, jn_eq, wr_id (a := (t : Int) + -1) (by omega) (by omega), show (t : Int) + -1 = (t : Int) - 1 by omega]
    by_cases z : lo ≤ (t : Int) ∧ (t : Int) ≤ gr
    · rw [b01_t ((hP _ (by omega) (by omega)).mpr z), if_neg (by omega)]
      dsimp only
      rw [wr_id (by omega) (by omega), ih _ _ (by omega) (by omega)]
      congr 1
      by_cases y : lo ≤ min gr ((t : Int) - 1)
      · rw [if_pos y, if_pos y, if_pos (by omega), if_pos (by omega)]
        congr 1
        omega
      · rw [if_neg y, if_neg y, if_pos (by omega), if_pos (by omega)]
        congr 1
        · omega
        · omega
    · rw [b01_f (fun u => z ((hP _ (by omega) (by omega)).mp u)), if_pos rfl]
      dsimp only
      rw [ih _ _ (by omega) (by omega)]
      congr 1
      by_cases y : lo ≤ min gr ((t : Int) - 1)
      · rw [if_pos y, if_pos y, if_pos (by omega), if_pos (by omega)]
        congr 1
        omega
      · rw [if_neg y, if_neg y, if_neg (by omega), if_neg (by omega)]
theorem s_fits (gs : GS G) (inv : INV G h hi wi B) (a : Int) : SAV (f_X6_fits G h 0 a) (f_X7_fits G h 73 a) := by
  have ig := inv.1
  obtain ⟨n, n0, n1, n2, n3⟩ := inv.2.2.2.1.1
  unfold f_X6_fits f_X7_fits
  by_cases z : 0 ≤ a ∧ a ≤ 1
  · obtain ⟨lo, gr, a1, a2, a3⟩ := c_fitsL gs ig n0 n1 n3 (fun b21 => if a = 0 then (some (ct_max 0 (ct_wr ((ct_wr (b21.2 - b21.1)) + 1)))) else if b21.2 < b21.1 then (some (-5)) else some (b21.1)) n 0 200 0 99 (by omega) (by omega) (by omega) (by omega) (by omega) (by omega)
    have hP : ∀ L : Int, 0 ≤ L → L ≤ 99 → ((∀ j, 0 ≤ j → j < n → soR (h.1 2) hi wi (h.1 86 j) (h.1 87 j) L) ↔ (lo ≤ L ∧ L ≤ gr)) := fun L l0 l9 => by
      rw [← a3 L l0 l9]
      exact ⟨fun w => ⟨l0, l9, w⟩, fun w => w.2.2⟩
    have b1 := m_fitsL gs ig n0 n2 a2 hP (fun b13 => if a = 0 then (some (b13.1)) else some (b13.2)) 100 200 0 (-5) (by omega) (by omega) (by omega) (by omega)
    rw [show ((100 : Nat) : Int) - 1 = 99 from rfl] at b1
    refine ⟨if a = 0 then (if lo ≤ gr then gr - lo + 1 else 0) else (if lo ≤ gr then lo else -5), ?_, ?_⟩
    · rw [if_neg (by omega), if_pos z.2]
      refine a1.trans ?_
      dsimp only
      rw [ct_max_eq, wr_id (a := gr - lo) (by omega) (by omega), wr_id (by omega) (by omega)]
      by_cases y : a = 0
      · rw [if_pos y, if_pos y]
        congr 1
        split <;> omega
      · rw [if_neg y, if_neg y]
        by_cases w : lo ≤ gr
        · rw [if_neg (by omega), if_pos w]
        · rw [if_pos (by omega), if_neg w]
    · rw [m_in, if_pos z, bs, if_neg (by omega)]
      refine b1.trans ?_
      dsimp only
      rw [show min gr 99 = gr by omega, Int.zero_add]
      by_cases y : a = 0
      · rw [if_pos y, if_pos y]
      · rw [if_neg y, if_neg y]
  · refine ⟨-1, ?_, ?_⟩
    · by_cases y : a < 0
      · rw [if_pos y]
      · rw [if_neg y, if_neg (by omega)]
    · rw [m_in, if_neg z, bs, if_pos rfl]
end
