/-! the calls book, event -/
section
variable {G : ct_G} {h : ct_H} {hi wi : Nat} {B : Int}
theorem clr_event (inv : INV G h hi wi B) : INV G (hs (hs h 39 (up (h.1 39) 2 0)) 73 (up (h.1 73) 27 0)) hi wi B := by
  obtain ⟨r1, r2, r3⟩ := inv.2.2.2.1
  have ev := inv.2.2.2.2.1
  have fr : ∀ x, x ≠ 39 → x ≠ 73 → (hs (hs h 39 (up (h.1 39) 2 0)) 73 (up (h.1 73) 27 0)).1 x = h.1 x := fun x x1 x2 => by rw [hs_orow _ _ x2, hs_orow _ _ x1]
  have f73 : ∀ j, j ≠ 27 → (hs (hs h 39 (up (h.1 39) 2 0)) 73 (up (h.1 73) 27 0)).1 73 j = h.1 73 j := fun j hj => by rw [hs_same, up_other _ _ hj]
  refine inv.rows (fun x x1 x2 x3 => fr x (by omega) (by omega)) (fun j _ j1 _ => f73 j j1) rfl (r1.fr (fr 36 (by omega) (by omega)) (fr 37 (by omega) (by omega)) (fr 38 (by omega) (by omega)) (f73 24 (by omega)) (fr 86 (by omega) (by omega)) (fr 87 (by omega) (by omega))) ⟨0, by omega, ?_, ?_, fun i hi => absurd hi (by omega)⟩ (r3.fr (fr 42 (by omega) (by omega)) (fr 43 (by omega) (by omega)) (fr 44 (by omega) (by omega)) (f73 31 (by omega)) (fr 91 (by omega) (by omega)) (fr 92 (by omega) (by omega))) ?_
  · rw [hs_orow _ _ (by omega), hs_same, up_same]; rfl
  · rw [hs_same, up_same]; rfl
  · intro i hi
    rw [hs_orow _ _ (by omega), hs_same, up_same] at hi
    omega
theorem add_event (gs : GS G) (inv : INV G h hi wi B) {n : Nat} (n2 : h.1 39 2 = (n : Int)) (hn : n < 8) (v w : Int) (hev : evOk v w) : ∃ h1 h2 : ct_H, f_X3_append G h 39 v w = some (((n + 1 : Nat) : Int), h1) ∧ ((ct_wt G h1 88 (h1.1 73 27) v).bind fun h3 => (ct_wt G h3 89 (h3.1 73 27) w).bind fun h4 => ct_lt (ct_wF h4 73 27 (ct_wr ((h4.1 73 27) + 1))) fun h5 => some ((h5.1 73 27), h5)) = some (((n + 1 : Nat) : Int), h2) ∧ INV G h2 hi wi B ∧ MD G h1 73 74 hi wi ∧ h1.1 73 = h.1 73 := by
  have rw1 := gs.2.2.2.2.1.2.1
  have rf := gs.2.2.2.2.2.2.2.1.2.2.1
  obtain ⟨r1, r2, r3⟩ := inv.2.2.2.1
  have ev := inv.2.2.2.2.1
  obtain ⟨n', n1, n2', n3, n4⟩ := r2
  have en : n' = n := by omega
  subst en
  have ig := inv.1
  obtain ⟨h1, a1, a2, a3, a4, a5, a6, a7⟩ := app3 (G := G) (h := h) (o := 39) (f := 2) (X := 40) (Y := 41) (n := n') (by omega) (by omega) (by omega) n2 (by rw [rw1.2.1]; exact hn) (by rw [rw1.2.2.2]; exact hn) (by omega) v w
  obtain ⟨h2, b1, b2, b3, b4, b5, b6, b7⟩ := app3 (G := G) (h := h1) (o := 73) (f := 27) (X := 88) (Y := 89) (n := n') (by omega) (by omega) (by omega) (by rw [a7 73 (by omega) (by omega) (by omega)]; exact n3) (by rw [rf.2.1]; exact hn) (by rw [rf.2.2.2]; exact hn) (by omega) v w
  have e73 : h1.1 73 = h.1 73 := a7 73 (by omega) (by omega) (by omega)
  have ig1 : MD G h1 73 74 hi wi := (ig.fr (a7 1 (by omega) (by omega) (by omega)) (a7 2 (by omega) (by omega) (by omega)) (a7 74 (by omega) (by omega) (by omega)) (fun j _ => by rw [e73])).2.1
  have fr : ∀ q, q ≠ 39 → q ≠ 40 → q ≠ 41 → q ≠ 73 → q ≠ 88 → q ≠ 89 → h2.1 q = h.1 q := fun q q1 q2 q3 q4 q5 q6 => by rw [b7 q q4 q5 q6, a7 q q1 q2 q3]
  have f73 : ∀ j, j ≠ 27 → h2.1 73 j = h.1 73 j := fun j hj => by rw [b5 j hj, e73]
  refine ⟨h1, h2, ?_, b1, ?_, ig1, e73⟩
  · unfold f_X3_append
    rw [rw1.1, rw1.2.2.1, a1]
  · refine inv.rows (fun q q1 q2 q3 => fr q (by omega) (by omega) (by omega) (by omega) (by omega) (by omega)) (fun j _ j1 _ => f73 j j1) (b6.trans a6) (r1.fr (fr 36 (by omega) (by omega) (by omega) (by omega) (by omega) (by omega)) (fr 37 (by omega) (by omega) (by omega) (by omega) (by omega) (by omega)) (fr 38 (by omega) (by omega) (by omega) (by omega) (by omega) (by omega)) (f73 24 (by omega)) (fr 86 (by omega) (by omega) (by omega) (by omega) (by omega) (by omega)) (fr 87 (by omega) (by omega) (by omega) (by omega) (by omega) (by omega))) (IRow.app (h := h) (h1 := h1) (v := v) (w := w) n4 hn ?_ b4 ?_ ?_ ?_ ?_) (r3.fr (fr 42 (by omega) (by omega) (by omega) (by omega) (by omega) (by omega)) (fr 43 (by omega) (by omega) (by omega) (by omega) (by omega) (by omega)) (fr 44 (by omega) (by omega) (by omega) (by omega) (by omega) (by omega)) (f73 31 (by omega)) (fr 91 (by omega) (by omega) (by omega) (by omega) (by omega) (by omega)) (fr 92 (by omega) (by omega) (by omega) (by omega) (by omega) (by omega))) ?_
    · rw [b7 39 (by omega) (by omega) (by omega)]; exact a4
    · rw [b7 40 (by omega) (by omega) (by omega)]; exact a2
    · rw [b7 41 (by omega) (by omega) (by omega)]; exact a3
    · rw [b2, a7 88 (by omega) (by omega) (by omega)]
    · rw [b3, a7 89 (by omega) (by omega) (by omega)]
    · intro i hi
      rw [b7 39 (by omega) (by omega) (by omega), a4] at hi
      rw [b7 40 (by omega) (by omega) (by omega), b7 41 (by omega) (by omega) (by omega), a2, a3]
      by_cases e : i = n'
      · subst e; rw [up_same, up_same]; exact hev
      · rw [up_other _ _ e, up_other _ _ e]; exact ev i (by omega)
theorem clr_book (inv : INV G h hi wi B) : INV G (hs (hs h 42 (up (h.1 42) 2 0)) 73 (up (h.1 73) 31 0)) hi wi B := by
  obtain ⟨r1, r2, r3⟩ := inv.2.2.2.1
  have ev := inv.2.2.2.2.1
  have fr : ∀ x, x ≠ 42 → x ≠ 73 → (hs (hs h 42 (up (h.1 42) 2 0)) 73 (up (h.1 73) 31 0)).1 x = h.1 x := fun x x1 x2 => by rw [hs_orow _ _ x2, hs_orow _ _ x1]
  have f73 : ∀ j, j ≠ 31 → (hs (hs h 42 (up (h.1 42) 2 0)) 73 (up (h.1 73) 31 0)).1 73 j = h.1 73 j := fun j hj => by rw [hs_same, up_other _ _ hj]
  refine inv.rows (fun x x1 x2 x3 => fr x (by omega) (by omega)) (fun j _ _ j1 => f73 j j1) rfl (r1.fr (fr 36 (by omega) (by omega)) (fr 37 (by omega) (by omega)) (fr 38 (by omega) (by omega)) (f73 24 (by omega)) (fr 86 (by omega) (by omega)) (fr 87 (by omega) (by omega))) (r2.fr (fr 39 (by omega) (by omega)) (fr 40 (by omega) (by omega)) (fr 41 (by omega) (by omega)) (f73 27 (by omega)) (fr 88 (by omega) (by omega)) (fr 89 (by omega) (by omega))) ⟨0, by omega, ?_, ?_, fun i hi => absurd hi (by omega)⟩ (ev.fr (fr 39 (by omega) (by omega)) (fr 40 (by omega) (by omega)) (fr 41 (by omega) (by omega)))
  · rw [hs_orow _ _ (by omega), hs_same, up_same]; rfl
  · rw [hs_same, up_same]; rfl
theorem add_book (gs : GS G) (inv : INV G h hi wi B) {n : Nat} (n2 : h.1 42 2 = (n : Int)) (hn : n < 8) (v w : Int) : ∃ h1 h2 : ct_H, f_X3_append G h 42 v w = some (((n + 1 : Nat) : Int), h1) ∧ ((ct_wt G h1 91 (h1.1 73 31) v).bind fun h3 => (ct_wt G h3 92 (h3.1 73 31) w).bind fun h4 => ct_lt (ct_wF h4 73 31 (ct_wr ((h4.1 73 31) + 1))) fun h5 => some ((h5.1 73 31), h5)) = some (((n + 1 : Nat) : Int), h2) ∧ INV G h2 hi wi B ∧ MD G h1 73 74 hi wi ∧ h1.1 73 = h.1 73 := by
  have rw1 := gs.2.2.2.2.1.2.2.1
  have rf := gs.2.2.2.2.2.2.2.1.2.2.2.2.1
  obtain ⟨r1, r2, r3⟩ := inv.2.2.2.1
  have ev := inv.2.2.2.2.1
  obtain ⟨n', n1, n2', n3, n4⟩ := r3
  have en : n' = n := by omega
  subst en
  have ig := inv.1
  obtain ⟨h1, a1, a2, a3, a4, a5, a6, a7⟩ := app3 (G := G) (h := h) (o := 42) (f := 2) (X := 43) (Y := 44) (n := n') (by omega) (by omega) (by omega) n2 (by rw [rw1.2.1]; exact hn) (by rw [rw1.2.2.2]; exact hn) (by omega) v w
  obtain ⟨h2, b1, b2, b3, b4, b5, b6, b7⟩ := app3 (G := G) (h := h1) (o := 73) (f := 31) (X := 91) (Y := 92) (n := n') (by omega) (by omega) (by omega) (by rw [a7 73 (by omega) (by omega) (by omega)]; exact n3) (by rw [rf.2.1]; exact hn) (by rw [rf.2.2.2]; exact hn) (by omega) v w
  have e73 : h1.1 73 = h.1 73 := a7 73 (by omega) (by omega) (by omega)
  have ig1 : MD G h1 73 74 hi wi := (ig.fr (a7 1 (by omega) (by omega) (by omega)) (a7 2 (by omega) (by omega) (by omega)) (a7 74 (by omega) (by omega) (by omega)) (fun j _ => by rw [e73])).2.1
  have fr : ∀ q, q ≠ 42 → q ≠ 43 → q ≠ 44 → q ≠ 73 → q ≠ 91 → q ≠ 92 → h2.1 q = h.1 q := fun q q1 q2 q3 q4 q5 q6 => by rw [b7 q q4 q5 q6, a7 q q1 q2 q3]
  have f73 : ∀ j, j ≠ 31 → h2.1 73 j = h.1 73 j := fun j hj => by rw [b5 j hj, e73]
  refine ⟨h1, h2, ?_, b1, ?_, ig1, e73⟩
  · unfold f_X3_append
    rw [rw1.1, rw1.2.2.1, a1]
  · refine inv.rows (fun q q1 q2 q3 => fr q (by omega) (by omega) (by omega) (by omega) (by omega) (by omega)) (fun j _ _ j1 => f73 j j1) (b6.trans a6) (r1.fr (fr 36 (by omega) (by omega) (by omega) (by omega) (by omega) (by omega)) (fr 37 (by omega) (by omega) (by omega) (by omega) (by omega) (by omega)) (fr 38 (by omega) (by omega) (by omega) (by omega) (by omega) (by omega)) (f73 24 (by omega)) (fr 86 (by omega) (by omega) (by omega) (by omega) (by omega) (by omega)) (fr 87 (by omega) (by omega) (by omega) (by omega) (by omega) (by omega))) (r2.fr (fr 39 (by omega) (by omega) (by omega) (by omega) (by omega) (by omega)) (fr 40 (by omega) (by omega) (by omega) (by omega) (by omega) (by omega)) (fr 41 (by omega) (by omega) (by omega) (by omega) (by omega) (by omega)) (f73 27 (by omega)) (fr 88 (by omega) (by omega) (by omega) (by omega) (by omega) (by omega)) (fr 89 (by omega) (by omega) (by omega) (by omega) (by omega) (by omega))) (IRow.app (h := h) (h1 := h1) (v := v) (w := w) n4 hn ?_ b4 ?_ ?_ ?_ ?_) (ev.fr (fr 39 (by omega) (by omega) (by omega) (by omega) (by omega) (by omega)) (fr 40 (by omega) (by omega) (by omega) (by omega) (by omega) (by omega)) (fr 41 (by omega) (by omega) (by omega) (by omega) (by omega) (by omega)))
    · rw [b7 42 (by omega) (by omega) (by omega)]; exact a4
    · rw [b7 43 (by omega) (by omega) (by omega)]; exact a2
    · rw [b7 44 (by omega) (by omega) (by omega)]; exact a3
    · rw [b2, a7 91 (by omega) (by omega) (by omega)]
    · rw [b3, a7 92 (by omega) (by omega) (by omega)]
theorem s_book (gs : GS G) (inv : INV G h hi wi B) (a b : Int) : SAM G hi wi (B + 7000) (f_X6_book G h 0 a b) (fun h1 => f_X7_book G h1 73 a b) := by
  have top := gs.1
  have rw1 := gs.2.2.2.2.1.2.2.1
  have rf := gs.2.2.2.2.2.2.2.1.2.2.2.2.1
  have ig := inv.1
  have r3 := inv.2.2.2.1.2.2
  obtain ⟨n, n1, n2, n3, n4⟩ := r3
  by_cases z : a = -1
  · refine SAM.row (r := 0) (h1 := hs h 42 (up (h.1 42) 2 0)) ?_ ?_ (clr_book inv)
    · unfold f_X6_book
      rw [if_pos z, top.2.2.2.2.2.2.2.2.2.1, x3_clear, bs]
    · unfold f_X7_book
      rw [if_pos z, lt_eq, ct_wF_hs, hs_orow _ _ (by omega)]
  · by_cases y : 0 ≤ a ∧ a < ((hi * wi : Nat) : Int)
    · by_cases x : 0 ≤ b ∧ b ≤ 99
      · by_cases w : n < 8
        · obtain ⟨h1, h2, a1, a2, a3, a4, a5⟩ := add_book gs inv n2 w a b
          refine SAM.row (r := ((n + 1 : Nat) : Int)) (h1 := h1) (h2 := h2) ?_ ?_ a3
          · unfold f_X6_book
            rw [if_neg z, top.1, g_isPoint ig.1, if_pos y, bs, if_neg (by omega), x6_isHeight, if_pos x, bs, if_neg (by omega), top.2.2.2.2.2.2.2.2.2.1, x3_isFull rw1 n2, if_pos w, bs, if_pos rfl, a1, bs]
          · unfold f_X7_book
            rw [if_neg z, m_isPoint a4, if_pos y, bs, if_neg (by omega), m_in, if_pos x, bs, if_neg (by omega), if_neg (by rw [a5, n3]; omega), rf.1, rf.2.2.1]
            exact a2
        · refine SAM.same inv (r := -4) ?_ ?_
          · unfold f_X6_book
            rw [if_neg z, top.1, g_isPoint ig.1, if_pos y, bs, if_neg (by omega), x6_isHeight, if_pos x, bs, if_neg (by omega), top.2.2.2.2.2.2.2.2.2.1, x3_isFull rw1 n2, if_neg w, bs, if_neg (by omega)]
          · unfold f_X7_book
            rw [if_neg z, m_isPoint ig.2.1, if_pos y, bs, if_neg (by omega), m_in, if_pos x, bs, if_neg (by omega), n3, if_pos (by omega)]
      · refine SAM.same inv (r := -2) ?_ ?_
        · unfold f_X6_book
          rw [if_neg z, top.1, g_isPoint ig.1, if_pos y, bs, if_neg (by omega), x6_isHeight, if_neg x, bs, if_pos rfl]
        · unfold f_X7_book
          rw [if_neg z, m_isPoint ig.2.1, if_pos y, bs, if_neg (by omega), m_in, if_neg x, bs, if_pos rfl]
    · refine SAM.same inv (r := -1) ?_ ?_
      · unfold f_X6_book
        rw [if_neg z, top.1, g_isPoint ig.1, if_neg y, bs, if_pos rfl]
      · unfold f_X7_book
        rw [if_neg z, m_isPoint ig.2.1, if_neg y, bs, if_pos rfl]
theorem m_isNumber (a b : Int) : f_X7_isNumber G h a b = some (if (a = 2 → 0 ≤ b ∧ b ≤ 99) ∧ (a = 3 → 0 ≤ b ∧ b ≤ 4) ∧ (a = 4 → b = 0) then 1 else 0) := by
  unfold f_X7_isNumber
  by_cases a2 : a = 2
  · rw [if_pos a2, m_in, bs, bz01, bs]
    by_cases x : 0 ≤ b ∧ b ≤ 99
    · rw [if_pos x, if_pos ⟨fun _ => x, fun _ => by omega, fun _ => by omega⟩]
    · rw [if_neg x, if_neg (fun u => x (u.1 a2))]
  · rw [if_neg a2]
    by_cases a3 : a = 3
    · rw [if_pos a3, m_in, bs, bz01, bs]
      by_cases x : 0 ≤ b ∧ b ≤ 4
      · rw [if_pos x, if_pos ⟨fun _ => by omega, fun _ => x, fun _ => by omega⟩]
      · rw [if_neg x, if_neg (fun u => x (u.2.1 a3))]
    · rw [if_neg a3]
      by_cases a4 : a = 4
      · rw [if_pos a4]
        by_cases x : b = 0
        · rw [if_pos x, if_pos ⟨fun _ => by omega, fun _ => by omega, fun _ => x⟩]
        · rw [if_neg x, if_neg (fun u => x (u.2.2 a4))]
      · rw [if_neg a4, if_pos ⟨fun _ => by omega, fun _ => by omega, fun _ => by omega⟩]
/-- the class's tests of an event, one behind the other -/
theorem c_eventT (gs : GS G) (g : GR G h 1 2 hi wi) (a b : Int) (hz : a ≠ -1) : f_X6_event G h 0 a b = (if (0 ≤ a ∧ a ≤ 4) ∧ (2 ≤ a ∨ (0 ≤ b ∧ b < ((hi * wi : Nat) : Int))) then (if (a = 2 → 0 ≤ b ∧ b ≤ 99) ∧ (a = 3 → 0 ≤ b ∧ b ≤ 4) ∧ (a = 4 → b = 0) then ((f_X3_isFull G h 39).bind fun v16 => if v16 = 0 then ((f_X3_append G h 39 a b).bind fun r17 => some (r17.1, r17.2)) else some ((-4), h)) else some ((-2), h)) else some ((-1), h)) := by
  have top := gs.1
  unfold f_X6_event
  rw [if_neg hz, jn_eq]
  have tail : ∀ b1 : Int, (b1 = if a = 0 ∨ a = 1 then 1 else 0) → (if a < 0 then (some ((-1), h)) else if 4 < a then (some ((-1), h)) else ct_jn (β := Unit) (fun k5 => if b1 = 0 then (k5 ()) else (f_X0_isPoint G h (G.1 0 0) b).bind fun v27 => if v27 = 0 then (some ((-1), h)) else k5 ()) (fun b4 => ct_jn (β := Unit) (fun k8 => if a = 2 then ((f_X6_isHeight G h b).bind fun v24 => if v24 = 0 then (some ((-2), h)) else k8 ()) else k8 ()) (fun b7 => ct_jn (β := Unit) (fun k11 => if a = 3 then ((f_X6_isKind G h b).bind fun v21 => if v21 = 0 then (some ((-2), h)) else k11 ()) else k11 ()) (fun b10 => ct_jn (β := Unit) (fun k14 => if a = 4 then (if b = 0 then (k14 ()) else some ((-2), h)) else k14 ()) (fun b13 => (f_X3_isFull G h (G.1 0 8)).bind fun v16 => if v16 = 0 then ((f_X3_append G h (G.1 0 8) a b).bind fun r17 => some (r17.1, r17.2)) else some ((-4), h)))))) = (if (0 ≤ a ∧ a ≤ 4) ∧ (2 ≤ a ∨ (0 ≤ b ∧ b < ((hi * wi : Nat) : Int))) then (if (a = 2 → 0 ≤ b ∧ b ≤ 99) ∧ (a = 3 → 0 ≤ b ∧ b ≤ 4) ∧ (a = 4 → b = 0) then ((f_X3_isFull G h 39).bind fun v16 => if v16 = 0 then ((f_X3_append G h 39 a b).bind fun r17 => some (r17.1, r17.2)) else some ((-4), h)) else some ((-2), h)) else some ((-1), h)) := by
    intro b1 hb1
    rw [top.2.2.2.2.2.2.2.2.1]
    generalize ((f_X3_isFull G h 39).bind fun v16 => if v16 = 0 then ((f_X3_append G h 39 a b).bind fun r17 => some (r17.1, r17.2)) else some ((-4), h)) = E
    by_cases a0 : a < 0
    · rw [if_pos a0, if_neg (fun u => by omega)]
    · rw [if_neg a0]
      by_cases a4 : 4 < a
      · rw [if_pos a4, if_neg (fun u => by omega)]
      · rw [if_neg a4, jn_eq]
        have body : (ct_jn (β := Unit) (fun k8 => if a = 2 then ((f_X6_isHeight G h b).bind fun v24 => if v24 = 0 then (some ((-2), h)) else k8 ()) else k8 ()) (fun b7 => ct_jn (β := Unit) (fun k11 => if a = 3 then ((f_X6_isKind G h b).bind fun v21 => if v21 = 0 then (some ((-2), h)) else k11 ()) else k11 ()) (fun b10 => ct_jn (β := Unit) (fun k14 => if a = 4 then (if b = 0 then (k14 ()) else some ((-2), h)) else k14 ()) (fun b13 => E)))) = (if (a = 2 → 0 ≤ b ∧ b ≤ 99) ∧ (a = 3 → 0 ≤ b ∧ b ≤ 4) ∧ (a = 4 → b = 0) then E else some ((-2), h)) := by
          rw [jn_eq]
          by_cases a2 : a = 2
          · rw [if_pos a2, x6_isHeight, bs]
            by_cases x : 0 ≤ b ∧ b ≤ 99
            · rw [if_pos x, if_neg (by omega), jn_eq, if_neg (by omega), jn_eq, if_neg (by omega), if_pos ⟨fun _ => x, fun _ => by omega, fun _ => by omega⟩]
            · rw [if_neg x, if_pos rfl, if_neg (fun u => x (u.1 a2))]
          · rw [if_neg a2, jn_eq]
            by_cases a3 : a = 3
            · rw [if_pos a3, x6_isKind, bs]
              by_cases x : 0 ≤ b ∧ b ≤ 4
              · rw [if_pos x, if_neg (by omega), jn_eq, if_neg (by omega), if_pos ⟨fun _ => by omega, fun _ => x, fun _ => by omega⟩]
              · rw [if_neg x, if_pos rfl, if_neg (fun u => x (u.2.1 a3))]
            · rw [if_neg a3, jn_eq]
              by_cases a4' : a = 4
              · rw [if_pos a4']
                by_cases x : b = 0
                · rw [if_pos x, if_pos ⟨fun _ => by omega, fun _ => by omega, fun _ => x⟩]
                · rw [if_neg x, if_neg (fun u => x (u.2.2 a4'))]
              · rw [if_neg a4', if_pos ⟨fun _ => by omega, fun _ => by omega, fun _ => by omega⟩]
        by_cases a1 : a = 0 ∨ a = 1
        · rw [if_pos a1] at hb1
          rw [if_neg (by omega), top.1, g_isPoint g, bs]
          by_cases y : 0 ≤ b ∧ b < ((hi * wi : Nat) : Int)
          · rw [if_pos y, if_neg (by omega), if_pos ⟨by omega, Or.inr y⟩]
            exact body
          · rw [if_neg y, if_pos rfl, if_neg (fun u => by rcases u.2 with u | u; omega; exact y u)]
        · rw [if_neg a1] at hb1
          rw [if_pos hb1, if_pos ⟨by omega, Or.inl (by omega)⟩]
          exact body
  by_cases a1 : a = 0
  · rw [jn_eq, if_pos a1]
    exact tail 1 (by rw [if_pos (Or.inl a1)])
  · rw [jn_eq, if_neg a1]
    by_cases a2 : a = 1
    · rw [if_pos a2]
      exact tail 1 (by rw [if_pos (Or.inr a2)])
    · rw [if_neg a2]
      exact tail 0 (by rw [if_neg (by omega)])
theorem s_event (gs : GS G) (inv : INV G h hi wi B) (a b : Int) : SAM G hi wi (B + 7000) (f_X6_event G h 0 a b) (fun h1 => f_X7_event G h1 73 a b) := by
  have top := gs.1
  have rw1 := gs.2.2.2.2.1.2.1
  have rf := gs.2.2.2.2.2.2.2.1.2.2.1
  have ig := inv.1
  have r2 := inv.2.2.2.1.2.1
  obtain ⟨n, n1, n2, n3, n4⟩ := r2
  by_cases z : a = -1
  · refine SAM.row (r := 0) (h1 := hs h 39 (up (h.1 39) 2 0)) ?_ ?_ (clr_event inv)
    · unfold f_X6_event
      rw [if_pos z, top.2.2.2.2.2.2.2.2.1, x3_clear, bs]
    · unfold f_X7_event
      rw [if_pos z, lt_eq, ct_wF_hs, hs_orow _ _ (by omega)]
  · have ct := c_eventT gs ig.1 a b z
    by_cases y : (0 ≤ a ∧ a ≤ 4) ∧ (2 ≤ a ∨ (0 ≤ b ∧ b < ((hi * wi : Nat) : Int)))
    · rw [if_pos y] at ct
      have mh : ∀ (h1 : ct_H), MD G h1 73 74 hi wi → f_X7_event G h1 73 a b = (f_X7_isNumber G h1 a b).bind fun v5 => if v5 = 0 then (some ((-2), h1)) else if (h1.1 73 27) = 8 then (some ((-4), h1)) else (ct_wt G h1 (G.1 73 25) (h1.1 73 27) a).bind fun h6 => (ct_wt G h6 (G.1 73 26) (h6.1 73 27) b).bind fun h7 => ct_lt (ct_wF h7 73 27 (ct_wr ((h7.1 73 27) + 1))) fun h8 => some ((h8.1 73 27), h8) := by
        intro h1 md
        unfold f_X7_event
        rw [if_neg z, m_in, if_pos y.1, bs, if_neg (by omega), jn_eq]
        by_cases a2 : 2 ≤ a
        · rw [if_pos a2]
        · rw [if_neg a2, m_isPoint md, if_pos (by omega), bs, if_neg (by omega)]
      by_cases x : (a = 2 → 0 ≤ b ∧ b ≤ 99) ∧ (a = 3 → 0 ≤ b ∧ b ≤ 4) ∧ (a = 4 → b = 0)
      · rw [if_pos x] at ct
        by_cases w : n < 8
        · obtain ⟨h1, h2, a1, a2, a3, a4, a5⟩ := add_event gs inv n2 w a b ⟨y.1, x.1, x.2.1⟩
          refine SAM.row (r := ((n + 1 : Nat) : Int)) (h1 := h1) (h2 := h2) ?_ ?_ a3
          · rw [ct, x3_isFull rw1 n2, if_pos w, bs, if_pos rfl, a1, bs]
          · rw [mh h1 a4, m_isNumber, if_pos x, bs, if_neg (by omega), if_neg (by rw [a5, n3]; omega), rf.1, rf.2.2.1]
            exact a2
        · refine SAM.same inv (r := -4) ?_ ?_
          · rw [ct, x3_isFull rw1 n2, if_neg w, bs, if_neg (by omega)]
          · rw [mh h ig.2.1, m_isNumber, if_pos x, bs, if_neg (by omega), n3, if_pos (by omega)]
      · rw [if_neg x] at ct
        refine SAM.same inv (r := -2) ct ?_
        rw [mh h ig.2.1, m_isNumber, if_neg x, bs, if_pos rfl]
    · rw [if_neg y] at ct
      refine SAM.same inv (r := -1) ct ?_
      unfold f_X7_event
      rw [if_neg z, m_in]
      by_cases y1 : 0 ≤ a ∧ a ≤ 4
      · rw [if_pos y1, bs, if_neg (by omega), jn_eq, if_neg (by omega), m_isPoint ig.2.1, if_neg (by omega), bs, if_pos rfl]
      · rw [if_neg y1, bs, if_pos rfl]
end
