/-! the scan over all edges, and the class's side of it -/
abbrev LSt : Type := (Nat → Int) × (Nat → Int) × (Nat → Int) × Nat × Nat
def stp (nxt : Nat → Nat) (xr : Nat → Int) (i : Nat) (t : LSt) : LSt := if xr i = 1 ∧ t.1 i = -5 then ((fol nxt t.2.2.2.1 200 i t.1 t.2.1 t.2.2.2.2).1, (fol nxt t.2.2.2.1 200 i t.1 t.2.1 t.2.2.2.2).2.1, up t.2.2.1 (t.2.2.2.1 + 1) (fol nxt t.2.2.2.1 200 i t.1 t.2.1 t.2.2.2.2).2.2, t.2.2.2.1 + 1, (fol nxt t.2.2.2.1 200 i t.1 t.2.1 t.2.2.2.2).2.2) else t
def scn (nxt : Nat → Nat) (xr : Nat → Int) : Nat → Nat → LSt → LSt
  | 0, _, t => t
  | m + 1, i, t => scn nxt xr m (i + 1) (stp nxt xr i t)
def LIt (nxt : Nat → Nat) (C : Nat → Prop) (t : LSt) : Prop := LI nxt C t.1 t.2.1 t.2.2.1 t.2.2.2.1 t.2.2.2.2
theorem scn_add (nxt : Nat → Nat) (xr : Nat → Int) : ∀ (m k i : Nat) (t : LSt), scn nxt xr (m + k) i t = scn nxt xr k (i + m) (scn nxt xr m i t)
  | 0, k, i, t => by rw [Nat.zero_add]; rfl
  | m + 1, k, i, t => by
    rw [show m + 1 + k = (m + k) + 1 by omega, scn, scn_add nxt xr m k (i + 1), scn, show i + 1 + m = i + (m + 1) by omega]
theorem scn_idle (nxt : Nat → Nat) (xr : Nat → Int) : ∀ (m i : Nat) (t : LSt), (∀ j, i ≤ j → j < i + m → xr j ≠ 1) → scn nxt xr m i t = t
  | 0, i, t, _ => rfl
  | m + 1, i, t, h => by
    rw [scn, stp, if_neg (fun z => h i (by omega) (by omega) z.1)]
    exact scn_idle nxt xr m (i + 1) t (fun j a b => h j (by omega) (by omega))
theorem sm_const (v : Int) : ∀ (m i : Nat), sm (fun _ => v) i m = m * v
  | 0, i => by simp [sm]
  | m + 1, i => by
    rw [sm, sm_const v m (i + 1), Int.natCast_add, Int.add_mul]
    omega
theorem sm_mono {f g : Nat → Int} : ∀ {m i : Nat}, (∀ j, i ≤ j → j < i + m → f j ≤ g j) → sm f i m ≤ sm g i m
  | 0, _, _ => Int.le_refl 0
  | m + 1, i, h => by
    rw [sm, sm]
    have := h i (by omega) (by omega)
    have := sm_mono (f := f) (g := g) (m := m) (i := i + 1) (fun j h1 h2 => h j (by omega) (by omega))
    omega
section
variable {nxt : Nat → Nat} {C : Nat → Prop} {xr : Nat → Int}
theorem stp_LI (hC : ∀ e, C e → e < 162 ∧ C (nxt e)) (hI : ∀ a b, C a → C b → nxt a = nxt b → a = b) (hN : ∀ e, C e → nxt e ≠ e ∧ nxt (nxt e) ≠ e) {t : LSt} (h : LIt nxt C t) {i : Nat} (hx : xr i = 1 → C i) : LIt nxt C (stp nxt xr i t) ∧ (xr i = 1 → (stp nxt xr i t).1 i ≠ -5) ∧ ∀ j, t.1 j ≠ -5 → (stp nxt xr i t).1 j ≠ -5 := by
  unfold stp
  by_cases z : xr i = 1 ∧ t.1 i = -5
  · rw [if_pos z]
    have s := LI_step hC hI hN h (hx z.1) z.2
    refine ⟨s.1, fun _ => s.2, fun j hj => ?_⟩
    rw [(fol_keep (nxt := nxt) (l := t.2.2.2.1) (by omega) 200 i t.1 t.2.1 t.2.2.2.2).1 j hj]
    exact hj
  · rw [if_neg z]
    exact ⟨h, fun y w => z ⟨y, w⟩, fun j hj => hj⟩
theorem scn_LI (hC : ∀ e, C e → e < 162 ∧ C (nxt e)) (hI : ∀ a b, C a → C b → nxt a = nxt b → a = b) (hN : ∀ e, C e → nxt e ≠ e ∧ nxt (nxt e) ≠ e) (hx : ∀ i, xr i = 1 → C i) : ∀ (m i : Nat) (t : LSt), LIt nxt C t → LIt nxt C (scn nxt xr m i t) ∧ ∀ j, (t.1 j ≠ -5 ∨ (i ≤ j ∧ j < i + m ∧ xr j = 1)) → (scn nxt xr m i t).1 j ≠ -5
  | 0, i, t, h => ⟨h, fun j hj => hj.elim id (fun w => by omega)⟩
  | m + 1, i, t, h => by
    have s := stp_LI hC hI hN h (hx i)
    have ih := scn_LI hC hI hN hx m (i + 1) _ s.1
    refine ⟨ih.1, fun j hj => ih.2 j ?_⟩
    rcases hj with hj | ⟨a, b, c⟩
    · exact Or.inl (s.2.2 j hj)
    · by_cases e : j = i
      · subst e; exact Or.inl (s.2.1 c)
      · exact Or.inr ⟨by omega, by omega, c⟩
theorem LI_0 {lf od bg : Nat → Int} (h : ∀ j, j < 162 → lf j = -5) (hb : bg 0 = 0) : LIt nxt C (lf, od, bg, 0, 0) := by
  refine ⟨hb, hb, ?_, fun l hl => absurd hl (Nat.not_lt_zero _), fun j hj => Or.inl (h j hj), fun m m1 m2 => absurd (h m m1) m2⟩
  unfold unm
  rw [sm_congr (g := fun _ => 1) (fun j _ j2 => by rw [if_pos (h j (by omega))]), sm_const]
  rfl
/-- two states that tell the same -/
def AG (t u : LSt) : Prop := (∀ j, j < 162 → t.1 j = u.1 j) ∧ (∀ i, i < t.2.2.2.2 → t.2.1 i = u.2.1 i) ∧ (∀ j, j ≤ t.2.2.2.1 → t.2.2.1 j = u.2.2.1 j) ∧ t.2.2.2.1 = u.2.2.2.1 ∧ t.2.2.2.2 = u.2.2.2.2
theorem fol_ag (hC : ∀ e, C e → e < 162 ∧ C (nxt e)) {l : Int} : ∀ (n e : Nat) (lf od lf' od' : Nat → Int) (nd : Nat), C e → (∀ j, j < 162 → lf j = lf' j) → (∀ i, i < nd → od i = od' i) → (∀ j, j < 162 → (fol nxt l n e lf od nd).1 j = (fol nxt l n e lf' od' nd).1 j) ∧ (∀ i, i < (fol nxt l n e lf od nd).2.2 → (fol nxt l n e lf od nd).2.1 i = (fol nxt l n e lf' od' nd).2.1 i) ∧ (fol nxt l n e lf od nd).2.2 = (fol nxt l n e lf' od' nd).2.2
  | 0, e, lf, od, lf', od', nd, he, h1, h2 => ⟨h1, h2, rfl⟩
  | n + 1, e, lf, od, lf', od', nd, he, h1, h2 => by
    rw [fol, fol, ← h1 e (hC e he).1]
    by_cases z : lf e = -5
    · rw [if_pos z, if_pos z]
      refine fol_ag hC n _ _ _ _ _ _ (hC e he).2 (fun j hj => ?_) (fun i hi => ?_)
      · by_cases y : j = e
        · subst y; rw [up_same, up_same]
        · rw [up_other _ _ y, up_other _ _ y]; exact h1 j hj
      · by_cases y : i = nd
        · subst y; rw [up_same, up_same]
        · rw [up_other _ _ y, up_other _ _ y]; exact h2 i (by omega)
    · rw [if_neg z, if_neg z]
      exact ⟨h1, h2, rfl⟩
theorem stp_ag (hC : ∀ e, C e → e < 162 ∧ C (nxt e)) (hx : ∀ i, xr i = 1 → C i) {i : Nat} {t u : LSt} (h : AG t u) : AG (stp nxt xr i t) (stp nxt xr i u) := by
  obtain ⟨a1, a2, a3, a4, a5⟩ := h
  unfold stp
  by_cases z : xr i = 1 ∧ t.1 i = -5
  · have ci := hC i (hx i z.1)
    have z2 : xr i = 1 ∧ u.1 i = -5 := ⟨z.1, by rw [← a1 i ci.1]; exact z.2⟩
    rw [if_pos z, if_pos z2, ← a4, ← a5]
    have f := fol_ag hC (l := t.2.2.2.1) 200 i t.1 t.2.1 u.1 u.2.1 t.2.2.2.2 (hx i z.1) a1 a2
    refine ⟨f.1, f.2.1, fun j hj => ?_, rfl, f.2.2⟩
    dsimp only at hj ⊢
    by_cases y : j = t.2.2.2.1 + 1
    · subst y; rw [up_same, up_same, f.2.2]
    · rw [up_other _ _ y, up_other _ _ y]; exact a3 j (by omega)
  · have z2 : ¬ (xr i = 1 ∧ u.1 i = -5) := fun w => z ⟨w.1, by rw [a1 i (hC i (hx i w.1)).1]; exact w.2⟩
    rw [if_neg z, if_neg z2]
    exact ⟨a1, a2, a3, a4, a5⟩
theorem scn_ag (hC : ∀ e, C e → e < 162 ∧ C (nxt e)) (hx : ∀ i, xr i = 1 → C i) : ∀ (m i : Nat) (t u : LSt), AG t u → AG (scn nxt xr m i t) (scn nxt xr m i u)
  | 0, i, t, u, h => h
  | m + 1, i, t, u, h => scn_ag hC hx m (i + 1) _ _ (stp_ag hC hx h)
end
/-! how many edges can be crossed -/
def inB (hi wi e : Nat) : Bool := if e % 2 = 0 then decide ((1 ≤ e / 2 / (wi + 2) ∧ e / 2 / (wi + 2) ≤ hi) ∧ e / 2 % (wi + 2) ≤ wi) else decide (e / 2 / (wi + 2) ≤ hi ∧ 1 ≤ e / 2 % (wi + 2) ∧ e / 2 % (wi + 2) ≤ wi)
theorem inB_of {hi wi e : Nat} (h : inner hi wi e) : inB hi wi e = true := by
  unfold inB
  by_cases z : e % 2 = 0
  · rw [if_pos z]; exact decide_eq_true (h.1 z)
  · rw [if_neg z]; exact decide_eq_true (h.2 z)
theorem in112 : ∀ hi, hi < 8 → ∀ wi, wi < 8 → 50 ≤ sm (fun e => if inB hi wi e = true then 0 else 1) 0 162 := by decide +kernel
theorem LI_37 {nxt : Nat → Nat} {F : Nat → Int} {hi wi : Nat} {L : Int} (h1 : 2 ≤ hi ∧ hi ≤ 7) (h2 : 2 ≤ wi ∧ wi ≤ 7) {t : LSt} (h : LIt nxt (CE F hi wi L) t) : t.2.2.2.1 ≤ 37 ∧ t.2.2.2.2 ≤ 112 := by
  have a : 50 ≤ unm t.1 := Int.le_trans (in112 hi (by omega) wi (by omega)) (sm_mono (fun j _ j2 => by
    rcases h.2.2.2.2.1 j (by omega) with y | y
    · rw [if_pos y]; split <;> omega
    · rw [if_pos (inB_of y.1.1)]; split <;> omega))
  have b := h.2.2.1
  obtain ⟨b0, b1, b2, b3⟩ := LI_3 h t.2.2.2.1 (Nat.le_refl _)
  omega
