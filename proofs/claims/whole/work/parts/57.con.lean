/-! lands: what hangs together -/
def adj (F : Nat → Int) (hi wi : Nat) (kd L : Int) (a b : Nat) : Prop := ∃ q, (q / (wi + 2) ≤ hi ∧ q % (wi + 2) ≤ wi) ∧ ((¬ F q < L ∧ ¬ F (q + 1) < L ∧ a = q ∧ b = q + 1) ∨ (¬ F q < L ∧ ¬ F (q + (wi + 2)) < L ∧ a = q ∧ b = q + (wi + 2)) ∨ (js F (wi + 2) kd q L = 1 ∧ ((¬ F q < L ∧ a = q ∧ b = q + (wi + 2) + 1) ∨ (F q < L ∧ a = q + 1 ∧ b = q + (wi + 2)))))
def con (F : Nat → Int) (hi wi : Nat) (kd L : Int) (a b : Nat) : Prop := ∀ P : Nat → Prop, (∀ x y, adj F hi wi kd L x y → (P x ↔ P y)) → (P a ↔ P b)
theorem js_in {F : Nat → Int} {s q : Nat} {kd L : Int} (h : js F s kd q L = 1) : (¬ F q < L → ¬ F (q + s + 1) < L ∧ F (q + 1) < L ∧ F (q + s) < L ∧ cs F s q L = 5) ∧ (F q < L → ¬ F (q + 1) < L ∧ ¬ F (q + s) < L ∧ F (q + s + 1) < L ∧ cs F s q L = 10) ∧ jd F s kd q L = 1 := by
  unfold js at h
  by_cases z : cs F s q L = 5 ∨ cs F s q L = 10
  · rw [if_pos z] at h
    refine ⟨?_, ?_, h⟩
    · intro w
      unfold cs at z ⊢
      by_cases x2 : F (q + 1) < L <;> by_cases x3 : F (q + s + 1) < L <;> by_cases x4 : F (q + s) < L <;> simp [w, x2, x3, x4] at z ⊢
    · intro w
      unfold cs at z ⊢
      by_cases x2 : F (q + 1) < L <;> by_cases x3 : F (q + s + 1) < L <;> by_cases x4 : F (q + s) < L <;> simp [w, x2, x3, x4] at z ⊢
  · rw [if_neg z] at h; omega
theorem js_of {F : Nat → Int} {s q : Nat} {kd L : Int} (z : cs F s q L = 5 ∨ cs F s q L = 10) : js F s kd q L = jd F s kd q L := by unfold js; rw [if_pos z]
section
variable {F : Nat → Int} {hi wi : Nat} {kd L M : Int} {a b c : Nat}
theorem con_refl : con F hi wi kd L a a := fun _ _ => Iff.rfl
theorem con_symm (h : con F hi wi kd L a b) : con F hi wi kd L b a := fun P hP => (h P hP).symm
theorem con_trans (h : con F hi wi kd L a b) (h2 : con F hi wi kd L b c) : con F hi wi kd L a c := fun P hP => (h P hP).trans (h2 P hP)
theorem con_adj (h : adj F hi wi kd L a b) : con F hi wi kd L a b := fun _ hP => hP a b h
theorem adj_in (h1 : 2 ≤ hi ∧ hi ≤ 7) (h2 : 2 ≤ wi ∧ wi ≤ 7) (h : adj F hi wi kd L a b) : (¬ F a < L ∧ ¬ F b < L) ∧ a < (hi + 2) * (wi + 2) ∧ b < (hi + 2) * (wi + 2) := by
  obtain ⟨q, ⟨q1, q2⟩, h⟩ := h
  have sl := sq_lt h1 h2 q1 q2
  rcases h with ⟨x, y, rfl, rfl⟩ | ⟨x, y, rfl, rfl⟩ | ⟨j, ⟨x, rfl, rfl⟩ | ⟨x, rfl, rfl⟩⟩
  · exact ⟨⟨x, y⟩, by omega, by omega⟩
  · exact ⟨⟨x, y⟩, by omega, by omega⟩
  · have := (js_in j).1 x
    exact ⟨⟨x, this.1⟩, by omega, by omega⟩
  · have := (js_in j).2.1 x
    exact ⟨⟨this.1, this.2.1⟩, by omega, by omega⟩
theorem con_in (h1 : 2 ≤ hi ∧ hi ≤ 7) (h2 : 2 ≤ wi ∧ wi ≤ 7) (h : con F hi wi kd L a b) : (F a < L ↔ F b < L) ∧ (a < (hi + 2) * (wi + 2) ↔ b < (hi + 2) * (wi + 2)) :=
  ⟨h (fun x => F x < L) (fun x y w => by have := adj_in h1 h2 w; exact ⟨fun v => absurd v this.1.1, fun v => absurd v this.1.2⟩), h (fun x => x < (hi + 2) * (wi + 2)) (fun x y w => by have := adj_in h1 h2 w; exact ⟨fun _ => this.2.2, fun _ => this.2.1⟩)⟩
theorem jd_mono {s q : Nat} (hLM : M ≤ L) (hs1 : cs F s q L = cs F s q M) (hF : F q < L ↔ F q < M) (hk : cs F s q L = 5 ∨ cs F s q L = 10) (hj : jd F s kd q L = 1) : jd F s kd q M = 1 := by
  unfold jd at hj ⊢
  by_cases k1 : kd = 1
  · rw [if_pos k1] at hj; omega
  · rw [if_neg k1] at hj ⊢
    by_cases k2 : kd = 2
    · rw [if_pos k2] at hj ⊢
      split at hj
      · omega
      · rw [if_neg (by omega)]
    · rw [if_neg k2] at hj ⊢
      by_cases k3 : kd = 3
      · rw [if_pos k3] at hj ⊢; exact hj
      · rw [if_neg k3] at hj ⊢
        by_cases k4 : kd = 4
        · rw [if_pos k4] at hj ⊢
          have ex : ∀ x y T : Int, (x - T) * (y - T) = x * y - T * (x + y) + T * T := by
            intro x y T
            rw [Int.sub_mul, Int.mul_sub, Int.mul_sub, Int.mul_add, Int.mul_comm x T]
            omega
          have pr : ∀ d : Int, 0 ≤ d → M * d ≤ L * d := fun d hd => Int.mul_le_mul_of_nonneg_right hLM hd
          by_cases w : F q < L
          · have w2 := hF.mp w
            have c10 : cs F s q L = 10 := hk.resolve_left (fun v => cs5 v w)
            have vals : ¬ F (q + 1) < L ∧ ¬ F (q + s) < L ∧ F (q + s + 1) < L := by
              unfold cs at c10
              by_cases x2 : F (q + 1) < L <;> by_cases x3 : F (q + s + 1) < L <;> by_cases x4 : F (q + s) < L <;> simp [w, x2, x3, x4] at c10 ⊢
            rw [if_pos w] at hj
            rw [if_pos w2]
            rw [ex, ex] at hj
            rw [ex, ex]
            split at hj
            · omega
            · rename_i hj2
              have p := pr ((F (q + 1) + F (q + s)) - (F q + F (q + s + 1))) (by omega)
              rw [Int.mul_sub, Int.mul_sub] at p
              rw [if_neg (by omega)]
          · have w2 : ¬ F q < M := fun v => w (hF.mpr v)
            have c5 : cs F s q L = 5 := hk.resolve_right (fun v => w (cs10 v))
            have vals : F (q + 1) < L ∧ F (q + s) < L ∧ ¬ F (q + s + 1) < L := by
              unfold cs at c5
              by_cases x2 : F (q + 1) < L <;> by_cases x3 : F (q + s + 1) < L <;> by_cases x4 : F (q + s) < L <;> simp [w, x2, x3, x4] at c5 ⊢
            rw [if_neg w] at hj
            rw [if_neg w2]
            rw [ex, ex] at hj
            rw [ex, ex]
            split at hj
            · omega
            · rename_i hj2
              have p := pr ((F q + F (q + s + 1)) - (F (q + 1) + F (q + s))) (by omega)
              rw [Int.mul_sub, Int.mul_sub] at p
              rw [if_neg (by omega)]
        · rw [if_neg k4]
theorem RM.inn (r : RM F hi wi) {q : Nat} (hq : q < 81) (h : 0 ≤ F q) : (1 ≤ q / (wi + 2) ∧ q / (wi + 2) ≤ hi) ∧ 1 ≤ q % (wi + 2) ∧ q % (wi + 2) ≤ wi := Classical.byContradiction fun z => by have := r.2 q hq z; omega
theorem adj_mono (h1 : 2 ≤ hi ∧ hi ≤ 7) (h2 : 2 ≤ wi ∧ wi ≤ 7) (r : RM F hi wi) (hM : 0 ≤ M) (hLM : M ≤ L) (h : adj F hi wi kd L a b) : con F hi wi kd M a b := by
  obtain ⟨q, qq, h⟩ := h
  have hN := N81 h1 h2
  have sl := sq_lt h1 h2 qq.1 qq.2
  have d1 := dm_1 h2 qq.2
  have ds := dm_s (p := q) h2
  have hz : ∀ x y, adj F hi wi kd M x y → con F hi wi kd M x y := fun x y w => con_adj w
  have inn := fun p (hp : p < 81) (w : ¬ F p < M) => r.inn hp (by omega : 0 ≤ F p)
  -- the four pairs of neighbours of the square
  have p01 : ¬ F q < M → ¬ F (q + 1) < M → con F hi wi kd M q (q + 1) := fun u v => hz _ _ ⟨q, qq, Or.inl ⟨u, v, rfl, rfl⟩⟩
  have p03 : ¬ F q < M → ¬ F (q + (wi + 2)) < M → con F hi wi kd M q (q + (wi + 2)) := fun u v => hz _ _ ⟨q, qq, Or.inr (Or.inl ⟨u, v, rfl, rfl⟩)⟩
  have p12 : ¬ F (q + 1) < M → ¬ F (q + (wi + 2) + 1) < M → con F hi wi kd M (q + 1) (q + (wi + 2) + 1) := fun u v => by
    have i1 := inn (q + 1) (by omega) u
    have := hz (q + 1) (q + 1 + (wi + 2)) ⟨q + 1, ⟨i1.1.2, i1.2.2⟩, Or.inr (Or.inl ⟨u, by rw [show q + 1 + (wi + 2) = q + (wi + 2) + 1 by omega]; exact v, rfl, rfl⟩)⟩
    rwa [show q + 1 + (wi + 2) = q + (wi + 2) + 1 by omega] at this
  have p32 : ¬ F (q + (wi + 2)) < M → ¬ F (q + (wi + 2) + 1) < M → con F hi wi kd M (q + (wi + 2)) (q + (wi + 2) + 1) := fun u v => by
    have i1 := inn (q + (wi + 2)) (by omega) u
    exact hz _ _ ⟨q + (wi + 2), ⟨i1.1.2, i1.2.2⟩, Or.inl ⟨u, v, rfl, rfl⟩⟩
  rcases h with ⟨x, y, rfl, rfl⟩ | ⟨x, y, rfl, rfl⟩ | ⟨j, ⟨x, rfl, rfl⟩ | ⟨x, rfl, rfl⟩⟩
  · exact p01 (by omega) (by omega)
  · exact p03 (by omega) (by omega)
  · obtain ⟨j1, j2, j3⟩ := js_in j
    have v := j1 x
    by_cases y1 : F (a + 1) < M
    · by_cases y2 : F (a + (wi + 2)) < M
      · have c5 : cs F (wi + 2) a M = 5 := by
          unfold cs
          rw [if_neg (by omega), if_pos y1, if_neg (by omega), if_pos y2]
          rfl
        have jm : js F (wi + 2) kd a M = 1 := by
          rw [js_of (Or.inl c5)]
          exact jd_mono hLM (by rw [c5]; exact v.2.2.2) (by omega) (Or.inl v.2.2.2) j3
        exact hz _ _ ⟨a, qq, Or.inr (Or.inr ⟨jm, Or.inl ⟨by omega, rfl, rfl⟩⟩)⟩
      · exact con_trans (p03 (by omega) y2) (p32 y2 (by omega))
    · exact con_trans (p01 (by omega) y1) (p12 y1 (by omega))
  · obtain ⟨j1, j2, j3⟩ := js_in j
    have v := j2 x
    by_cases y1 : F q < M
    · by_cases y2 : F (q + (wi + 2) + 1) < M
      · have c10 : cs F (wi + 2) q M = 10 := by
          unfold cs
          rw [if_pos y1, if_neg (by omega), if_pos y2, if_neg (by omega)]
          rfl
        have jm : js F (wi + 2) kd q M = 1 := by
          rw [js_of (Or.inr c10)]
          exact jd_mono hLM (by rw [c10]; exact v.2.2.2) (by omega) (Or.inr v.2.2.2) j3
        exact hz _ _ ⟨q, qq, Or.inr (Or.inr ⟨jm, Or.inr ⟨y1, rfl, rfl⟩⟩)⟩
      · exact con_trans (p12 (by omega) y2) (con_symm (p32 (by omega) y2))
    · exact con_trans (con_symm (p01 y1 (by omega))) (p03 y1 (by omega))
theorem con_mono (h1 : 2 ≤ hi ∧ hi ≤ 7) (h2 : 2 ≤ wi ∧ wi ≤ 7) (r : RM F hi wi) (hM : 0 ≤ M) (hLM : M ≤ L) (h : con F hi wi kd L a b) : con F hi wi kd M a b := fun P hP => h P (fun _ _ w => adj_mono h1 h2 r hM hLM w P hP)
end
/-! union and find, pure -/
def rtn (R : Nat → Int) : Nat → Nat → Nat
  | 0, p => p
  | n + 1, p => if R p = (p : Int) then p else rtn R n (R p).toNat
def UF (R : Nat → Int) : Prop := ∀ x, x < 81 → 0 ≤ R x ∧ R x ≤ x
def rt (R : Nat → Int) (p : Nat) : Nat := rtn R 81 p
theorem rtn_fix {R : Nat → Int} {p : Nat} (h : R p = (p : Int)) : ∀ n, rtn R n p = p
  | 0 => rfl
  | n + 1 => by rw [rtn, if_pos h]
theorem rtn_en {R : Nat → Int} (u : UF R) : ∀ (n m p : Nat), p < 81 → p ≤ n → p ≤ m → rtn R n p = rtn R m p
  | 0, m, p, h, h1, h2 => by
    have : p = 0 := by omega
    subst this
    have := u 0 (by omega)
    rw [rtn_fix (by omega), rtn_fix (by omega)]
  | n + 1, 0, p, h, h1, h2 => by
    have : p = 0 := by omega
    subst this
    have := u 0 (by omega)
    rw [rtn_fix (by omega), rtn_fix (by omega)]
  | n + 1, m + 1, p, h, h1, h2 => by
    have up := u p h
    rw [rtn, rtn]
    by_cases z : R p = (p : Int)
    · rw [if_pos z, if_pos z]
    · rw [if_neg z, if_neg z]
      exact rtn_en u n m _ (by omega) (by omega) (by omega)
theorem rt_eq {R : Nat → Int} (u : UF R) {p : Nat} (h : p < 81) : rt R p = if R p = (p : Int) then p else rt R (R p).toNat := by
  have up := u p h
  unfold rt
  rw [show (81 : Nat) = 80 + 1 from rfl, rtn]
  by_cases z : R p = (p : Int)
  · rw [if_pos z, if_pos z]
  · rw [if_neg z, if_neg z]
    exact rtn_en u 80 81 _ (by omega) (by omega) (by omega)
theorem rt_ok {R : Nat → Int} (u : UF R) : ∀ (n p : Nat), p < n → p < 81 → rt R p ≤ p ∧ R (rt R p) = (rt R p : Nat)
  | 0, p, h, _ => absurd h (Nat.not_lt_zero _)
  | n + 1, p, h, h81 => by
    have up := u p h81
    rw [rt_eq u h81]
    by_cases z : R p = (p : Int)
    · rw [if_pos z]; exact ⟨Nat.le_refl _, z⟩
    · rw [if_neg z]
      have ih := rt_ok u n (R p).toNat (by omega) (by omega)
      exact ⟨by omega, ih.2⟩
theorem rt_le {R : Nat → Int} (u : UF R) {p : Nat} (h : p < 81) : rt R p ≤ p ∧ R (rt R p) = (rt R p : Nat) := rt_ok u 81 p h h
theorem rt_fix {R : Nat → Int} {p : Nat} (h : R p = (p : Int)) : rt R p = p := rtn_fix h _
def uni (R : Nat → Int) (a b : Nat) : Nat → Int := up R (max (rt R a) (rt R b)) ((min (rt R a) (rt R b) : Nat) : Int)
theorem uni_UF {R : Nat → Int} (u : UF R) {a b : Nat} : UF (uni R a b) := by
  intro x hx
  unfold uni
  by_cases z : x = max (rt R a) (rt R b)
  · rw [z, up_same]; omega
  · rw [up_other _ _ z]; exact u x hx
theorem uni_rt {R : Nat → Int} (u : UF R) {a b : Nat} (ha : a < 81) (hb : b < 81) : ∀ (n x : Nat), x < n → x < 81 → rt (uni R a b) x = if rt R x = max (rt R a) (rt R b) then min (rt R a) (rt R b) else rt R x
  | 0, x, h, _ => absurd h (Nat.not_lt_zero _)
  | n + 1, x, h, h81 => by
    have u2 := uni_UF u (a := a) (b := b)
    have ra := rt_le u ha
    have rb := rt_le u hb
    have ux := u x h81
    have hm : R (max (rt R a) (rt R b)) = (max (rt R a) (rt R b) : Nat) := by
      rcases Nat.le_total (rt R a) (rt R b) with w | w
      · rw [Nat.max_eq_right w]; exact rb.2
      · rw [Nat.max_eq_left w]; exact ra.2
    have hn : R (min (rt R a) (rt R b)) = (min (rt R a) (rt R b) : Nat) := by
      rcases Nat.le_total (rt R a) (rt R b) with w | w
      · rw [Nat.min_eq_left w]; exact ra.2
      · rw [Nat.min_eq_right w]; exact rb.2
    have vm : uni R a b (max (rt R a) (rt R b)) = ((min (rt R a) (rt R b) : Nat) : Int) := by unfold uni; rw [up_same]
    have vo : ∀ y, y ≠ max (rt R a) (rt R b) → uni R a b y = R y := fun y hy => by unfold uni; rw [up_other _ _ hy]
    have hle : min (rt R a) (rt R b) ≤ max (rt R a) (rt R b) := by omega
    have ih := fun (q1 : (R x).toNat < n) (q2 : (R x).toNat < 81) => uni_rt u ha hb n (R x).toNat q1 q2
    have hlt : max (rt R a) (rt R b) < 81 := by omega
    generalize max (rt R a) (rt R b) = H at *
    generalize min (rt R a) (rt R b) = l at *
    have fl : uni R a b l = (l : Int) := by
      by_cases y : l = H
      · rw [y, vm, y]
      · rw [vo l y]; exact hn
    by_cases z : x = H
    · subst z
      rw [rt_fix hm, if_pos rfl, rt_eq u2 h81, vm]
      by_cases y : (l : Int) = (x : Int)
      · rw [if_pos y]; omega
      · rw [if_neg y, Int.toNat_natCast]; exact rt_fix fl
    · by_cases y : R x = (x : Int)
      · rw [rt_fix y, if_neg z, rt_fix (by rw [vo x z]; exact y)]
      · rw [rt_eq u2 h81, vo x z, if_neg y, rt_eq u h81, if_neg y]
        exact ih (by omega) (by omega)
theorem uni_cl {R : Nat → Int} (u : UF R) {a b : Nat} (ha : a < 81) (hb : b < 81) : (∀ x y, x < 81 → y < 81 → rt R x = rt R y → rt (uni R a b) x = rt (uni R a b) y) ∧ rt (uni R a b) a = rt (uni R a b) b := by
  refine ⟨fun x y hx hy e => ?_, ?_⟩
  · rw [uni_rt u ha hb 81 x hx hx, uni_rt u ha hb 81 y hy hy, e]
  · rw [uni_rt u ha hb 81 a ha ha, uni_rt u ha hb 81 b hb hb]
    rcases Nat.le_total (rt R a) (rt R b) with w | w
    · rw [Nat.max_eq_right w, Nat.min_eq_left w, if_pos rfl]
      split <;> rfl
    · rw [Nat.max_eq_left w, Nat.min_eq_right w, if_pos rfl]
      split
      · rfl
      · rfl
theorem uni_con {R : Nat → Int} (u : UF R) {a b B : Nat} (hB : B ≤ 81) (ha : a < B) (hb : b < B) {E : Nat → Nat → Prop} (er : ∀ x, E x x) (es : ∀ x y, E x y → E y x) (et : ∀ x y z, E x y → E y z → E x z) (hab : E a b) (h : ∀ x, x < B → E (rt R x) x) : ∀ x, x < B → E (rt (uni R a b) x) x := by
  intro x hx
  rw [uni_rt u (by omega) (by omega) 81 x (by omega) (by omega)]
  have hx' := h x hx
  have e1 : E (rt R a) (rt R b) := et _ _ _ (h a ha) (et _ _ _ hab (es _ _ (h b hb)))
  split
  · rename_i z
    rcases Nat.le_total (rt R a) (rt R b) with w | w
    · rw [Nat.max_eq_right w] at z
      rw [Nat.min_eq_left w]
      rw [z] at hx'
      exact et _ _ _ e1 hx'
    · rw [Nat.max_eq_left w] at z
      rw [Nat.min_eq_right w]
      rw [z] at hx'
      exact et _ _ _ (es _ _ e1) hx'
  · exact hx'
