/-! the cells of the start keep what holds between calls -/
theorem GS0 : GS G0 := by
  refine ⟨?_, ⟨?_, ?_, ?_⟩, ⟨?_, ?_⟩, ⟨?_, ?_, ?_⟩, ⟨?_, ?_, ?_, ?_, ?_, ?_⟩, ?_, ?_, ⟨?_, ?_, ?_, ?_, ?_⟩, ?_, ?_⟩
  · unfold TOP; decide +kernel
  · unfold GRD; decide +kernel
  · unfold GRD; decide +kernel
  · unfold GRD; decide +kernel
  · unfold LO; decide +kernel
  · unfold LO; decide +kernel
  · unfold DO; decide +kernel
  · unfold DO; decide +kernel
  · unfold DO; decide +kernel
  · unfold RWS; decide +kernel
  · unfold RWS; decide +kernel
  · unfold RWS; decide +kernel
  · unfold RWS; decide +kernel
  · unfold RWS; decide +kernel
  · unfold RWS; decide +kernel
  · unfold TXT; decide +kernel
  · unfold TAP; decide +kernel
  · decide +kernel
  · decide +kernel
  · decide +kernel
  · decide +kernel
  · decide +kernel
  · unfold MO; decide +kernel
  · unfold MP; decide +kernel
theorem UF0 {R : Nat → Int} (h : R = z0) : UF R := by
  subst h
  exact fun x _ => ⟨Int.le_refl 0, Int.natCast_nonneg x⟩
theorem IRow0 {o a b f x y k : Nat} (h1 : hz.1 o 2 = 0) (h2 : hz.1 73 f = 0) : IRow hz o a b f x y k := ⟨0, Nat.zero_le _, h1, h2, fun i hi => absurd hi (Nat.not_lt_zero i)⟩
theorem DV0 {o c cR cA cM cS cT : Nat} (h1 : hz.1 cR = z0) (h2 : hz.1 o 9 = -1) : DV hz o 1 c cR cA cM cS cT 6 6 := by
  refine ⟨UF0 h1, ?_, fun e => ?_⟩
  · rw [h2]; decide +kernel
  · rw [h2] at e
    exact absurd e (by decide +kernel)
theorem INV0 : INV G0 hz 6 6 1000 := by
  refine ⟨⟨?_, ?_, ?_, ?_, ?_, ?_⟩, ⟨?_, ?_, ?_⟩, ?_, ⟨?_, ?_, ?_⟩, ?_, ?_, ?_, ?_, ?_⟩
  · unfold GR; decide +kernel
  · unfold MD; decide +kernel
  · exact RH_flat (f := fun _ => 0) (nh := 6) (nw := 6) (by omega)
  · decide +kernel
  · decide +kernel
  · decide +kernel
  · refine ⟨by decide +kernel, by decide +kernel, by decide +kernel, fun e => absurd e (by decide +kernel), fun e => absurd e (by decide +kernel)⟩
  · exact DV0 rfl (by decide +kernel)
  · exact DV0 rfl (by decide +kernel)
  · exact ⟨by decide +kernel, by decide +kernel, by decide +kernel, by decide +kernel, UF0 rfl, by decide +kernel, by decide +kernel⟩
  · exact IRow0 (by decide +kernel) (by decide +kernel)
  · exact IRow0 (by decide +kernel) (by decide +kernel)
  · exact IRow0 (by decide +kernel) (by decide +kernel)
  · intro i hi
    rw [show hz.1 39 2 = 0 by decide +kernel] at hi
    omega
  · exact Or.inl (by decide +kernel)
  · exact ⟨0, by omega, by decide +kernel, by decide +kernel, fun i hi => absurd hi (Nat.not_lt_zero i)⟩
  · unfold ITp; decide +kernel
  · decide +kernel
theorem in_z0 : ∀ j, ct_in (z0 j) := fun _ => ct_in0
theorem in_ng : ∀ j, ct_in (ng0 j) := fun j => by unfold ng0 ct_in; split <;> omega
theorem in_rw {l : List Int} (h : l.all (fun x => decide (-2147483648 ≤ x) && decide (x < 2147483648)) = true) : ∀ j, ct_in (rw0 l j) := by
  intro j
  unfold rw0
  rw [List.getD_eq_getElem?_getD]
  cases hj : l[j]? with
  | none => exact ct_in0
  | some x =>
    have h1 := List.all_eq_true.mp h x (List.mem_of_getElem? hj)
    simp only [Bool.and_eq_true, decide_eq_true_eq] at h1
    exact h1
theorem in_puts {w : Nat} : ∀ (n i : Nat) (F : Nat → Int), (∀ j, ct_in (F j)) → ∀ j, ct_in (puts w (fun _ _ => 0) i n F j)
  | 0, _, _, hF, j => hF j
  | n + 1, i, F, hF, j => in_puts n (i + 1) _ (fun k => by unfold up; split; exact ct_in0; exact hF k) j
theorem in_gd : ∀ j, ct_in (gd_F j) := in_puts 36 0 _ (fun j => by dsimp only; split; unfold ct_in; omega; exact ct_in0)
set_option maxRecDepth 100000 in
theorem in_h0l : ∀ f ∈ h0l, ∀ j, ct_in (f j) := by
  unfold h0l
  repeat (refine List.forall_mem_cons.mpr ⟨?_, ?_⟩; (first | exact in_z0 | exact in_gd | exact in_ng | exact in_rw (by decide +kernel)))
  intro f hf
  cases hf
theorem hin0 : ct_hin hz := by
  intro i j
  show ct_in ((h0l.getD i z0) j)
  rw [List.getD_eq_getElem?_getD]
  cases hj : h0l[i]? with
  | none => exact ct_in0
  | some f => exact in_h0l f (List.mem_of_getElem? hj) j
theorem G0_lo : ∀ i, i < 73 → ∀ j, G0.1 i j < 73 := by
  have h : ∀ i, i < 73 → ∀ x ∈ G0r.getD i [], x < 73 := by decide +kernel
  intro i hi j
  show (G0r.getD i []).getD j (if i < 73 then 0 else 73) < 73
  rw [if_pos hi, List.getD_eq_getElem?_getD]
  cases hj : (G0r.getD i [])[j]? with
  | none => show 0 < 73; omega
  | some x => exact h i hi x (List.mem_of_getElem? hj)
theorem G0_hi : ∀ i, i < 38 → ∀ j, 73 ≤ G0.1 (73 + i) j ∧ G0.1 (73 + i) j < 111 := by
  have h : ∀ i, i < 38 → ∀ x ∈ G0r.getD (73 + i) [], 73 ≤ x ∧ x < 111 := by decide +kernel
  intro i hi j
  show 73 ≤ (G0r.getD (73 + i) []).getD j (if 73 + i < 73 then 0 else 73) ∧ (G0r.getD (73 + i) []).getD j (if 73 + i < 73 then 0 else 73) < 111
  rw [if_neg (by omega), List.getD_eq_getElem?_getD]
  cases hj : (G0r.getD (73 + i) [])[j]? with
  | none => exact ⟨Nat.le_refl 73, by show 73 < 111; omega⟩
  | some x => exact h i hi x (List.mem_of_getElem? hj)
theorem ct_cell_ad {cA : Nat → ClassId} {ad ad' : Nat → Nat} {G : ct_G} {K : Nat → Nat} {h : ct_H} {i : Nat} (hq : ∀ j, ad (G.1 i j) = ad' (G.1 i j)) : ct_cell cA ad G K h i = ct_cell cA ad' G K h i := by
  unfold ct_cell
  simp only [hq]
def st_ad (u1 u2 adS : Nat → Nat) (i : Nat) : Nat := if i < 73 then u1 i else if i < 111 then u2 i else adS i
theorem st_join (cA : Nat → ClassId) (u1 u2 adS : Nat → Nat) : ct_ws cA u1 G0 K0 73 hz ++ ct_w2 cA u2 G0 K0 73 38 hz = ct_ws cA (st_ad u1 u2 adS) G0 K0 111 hz := by
  unfold ct_ws ct_w2
  rw [show (111 : Nat) = 73 + 38 from rfl, List.range_add, List.map_append, List.map_map]
  have h1 : ∀ i, i < 73 → st_ad u1 u2 adS i = u1 i := fun i hi => by unfold st_ad; rw [if_pos hi]
  have h2 : ∀ i, 73 ≤ i → i < 111 → st_ad u1 u2 adS i = u2 i := fun i h hi => by unfold st_ad; rw [if_neg (by omega), if_pos hi]
  congr 1
  · apply List.map_congr_left
    intro i hi
    have hi : i < 73 := List.mem_range.mp hi
    rw [h1 i hi, ct_cell_ad (ad := st_ad u1 u2 adS) (ad' := u1) (fun j => h1 _ (G0_lo i hi j))]
  · apply List.map_congr_left
    intro i hi
    have hi : i < 38 := List.mem_range.mp hi
    show _ = (st_ad u1 u2 adS (73 + i), ct_cell cA (st_ad u1 u2 adS) G0 K0 hz (73 + i))
    rw [h2 (73 + i) (by omega) (by omega), ct_cell_ad (ad := st_ad u1 u2 adS) (ad' := u2) (fun j => h2 _ (G0_hi i hi j).1 (G0_hi i hi j).2)]
theorem ct_Str_ad {ad ad' : Nat → Nat} {A : Nat → Prop} {U : State} (hq : ∀ i, 1000 ≤ i → ad' i = ad i) (h : ct_Str ad A U) : ct_Str ad' A U := by
  have e1 : (fun i => ad' (1000 + i)) = fun i => ad (1000 + i) := funext fun i => hq _ (by omega)
  have e2 : (fun i => ad' (2000 + i)) = fun i => ad (2000 + i) := funext fun i => hq _ (by omega)
  obtain ⟨h1, h2, h3, h4⟩ := h
  refine ⟨by rw [e1, e2]; exact h1, h2, fun q hq2 => ?_, h4⟩
  rw [hq _ (by omega)]
  exact h3 q hq2
