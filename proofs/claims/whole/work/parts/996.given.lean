/-! the start: what the tables and the Statement give -/
section
variable {args : Array Value} {s : State}
theorem st_arr {ty : FieldType} (h : (Cond.arrayClass ty).before args s = true) : ∃ c, ArrOfT s c ty ∧ s.vm.findClass ("[" ++ ty.toString) = some c := by
  obtain ⟨c, k, comp, f1, f2, f3⟩ := Cond.arrayClass_spec h
  exact ⟨c, fun N z => ⟨(fun k h => by cases h), k, f2, comp, f3⟩, f1⟩
theorem st_over {ty : FieldType} (h : (Cond.arrayOver (.array ty)).before args s = true) : ∃ (comp c : ClassId) (k : Class), s.vm.findClass (FieldType.array ty).toString = some comp ∧ s.vm.classes[c]? = some k ∧ k.kind = .array comp (.array ty) ∧ s.vm.findClass ("[" ++ (FieldType.array ty).toString) = some c := by
  simp only [Cond.before, Cond.holds, Cond.value, beq_iff_eq] at h
  obtain ⟨comp, q1, h⟩ := Option.bind_eq_some_iff.mp h
  obtain ⟨c, q2, h⟩ := Option.bind_eq_some_iff.mp h
  obtain ⟨k, q3, h⟩ := Option.map_eq_some_iff.mp h
  obtain ⟨hlt, hp, -⟩ := Array.findIdx?_eq_some_iff_getElem.mp q2
  have hkk : s.vm.classes[c] = k := (Array.getElem?_eq_some_iff.mp q3).2
  rw [hkk] at hp
  cases hkind : k.kind with
  | array c2 t2 =>
    rw [hkind] at h hp
    simp at h hp
    exact ⟨comp, c, k, q1, q3, by rw [hkind, hp, h.1], h.2⟩
  | _ => rw [hkind] at h; simp at h
theorem st_inst : ∀ c, c < 8 → ∃ n, Cond.instantiable (ct_R c) n ∈ lw_tbl := by
  intro c h
  match c, h with
  | 0, _ => exact ⟨7, List.mem_of_getElem? (i := 100) (by decide +kernel)⟩
  | 1, _ => exact ⟨10, List.mem_of_getElem? (i := 196) (by decide +kernel)⟩
  | 2, _ => exact ⟨9, List.mem_of_getElem? (i := 159) (by decide +kernel)⟩
  | 3, _ => exact ⟨3, List.mem_of_getElem? (i := 238) (by decide +kernel)⟩
  | 4, _ => exact ⟨3, List.mem_of_getElem? (i := 285) (by decide +kernel)⟩
  | 5, _ => exact ⟨6, List.mem_of_getElem? (i := 257) (by decide +kernel)⟩
  | 6, _ => exact ⟨17, List.mem_of_getElem? (i := 92) (by decide +kernel)⟩
  | 7, _ => exact ⟨39, List.mem_of_getElem? (i := 992) (by decide +kernel)⟩
theorem st_D (hts : ∀ w ∈ lw_tbl, w.before args s = true) : ∃ D : va_G, ∀ c, c < 8 → u_Kn s (ct_R c) (ct_T c) (ct_N c) (D.1 c) (D.2 c) := by
  have h0 : ∀ c : Nat, ∃ q : ClassId × (Nat → Nat), c < 8 → u_Kn s (ct_R c) (ct_T c) (ct_N c) q.1 q.2 := by
    intro c
    by_cases hc : c < 8
    · obtain ⟨n, hn⟩ := st_inst c hc
      obtain ⟨cC, iS, h⟩ := u_known (ws := lw_tbl) hts (fun w hw => ct_GW_sub (ct_lays c hc w hw)) (hts _ hn)
      exact ⟨(cC, iS), fun _ => h⟩
    · exact ⟨(0, fun _ => 0), fun h => absurd h hc⟩
  obtain ⟨f, hf⟩ := Classical.axiomOfChoice h0
  exact ⟨(fun c => (f c).1, fun c => (f c).2), fun c hc => hf c hc⟩
theorem st_K (hts : ∀ w ∈ lw_tbl, w.before args s = true) : ∃ (D : va_G) (cA : Nat → ClassId), va_K D ct_cl (ct_tys cA) s ∧ ci_AO cA s := by
  obtain ⟨D, hD⟩ := st_D hts
  obtain ⟨c8, a8, n8⟩ := st_arr (ty := .int) (hts _ (List.mem_of_getElem? (i := 157) (by decide +kernel)))
  obtain ⟨c9, a9, n9⟩ := st_arr (ty := .byte) (hts _ (List.mem_of_getElem? (i := 533) (by decide +kernel)))
  obtain ⟨c10, a10, n10⟩ := st_arr (ty := .boolean) (hts _ (List.mem_of_getElem? (i := 1119) (by decide +kernel)))
  obtain ⟨c11, a11, n11⟩ := st_arr (ty := .long) (hts _ (List.mem_of_getElem? (i := 302) (by decide +kernel)))
  have h12 : (Cond.arrayOver (.object RX4)).before args s = true := (hts _ (List.mem_of_getElem? (i := 284) (by decide +kernel)))
  obtain ⟨c0, c12, k12, m1, m2, m3, m4, m5⟩ := Cond.arrayOver_spec h12
  obtain ⟨d13, c13, k13, p1, p2, p3, p4⟩ := st_over (ty := .int) (hts _ (List.mem_of_getElem? (i := 998) (by decide +kernel)))
  obtain ⟨d14, c14, k14, r1, r2, r3, r4⟩ := st_over (ty := .long) (hts _ (List.mem_of_getElem? (i := 1000) (by decide +kernel)))
  have e13 : d13 = c8 := Option.some.inj (p1.symm.trans n8)
  have e14 : d14 = c11 := Option.some.inj (r1.symm.trans n11)
  subst e13; subst e14
  refine ⟨D, fun k => match k with | 8 => d13 | 9 => c9 | 10 => c10 | 11 => d14 | 12 => c12 | 13 => c13 | _ => c14, ⟨fun c q hq => ?_, fun k q hq => ?_⟩, ⟨va_AO.of h12, ⟨k13, p2, p3⟩, k14, r2, r3⟩⟩
  · have hc : c < 8 := (List.getElem?_eq_some_iff.mp hq).1
    rw [ct_cl_get c hc] at hq
    cases hq
    exact hD c hc
  · have hk : k < 7 := (List.getElem?_eq_some_iff.mp hq).1
    match k, hk, hq with
    | 0, _, hq => cases hq; exact ⟨a8, n8⟩
    | 1, _, hq => cases hq; exact ⟨a9, n9⟩
    | 2, _, hq => cases hq; exact ⟨a10, n10⟩
    | 3, _, hq => cases hq; exact ⟨a11, n11⟩
    | 4, _, hq => cases hq; exact ⟨fun N z => ⟨(fun k h => by cases h), k12, m3, c0, m4⟩, k12, c0, m3, m4, m1, m5⟩
    | 5, _, hq => cases hq; exact ⟨fun N z => ⟨(fun k h => by cases h), k13, p2, d13, p3⟩, p4⟩
    | 6, _, hq => cases hq; exact ⟨fun N z => ⟨(fun k h => by cases h), k14, r2, d14, r3⟩, r4⟩
def st_tm (i : Nat) : Term := .string "ContourTracer$Text" (69 + 2 * i)
abbrev st_L : List Cond := flatC (Jvm.Cond.and given_1 narrow_1)
theorem st_f1 : ∀ i : Nat, i < 7 → Cond.exactly (st_tm i) "java/lang/String" ∈ st_L := by decide +kernel
theorem st_f2 : ∀ i : Nat, i < 7 → Cond.eq (.field (st_tm i) "java/lang/String" "coder" "B") (.int 0) ∈ st_L := by decide +kernel
theorem st_f3 : ∀ i : Nat, i < 7 → Cond.arrayOf (.field (st_tm i) "java/lang/String" "value" "[B") .byte ∈ st_L := by decide +kernel
theorem st_f4 : ∀ i : Nat, i < 7 → Cond.eq (.length (.field (st_tm i) "java/lang/String" "value" "[B")) (.int (Int32.ofNat (ct_sL.getD i 0))) ∈ st_L := by decide +kernel
theorem st_f5 : ∀ i : Nat, i < 7 → ∀ j : Nat, j < ct_sL.getD i 0 → Cond.eq (.elem (.field (st_tm i) "java/lang/String" "value" "[B") (.int (Int32.ofNat j))) (.int ((ct_sB.getD i []).getD j 0)) ∈ st_L := by decide +kernel
theorem st_f6 : ∀ i : Nat, i < 7 → ∀ j : Nat, j < 7 → i ≠ j → Cond.not (Cond.eq (st_tm i) (st_tm j)) ∈ st_L ∨ Cond.not (Cond.eq (st_tm j) (st_tm i)) ∈ st_L := by decide +kernel
theorem st_f7 : ∀ i : Nat, i < 6 → Cond.eq (st_tm i) (.string "ContourTracerModel" (128 + 2 * i)) ∈ st_L := by decide +kernel
theorem st_Str (hts : ∀ w ∈ lw_tbl, w.before args s = true) (hg : (Jvm.Cond.and given_1 narrow_1).before args s = true) (b : Nat) : ∃ ad : Nat → Nat, ct_Str ad (fun q => s.heap.size ≤ q) s ∧ ad 3000 = b := by
  have hf := flat_of_before _ hg
  have hA : ∀ a : Nat, a < s.heap.size → ¬ (fun q => s.heap.size ≤ q) a := fun a h => Nat.not_le.mpr h
  obtain ⟨adK, adV, hS, htm⟩ := vk_Sof (A := fun q => s.heap.size ≤ q) (tm := st_tm) (len := ct_sL) (byt := ct_sB) (N := 7) (fun i hi => by revert i hi; decide) (fun i hi => hf _ (st_f1 i hi)) (fun i hi => hf _ (st_f2 i hi)) (fun i hi => hf _ (st_f3 i hi)) (fun i hi => hf _ (st_f4 i hi)) (fun i hi j hj => hf _ (st_f5 i hi j hj)) (fun i j hi hj hij => (st_f6 i hi j hj hij).imp (hf _) (hf _)) hA
  have h1 : ∀ (i : Nat), i < 6 → (Term.string "ContourTracerModel" (128 + 2 * i)).eval args s none [] s = some (.ref (adK i)) := fun i hi => va_eqR (hf _ (st_f7 i hi)) (htm i (by omega))
  refine ⟨fun i => if i < 1007 then adK (i - 1000) else if i < 2007 then adV (i - 2000) else b, ⟨⟨fun i hi => ?_, fun i j hi hj e => ?_⟩, va_Zof (hts _ (List.mem_of_getElem? (i := 440) (by decide +kernel))) (hts _ (List.mem_of_getElem? (i := 84) (by decide +kernel))) (va_eqt (hf _ (by decide +kernel))) hA, fun q hq => ?_, va_Zqof (hts _ (List.mem_of_getElem? (i := 456) (by decide +kernel))) (hts _ (List.mem_of_getElem? (i := 86) (by decide +kernel))) (hf _ (by decide +kernel)) hA⟩, rfl⟩
  · have e2 : (fun i => if i < 1007 then adK (i - 1000) else if i < 2007 then adV (i - 2000) else b) (1000 + i) = adK i := by show (if 1000 + i < 1007 then adK (1000 + i - 1000) else _) = _; rw [if_pos (by omega), show 1000 + i - 1000 = i by omega]
    have e3 : (fun i => if i < 1007 then adK (i - 1000) else if i < 2007 then adV (i - 2000) else b) (2000 + i) = adV i := by show (if 2000 + i < 1007 then _ else if 2000 + i < 2007 then adV (2000 + i - 2000) else _) = _; rw [if_neg (by omega), if_pos (by omega), show 2000 + i - 2000 = i by omega]
    have h := hS.1 i hi
    dsimp only at e2 e3 ⊢
    rw [e2, e3]
    exact h
  · have g : ∀ i, i < 7 → (if 1000 + i < 1007 then adK (1000 + i - 1000) else if 1000 + i < 2007 then adV (1000 + i - 2000) else b) = adK i := fun i hi => by rw [if_pos (by omega), show 1000 + i - 1000 = i by omega]
    dsimp only at e
    rw [g i hi, g j hj] at e
    exact hS.2 i j hi hj e
  · simp only [ct_sR, List.mem_cons, List.not_mem_nil, or_false] at hq
    rcases hq with rfl | rfl | rfl | rfl | rfl | rfl | rfl | rfl | rfl | rfl | rfl | rfl | rfl
    · exact vk_R.of (hts _ (List.mem_of_getElem? (i := 420) (by decide +kernel))) (htm 0 (by omega))
    · exact vk_R.of (hts _ (List.mem_of_getElem? (i := 421) (by decide +kernel))) (htm 1 (by omega))
    · exact vk_R.of (hts _ (List.mem_of_getElem? (i := 422) (by decide +kernel))) (htm 2 (by omega))
    · exact vk_R.of (hts _ (List.mem_of_getElem? (i := 423) (by decide +kernel))) (htm 3 (by omega))
    · exact vk_R.of (hts _ (List.mem_of_getElem? (i := 424) (by decide +kernel))) (htm 4 (by omega))
    · exact vk_R.of (hts _ (List.mem_of_getElem? (i := 425) (by decide +kernel))) (htm 5 (by omega))
    · exact vk_R.of (hts _ (List.mem_of_getElem? (i := 426) (by decide +kernel))) (htm 6 (by omega))
    · exact vk_R.of (hts _ (List.mem_of_getElem? (i := 1166) (by decide +kernel))) (h1 0 (by omega))
    · exact vk_R.of (hts _ (List.mem_of_getElem? (i := 1167) (by decide +kernel))) (h1 1 (by omega))
    · exact vk_R.of (hts _ (List.mem_of_getElem? (i := 1168) (by decide +kernel))) (h1 2 (by omega))
    · exact vk_R.of (hts _ (List.mem_of_getElem? (i := 1169) (by decide +kernel))) (h1 3 (by omega))
    · exact vk_R.of (hts _ (List.mem_of_getElem? (i := 1170) (by decide +kernel))) (h1 4 (by omega))
    · exact vk_R.of (hts _ (List.mem_of_getElem? (i := 1171) (by decide +kernel))) (h1 5 (by omega))
end
