/-! the law: the middle of the skeleton, rules for its loop -/
def R_law : String := "ContourTracerLaw"
def lw_P (b : Addr) (xs : List Int32) (args : Array Value) (s : State) : Prop := args = #[.ref b] ∧ s.IntsAt b xs ∧ xs.length ≤ 3072 ∧ (Jvm.Cond.and given_1 narrow_1).before args s = true
def lw_Q (_ : Array Value) (s : State) (o : Outcome) (t : State) : Prop := o = .returned (some (.int 1)) ∧ Framed s o t [] 600000 7302250
def lw_Z (below : List Frame) (a : Array Value) (s : State) : State → Prop := fun t => ∃ o, t.status = .running ∧ Ended t below o ∧ lw_Q a s o t
/-- the law's own end, with 1 on the stack, nothing written that was there before, its room as the claim has it -/
theorem lw_ret {p : Program} {l : Launch} {e : Env} {s : State} {m : MethodId} {below : List Frame} {meth : Method} {c : Code} {b : Nat} (hx : p.tables.exec = Jvm.exec) (hb : c.code = code) (hr : meth.sig.returnType = ret) (hlocks : meth.locks = false) {pc : Nat} {H : Heap} {ls : Array Slot} (hdg : decode code pc = .ok (.ireturn, 1)) : W p l e room_1 s m #[Value.ref b] below meth c H [] 600000 7302250 (lw_Z below #[Value.ref b] s) (F0 m pc ls [.int 1]) := by
  intro T hT X
  obtain ⟨fs, hret, hrun, hended, hW, hframe⟩ := X.leave (v := some (.int 1)) (hlocks := hlocks) (fun h => by rw [hr] at h; cases h)
  have hmeth' : T.vm.method? m = some meth := X.method'
  refine ⟨T.setFrames fs, ?_, .returned (some (.int 1)), hrun, hended, rfl, ⟨_, rfl⟩, hW, hframe⟩
  jvm_step X.here [X.here.top, hx, hb, hdg, hmeth', hr, ret, narrow_b1]
  (try refine ⟨rfl, ?_⟩); (try refine ⟨rfl, ?_⟩)
  first | (intro acts; rw [hret _ acts rfl rfl rfl]) | rw [hret _ _ rfl rfl rfl]
  exact Steps.refl _
/-- what holds at the law's entry: the machine, the code, the tables' words (any of lw_tbl by 'hts w (by decide +kernel)'), the script of L ints xs at the cell b, what the Statement gives of the start (any of its parts by flat_of_before) -/
def lw_At (p : Program) (s : State) (m : MethodId) (meth : Method) (c : Code) (b L : Nat) (xs : Nat → Int32) : Prop :=
  p.tables.exec = Jvm.exec ∧ c.code = code ∧ meth.sig.returnType = ret ∧ c.maxLocals = 4 ∧ s.vm.findClass R_law = some m.cls ∧ (∀ w ∈ lw_tbl, w.before #[Value.ref b] s = true) ∧ va_X b L xs s s.heap ∧ b < s.heap.size ∧ meth.locks = false ∧ (Jvm.Cond.and given_1 narrow_1).before #[Value.ref b] s = true
abbrev la_row (pc : Nat) (k : Int) : Prop := decode code pc = .ok (.aload_n 0, 1) ∧ decode code (pc + 1) = .ok (.iload_n 3, 1) ∧ decode code (pc + 2) = .ok (.iconst k, 1) ∧ decode code (pc + 3) = .ok (.iadd, 1) ∧ decode code (pc + 4) = .ok (.iaload, 1)
def la_ls (i : Nat) : ct_L := [(3, .inl (i : Int)), (2, .inr (.inr (7, 73))), (1, .inr (.inr (6, 0))), (0, .inr (.inr (17, 3000)))]
def la_as (xs : Nat → Int32) : Nat → Nat → List ct_PV
  | 0, _ => []
  | n + 1, k => .inl (xs k).toInt :: la_as xs n (k + 1)
def la_C (p : Program) (s : State) (m : MethodId) (b : Nat) (c : Code) (A : Nat → Prop) (D : va_G) (cA : Nat → ClassId) (ad : Nat → Nat) : Prop := ct_Cx p room_1 s m #[Value.ref b] c code 4 R_law A D cA ad G0 K0 111 30 600000 7302250
/-- the script is there, apart from what may be written -/
def la_X (s : State) (A : Nat → Prop) (ad : Nat → Nat) (b L : Nat) (xs : Nat → Int32) : Prop := va_X b L xs s s.heap ∧ b < s.heap.size ∧ ¬ A b ∧ ad 3000 = b ∧ L ≤ 3072
theorem INV.up {G : ct_G} {h : ct_H} {hi wi : Nat} {B B' : Int} (hB : B ≤ B') (v : INV G h hi wi B) : INV G h hi wi B' := by
  obtain ⟨a1, a2, a3, a4, a5, a6, a7, a8, b1, b2, b3⟩ := v
  exact ⟨a1, a2, a3, a4, a5, a6, a7, a8, by omega, by omega, by omega⟩
theorem la_w {a : Int} (h1 : -2147483648 ≤ a) (h2 : a < 2147483648) : ct_wr a = a := ct_wr_id ⟨h1, h2⟩
section
variable {p : Program} {l : Launch} {e : Env} {s : State} {m : MethodId} {below : List Frame} {meth : Method} {c : Code} {A : Nat → Prop} {D : va_G} {cA : Nat → ClassId} {ad : Nat → Nat} {Q : State → Prop} {b L i : Nat} {xs : Nat → Int32} {h : ct_H} {st : List ct_PV}
/-- from here the law goes on as it should -/
abbrev la_V (p : Program) (l : Launch) (e : Env) (s : State) (m : MethodId) (below : List Frame) (meth : Method) (c : Code) (A : Nat → Prop) (D : va_G) (cA : Nat → ClassId) (ad : Nat → Nat) (Q : State → Prop) (b : Nat) (pc : Nat) (ls : ct_L) (st : List ct_PV) (h : ct_H) : Prop := ct_V p l e room_1 s m #[Value.ref b] below meth c 4 A D cA ad G0 K0 111 600000 7302250 Q pc ls st h
theorem la_sld (C : la_C p s m b c A D cA ad) (X : la_X s A ad b L xs) {pc k : Nat} (hk : k < L) (hd : decode code pc = .ok (.iaload, 1)) (kk : la_V p l e s m below meth c A D cA ad Q b (pc + 1) (la_ls i) (.inl (xs k).toInt :: st) h) : la_V p l e s m below meth c A D cA ad Q b pc (la_ls i) (.inl (k : Int) :: .inr (.inr (17, 3000)) :: st) h := by
  obtain ⟨hX, hbl, hbA, hb3, hL⟩ := X
  subst hb3
  intro H locs lm hP hS hl ho hs hh
  have hin : ct_in (k : Int) := by unfold ct_in; omega
  have hk2 := kk H locs lm hP hS hl ho (ct_cons_ok (ct_toInt_in _) (ct_tl (ct_tl hs))) hh
  have e0 : (Int32.ofInt (k : Int)).toNatClampNeg = k := by
    rw [ct_clamp hin (by omega)]; omega
  refine va_sld (L := L) (xs := xs) C.1 C.2.1 hX hbl hbA hS (i := Int32.ofInt (k : Int)) (ct_vpin hin (by omega)) hd ?_
  rw [e0]
  have e1 : ct_mv ad (.inl (xs k).toInt) = .int (xs k) := by show Value.int (Int32.ofInt (xs k).toInt) = _; rw [ct_of_toInt]
  rw [List.map_cons, e1] at hk2
  exact hk2
theorem la_slen (C : la_C p s m b c A D cA ad) (X : la_X s A ad b L xs) {pc : Nat} (hd : decode code pc = .ok (.arraylength, 1)) (kk : la_V p l e s m below meth c A D cA ad Q b (pc + 1) (la_ls i) (.inl (L : Int) :: st) h) : la_V p l e s m below meth c A D cA ad Q b pc (la_ls i) (.inr (.inr (17, 3000)) :: st) h := by
  obtain ⟨hX, hbl, hbA, hb3, hL⟩ := X
  subst hb3
  intro H locs lm hP hS hl ho hs hh
  have hin : ct_in (L : Int) := by unfold ct_in; omega
  have hk2 := kk H locs lm hP hS hl ho (ct_cons_ok hin (ct_tl hs)) hh
  exact va_slen (L := L) (xs := xs) C.1 C.2.1 hX hbl hbA hS hd hk2
theorem la_arg (C : la_C p s m b c A D cA ad) (X : la_X s A ad b L xs) {pc k : Nat} (hr : la_row pc (k : Int)) (hk : i + k < L) (h5 : k ≤ 5) (kk : la_V p l e s m below meth c A D cA ad Q b (pc + 5) (la_ls i) (.inl (xs (i + k)).toInt :: st) h) : la_V p l e s m below meth c A D cA ad Q b pc (la_ls i) st h := by
  obtain ⟨d0, d1, d2, d3, d4⟩ := hr
  have hL := X.2.2.2.2
  refine ct_st1_ok C (q := (pc, .aload_n 0, 1, 0)) d0 rfl trivial rfl ?_
  refine ct_st1_ok C (q := (pc + 1, .iload_n 3, 1, 0)) d1 rfl trivial rfl ?_
  refine ct_st1_ok C (q := (pc + 2, .iconst (k : Int), 1, 0)) d2 rfl trivial (by show (if -1 ≤ (k : Int) ∧ (k : Int) ≤ 5 then _ else none) = _; rw [if_pos (by omega)]) ?_
  refine ct_st1_ok C (q := (pc + 3, .iadd, 1, 0)) d3 rfl trivial rfl ?_
  show la_V p l e s m below meth c A D cA ad Q b (pc + 4) (la_ls i) (.inl (ct_wr ((i : Int) + (k : Int))) :: .inr (.inr (17, 3000)) :: st) h
  rw [la_w (a := (i : Int) + (k : Int)) (by omega) (by omega), show (i : Int) + (k : Int) = ((i + k : Nat) : Int) by omega]
  exact la_sld C X hk d4 kk
theorem la_args (C : la_C p s m b c A D cA ad) (X : la_X s A ad b L xs) : ∀ (n k pc : Nat) (st : List ct_PV), (∀ j, j < n → la_row (pc + 5 * j) ((k + j : Nat) : Int)) → i + k + n ≤ L → k + n ≤ 6 → la_V p l e s m below meth c A D cA ad Q b (pc + 5 * n) (la_ls i) ((la_as xs n (i + k)).reverse ++ st) h → la_V p l e s m below meth c A D cA ad Q b pc (la_ls i) st h
  | 0, k, pc, st, _, _, _, kk => kk
  | n + 1, k, pc, st, hr, hL, h6, kk => by
    refine la_arg C X (k := k) (hr 0 (by omega)) (by omega) (by omega) ?_
    refine la_args C X n (k + 1) (pc + 5) _ (fun j hj => ?_) (by omega) (by omega) ?_
    · have := hr (j + 1) (by omega)
      rw [show pc + 5 * (j + 1) = pc + 5 + 5 * j by omega, show k + (j + 1) = k + 1 + j by omega] at this
      exact this
    · rw [show pc + 5 * (n + 1) = pc + 5 + 5 * n by omega] at kk
      have e0 : la_as xs (n + 1) (i + k) = .inl (xs (i + k)).toInt :: la_as xs n (i + (k + 1)) := rfl
      rw [e0, List.reverse_cons, List.append_assoc] at kk
      exact kk
theorem la_call {β : Type} (C : la_C p s m b c A D cA ad) {N : ct_M} {pc idx nA cc o : Nat} {as st : List ct_PV} {ls : ct_L} {ρ : β → Option ct_PV × ct_H} {ob : Option β} {a : β} (hN : ct_MOk N) (hL : ct_LkV R_law idx N nA) (hE : ct_E N 29 G0 (ct_args 0 (.inr (.inr (cc, o)) :: as)) h ρ ob) (ho : ob = some a) (hdec : decode code pc = .ok (.invokevirtual idx, 3)) (hnA : as.length = nA) (hcc : cc < 8) (hcn : ct_R cc = N.1.cls) (hlen : 1 + (as.map ct_cat).sum ≤ N.2.2.1) (hrest : (st.map ct_cat).sum ≤ 8) (kk : la_V p l e s m below meth c A D cA ad Q b (pc + 3) ls ((ρ a).1.toList ++ st) (ρ a).2) : la_V p l e s m below meth c A D cA ad Q b pc ls (as.reverse ++ .inr (.inr (cc, o)) :: st) h :=
  ct_VcallV C hN hdec hL (hE.toX hN) ho hnA hcc hcn hlen hrest kk
abbrev la_two (t n i1 i2 : Nat) : Prop := decode code t = .ok (.aload_n 1, 1) ∧ ((List.range n).all fun j => decide (la_row (t + 1 + 5 * j) ((1 + j : Nat) : Int))) = true ∧ decode code (t + 1 + 5 * n) = .ok (.invokevirtual i1, 3) ∧ decode code (t + 1 + 5 * n + 3) = .ok (.aload_n 2, 1) ∧ ((List.range n).all fun j => decide (la_row (t + 1 + 5 * n + 3 + 1 + 5 * j) ((1 + j : Nat) : Int))) = true ∧ decode code (t + 1 + 5 * n + 3 + 1 + 5 * n) = .ok (.invokevirtual i2, 3)
abbrev la_eqI (pc : Nat) (off : Int) : Prop := decode code pc = .ok (.if_icmp .eq off, 3) ∧ (pc : Int) + off = ((1400 : Nat) : Int)
abbrev la_eqL (pc : Nat) (off : Int) : Prop := decode code pc = .ok (.lcmp, 1) ∧ decode code (pc + 1) = .ok (.ifCond .eq off, 3) ∧ ((pc + 1 : Nat) : Int) + off = ((1400 : Nat) : Int)
theorem la_both {β1 β2 : Type} (C : la_C p s m b c A D cA ad) (X : la_X s A ad b L xs) (hi6 : i + 6 ≤ L) {t n i1 i2 : Nat} (hd : la_two t n i1 i2) (n5 : n ≤ 5) {N1 N2 : ct_M} {as : List ct_PV} {ρ1 : β1 → Option ct_PV × ct_H} {ρ2 : β2 → Option ct_PV × ct_H} {o1 : Option β1} {o2 : Option β2} {a1 : β1} {a2 : β2} {r1 r2 : ct_PV} (has : as = la_as xs n (i + 1))
    (hN1 : ct_MOk N1) (hL1 : ct_LkV R_law i1 N1 n) (hE1 : ct_E N1 29 G0 (ct_args 0 (.inr (.inr (6, 0)) :: as)) h ρ1 o1) (ho1 : o1 = some a1) (hr1 : (ρ1 a1).1 = some r1) (hn1 : as.length = n) (hc1 : ct_R 6 = N1.1.cls) (hl1 : 1 + (as.map ct_cat).sum ≤ N1.2.2.1)
    (hN2 : ct_MOk N2) (hL2 : ct_LkV R_law i2 N2 n) (hE2 : ct_E N2 29 G0 (ct_args 0 (.inr (.inr (7, 73)) :: as)) (ρ1 a1).2 ρ2 o2) (ho2 : o2 = some a2) (hr2 : (ρ2 a2).1 = some r2) (hc2 : ct_R 7 = N2.1.cls) (hl2 : 1 + (as.map ct_cat).sum ≤ N2.2.2.1) (hcat : ct_cat r1 ≤ 2)
    (kk : la_V p l e s m below meth c A D cA ad Q b (t + 1 + 5 * n + 3 + 1 + 5 * n + 3) (la_ls i) [r2, r1] (ρ2 a2).2) : la_V p l e s m below meth c A D cA ad Q b t (la_ls i) [] h := by
  obtain ⟨d0, d1, d2, d3, d4, d5⟩ := hd
  refine ct_st1_ok C (q := (t, .aload_n 1, 1, 0)) d0 rfl trivial rfl ?_
  refine la_args C X n 1 (t + 1) _ (fun j hj => of_decide_eq_true (List.all_eq_true.mp d1 j (List.mem_range.mpr hj))) (by omega) (by omega) ?_
  rw [← has]
  refine la_call C hN1 hL1 hE1 ho1 d2 hn1 (by omega) hc1 hl1 (by simp) ?_
  rw [hr1]
  refine ct_st1_ok C (q := (t + 1 + 5 * n + 3, .aload_n 2, 1, 0)) d3 rfl trivial rfl ?_
  refine la_args C X n 1 (t + 1 + 5 * n + 3 + 1) _ (fun j hj => of_decide_eq_true (List.all_eq_true.mp d4 j (List.mem_range.mpr hj))) (by omega) (by omega) ?_
  rw [← has]
  refine la_call C hN2 hL2 hE2 ho2 d5 hn1 (by omega) hc2 hl2 (by simp; omega) ?_
  rw [hr2]
  exact kk
theorem la_endI (C : la_C p s m b c A D cA ad) {pc : Nat} {off r : Int} (hd : la_eqI pc off) (kk : la_V p l e s m below meth c A D cA ad Q b 1400 (la_ls i) [] h) : la_V p l e s m below meth c A D cA ad Q b pc (la_ls i) [.inl r, .inl r] h :=
  ct_Vicmp C hd.1 hd.2 (fun _ => kk) (fun w => absurd (show ct_cmp .eq r r from rfl) w)
theorem la_cmp0 (r : Int64) : (lg_cmp r r).toInt = 0 := by
  have : lg_cmp r r = 0 := by unfold lg_cmp; simp [Int64.lt_irrefl]
  rw [this]; rfl
theorem la_endL (C : la_C p s m b c A D cA ad) {pc : Nat} {off : Int} {r : Int64} (hd : la_eqL pc off) (kk : la_V p l e s m below meth c A D cA ad Q b 1400 (la_ls i) [] h) : la_V p l e s m below meth c A D cA ad Q b pc (la_ls i) [.inr (.inl r), .inr (.inl r)] h := by
  refine ct_st1_ok C (q := (pc, .lcmp, 1, 0)) hd.1 rfl trivial rfl ?_
  rw [la_cmp0]
  exact ct_Vcond C hd.2.1 hd.2.2 (fun _ => kk) (fun w => absurd (show ct_cmp .eq (0 : Int) 0 from rfl) w)
end
