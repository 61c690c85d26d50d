/-! constructors: worlds that grow -/
theorem ci_RA {U : State} {c1 c2 : ClassId} {ty : FieldType} (h1 : va_RA U c1 ty) (h2 : va_RA U c2 ty) : c1 = c2 := by
  cases ty with
  | object C =>
    obtain ⟨_, _, _, _, _, a⟩ := h1
    obtain ⟨_, _, _, _, _, b⟩ := h2
    exact Option.some.inj (a.symm.trans b)
  | _ => exact Option.some.inj (Eq.trans (Eq.symm h1) h2)
theorem ci_eqA {D : va_G} {cl : List vw_C} {tys : List (ClassId × FieldType)} {cA c : ClassId} {ty : FieldType} {U : State} (k : Nat) (h : va_K D cl (tys ++ [(c, ty)]) U) (hk : tys[k]? = some (cA, ty)) : c = cA := by
  have hlt : k < tys.length := (List.getElem?_eq_some_iff.mp hk).1
  have h1 := (h.2 k (cA, ty) (by rw [List.getElem?_append_left hlt]; exact hk)).2
  have h2 := (h.2 tys.length (c, ty) (by rw [List.getElem?_append_right (Nat.le_refl _), Nat.sub_self]; rfl)).2
  exact ci_RA h2 h1
theorem ci_Pl {D : va_G} {cl : List vw_C} {w1 w2 : va_W} {H : Heap} (h : va_P D cl (w1 ++ w2) H) : va_P D cl w1 H := fun k q hk => h k q (by rw [List.getElem?_append_left (List.getElem?_eq_some_iff.mp hk).1]; exact hk)
theorem ci_Pr {D : va_G} {cl : List vw_C} {w1 w2 : va_W} {H : Heap} (h : va_P D cl (w1 ++ w2) H) : va_P D cl w2 H := fun k q hk => h (w1.length + k) q (by rw [List.getElem?_append_right (Nat.le_add_right _ _), Nat.add_sub_cancel_left]; exact hk)
theorem ci_Dr {A : Nat → Prop} {w1 w2 : va_W} (h : va_D A (w1 ++ w2)) : va_D A w2 := by
  have g : ∀ (k : Nat) (q : Nat × va_E), w2[k]? = some q → (w1 ++ w2)[w1.length + k]? = some q := fun k q hk => by rw [List.getElem?_append_right (Nat.le_add_right _ _), Nat.add_sub_cancel_left]; exact hk
  refine ⟨fun i j p q hi hj e => ?_, fun k q hk => h.2 _ q (g k q hk)⟩
  have := h.1 _ _ p q (g i p hi) (g j q hj) e
  omega
theorem ci_Dl {A : Nat → Prop} {w1 w2 : va_W} (h : va_D A (w1 ++ w2)) : va_D A w1 := by
  have g : ∀ (k : Nat) (q : Nat × va_E), w1[k]? = some q → (w1 ++ w2)[k]? = some q := fun k q hk => by rw [List.getElem?_append_left (List.getElem?_eq_some_iff.mp hk).1]; exact hk
  exact ⟨fun i j p q hi hj e => h.1 _ _ p q (g i p hi) (g j q hj) e, fun k q hk => h.2 _ q (g k q hk)⟩
theorem ci_Dx {A : Nat → Prop} {w1 w2 : va_W} (h : va_D A (w1 ++ w2)) {i j : Nat} {p q : Nat × va_E} (hi : w1[i]? = some p) (hj : w2[j]? = some q) : p.1 ≠ q.1 := by
  intro e
  have hlt := (List.getElem?_eq_some_iff.mp hi).1
  have := h.1 i (w1.length + j) p q (by rw [List.getElem?_append_left hlt]; exact hi) (by rw [List.getElem?_append_right (Nat.le_add_right _ _), Nat.add_sub_cancel_left]; exact hj) e
  omega
theorem ct_Str.narrow {ad : Nat → Nat} {A B : Nat → Prop} {U : State} (h : ct_Str ad A U) (hAB : ∀ q, B q → A q) : ct_Str ad B U := ⟨h.1.narrow hAB, h.2.1.narrow hAB, h.2.2.1, h.2.2.2.narrow hAB⟩
/-- what the tables say of arrays of references, beside their classes -/
def ci_AO (cA : Nat → ClassId) (U : State) : Prop := va_AO RX4 U ∧ (∃ k : Class, U.vm.classes[cA 13]? = some k ∧ k.kind = .array (cA 8) (.array .int)) ∧ ∃ k : Class, U.vm.classes[cA 14]? = some k ∧ k.kind = .array (cA 11) (.array .long)
theorem ci_AO.moved {cA : Nat → ClassId} {u U : State} (hvm : u.vm.Alike U.vm) (h : ci_AO cA u) : ci_AO cA U := by
  obtain ⟨h1, ⟨k, h2, h3⟩, k2, h4, h5⟩ := h
  obtain ⟨k', a1, a2⟩ := hvm.2.2 _ _ h2
  obtain ⟨k2', b1, b2⟩ := hvm.2.2 _ _ h4
  exact ⟨va_AO.moved hvm h1, ⟨k', a1, by rw [a2]; exact h3⟩, k2', b1, by rw [b2]; exact h5⟩
/-- what a constructor y does to its object at h0: cells w1 u come of it, for some u -/
def ci_K (l : Launch) (y : MethodName) (cc : ByteArray) (mL : Nat) (rm : Room) (D : va_G) (cA : Nat → ClassId) (ad : Nat → Nat) (h0 : Nat) (e0 : va_E) (As : List Value) {S : Type} (w1 : S → va_W) : Prop :=
  ∀ sz, Met l y (Cond.code y cc mL none :: ct_GW) rm (va_Pc (.ref h0 :: As) (fun U => U.heap.size = sz ∧ va_P D ct_cl [(h0, e0)] U.heap ∧ va_K D ct_cl (ct_tys cA) U ∧ va_D (fun _ => True) [(h0, e0)] ∧ ct_Str ad (va_A [(h0, e0)] sz) U ∧ ci_AO cA U)) (va_Qv (fun _ : S => True) (fun u t => va_P D ct_cl (w1 u) t.heap ∧ va_D (va_A [(h0, e0)] sz) (w1 u)) (va_A [(h0, e0)] sz)) rm.cells rm.slots (va_A [(h0, e0)] sz)
/-- what holds all through a constructor's body -/
def ci_Cx (p : Program) (s : State) (m : MethodId) (args : Array Value) (meth : Method) (c : Code) (cc : ByteArray) (mL : Nat) (own : String) (A : Nat → Prop) (D : va_G) (cA : Nat → ClassId) (ad : Nat → Nat) : Prop :=
  p.tables.exec = Jvm.exec ∧ c.code = cc ∧ c.maxLocals = mL ∧ s.vm.findClass own = some m.cls ∧ (∀ w ∈ ct_GW, w.before args s = true) ∧ va_K D ct_cl (ct_tys cA) s ∧ (∀ q, s.heap.size ≤ q → A q) ∧ ct_Str ad A s ∧ ci_AO cA s
theorem ci_Met {y : MethodName} {cc : ByteArray} {mL : Nat} (hpl : plainName y.cls = true) (hin : y.name = "<init>") {rm : Room} {D : va_G} {cA : Nat → ClassId} {ad : Nat → Nat} {h0 : Nat} {As : List Value} {e0 : va_E} {S : Type} {w1 : S → va_W} (hlen : (lg_sl (.ref h0 :: As)).length ≤ mL) (l : Launch)
    (body : ∀ (p : Program) (e : Env) (s : State) (m : MethodId) (args : Array Value) (below : List Frame) (meth : Method) (c : Code) (A : Nat → Prop) (lm : Array Slot), ci_Cx p s m args meth c cc mL y.cls A D cA ad → meth.sig.returnType = none → meth.locks = false → meth.name = "<init>" → va_P D ct_cl [(h0, e0)] s.heap → va_D A [(h0, e0)] → lv_has lm mL (lv_args 0 (.ref h0 :: As)) →
      W p l e rm s m args below meth c s.heap [] 0 0 (MQ below (va_Qv (fun _ : S => True) (fun u t => va_P D ct_cl (w1 u) t.heap ∧ va_D A (w1 u)) A) args s rm.cells rm.slots A) (F0 m 0 lm [])) : ci_K l y cc mL rm D cA ad h0 e0 As w1 := by
  intro sz
  refine Met.ofW (cc := cc) (maxL := mL) (ret := none) hpl rfl ?_
  intro p e s m args below meth c s₁ B hml hv
  obtain ⟨rfl, rfl, hP, hK, hD, hStr, hAO⟩ := hv
  have hts := atoms_spec (ws := Cond.code y cc mL none :: ct_GW) B.pre
  have hown : s.vm.findClass y.cls = some m.cls := findClass_of_methodNamed B.named
  have hin2 : meth.name = "<init>" := (name_of_methodNamed B.named B.method).1.trans hin
  have hl := lv_entry (.ref h0 :: As) (n := mL) hlen
  rw [lg_entry_eq]
  exact body p e s m (.ref h0 :: As).toArray below meth c _ _ ⟨B.exec, B.bytes, hml, hown, fun w hw => hts w (List.mem_cons_of_mem _ hw), hK, fun q hq => Or.inr hq, hStr, hAO⟩ B.returns B.notSynchronized hin2 hP hD.self hl
section
variable {p : Program} {l : Launch} {e : Env} {R : Room} {s : State} {m : MethodId} {args : Array Value} {below : List Frame} {meth : Method} {c : Code} {H : Heap} {locs : List Loc} {cells slots : Nat} {Q : State → Prop}
variable {cc : ByteArray} {mL : Nat} {own : String} {A : Nat → Prop} {D : va_G} {cA : Nat → ClassId} {ad : Nat → Nat} {pc : Nat} {ls : Array Slot} {rest : List Value} {ws : va_W}
theorem ci_newa (C : ci_Cx p s m args meth c cc mL own A D cA ad) {atype : ArrayType} {ty : FieldType} (hty : newarray.typeOf atype = ty) (hw : Cond.arrayClass ty ∈ ct_GW) (k kc : Nat) (hk : (ct_tys cA)[k]? = some (cA kc, ty)) (hP : va_P D ct_cl ws H) (hD : va_D A ws) (hS : va_S A s.heap H locs)
    {n : Int32} {N' : Nat} {a0 : vp_A} (ha : ∀ c : ClassId, vp_cell c a0 = arrV c N' (fun _ => defaultValue ty)) (hn : ¬ n < 0) (hN : n.toNatClampNeg = N') (hbytes : N' * componentBytes ty ≤ 536870912) (hcells : cells + 1 ≤ R.cells) (hslots : slots + N' ≤ R.slots) (hdg : decode cc pc = .ok (.newarray atype, 2))
    (kk : ∀ (q : Nat) (H1 : Heap), va_P D ct_cl (ws ++ [(q, .inl (cA kc, a0))]) H1 → va_D A (ws ++ [(q, .inl (cA kc, a0))]) → va_S A s.heap H1 locs → W p l e R s m args below meth c H1 locs (cells + 1) (slots + N') Q (F0 m (pc + 2) ls (.ref q :: rest))) : W p l e R s m args below meth c H locs cells slots Q (F0 m pc ls (.int n :: rest)) := by
  obtain ⟨hx, hb, hml, hown, hts, hK, hA, hStr, hAO⟩ := C
  refine va_newa hx hb (atype := atype) (by rw [hty]; exact hts _ hw) hty hK hP hD hS hA (a0 := a0) ha hn hN hbytes hcells hslots hdg (fun q c1 H1 hK1 hP1 hD1 hS1 => ?_)
  have e := ci_eqA k hK1 hk
  subst e
  exact kk q H1 hP1 hD1 hS1
theorem ci_call (C : ci_Cx p s m args meth c cc mL own A D cA ad) {y : MethodName} {cy : ByteArray} {my idx : Nat} {rm : Room} {q : Nat} {e0 : va_E} {As : List Value} {S : Type} {w1 : S → va_W} {pre : va_W} (hk : ci_K l y cy my rm D cA ad q e0 As w1) (hP : va_P D ct_cl (pre ++ [(q, e0)]) H) (hD : va_D A (pre ++ [(q, e0)])) (hS : va_S A s.heap H locs)
    (hl : Cond.methodLink own idx y ∈ ct_GW) (hi : Cond.instanceMethod y ∈ ct_GW) (hc : Cond.code y cy my none ∈ ct_GW) (hini : Cond.initialized y.cls ∈ ct_GW) (hnm : y.name = "<init>") (hcls : y.cls ≠ "java/lang/invoke/MethodHandle" ∧ y.cls ≠ "java/lang/invoke/VarHandle") (hdesc : (parseMethodDescriptor y.desc).map (fun d => d.parameters.length) = some As.length)
    (hroom : rm.frames + 1 ≤ R.frames ∧ 8 + (my + 11) + rm.locals ≤ R.locals) (hcells : cells + rm.cells ≤ R.cells) (hslots : slots + rm.slots ≤ R.slots) (hrest : (rest.map fun v => v.category).sum ≤ 8) (hsize : ls.size = mL) (hdg : decode cc pc = .ok (.invokespecial idx, 3))
    (kk : ∀ (u : S) (H1 : Heap) (locs1 : List Loc), va_P D ct_cl (pre ++ w1 u) H1 → va_D A (pre ++ w1 u) → va_S A s.heap H1 locs1 → W p l e R s m args below meth c H1 locs1 (cells + rm.cells) (slots + rm.slots) Q (F0 m (pc + 3) ls rest)) : W p l e R s m args below meth c H locs cells slots Q (F0 m pc ls (As.reverse ++ .ref q :: rest)) := by
  obtain ⟨hx, hb, hml, hown, hts, hK, hA, hStr, hAO⟩ := C
  have hPc := ci_Pr hP
  have hDc := ci_Dr hD
  have hq : va_at D ct_cl (q, e0) H := hPc 0 (q, e0) rfl
  have hF : ∀ x, va_A [(q, e0)] H.size x → A x := by
    intro x hx2
    rcases hx2 with ⟨k, e1, hk1⟩ | h
    · have hz : k < 1 := (List.getElem?_eq_some_iff.mp hk1).1
      rw [show k = 0 by omega] at hk1
      cases hk1
      exact hDc.2 0 (q, e0) rfl
    · exact hA x (Nat.le_trans hS.1 h)
  have hin : ∀ w ∈ (Cond.code y cy my none :: ct_GW), w ∈ ct_GW := by
    intro w hw
    rcases List.mem_cons.mp hw with e1 | e1
    · rw [e1]; exact hc
    · exact e1
  have hcw : CallB R s args own idx y cy my none (Cond.code y cy my none :: ct_GW) rm rm.cells rm.slots As.length ∧ y.name = "<init>" ∧ (Cond.instanceMethod y).before args s = true := by
    refine ⟨⟨rfl, rfl, hroom.1, hroom.2, fun w hw a' U hW => word_at hW (ct_GW_good (hin w hw)) (hts w (hin w hw)), List.mem_cons_self, hts _ hc, hts _ hini, hcls, fun sig hsig => ?_, hts _ hl⟩, hnm, hts _ hi⟩
    rw [hsig] at hdesc
    exact (Option.some.inj hdesc).symm
  have hrun := va_runI (As := As) (rest := rest) (Ts := ct_GW) (g := F0 m pc ls (As.reverse ++ .ref q :: rest)) (H := H) (locs := locs) (cells := cells) (slots := slots) (e := e) (below := below) (meth := meth) ⟨hx, hb, hml, hown, hts⟩ (hk H.size) hcw ⟨fun a U g mk z => by
      obtain ⟨z0, z1, zP, zK, zD, ⟨z2, z3, z4, z5⟩, z6⟩ := z
      exact ⟨z0, z1, zP, va_K.moved (u := U) (U := U.calling g mk a) (Vm.Alike.refl U.vm) zK, zD, ⟨vk_S.moved (u := U) (U := U.calling g mk a) (Vm.Alike.refl U.vm) z2, va_Z.moved (u := U) (U := U.calling g mk a) (Vm.Alike.refl U.vm) z3, fun q hq => vk_R.same (u := U) (U := U.calling g mk a) rfl (z4 q hq), va_Zq.moved (u := U) (U := U.calling g mk a) (Vm.Alike.refl U.vm) z5⟩, ci_AO.moved (u := U) (U := U.calling g mk a) (Vm.Alike.refl U.vm) z6⟩, fun U hU hW => ⟨rfl, by rw [hU], by rw [hU]; exact hPc, va_K.moved hW.alike hK, hDc.weaken (fun _ _ _ _ => trivial), (ct_Str_to hStr hS hU hW).narrow hF, hAO.moved hW.alike⟩⟩ rfl rfl hsize rfl (by show 2 * 0 + _ ≤ 8; omega) hdg ⟨hcells, hslots⟩
  refine va_callv hrun hS (fun x _ h => hF x h) hF (fun u t H1 locs1 ht hvm _ hB hz1 hk1 hS1 => ?_)
  obtain ⟨hP1, hD1⟩ := hB
  rw [ht] at hP1
  have hPl := ci_Pl hP
  have apart : ∀ (k : Nat) (x : Nat × va_E), pre[k]? = some x → x.1 < H.size ∧ ¬ va_A [(q, e0)] H.size x.1 := by
    intro k x hx2
    have h1 := (hPl k x hx2).lt
    refine ⟨h1, fun z => ?_⟩
    rcases z with ⟨j, e1, hj⟩ | z
    · have hz : j < 1 := (List.getElem?_eq_some_iff.mp hj).1
      rw [show j = 0 by omega] at hj
      cases hj
      exact ci_Dx hD hx2 (show [(x.1, e0)][0]? = some (x.1, e0) from rfl) rfl
    · omega
  refine kk u H1 locs1 ((hPl.kept (fun k x hx2 => hk1 x.1 (apart k x hx2).1 (apart k x hx2).2)).app hP1) ((ci_Dl hD).app (hD1.weaken (fun _ _ _ h => hF _ h)) (fun i j a b hi hj e1 => ?_)) hS1
  have h1 := apart i a hi
  have h2 := hD1.2 j b hj
  rw [← e1] at h2
  exact h1.2 h2
end
