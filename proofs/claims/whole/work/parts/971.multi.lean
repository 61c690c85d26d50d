/-! new arrays of two dimensions -/
section
variable {E : CtlPost} {e : Env} {d : Bool} {acts : List Action} {s : State}
theorem mu_new {c comp : ClassId} {k : Class} {ty : FieldType} {n : Nat} {v : Value} (hk : s.vm.classes[c]? = some k) (hkind : k.kind = .array comp ty) (h1 : ¬ n > e.platform.arrayLengthLimit) (h2 : ¬ n * componentBytes ty > e.platform.maxHeapBytes) (hf : fits ty v = true) (hd : v.isDefault = true) {Q : Addr → Pre} (h3 : s.heap.size < e.platform.maxCells) (h4 : s.slotsUsed + n ≤ e.platform.maxSlots) (hq : Q s.heap.size d acts (s.pushCell { cls := c, slots := Array.replicate n v, vm := .none })) : wp (Jvm.newArray c n v) Q E e d acts s := by
  have a1 : ∀ i x, (Array.replicate n v)[i]? = some x → s.fitsSlot c .none i x = true := by
    intro i x hx
    rw [Array.getElem?_replicate] at hx
    by_cases z : i < n
    · rw [if_pos z] at hx
      cases hx
      simp [State.fitsSlot, State.slotType?, hk, hkind, hf]
    · rw [if_neg z] at hx; cases hx
  have a2 : allocActs (Array.replicate n v) s.heap.size acts = acts := by
    unfold allocActs
    rw [if_pos (by rw [Array.all_replicate]; split <;> simp [hd])]
  simp only [Jvm.newArray, Jvm.arrayFits, wp_bind', W.ask, W.ite, h1, if_false, wp_pure', W.theClass, hk, hkind, h2, W.alloc, W.stop, Option.some.injEq, exists_eq_left', Array.size_replicate, a2]
  rw [if_neg (by omega)]
  exact ⟨h3, h4, a1, hq⟩
theorem mu_ref {t : FieldType} (h : t.isReference = true) {v : Value} (hv : v = .null ∨ ∃ a, v = .ref a) : fits t v = true := by
  rcases hv with rfl | ⟨a, rfl⟩ <;> cases t <;> first | rfl | (cases h)
end
/-- the outer row's places, i of them told -/
def mu_sl (a N : Nat) : Nat → Array Value
  | 0 => Array.replicate N .null
  | i + 1 => (mu_sl a N i).setIfInBounds i (.ref (a + 1 + i))
theorem mu_sl_ok (a N : Nat) : ∀ i, (mu_sl a N i).size = N ∧ ∀ j, j < N → (mu_sl a N i)[j]? = some (if j < i then .ref (a + 1 + j) else .null)
  | 0 => ⟨by simp [mu_sl], fun j hj => by rw [mu_sl, Array.getElem?_replicate, if_pos hj, if_neg (by omega)]⟩
  | i + 1 => by
    obtain ⟨e2, e3⟩ := mu_sl_ok a N i
    refine ⟨by simp [mu_sl, e2], fun j hj => ?_⟩
    rw [mu_sl, Array.getElem?_setIfInBounds]
    by_cases z : i = j
    · subst z; rw [if_pos rfl, if_pos (by omega), if_pos (by omega)]
    · rw [if_neg z, e3 j hj]
      by_cases y : j < i
      · rw [if_pos y, if_pos (by omega)]
      · rw [if_neg y, if_neg (by omega)]
/-- the state with i inner rows -/
def mu_T (T : State) (cO cI : ClassId) (N M : Nat) (dv : Value) : Nat → State
  | 0 => T.pushCell { cls := cO, slots := mu_sl T.heap.size N 0, vm := .none }
  | i + 1 => ((mu_T T cO cI N M dv i).pushCell { cls := cI, slots := Array.replicate M dv, vm := .none }).setCell T.heap.size (({ cls := cO, slots := mu_sl T.heap.size N i, vm := .none } : Cell).setSlot i (.ref (T.heap.size + 1 + i)))
/-- i rows are laid: the outer one, told so far, and behind it the inner ones -/
def mu_I (p : Program) (l : Launch) (e : Env) (R : Room) (s : State) (m : MethodId) (args : Array Value) (below : List Frame) (meth : Method) (c : Code) (T : State) (locs : List Loc) (cells slots : Nat) (cO cI : ClassId) (N M : Nat) (dv : Value) (i : Nat) (T' : State) : Prop :=
  (∃ L : List Loc, (∀ x ∈ L, x.base = T.heap.size) ∧ Stand p l e R s m args below meth c T' (locs ++ L) (cells + 1 + i) (slots + N + i * M)) ∧ T'.vm = T.vm ∧ T'.heap.size = T.heap.size + 1 + i ∧ (∀ q, q < T.heap.size → T'.heap[q]? = T.heap[q]?) ∧ T'.heap[T.heap.size]? = some { cls := cO, slots := mu_sl T.heap.size N i, vm := .none } ∧ ∀ j, j < i → T'.heap[T.heap.size + 1 + j]? = some { cls := cI, slots := Array.replicate M dv, vm := .none }
section
variable {p : Program} {l : Launch} {e : Env} {R : Room} {s : State} {m : MethodId} {args : Array Value} {below : List Frame} {meth : Method} {c : Code} {T : State} {locs : List Loc} {cells slots : Nat}
theorem mu_all (X : Stand p l e R s m args below meth c T locs cells slots) (cO cI : ClassId) (N M : Nat) (dv : Value) : ∀ i, mu_I p l e R s m args below meth c T locs cells slots cO cI N M dv i (mu_T T cO cI N M dv i)
  | 0 => by
    refine ⟨⟨[], (fun x h => by cases h), ?_⟩, rfl, by simp [mu_T], fun q hq => State.heap_pushCell_of_lt _ _ hq, State.heap_pushCell_size _ _, fun j hj => by omega⟩
    have h := X.pushed { cls := cO, slots := mu_sl T.heap.size N 0, vm := .none }
    rw [show ({ cls := cO, slots := mu_sl T.heap.size N 0, vm := .none } : Cell).slots.size = N from (mu_sl_ok T.heap.size N 0).1] at h
    simpa [mu_T] using h
  | i + 1 => by
    obtain ⟨⟨L, hL, X'⟩, hvm, hsz, hold, e1, hin⟩ := mu_all X cO cI N M dv i
    have hlt : T.heap.size < (mu_T T cO cI N M dv i).heap.size := by omega
    have hc : ((mu_T T cO cI N M dv i).pushCell { cls := cI, slots := Array.replicate M dv, vm := .none }).heap[T.heap.size]? = some { cls := cO, slots := mu_sl T.heap.size N i, vm := .none } := by
      rw [State.heap_pushCell_of_lt _ _ hlt]; exact e1
    have h := (X'.pushed { cls := cI, slots := Array.replicate M dv, vm := .none }).stored hc i (.ref (T.heap.size + 1 + i))
    have hM : ({ cls := cI, slots := Array.replicate M dv, vm := .none } : Cell).slots.size = M := by simp
    rw [hM] at h
    refine ⟨⟨L ++ [⟨T.heap.size, i⟩], fun x hx => ?_, ?_⟩, by simpa [mu_T] using hvm, by simp [mu_T, State.setCell, hsz]; omega, fun q hq => ?_, State.heap_setCell_self hc, fun j hj => ?_⟩
    · rcases List.mem_append.mp hx with z | z
      · exact hL x z
      · rw [List.mem_singleton.mp z]
    · rw [show slots + N + (i + 1) * M = slots + N + i * M + M by rw [Nat.succ_mul]; omega, ← List.append_assoc]
      exact h
    · rw [mu_T, State.heap_setCell_other (show T.heap.size ≠ q by omega), State.heap_pushCell_of_lt _ _ (show q < (mu_T T cO cI N M dv i).heap.size by omega)]
      exact hold q hq
    · rw [mu_T, State.heap_setCell_other (show T.heap.size ≠ T.heap.size + 1 + j by omega)]
      by_cases z : j < i
      · rw [State.heap_pushCell_of_lt _ _ (show T.heap.size + 1 + j < (mu_T T cO cI N M dv i).heap.size by omega)]
        exact hin j z
      · have ej : j = i := by omega
        subst ej
        rw [← hsz]
        exact State.heap_pushCell_size _ _
theorem mu_Ttop (T : State) (f : JFrame) (cO cI : ClassId) (N M : Nat) (dv : Value) : ∀ i, mu_T (T.setTop f) cO cI N M dv i = (mu_T T cO cI N M dv i).setTop f
  | 0 => rfl
  | i + 1 => by simp only [mu_T, mu_Ttop T f cO cI N M dv i, State.heap_setTop, State.pushCell_setTop, State.setCell_setTop]
theorem mu_make {E : CtlPost} {d : Bool} {acts : List Action} {f : JFrame} (X : Stand p l e R s m args below meth c T locs cells slots) {cO cI cc : ClassId} {kO kI : Class} {tO ty : FieldType} {n k : Int32} {N M : Nat} (hN : n.toNatClampNeg = N) (hM : k.toNatClampNeg = M) (hkO : T.vm.classes[cO]? = some kO) (hkindO : kO.kind = .array cI tO) (href : tO.isReference = true) (hkI : T.vm.classes[cI]? = some kI) (hkindI : kI.kind = .array cc ty) (hn : ¬ n < 0) (hk : ¬ k < 0)
    (b1 : ¬ N > e.platform.arrayLengthLimit) (b2 : ¬ N * componentBytes tO > e.platform.maxHeapBytes) (b3 : ¬ M > e.platform.arrayLengthLimit) (b4 : ¬ M * componentBytes ty > e.platform.maxHeapBytes) (hdf : fits ty (defaultValue ty) = true) (hdd : (defaultValue ty).isDefault = true)
    (hcells : cells + 1 + N ≤ R.cells) (hslots : slots + N + N * M ≤ R.slots) {Q : Addr → Pre} (hq : ∀ d' acts', Q T.heap.size d' acts' ((mu_T T cO cI N M (defaultValue ty) N).setTop f)) : wp (multianewarray.make cO [n, k]) Q E e d acts (T.setTop f) := by
  subst hN; subst hM
  obtain ⟨r1, r2⟩ := X.roomAbove (a := 1) (b := n.toNatClampNeg) (by omega) (by omega)
  have hfind : ([k].find? (· < 0)) = none := by simp [hk]
  rw [multianewarray.make]
  simp only [wp_bind', W.ite, hn, if_false, wp_pure', W.theClass, State.vm_setTop, hkO, hkindO, Option.some.injEq, exists_eq_left']
  refine mu_new (k := kO) (by simpa using hkO) hkindO b1 b2 (mu_ref href (Or.inl rfl)) rfl (by simp; omega) (by simp; omega) ?_
  simp only [hfind]
  rw [ite_self, wp_bind', Std.Legacy.Range.forIn_eq_forIn_range']
  have hsz : ([:n.toNatClampNeg] : Std.Legacy.Range).size = n.toNatClampNeg := by simp [Std.Legacy.Range.size]
  rw [hsz]
  show wp (forIn (List.range' 0 n.toNatClampNeg 1) PUnit.unit _) _ E e d acts _
  refine wp_forIn_inv (fun rest s' => ∃ i : Nat, i ≤ n.toNatClampNeg ∧ rest = List.range' i (n.toNatClampNeg - i) ∧ s' = (mu_T T cO cI n.toNatClampNeg k.toNatClampNeg (defaultValue ty) i).setTop f) _ _ ⟨0, Nat.zero_le _, rfl, rfl⟩ ?_ ?_
  · rintro x rest s' d' acts' Q' ⟨i, hi, hl, rfl⟩ hnext
    have hlt : i < n.toNatClampNeg := by
      rcases Nat.lt_or_ge i n.toNatClampNeg with h | h
      · exact h
      · rw [show n.toNatClampNeg - i = 0 from by omega] at hl; simp at hl
    rw [show n.toNatClampNeg - i = (n.toNatClampNeg - (i + 1)) + 1 from by omega, List.range'_succ] at hl
    obtain ⟨rfl, hrest⟩ : x = i ∧ rest = List.range' (i + 1) (n.toNatClampNeg - (i + 1)) := ⟨(List.cons.inj hl).1, (List.cons.inj hl).2⟩
    obtain ⟨⟨L, hL, X'⟩, hvm, hsz', hold, e1, hin⟩ := mu_all X cO cI n.toNatClampNeg k.toNatClampNeg (defaultValue ty) x
    obtain ⟨e2, e3⟩ := mu_sl_ok T.heap.size n.toNatClampNeg x
    have hmul : x * k.toNatClampNeg + k.toNatClampNeg ≤ n.toNatClampNeg * k.toNatClampNeg := by
      have := Nat.mul_le_mul_right k.toNatClampNeg (show x + 1 ≤ n.toNatClampNeg from hlt)
      rw [Nat.succ_mul] at this; exact this
    obtain ⟨q1, q2⟩ := X'.roomAbove (a := 1) (b := k.toNatClampNeg) (by omega) (by omega)
    have hltT : T.heap.size < (mu_T T cO cI n.toNatClampNeg k.toNatClampNeg (defaultValue ty) x).heap.size := by omega
    simp only [wp_bind']
    rw [multianewarray.make]
    simp only [wp_bind', W.ite, hk, if_false, wp_pure', W.theClass, State.vm_setTop, hvm, hkI, hkindI, Option.some.injEq, exists_eq_left']
    refine mu_new (k := kI) (by simpa [hvm] using hkI) hkindI b3 b4 hdf hdd (by simp; omega) (by simp; omega) ?_
    simp only [wp_bind', W.writeLoc, wp_pure', State.pushCell_setTop, State.heap_setTop]
    refine ⟨{ cls := cO, slots := mu_sl T.heap.size n.toNatClampNeg x, vm := .none }, by rw [State.heap_pushCell_of_lt _ _ hltT]; exact e1, by simp, by show x < (mu_sl _ _ _).size; omega, ?_, ?_⟩
    · simp [State.fitsSlot, State.slotType?, hvm, hkO, hkindO, mu_ref href (Or.inr ⟨_, rfl⟩)]
    · rw [State.setCell_setTop, hsz']
      exact hnext _ _ _ ⟨x + 1, hlt, hrest, rfl⟩
  · rintro s' d' acts' ⟨i, hi, hl, rfl⟩
    have hiN : i = n.toNatClampNeg := by
      rcases Nat.lt_or_ge i n.toNatClampNeg with h | h
      · rw [show n.toNatClampNeg - i = (n.toNatClampNeg - (i + 1)) + 1 from by omega, List.range'_succ] at hl; cases hl
      · omega
    subst hiN
    simp only [wp_pure', State.heap_setTop]
    exact hq _ _
end
section
variable {p : Program} {l : Launch} {e : Env} {R : Room} {s : State} {m : MethodId} {args : Array Value} {below : List Frame} {meth : Method} {c : Code} {H : Heap} {locs : List Loc} {cells slots : Nat} {Q : State → Prop}
theorem mu_W {cc : ByteArray} (hexec : p.tables.exec = Jvm.exec) (hb : c.code = cc) {own nm : String} {index : Nat} {tO ty : FieldType} {cO cI c1 : ClassId} {kO kI : Class} (hown : s.vm.findClass own = some m.cls) (hclink : (Cond.classLink own index nm).before args s = true) (hname : s.vm.findClass nm = some cO) (hkO : s.vm.classes[cO]? = some kO) (hkindO : kO.kind = .array cI tO) (href : tO.isReference = true) (hkI : s.vm.classes[cI]? = some kI) (hkindI : kI.kind = .array c1 ty)
    {pc : Nat} {ls : Array Slot} {rest : List Value} {n k : Int32} {N M : Nat} (hN : n.toNatClampNeg = N) (hM : k.toNatClampNeg = M) (hdg : decode cc pc = .ok (.multianewarray index 2, 4)) (hn : ¬ n < 0) (hk : ¬ k < 0) (b1 : N * 8 ≤ 536870912) (b3 : M * 8 ≤ 536870912) (b2 : componentBytes tO ≤ 8) (b4 : componentBytes ty ≤ 8) (hdf : fits ty (defaultValue ty) = true) (hdd : (defaultValue ty).isDefault = true)
    (hcells : cells + 1 + N ≤ R.cells) (hslots : slots + N + N * M ≤ R.slots)
    (kk : ∀ (H1 : Heap) (L : List Loc), (∀ x ∈ L, x.base = H.size) → H1.size = H.size + 1 + N → (∀ q, q < H.size → H1[q]? = H[q]?) → H1[H.size]? = some (arrV cO N (fun j => .ref (H.size + 1 + j))) → (∀ j, j < N → H1[H.size + 1 + j]? = some (arrV cI M (fun _ => defaultValue ty))) → W p l e R s m args below meth c H1 (locs ++ L) (cells + 1 + N) (slots + N + N * M) Q (F0 m (pc + 4) ls (.ref H.size :: rest))) : W p l e R s m args below meth c H locs cells slots Q (F0 m pc ls (.int k :: .int n :: rest)) := by
  intro T hT X
  subst hT; subst hb
  have hpl : e.platform.magicAccessors = ({} : Platform).magicAccessors := by rw [X.admits.platform]
  obtain ⟨c0, hfc0, hcl⟩ := Cond.classLink_spec hown hclink e.platform hpl
  cases hname.symm.trans hfc0
  obtain ⟨hg₁, hwarm₁, hready₁⟩ := State.classEntry (e := e) X.warmed hcl
  generalize hv : T.vm.noted m.cls index (.cls cO) = vm₁ at hg₁ hwarm₁ hready₁
  have hal : s.vm.Alike vm₁ := hwarm₁.alike
  obtain ⟨kO₁, hkO₁, heO⟩ := hal.2.2 _ _ hkO
  obtain ⟨kI₁, hkI₁, heI⟩ := hal.2.2 _ _ hkI
  have X₁ := X.noted hwarm₁
  have m1 : N * componentBytes tO ≤ N * 8 := Nat.mul_le_mul_left _ b2
  have m2 : M * componentBytes ty ≤ M * 8 := Nat.mul_le_mul_left _ b4
  have key : ∃ t, Steps p.tables e below ((mu_T (T.setVm vm₁) cO cI N M (defaultValue ty) N).setTop (F0 m (pc + 4) ls (.ref T.heap.size :: rest))) t ∧ Q t := by
    obtain ⟨⟨L, hL, X'⟩, hvm, hsz, hold, e1, hin⟩ := mu_all X₁ cO cI N M (defaultValue ty) N
    obtain ⟨e2, e3⟩ := mu_sl_ok (T.setVm vm₁).heap.size N N
    refine kk _ L hL hsz hold ?_ (fun j hj => ?_) _ rfl X'
    · refine (show (mu_T (T.setVm vm₁) cO cI N M (defaultValue ty) N).heap[T.heap.size]? = _ from e1).trans ?_
      congr 1
      unfold arrV
      congr 1
      apply Array.ext_getElem?
      intro j
      by_cases hj : j < N
      · rw [e3 j hj, if_pos hj]
        simp [hj]
      · rw [Array.getElem?_eq_none (by omega), Array.getElem?_eq_none (by simp; omega)]
    · rw [← arrV_new]
      exact hin j hj
  obtain ⟨t, k1, k2⟩ := key
  refine ⟨t, ?_, k2⟩
  jvm_step X.here [X.here.top, hexec, hdg]
  simp only [multianewarray.sem, wp_bind', W.resolveClassAt_links (State.method?_setTop (F0 m pc ls (.int k :: .int n :: rest)) X.here.top) hg₁]
  rw [W.popN, if_neg (by decide)]
  refine ⟨F0 m pc ls (.int k :: .int n :: rest), State.topJava?_setTop' (s := T.setVm vm₁) _ X.here.top, [.int n, .int k], rest, rfl, rfl, ?_⟩
  simp only [List.mapM_cons, List.mapM_nil, wp_bind', wp_pure']
  have eS : ((T.setTop (F0 m pc ls (.int k :: .int n :: rest))).setVm vm₁).setTop { F0 m pc ls (.int k :: .int n :: rest) with stack := rest } = (T.setVm vm₁).setTop (F0 m pc ls rest) := by
    show ((T.setVm vm₁).setTop _).setTop _ = _
    rw [State.setTop_setTop]
  rw [eS]
  refine mu_make X₁ hN hM hkO₁ (by rw [heO]; exact hkindO) href hkI₁ (by rw [heI]; exact hkindI) hn hk (by rw [Launch.admits_arrayLengthLimit X.admits]; omega) (by rw [Launch.admits_maxHeapBytes X.admits]; omega) (by rw [Launch.admits_arrayLengthLimit X.admits]; omega) (by rw [Launch.admits_maxHeapBytes X.admits]; omega) hdf hdd hcells hslots (fun d' acts' => ?_)
  obtain ⟨⟨L, hL, XF⟩, -⟩ := mu_all X₁ cO cI N M (defaultValue ty) N
  simp only [wp_bind', W.mark, W.pushRef, State.topJava?_setTop' _ XF.here.top, Option.some.injEq, exists_eq_left', State.setTop_setTop, State.heap_setTop]
  intro acts
  simp [jvm, XF.here.top]
  exact k1
end
section
variable {p : Program} {l : Launch} {e : Env} {R : Room} {s : State} {m : MethodId} {args : Array Value} {below : List Frame} {meth : Method} {c : Code} {H : Heap} {locs : List Loc} {cells slots : Nat} {Q : State → Prop}
variable {cc : ByteArray} {mL : Nat} {own : String} {A : Nat → Prop} {D : va_G} {cA : Nat → ClassId} {ad : Nat → Nat} {pc : Nat} {ls : Array Slot} {rest : List Value} {ws : va_W}
/-- the cells of a new array of two dimensions at q: the outer row, then the inner ones -/
def mu_nl (cO cI : ClassId) (q N : Nat) (aI : vp_A) : va_W := (List.range (N + 1)).map fun k => (q + k, if k = 0 then .inl (cO, N, .inr (.inr (.inr (.inr (fun j => some (q + (j + 1))))))) else .inl (cI, aI))
theorem mu_nl_get {cO cI : ClassId} {q N : Nat} {aI : vp_A} {k : Nat} {x : Nat × va_E} (h : (mu_nl cO cI q N aI)[k]? = some x) : k < N + 1 ∧ x = (q + k, if k = 0 then .inl (cO, N, .inr (.inr (.inr (.inr (fun j => some (q + (j + 1))))))) else .inl (cI, aI)) := by
  unfold mu_nl at h
  have hk : k < N + 1 := by
    have := (List.getElem?_eq_some_iff.mp h).1
    simpa using this
  rw [List.getElem?_map, List.getElem?_range hk] at h
  exact ⟨hk, (Option.some.inj h).symm⟩
theorem ci_multi (C : ci_Cx p s m args meth c cc mL own A D cA ad) {ty : FieldType} {nm : String} {index kO kI : Nat} (hl : Cond.classLink own index nm ∈ ct_GW) (hO : ∃ k : Class, s.vm.classes[cA kO]? = some k ∧ k.kind = .array (cA kI) (.array ty)) (hI : ∃ (k : Class) (c1 : ClassId), s.vm.classes[cA kI]? = some k ∧ k.kind = .array c1 ty) (hnm : s.vm.findClass nm = some (cA kO)) (hP : va_P D ct_cl ws H) (hD : va_D A ws) (hS : va_S A s.heap H locs)
    {n k : Int32} {N M : Nat} {aI : vp_A} (ha : ∀ c : ClassId, vp_cell c aI = arrV c M (fun _ => defaultValue ty)) (hN : n.toNatClampNeg = N) (hM : k.toNatClampNeg = M) (hdg : decode cc pc = .ok (.multianewarray index 2, 4)) (hn : ¬ n < 0) (hk : ¬ k < 0) (b1 : N * 8 ≤ 536870912) (b3 : M * 8 ≤ 536870912) (b4 : componentBytes ty ≤ 8) (hdf : fits ty (defaultValue ty) = true) (hdd : (defaultValue ty).isDefault = true)
    (hcells : cells + 1 + N ≤ R.cells) (hslots : slots + N + N * M ≤ R.slots)
    (kk : ∀ (q : Nat) (H1 : Heap) (locs1 : List Loc), va_P D ct_cl (ws ++ mu_nl (cA kO) (cA kI) q N aI) H1 → va_D A (ws ++ mu_nl (cA kO) (cA kI) q N aI) → va_S A s.heap H1 locs1 → W p l e R s m args below meth c H1 locs1 (cells + 1 + N) (slots + N + N * M) Q (F0 m (pc + 4) ls (.ref q :: rest))) : W p l e R s m args below meth c H locs cells slots Q (F0 m pc ls (.int k :: .int n :: rest)) := by
  obtain ⟨hx, hb, hml, hown, hts, hK, hA, hStr, hAO⟩ := C
  obtain ⟨kC, h1, h2⟩ := hO
  obtain ⟨kI', c1, h3, h4⟩ := hI
  refine mu_W hx hb hown (hts _ hl) hnm h1 h2 rfl h3 h4 hN hM hdg hn hk b1 b3 (by show 4 ≤ 8; omega) b4 hdf hdd hcells hslots (fun H1 L hL z old eO eI => ?_)
  have hkeep : ∀ (k : Nat) (x : Nat × va_E), ws[k]? = some x → H1[x.1]? = H[x.1]? := fun k x hx2 => old x.1 ((hP k x hx2).lt)
  have hAH : ∀ q, H.size ≤ q → A q := fun q hq => hA q (Nat.le_trans hS.1 hq)
  refine kk H.size H1 (locs ++ L) ((hP.kept hkeep).app (fun k x hx2 => ?_)) (hD.app ⟨fun i j a b hi hj e1 => ?_, fun k x hx2 => ?_⟩ (fun i j a b hi hj e1 => ?_)) ⟨Nat.le_trans hS.1 (by omega), fun x y1 y2 => (old x (Nat.lt_of_lt_of_le y1 hS.1)).trans (hS.2.1 x y1 y2), fun x hx2 => ?_⟩
  · obtain ⟨g1, rfl⟩ := mu_nl_get hx2
    cases k with
    | zero =>
      show H1[H.size + 0]? = some (vp_cell _ _)
      rw [vp_cell_q]
      refine eO.trans ?_
      congr 1
      unfold arrV
      congr 2
      funext j
      show Value.ref (H.size + 1 + j.val) = Value.ref (H.size + (j.val + 1))
      rw [show H.size + 1 + j.val = H.size + (j.val + 1) by omega]
    | succ k =>
      show H1[H.size + (k + 1)]? = some (vp_cell _ _)
      rw [ha, show H.size + (k + 1) = H.size + 1 + k by omega]
      exact eI k (by omega)
  · obtain ⟨g1, rfl⟩ := mu_nl_get hi
    obtain ⟨g2, rfl⟩ := mu_nl_get hj
    dsimp only at e1
    omega
  · obtain ⟨g1, rfl⟩ := mu_nl_get hx2
    exact hAH _ (Nat.le_add_right _ _)
  · obtain ⟨g2, rfl⟩ := mu_nl_get hj
    have := (hP i a hi).lt
    dsimp only at e1
    omega
  · rcases List.mem_append.mp hx2 with z1 | z1
    · exact hS.2.2 x z1
    · rw [hL x z1]; exact hAH _ (Nat.le_refl _)
end
