def ct_GW : List Cond := lw_tbl.filter goodWord
theorem ct_GW_of {w : Cond} (i : Nat) (h : lw_tbl[i]? = some w) (hg : goodWord w = true) : w ∈ ct_GW := List.mem_filter.mpr ⟨List.mem_of_getElem? h, hg⟩
theorem ct_GW_sub {w : Cond} (h : w ∈ ct_GW) : w ∈ lw_tbl := (List.mem_filter.mp h).1
theorem ct_GW_good {w : Cond} (h : w ∈ ct_GW) : (w.onTables && w.keeps) = true ∨ ∃ ty, w = .arrayClass ty := good_of_word (List.mem_filter.mp h).2
abbrev ct_cl : List vw_C := [(RX0, TX0, 7), (RX1, TX1, 10), (RX2, TX2, 9), (RX3, TX3, 3), (RX4, TX4, 3), (RX5, TX5, 6), (RX6, TX6, 17), (RX7, TX7, 39)]
def ct_R (c : Nat) : String := match c with
  | 0 => RX0
  | 1 => RX1
  | 2 => RX2
  | 3 => RX3
  | 4 => RX4
  | 5 => RX5
  | 6 => RX6
  | _ => RX7
def ct_T (c : Nat) : u_T := match c with
  | 0 => TX0
  | 1 => TX1
  | 2 => TX2
  | 3 => TX3
  | 4 => TX4
  | 5 => TX5
  | 6 => TX6
  | _ => TX7
def ct_ty (c : Nat) : Nat → FieldType := match c with
  | 0 => tyX0
  | 1 => tyX1
  | 2 => tyX2
  | 3 => tyX3
  | 4 => tyX4
  | 5 => tyX5
  | 6 => tyX6
  | _ => tyX7
def ct_rtL : List (List Nat) := [[8, 99, 99, 99, 99, 99, 99], [0, 8, 8, 8, 8, 8, 8, 99, 99, 99], [0, 8, 8, 8, 8, 99, 99, 99, 99], [8, 8, 99], [11, 99, 99], [8, 99, 8, 8, 99, 99], [0, 2, 1, 1, 0, 2, 1, 3, 3, 3, 5, 12, 98, 0, 3, 3, 3], [99, 99, 99, 8, 9, 99, 8, 8, 99, 99, 10, 8, 8, 8, 99, 99, 8, 8, 99, 99, 8, 8, 8, 8, 99, 8, 8, 99, 8, 8, 8, 99, 8, 8, 13, 98, 8, 8, 14]]
def ct_rt (c j : Nat) : Nat := (ct_rtL.getD c []).getD j 99
def ct_N (c : Nat) : Nat := (ct_rtL.getD c []).length
theorem ct_cl_get : ∀ c, c < 8 → ct_cl[c]? = some (ct_R c, ct_T c, ct_N c) := by
  intro c h
  match c, h with
  | 0, _ => rfl
  | 1, _ => rfl
  | 2, _ => rfl
  | 3, _ => rfl
  | 4, _ => rfl
  | 5, _ => rfl
  | 6, _ => rfl
  | 7, _ => rfl
set_option maxRecDepth 100000 in
theorem ct_lay0 : u_ws RX0 TX0 7 = [142, 144, 146, 148, 150, 152, 154].filterMap (fun i => lw_tbl[i]?) := by decide +kernel
theorem ct_layg0 : (u_ws RX0 TX0 7).all goodWord = true := by decide +kernel
set_option maxRecDepth 100000 in
theorem ct_lay1 : u_ws RX1 TX1 10 = [216, 218, 220, 222, 224, 226, 228, 230, 232, 234].filterMap (fun i => lw_tbl[i]?) := by decide +kernel
theorem ct_layg1 : (u_ws RX1 TX1 10).all goodWord = true := by decide +kernel
set_option maxRecDepth 100000 in
theorem ct_lay2 : u_ws RX2 TX2 9 = [176, 178, 180, 182, 184, 186, 188, 190, 192].filterMap (fun i => lw_tbl[i]?) := by decide +kernel
theorem ct_layg2 : (u_ws RX2 TX2 9).all goodWord = true := by decide +kernel
set_option maxRecDepth 100000 in
theorem ct_lay3 : u_ws RX3 TX3 3 = [249, 251, 253].filterMap (fun i => lw_tbl[i]?) := by decide +kernel
theorem ct_layg3 : (u_ws RX3 TX3 3).all goodWord = true := by decide +kernel
set_option maxRecDepth 100000 in
theorem ct_lay4 : u_ws RX4 TX4 3 = [295, 297, 299].filterMap (fun i => lw_tbl[i]?) := by decide +kernel
theorem ct_layg4 : (u_ws RX4 TX4 3).all goodWord = true := by decide +kernel
set_option maxRecDepth 100000 in
theorem ct_lay5 : u_ws RX5 TX5 6 = [270, 272, 274, 276, 278, 280].filterMap (fun i => lw_tbl[i]?) := by decide +kernel
theorem ct_layg5 : (u_ws RX5 TX5 6).all goodWord = true := by decide +kernel
set_option maxRecDepth 100000 in
theorem ct_lay6 : u_ws RX6 TX6 17 = [320, 322, 324, 326, 328, 330, 332, 334, 336, 338, 340, 342, 344, 346, 348, 350, 352].filterMap (fun i => lw_tbl[i]?) := by decide +kernel
theorem ct_layg6 : (u_ws RX6 TX6 17).all goodWord = true := by decide +kernel
set_option maxRecDepth 100000 in
theorem ct_lay7 : u_ws RX7 TX7 39 = [1040, 1042, 1044, 1046, 1048, 1050, 1052, 1054, 1056, 1058, 1060, 1062, 1064, 1066, 1068, 1070, 1072, 1074, 1076, 1078, 1080, 1082, 1084, 1086, 1088, 1090, 1092, 1094, 1096, 1098, 1100, 1102, 1104, 1106, 1108, 1110, 1112, 1114, 1116].filterMap (fun i => lw_tbl[i]?) := by decide +kernel
theorem ct_layg7 : (u_ws RX7 TX7 39).all goodWord = true := by decide +kernel
theorem ct_inW {ws : List Cond} {ps : List Nat} (h : ws = ps.filterMap (fun i => lw_tbl[i]?)) (hg : ws.all goodWord = true) : ∀ w ∈ ws, w ∈ ct_GW := by
  intro w hw
  have h1 := List.all_eq_true.mp hg w hw
  rw [h] at hw
  obtain ⟨i, -, hi⟩ := List.mem_filterMap.mp hw
  exact ct_GW_of i hi h1
theorem ct_lays : ∀ c, c < 8 → ∀ w ∈ u_ws (ct_R c) (ct_T c) (ct_N c), w ∈ ct_GW := by
  intro c h
  match c, h with
  | 0, _ => exact ct_inW ct_lay0 ct_layg0
  | 1, _ => exact ct_inW ct_lay1 ct_layg1
  | 2, _ => exact ct_inW ct_lay2 ct_layg2
  | 3, _ => exact ct_inW ct_lay3 ct_layg3
  | 4, _ => exact ct_inW ct_lay4 ct_layg4
  | 5, _ => exact ct_inW ct_lay5 ct_layg5
  | 6, _ => exact ct_inW ct_lay6 ct_layg6
  | 7, _ => exact ct_inW ct_lay7 ct_layg7
theorem ct_ty_ok : ∀ c, c < 8 → ∀ k, k < ct_N c → parseFieldDescriptor (ct_T c k).2.2.1 = some (ct_ty c k) := by
  intro c h
  match c, h with
  | 0, _ => exact tyX0_ok
  | 1, _ => exact tyX1_ok
  | 2, _ => exact tyX2_ok
  | 3, _ => exact tyX3_ok
  | 4, _ => exact tyX4_ok
  | 5, _ => exact tyX5_ok
  | 6, _ => exact tyX6_ok
  | 7, _ => exact tyX7_ok
theorem ct_nm : ∀ c, c < 8 → ∀ a, a < ct_N c → ∀ b, b < ct_N c → a ≠ b → (ct_T c a).2.1 ≠ (ct_T c b).2.1 := by
  intro c h
  match c, h with
  | 0, _ => exact nmX0
  | 1, _ => exact nmX1
  | 2, _ => exact nmX2
  | 3, _ => exact nmX3
  | 4, _ => exact nmX4
  | 5, _ => exact nmX5
  | 6, _ => exact nmX6
  | 7, _ => exact nmX7
set_option maxRecDepth 100000 in
theorem ct_ty_int : ∀ c, c < 8 → ∀ k, k < ct_N c → (ct_rt c k = 99 → ct_ty c k = .int) ∧ (ct_rt c k = 98 → ct_ty c k = .boolean) := by decide +kernel
def ct_sL : List Nat := [4, 5, 4, 4, 4, 4, 0]
def ct_sB : List (List Int32) := [[115, 105, 122, 101], [112, 111, 105, 110, 116], [102, 105, 108, 108], [104, 105, 108, 108], [114, 117, 108, 101], [116, 117, 114, 110], []]
def ct_sR : List (String × Nat × String × Nat) := [("ContourTracer$Text", 69, "size", 0), ("ContourTracer$Text", 71, "point", 1), ("ContourTracer$Text", 73, "fill", 2), ("ContourTracer$Text", 75, "hill", 3), ("ContourTracer$Text", 77, "rule", 4), ("ContourTracer$Text", 79, "turn", 5), ("ContourTracer$Text", 81, "", 6), ("ContourTracerModel", 128, "size", 0), ("ContourTracerModel", 130, "point", 1), ("ContourTracerModel", 132, "fill", 2), ("ContourTracerModel", 134, "hill", 3), ("ContourTracerModel", 136, "rule", 4), ("ContourTracerModel", 138, "turn", 5)]
/-! the pure pictures: an int is an Int, a long an Int64, a reference a pair (code of its kind, number of its cell) -/
abbrev ct_PV : Type := Int ⊕ (Int64 ⊕ (Nat × Nat))
abbrev ct_L : Type := List (Nat × ct_PV)
abbrev ct_G : Type := (Nat → Nat → Nat) × (Nat → Nat)
abbrev ct_H : Type := (Nat → Nat → Int) × (Nat → Nat → Int64)
abbrev ct_I : Type := Nat × Instr × Nat × Nat
def ct_wr (a : Int) : Int := (a + 2147483648) % 4294967296 - 2147483648
def ct_in (a : Int) : Prop := -2147483648 ≤ a ∧ a < 2147483648
def ct_mv (ad : Nat → Nat) (v : ct_PV) : Value := match v with
  | .inl a => .int (Int32.ofInt a)
  | .inr (.inl x) => .long x
  | .inr (.inr q) => .ref (ad q.2)
def ct_cat (v : ct_PV) : Nat := match v with
  | .inl _ => 1
  | .inr (.inl _) => 2
  | .inr (.inr _) => 1
theorem ct_cat_mv (ad : Nat → Nat) (v : ct_PV) : (ct_mv ad v).category = ct_cat v := by
  rcases v with a | x | q <;> rfl
theorem ct_wr_in (a : Int) : ct_in (ct_wr a) := by unfold ct_in ct_wr; omega
theorem ct_wr_id {a : Int} (h : ct_in a) : ct_wr a = a := by unfold ct_in at h; unfold ct_wr; omega
theorem ct_toInt {a : Int} (h : ct_in a) : (Int32.ofInt a).toInt = a := by
  unfold ct_in at h
  rw [Int32.toInt_ofInt]
  unfold Int.bmod
  simp only [Int32.size]
  split <;> omega
theorem ct_of_toInt (x : Int32) : Int32.ofInt x.toInt = x := by simp
theorem ct_toInt_in (x : Int32) : ct_in x.toInt := ⟨Int32.le_toInt x, Int32.toInt_lt x⟩
theorem ct_ofInt_wr (a : Int) : Int32.ofInt (ct_wr a) = Int32.ofInt a := by
  have : (ct_wr a) = a - 4294967296 * ((a + 2147483648) / 4294967296) := by unfold ct_wr; omega
  rw [this]
  apply Int32.toInt_inj.mp
  rw [Int32.toInt_ofInt, Int32.toInt_ofInt]
  simp only [Int32.size]
  unfold Int.bmod
  have e : (a - 4294967296 * ((a + 2147483648) / 4294967296)) % ((4294967296 : Nat) : Int) = a % ((4294967296 : Nat) : Int) := by omega
  rw [e]
/-- which kind of slot, which length: kind codes 0..7 objects, 8 int[], 9 byte[], 10 boolean[], 11 long[], 12 Tape[], 13 int[][], 14 long[][], 15 a text -/
def ct_cell (cA : Nat → ClassId) (ad : Nat → Nat) (G : ct_G) (K : Nat → Nat) (h : ct_H) (i : Nat) : va_E :=
  if K i < 8 then .inr (K i, (List.range (ct_N (K i))).map (fun j => if 98 ≤ ct_rt (K i) j then Value.int (Int32.ofInt (h.1 i j)) else Value.ref (ad (G.1 i j))))
  else if K i ≤ 10 then .inl (cA (K i), G.2 i, .inl (fun j => Int32.ofInt (h.1 i j)))
  else if K i = 11 then .inl (cA 11, G.2 i, .inr (.inl (fun j => h.2 i j)))
  else .inl (cA (K i), G.2 i, .inr (.inr (.inr (.inr (fun j => some (ad (G.1 i j)))))))
def ct_ws (cA : Nat → ClassId) (ad : Nat → Nat) (G : ct_G) (K : Nat → Nat) (n : Nat) (h : ct_H) : va_W := (List.range n).map (fun i => (ad i, ct_cell cA ad G K h i))
theorem ct_ws_get {cA : Nat → ClassId} {ad : Nat → Nat} {G : ct_G} {K : Nat → Nat} {n : Nat} {h : ct_H} {i : Nat} (hi : i < n) : (ct_ws cA ad G K n h)[i]? = some (ad i, ct_cell cA ad G K h i) := by
  unfold ct_ws
  rw [List.getElem?_map, List.getElem?_range hi]
  rfl
theorem ct_ws_set {cA : Nat → ClassId} {ad : Nat → Nat} {G : ct_G} {K : Nat → Nat} {n : Nat} {h h' : ct_H} {i : Nat} {e : va_E} (he : e = ct_cell cA ad G K h' i) (ho : ∀ j, j ≠ i → ct_cell cA ad G K h' j = ct_cell cA ad G K h j) : (ct_ws cA ad G K n h).set i (ad i, e) = ct_ws cA ad G K n h' := by
  subst he
  apply List.ext_getElem?
  intro k
  by_cases hk : k < n
  · rw [ct_ws_get hk, List.getElem?_set]
    by_cases hki : i = k
    · subst hki
      have hl : i < (ct_ws cA ad G K n h).length := by unfold ct_ws; simpa using hk
      rw [if_pos rfl, if_pos hl]
    · rw [if_neg hki, ct_ws_get hk, ho k (fun q => hki q.symm)]
  · have e1 : (ct_ws cA ad G K n h').length ≤ k := by unfold ct_ws; simpa using Nat.le_of_not_lt hk
    have e2 : ((ct_ws cA ad G K n h).set i (ad i, ct_cell cA ad G K h' i)).length ≤ k := by rw [List.length_set]; unfold ct_ws; simpa using Nat.le_of_not_lt hk
    rw [List.getElem?_eq_none e1, List.getElem?_eq_none e2]
theorem ct_ws_len {cA : Nat → ClassId} {ad : Nat → Nat} {G : ct_G} {K : Nat → Nat} {n : Nat} {h : ct_H} : (ct_ws cA ad G K n h).length = n := by unfold ct_ws; simp
theorem ct_wsD {cA : Nat → ClassId} {ad : Nat → Nat} {G : ct_G} {K : Nat → Nat} {n : Nat} {h : ct_H} {A : Nat → Prop} (hj : ∀ i j, i < n → j < n → ad i = ad j → i = j) (hA : ∀ i, i < n → A (ad i)) : va_D A (ct_ws cA ad G K n h) := by
  refine ⟨fun i j p q hp hq e => ?_, fun k q hq => ?_⟩
  · have hi : i < n := by have := (List.getElem?_eq_some_iff.mp hp).1; rwa [ct_ws_len] at this
    have hj2 : j < n := by have := (List.getElem?_eq_some_iff.mp hq).1; rwa [ct_ws_len] at this
    rw [ct_ws_get hi] at hp
    rw [ct_ws_get hj2] at hq
    cases hp; cases hq
    exact hj i j hi hj2 e
  · have hi : k < n := by have := (List.getElem?_eq_some_iff.mp hq).1; rwa [ct_ws_len] at this
    rw [ct_ws_get hi] at hq
    cases hq
    exact hA k hi
/-- the kinds fit: what a cell's references lead to -/
def ct_et (k : Nat) : Nat := if k = 12 then 4 else if k = 13 then 8 else 11
def ct_WT (G : ct_G) (K : Nat → Nat) (n : Nat) : Prop := ∀ i, i < n → K i ≤ 14 ∧ G.2 i < 2147483648 ∧ (K i < 8 → ∀ j, j < ct_N (K i) → ct_rt (K i) j < 98 → G.1 i j < n ∧ K (G.1 i j) = ct_rt (K i) j) ∧ (12 ≤ K i → ∀ j, j < G.2 i → G.1 i j < n ∧ K (G.1 i j) = ct_et (K i))
def ct_ok (K : Nat → Nat) (n : Nat) (v : ct_PV) : Prop := match v with
  | .inl a => ct_in a
  | .inr (.inl _) => True
  | .inr (.inr q) => (q.2 < n ∧ K q.2 = q.1) ∨ ((15 ≤ q.1 ∧ q.1 ≤ 17) ∧ 1000 * (q.1 - 14) ≤ q.2 ∧ q.2 < 1000 * (q.1 - 14) + 7)
def ct_hin (h : ct_H) : Prop := ∀ i j, ct_in (h.1 i j)
def ct_wF (h : ct_H) (i j : Nat) (v : Int) : ct_H := (fun a b => if a = i ∧ b = j then v else h.1 a b, h.2)
def ct_wL (h : ct_H) (i j : Nat) (v : Int64) : ct_H := (h.1, fun a b => if a = i ∧ b = j then v else h.2 a b)
theorem ct_hin_wF {h : ct_H} {i j : Nat} {v : Int} (hh : ct_hin h) (hv : ct_in v) : ct_hin (ct_wF h i j v) := by
  intro a b
  unfold ct_wF
  dsimp only
  split
  · exact hv
  · exact hh a b
def ct_tys (cA : Nat → ClassId) : List (ClassId × FieldType) := [(cA 8, .int), (cA 9, .byte), (cA 10, .boolean), (cA 11, .long), (cA 12, .object RX4), (cA 13, .array .int), (cA 14, .array .long)]
/-- texts: constants of the class and of the reference -/
def ct_Str (ad : Nat → Nat) (A : Nat → Prop) (U : State) : Prop := vk_S 7 ct_sL ct_sB (fun i => ad (1000 + i)) (fun i => ad (2000 + i)) A U U.heap ∧ va_Z "java/lang/String" "COMPACT_STRINGS" "Z" (.int 1) A U U.heap ∧ (∀ q ∈ ct_sR, vk_R q.1 q.2.1 q.2.2.1 (ad (1000 + q.2.2.2)) U) ∧ va_Zq "jdk/internal/util/Preconditions" "SIOOBE_FORMATTER" "Ljava/util/function/BiFunction;" A U U.heap
/-- what holds all through a method's body -/
def ct_Cx (p : Program) (R : Room) (s : State) (m : MethodId) (args : Array Value) (c : Code) (bytes : ByteArray) (maxL : Nat) (own : String) (A : Nat → Prop) (D : va_G) (cA : Nat → ClassId) (ad : Nat → Nat) (G : ct_G) (K : Nat → Nat) (n d cells slots : Nat) : Prop :=
  p.tables.exec = Jvm.exec ∧ c.code = bytes ∧ c.maxLocals = maxL ∧ s.vm.findClass own = some m.cls ∧ (∀ w ∈ ct_GW, w.before args s = true) ∧ va_K D ct_cl (ct_tys cA) s ∧ ((∀ i j, i < n → j < n → ad i = ad j → i = j) ∧ ∀ i, i < n → A (ad i)) ∧ ct_WT G K n ∧ (d ≤ R.frames ∧ 40 * d ≤ R.locals ∧ cells ≤ R.cells ∧ slots ≤ R.slots) ∧ ct_Str ad A s
def ct_V (p : Program) (l : Launch) (e : Env) (R : Room) (s : State) (m : MethodId) (args : Array Value) (below : List Frame) (meth : Method) (c : Code) (maxL : Nat) (A : Nat → Prop) (D : va_G) (cA : Nat → ClassId) (ad : Nat → Nat) (G : ct_G) (K : Nat → Nat) (n cells slots : Nat) (Q : State → Prop) (pc : Nat) (ls : ct_L) (st : List ct_PV) (h : ct_H) : Prop :=
  ∀ (H : Heap) (locs : List Loc) (lm : Array Slot), va_P D ct_cl (ct_ws cA ad G K n h) H → va_S A s.heap H locs → lv_has lm maxL (ls.map fun q => (q.1, ct_mv ad q.2)) → (∀ q ∈ ls, ct_ok K n q.2) → (∀ v ∈ st, ct_ok K n v) → ct_hin h → W p l e R s m args below meth c H locs cells slots Q (F0 m pc lm (st.map (ct_mv ad)))

