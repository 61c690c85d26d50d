/-! one instruction of a straight stretch, on the pure pictures -/
def ct_lk (ls : ct_L) (k : Nat) : Option ct_PV := match ls with
  | [] => none
  | q :: r => if q.1 = k then some q.2 else ct_lk r k
def ct_sto (ls : ct_L) (k : Nat) (v : ct_PV) : ct_L := (k, v) :: ls.filter (fun q => !(q.1 == k) && !(q.1 + 1 == k && ct_cat q.2 == 2))
def ct_stoL (ls : ct_L) (k : Nat) (v : ct_PV) : ct_L := (k, v) :: ls.filter (fun q => !(q.1 == k) && (!(q.1 == k + 1) && !(q.1 + 1 == k && ct_cat q.2 == 2)))
abbrev ct_S : Type := ct_L × List ct_PV × ct_H
def ct_ldI (ls : ct_L) (k : Nat) (st : List ct_PV) (h : ct_H) : Option ct_S := match ct_lk ls k with
  | some (.inl a) => some (ls, .inl a :: st, h)
  | _ => none
def ct_ldL (ls : ct_L) (k : Nat) (st : List ct_PV) (h : ct_H) : Option ct_S := match ct_lk ls k with
  | some (.inr (.inl a)) => some (ls, .inr (.inl a) :: st, h)
  | _ => none
def ct_ldA (ls : ct_L) (k : Nat) (st : List ct_PV) (h : ct_H) : Option ct_S := match ct_lk ls k with
  | some (.inr (.inr a)) => some (ls, .inr (.inr a) :: st, h)
  | _ => none
def ct_stI (mL : Nat) (ls : ct_L) (k : Nat) (st : List ct_PV) (h : ct_H) : Option ct_S := match st with
  | .inl a :: r => if k < mL then some (ct_sto ls k (.inl a), r, h) else none
  | _ => none
def ct_stA (mL : Nat) (ls : ct_L) (k : Nat) (st : List ct_PV) (h : ct_H) : Option ct_S := match st with
  | .inr (.inr a) :: r => if k < mL then some (ct_sto ls k (.inr (.inr a)), r, h) else none
  | _ => none
def ct_stL (mL : Nat) (ls : ct_L) (k : Nat) (st : List ct_PV) (h : ct_H) : Option ct_S := match st with
  | .inr (.inl a) :: r => if k + 1 < mL then some (ct_stoL ls k (.inr (.inl a)), r, h) else none
  | _ => none
def ct_bI (f : Int → Int → Int) (ls : ct_L) (st : List ct_PV) (h : ct_H) : Option ct_S := match st with
  | .inl b :: .inl a :: r => some (ls, .inl (f a b) :: r, h)
  | _ => none
def ct_bL (f : Int64 → Int64 → Int64) (ls : ct_L) (st : List ct_PV) (h : ct_H) : Option ct_S := match st with
  | .inr (.inl b) :: .inr (.inl a) :: r => some (ls, .inr (.inl (f a b)) :: r, h)
  | _ => none
def ct_bS (f : Int64 → Int → Int64) (ls : ct_L) (st : List ct_PV) (h : ct_H) : Option ct_S := match st with
  | .inl b :: .inr (.inl a) :: r => some (ls, .inr (.inl (f a b)) :: r, h)
  | _ => none
def ct_u (f : Int → Int) (ls : ct_L) (st : List ct_PV) (h : ct_H) : Option ct_S := match st with
  | .inl a :: r => some (ls, .inl (f a) :: r, h)
  | _ => none
def ct_get (G : ct_G) (c j : Nat) (ls : ct_L) (st : List ct_PV) (h : ct_H) : Option ct_S := match st with
  | .inr (.inr q) :: r => if q.1 = c then (if 98 ≤ ct_rt c j then some (ls, .inl (h.1 q.2 j) :: r, h) else some (ls, .inr (.inr (ct_rt c j, G.1 q.2 j)) :: r, h)) else none
  | _ => none
def ct_put (c j : Nat) (ls : ct_L) (st : List ct_PV) (h : ct_H) : Option ct_S := match st with
  | .inl v :: .inr (.inr q) :: r => if q.1 = c then (if ct_rt c j = 99 then some (ls, r, ct_wF h q.2 j v) else if ct_rt c j = 98 then (if v = 0 ∨ v = 1 then some (ls, r, ct_wF h q.2 j v) else none) else none) else none
  | _ => none
def ct_bop (f : Int32 → Int32 → Int32) (a b : Int) : Int := (f (Int32.ofInt a) (Int32.ofInt b)).toInt
def ct_st1 (G : ct_G) (mL : Nat) (q : ct_I) (ls : ct_L) (st : List ct_PV) (h : ct_H) : Option ct_S := match q.2.1 with
  | .iconst n => if -1 ≤ n ∧ n ≤ 5 then some (ls, .inl n :: st, h) else none
  | .bipush n => if -128 ≤ n ∧ n ≤ 127 then some (ls, .inl n :: st, h) else none
  | .sipush n => if -32768 ≤ n ∧ n ≤ 32767 then some (ls, .inl n :: st, h) else none
  | .lconst n => some (ls, .inr (.inl (Int64.ofNat n.val)) :: st, h)
  | .iload_n k => ct_ldI ls k.val st h
  | .iload k => ct_ldI ls k st h
  | .lload_n k => ct_ldL ls k.val st h
  | .lload k => ct_ldL ls k st h
  | .aload_n k => ct_ldA ls k.val st h
  | .aload k => ct_ldA ls k st h
  | .istore_n k => ct_stI mL ls k.val st h
  | .istore k => ct_stI mL ls k st h
  | .lstore_n k => ct_stL mL ls k.val st h
  | .lstore k => ct_stL mL ls k st h
  | .astore_n k => ct_stA mL ls k.val st h
  | .astore k => ct_stA mL ls k st h
  | .iinc k n => match ct_lk ls k with
    | some (.inl a) => if k < mL then some (ct_sto ls k (.inl (ct_wr (a + n))), st, h) else none
    | _ => none
  | .iadd => ct_bI (fun a b => ct_wr (a + b)) ls st h
  | .isub => ct_bI (fun a b => ct_wr (a - b)) ls st h
  | .imul => ct_bI (fun a b => ct_wr (a * b)) ls st h
  | .iand => ct_bI (ct_bop (fun x y => x &&& y)) ls st h
  | .ior => ct_bI (ct_bop (fun x y => x ||| y)) ls st h
  | .ixor => ct_bI (ct_bop (fun x y => x ^^^ y)) ls st h
  | .ishl => ct_bI (ct_bop (fun x y => x <<< (y &&& 31))) ls st h
  | .ishr => ct_bI (ct_bop (fun x y => x >>> (y &&& 31))) ls st h
  | .ladd => ct_bL (fun a b => a + b) ls st h
  | .lsub => ct_bL (fun a b => a - b) ls st h
  | .land => ct_bL (fun a b => a &&& b) ls st h
  | .lor => ct_bL (fun a b => a ||| b) ls st h
  | .lxor => ct_bL (fun a b => a ^^^ b) ls st h
  | .lshl => ct_bS (fun a b => a <<< ((Int32.ofInt b).toInt64 &&& 63)) ls st h
  | .lshr => ct_bS (fun a b => a >>> ((Int32.ofInt b).toInt64 &&& 63)) ls st h
  | .lushr => ct_bS (fun a b => (a.toUInt64 >>> ((Int32.ofInt b).toInt64.toUInt64 &&& Int64.toUInt64 63)).toInt64) ls st h
  | .i2b => ct_u (fun a => (Int32.ofInt a).toInt8.toInt32.toInt) ls st h
  | .i2s => ct_u (fun a => (Int32.ofInt a).toInt16.toInt32.toInt) ls st h
  | .i2c => ct_u (fun a => ((Int32.ofInt a).toUInt32 % 65536).toInt32.toInt) ls st h
  | .i2l => match st with
    | .inl a :: r => some (ls, .inr (.inl (Int32.ofInt a).toInt64) :: r, h)
    | _ => none
  | .l2i => match st with
    | .inr (.inl a) :: r => some (ls, .inl a.toInt32.toInt :: r, h)
    | _ => none
  | .lcmp => match st with
    | .inr (.inl b) :: .inr (.inl a) :: r => some (ls, .inl (lg_cmp a b).toInt :: r, h)
    | _ => none
  | .dup => match st with
    | v :: r => if ct_cat v = 1 then some (ls, v :: v :: r, h) else none
    | _ => none
  | .dup2 => match st with
    | v :: w :: r => if ct_cat v = 1 ∧ ct_cat w = 1 then some (ls, v :: w :: v :: w :: r, h) else none
    | _ => none
  | .arraylength => match st with
    | .inr (.inr q) :: r => if 8 ≤ q.1 ∧ q.1 ≤ 14 then some (ls, .inl (G.2 q.2 : Int) :: r, h) else none
    | _ => none
  | .getfield _ => ct_get G (q.2.2.2 / 64) (q.2.2.2 % 64) ls st h
  | .putfield _ => ct_put (q.2.2.2 / 64) (q.2.2.2 % 64) ls st h
  | _ => none
def ct_len (i : Instr) : Nat := match i with
  | .bipush _ => 2
  | .sipush _ => 3
  | .iload _ => 2
  | .lload _ => 2
  | .aload _ => 2
  | .istore _ => 2
  | .lstore _ => 2
  | .astore _ => 2
  | .iinc _ _ => 3
  | .getfield _ => 3
  | .putfield _ => 3
  | _ => 1
/-- what the tables must say of a row of a method's list -/
def ct_fok (own : String) (q : ct_I) : Prop := match q.2.1 with
  | .getfield idx => q.2.2.2 / 64 < 8 ∧ q.2.2.2 % 64 < ct_N (q.2.2.2 / 64) ∧ Cond.fieldLink own idx (ct_T (q.2.2.2 / 64) (q.2.2.2 % 64)).1 (ct_T (q.2.2.2 / 64) (q.2.2.2 % 64)).2.1 (ct_T (q.2.2.2 / 64) (q.2.2.2 % 64)).2.2.1 ∈ ct_GW
  | .putfield idx => q.2.2.2 / 64 < 8 ∧ q.2.2.2 % 64 < ct_N (q.2.2.2 / 64) ∧ Cond.fieldLink own idx (ct_T (q.2.2.2 / 64) (q.2.2.2 % 64)).1 (ct_T (q.2.2.2 / 64) (q.2.2.2 % 64)).2.1 (ct_T (q.2.2.2 / 64) (q.2.2.2 % 64)).2.2.1 ∈ ct_GW ∧ (98 ≤ ct_rt (q.2.2.2 / 64) (q.2.2.2 % 64) → (ct_T (q.2.2.2 / 64) (q.2.2.2 % 64)).2.2.2 = false)
  | _ => True
theorem ct_lk_mem {k : Nat} {v : ct_PV} : ∀ {ls : ct_L}, ct_lk ls k = some v → (k, v) ∈ ls
  | [], h => by cases h
  | q :: r, h => by
    unfold ct_lk at h
    split at h
    · rename_i e
      cases h
      subst e
      exact List.mem_cons_self
    · exact List.mem_cons_of_mem _ (ct_lk_mem h)
theorem ct_lk_idx {ad : Nat → Nat} {ls : ct_L} {k : Nat} {v : ct_PV} (h : ct_lk ls k = some v) : ∃ j : Nat, (ls.map fun q => (q.1, ct_mv ad q.2))[j]? = some (k, ct_mv ad v) := by
  obtain ⟨j, hj⟩ := List.getElem?_of_mem (ct_lk_mem h)
  exact ⟨j, by rw [List.getElem?_map, hj]; rfl⟩
theorem ct_sto_map (ad : Nat → Nat) (ls : ct_L) (k : Nat) (v : ct_PV) : (k, ct_mv ad v) :: (ls.map fun q => (q.1, ct_mv ad q.2)).filter (fun q => !(q.1 == k) && !(q.1 + 1 == k && q.2.category == 2)) = (ct_sto ls k v).map fun q => (q.1, ct_mv ad q.2) := by
  unfold ct_sto
  rw [List.map_cons, List.filter_map]
  congr 2
  apply congrArg (List.filter · ls)
  funext q
  simp [Function.comp, ct_cat_mv]
theorem ct_stoL_map (ad : Nat → Nat) (ls : ct_L) (k : Nat) (v : ct_PV) : (k, ct_mv ad v) :: (ls.map fun q => (q.1, ct_mv ad q.2)).filter (fun q => !(q.1 == k) && (!(q.1 == k + 1) && !(q.1 + 1 == k && q.2.category == 2))) = (ct_stoL ls k v).map fun q => (q.1, ct_mv ad q.2) := by
  unfold ct_stoL
  rw [List.map_cons, List.filter_map]
  congr 2
  apply congrArg (List.filter · ls)
  funext q
  simp [Function.comp, ct_cat_mv]
theorem ct_sto_ok {K : Nat → Nat} {n : Nat} {ls : ct_L} {k : Nat} {v : ct_PV} (h : ∀ q ∈ ls, ct_ok K n q.2) (hv : ct_ok K n v) : ∀ q ∈ ct_sto ls k v, ct_ok K n q.2 := by
  intro q hq
  rcases List.mem_cons.mp hq with e | e
  · rw [e]; exact hv
  · exact h q (List.mem_filter.mp e).1
theorem ct_stoL_ok {K : Nat → Nat} {n : Nat} {ls : ct_L} {k : Nat} {v : ct_PV} (h : ∀ q ∈ ls, ct_ok K n q.2) (hv : ct_ok K n v) : ∀ q ∈ ct_stoL ls k v, ct_ok K n q.2 := by
  intro q hq
  rcases List.mem_cons.mp hq with e | e
  · rw [e]; exact hv
  · exact h q (List.mem_filter.mp e).1
theorem ct_cons_ok {K : Nat → Nat} {n : Nat} {v : ct_PV} {r : List ct_PV} (hv : ct_ok K n v) (h : ∀ w ∈ r, ct_ok K n w) : ∀ w ∈ v :: r, ct_ok K n w := by
  intro w hw
  rcases List.mem_cons.mp hw with e | e
  · rw [e]; exact hv
  · exact h w e
theorem ct_tl {K : Nat → Nat} {n : Nat} {v : ct_PV} {r : List ct_PV} (h : ∀ w ∈ v :: r, ct_ok K n w) : ∀ w ∈ r, ct_ok K n w := fun w hw => h w (List.mem_cons_of_mem _ hw)
theorem ct_hd {K : Nat → Nat} {n : Nat} {v : ct_PV} {r : List ct_PV} (h : ∀ w ∈ v :: r, ct_ok K n w) : ct_ok K n v := h v List.mem_cons_self
theorem ct_cell_obj {cA : Nat → ClassId} {ad : Nat → Nat} {G : ct_G} {K : Nat → Nat} {h : ct_H} {i : Nat} (hk : K i < 8) : ct_cell cA ad G K h i = .inr (K i, (List.range (ct_N (K i))).map (fun j => if 98 ≤ ct_rt (K i) j then Value.int (Int32.ofInt (h.1 i j)) else Value.ref (ad (G.1 i j)))) := by
  unfold ct_cell
  rw [if_pos hk]
theorem ct_cell_int {cA : Nat → ClassId} {ad : Nat → Nat} {G : ct_G} {K : Nat → Nat} {h : ct_H} {i : Nat} (h1 : 8 ≤ K i) (h2 : K i ≤ 10) : ct_cell cA ad G K h i = .inl (cA (K i), G.2 i, .inl (fun j => Int32.ofInt (h.1 i j))) := by
  unfold ct_cell
  rw [if_neg (by omega), if_pos h2]
theorem ct_cell_long {cA : Nat → ClassId} {ad : Nat → Nat} {G : ct_G} {K : Nat → Nat} {h : ct_H} {i : Nat} (h1 : K i = 11) : ct_cell cA ad G K h i = .inl (cA 11, G.2 i, .inr (.inl (fun j => h.2 i j))) := by
  unfold ct_cell
  rw [if_neg (by omega), if_neg (by omega), if_pos h1]
theorem ct_cell_ref {cA : Nat → ClassId} {ad : Nat → Nat} {G : ct_G} {K : Nat → Nat} {h : ct_H} {i : Nat} (h1 : 12 ≤ K i) : ct_cell cA ad G K h i = .inl (cA (K i), G.2 i, .inr (.inr (.inr (.inr (fun j => some (ad (G.1 i j))))))) := by
  unfold ct_cell
  rw [if_neg (by omega), if_neg (by omega), if_neg (by omega)]
theorem ct_cell_wF_ne {cA : Nat → ClassId} {ad : Nat → Nat} {G : ct_G} {K : Nat → Nat} {h : ct_H} {i j : Nat} {v : Int} : ∀ a, a ≠ i → ct_cell cA ad G K (ct_wF h i j v) a = ct_cell cA ad G K h a := by
  intro a ha
  unfold ct_cell ct_wF
  simp [ha]
theorem ct_cell_wL_ne {cA : Nat → ClassId} {ad : Nat → Nat} {G : ct_G} {K : Nat → Nat} {h : ct_H} {i j : Nat} {v : Int64} : ∀ a, a ≠ i → ct_cell cA ad G K (ct_wL h i j v) a = ct_cell cA ad G K h a := by
  intro a ha
  unfold ct_cell ct_wL
  simp [ha]
