/-! one instruction on the pure pictures is the machine's -/
theorem ct_ofInt_add (a b : Int) : Int32.ofInt a + Int32.ofInt b = Int32.ofInt (ct_wr (a + b)) := by rw [ct_ofInt_wr, Int32.ofInt_add]
theorem ct_ofInt_sub (a b : Int) : Int32.ofInt a - Int32.ofInt b = Int32.ofInt (ct_wr (a - b)) := by rw [ct_ofInt_wr, Int32.ofInt_sub]
theorem ct_ofInt_mul (a b : Int) : Int32.ofInt a * Int32.ofInt b = Int32.ofInt (ct_wr (a * b)) := by rw [ct_ofInt_wr, Int32.ofInt_mul]
section
variable {p : Program} {l : Launch} {e : Env} {R : Room} {s : State} {m : MethodId} {args : Array Value} {below : List Frame} {meth : Method} {c : Code} {maxL : Nat} {bytes : ByteArray} {own : String} {A : Nat → Prop} {D : va_G} {cA : Nat → ClassId} {ad : Nat → Nat} {G : ct_G} {K : Nat → Nat} {n d cells slots : Nat} {Q : State → Prop} {pc : Nat} {ls : ct_L} {st : List ct_PV} {h : ct_H}
theorem ct_pushOk {len : Nat} {v : ct_PV} (row : ∀ (H : Heap) (locs : List Loc) (lm : Array Slot) (rest : List Value), lv_has lm maxL (ls.map fun q => (q.1, ct_mv ad q.2)) → W p l e R s m args below meth c H locs cells slots Q (F0 m (pc + len) lm (ct_mv ad v :: rest)) → W p l e R s m args below meth c H locs cells slots Q (F0 m pc lm rest))
    (hv : (∀ q ∈ ls, ct_ok K n q.2) → ct_ok K n v) (k : ct_V p l e R s m args below meth c maxL A D cA ad G K n cells slots Q (pc + len) ls (v :: st) h) : ct_V p l e R s m args below meth c maxL A D cA ad G K n cells slots Q pc ls st h := by
  intro H locs lm hP hS hl ho hs hh
  exact row H locs lm _ hl (k H locs lm hP hS hl ho (ct_cons_ok (hv ho) hs) hh)
theorem ct_bIOk {f : Int → Int → Int} {g : Int32 → Int32 → Int32} {a b : Int} {r : List ct_PV} (row : ∀ (H : Heap) (locs : List Loc) (lm : Array Slot) (rest : List Value) (x y : Int32), W p l e R s m args below meth c H locs cells slots Q (F0 m (pc + 1) lm (.int (g x y) :: rest)) → W p l e R s m args below meth c H locs cells slots Q (F0 m pc lm (.int y :: .int x :: rest)))
    (hg : g (Int32.ofInt a) (Int32.ofInt b) = Int32.ofInt (f a b)) (hf : ct_in (f a b)) (k : ct_V p l e R s m args below meth c maxL A D cA ad G K n cells slots Q (pc + 1) ls (.inl (f a b) :: r) h) : ct_V p l e R s m args below meth c maxL A D cA ad G K n cells slots Q pc ls (.inl b :: .inl a :: r) h := by
  intro H locs lm hP hS hl ho hs hh
  refine row H locs lm _ _ _ ?_
  rw [hg]
  exact k H locs lm hP hS hl ho (ct_cons_ok hf (ct_tl (ct_tl hs))) hh
theorem ct_bLOk {g : Int64 → Int64 → Int64} {a b : Int64} {r : List ct_PV} (row : ∀ (H : Heap) (locs : List Loc) (lm : Array Slot) (rest : List Value) (x y : Int64), W p l e R s m args below meth c H locs cells slots Q (F0 m (pc + 1) lm (.long (g x y) :: rest)) → W p l e R s m args below meth c H locs cells slots Q (F0 m pc lm (.long y :: .long x :: rest)))
    (k : ct_V p l e R s m args below meth c maxL A D cA ad G K n cells slots Q (pc + 1) ls (.inr (.inl (g a b)) :: r) h) : ct_V p l e R s m args below meth c maxL A D cA ad G K n cells slots Q pc ls (.inr (.inl b) :: .inr (.inl a) :: r) h := by
  intro H locs lm hP hS hl ho hs hh
  exact row H locs lm _ _ _ (k H locs lm hP hS hl ho (ct_cons_ok trivial (ct_tl (ct_tl hs))) hh)
theorem ct_bSOk {f : Int64 → Int → Int64} {a : Int64} {b : Int} {r : List ct_PV} (row : ∀ (H : Heap) (locs : List Loc) (lm : Array Slot) (rest : List Value), W p l e R s m args below meth c H locs cells slots Q (F0 m (pc + 1) lm (.long (f a b) :: rest)) → W p l e R s m args below meth c H locs cells slots Q (F0 m pc lm (.int (Int32.ofInt b) :: .long a :: rest)))
    (k : ct_V p l e R s m args below meth c maxL A D cA ad G K n cells slots Q (pc + 1) ls (.inr (.inl (f a b)) :: r) h) : ct_V p l e R s m args below meth c maxL A D cA ad G K n cells slots Q pc ls (.inl b :: .inr (.inl a) :: r) h := by
  intro H locs lm hP hS hl ho hs hh
  exact row H locs lm _ (k H locs lm hP hS hl ho (ct_cons_ok trivial (ct_tl (ct_tl hs))) hh)
theorem ct_uOk {f : Int → Int} {a : Int} {r : List ct_PV} (row : ∀ (H : Heap) (locs : List Loc) (lm : Array Slot) (rest : List Value), W p l e R s m args below meth c H locs cells slots Q (F0 m (pc + 1) lm (.int (Int32.ofInt (f a)) :: rest)) → W p l e R s m args below meth c H locs cells slots Q (F0 m pc lm (.int (Int32.ofInt a) :: rest)))
    (hf : ct_in (f a)) (k : ct_V p l e R s m args below meth c maxL A D cA ad G K n cells slots Q (pc + 1) ls (.inl (f a) :: r) h) : ct_V p l e R s m args below meth c maxL A D cA ad G K n cells slots Q pc ls (.inl a :: r) h := by
  intro H locs lm hP hS hl ho hs hh
  exact row H locs lm _ (k H locs lm hP hS hl ho (ct_cons_ok hf (ct_tl hs)) hh)
theorem ct_stoOk {len i : Nat} {v : ct_PV} {r : List ct_PV} (hc : ct_cat v = 1) (hi : i < maxL) (row : ∀ (H : Heap) (locs : List Loc) (lm : Array Slot) (rest : List Value) (lv lv' : List (Nat × Value)), lv_has lm maxL lv → (i, ct_mv ad v) :: lv.filter (fun q => !(q.1 == i) && !(q.1 + 1 == i && q.2.category == 2)) = lv' → (∀ ls' : Array Slot, lv_has ls' maxL lv' → W p l e R s m args below meth c H locs cells slots Q (F0 m (pc + len) ls' rest)) → W p l e R s m args below meth c H locs cells slots Q (F0 m pc lm (ct_mv ad v :: rest)))
    (k : ct_V p l e R s m args below meth c maxL A D cA ad G K n cells slots Q (pc + len) (ct_sto ls i v) r h) : ct_V p l e R s m args below meth c maxL A D cA ad G K n cells slots Q pc ls (v :: r) h := by
  intro H locs lm hP hS hl ho hs hh
  exact row H locs lm _ _ _ hl (ct_sto_map ad ls i v) (fun ls' hl' => k H locs ls' hP hS hl' (ct_sto_ok ho (ct_hd hs)) (ct_tl hs) hh)
theorem ct_stoLOk {len i : Nat} {v : ct_PV} {r : List ct_PV} (hi : i + 1 < maxL) (row : ∀ (H : Heap) (locs : List Loc) (lm : Array Slot) (rest : List Value) (lv lv' : List (Nat × Value)), lv_has lm maxL lv → (i, ct_mv ad v) :: lv.filter (fun q => !(q.1 == i) && (!(q.1 == i + 1) && !(q.1 + 1 == i && q.2.category == 2))) = lv' → (∀ ls' : Array Slot, lv_has ls' maxL lv' → W p l e R s m args below meth c H locs cells slots Q (F0 m (pc + len) ls' rest)) → W p l e R s m args below meth c H locs cells slots Q (F0 m pc lm (ct_mv ad v :: rest)))
    (k : ct_V p l e R s m args below meth c maxL A D cA ad G K n cells slots Q (pc + len) (ct_stoL ls i v) r h) : ct_V p l e R s m args below meth c maxL A D cA ad G K n cells slots Q pc ls (v :: r) h := by
  intro H locs lm hP hS hl ho hs hh
  exact row H locs lm _ _ _ hl (ct_stoL_map ad ls i v) (fun ls' hl' => k H locs ls' hP hS hl' (ct_stoL_ok ho (ct_hd hs)) (ct_tl hs) hh)
theorem ct_getOk (C : ct_Cx p R s m args c bytes maxL own A D cA ad G K n d cells slots) {idx cc j : Nat} {q : Nat × Nat} {v : ct_PV} {r : List ct_PV} (hcc : cc < 8) (hj : j < ct_N cc) (hw : Cond.fieldLink own idx (ct_T cc j).1 (ct_T cc j).2.1 (ct_T cc j).2.2.1 ∈ ct_GW) (hq : q.1 = cc) (hv : v = if 98 ≤ ct_rt cc j then .inl (h.1 q.2 j) else .inr (.inr (ct_rt cc j, G.1 q.2 j))) (hdec : decode bytes pc = .ok (.getfield idx, 3))
    (k : ct_V p l e R s m args below meth c maxL A D cA ad G K n cells slots Q (pc + 3) ls (v :: r) h) : ct_V p l e R s m args below meth c maxL A D cA ad G K n cells slots Q pc ls (.inr (.inr q) :: r) h := by
  obtain ⟨hx, hb, hml, hown, hts, hK, hD, hWT, hR, -⟩ := C
  intro H locs lm hP hS hl ho hs hh
  have hq0 := ct_hd hs
  rcases hq0 with ⟨hn, hk⟩ | ⟨hk, -⟩
  case inr => omega
  have hk2 : K q.2 = cc := hk.trans hq
  have hcell := ct_ws_get (cA := cA) (ad := ad) (G := G) (K := K) (h := h) hn
  rw [ct_cell_obj (by omega), hk2] at hcell
  have hvo : ct_ok K n v := by
    rw [hv]
    split
    · exact hh _ _
    · rename_i hge
      have hz := (hWT q.2 hn).2.2.1 (by omega) j (by rw [hk2]; exact hj) (by rw [hk2]; omega)
      rw [hk2] at hz
      exact Or.inl hz
  refine va_get (D := D) (ci := cc) (C := ct_R cc) (T := ct_T cc) (N := ct_N cc) (v := ct_mv ad v) hx hb hts (ct_lays cc hcc) hown hK hP q.2 hcell (ct_cl_get cc hcc) j hj (hts _ hw) (fun _ z => z) ?_ hdec (k H locs lm hP hS hl ho (ct_cons_ok hvo (ct_tl hs)) hh)
  rw [List.getElem?_map, List.getElem?_range hj, hv]
  show some (if 98 ≤ ct_rt cc j then Value.int (Int32.ofInt (h.1 q.2 j)) else Value.ref (ad (G.1 q.2 j))) = some _
  split <;> rfl
theorem ct_fitB {v : Int} (hv : v = 0 ∨ v = 1) : narrow .boolean (.int (Int32.ofInt v)) = .int (Int32.ofInt v) ∧ fits .boolean (.int (Int32.ofInt v)) = true := by
  rcases hv with rfl | rfl <;> decide +kernel
theorem ct_fitI {v : Int32} : narrow .int (.int v) = .int v ∧ fits .int (.int v) = true := ⟨rfl, rfl⟩
theorem ct_putOk (C : ct_Cx p R s m args c bytes maxL own A D cA ad G K n d cells slots) {idx cc j : Nat} {q : Nat × Nat} {v : Int} {r : List ct_PV} (hcc : cc < 8) (hj : j < ct_N cc) (hw : Cond.fieldLink own idx (ct_T cc j).1 (ct_T cc j).2.1 (ct_T cc j).2.2.1 ∈ ct_GW) (hfin : (ct_T cc j).2.2.2 = false) (hq : q.1 = cc) (hv : ct_rt cc j = 99 ∨ (ct_rt cc j = 98 ∧ (v = 0 ∨ v = 1))) (hdec : decode bytes pc = .ok (.putfield idx, 3))
    (k : ct_V p l e R s m args below meth c maxL A D cA ad G K n cells slots Q (pc + 3) ls r (ct_wF h q.2 j v)) : ct_V p l e R s m args below meth c maxL A D cA ad G K n cells slots Q pc ls (.inl v :: .inr (.inr q) :: r) h := by
  obtain ⟨hx, hb, hml, hown, hts, hK, hD, hWT, hR, -⟩ := C
  intro H locs lm hP hS hl ho hs hh
  have hv0 : ct_in v := ct_hd hs
  have hq0 := ct_hd (ct_tl hs)
  rcases hq0 with ⟨hn, hk⟩ | ⟨hk, -⟩
  case inr => omega
  have hk2 : K q.2 = cc := hk.trans hq
  have hcell := ct_ws_get (cA := cA) (ad := ad) (G := G) (K := K) (h := h) hn
  rw [ct_cell_obj (by omega), hk2] at hcell
  have hty := ct_ty_int cc hcc j hj
  have hfit : narrow (ct_ty cc j) (.int (Int32.ofInt v)) = .int (Int32.ofInt v) ∧ fits (ct_ty cc j) (.int (Int32.ofInt v)) = true := by
    rcases hv with h1 | ⟨h1, h2⟩
    · rw [hty.1 h1]; exact ct_fitI
    · rw [hty.2 h1]; exact ct_fitB h2
  refine va_put (D := D) (ci := cc) (C := ct_R cc) (T := ct_T cc) (N := ct_N cc) (v := .int (Int32.ofInt v)) (ty := ct_ty cc j) hx hb hts (ct_lays cc hcc) (ct_ty cc) (ct_ty_ok cc hcc) (ct_nm cc hcc) hown hK hP (ct_wsD hD.1 hD.2) hS q.2 hcell (ct_cl_get cc hcc) j hj (hts _ hw) (fun _ z => z) hfin (ct_ty_ok cc hcc j hj) hfit.1 hfit.2 (by simpa using hj) hdec (fun H1 locs1 hP1 hD1 hS1 => ?_)
  have he : (ct_ws cA ad G K n h).set q.2 (ad q.2, .inr (cc, ((List.range (ct_N cc)).map (fun j => if 98 ≤ ct_rt cc j then Value.int (Int32.ofInt (h.1 q.2 j)) else Value.ref (ad (G.1 q.2 j)))).set j (.int (Int32.ofInt v)))) = ct_ws cA ad G K n (ct_wF h q.2 j v) := by
    refine ct_ws_set ?_ ct_cell_wF_ne
    rw [ct_cell_obj (by omega), hk2]
    congr 2
    apply List.ext_getElem?
    intro i
    rw [List.getElem?_set, List.getElem?_map, List.getElem?_map]
    by_cases hi : j = i
    · subst hi
      rw [if_pos rfl, if_pos (by simpa using hj), List.getElem?_range hj]
      have h98 : 98 ≤ ct_rt cc j := by omega
      simp [ct_wF, h98]
    · rw [if_neg hi]
      by_cases hi2 : i < ct_N cc
      · rw [List.getElem?_range hi2]
        show some _ = some _
        have : ¬ i = j := fun z => hi z.symm
        simp [ct_wF, this]
      · rw [List.getElem?_eq_none (by simpa using Nat.le_of_not_lt hi2)]
        rfl
  rw [he] at hP1
  exact k H1 locs1 lm hP1 hS1 hl ho (ct_tl (ct_tl hs)) (ct_hin_wF hh hv0)
end
