/-! rules of the walk, on the pure pictures: stretches, arrays, division, branches -/
def ct_rd (G : ct_G) (h : ct_H) (a : Nat) (i : Int) : Option Int := if 0 ≤ i ∧ i < (G.2 a : Int) then some (h.1 a i.toNat) else none
def ct_rdL (G : ct_G) (h : ct_H) (a : Nat) (i : Int) : Option Int64 := if 0 ≤ i ∧ i < (G.2 a : Int) then some (h.2 a i.toNat) else none
def ct_rdR (G : ct_G) (a : Nat) (i : Int) : Option Nat := if 0 ≤ i ∧ i < (G.2 a : Int) then some (G.1 a i.toNat) else none
def ct_wt (G : ct_G) (h : ct_H) (a : Nat) (i v : Int) : Option ct_H := if 0 ≤ i ∧ i < (G.2 a : Int) then some (ct_wF h a i.toNat v) else none
def ct_wtB (G : ct_G) (h : ct_H) (a : Nat) (i v : Int) : Option ct_H := if (0 ≤ i ∧ i < (G.2 a : Int)) ∧ -128 ≤ v ∧ v ≤ 127 then some (ct_wF h a i.toNat v) else none
def ct_wtZ (G : ct_G) (h : ct_H) (a : Nat) (i v : Int) : Option ct_H := if (0 ≤ i ∧ i < (G.2 a : Int)) ∧ (v = 0 ∨ v = 1) then some (ct_wF h a i.toNat v) else none
def ct_wtL (G : ct_G) (h : ct_H) (a : Nat) (i : Int) (v : Int64) : Option ct_H := if 0 ≤ i ∧ i < (G.2 a : Int) then some (ct_wL h a i.toNat v) else none
def ct_dv (a b : Int) : Option Int := if 0 ≤ a ∧ 0 < b then some (a / b) else none
def ct_md (a b : Int) : Option Int := if 0 ≤ a ∧ 0 < b then some (a % b) else none
def ct_ctl (i : Instr) : Bool := match i with
  | .if_icmp _ _ => true
  | .ifCond _ _ => true
  | .goto _ => true
  | .tableswitch _ _ _ _ => true
  | .lookupswitch _ _ => true
  | .invokevirtual _ => true
  | .invokestatic _ => true
  | .invokespecial _ => true
  | .ldc _ => true
  | .ldc2_w _ => true
  | .new _ => true
  | .newarray _ => true
  | .anewarray _ => true
  | .multianewarray _ _ => true
  | .getstatic _ => true
  | _ => false
/-- the list is the method's -/
def ct_TK (own : String) (bytes : ByteArray) (T : List ct_I) : Prop := (∀ q ∈ T, decode bytes q.1 = .ok (q.2.1, q.2.2.1) ∧ ct_fok own q ∧ (ct_ctl q.2.1 = true ∨ q.2.2.1 = ct_len q.2.1)) ∧ ∀ (k : Nat) (q r : ct_I), T[k]? = some q → T[k + 1]? = some r → r.1 = q.1 + q.2.2.1
theorem ct_st1_ctl {G : ct_G} {mL : Nat} {q : ct_I} {ls : ct_L} {st : List ct_PV} {h : ct_H} {x : ct_S} (hs : ct_st1 G mL q ls st h = some x) : ct_ctl q.2.1 = false := by
  obtain ⟨pc, ins, len, aux⟩ := q
  cases ins <;> first | rfl | (cases hs)
theorem ct_pc_get {T : List ct_I} {k : Nat} {q : ct_I} (h : T[k]? = some q) : ct_pc T k = q.1 := by unfold ct_pc; rw [h]
section
variable {p : Program} {l : Launch} {e : Env} {R : Room} {s : State} {m : MethodId} {args : Array Value} {below : List Frame} {meth : Method} {c : Code} {maxL : Nat} {bytes : ByteArray} {own : String} {A : Nat → Prop} {D : va_G} {cA : Nat → ClassId} {ad : Nat → Nat} {G : ct_G} {K : Nat → Nat} {n d cells slots : Nat} {Q : State → Prop} {T : List ct_I} {k : Nat} {ls : ct_L} {st : List ct_PV} {h : ct_H}
theorem ct_Vrun (C : ct_Cx p R s m args c bytes maxL own A D cA ad G K n d cells slots) (hT : ct_TK own bytes T) : ∀ (j k : Nat) (ls : ct_L) (st : List ct_PV) (h : ct_H) (x : ct_S), ct_run G maxL j (T.drop k) ls st h = some x → k + j < T.length → ct_V p l e R s m args below meth c maxL A D cA ad G K n cells slots Q (ct_pc T (k + j)) x.1 x.2.1 x.2.2 → ct_V p l e R s m args below meth c maxL A D cA ad G K n cells slots Q (ct_pc T k) ls st h
  | 0, k, ls, st, h, x, hr, hlt, kk => by
    unfold ct_run at hr
    cases hr
    exact kk
  | j + 1, k, ls, st, h, x, hr, hlt, kk => by
    have hk : k < T.length := by omega
    have hk1 : k + 1 < T.length := by omega
    have e0 : T.drop k = T[k] :: T.drop (k + 1) := List.drop_eq_getElem_cons hk
    rw [e0] at hr
    unfold ct_run at hr
    cases hs : ct_st1 G maxL T[k] ls st h with
    | none => rw [hs] at hr; cases hr
    | some y =>
      rw [hs] at hr
      have hmem : T[k] ∈ T := List.getElem_mem hk
      obtain ⟨h1, h2, h3⟩ := hT.1 _ hmem
      have hlen : T[k].2.2.1 = ct_len T[k].2.1 := by
        rcases h3 with h3 | h3
        · rw [ct_st1_ctl hs] at h3; cases h3
        · exact h3
      have hg : T[k]? = some T[k] := List.getElem?_eq_getElem hk
      have hg1 : T[k + 1]? = some T[k + 1] := List.getElem?_eq_getElem hk1
      have hch := hT.2 k _ _ hg hg1
      have ih := ct_Vrun C hT j (k + 1) y.1 y.2.1 y.2.2 x hr (by omega) (by rw [show k + 1 + j = k + (j + 1) by omega]; exact kk)
      rw [ct_pc_get hg1, hch] at ih
      rw [ct_pc_get hg]
      exact ct_st1_ok C h1 hlen h2 hs ih
theorem ct_Vsub {ls' : ct_L} (ks : List Nat) (hl' : ks.filterMap (fun i => ls[i]?) = ls') (kk : ct_V p l e R s m args below meth c maxL A D cA ad G K n cells slots Q k ls' st h) : ct_V p l e R s m args below meth c maxL A D cA ad G K n cells slots Q k ls st h := by
  intro H locs lm hP hS hl ho hs hh
  have hm : ∀ q ∈ ls', q ∈ ls := by
    intro q hq
    rw [← hl'] at hq
    obtain ⟨i, -, hi⟩ := List.mem_filterMap.mp hq
    exact List.mem_of_getElem? hi
  refine kk H locs lm hP hS ⟨hl.1, hl.2.1, fun q hq => ?_⟩ (fun q hq => ho q (hm q hq)) hs hh
  obtain ⟨q0, h0, rfl⟩ := List.mem_map.mp hq
  exact hl.2.2 _ (List.mem_map.mpr ⟨q0, hm q0 h0, rfl⟩)
theorem ct_clamp {i : Int} (h : ct_in i) (h0 : 0 ≤ i) : (Int32.ofInt i).toNatClampNeg = i.toNat := by
  show (Int32.ofInt i).toInt.toNat = i.toNat
  rw [ct_toInt h]
theorem ct_vpin {i : Int} {N : Nat} (h : ct_in i) (h0 : 0 ≤ i ∧ i < (N : Int)) : vp_in (Int32.ofInt i) N := by
  rw [vp_in_iff, ct_toInt h]
  exact h0
theorem ct_Vrd (C : ct_Cx p R s m args c bytes maxL own A D cA ad G K n d cells slots) {pc a : Nat} {cd : Nat} {i v : Int} {ins : Instr} (hcd : (cd = 8 ∧ ins = .iaload) ∨ (cd = 9 ∧ ins = .baload) ∨ (cd = 10 ∧ ins = .baload)) (hdec : decode bytes pc = .ok (ins, 1)) (hv : ct_rd G h a i = some v)
    (kk : ct_V p l e R s m args below meth c maxL A D cA ad G K n cells slots Q (pc + 1) ls (.inl v :: st) h) : ct_V p l e R s m args below meth c maxL A D cA ad G K n cells slots Q pc ls (.inl i :: .inr (.inr (cd, a)) :: st) h := by
  obtain ⟨hx, hb, hml, hown, hts, hK, hD, hWT, hR, -⟩ := C
  intro H locs lm hP hS hl ho hs hh
  have hi : ct_in i := ct_hd hs
  have hq0 := ct_hd (ct_tl hs)
  rcases hq0 with ⟨hn, hk⟩ | ⟨hk, -⟩
  case inr => rcases hcd with ⟨z, -⟩ | ⟨z, -⟩ | ⟨z, -⟩ <;> (dsimp only at hk; omega)
  dsimp only at hn hk
  unfold ct_rd at hv
  split at hv
  case isFalse => cases hv
  rename_i hin
  cases hv
  have hcell := ct_ws_get (cA := cA) (ad := ad) (G := G) (K := K) (h := h) hn
  rw [ct_cell_int (by rcases hcd with ⟨z, -⟩ | ⟨z, -⟩ | ⟨z, -⟩ <;> omega) (by rcases hcd with ⟨z, -⟩ | ⟨z, -⟩ | ⟨z, -⟩ <;> omega), hk] at hcell
  have k2 := kk H locs lm hP hS hl ho (ct_cons_ok (hh _ _) (ct_tl (ct_tl hs))) hh
  rcases hcd with ⟨rfl, rfl⟩ | ⟨rfl, rfl⟩ | ⟨rfl, rfl⟩
  · refine va_iald hx hb hK hP a 0 hcell rfl (ct_vpin hi hin) hdec ?_
    rw [ct_clamp hi hin.1]; exact k2
  · refine va_bald hx hb hK hP a 1 hcell rfl (ct_vpin hi hin) hdec ?_
    rw [ct_clamp hi hin.1]; exact k2
  · refine va_zald hx hb hK hP a 2 hcell rfl (ct_vpin hi hin) hdec ?_
    rw [ct_clamp hi hin.1]; exact k2
theorem ct_VrdL (C : ct_Cx p R s m args c bytes maxL own A D cA ad G K n d cells slots) {pc a : Nat} {i : Int} {v : Int64} (hdec : decode bytes pc = .ok (.laload, 1)) (hv : ct_rdL G h a i = some v)
    (kk : ct_V p l e R s m args below meth c maxL A D cA ad G K n cells slots Q (pc + 1) ls (.inr (.inl v) :: st) h) : ct_V p l e R s m args below meth c maxL A D cA ad G K n cells slots Q pc ls (.inl i :: .inr (.inr (11, a)) :: st) h := by
  obtain ⟨hx, hb, hml, hown, hts, hK, hD, hWT, hR, -⟩ := C
  intro H locs lm hP hS hl ho hs hh
  have hi : ct_in i := ct_hd hs
  have hq0 := ct_hd (ct_tl hs)
  rcases hq0 with ⟨hn, hk⟩ | ⟨hk, -⟩
  case inr => dsimp only at hk; omega
  dsimp only at hn hk
  unfold ct_rdL at hv
  split at hv
  case isFalse => cases hv
  rename_i hin
  cases hv
  have hcell := ct_ws_get (cA := cA) (ad := ad) (G := G) (K := K) (h := h) hn
  rw [ct_cell_long hk] at hcell
  have k2 := kk H locs lm hP hS hl ho (ct_cons_ok trivial (ct_tl (ct_tl hs))) hh
  refine va_lald hx hb hK hP a 3 hcell rfl (ct_vpin hi hin) hdec ?_
  rw [ct_clamp hi hin.1]; exact k2
theorem ct_VrdR (C : ct_Cx p R s m args c bytes maxL own A D cA ad G K n d cells slots) {pc a v cd : Nat} {i : Int} (hcd : cd = 12 ∨ cd = 13 ∨ cd = 14) (hdec : decode bytes pc = .ok (.aaload, 1)) (hv : ct_rdR G a i = some v)
    (kk : ct_V p l e R s m args below meth c maxL A D cA ad G K n cells slots Q (pc + 1) ls (.inr (.inr (ct_et cd, v)) :: st) h) : ct_V p l e R s m args below meth c maxL A D cA ad G K n cells slots Q pc ls (.inl i :: .inr (.inr (cd, a)) :: st) h := by
  obtain ⟨hx, hb, hml, hown, hts, hK, hD, hWT, hR, -⟩ := C
  intro H locs lm hP hS hl ho hs hh
  have hi : ct_in i := ct_hd hs
  have hq0 := ct_hd (ct_tl hs)
  rcases hq0 with ⟨hn, hk⟩ | ⟨hk, -⟩
  case inr => dsimp only at hk; omega
  dsimp only at hn hk
  unfold ct_rdR at hv
  split at hv
  case isFalse => cases hv
  rename_i hin
  cases hv
  have hcell := ct_ws_get (cA := cA) (ad := ad) (G := G) (K := K) (h := h) hn
  rw [ct_cell_ref (by omega), hk] at hcell
  have hw := (hWT a hn).2.2.2 (by omega) i.toNat (by omega)
  rw [hk] at hw
  have k2 := kk H locs lm hP hS hl ho (ct_cons_ok (Or.inl hw) (ct_tl (ct_tl hs))) hh
  have hvp := ct_vpin hi hin
  have hlt : (Int32.ofInt i).toNatClampNeg < G.2 a := Nat.not_le.mp fun q => hvp (Or.inr q)
  have k3 : W p l e R s m args below meth c H locs cells slots Q (F0 m (pc + 1) lm (va_rf (some (ad (G.1 a (Int32.ofInt i).toNatClampNeg))) :: st.map (ct_mv ad))) := by
    rw [ct_clamp hi hin.1]; exact k2
  rcases hcd with rfl | rfl | rfl
  · exact va_aldq hx hb hK hP a 4 hcell rfl hvp hdec k3
  · exact W.aald (v := va_rf (some (ad (G.1 a (Int32.ofInt i).toNatClampNeg)))) (ty := .array .int) hx hb (hP a _ hcell) ((hK.2 5 _ rfl).1 _ (fun j => va_rf (some (ad (G.1 a j))))) rfl (fun q => by cases q) (by show ¬ (_ ∨ (arrV _ _ _).slots.size ≤ _); rw [arrV_size]; exact hvp) (by show (arrV _ _ _).slots[_]? = _; rw [arrV_read _ _ hlt]) rfl rfl hdec k3
  · exact W.aald (v := va_rf (some (ad (G.1 a (Int32.ofInt i).toNatClampNeg)))) (ty := .array .long) hx hb (hP a _ hcell) ((hK.2 6 _ rfl).1 _ (fun j => va_rf (some (ad (G.1 a j))))) rfl (fun q => by cases q) (by show ¬ (_ ∨ (arrV _ _ _).slots.size ≤ _); rw [arrV_size]; exact hvp) (by show (arrV _ _ _).slots[_]? = _; rw [arrV_read _ _ hlt]) rfl rfl hdec k3
theorem ct_narB {v : Int} (h : -128 ≤ v ∧ v ≤ 127) : vp_nar .byte (Int32.ofInt v) = Int32.ofInt v := by
  rw [vp_nar_byte]
  apply Int32.toInt_inj.mp
  rw [Int8.toInt_toInt32, Int32.toInt_toInt8, ct_toInt (by unfold ct_in; omega)]
  unfold Int.bmod
  simp only [Int8.size]
  split <;> omega
theorem ct_narZ {v : Int} (h : v = 0 ∨ v = 1) : vp_nar .boolean (Int32.ofInt v) = Int32.ofInt v := by
  rcases h with rfl | rfl <;> decide +kernel
theorem ct_Vwt_aux {cx : ClassId} {h : ct_H} {a j : Nat} {v : Int} (h8 : 8 ≤ K a) (h10 : K a ≤ 10) (hcx : cx = cA (K a)) : (ct_ws cA ad G K n h).set a (ad a, .inl (cx, G.2 a, .inl (upd (fun j => Int32.ofInt (h.1 a j)) j (Int32.ofInt v)))) = ct_ws cA ad G K n (ct_wF h a j v) := by
  refine ct_ws_set ?_ ct_cell_wF_ne
  rw [ct_cell_int h8 h10, hcx]
  congr 4
  funext b
  unfold upd ct_wF
  by_cases hb : b = j <;> simp [hb]
theorem ct_Vwt (C : ct_Cx p R s m args c bytes maxL own A D cA ad G K n d cells slots) {pc a : Nat} {i v : Int} {h' : ct_H} (hdec : decode bytes pc = .ok (.iastore, 1)) (hv : ct_wt G h a i v = some h')
    (kk : ct_V p l e R s m args below meth c maxL A D cA ad G K n cells slots Q (pc + 1) ls st h') : ct_V p l e R s m args below meth c maxL A D cA ad G K n cells slots Q pc ls (.inl v :: .inl i :: .inr (.inr (8, a)) :: st) h := by
  obtain ⟨hx, hb, hml, hown, hts, hK, hD, hWT, hR, -⟩ := C
  intro H locs lm hP hS hl ho hs hh
  have hv0 : ct_in v := ct_hd hs
  have hi : ct_in i := ct_hd (ct_tl hs)
  have hq0 := ct_hd (ct_tl (ct_tl hs))
  rcases hq0 with ⟨hn, hk⟩ | ⟨hk, -⟩
  case inr => dsimp only at hk; omega
  dsimp only at hn hk
  unfold ct_wt at hv
  split at hv
  case isFalse => cases hv
  rename_i hin
  cases hv
  have hcell := ct_ws_get (cA := cA) (ad := ad) (G := G) (K := K) (h := h) hn
  rw [ct_cell_int (by omega) (by omega)] at hcell
  refine va_iast hx hb hK hP (ct_wsD hD.1 hD.2) hS a 0 hcell (by rw [hk]; rfl) (ct_vpin hi hin) hdec (fun H1 locs1 hP1 hD1 hS1 => ?_)
  rw [ct_clamp hi hin.1, ct_Vwt_aux (by omega) (by omega) rfl] at hP1
  exact kk H1 locs1 lm hP1 hS1 hl ho (ct_tl (ct_tl (ct_tl hs))) (ct_hin_wF hh hv0)
theorem ct_VwtB (C : ct_Cx p R s m args c bytes maxL own A D cA ad G K n d cells slots) {pc a : Nat} {i v : Int} {h' : ct_H} (hdec : decode bytes pc = .ok (.bastore, 1)) (hv : ct_wtB G h a i v = some h')
    (kk : ct_V p l e R s m args below meth c maxL A D cA ad G K n cells slots Q (pc + 1) ls st h') : ct_V p l e R s m args below meth c maxL A D cA ad G K n cells slots Q pc ls (.inl v :: .inl i :: .inr (.inr (9, a)) :: st) h := by
  obtain ⟨hx, hb, hml, hown, hts, hK, hD, hWT, hR, -⟩ := C
  intro H locs lm hP hS hl ho hs hh
  have hv0 : ct_in v := ct_hd hs
  have hi : ct_in i := ct_hd (ct_tl hs)
  have hq0 := ct_hd (ct_tl (ct_tl hs))
  rcases hq0 with ⟨hn, hk⟩ | ⟨hk, -⟩
  case inr => dsimp only at hk; omega
  dsimp only at hn hk
  unfold ct_wtB at hv
  split at hv
  case isFalse => cases hv
  rename_i hin
  cases hv
  have hcell := ct_ws_get (cA := cA) (ad := ad) (G := G) (K := K) (h := h) hn
  rw [ct_cell_int (by omega) (by omega)] at hcell
  refine va_bast hx hb hK hP (ct_wsD hD.1 hD.2) hS a 1 hcell (by rw [hk]; rfl) (ct_vpin hi hin.1) hdec (fun H1 locs1 hP1 hD1 hS1 => ?_)
  rw [ct_clamp hi hin.1.1, ct_narB hin.2, ct_Vwt_aux (by omega) (by omega) rfl] at hP1
  exact kk H1 locs1 lm hP1 hS1 hl ho (ct_tl (ct_tl (ct_tl hs))) (ct_hin_wF hh hv0)
theorem ct_VwtZ (C : ct_Cx p R s m args c bytes maxL own A D cA ad G K n d cells slots) {pc a : Nat} {i v : Int} {h' : ct_H} (hdec : decode bytes pc = .ok (.bastore, 1)) (hv : ct_wtZ G h a i v = some h')
    (kk : ct_V p l e R s m args below meth c maxL A D cA ad G K n cells slots Q (pc + 1) ls st h') : ct_V p l e R s m args below meth c maxL A D cA ad G K n cells slots Q pc ls (.inl v :: .inl i :: .inr (.inr (10, a)) :: st) h := by
  obtain ⟨hx, hb, hml, hown, hts, hK, hD, hWT, hR, -⟩ := C
  intro H locs lm hP hS hl ho hs hh
  have hv0 : ct_in v := ct_hd hs
  have hi : ct_in i := ct_hd (ct_tl hs)
  have hq0 := ct_hd (ct_tl (ct_tl hs))
  rcases hq0 with ⟨hn, hk⟩ | ⟨hk, -⟩
  case inr => dsimp only at hk; omega
  dsimp only at hn hk
  unfold ct_wtZ at hv
  split at hv
  case isFalse => cases hv
  rename_i hin
  cases hv
  have hcell := ct_ws_get (cA := cA) (ad := ad) (G := G) (K := K) (h := h) hn
  rw [ct_cell_int (by omega) (by omega)] at hcell
  refine va_zast hx hb hK hP (ct_wsD hD.1 hD.2) hS a 2 hcell (by rw [hk]; rfl) (ct_vpin hi hin.1) hdec (fun H1 locs1 hP1 hD1 hS1 => ?_)
  rw [ct_clamp hi hin.1.1, ct_narZ hin.2, ct_Vwt_aux (by omega) (by omega) rfl] at hP1
  exact kk H1 locs1 lm hP1 hS1 hl ho (ct_tl (ct_tl (ct_tl hs))) (ct_hin_wF hh hv0)
theorem ct_VwtL (C : ct_Cx p R s m args c bytes maxL own A D cA ad G K n d cells slots) {pc a : Nat} {i : Int} {v : Int64} {h' : ct_H} (hdec : decode bytes pc = .ok (.lastore, 1)) (hv : ct_wtL G h a i v = some h')
    (kk : ct_V p l e R s m args below meth c maxL A D cA ad G K n cells slots Q (pc + 1) ls st h') : ct_V p l e R s m args below meth c maxL A D cA ad G K n cells slots Q pc ls (.inr (.inl v) :: .inl i :: .inr (.inr (11, a)) :: st) h := by
  obtain ⟨hx, hb, hml, hown, hts, hK, hD, hWT, hR, -⟩ := C
  intro H locs lm hP hS hl ho hs hh
  have hi : ct_in i := ct_hd (ct_tl hs)
  have hq0 := ct_hd (ct_tl (ct_tl hs))
  rcases hq0 with ⟨hn, hk⟩ | ⟨hk, -⟩
  case inr => dsimp only at hk; omega
  dsimp only at hn hk
  unfold ct_wtL at hv
  split at hv
  case isFalse => cases hv
  rename_i hin
  cases hv
  have hcell := ct_ws_get (cA := cA) (ad := ad) (G := G) (K := K) (h := h) hn
  rw [ct_cell_long hk] at hcell
  refine va_last hx hb hK hP (ct_wsD hD.1 hD.2) hS a 3 hcell rfl (ct_vpin hi hin) hdec (fun H1 locs1 hP1 hD1 hS1 => ?_)
  have he : (ct_ws cA ad G K n h).set a (ad a, .inl (cA 11, G.2 a, .inr (.inl (vp_updL (fun j => h.2 a j) i.toNat v)))) = ct_ws cA ad G K n (ct_wL h a i.toNat v) := by
    refine ct_ws_set ?_ ct_cell_wL_ne
    rw [ct_cell_long hk]
    congr 5
    funext b
    unfold vp_updL ct_wL
    by_cases hb : b = i.toNat <;> simp [hb]
  rw [ct_clamp hi hin.1, he] at hP1
  exact kk H1 locs1 lm hP1 hS1 hl ho (ct_tl (ct_tl (ct_tl hs))) hh
theorem ct_ofInt_div {a b : Int} (ha : ct_in a) (hb : ct_in b) (h0 : 0 ≤ a) (h1 : 0 < b) : Int32.ofInt a / Int32.ofInt b = Int32.ofInt (a / b) := by
  apply Int32.toInt_inj.mp
  have hle : a / b ≤ a := Int.ediv_le_self _ h0
  have hge : 0 ≤ a / b := Int.ediv_nonneg h0 (by omega)
  unfold ct_in at ha hb
  rw [Int32.toInt_div, ct_toInt ha, ct_toInt hb, ct_toInt (by unfold ct_in; omega), Int.tdiv_eq_ediv_of_nonneg h0]
  generalize a / b = q at hle hge
  have e : ((2 ^ 32 : Nat) : Int) = 4294967296 := by decide
  unfold Int.bmod
  rw [e]
  dsimp only
  split <;> omega
theorem ct_div_in {a b : Int} (ha : ct_in a) (h0 : 0 ≤ a) (h1 : 0 < b) : ct_in (a / b) := by
  have hle : a / b ≤ a := Int.ediv_le_self _ h0
  have hge : 0 ≤ a / b := Int.ediv_nonneg h0 (by omega)
  unfold ct_in at *
  omega
theorem ct_md_in {a b : Int} (hb : ct_in b) (h1 : 0 < b) : ct_in (a % b) := by
  have hle : a % b < b := Int.emod_lt_of_pos _ h1
  have hge : 0 ≤ a % b := Int.emod_nonneg _ (by omega)
  unfold ct_in at *
  omega
theorem ct_ofInt_ne {b : Int} (hb : ct_in b) (h1 : 0 < b) : ¬ Int32.ofInt b = 0 := by
  intro z
  have := congrArg Int32.toInt z
  rw [ct_toInt hb] at this
  have h0 : (0 : Int32).toInt = 0 := by decide
  omega
theorem ct_Vdv (C : ct_Cx p R s m args c bytes maxL own A D cA ad G K n d cells slots) {pc : Nat} {a b v : Int} (hdec : decode bytes pc = .ok (.idiv, 1)) (hv : ct_dv a b = some v)
    (kk : ct_V p l e R s m args below meth c maxL A D cA ad G K n cells slots Q (pc + 1) ls (.inl v :: st) h) : ct_V p l e R s m args below meth c maxL A D cA ad G K n cells slots Q pc ls (.inl b :: .inl a :: st) h := by
  intro H locs lm hP hS hl ho hs hh
  have hb : ct_in b := ct_hd hs
  have ha : ct_in a := ct_hd (ct_tl hs)
  unfold ct_dv at hv
  split at hv
  case isFalse => cases hv
  rename_i hc
  cases hv
  refine lv_idiv C.1 C.2.1 hdec (ct_ofInt_ne hb hc.2) ?_
  rw [ct_ofInt_div ha hb hc.1 hc.2]
  exact kk H locs lm hP hS hl ho (ct_cons_ok (ct_div_in ha hc.1 hc.2) (ct_tl (ct_tl hs))) hh
theorem ct_Vmd (C : ct_Cx p R s m args c bytes maxL own A D cA ad G K n d cells slots) {pc : Nat} {a b v : Int} (hdec : decode bytes pc = .ok (.irem, 1)) (hv : ct_md a b = some v)
    (kk : ct_V p l e R s m args below meth c maxL A D cA ad G K n cells slots Q (pc + 1) ls (.inl v :: st) h) : ct_V p l e R s m args below meth c maxL A D cA ad G K n cells slots Q pc ls (.inl b :: .inl a :: st) h := by
  intro H locs lm hP hS hl ho hs hh
  have hb : ct_in b := ct_hd hs
  have ha : ct_in a := ct_hd (ct_tl hs)
  unfold ct_md at hv
  split at hv
  case isFalse => cases hv
  rename_i hc
  cases hv
  refine lv_irem C.1 C.2.1 hdec (ct_ofInt_ne hb hc.2) ?_
  have e0 : Int32.ofInt a - Int32.ofInt a / Int32.ofInt b * Int32.ofInt b = Int32.ofInt (a % b) := by
    apply Int32.toInt_inj.mp
    rw [rem_toInt, ct_toInt ha, ct_toInt hb, ct_toInt (ct_md_in hb hc.2), Int.tmod_eq_emod_of_nonneg hc.1]
  rw [e0]
  exact kk H locs lm hP hS hl ho (ct_cons_ok (ct_md_in hb hc.2) (ct_tl (ct_tl hs))) hh
def ct_cmp (cn : Jvm.ClassFile.Cond) (a b : Int) : Prop := match cn with
  | .eq => a = b
  | .ne => ¬ a = b
  | .lt => a < b
  | .ge => b ≤ a
  | .gt => b < a
  | .le => a ≤ b
theorem ct_lt32 {a b : Int} (ha : ct_in a) (hb : ct_in b) : Int32.ofInt a < Int32.ofInt b ↔ a < b := by rw [Int32.lt_iff_toInt_lt, ct_toInt ha, ct_toInt hb]
theorem ct_le32 {a b : Int} (ha : ct_in a) (hb : ct_in b) : Int32.ofInt a ≤ Int32.ofInt b ↔ a ≤ b := by rw [Int32.le_iff_toInt_le, ct_toInt ha, ct_toInt hb]
theorem ct_eq32 {a b : Int} (ha : ct_in a) (hb : ct_in b) : Int32.ofInt a = Int32.ofInt b ↔ a = b := ⟨fun z => by have := congrArg Int32.toInt z; rwa [ct_toInt ha, ct_toInt hb] at this, fun z => by rw [z]⟩
theorem ct_Vicmp (C : ct_Cx p R s m args c bytes maxL own A D cA ad G K n d cells slots) {pc tgt : Nat} {a b off : Int} {cn : Jvm.ClassFile.Cond} (hdec : decode bytes pc = .ok (.if_icmp cn off, 3)) (ht : (pc : Int) + off = (tgt : Int))
    (kt : ct_cmp cn a b → ct_V p l e R s m args below meth c maxL A D cA ad G K n cells slots Q tgt ls st h) (kf : ¬ ct_cmp cn a b → ct_V p l e R s m args below meth c maxL A D cA ad G K n cells slots Q (pc + 3) ls st h) : ct_V p l e R s m args below meth c maxL A D cA ad G K n cells slots Q pc ls (.inl b :: .inl a :: st) h := by
  intro H locs lm hP hS hl ho hs hh
  have hb : ct_in b := ct_hd hs
  have ha : ct_in a := ct_hd (ct_tl hs)
  have hs2 := ct_tl (ct_tl hs)
  have k1 := fun z => kt z H locs lm hP hS hl ho hs2 hh
  have k2 := fun z => kf z H locs lm hP hS hl ho hs2 hh
  cases cn with
  | eq => exact lv_icmp_eq C.1 C.2.1 hdec ht (fun z => k1 ((ct_eq32 ha hb).mp z)) (fun z => k2 (fun w => z ((ct_eq32 ha hb).mpr w)))
  | ne => exact lv_icmp_ne C.1 C.2.1 hdec ht (fun z => k1 (fun w => z ((ct_eq32 ha hb).mpr w))) (fun z => k2 (fun w => w ((ct_eq32 ha hb).mp z)))
  | lt => exact lv_icmp_lt C.1 C.2.1 hdec ht (fun z => k1 ((ct_lt32 ha hb).mp z)) (fun z => k2 (fun w => z ((ct_lt32 ha hb).mpr w)))
  | ge => exact lv_icmp_ge C.1 C.2.1 hdec ht (fun z => k1 ((ct_le32 hb ha).mp z)) (fun z => k2 (fun w => z ((ct_le32 hb ha).mpr w)))
  | gt => exact lv_icmp_gt C.1 C.2.1 hdec ht (fun z => k1 ((ct_lt32 hb ha).mp z)) (fun z => k2 (fun w => z ((ct_lt32 hb ha).mpr w)))
  | le => exact lv_icmp_le C.1 C.2.1 hdec ht (fun z => k1 ((ct_le32 ha hb).mp z)) (fun z => k2 (fun w => z ((ct_le32 ha hb).mpr w)))
theorem ct_in0 : ct_in 0 := by unfold ct_in; omega
theorem ct_of0 : Int32.ofInt 0 = 0 := by decide
theorem ct_Vcond (C : ct_Cx p R s m args c bytes maxL own A D cA ad G K n d cells slots) {pc tgt : Nat} {a off : Int} {cn : Jvm.ClassFile.Cond} (hdec : decode bytes pc = .ok (.ifCond cn off, 3)) (ht : (pc : Int) + off = (tgt : Int))
    (kt : ct_cmp cn a 0 → ct_V p l e R s m args below meth c maxL A D cA ad G K n cells slots Q tgt ls st h) (kf : ¬ ct_cmp cn a 0 → ct_V p l e R s m args below meth c maxL A D cA ad G K n cells slots Q (pc + 3) ls st h) : ct_V p l e R s m args below meth c maxL A D cA ad G K n cells slots Q pc ls (.inl a :: st) h := by
  intro H locs lm hP hS hl ho hs hh
  have ha : ct_in a := ct_hd hs
  have hb := ct_in0
  have hs2 := ct_tl hs
  have k1 := fun z => kt z H locs lm hP hS hl ho hs2 hh
  have k2 := fun z => kf z H locs lm hP hS hl ho hs2 hh
  have e1 := ct_eq32 ha hb
  have e2 := ct_lt32 ha hb
  have e3 := ct_le32 hb ha
  have e4 := ct_lt32 hb ha
  have e5 := ct_le32 ha hb
  rw [ct_of0] at e1 e2 e3 e4 e5
  cases cn with
  | eq => exact lv_if_eq C.1 C.2.1 hdec ht (fun z => k1 (e1.mp z)) (fun z => k2 (fun w => z (e1.mpr w)))
  | ne => exact lv_if_ne C.1 C.2.1 hdec ht (fun z => k1 (fun w => z (e1.mpr w))) (fun z => k2 (fun w => w (e1.mp z)))
  | lt => exact lv_if_lt C.1 C.2.1 hdec ht (fun z => k1 (e2.mp z)) (fun z => k2 (fun w => z (e2.mpr w)))
  | ge => exact lv_if_ge C.1 C.2.1 hdec ht (fun z => k1 (e3.mp z)) (fun z => k2 (fun w => z (e3.mpr w)))
  | gt => exact lv_if_gt C.1 C.2.1 hdec ht (fun z => k1 (e4.mp z)) (fun z => k2 (fun w => z (e4.mpr w)))
  | le => exact lv_if_le C.1 C.2.1 hdec ht (fun z => k1 (e5.mp z)) (fun z => k2 (fun w => z (e5.mpr w)))
theorem ct_Vgoto (C : ct_Cx p R s m args c bytes maxL own A D cA ad G K n d cells slots) {pc tgt : Nat} {off : Int} (hdec : decode bytes pc = .ok (.goto off, 3)) (ht : (pc : Int) + off = (tgt : Int))
    (kt : ct_V p l e R s m args below meth c maxL A D cA ad G K n cells slots Q tgt ls st h) : ct_V p l e R s m args below meth c maxL A D cA ad G K n cells slots Q pc ls st h := by
  intro H locs lm hP hS hl ho hs hh
  exact lv_goto C.1 C.2.1 hdec ht (kt H locs lm hP hS hl ho hs hh)
/-- where a switch leads -/
def ct_sw (i : Instr) (a : Int) : Option Int := match i with
  | .tableswitch dflt lo hi offs => if a < lo ∨ hi < a then some dflt else offs[(a - lo).toNat]?
  | .lookupswitch dflt ps => if (ps.toList.zip (ps.toList.drop 1)).all (fun (a, next) => a.1 < next.1) = true then some (Op.lookupswitch.offset ps.toList dflt a) else none
  | _ => none
theorem ct_Vsw (C : ct_Cx p R s m args c bytes maxL own A D cA ad G K n d cells slots) {pc tgt len : Nat} {a off : Int} {ins : Instr} (hdec : decode bytes pc = .ok (ins, len)) (hsw : ct_sw ins a = some off) (ht : (pc : Int) + off = (tgt : Int))
    (kt : ct_V p l e R s m args below meth c maxL A D cA ad G K n cells slots Q tgt ls st h) : ct_V p l e R s m args below meth c maxL A D cA ad G K n cells slots Q pc ls (.inl a :: st) h := by
  intro H locs lm hP hS hl ho hs hh
  have ha : ct_in a := ct_hd hs
  have k1 := kt H locs lm hP hS hl ho (ct_tl hs) hh
  cases ins
  case tableswitch dflt lo hi offs =>
    dsimp only [ct_sw] at hsw
    split at hsw
    · rename_i hz
      cases hsw
      exact lv_tableOut C.1 C.2.1 hdec (by rw [ct_toInt ha]; exact hz) ht k1
    · rename_i hz
      exact lv_tableIn C.1 C.2.1 hdec (by rw [ct_toInt ha]; omega) (by rw [ct_toInt ha]; omega) (by rw [ct_toInt ha]; exact hsw) ht k1
  case lookupswitch dflt ps =>
    dsimp only [ct_sw] at hsw
    split at hsw
    · rename_i hz
      cases hsw
      exact lv_lookup C.1 C.2.1 hdec hz (by rw [ct_toInt ha]) ht k1
    · cases hsw
  all_goals (cases hsw)
end
