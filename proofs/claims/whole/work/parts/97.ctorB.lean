/-! helps for the two great constructors -/
theorem ci_at {X Y : va_W} {i : Nat} {q : Nat × va_E} (h : Y[i]? = some q) : (X ++ Y)[X.length + i]? = some q := by
  rw [List.getElem?_append_right (Nat.le_add_right _ _), Nat.add_sub_cancel_left]
  exact h
theorem ci_set (X Y : va_W) (i : Nat) (q : Nat × va_E) : (X ++ Y).set (X.length + i) q = X ++ Y.set i q := by
  rw [List.set_append_right _ _ (Nat.le_add_right _ _), Nat.add_sub_cancel_left]
theorem ci_congr {D : va_G} {cl : List vw_C} {H : Heap} {a : Nat} {c : ClassId} {n : Nat} {f g : Nat → Option Nat} (h : va_at D cl (a, .inl (c, n, .inr (.inr (.inr (.inr f))))) H) (e : ∀ j, j < n → f j = g j) : va_at D cl (a, .inl (c, n, .inr (.inr (.inr (.inr g))))) H := by
  have h1 : H[a]? = some (vp_cell c (n, .inr (.inr (.inr (.inr f))))) := h
  show H[a]? = some (vp_cell c (n, .inr (.inr (.inr (.inr g)))))
  rw [h1, vp_cell_q, vp_cell_q]
  unfold arrV
  congr 3
  funext j
  dsimp only
  rw [e j.val j.isLt]
theorem ci_congrI {D : va_G} {cl : List vw_C} {H : Heap} {a : Nat} {c : ClassId} {n : Nat} {f g : Nat → Int32} (h : va_at D cl (a, .inl (c, n, .inl f)) H) (e : ∀ j, j < n → f j = g j) : va_at D cl (a, .inl (c, n, .inl g)) H := by
  have h1 : H[a]? = some (vp_cell c (n, .inl f)) := h
  show H[a]? = some (vp_cell c (n, .inl g))
  rw [h1, vp_cell_i, vp_cell_i]
  unfold arrV
  congr 3
  funext j
  dsimp only
  rw [e j.val j.isLt]
theorem ci_Pmid {D : va_G} {cl : List vw_C} {H : Heap} {X Y : va_W} {q r : Nat × va_E} (h : va_P D cl (X ++ q :: Y) H) (hr : va_at D cl q H → va_at D cl r H) : va_P D cl (X ++ r :: Y) H := by
  have h1 := ci_Pl h
  have h2 := ci_Pr h
  refine h1.app (fun k z hk => ?_)
  cases k with
  | zero => cases hk; exact hr (h2 0 q rfl)
  | succ k => exact h2 (k + 1) z hk
theorem ci_Dmid {A : Nat → Prop} {X Y : va_W} {a : Nat} {e e1 : va_E} (h : va_D A (X ++ (a, e) :: Y)) : va_D A (X ++ (a, e1) :: Y) := by
  have := h.set (p := X.length + 0) (a := a) (e0 := e) (e := e1) (ci_at rfl)
  rw [ci_set] at this
  exact this
section
variable {p : Program} {l : Launch} {e : Env} {R : Room} {s : State} {m : MethodId} {args : Array Value} {below : List Frame} {meth : Method} {c : Code} {H : Heap} {locs : List Loc} {cells slots : Nat} {Q : State → Prop}
variable {cc : ByteArray} {mL : Nat} {own : String} {A : Nat → Prop} {D : va_G} {cA : Nat → ClassId} {ad : Nat → Nat} {pc : Nat} {ls : Array Slot} {rest : List Value} {ws : va_W}
theorem ci_newq (C : ci_Cx p s m args meth c cc mL own A D cA ad) {idx : Nat} (hl : Cond.classLink own idx RX4 ∈ ct_GW) (hP : va_P D ct_cl ws H) (hD : va_D A ws) (hS : va_S A s.heap H locs)
    {n : Int32} {N' : Nat} (hn : ¬ n < 0) (hN : n.toNatClampNeg = N') (hbytes : N' * 4 ≤ 536870912) (hcells : cells + 1 ≤ R.cells) (hslots : slots + N' ≤ R.slots) (hdg : decode cc pc = .ok (.anewarray idx, 3))
    (kk : ∀ (q : Nat) (H1 : Heap), va_P D ct_cl (ws ++ [(q, .inl (cA 12, N', .inr (.inr (.inr (.inr (fun _ => none))))))]) H1 → va_D A (ws ++ [(q, .inl (cA 12, N', .inr (.inr (.inr (.inr (fun _ => none))))))]) → va_S A s.heap H1 locs → W p l e R s m args below meth c H1 locs (cells + 1) (slots + N') Q (F0 m (pc + 3) ls (.ref q :: rest))) : W p l e R s m args below meth c H locs cells slots Q (F0 m pc ls (.int n :: rest)) := by
  obtain ⟨hx, hb, hml, hown, hts, hK, hA, hStr, hAO⟩ := C
  refine va_newq hx hb hown (hts _ hl) hAO.1 hK hP hD hS hA hn hN hbytes hcells hslots hdg (fun q c1 H1 hK1 hP1 hD1 hS1 => ?_)
  have e := ci_eqA 4 hK1 (show (ct_tys cA)[4]? = some (cA 12, .object RX4) from rfl)
  subst e
  exact kk q H1 hP1 hD1 hS1
theorem ci_astq (C : ci_Cx p s m args meth c cc mL own A D cA ad) {X Y : va_W} (hP : va_P D ct_cl (X ++ Y) H) (hD : va_D A (X ++ Y)) (hS : va_S A s.heap H locs) (i0 ik t0 kc ci : Nat) {a n v : Nat} {r : vw_C} {vs : List Value} {f : Nat → Option Nat} (ha : Y[i0]? = some (a, .inl (cA kc, n, .inr (.inr (.inr (.inr f)))))) (ht : (ct_tys cA)[t0]? = some (cA kc, .object r.1)) (hv : Y[ik]? = some (v, .inr (ci, vs))) (hc : ct_cl[ci]? = some r) {i : Int32} (hin : vp_in i n) (hdg : decode cc pc = .ok (.aastore, 1))
    (kk : ∀ (H1 : Heap) (locs1 : List Loc), va_P D ct_cl (X ++ Y.set i0 (a, .inl (cA kc, n, .inr (.inr (.inr (.inr (va_up f i.toNatClampNeg (some v)))))))) H1 → va_D A (X ++ Y.set i0 (a, .inl (cA kc, n, .inr (.inr (.inr (.inr (va_up f i.toNatClampNeg (some v)))))))) → va_S A s.heap H1 locs1 → W p l e R s m args below meth c H1 locs1 cells slots Q (F0 m (pc + 1) ls rest)) : W p l e R s m args below meth c H locs cells slots Q (F0 m pc ls (.ref v :: .int i :: .ref a :: rest)) := by
  obtain ⟨hx, hb, hml, hown, hts, hK, hA, hStr, hAO⟩ := C
  refine va_astq hx hb hK hP hD hS (X.length + i0) t0 (X.length + ik) ci (ci_at ha) ht (ci_at hv) hc hin hdg (fun H1 locs1 hP1 hD1 hS1 => ?_)
  rw [ci_set] at hP1 hD1
  exact kk H1 locs1 hP1 hD1 hS1
theorem ci_iast (C : ci_Cx p s m args meth c cc mL own A D cA ad) {X Y : va_W} (hP : va_P D ct_cl (X ++ Y) H) (hD : va_D A (X ++ Y)) (hS : va_S A s.heap H locs) (i0 t0 kc : Nat) {a n : Nat} {f : Nat → Int32} (ha : Y[i0]? = some (a, .inl (cA kc, n, .inl f))) (ht : (ct_tys cA)[t0]? = some (cA kc, .int)) {i v : Int32} (hin : vp_in i n) (hdg : decode cc pc = .ok (.iastore, 1))
    (kk : ∀ (H1 : Heap) (locs1 : List Loc), va_P D ct_cl (X ++ Y.set i0 (a, .inl (cA kc, n, .inl (upd f i.toNatClampNeg v)))) H1 → va_D A (X ++ Y.set i0 (a, .inl (cA kc, n, .inl (upd f i.toNatClampNeg v)))) → va_S A s.heap H1 locs1 → W p l e R s m args below meth c H1 locs1 cells slots Q (F0 m (pc + 1) ls rest)) : W p l e R s m args below meth c H locs cells slots Q (F0 m pc ls (.int v :: .int i :: .ref a :: rest)) := by
  obtain ⟨hx, hb, hml, hown, hts, hK, hA, hStr, hAO⟩ := C
  refine va_iast hx hb hK hP hD hS (X.length + i0) t0 (ci_at ha) ht hin hdg (fun H1 locs1 hP1 hD1 hS1 => ?_)
  rw [ci_set] at hP1 hD1
  exact kk H1 locs1 hP1 hD1 hS1
end
