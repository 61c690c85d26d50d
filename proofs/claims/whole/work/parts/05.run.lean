/-! a straight stretch on the pure pictures is the machine's -/
section
variable {p : Program} {l : Launch} {e : Env} {R : Room} {s : State} {m : MethodId} {args : Array Value} {below : List Frame} {meth : Method} {c : Code} {maxL : Nat} {bytes : ByteArray} {own : String} {A : Nat → Prop} {D : va_G} {cA : Nat → ClassId} {ad : Nat → Nat} {G : ct_G} {K : Nat → Nat} {n d cells slots : Nat} {Q : State → Prop}
set_option maxHeartbeats 4000000 in
theorem ct_st1_ok (C : ct_Cx p R s m args c bytes maxL own A D cA ad G K n d cells slots) {q : ct_I} (hdec : decode bytes q.1 = .ok (q.2.1, q.2.2.1)) (hlen : q.2.2.1 = ct_len q.2.1) (hf : ct_fok own q) {ls ls' : ct_L} {st st' : List ct_PV} {h h' : ct_H} (hs : ct_st1 G maxL q ls st h = some (ls', st', h'))
    (k : ct_V p l e R s m args below meth c maxL A D cA ad G K n cells slots Q (q.1 + q.2.2.1) ls' st' h') : ct_V p l e R s m args below meth c maxL A D cA ad G K n cells slots Q q.1 ls st h := by
  obtain ⟨pc, ins, len, aux⟩ := q
  dsimp only at hdec hlen k ⊢
  have hx := C.1
  have hb := C.2.1
  have ldI : ∀ {j : Nat}, ct_ldI ls j st h = some (ls', st', h') → ∃ a, ct_lk ls j = some (.inl a) ∧ ls' = ls ∧ st' = .inl a :: st ∧ h' = h := by
    intro j hj
    unfold ct_ldI at hj
    split at hj
    · rename_i a ha
      cases hj
      exact ⟨a, ha, rfl, rfl, rfl⟩
    · cases hj
  have ldL : ∀ {j : Nat}, ct_ldL ls j st h = some (ls', st', h') → ∃ a, ct_lk ls j = some (.inr (.inl a)) ∧ ls' = ls ∧ st' = .inr (.inl a) :: st ∧ h' = h := by
    intro j hj
    unfold ct_ldL at hj
    split at hj
    · rename_i a ha
      cases hj
      exact ⟨a, ha, rfl, rfl, rfl⟩
    · cases hj
  have ldA : ∀ {j : Nat}, ct_ldA ls j st h = some (ls', st', h') → ∃ a, ct_lk ls j = some (.inr (.inr a)) ∧ ls' = ls ∧ st' = .inr (.inr a) :: st ∧ h' = h := by
    intro j hj
    unfold ct_ldA at hj
    split at hj
    · rename_i a ha
      cases hj
      exact ⟨a, ha, rfl, rfl, rfl⟩
    · cases hj
  have stI : ∀ {j : Nat}, ct_stI maxL ls j st h = some (ls', st', h') → ∃ a, st = .inl a :: st' ∧ j < maxL ∧ ls' = ct_sto ls j (.inl a) ∧ h' = h := by
    intro j hj
    unfold ct_stI at hj
    split at hj
    · split at hj
      · rename_i a r hlt
        cases hj
        exact ⟨_, rfl, hlt, rfl, rfl⟩
      · cases hj
    · cases hj
  have stA : ∀ {j : Nat}, ct_stA maxL ls j st h = some (ls', st', h') → ∃ a, st = .inr (.inr a) :: st' ∧ j < maxL ∧ ls' = ct_sto ls j (.inr (.inr a)) ∧ h' = h := by
    intro j hj
    unfold ct_stA at hj
    split at hj
    · split at hj
      · rename_i a r hlt
        cases hj
        exact ⟨_, rfl, hlt, rfl, rfl⟩
      · cases hj
    · cases hj
  have stL : ∀ {j : Nat}, ct_stL maxL ls j st h = some (ls', st', h') → ∃ a, st = .inr (.inl a) :: st' ∧ j + 1 < maxL ∧ ls' = ct_stoL ls j (.inr (.inl a)) ∧ h' = h := by
    intro j hj
    unfold ct_stL at hj
    split at hj
    · split at hj
      · rename_i a r hlt
        cases hj
        exact ⟨_, rfl, hlt, rfl, rfl⟩
      · cases hj
    · cases hj
  have bI : ∀ {f : Int → Int → Int}, ct_bI f ls st h = some (ls', st', h') → ∃ a b r, st = .inl b :: .inl a :: r ∧ ls' = ls ∧ st' = .inl (f a b) :: r ∧ h' = h := by
    intro f hj
    unfold ct_bI at hj
    split at hj
    · cases hj
      exact ⟨_, _, _, rfl, rfl, rfl, rfl⟩
    · cases hj
  have bL : ∀ {f : Int64 → Int64 → Int64}, ct_bL f ls st h = some (ls', st', h') → ∃ a b r, st = .inr (.inl b) :: .inr (.inl a) :: r ∧ ls' = ls ∧ st' = .inr (.inl (f a b)) :: r ∧ h' = h := by
    intro f hj
    unfold ct_bL at hj
    split at hj
    · cases hj
      exact ⟨_, _, _, rfl, rfl, rfl, rfl⟩
    · cases hj
  have bS : ∀ {f : Int64 → Int → Int64}, ct_bS f ls st h = some (ls', st', h') → ∃ a b r, st = .inl b :: .inr (.inl a) :: r ∧ ls' = ls ∧ st' = .inr (.inl (f a b)) :: r ∧ h' = h := by
    intro f hj
    unfold ct_bS at hj
    split at hj
    · cases hj
      exact ⟨_, _, _, rfl, rfl, rfl, rfl⟩
    · cases hj
  have bU : ∀ {f : Int → Int}, ct_u f ls st h = some (ls', st', h') → ∃ a r, st = .inl a :: r ∧ ls' = ls ∧ st' = .inl (f a) :: r ∧ h' = h := by
    intro f hj
    unfold ct_u at hj
    split at hj
    · cases hj
      exact ⟨_, _, rfl, rfl, rfl, rfl⟩
    · cases hj
  cases ins
  case iconst v =>
    subst hlen
    dsimp only [ct_st1] at hs
    split at hs
    · rename_i hv
      cases hs
      exact ct_pushOk (v := .inl v) (fun H locs lm rest _ kk => lv_iconst hx hb hdec rfl kk) (fun _ => by show ct_in v; unfold ct_in; omega) k
    · cases hs
  case bipush v =>
    subst hlen
    dsimp only [ct_st1] at hs
    split at hs
    · rename_i hv
      cases hs
      refine ct_pushOk (v := .inl v) (fun H locs lm rest _ kk => lv_bipush (v := Int32.ofInt v) hx hb hdec ?_ kk) (fun _ => by show ct_in v; unfold ct_in; omega) k
      apply Int32.toInt_inj.mp
      rw [Int8.toInt_toInt32, ct_toInt (by unfold ct_in; omega), Int8.toInt_ofInt]
      unfold Int.bmod
      simp only [Int8.size]
      split <;> omega
    · cases hs
  case sipush v =>
    subst hlen
    dsimp only [ct_st1] at hs
    split at hs
    · rename_i hv
      cases hs
      refine ct_pushOk (v := .inl v) (fun H locs lm rest _ kk => lv_sipush (v := Int32.ofInt v) hx hb hdec ?_ kk) (fun _ => by show ct_in v; unfold ct_in; omega) k
      apply Int32.toInt_inj.mp
      rw [Int16.toInt_toInt32, ct_toInt (by unfold ct_in; omega), Int16.toInt_ofInt]
      unfold Int.bmod
      simp only [Int16.size]
      split <;> omega
    · cases hs
  case lconst v =>
    subst hlen
    cases hs
    exact ct_pushOk (v := .inr (.inl _)) (fun H locs lm rest _ kk => lv_lconst hx hb hdec rfl kk) (fun _ => trivial) k
  case iload_n j =>
    subst hlen
    obtain ⟨a, ha, rfl, rfl, rfl⟩ := ldI hs
    obtain ⟨i, hi⟩ := ct_lk_idx (ad := ad) ha
    exact ct_pushOk (v := .inl a) (fun H locs lm rest hl kk => lv_iload_n hx hb hdec rfl (lv_at hl i hi) kk) (fun z => z _ (ct_lk_mem ha)) k
  case iload j =>
    subst hlen
    obtain ⟨a, ha, rfl, rfl, rfl⟩ := ldI hs
    obtain ⟨i, hi⟩ := ct_lk_idx (ad := ad) ha
    exact ct_pushOk (v := .inl a) (fun H locs lm rest hl kk => lv_iload hx hb hdec (lv_at hl i hi) kk) (fun z => z _ (ct_lk_mem ha)) k
  case lload_n j =>
    subst hlen
    obtain ⟨a, ha, rfl, rfl, rfl⟩ := ldL hs
    obtain ⟨i, hi⟩ := ct_lk_idx (ad := ad) ha
    exact ct_pushOk (v := .inr (.inl a)) (fun H locs lm rest hl kk => lv_lload_n hx hb hdec rfl (lv_at hl i hi) kk) (fun z => z _ (ct_lk_mem ha)) k
  case lload j =>
    subst hlen
    obtain ⟨a, ha, rfl, rfl, rfl⟩ := ldL hs
    obtain ⟨i, hi⟩ := ct_lk_idx (ad := ad) ha
    exact ct_pushOk (v := .inr (.inl a)) (fun H locs lm rest hl kk => lv_lload hx hb hdec (lv_at hl i hi) kk) (fun z => z _ (ct_lk_mem ha)) k
  case aload_n j =>
    subst hlen
    obtain ⟨a, ha, rfl, rfl, rfl⟩ := ldA hs
    obtain ⟨i, hi⟩ := ct_lk_idx (ad := ad) ha
    exact ct_pushOk (v := .inr (.inr a)) (fun H locs lm rest hl kk => lv_aload_n hx hb hdec rfl (lv_at hl i hi) kk) (fun z => z _ (ct_lk_mem ha)) k
  case aload j =>
    subst hlen
    obtain ⟨a, ha, rfl, rfl, rfl⟩ := ldA hs
    obtain ⟨i, hi⟩ := ct_lk_idx (ad := ad) ha
    exact ct_pushOk (v := .inr (.inr a)) (fun H locs lm rest hl kk => lv_aload hx hb hdec (lv_at hl i hi) kk) (fun z => z _ (ct_lk_mem ha)) k
  case istore_n j =>
    subst hlen
    obtain ⟨a, rfl, hj, rfl, rfl⟩ := stI hs
    exact ct_stoOk (v := .inl a) rfl hj (fun H locs lm rest lv lv' hl e kk => lv_istore_n hx hb hdec rfl hl hj e kk) k
  case istore j =>
    subst hlen
    obtain ⟨a, rfl, hj, rfl, rfl⟩ := stI hs
    exact ct_stoOk (v := .inl a) rfl hj (fun H locs lm rest lv lv' hl e kk => lv_istore hx hb hdec hl hj e kk) k
  case astore_n j =>
    subst hlen
    obtain ⟨a, rfl, hj, rfl, rfl⟩ := stA hs
    exact ct_stoOk (v := .inr (.inr a)) rfl hj (fun H locs lm rest lv lv' hl e kk => lv_astore_n hx hb hdec rfl hl hj e kk) k
  case astore j =>
    subst hlen
    obtain ⟨a, rfl, hj, rfl, rfl⟩ := stA hs
    exact ct_stoOk (v := .inr (.inr a)) rfl hj (fun H locs lm rest lv lv' hl e kk => lv_astore hx hb hdec hl hj e kk) k
  case lstore_n j =>
    subst hlen
    obtain ⟨a, rfl, hj, rfl, rfl⟩ := stL hs
    exact ct_stoLOk (v := .inr (.inl a)) hj (fun H locs lm rest lv lv' hl e kk => lv_lstore_n hx hb hdec rfl hl hj e kk) k
  case lstore j =>
    subst hlen
    obtain ⟨a, rfl, hj, rfl, rfl⟩ := stL hs
    exact ct_stoLOk (v := .inr (.inl a)) hj (fun H locs lm rest lv lv' hl e kk => lv_lstore hx hb hdec hl hj e kk) k
  case iinc j v =>
    subst hlen
    dsimp only [ct_st1] at hs
    split at hs
    · rename_i a ha
      split at hs
      · rename_i hj
        cases hs
        obtain ⟨i, hi⟩ := ct_lk_idx (ad := ad) ha
        intro H locs lm hP hS hl ho hos hh
        refine lv_iinc (k := i) (x := Int32.ofInt a) (v := Int32.ofInt (ct_wr (a + v))) hx hb hdec hl hi (ct_ofInt_add a v) hj (ct_sto_map ad ls j (.inl (ct_wr (a + v)))) (fun ls' hl' => k H locs ls' hP hS hl' (ct_sto_ok ho (ct_wr_in _)) hos hh)
      · cases hs
    · cases hs
  case iadd =>
    subst hlen
    obtain ⟨a, b, r, rfl, rfl, rfl, rfl⟩ := bI hs
    exact ct_bIOk (f := fun a b => ct_wr (a + b)) (g := fun x y => x + y) (fun H locs lm rest x y kk => lv_iadd hx hb hdec kk) (ct_ofInt_add a b) (ct_wr_in _) k
  case isub =>
    subst hlen
    obtain ⟨a, b, r, rfl, rfl, rfl, rfl⟩ := bI hs
    exact ct_bIOk (f := fun a b => ct_wr (a - b)) (g := fun x y => x - y) (fun H locs lm rest x y kk => lv_isub hx hb hdec kk) (ct_ofInt_sub a b) (ct_wr_in _) k
  case imul =>
    subst hlen
    obtain ⟨a, b, r, rfl, rfl, rfl, rfl⟩ := bI hs
    exact ct_bIOk (f := fun a b => ct_wr (a * b)) (g := fun x y => x * y) (fun H locs lm rest x y kk => lv_imul hx hb hdec kk) (ct_ofInt_mul a b) (ct_wr_in _) k
  case iand =>
    subst hlen
    obtain ⟨a, b, r, rfl, rfl, rfl, rfl⟩ := bI hs
    exact ct_bIOk (g := fun x y => x &&& y) (fun H locs lm rest x y kk => lv_iand hx hb hdec kk) (ct_of_toInt _).symm (ct_toInt_in _) k
  case ior =>
    subst hlen
    obtain ⟨a, b, r, rfl, rfl, rfl, rfl⟩ := bI hs
    exact ct_bIOk (g := fun x y => x ||| y) (fun H locs lm rest x y kk => lv_ior hx hb hdec kk) (ct_of_toInt _).symm (ct_toInt_in _) k
  case ixor =>
    subst hlen
    obtain ⟨a, b, r, rfl, rfl, rfl, rfl⟩ := bI hs
    exact ct_bIOk (g := fun x y => x ^^^ y) (fun H locs lm rest x y kk => lv_ixor hx hb hdec kk) (ct_of_toInt _).symm (ct_toInt_in _) k
  case ishl =>
    subst hlen
    obtain ⟨a, b, r, rfl, rfl, rfl, rfl⟩ := bI hs
    exact ct_bIOk (g := fun x y => x <<< (y &&& 31)) (fun H locs lm rest x y kk => lv_ishl hx hb hdec kk) (ct_of_toInt _).symm (ct_toInt_in _) k
  case ishr =>
    subst hlen
    obtain ⟨a, b, r, rfl, rfl, rfl, rfl⟩ := bI hs
    exact ct_bIOk (g := fun x y => x >>> (y &&& 31)) (fun H locs lm rest x y kk => lv_ishr hx hb hdec kk) (ct_of_toInt _).symm (ct_toInt_in _) k
  case ladd =>
    subst hlen
    obtain ⟨a, b, r, rfl, rfl, rfl, rfl⟩ := bL hs
    exact ct_bLOk (g := fun x y => x + y) (fun H locs lm rest x y kk => lv_ladd hx hb hdec kk) k
  case lsub =>
    subst hlen
    obtain ⟨a, b, r, rfl, rfl, rfl, rfl⟩ := bL hs
    exact ct_bLOk (g := fun x y => x - y) (fun H locs lm rest x y kk => lv_lsub hx hb hdec kk) k
  case land =>
    subst hlen
    obtain ⟨a, b, r, rfl, rfl, rfl, rfl⟩ := bL hs
    exact ct_bLOk (g := fun x y => x &&& y) (fun H locs lm rest x y kk => lv_land hx hb hdec kk) k
  case lor =>
    subst hlen
    obtain ⟨a, b, r, rfl, rfl, rfl, rfl⟩ := bL hs
    exact ct_bLOk (g := fun x y => x ||| y) (fun H locs lm rest x y kk => lv_lor hx hb hdec kk) k
  case lxor =>
    subst hlen
    obtain ⟨a, b, r, rfl, rfl, rfl, rfl⟩ := bL hs
    exact ct_bLOk (g := fun x y => x ^^^ y) (fun H locs lm rest x y kk => lv_lxor hx hb hdec kk) k
  case lshl =>
    subst hlen
    obtain ⟨a, b, r, rfl, rfl, rfl, rfl⟩ := bS hs
    exact ct_bSOk (f := fun a b => a <<< ((Int32.ofInt b).toInt64 &&& 63)) (fun H locs lm rest kk => lv_lshl hx hb hdec rfl kk) k
  case lshr =>
    subst hlen
    obtain ⟨a, b, r, rfl, rfl, rfl, rfl⟩ := bS hs
    exact ct_bSOk (f := fun a b => a >>> ((Int32.ofInt b).toInt64 &&& 63)) (fun H locs lm rest kk => lv_lshr hx hb hdec rfl kk) k
  case lushr =>
    subst hlen
    obtain ⟨a, b, r, rfl, rfl, rfl, rfl⟩ := bS hs
    exact ct_bSOk (f := fun a b => (a.toUInt64 >>> ((Int32.ofInt b).toInt64.toUInt64 &&& Int64.toUInt64 63)).toInt64) (fun H locs lm rest kk => lv_lushr hx hb hdec rfl kk) k
  case i2b =>
    subst hlen
    obtain ⟨a, r, rfl, rfl, rfl, rfl⟩ := bU hs
    exact ct_uOk (f := fun a => (Int32.ofInt a).toInt8.toInt32.toInt) (fun H locs lm rest kk => lv_i2b hx hb hdec (ct_of_toInt _).symm kk) (ct_toInt_in _) k
  case i2s =>
    subst hlen
    obtain ⟨a, r, rfl, rfl, rfl, rfl⟩ := bU hs
    exact ct_uOk (f := fun a => (Int32.ofInt a).toInt16.toInt32.toInt) (fun H locs lm rest kk => lv_i2s hx hb hdec (ct_of_toInt _).symm kk) (ct_toInt_in _) k
  case i2c =>
    subst hlen
    obtain ⟨a, r, rfl, rfl, rfl, rfl⟩ := bU hs
    exact ct_uOk (f := fun a => ((Int32.ofInt a).toUInt32 % 65536).toInt32.toInt) (fun H locs lm rest kk => lv_i2c hx hb hdec (ct_of_toInt _).symm kk) (ct_toInt_in _) k
  case i2l =>
    subst hlen
    dsimp only [ct_st1] at hs
    split at hs
    · cases hs
      intro H locs lm hP hS hl ho hos hh
      exact lv_i2l hx hb hdec rfl (k H locs lm hP hS hl ho (ct_cons_ok trivial (ct_tl hos)) hh)
    · cases hs
  case l2i =>
    subst hlen
    dsimp only [ct_st1] at hs
    split at hs
    · cases hs
      intro H locs lm hP hS hl ho hos hh
      exact lv_l2i hx hb hdec (ct_of_toInt _).symm (k H locs lm hP hS hl ho (ct_cons_ok (ct_toInt_in _) (ct_tl hos)) hh)
    · cases hs
  case lcmp =>
    subst hlen
    dsimp only [ct_st1] at hs
    split at hs
    · cases hs
      intro H locs lm hP hS hl ho hos hh
      have kk := k H locs lm hP hS hl ho (ct_cons_ok (ct_toInt_in _) (ct_tl (ct_tl hos))) hh
      simp only [List.map_cons, ct_mv, ct_of_toInt] at kk
      exact W.lcmp hx hb hdec kk
    · cases hs
  case dup =>
    subst hlen
    dsimp only [ct_st1] at hs
    split at hs
    · split at hs
      · rename_i v r hv
        cases hs
        intro H locs lm hP hS hl ho hos hh
        exact lv_dup hx hb hdec ((ct_cat_mv ad _).trans hv) (k H locs lm hP hS hl ho (ct_cons_ok (ct_hd hos) hos) hh)
      · cases hs
    · cases hs
  case dup2 =>
    subst hlen
    dsimp only [ct_st1] at hs
    split at hs
    · split at hs
      · rename_i v w r hv
        cases hs
        intro H locs lm hP hS hl ho hos hh
        exact lv_dup2_11 hx hb hdec ((ct_cat_mv ad _).trans hv.1) ((ct_cat_mv ad _).trans hv.2) (k H locs lm hP hS hl ho (ct_cons_ok (ct_hd hos) (ct_cons_ok (ct_hd (ct_tl hos)) hos)) hh)
      · cases hs
    · cases hs
  case arraylength =>
    subst hlen
    dsimp only [ct_st1] at hs
    split at hs
    · split at hs
      · rename_i v r hv
        cases hs
        obtain ⟨-, -, hml, hown, hts, hK, hD, hWT, hR, -⟩ := C
        intro H locs lm hP hS hl ho hos hh
        have hq0 := ct_hd hos
        rcases hq0 with ⟨hn, hk⟩ | ⟨hk, -⟩
        case inr => omega
        have hcell := ct_ws_get (cA := cA) (ad := ad) (G := G) (K := K) (h := h) hn
        have hlt : G.2 v.2 < 2147483648 := (hWT v.2 hn).2.1
        have kk := k H locs lm hP hS hl ho (ct_cons_ok (show ct_in _ by unfold ct_in; omega) (ct_tl hos)) hh
        have hty : ∃ (x : vp_A) (t0 : Nat) (cx : ClassId) (ty : FieldType), ct_cell cA ad G K h v.2 = .inl (cx, x) ∧ x.1 = G.2 v.2 ∧ (ct_tys cA)[t0]? = some (cx, ty) := by
          by_cases h10 : K v.2 ≤ 10
          · refine ⟨(G.2 v.2, _), K v.2 - 8, _, ?_, ct_cell_int (by omega) h10, rfl, ?_⟩
            · exact if K v.2 = 8 then .int else if K v.2 = 9 then .byte else .boolean
            · rcases (show K v.2 = 8 ∨ K v.2 = 9 ∨ K v.2 = 10 by omega) with h0 | h0 | h0 <;> rw [h0] <;> rfl
          · by_cases h11 : K v.2 = 11
            · exact ⟨(G.2 v.2, _), 3, _, .long, ct_cell_long h11, rfl, rfl⟩
            · refine ⟨(G.2 v.2, _), K v.2 - 8, _, ?_, ct_cell_ref (by omega), rfl, ?_⟩
              · exact if K v.2 = 12 then .object RX4 else if K v.2 = 13 then .array .int else .array .long
              · rcases (show K v.2 = 12 ∨ K v.2 = 13 ∨ K v.2 = 14 by omega) with h0 | h0 | h0 <;> rw [h0] <;> rfl
        obtain ⟨x, t0, cx, ty, e1, e2, e3⟩ := hty
        rw [e1] at hcell
        exact va_alen hx hb hK hP v.2 t0 hcell e3 (v := Int32.ofInt (G.2 v.2 : Int)) (by rw [e2]; rfl) hdec kk
      · cases hs
    · cases hs
  case getfield idx =>
    subst hlen
    obtain ⟨f1, f2, f3⟩ := hf
    dsimp only [ct_st1, ct_get] at hs
    split at hs
    · split at hs
      · rename_i v r hv
        split at hs
        · rename_i h98
          cases hs
          exact ct_getOk C f1 f2 f3 hv (by rw [if_pos h98]) hdec k
        · rename_i h98
          cases hs
          exact ct_getOk C f1 f2 f3 hv (by rw [if_neg h98]) hdec k
      · cases hs
    · cases hs
  case putfield idx =>
    subst hlen
    obtain ⟨f1, f2, f3, f4⟩ := hf
    dsimp only [ct_st1, ct_put] at hs
    split at hs
    · split at hs
      · rename_i v q r hv
        split at hs
        · rename_i h99
          cases hs
          exact ct_putOk C f1 f2 f3 (f4 (by dsimp only at h99 ⊢; omega)) hv (Or.inl h99) hdec k
        · split at hs
          · rename_i h98
            split at hs
            · rename_i hb
              cases hs
              exact ct_putOk C f1 f2 f3 (f4 (by dsimp only at h98 ⊢; omega)) hv (Or.inr ⟨h98, hb⟩) hdec k
            · cases hs
          · cases hs
      · cases hs
    · cases hs
  all_goals (cases hs)
/-- n instructions of a list -/
def ct_run (G : ct_G) (mL : Nat) : Nat → List ct_I → ct_L → List ct_PV → ct_H → Option ct_S
  | 0, _, ls, st, h => some (ls, st, h)
  | _ + 1, [], _, _, _ => none
  | k + 1, q :: T, ls, st, h => match ct_st1 G mL q ls st h with
    | none => none
    | some x => ct_run G mL k T x.1 x.2.1 x.2.2
def ct_pc (T : List ct_I) (k : Nat) : Nat := match T[k]? with
  | some q => q.1
  | none => 0
/-- the list is the method's: every row is decoded so, its pool numbers are linked so, a row's end is the next row's beginning -/
def ct_TOk (own : String) (bytes : ByteArray) (T : List ct_I) : Prop := (∀ q ∈ T, decode bytes q.1 = .ok (q.2.1, q.2.2.1) ∧ ct_fok own q) ∧ ∀ (k : Nat) (q r : ct_I), T[k]? = some q → T[k + 1]? = some r → r.1 = q.1 + q.2.2.1
end
