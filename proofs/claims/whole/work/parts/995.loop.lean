/-! the law: its jump, its loop -/
section
variable {p : Program} {l : Launch} {e : Env} {s : State} {m : MethodId} {below : List Frame} {meth : Method} {c : Code} {A : Nat → Prop} {D : va_G} {cA : Nat → ClassId} {ad : Nat → Nat} {Q : State → Prop} {b L i hi wi : Nat} {B : Int} {xs : Nat → Int32} {h : ct_H}
theorem la_d33 : decode code 33 = .ok (.tableswitch 1367 0 36 #[163, 196, 229, 252, 275, 288, 311, 334, 367, 410, 443, 486, 529, 572, 615, 648, 681, 724, 757, 780, 813, 846, 879, 902, 936, 960, 993, 1026, 1059, 1072, 1105, 1118, 1131, 1154, 1197, 1270, 1304], 163) := by decide +kernel
theorem la_jump (C : la_C p s m b c A D cA ad) (X : la_X s A ad b L xs) (gs : GS G0) (hi6 : i + 6 ≤ L) (hB : B ≤ 2000000000) (inv : INV G0 h hi wi B) (kk : la_K p l e s m below meth c A D cA ad Q b i B) (k : Nat) (hk : k < 37) : la_V p l e s m below meth c A D cA ad Q b 33 (la_ls i) [.inl (k : Int)] h :=
  match k, hk with
  | 0, _ => ct_Vsw C la_d33 (off := 163) (tgt := 196) (by decide +kernel) (by decide +kernel) (cs_0 C X gs hi6 hB inv kk)
  | 1, _ => ct_Vsw C la_d33 (off := 196) (tgt := 229) (by decide +kernel) (by decide +kernel) (cs_1 C X gs hi6 hB inv kk)
  | 2, _ => ct_Vsw C la_d33 (off := 229) (tgt := 262) (by decide +kernel) (by decide +kernel) (cs_2 C X gs hi6 hB inv kk)
  | 3, _ => ct_Vsw C la_d33 (off := 252) (tgt := 285) (by decide +kernel) (by decide +kernel) (cs_3 C X gs hi6 hB inv kk)
  | 4, _ => ct_Vsw C la_d33 (off := 275) (tgt := 308) (by decide +kernel) (by decide +kernel) (cs_4 C X gs hi6 hB inv kk)
  | 5, _ => ct_Vsw C la_d33 (off := 288) (tgt := 321) (by decide +kernel) (by decide +kernel) (cs_5 C X gs hi6 hB inv kk)
  | 6, _ => ct_Vsw C la_d33 (off := 311) (tgt := 344) (by decide +kernel) (by decide +kernel) (cs_6 C X gs hi6 hB inv kk)
  | 7, _ => ct_Vsw C la_d33 (off := 334) (tgt := 367) (by decide +kernel) (by decide +kernel) (cs_7 C X gs hi6 hB inv kk)
  | 8, _ => ct_Vsw C la_d33 (off := 367) (tgt := 400) (by decide +kernel) (by decide +kernel) (cs_8 C X gs hi6 hB inv kk)
  | 9, _ => ct_Vsw C la_d33 (off := 410) (tgt := 443) (by decide +kernel) (by decide +kernel) (cs_9 C X gs hi6 hB inv kk)
  | 10, _ => ct_Vsw C la_d33 (off := 443) (tgt := 476) (by decide +kernel) (by decide +kernel) (cs_10 C X gs hi6 hB inv kk)
  | 11, _ => ct_Vsw C la_d33 (off := 486) (tgt := 519) (by decide +kernel) (by decide +kernel) (cs_11 C X gs hi6 hB inv kk)
  | 12, _ => ct_Vsw C la_d33 (off := 529) (tgt := 562) (by decide +kernel) (by decide +kernel) (cs_12 C X gs hi6 hB inv kk)
  | 13, _ => ct_Vsw C la_d33 (off := 572) (tgt := 605) (by decide +kernel) (by decide +kernel) (cs_13 C X gs hi6 hB inv kk)
  | 14, _ => ct_Vsw C la_d33 (off := 615) (tgt := 648) (by decide +kernel) (by decide +kernel) (cs_14 C X gs hi6 hB inv kk)
  | 15, _ => ct_Vsw C la_d33 (off := 648) (tgt := 681) (by decide +kernel) (by decide +kernel) (cs_15 C X gs hi6 hB inv kk)
  | 16, _ => ct_Vsw C la_d33 (off := 681) (tgt := 714) (by decide +kernel) (by decide +kernel) (cs_16 C X gs hi6 hB inv kk)
  | 17, _ => ct_Vsw C la_d33 (off := 724) (tgt := 757) (by decide +kernel) (by decide +kernel) (cs_17 C X gs hi6 hB inv kk)
  | 18, _ => ct_Vsw C la_d33 (off := 757) (tgt := 790) (by decide +kernel) (by decide +kernel) (cs_18 C X gs hi6 hB inv kk)
  | 19, _ => ct_Vsw C la_d33 (off := 780) (tgt := 813) (by decide +kernel) (by decide +kernel) (cs_19 C X gs hi6 hB inv kk)
  | 20, _ => ct_Vsw C la_d33 (off := 813) (tgt := 846) (by decide +kernel) (by decide +kernel) (cs_20 C X gs hi6 hB inv kk)
  | 21, _ => ct_Vsw C la_d33 (off := 846) (tgt := 879) (by decide +kernel) (by decide +kernel) (cs_21 C X gs hi6 hB inv kk)
  | 22, _ => ct_Vsw C la_d33 (off := 879) (tgt := 912) (by decide +kernel) (by decide +kernel) (cs_22 C X gs hi6 hB inv kk)
  | 23, _ => ct_Vsw C la_d33 (off := 902) (tgt := 935) (by decide +kernel) (by decide +kernel) (cs_23 C X gs hi6 hB inv kk)
  | 24, _ => ct_Vsw C la_d33 (off := 936) (tgt := 969) (by decide +kernel) (by decide +kernel) (cs_24 C X gs hi6 hB inv kk)
  | 25, _ => ct_Vsw C la_d33 (off := 960) (tgt := 993) (by decide +kernel) (by decide +kernel) (cs_25 C X gs hi6 hB inv kk)
  | 26, _ => ct_Vsw C la_d33 (off := 993) (tgt := 1026) (by decide +kernel) (by decide +kernel) (cs_26 C X gs hi6 hB inv kk)
  | 27, _ => ct_Vsw C la_d33 (off := 1026) (tgt := 1059) (by decide +kernel) (by decide +kernel) (cs_27 C X gs hi6 hB inv kk)
  | 28, _ => ct_Vsw C la_d33 (off := 1059) (tgt := 1092) (by decide +kernel) (by decide +kernel) (cs_28 C X gs hi6 hB inv kk)
  | 29, _ => ct_Vsw C la_d33 (off := 1072) (tgt := 1105) (by decide +kernel) (by decide +kernel) (cs_29 C X gs hi6 hB inv kk)
  | 30, _ => ct_Vsw C la_d33 (off := 1105) (tgt := 1138) (by decide +kernel) (by decide +kernel) (cs_30 C X gs hi6 hB inv kk)
  | 31, _ => ct_Vsw C la_d33 (off := 1118) (tgt := 1151) (by decide +kernel) (by decide +kernel) (cs_31 C X gs hi6 hB inv kk)
  | 32, _ => ct_Vsw C la_d33 (off := 1131) (tgt := 1164) (by decide +kernel) (by decide +kernel) (cs_32 C X gs hi6 hB inv kk)
  | 33, _ => ct_Vsw C la_d33 (off := 1154) (tgt := 1187) (by decide +kernel) (by decide +kernel) (cs_33 C X gs hi6 hB inv kk)
  | 34, _ => ct_Vsw C la_d33 (off := 1197) (tgt := 1230) (by decide +kernel) (by decide +kernel) (cs_34 C X gs hi6 hB inv kk)
  | 35, _ => ct_Vsw C la_d33 (off := 1270) (tgt := 1303) (by decide +kernel) (by decide +kernel) (cs_35 C X gs hi6 hB inv kk)
  | 36, _ => ct_Vsw C la_d33 (off := 1304) (tgt := 1337) (by decide +kernel) (by decide +kernel) (cs_36 C X gs hi6 hB inv kk)
  | n + 37, hk => absurd hk (by omega)
theorem la_d18 : decode code 18 = .ok (.iload_n 3, 1) := by decide +kernel
theorem la_d19 : decode code 19 = .ok (.aload_n 0, 1) := by decide +kernel
theorem la_d20 : decode code 20 = .ok (.arraylength, 1) := by decide +kernel
theorem la_d21 : decode code 21 = .ok (.bipush 6, 2) := by decide +kernel
theorem la_d23 : decode code 23 = .ok (.isub, 1) := by decide +kernel
theorem la_d24 : decode code 24 = .ok (.if_icmp .gt 1382, 3) := by decide +kernel
theorem la_d27 : decode code 27 = .ok (.aload_n 0, 1) := by decide +kernel
theorem la_d28 : decode code 28 = .ok (.iload_n 3, 1) := by decide +kernel
theorem la_d29 : decode code 29 = .ok (.iaload, 1) := by decide +kernel
theorem la_d30 : decode code 30 = .ok (.bipush 63, 2) := by decide +kernel
theorem la_d32 : decode code 32 = .ok (.iand, 1) := by decide +kernel
theorem la_d1400 : decode code 1400 = .ok (.iinc 3 6, 3) := by decide +kernel
theorem la_d1403 : decode code 1403 = .ok (.goto (-1385), 3) := by decide +kernel
theorem la_d1406 : decode code 1406 = .ok (.iconst 1, 1) := by decide +kernel
theorem la_d1407 : decode code 1407 = .ok (.ireturn, 1) := by decide +kernel
theorem la_disp (C : la_C p s m b c A D cA ad) (X : la_X s A ad b L xs) (gs : GS G0) (hi6 : i + 6 ≤ L) (hB : B ≤ 2000000000) (inv : INV G0 h hi wi B) (kk : la_K p l e s m below meth c A D cA ad Q b i B) : la_V p l e s m below meth c A D cA ad Q b 27 (la_ls i) [] h := by
  refine ct_st1_ok C (q := (27, .aload_n 0, 1, 0)) la_d27 rfl trivial rfl ?_
  refine ct_st1_ok C (q := (28, .iload_n 3, 1, 0)) la_d28 rfl trivial rfl ?_
  refine la_sld C X (k := i) (by omega) la_d29 ?_
  refine ct_st1_ok C (q := (30, .bipush 63, 2, 0)) la_d30 rfl trivial rfl ?_
  refine ct_st1_ok C (q := (32, .iand, 1, 0)) la_d32 rfl trivial rfl ?_
  show la_V p l e s m below meth c A D cA ad Q b 33 (la_ls i) [.inl (ct_bop (fun x y => x &&& y) (xs i).toInt 63)] h
  generalize ct_bop (fun x y => x &&& y) (xs i).toInt 63 = a
  by_cases hz : a < 0 ∨ 36 < a
  · exact ct_Vsw C la_d33 (off := 1367) (tgt := 1400) (by show (if a < 0 ∨ 36 < a then some (1367 : Int) else _) = _; rw [if_pos hz]) (by decide +kernel) (kk h hi wi (inv.up (by omega)))
  · obtain ⟨k, rfl⟩ : ∃ k : Nat, a = (k : Int) := ⟨a.toNat, by omega⟩
    exact la_jump C X gs hi6 hB inv kk k (by omega)
theorem la_head (C : la_C p s m b c A D cA ad) (X : la_X s A ad b L xs) (hA : ∀ q, A q → s.heap.size ≤ q) (hr : meth.sig.returnType = ret) (hlk : meth.locks = false) (kk : i + 6 ≤ L → la_V p l e s m below meth c A D cA ad (lw_Z below #[Value.ref b] s) b 27 (la_ls i) [] h) : la_V p l e s m below meth c A D cA ad (lw_Z below #[Value.ref b] s) b 18 (la_ls i) [] h := by
  have hL := X.2.2.2.2
  refine ct_st1_ok C (q := (18, .iload_n 3, 1, 0)) la_d18 rfl trivial rfl ?_
  refine ct_st1_ok C (q := (19, .aload_n 0, 1, 0)) la_d19 rfl trivial rfl ?_
  refine la_slen C X la_d20 ?_
  refine ct_st1_ok C (q := (21, .bipush 6, 2, 0)) la_d21 rfl trivial rfl ?_
  refine ct_st1_ok C (q := (23, .isub, 1, 0)) la_d23 rfl trivial rfl ?_
  show la_V p l e s m below meth c A D cA ad (lw_Z below #[Value.ref b] s) b 24 (la_ls i) [.inl (ct_wr ((L : Int) - 6)), .inl (i : Int)] h
  rw [la_w (a := (L : Int) - 6) (by omega) (by omega)]
  refine ct_Vicmp C la_d24 (tgt := 1406) (by decide) (fun _ => ?_) (fun w => kk (by have w2 : ¬ ((L : Int) - 6 < (i : Int)) := w; omega))
  intro H locs lm hP hS hl ho hs hh
  refine lv_iconst (v := 1) C.1 C.2.1 la_d1406 (by decide) ?_
  refine va_forget (fun q hq => hA _ (hS.2.2 q hq)) ?_
  exact lw_ret C.1 C.2.1 hr hlk la_d1407
theorem la_loop (C : la_C p s m b c A D cA ad) (X : la_X s A ad b L xs) (gs : GS G0) (hA : ∀ q, A q → s.heap.size ≤ q) (hr : meth.sig.returnType = ret) (hlk : meth.locks = false) : ∀ (n i : Nat) (h : ct_H) (hi wi : Nat) (B : Int), L ≤ i + n → B + 7000 * (n : Int) ≤ 2000000000 → INV G0 h hi wi B → la_V p l e s m below meth c A D cA ad (lw_Z below #[Value.ref b] s) b 18 (la_ls i) [] h := by
  intro n
  induction n with
  | zero => intro i h hi wi B hn hB inv; exact la_head C X hA hr hlk (fun h6 => absurd h6 (by omega))
  | succ n ih =>
    intro i h hi wi B hn hB inv
    have hB1 : B + 7000 + 7000 * (n : Int) ≤ 2000000000 := by push_cast at hB; omega
    refine la_head C X hA hr hlk (fun h6 => la_disp C X gs h6 (by omega) inv (fun h2 hi2 wi2 inv2 => ?_))
    refine ct_st1_ok C (q := (1400, .iinc 3 6, 3, 0)) la_d1400 rfl trivial rfl ?_
    show la_V p l e s m below meth c A D cA ad (lw_Z below #[Value.ref b] s) b 1403 ((3, .inl (ct_wr ((i : Int) + 6))) :: [(2, .inr (.inr (7, 73))), (1, .inr (.inr (6, 0))), (0, .inr (.inr (17, 3000)))]) [] h2
    have hL := X.2.2.2.2
    rw [la_w (a := (i : Int) + 6) (by omega) (by omega), show (i : Int) + 6 = ((i + 6 : Nat) : Int) by omega]
    exact ct_Vgoto C la_d1403 (tgt := 18) (by decide) (ih (i + 6) h2 hi2 wi2 (B + 7000) (by omega) hB1 inv2)
end
