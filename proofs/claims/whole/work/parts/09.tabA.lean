def ct_fw (own : String) (q : Nat × Nat) : Cond := Cond.fieldLink own q.1 (ct_T (q.2 / 64) (q.2 % 64)).1 (ct_T (q.2 / 64) (q.2 % 64)).2.1 (ct_T (q.2 / 64) (q.2 % 64)).2.2.1
def ct_fchk (FL : List (Nat × Nat)) (ins : Instr) (aux : Nat) : Bool := match ins with
  | .getfield idx => FL.contains (idx, aux)
  | .putfield idx => FL.contains (idx, aux) && (decide (ct_rt (aux / 64) (aux % 64) < 98) || !(ct_T (aux / 64) (aux % 64)).2.2.2)
  | _ => true
def ct_chk (FL : List (Nat × Nat)) (bytes : ByteArray) : List ct_I → Bool
  | [] => true
  | q :: t => decide (decode bytes q.1 = .ok (q.2.1, q.2.2.1)) && ((ct_ctl q.2.1 || q.2.2.1 == ct_len q.2.1) && (ct_fchk FL q.2.1 q.2.2.2 && ((match t with | [] => true | r :: _ => r.1 == q.1 + q.2.2.1) && ct_chk FL bytes t)))
def ct_FLok (own : String) (FL : List (Nat × Nat)) : Prop := ∀ q ∈ FL, q.2 / 64 < 8 ∧ q.2 % 64 < ct_N (q.2 / 64) ∧ ct_fw own q ∈ ct_GW
theorem ct_FL_of {own : String} {FL : List (Nat × Nat)} {ps : List Nat} (h1 : FL.all (fun q => decide (q.2 / 64 < 8) && decide (q.2 % 64 < ct_N (q.2 / 64))) = true) (h2 : FL.map (ct_fw own) = ps.filterMap (fun i => lw_tbl[i]?)) (h3 : (FL.map (ct_fw own)).all goodWord = true) : ct_FLok own FL := by
  intro q hq
  have := List.all_eq_true.mp h1 q hq
  simp only [Bool.and_eq_true, decide_eq_true_eq] at this
  exact ⟨this.1, this.2, ct_inW h2 h3 _ (List.mem_map_of_mem hq)⟩
theorem ct_TK_of {own : String} {FL : List (Nat × Nat)} {bytes : ByteArray} (hF : ct_FLok own FL) : ∀ {T : List ct_I}, ct_chk FL bytes T = true → ct_TK own bytes T
  | [], _ => ⟨fun q hq => by cases hq, fun k q r hq => by simp at hq⟩
  | q :: t, h => by
    unfold ct_chk at h
    simp only [Bool.and_eq_true, decide_eq_true_eq, Bool.or_eq_true, beq_iff_eq] at h
    obtain ⟨h1, h2, h3, h4, h5⟩ := h
    have ih := ct_TK_of hF h5
    refine ⟨fun w hw => ?_, fun k a b ha hb => ?_⟩
    · rcases List.mem_cons.mp hw with e | e
      · subst e
        refine ⟨h1, ?_, h2⟩
        unfold ct_fchk at h3
        unfold ct_fok
        split at h3
        · rename_i idx e0
          rw [e0]
          exact hF _ (by simpa using h3)
        · rename_i idx e0
          rw [e0]
          simp only [Bool.and_eq_true, Bool.or_eq_true, decide_eq_true_eq, Bool.not_eq_true', List.contains_iff_mem] at h3
          obtain ⟨f1, f2, f3⟩ := hF _ h3.1
          exact ⟨f1, f2, f3, fun z => by rcases h3.2 with w | w; · omega; · exact w⟩
        · rename_i n1 n2
          split
          · rename_i idx e0; exact absurd e0 (n1 idx)
          · rename_i idx e0; exact absurd e0 (n2 idx)
          · trivial
      · exact ih.1 w e
    · cases k with
      | zero =>
        cases t with
        | nil => simp at hb
        | cons r t =>
          simp at ha hb h4
          subst ha; subst hb
          exact h4
      | succ k => exact ih.2 k a b (by simpa using ha) (by simpa using hb)
theorem ct_MOk_of {M : ct_M} {FL : List (Nat × Nat)} (i j : Nat) (hF : ct_FLok M.1.cls FL) (h1 : lw_tbl[i]? = some (Cond.code M.1 M.2.1 M.2.2.1 M.2.2.2.1)) (h2 : lw_tbl[j]? = some (Cond.initialized M.1.cls)) (h3 : ct_chk FL M.2.1 M.2.2.2.2 = true) (h4 : (goodWord (Cond.code M.1 M.2.1 M.2.2.1 M.2.2.2.1) && (goodWord (Cond.initialized M.1.cls) && (Nat.ble M.2.2.1 20 && (plainName M.1.cls && (decide (M.1.cls ≠ "java/lang/invoke/MethodHandle" ∧ M.1.cls ≠ "java/lang/invoke/VarHandle") && decide (ct_pc M.2.2.2.2 0 = 0)))))) = true) : ct_MOk M := by
  simp only [Bool.and_eq_true, decide_eq_true_eq] at h4
  obtain ⟨g1, g2, g3, g4, g5, g6⟩ := h4
  exact ⟨ct_GW_of i h1 g1, ct_GW_of j h2 g2, ct_TK_of hF h3, Nat.le_of_ble_eq_true g3, g4, g5, g6⟩
theorem ct_LkV_of {own : String} {idx nA : Nat} {M : ct_M} (i j k : Nat) (h1 : lw_tbl[i]? = some (Cond.methodLink own idx M.1)) (h2 : lw_tbl[j]? = some (Cond.instanceMethod M.1)) (h3 : lw_tbl[k]? = some (Cond.selects M.1.cls M.1 M.1)) (h4 : (goodWord (Cond.methodLink own idx M.1) && (goodWord (Cond.instanceMethod M.1) && (goodWord (Cond.selects M.1.cls M.1 M.1) && decide ((parseMethodDescriptor M.1.desc).map (fun d => d.parameters.length) = some nA)))) = true) : ct_LkV own idx M nA := by
  simp only [Bool.and_eq_true, decide_eq_true_eq] at h4
  exact ⟨ct_GW_of i h1 h4.1, ct_GW_of j h2 h4.2.1, ct_GW_of k h3 h4.2.2.1, h4.2.2.2⟩
theorem ct_LkS_of {own : String} {idx nA : Nat} {M : ct_M} (i j : Nat) (h1 : lw_tbl[i]? = some (Cond.methodLink own idx M.1)) (h2 : lw_tbl[j]? = some (Cond.static M.1)) (h4 : (goodWord (Cond.methodLink own idx M.1) && (goodWord (Cond.static M.1) && decide ((parseMethodDescriptor M.1.desc).map (fun d => d.parameters.length) = some nA))) = true) : ct_LkS own idx M nA := by
  simp only [Bool.and_eq_true, decide_eq_true_eq] at h4
  exact ⟨ct_GW_of i h1 h4.1, ct_GW_of j h2 h4.2.1, h4.2.2⟩
def fl_X6 : List (Nat × Nat) := [(12, 384), (23, 385), (30, 386), (34, 387), (37, 388), (40, 389), (43, 390), (51, 391), (55, 392), (58, 393), (64, 394), (70, 395), (75, 396), (79, 397), (82, 398), (85, 399), (88, 400), (95, 1), (99, 2), (122, 5), (135, 321), (142, 324), (189, 132), (202, 133), (211, 71), (238, 129), (277, 66), (280, 67), (286, 68), (289, 69), (328, 194), (331, 192), (334, 193), (365, 257), (374, 256)]
set_option maxRecDepth 100000 in
theorem flok_X6 : ct_FLok RX6 fl_X6 := ct_FL_of (ps := [303, 304, 305, 306, 307, 308, 309, 310, 311, 312, 313, 314, 315, 316, 317, 318, 319, 127, 129, 138, 264, 268, 170, 172, 213, 166, 204, 206, 208, 210, 248, 244, 246, 293, 291]) (by decide +kernel) (by decide +kernel) (by decide +kernel)
def fl_X0 : List (Nat × Nat) := [(11, 0), (15, 5), (19, 6), (26, 1), (29, 2), (32, 3), (35, 4)]
set_option maxRecDepth 100000 in
theorem flok_X0 : ct_FLok RX0 fl_X0 := ct_FL_of (ps := [124, 137, 139, 128, 130, 133, 136]) (by decide +kernel) (by decide +kernel) (by decide +kernel)
def fl_X1 : List (Nat × Nat) := [(9, 64), (17, 65), (21, 66), (24, 67), (27, 68), (30, 69), (33, 70), (36, 71), (40, 72), (43, 73), (46, 6), (49, 4), (52, 3), (62, 0)]
set_option maxRecDepth 100000 in
theorem flok_X1 : ct_FLok RX1 fl_X1 := ct_FL_of (ps := [201, 202, 203, 205, 207, 209, 211, 212, 214, 215, 141, 134, 132, 126]) (by decide +kernel) (by decide +kernel) (by decide +kernel)
def fl_X2 : List (Nat × Nat) := [(13, 128), (17, 129), (21, 130), (24, 131), (27, 132), (30, 133), (34, 134), (37, 135), (40, 136), (43, 6), (52, 4), (55, 3), (66, 0)]
set_option maxRecDepth 100000 in
theorem flok_X2 : ct_FLok RX2 fl_X2 := ct_FL_of (ps := [164, 165, 167, 168, 169, 171, 173, 174, 175, 140, 135, 131, 125]) (by decide +kernel) (by decide +kernel) (by decide +kernel)
def fl_X3 : List (Nat × Nat) := [(7, 192), (13, 193), (16, 194)]
set_option maxRecDepth 100000 in
theorem flok_X3 : ct_FLok RX3 fl_X3 := ct_FL_of (ps := [243, 245, 247]) (by decide +kernel) (by decide +kernel) (by decide +kernel)
def fl_X4 : List (Nat × Nat) := [(9, 256), (13, 257), (17, 258)]
set_option maxRecDepth 100000 in
theorem flok_X4 : ct_FLok RX4 fl_X4 := ct_FL_of (ps := [290, 292, 294]) (by decide +kernel) (by decide +kernel) (by decide +kernel)
def fl_X5 : List (Nat × Nat) := [(9, 320), (13, 321), (17, 322), (20, 323), (23, 324), (26, 325)]
set_option maxRecDepth 100000 in
theorem flok_X5 : ct_FLok RX5 fl_X5 := ct_FL_of (ps := [262, 263, 265, 266, 267, 269]) (by decide +kernel) (by decide +kernel) (by decide +kernel)
def fl_L : List (Nat × Nat) := []
set_option maxRecDepth 100000 in
theorem flok_L : ct_FLok RL fl_L := ct_FL_of (ps := []) (by decide +kernel) (by decide +kernel) (by decide +kernel)
def fl_X7 : List (Nat × Nat) := [(9, 448), (15, 449), (18, 451), (22, 452), (26, 454), (29, 455), (32, 458), (36, 459), (39, 460), (42, 461), (45, 464), (48, 465), (51, 468), (54, 469), (57, 470), (60, 471), (63, 473), (66, 474), (69, 476), (72, 477), (75, 478), (78, 480), (81, 481), (86, 482), (89, 484), (92, 485), (97, 486), (112, 450), (125, 453), (140, 456), (157, 457), (242, 462), (245, 463), (275, 467), (288, 466), (389, 472), (404, 475), (414, 479), (420, 483)]
set_option maxRecDepth 100000 in
theorem flok_X7 : ct_FLok RX7 fl_X7 := ct_FL_of (ps := [996, 997, 999, 1000, 1002, 1003, 1006, 1007, 1008, 1009, 1012, 1013, 1016, 1017, 1018, 1019, 1021, 1022, 1024, 1025, 1026, 1028, 1029, 1030, 1032, 1033, 1034, 998, 1001, 1004, 1005, 1010, 1011, 1015, 1014, 1020, 1023, 1027, 1031]) (by decide +kernel) (by decide +kernel) (by decide +kernel)
def fl_J13 : List (Nat × Nat) := []
set_option maxRecDepth 100000 in
theorem flok_J13 : ct_FLok RJ13 fl_J13 := ct_FL_of (ps := []) (by decide +kernel) (by decide +kernel) (by decide +kernel)
def fl_J9 : List (Nat × Nat) := []
set_option maxRecDepth 100000 in
theorem flok_J9 : ct_FLok RJ9 fl_J9 := ct_FL_of (ps := []) (by decide +kernel) (by decide +kernel) (by decide +kernel)
def fl_J7 : List (Nat × Nat) := []
set_option maxRecDepth 100000 in
theorem flok_J7 : ct_FLok RJ7 fl_J7 := ct_FL_of (ps := []) (by decide +kernel) (by decide +kernel) (by decide +kernel)
def t_X0_isSize : List ct_I := [(0, .iload_n 0, 1, 0), (1, .iconst 2, 1, 0), (2, .if_icmp .lt 13, 3, 0), (5, .iload_n 0, 1, 0), (6, .bipush 7, 2, 0), (8, .if_icmp .gt 7, 3, 0), (11, .iconst 1, 1, 0), (12, .goto 4, 3, 0), (15, .iconst 0, 1, 0), (16, .ireturn, 1, 0)]
def m_X0_isSize : ct_M := (yX0_isSize, cX0_isSize, 1, (some .boolean), t_X0_isSize)
set_option maxRecDepth 100000 in
theorem ok_X0_isSize : ct_MOk m_X0_isSize := ct_MOk_of 361 76 flok_X0 (by decide +kernel) (by decide +kernel) (by decide +kernel) (by decide +kernel)
def t_X0_layOut : List ct_I := [(0, .aload_n 0, 1, 0), (1, .iload_n 1, 1, 0), (2, .putfield 26, 3, 1), (5, .aload_n 0, 1, 0), (6, .iload_n 2, 1, 0), (7, .putfield 29, 3, 2), (10, .aload_n 0, 1, 0), (11, .iload_n 2, 1, 0), (12, .iconst 2, 1, 0), (13, .iadd, 1, 0), (14, .putfield 32, 3, 3), (17, .aload_n 0, 1, 0), (18, .iload_n 1, 1, 0), (19, .iconst 2, 1, 0), (20, .iadd, 1, 0), (21, .aload_n 0, 1, 0), (22, .getfield 32, 3, 3), (25, .imul, 1, 0), (26, .putfield 35, 3, 4), (29, .aload_n 0, 1, 0), (30, .getfield 11, 3, 0), (33, .iconst (-1), 1, 0), (34, .invokestatic 38, 3, 0), (37, .aload_n 0, 1, 0), (38, .invokevirtual 44, 3, 0), (41, .istore_n 3, 1, 0), (42, .iconst 0, 1, 0), (43, .istore 4, 2, 0), (45, .iload 4, 2, 0), (47, .iload_n 3, 1, 0), (48, .if_icmp .ge 16, 3, 0), (51, .aload_n 0, 1, 0), (52, .iload 4, 2, 0), (54, .iconst 0, 1, 0), (55, .invokevirtual 48, 3, 0), (58, .iinc 4 1, 3, 0), (61, .goto (-16), 3, 0), (64, .return_, 1, 0)]
def m_X0_layOut : ct_M := (yX0_layOut, cX0_layOut, 5, none, t_X0_layOut)
set_option maxRecDepth 100000 in
theorem ok_X0_layOut : ct_MOk m_X0_layOut := ct_MOk_of 108 76 flok_X0 (by decide +kernel) (by decide +kernel) (by decide +kernel) (by decide +kernel)
def t_X0_copyFrom : List ct_I := [(0, .aload_n 0, 1, 0), (1, .aload_n 1, 1, 0), (2, .getfield 26, 3, 1), (5, .aload_n 1, 1, 0), (6, .getfield 29, 3, 2), (9, .invokevirtual 22, 3, 0), (12, .aload_n 1, 1, 0), (13, .getfield 11, 3, 0), (16, .iconst 0, 1, 0), (17, .aload_n 0, 1, 0), (18, .getfield 11, 3, 0), (21, .iconst 0, 1, 0), (22, .bipush 81, 2, 0), (24, .invokestatic 51, 3, 0), (27, .aload_n 0, 1, 0), (28, .aload_n 1, 1, 0), (29, .getfield 15, 3, 5), (32, .invokevirtual 57, 3, 0), (35, .return_, 1, 0)]
def m_X0_copyFrom : ct_M := (yX0_copyFrom, cX0_copyFrom, 2, none, t_X0_copyFrom)
set_option maxRecDepth 100000 in
theorem ok_X0_copyFrom : ct_MOk m_X0_copyFrom := ct_MOk_of 895 76 flok_X0 (by decide +kernel) (by decide +kernel) (by decide +kernel) (by decide +kernel)
def t_X0_putKind : List ct_I := [(0, .aload_n 0, 1, 0), (1, .iload_n 1, 1, 0), (2, .putfield 15, 3, 5), (5, .aload_n 0, 1, 0), (6, .dup, 1, 0), (7, .getfield 19, 3, 6), (10, .iconst 1, 1, 0), (11, .iadd, 1, 0), (12, .putfield 19, 3, 6), (15, .return_, 1, 0)]
def m_X0_putKind : ct_M := (yX0_putKind, cX0_putKind, 2, none, t_X0_putKind)
set_option maxRecDepth 100000 in
theorem ok_X0_putKind : ct_MOk m_X0_putKind := ct_MOk_of 389 76 flok_X0 (by decide +kernel) (by decide +kernel) (by decide +kernel) (by decide +kernel)
def t_X0_putHeight : List ct_I := [(0, .aload_n 0, 1, 0), (1, .getfield 11, 3, 0), (4, .aload_n 0, 1, 0), (5, .iload_n 1, 1, 0), (6, .invokevirtual 61, 3, 0), (9, .iload_n 2, 1, 0), (10, .iastore, 1, 0), (11, .aload_n 0, 1, 0), (12, .dup, 1, 0), (13, .getfield 19, 3, 6), (16, .iconst 1, 1, 0), (17, .iadd, 1, 0), (18, .putfield 19, 3, 6), (21, .return_, 1, 0)]
def m_X0_putHeight : ct_M := (yX0_putHeight, cX0_putHeight, 3, none, t_X0_putHeight)
set_option maxRecDepth 100000 in
theorem ok_X0_putHeight : ct_MOk m_X0_putHeight := ct_MOk_of 119 76 flok_X0 (by decide +kernel) (by decide +kernel) (by decide +kernel) (by decide +kernel)
def t_X0_points : List ct_I := [(0, .aload_n 0, 1, 0), (1, .getfield 26, 3, 1), (4, .aload_n 0, 1, 0), (5, .getfield 29, 3, 2), (8, .imul, 1, 0), (9, .ireturn, 1, 0)]
def m_X0_points : ct_M := (yX0_points, cX0_points, 1, (some .int), t_X0_points)
set_option maxRecDepth 100000 in
theorem ok_X0_points : ct_MOk m_X0_points := ct_MOk_of 115 76 flok_X0 (by decide +kernel) (by decide +kernel) (by decide +kernel) (by decide +kernel)
def t_X0_isPoint : List ct_I := [(0, .iload_n 1, 1, 0), (1, .ifCond .lt 15, 3, 0), (4, .iload_n 1, 1, 0), (5, .aload_n 0, 1, 0), (6, .invokevirtual 44, 3, 0), (9, .if_icmp .ge 7, 3, 0), (12, .iconst 1, 1, 0), (13, .goto 4, 3, 0), (16, .iconst 0, 1, 0), (17, .ireturn, 1, 0)]
def m_X0_isPoint : ct_M := (yX0_isPoint, cX0_isPoint, 2, (some .boolean), t_X0_isPoint)
set_option maxRecDepth 100000 in
theorem ok_X0_isPoint : ct_MOk m_X0_isPoint := ct_MOk_of 370 76 flok_X0 (by decide +kernel) (by decide +kernel) (by decide +kernel) (by decide +kernel)
def t_X0_placeOf : List ct_I := [(0, .aload_n 0, 1, 0), (1, .getfield 32, 3, 3), (4, .iload_n 1, 1, 0), (5, .aload_n 0, 1, 0), (6, .getfield 29, 3, 2), (9, .idiv, 1, 0), (10, .iconst 1, 1, 0), (11, .iadd, 1, 0), (12, .imul, 1, 0), (13, .iload_n 1, 1, 0), (14, .aload_n 0, 1, 0), (15, .getfield 29, 3, 2), (18, .irem, 1, 0), (19, .iadd, 1, 0), (20, .iconst 1, 1, 0), (21, .iadd, 1, 0), (22, .ireturn, 1, 0)]
def m_X0_placeOf : ct_M := (yX0_placeOf, cX0_placeOf, 2, (some .int), t_X0_placeOf)
set_option maxRecDepth 100000 in
theorem ok_X0_placeOf : ct_MOk m_X0_placeOf := ct_MOk_of 123 76 flok_X0 (by decide +kernel) (by decide +kernel) (by decide +kernel) (by decide +kernel)
def t_X0_pointOf : List ct_I := [(0, .aload_n 0, 1, 0), (1, .getfield 29, 3, 2), (4, .iload_n 1, 1, 0), (5, .aload_n 0, 1, 0), (6, .getfield 32, 3, 3), (9, .idiv, 1, 0), (10, .iconst 1, 1, 0), (11, .isub, 1, 0), (12, .imul, 1, 0), (13, .iload_n 1, 1, 0), (14, .aload_n 0, 1, 0), (15, .getfield 32, 3, 3), (18, .irem, 1, 0), (19, .iadd, 1, 0), (20, .iconst 1, 1, 0), (21, .isub, 1, 0), (22, .ireturn, 1, 0)]
def m_X0_pointOf : ct_M := (yX0_pointOf, cX0_pointOf, 2, (some .int), t_X0_pointOf)
set_option maxRecDepth 100000 in
theorem ok_X0_pointOf : ct_MOk m_X0_pointOf := ct_MOk_of 798 76 flok_X0 (by decide +kernel) (by decide +kernel) (by decide +kernel) (by decide +kernel)
def t_X0_heightOf : List ct_I := [(0, .aload_n 0, 1, 0), (1, .getfield 11, 3, 0), (4, .aload_n 0, 1, 0), (5, .iload_n 1, 1, 0), (6, .invokevirtual 61, 3, 0), (9, .iaload, 1, 0), (10, .ireturn, 1, 0)]
def m_X0_heightOf : ct_M := (yX0_heightOf, cX0_heightOf, 2, (some .int), t_X0_heightOf)
set_option maxRecDepth 100000 in
theorem ok_X0_heightOf : ct_MOk m_X0_heightOf := ct_MOk_of 377 76 flok_X0 (by decide +kernel) (by decide +kernel) (by decide +kernel) (by decide +kernel)
def t_X0_greatest : List ct_I := [(0, .iconst (-1), 1, 0), (1, .istore_n 1, 1, 0), (2, .iconst 0, 1, 0), (3, .istore_n 2, 1, 0), (4, .iload_n 2, 1, 0), (5, .aload_n 0, 1, 0), (6, .getfield 35, 3, 4), (9, .if_icmp .ge 20, 3, 0), (12, .iload_n 1, 1, 0), (13, .aload_n 0, 1, 0), (14, .getfield 11, 3, 0), (17, .iload_n 2, 1, 0), (18, .iaload, 1, 0), (19, .invokestatic 65, 3, 0), (22, .istore_n 1, 1, 0), (23, .iinc 2 1, 3, 0), (26, .goto (-22), 3, 0), (29, .iload_n 1, 1, 0), (30, .ireturn, 1, 0)]
def m_X0_greatest : ct_M := (yX0_greatest, cX0_greatest, 3, (some .int), t_X0_greatest)
set_option maxRecDepth 100000 in
theorem ok_X0_greatest : ct_MOk m_X0_greatest := ct_MOk_of 545 76 flok_X0 (by decide +kernel) (by decide +kernel) (by decide +kernel) (by decide +kernel)
def t_X0_firstOf : List ct_I := [(0, .aload_n 0, 1, 0), (1, .invokevirtual 44, 3, 0), (4, .istore_n 2, 1, 0), (5, .iconst 0, 1, 0), (6, .istore_n 3, 1, 0), (7, .iload_n 3, 1, 0), (8, .iload_n 2, 1, 0), (9, .if_icmp .ge 18, 3, 0), (12, .aload_n 0, 1, 0), (13, .iload_n 3, 1, 0), (14, .invokevirtual 71, 3, 0), (17, .iload_n 1, 1, 0), (18, .if_icmp .eq 9, 3, 0), (21, .iinc 3 1, 3, 0), (24, .goto (-17), 3, 0), (27, .iload_n 3, 1, 0), (28, .ireturn, 1, 0)]
def m_X0_firstOf : ct_M := (yX0_firstOf, cX0_firstOf, 4, (some .int), t_X0_firstOf)
set_option maxRecDepth 100000 in
theorem ok_X0_firstOf : ct_MOk m_X0_firstOf := ct_MOk_of 549 76 flok_X0 (by decide +kernel) (by decide +kernel) (by decide +kernel) (by decide +kernel)
def t_X0_together : List ct_I := [(0, .iconst 0, 1, 0), (1, .istore_n 1, 1, 0), (2, .aload_n 0, 1, 0), (3, .invokevirtual 44, 3, 0), (6, .istore_n 2, 1, 0), (7, .iconst 0, 1, 0), (8, .istore_n 3, 1, 0), (9, .iload_n 3, 1, 0), (10, .iload_n 2, 1, 0), (11, .if_icmp .ge 17, 3, 0), (14, .iload_n 1, 1, 0), (15, .aload_n 0, 1, 0), (16, .iload_n 3, 1, 0), (17, .invokevirtual 71, 3, 0), (20, .iadd, 1, 0), (21, .istore_n 1, 1, 0), (22, .iinc 3 1, 3, 0), (25, .goto (-16), 3, 0), (28, .iload_n 1, 1, 0), (29, .ireturn, 1, 0)]
def m_X0_together : ct_M := (yX0_together, cX0_together, 4, (some .int), t_X0_together)
set_option maxRecDepth 100000 in
theorem ok_X0_together : ct_MOk m_X0_together := ct_MOk_of 942 76 flok_X0 (by decide +kernel) (by decide +kernel) (by decide +kernel) (by decide +kernel)
def t_X0_pointsIn : List ct_I := [(0, .iconst 0, 1, 0), (1, .istore_n 2, 1, 0), (2, .iconst 0, 1, 0), (3, .istore_n 3, 1, 0), (4, .iload_n 3, 1, 0), (5, .aload_n 0, 1, 0), (6, .getfield 35, 3, 4), (9, .if_icmp .ge 22, 3, 0), (12, .aload_n 0, 1, 0), (13, .getfield 11, 3, 0), (16, .iload_n 3, 1, 0), (17, .iaload, 1, 0), (18, .iload_n 1, 1, 0), (19, .if_icmp .lt 6, 3, 0), (22, .iinc 2 1, 3, 0), (25, .iinc 3 1, 3, 0), (28, .goto (-24), 3, 0), (31, .iload_n 2, 1, 0), (32, .ireturn, 1, 0)]
def m_X0_pointsIn : ct_M := (yX0_pointsIn, cX0_pointsIn, 4, (some .int), t_X0_pointsIn)
set_option maxRecDepth 100000 in
theorem ok_X0_pointsIn : ct_MOk m_X0_pointsIn := ct_MOk_of 687 76 flok_X0 (by decide +kernel) (by decide +kernel) (by decide +kernel) (by decide +kernel)
def t_X0_turnOver : List ct_I := [(0, .aload_n 0, 1, 0), (1, .invokevirtual 44, 3, 0), (4, .istore_n 1, 1, 0), (5, .iconst 0, 1, 0), (6, .istore_n 2, 1, 0), (7, .iload_n 2, 1, 0), (8, .iload_n 1, 1, 0), (9, .if_icmp .ge 22, 3, 0), (12, .aload_n 0, 1, 0), (13, .iload_n 2, 1, 0), (14, .bipush 99, 2, 0), (16, .aload_n 0, 1, 0), (17, .iload_n 2, 1, 0), (18, .invokevirtual 71, 3, 0), (21, .isub, 1, 0), (22, .invokevirtual 48, 3, 0), (25, .iinc 2 1, 3, 0), (28, .goto (-21), 3, 0), (31, .return_, 1, 0)]
def m_X0_turnOver : ct_M := (yX0_turnOver, cX0_turnOver, 3, none, t_X0_turnOver)
set_option maxRecDepth 100000 in
theorem ok_X0_turnOver : ct_MOk m_X0_turnOver := ct_MOk_of 532 76 flok_X0 (by decide +kernel) (by decide +kernel) (by decide +kernel) (by decide +kernel)
def t_X0_lowerAll : List ct_I := [(0, .aload_n 0, 1, 0), (1, .invokevirtual 44, 3, 0), (4, .istore_n 2, 1, 0), (5, .iconst 0, 1, 0), (6, .istore_n 3, 1, 0), (7, .iload_n 3, 1, 0), (8, .iload_n 2, 1, 0), (9, .if_icmp .ge 25, 3, 0), (12, .aload_n 0, 1, 0), (13, .iload_n 3, 1, 0), (14, .iconst 0, 1, 0), (15, .aload_n 0, 1, 0), (16, .iload_n 3, 1, 0), (17, .invokevirtual 71, 3, 0), (20, .iload_n 1, 1, 0), (21, .isub, 1, 0), (22, .invokestatic 65, 3, 0), (25, .invokevirtual 48, 3, 0), (28, .iinc 3 1, 3, 0), (31, .goto (-24), 3, 0), (34, .return_, 1, 0)]
def m_X0_lowerAll : ct_M := (yX0_lowerAll, cX0_lowerAll, 4, none, t_X0_lowerAll)
set_option maxRecDepth 100000 in
theorem ok_X0_lowerAll : ct_MOk m_X0_lowerAll := ct_MOk_of 906 76 flok_X0 (by decide +kernel) (by decide +kernel) (by decide +kernel) (by decide +kernel)
def t_X0_fillUp : List ct_I := [(0, .aload_n 0, 1, 0), (1, .iload_n 1, 1, 0), (2, .invokevirtual 74, 3, 0), (5, .ifCond .eq 41, 3, 0), (8, .aload_n 0, 1, 0), (9, .iload_n 2, 1, 0), (10, .invokevirtual 74, 3, 0), (13, .ifCond .eq 33, 3, 0), (16, .iload_n 2, 1, 0), (17, .aload_n 0, 1, 0), (18, .getfield 29, 3, 2), (21, .idiv, 1, 0), (22, .iload_n 1, 1, 0), (23, .aload_n 0, 1, 0), (24, .getfield 29, 3, 2), (27, .idiv, 1, 0), (28, .if_icmp .lt 18, 3, 0), (31, .iload_n 2, 1, 0), (32, .aload_n 0, 1, 0), (33, .getfield 29, 3, 2), (36, .irem, 1, 0), (37, .iload_n 1, 1, 0), (38, .aload_n 0, 1, 0), (39, .getfield 29, 3, 2), (42, .irem, 1, 0), (43, .if_icmp .ge 5, 3, 0), (46, .iconst 0, 1, 0), (47, .ireturn, 1, 0), (48, .iload_n 1, 1, 0), (49, .aload_n 0, 1, 0), (50, .getfield 29, 3, 2), (53, .idiv, 1, 0), (54, .istore 4, 2, 0), (56, .iload 4, 2, 0), (58, .iload_n 2, 1, 0), (59, .aload_n 0, 1, 0), (60, .getfield 29, 3, 2), (63, .idiv, 1, 0), (64, .if_icmp .gt 49, 3, 0), (67, .iload_n 1, 1, 0), (68, .aload_n 0, 1, 0), (69, .getfield 29, 3, 2), (72, .irem, 1, 0), (73, .istore 5, 2, 0), (75, .iload 5, 2, 0), (77, .iload_n 2, 1, 0), (78, .aload_n 0, 1, 0), (79, .getfield 29, 3, 2), (82, .irem, 1, 0), (83, .if_icmp .gt 24, 3, 0), (86, .aload_n 0, 1, 0), (87, .iload 4, 2, 0), (89, .aload_n 0, 1, 0), (90, .getfield 29, 3, 2), (93, .imul, 1, 0), (94, .iload 5, 2, 0), (96, .iadd, 1, 0), (97, .iload_n 3, 1, 0), (98, .invokevirtual 48, 3, 0), (101, .iinc 5 1, 3, 0), (104, .goto (-29), 3, 0), (107, .iinc 4 1, 3, 0), (110, .goto (-54), 3, 0), (113, .iconst 1, 1, 0), (114, .ireturn, 1, 0)]
def m_X0_fillUp : ct_M := (yX0_fillUp, cX0_fillUp, 6, (some .boolean), t_X0_fillUp)
set_option maxRecDepth 100000 in
theorem ok_X0_fillUp : ct_MOk m_X0_fillUp := ct_MOk_of 515 76 flok_X0 (by decide +kernel) (by decide +kernel) (by decide +kernel) (by decide +kernel)
def t_X0_heapUp : List ct_I := [(0, .aload_n 0, 1, 0), (1, .iload_n 1, 1, 0), (2, .invokevirtual 74, 3, 0), (5, .ifCond .ne 5, 3, 0), (8, .iconst 0, 1, 0), (9, .ireturn, 1, 0), (10, .aload_n 0, 1, 0), (11, .invokevirtual 44, 3, 0), (14, .istore 4, 2, 0), (16, .iconst 0, 1, 0), (17, .istore 5, 2, 0), (19, .iload 5, 2, 0), (21, .iload 4, 2, 0), (23, .if_icmp .ge 67, 3, 0), (26, .iload 5, 2, 0), (28, .aload_n 0, 1, 0), (29, .getfield 29, 3, 2), (32, .idiv, 1, 0), (33, .iload_n 1, 1, 0), (34, .aload_n 0, 1, 0), (35, .getfield 29, 3, 2), (38, .idiv, 1, 0), (39, .isub, 1, 0), (40, .invokestatic 78, 3, 0), (43, .iload 5, 2, 0), (45, .aload_n 0, 1, 0), (46, .getfield 29, 3, 2), (49, .irem, 1, 0), (50, .iload_n 1, 1, 0), (51, .aload_n 0, 1, 0), (52, .getfield 29, 3, 2), (55, .irem, 1, 0), (56, .isub, 1, 0), (57, .invokestatic 78, 3, 0), (60, .iadd, 1, 0), (61, .istore 6, 2, 0), (63, .aload_n 0, 1, 0), (64, .iload 5, 2, 0), (66, .aload_n 0, 1, 0), (67, .iload 5, 2, 0), (69, .invokevirtual 71, 3, 0), (72, .iload_n 2, 1, 0), (73, .iload_n 3, 1, 0), (74, .iload 6, 2, 0), (76, .imul, 1, 0), (77, .isub, 1, 0), (78, .invokestatic 65, 3, 0), (81, .invokevirtual 48, 3, 0), (84, .iinc 5 1, 3, 0), (87, .goto (-68), 3, 0), (90, .iconst 1, 1, 0), (91, .ireturn, 1, 0)]
def m_X0_heapUp : ct_M := (yX0_heapUp, cX0_heapUp, 7, (some .boolean), t_X0_heapUp)
set_option maxRecDepth 100000 in
theorem ok_X0_heapUp : ct_MOk m_X0_heapUp := ct_MOk_of 520 76 flok_X0 (by decide +kernel) (by decide +kernel) (by decide +kernel) (by decide +kernel)
def t_X0_isEdge : List ct_I := [(0, .iload_n 1, 1, 0), (1, .ifCond .lt 13, 3, 0), (4, .iload_n 1, 1, 0), (5, .iconst 2, 1, 0), (6, .aload_n 0, 1, 0), (7, .getfield 35, 3, 4), (10, .imul, 1, 0), (11, .if_icmp .lt 5, 3, 0), (14, .iconst 0, 1, 0), (15, .ireturn, 1, 0), (16, .iload_n 1, 1, 0), (17, .iconst 2, 1, 0), (18, .idiv, 1, 0), (19, .istore_n 2, 1, 0), (20, .iload_n 1, 1, 0), (21, .iconst 2, 1, 0), (22, .irem, 1, 0), (23, .ifCond .ne 26, 3, 0), (26, .iload_n 2, 1, 0), (27, .aload_n 0, 1, 0), (28, .getfield 32, 3, 3), (31, .irem, 1, 0), (32, .aload_n 0, 1, 0), (33, .getfield 32, 3, 3), (36, .iconst 1, 1, 0), (37, .isub, 1, 0), (38, .if_icmp .ge 7, 3, 0), (41, .iconst 1, 1, 0), (42, .goto 25, 3, 0), (45, .iconst 0, 1, 0), (46, .goto 21, 3, 0), (49, .iload_n 2, 1, 0), (50, .aload_n 0, 1, 0), (51, .getfield 32, 3, 3), (54, .iadd, 1, 0), (55, .aload_n 0, 1, 0), (56, .getfield 35, 3, 4), (59, .if_icmp .ge 7, 3, 0), (62, .iconst 1, 1, 0), (63, .goto 4, 3, 0), (66, .iconst 0, 1, 0), (67, .ireturn, 1, 0)]
def m_X0_isEdge : ct_M := (yX0_isEdge, cX0_isEdge, 3, (some .boolean), t_X0_isEdge)
set_option maxRecDepth 100000 in
theorem ok_X0_isEdge : ct_MOk m_X0_isEdge := ct_MOk_of 719 76 flok_X0 (by decide +kernel) (by decide +kernel) (by decide +kernel) (by decide +kernel)
def t_X0_isSquare : List ct_I := [(0, .iload_n 1, 1, 0), (1, .ifCond .lt 24, 3, 0), (4, .iload_n 1, 1, 0), (5, .aload_n 0, 1, 0), (6, .getfield 26, 3, 1), (9, .iconst 1, 1, 0), (10, .iadd, 1, 0), (11, .aload_n 0, 1, 0), (12, .getfield 29, 3, 2), (15, .iconst 1, 1, 0), (16, .iadd, 1, 0), (17, .imul, 1, 0), (18, .if_icmp .ge 7, 3, 0), (21, .iconst 1, 1, 0), (22, .goto 4, 3, 0), (25, .iconst 0, 1, 0), (26, .ireturn, 1, 0)]
def m_X0_isSquare : ct_M := (yX0_isSquare, cX0_isSquare, 2, (some .boolean), t_X0_isSquare)
set_option maxRecDepth 100000 in
theorem ok_X0_isSquare : ct_MOk m_X0_isSquare := ct_MOk_of 708 76 flok_X0 (by decide +kernel) (by decide +kernel) (by decide +kernel) (by decide +kernel)
def t_X0_cornerOf : List ct_I := [(0, .aload_n 0, 1, 0), (1, .getfield 32, 3, 3), (4, .iload_n 1, 1, 0), (5, .aload_n 0, 1, 0), (6, .getfield 29, 3, 2), (9, .iconst 1, 1, 0), (10, .iadd, 1, 0), (11, .idiv, 1, 0), (12, .imul, 1, 0), (13, .iload_n 1, 1, 0), (14, .aload_n 0, 1, 0), (15, .getfield 29, 3, 2), (18, .iconst 1, 1, 0), (19, .iadd, 1, 0), (20, .irem, 1, 0), (21, .iadd, 1, 0), (22, .ireturn, 1, 0)]
def m_X0_cornerOf : ct_M := (yX0_cornerOf, cX0_cornerOf, 2, (some .int), t_X0_cornerOf)
set_option maxRecDepth 100000 in
theorem ok_X0_cornerOf : ct_MOk m_X0_cornerOf := ct_MOk_of 695 76 flok_X0 (by decide +kernel) (by decide +kernel) (by decide +kernel) (by decide +kernel)
def t_X0_caseOf : List ct_I := [(0, .aload_n 0, 1, 0), (1, .getfield 11, 3, 0), (4, .iload_n 1, 1, 0), (5, .iaload, 1, 0), (6, .iload_n 2, 1, 0), (7, .if_icmp .lt 7, 3, 0), (10, .iconst 1, 1, 0), (11, .goto 4, 3, 0), (14, .iconst 0, 1, 0), (15, .aload_n 0, 1, 0), (16, .getfield 11, 3, 0), (19, .iload_n 1, 1, 0), (20, .iconst 1, 1, 0), (21, .iadd, 1, 0), (22, .iaload, 1, 0), (23, .iload_n 2, 1, 0), (24, .if_icmp .lt 7, 3, 0), (27, .iconst 2, 1, 0), (28, .goto 4, 3, 0), (31, .iconst 0, 1, 0), (32, .iadd, 1, 0), (33, .aload_n 0, 1, 0), (34, .getfield 11, 3, 0), (37, .iload_n 1, 1, 0), (38, .aload_n 0, 1, 0), (39, .getfield 32, 3, 3), (42, .iadd, 1, 0), (43, .iconst 1, 1, 0), (44, .iadd, 1, 0), (45, .iaload, 1, 0), (46, .iload_n 2, 1, 0), (47, .if_icmp .lt 7, 3, 0), (50, .iconst 4, 1, 0), (51, .goto 4, 3, 0), (54, .iconst 0, 1, 0), (55, .iadd, 1, 0), (56, .aload_n 0, 1, 0), (57, .getfield 11, 3, 0), (60, .iload_n 1, 1, 0), (61, .aload_n 0, 1, 0), (62, .getfield 32, 3, 3), (65, .iadd, 1, 0), (66, .iaload, 1, 0), (67, .iload_n 2, 1, 0), (68, .if_icmp .lt 8, 3, 0), (71, .bipush 8, 2, 0), (73, .goto 4, 3, 0), (76, .iconst 0, 1, 0), (77, .iadd, 1, 0), (78, .ireturn, 1, 0)]
def m_X0_caseOf : ct_M := (yX0_caseOf, cX0_caseOf, 3, (some .int), t_X0_caseOf)
set_option maxRecDepth 100000 in
theorem ok_X0_caseOf : ct_MOk m_X0_caseOf := ct_MOk_of 597 76 flok_X0 (by decide +kernel) (by decide +kernel) (by decide +kernel) (by decide +kernel)
def t_X0_isSaddle : List ct_I := [(0, .iload_n 0, 1, 0), (1, .iconst 5, 1, 0), (2, .if_icmp .eq 9, 3, 0), (5, .iload_n 0, 1, 0), (6, .bipush 10, 2, 0), (8, .if_icmp .ne 7, 3, 0), (11, .iconst 1, 1, 0), (12, .goto 4, 3, 0), (15, .iconst 0, 1, 0), (16, .ireturn, 1, 0)]
def m_X0_isSaddle : ct_M := (yX0_isSaddle, cX0_isSaddle, 1, (some .boolean), t_X0_isSaddle)
set_option maxRecDepth 100000 in
theorem ok_X0_isSaddle : ct_MOk m_X0_isSaddle := ct_MOk_of 600 76 flok_X0 (by decide +kernel) (by decide +kernel) (by decide +kernel) (by decide +kernel)
def t_X0_isJoined : List ct_I := [(0, .aload_n 0, 1, 0), (1, .getfield 11, 3, 0), (4, .iload_n 1, 1, 0), (5, .iaload, 1, 0), (6, .iload_n 2, 1, 0), (7, .isub, 1, 0), (8, .istore_n 3, 1, 0), (9, .aload_n 0, 1, 0), (10, .getfield 11, 3, 0), (13, .iload_n 1, 1, 0), (14, .iconst 1, 1, 0), (15, .iadd, 1, 0), (16, .iaload, 1, 0), (17, .iload_n 2, 1, 0), (18, .isub, 1, 0), (19, .istore 4, 2, 0), (21, .aload_n 0, 1, 0), (22, .getfield 11, 3, 0), (25, .iload_n 1, 1, 0), (26, .aload_n 0, 1, 0), (27, .getfield 32, 3, 3), (30, .iadd, 1, 0), (31, .iconst 1, 1, 0), (32, .iadd, 1, 0), (33, .iaload, 1, 0), (34, .iload_n 2, 1, 0), (35, .isub, 1, 0), (36, .istore 5, 2, 0), (38, .aload_n 0, 1, 0), (39, .getfield 11, 3, 0), (42, .iload_n 1, 1, 0), (43, .aload_n 0, 1, 0), (44, .getfield 32, 3, 3), (47, .iadd, 1, 0), (48, .iaload, 1, 0), (49, .iload_n 2, 1, 0), (50, .isub, 1, 0), (51, .istore 6, 2, 0), (53, .aload_n 0, 1, 0), (54, .getfield 15, 3, 5), (57, .tableswitch 121 1 4 #[31, 33, 52, 76], 31, 0), (88, .iconst 0, 1, 0), (89, .ireturn, 1, 0), (90, .iload_n 3, 1, 0), (91, .iload 4, 2, 0), (93, .iadd, 1, 0), (94, .iload 5, 2, 0), (96, .iadd, 1, 0), (97, .iload 6, 2, 0), (99, .iadd, 1, 0), (100, .ifCond .lt 7, 3, 0), (103, .iconst 1, 1, 0), (104, .goto 4, 3, 0), (107, .iconst 0, 1, 0), (108, .ireturn, 1, 0), (109, .iload_n 1, 1, 0), (110, .aload_n 0, 1, 0), (111, .getfield 32, 3, 3), (114, .idiv, 1, 0), (115, .iload_n 1, 1, 0), (116, .aload_n 0, 1, 0), (117, .getfield 32, 3, 3), (120, .irem, 1, 0), (121, .iadd, 1, 0), (122, .iconst 2, 1, 0), (123, .irem, 1, 0), (124, .ifCond .ne 7, 3, 0), (127, .iconst 1, 1, 0), (128, .goto 4, 3, 0), (131, .iconst 0, 1, 0), (132, .ireturn, 1, 0), (133, .iload_n 3, 1, 0), (134, .iload 5, 2, 0), (136, .imul, 1, 0), (137, .istore 7, 2, 0), (139, .iload 4, 2, 0), (141, .iload 6, 2, 0), (143, .imul, 1, 0), (144, .istore 8, 2, 0), (146, .iload_n 3, 1, 0), (147, .ifCond .lt 18, 3, 0), (150, .iload 7, 2, 0), (152, .iload 8, 2, 0), (154, .if_icmp .lt 7, 3, 0), (157, .iconst 1, 1, 0), (158, .goto 19, 3, 0), (161, .iconst 0, 1, 0), (162, .goto 15, 3, 0), (165, .iload 8, 2, 0), (167, .iload 7, 2, 0), (169, .if_icmp .lt 7, 3, 0), (172, .iconst 1, 1, 0), (173, .goto 4, 3, 0), (176, .iconst 0, 1, 0), (177, .ireturn, 1, 0), (178, .iconst 1, 1, 0), (179, .ireturn, 1, 0)]
def m_X0_isJoined : ct_M := (yX0_isJoined, cX0_isJoined, 9, (some .boolean), t_X0_isJoined)
set_option maxRecDepth 100000 in
theorem ok_X0_isJoined : ct_MOk m_X0_isJoined := ct_MOk_of 604 76 flok_X0 (by decide +kernel) (by decide +kernel) (by decide +kernel) (by decide +kernel)
def t_X0_isJoinedSaddle : List ct_I := [(0, .aload_n 0, 1, 0), (1, .iload_n 1, 1, 0), (2, .iload_n 2, 1, 0), (3, .invokevirtual 81, 3, 0), (6, .invokestatic 84, 3, 0), (9, .ifCond .eq 16, 3, 0), (12, .aload_n 0, 1, 0), (13, .iload_n 1, 1, 0), (14, .iload_n 2, 1, 0), (15, .invokevirtual 87, 3, 0), (18, .ifCond .eq 7, 3, 0), (21, .iconst 1, 1, 0), (22, .goto 4, 3, 0), (25, .iconst 0, 1, 0), (26, .ireturn, 1, 0)]
def m_X0_isJoinedSaddle : ct_M := (yX0_isJoinedSaddle, cX0_isJoinedSaddle, 3, (some .boolean), t_X0_isJoinedSaddle)
set_option maxRecDepth 100000 in
theorem ok_X0_isJoinedSaddle : ct_MOk m_X0_isJoinedSaddle := ct_MOk_of 676 76 flok_X0 (by decide +kernel) (by decide +kernel) (by decide +kernel) (by decide +kernel)
def t_X0_saddles : List ct_I := [(0, .iconst 0, 1, 0), (1, .istore_n 3, 1, 0), (2, .aload_n 0, 1, 0), (3, .getfield 26, 3, 1), (6, .iconst 1, 1, 0), (7, .iadd, 1, 0), (8, .aload_n 0, 1, 0), (9, .getfield 29, 3, 2), (12, .iconst 1, 1, 0), (13, .iadd, 1, 0), (14, .imul, 1, 0), (15, .istore 4, 2, 0), (17, .iconst 0, 1, 0), (18, .istore 5, 2, 0), (20, .iload 5, 2, 0), (22, .iload 4, 2, 0), (24, .if_icmp .ge 47, 3, 0), (27, .aload_n 0, 1, 0), (28, .iload 5, 2, 0), (30, .invokevirtual 91, 3, 0), (33, .istore 6, 2, 0), (35, .aload_n 0, 1, 0), (36, .iload 6, 2, 0), (38, .iload_n 1, 1, 0), (39, .invokevirtual 81, 3, 0), (42, .invokestatic 84, 3, 0), (45, .ifCond .eq 20, 3, 0), (48, .iload_n 2, 1, 0), (49, .ifCond .eq 13, 3, 0), (52, .aload_n 0, 1, 0), (53, .iload 6, 2, 0), (55, .iload_n 1, 1, 0), (56, .invokevirtual 87, 3, 0), (59, .ifCond .eq 6, 3, 0), (62, .iinc 3 1, 3, 0), (65, .iinc 5 1, 3, 0), (68, .goto (-48), 3, 0), (71, .iload_n 3, 1, 0), (72, .ireturn, 1, 0)]
def m_X0_saddles : ct_M := (yX0_saddles, cX0_saddles, 7, (some .int), t_X0_saddles)
set_option maxRecDepth 100000 in
theorem ok_X0_saddles : ct_MOk m_X0_saddles := ct_MOk_of 691 76 flok_X0 (by decide +kernel) (by decide +kernel) (by decide +kernel) (by decide +kernel)
def t_X0_volume : List ct_I := [(0, .iconst 0, 1, 0), (1, .istore_n 2, 1, 0), (2, .aload_n 0, 1, 0), (3, .invokevirtual 44, 3, 0), (6, .istore_n 3, 1, 0), (7, .iconst 0, 1, 0), (8, .istore 4, 2, 0), (10, .iload 4, 2, 0), (12, .iload_n 3, 1, 0), (13, .if_icmp .ge 94, 3, 0), (16, .iload 4, 2, 0), (18, .aload_n 0, 1, 0), (19, .getfield 29, 3, 2), (22, .idiv, 1, 0), (23, .istore 5, 2, 0), (25, .iload 4, 2, 0), (27, .aload_n 0, 1, 0), (28, .getfield 29, 3, 2), (31, .irem, 1, 0), (32, .istore 6, 2, 0), (34, .iload 5, 2, 0), (36, .ifCond .le 18, 3, 0), (39, .iload 5, 2, 0), (41, .aload_n 0, 1, 0), (42, .getfield 26, 3, 1), (45, .iconst 1, 1, 0), (46, .isub, 1, 0), (47, .if_icmp .ge 7, 3, 0), (50, .iconst 2, 1, 0), (51, .goto 4, 3, 0), (54, .iconst 1, 1, 0), (55, .istore 7, 2, 0), (57, .iload 6, 2, 0), (59, .ifCond .le 18, 3, 0), (62, .iload 6, 2, 0), (64, .aload_n 0, 1, 0), (65, .getfield 29, 3, 2), (68, .iconst 1, 1, 0), (69, .isub, 1, 0), (70, .if_icmp .ge 7, 3, 0), (73, .iconst 2, 1, 0), (74, .goto 4, 3, 0), (77, .iconst 1, 1, 0), (78, .istore 8, 2, 0), (80, .iload_n 2, 1, 0), (81, .iload 7, 2, 0), (83, .iload 8, 2, 0), (85, .imul, 1, 0), (86, .iconst 0, 1, 0), (87, .aload_n 0, 1, 0), (88, .iload 4, 2, 0), (90, .invokevirtual 71, 3, 0), (93, .iload_n 1, 1, 0), (94, .isub, 1, 0), (95, .invokestatic 65, 3, 0), (98, .imul, 1, 0), (99, .iadd, 1, 0), (100, .istore_n 2, 1, 0), (101, .iinc 4 1, 3, 0), (104, .goto (-94), 3, 0), (107, .iload_n 2, 1, 0), (108, .ireturn, 1, 0)]
def m_X0_volume : ct_M := (yX0_volume, cX0_volume, 9, (some .int), t_X0_volume)
set_option maxRecDepth 100000 in
theorem ok_X0_volume : ct_MOk m_X0_volume := ct_MOk_of 557 76 flok_X0 (by decide +kernel) (by decide +kernel) (by decide +kernel) (by decide +kernel)
def t_X0_isLikeBelow : List ct_I := [(0, .aload_n 0, 1, 0), (1, .getfield 15, 3, 5), (4, .iconst 2, 1, 0), (5, .if_icmp .eq 11, 3, 0), (8, .aload_n 0, 1, 0), (9, .getfield 15, 3, 5), (12, .iconst 4, 1, 0), (13, .if_icmp .ne 5, 3, 0), (16, .iconst 0, 1, 0), (17, .ireturn, 1, 0), (18, .iconst 0, 1, 0), (19, .istore_n 2, 1, 0), (20, .iload_n 2, 1, 0), (21, .aload_n 0, 1, 0), (22, .getfield 35, 3, 4), (25, .if_icmp .ge 23, 3, 0), (28, .aload_n 0, 1, 0), (29, .getfield 11, 3, 0), (32, .iload_n 2, 1, 0), (33, .iaload, 1, 0), (34, .iload_n 1, 1, 0), (35, .iconst 1, 1, 0), (36, .isub, 1, 0), (37, .if_icmp .ne 5, 3, 0), (40, .iconst 0, 1, 0), (41, .ireturn, 1, 0), (42, .iinc 2 1, 3, 0), (45, .goto (-25), 3, 0), (48, .iconst 1, 1, 0), (49, .ireturn, 1, 0)]
def m_X0_isLikeBelow : ct_M := (yX0_isLikeBelow, cX0_isLikeBelow, 3, (some .boolean), t_X0_isLikeBelow)
set_option maxRecDepth 100000 in
theorem ok_X0_isLikeBelow : ct_MOk m_X0_isLikeBelow := ct_MOk_of 568 76 flok_X0 (by decide +kernel) (by decide +kernel) (by decide +kernel) (by decide +kernel)
def t_X1_find : List ct_I := [(0, .aload_n 0, 1, 0), (1, .getfield 40, 3, 72), (4, .iload_n 1, 1, 0), (5, .if_icmp .ne 18, 3, 0), (8, .aload_n 0, 1, 0), (9, .getfield 43, 3, 73), (12, .aload_n 0, 1, 0), (13, .getfield 9, 3, 64), (16, .getfield 46, 3, 6), (19, .if_icmp .ne 4, 3, 0), (22, .return_, 1, 0), (23, .aload_n 0, 1, 0), (24, .iload_n 1, 1, 0), (25, .putfield 40, 3, 72), (28, .aload_n 0, 1, 0), (29, .aload_n 0, 1, 0), (30, .getfield 9, 3, 64), (33, .getfield 46, 3, 6), (36, .putfield 43, 3, 73), (39, .iconst 0, 1, 0), (40, .istore_n 2, 1, 0), (41, .iload_n 2, 1, 0), (42, .aload_n 0, 1, 0), (43, .getfield 9, 3, 64), (46, .getfield 49, 3, 4), (49, .if_icmp .ge 16, 3, 0), (52, .aload_n 0, 1, 0), (53, .getfield 17, 3, 65), (56, .iload_n 2, 1, 0), (57, .iload_n 2, 1, 0), (58, .iastore, 1, 0), (59, .iinc 2 1, 3, 0), (62, .goto (-21), 3, 0), (65, .aload_n 0, 1, 0), (66, .getfield 9, 3, 64), (69, .getfield 49, 3, 4), (72, .aload_n 0, 1, 0), (73, .getfield 9, 3, 64), (76, .getfield 52, 3, 3), (79, .isub, 1, 0), (80, .iconst 1, 1, 0), (81, .isub, 1, 0), (82, .istore_n 2, 1, 0), (83, .iconst 0, 1, 0), (84, .istore_n 3, 1, 0), (85, .iload_n 3, 1, 0), (86, .iload_n 2, 1, 0), (87, .if_icmp .ge 14, 3, 0), (90, .aload_n 0, 1, 0), (91, .iload_n 3, 1, 0), (92, .invokevirtual 55, 3, 0), (95, .iinc 3 1, 3, 0), (98, .goto (-13), 3, 0), (101, .aload_n 0, 1, 0), (102, .invokevirtual 59, 3, 0), (105, .return_, 1, 0)]
def m_X1_find : ct_M := (yX1_find, cX1_find, 4, none, t_X1_find)
set_option maxRecDepth 100000 in
theorem ok_X1_find : ct_MOk m_X1_find := ct_MOk_of 652 79 flok_X1 (by decide +kernel) (by decide +kernel) (by decide +kernel) (by decide +kernel)
def t_X1_isIn : List ct_I := [(0, .aload_n 0, 1, 0), (1, .getfield 9, 3, 64), (4, .getfield 62, 3, 0), (7, .iload_n 1, 1, 0), (8, .iaload, 1, 0), (9, .aload_n 0, 1, 0), (10, .getfield 40, 3, 72), (13, .if_icmp .lt 7, 3, 0), (16, .iconst 1, 1, 0), (17, .goto 4, 3, 0), (20, .iconst 0, 1, 0), (21, .ireturn, 1, 0)]
def m_X1_isIn : ct_M := (yX1_isIn, cX1_isIn, 2, (some .boolean), t_X1_isIn)
set_option maxRecDepth 100000 in
theorem ok_X1_isIn : ct_MOk m_X1_isIn := ct_MOk_of 660 79 flok_X1 (by decide +kernel) (by decide +kernel) (by decide +kernel) (by decide +kernel)
def t_X1_hangTogether : List ct_I := [(0, .iload_n 1, 1, 0), (1, .aload_n 0, 1, 0), (2, .getfield 9, 3, 64), (5, .getfield 52, 3, 3), (8, .iadd, 1, 0), (9, .istore_n 2, 1, 0), (10, .aload_n 0, 1, 0), (11, .iload_n 1, 1, 0), (12, .invokevirtual 65, 3, 0), (15, .ifCond .eq 35, 3, 0), (18, .aload_n 0, 1, 0), (19, .iload_n 1, 1, 0), (20, .iconst 1, 1, 0), (21, .iadd, 1, 0), (22, .invokevirtual 65, 3, 0), (25, .ifCond .eq 11, 3, 0), (28, .aload_n 0, 1, 0), (29, .iload_n 1, 1, 0), (30, .iload_n 1, 1, 0), (31, .iconst 1, 1, 0), (32, .iadd, 1, 0), (33, .invokevirtual 69, 3, 0), (36, .aload_n 0, 1, 0), (37, .iload_n 2, 1, 0), (38, .invokevirtual 65, 3, 0), (41, .ifCond .eq 9, 3, 0), (44, .aload_n 0, 1, 0), (45, .iload_n 1, 1, 0), (46, .iload_n 2, 1, 0), (47, .invokevirtual 69, 3, 0), (50, .aload_n 0, 1, 0), (51, .getfield 9, 3, 64), (54, .iload_n 1, 1, 0), (55, .aload_n 0, 1, 0), (56, .getfield 40, 3, 72), (59, .invokevirtual 73, 3, 0), (62, .ifCond .eq 30, 3, 0), (65, .aload_n 0, 1, 0), (66, .iload_n 1, 1, 0), (67, .invokevirtual 65, 3, 0), (70, .ifCond .eq 14, 3, 0), (73, .aload_n 0, 1, 0), (74, .iload_n 1, 1, 0), (75, .iload_n 2, 1, 0), (76, .iconst 1, 1, 0), (77, .iadd, 1, 0), (78, .invokevirtual 69, 3, 0), (81, .goto 11, 3, 0), (84, .aload_n 0, 1, 0), (85, .iload_n 1, 1, 0), (86, .iconst 1, 1, 0), (87, .iadd, 1, 0), (88, .iload_n 2, 1, 0), (89, .invokevirtual 69, 3, 0), (92, .return_, 1, 0)]
def m_X1_hangTogether : ct_M := (yX1_hangTogether, cX1_hangTogether, 3, none, t_X1_hangTogether)
set_option maxRecDepth 100000 in
theorem ok_X1_hangTogether : ct_MOk m_X1_hangTogether := ct_MOk_of 656 79 flok_X1 (by decide +kernel) (by decide +kernel) (by decide +kernel) (by decide +kernel)
def t_X1_unite : List ct_I := [(0, .aload_n 0, 1, 0), (1, .iload_n 1, 1, 0), (2, .invokevirtual 77, 3, 0), (5, .istore_n 3, 1, 0), (6, .aload_n 0, 1, 0), (7, .iload_n 2, 1, 0), (8, .invokevirtual 77, 3, 0), (11, .istore 4, 2, 0), (13, .aload_n 0, 1, 0), (14, .getfield 17, 3, 65), (17, .iload_n 3, 1, 0), (18, .iload 4, 2, 0), (20, .invokestatic 81, 3, 0), (23, .iload_n 3, 1, 0), (24, .iload 4, 2, 0), (26, .invokestatic 87, 3, 0), (29, .iastore, 1, 0), (30, .return_, 1, 0)]
def m_X1_unite : ct_M := (yX1_unite, cX1_unite, 5, none, t_X1_unite)
set_option maxRecDepth 100000 in
theorem ok_X1_unite : ct_MOk m_X1_unite := ct_MOk_of 664 79 flok_X1 (by decide +kernel) (by decide +kernel) (by decide +kernel) (by decide +kernel)
def t_X1_rootOf : List ct_I := [(0, .iload_n 1, 1, 0), (1, .istore_n 2, 1, 0), (2, .iconst 0, 1, 0), (3, .istore_n 3, 1, 0), (4, .iload_n 3, 1, 0), (5, .aload_n 0, 1, 0), (6, .getfield 17, 3, 65), (9, .arraylength, 1, 0), (10, .if_icmp .ge 26, 3, 0), (13, .aload_n 0, 1, 0), (14, .getfield 17, 3, 65), (17, .iload_n 2, 1, 0), (18, .iaload, 1, 0), (19, .iload_n 2, 1, 0), (20, .if_icmp .eq 16, 3, 0), (23, .aload_n 0, 1, 0), (24, .getfield 17, 3, 65), (27, .iload_n 2, 1, 0), (28, .iaload, 1, 0), (29, .istore_n 2, 1, 0), (30, .iinc 3 1, 3, 0), (33, .goto (-29), 3, 0), (36, .iload_n 2, 1, 0), (37, .ireturn, 1, 0)]
def m_X1_rootOf : ct_M := (yX1_rootOf, cX1_rootOf, 4, (some .int), t_X1_rootOf)
set_option maxRecDepth 100000 in
theorem ok_X1_rootOf : ct_MOk m_X1_rootOf := ct_MOk_of 668 79 flok_X1 (by decide +kernel) (by decide +kernel) (by decide +kernel) (by decide +kernel)
def t_X1_numberLands : List ct_I := [(0, .aload_n 0, 1, 0), (1, .iconst 0, 1, 0), (2, .putfield 36, 3, 71), (5, .iconst 0, 1, 0), (6, .istore_n 1, 1, 0), (7, .iload_n 1, 1, 0), (8, .aload_n 0, 1, 0), (9, .getfield 9, 3, 64), (12, .getfield 49, 3, 4), (15, .if_icmp .ge 148, 3, 0), (18, .aload_n 0, 1, 0), (19, .iload_n 1, 1, 0), (20, .invokevirtual 77, 3, 0), (23, .istore_n 2, 1, 0), (24, .aload_n 0, 1, 0), (25, .iload_n 1, 1, 0), (26, .invokevirtual 65, 3, 0), (29, .ifCond .ne 14, 3, 0), (32, .aload_n 0, 1, 0), (33, .getfield 21, 3, 66), (36, .iload_n 1, 1, 0), (37, .bipush (-5), 2, 0), (39, .iastore, 1, 0), (40, .goto 117, 3, 0), (43, .iload_n 2, 1, 0), (44, .iload_n 1, 1, 0), (45, .if_icmp .ne 64, 3, 0), (48, .aload_n 0, 1, 0), (49, .getfield 21, 3, 66), (52, .iload_n 1, 1, 0), (53, .aload_n 0, 1, 0), (54, .getfield 36, 3, 71), (57, .iastore, 1, 0), (58, .aload_n 0, 1, 0), (59, .getfield 24, 3, 67), (62, .aload_n 0, 1, 0), (63, .getfield 36, 3, 71), (66, .iload_n 1, 1, 0), (67, .iastore, 1, 0), (68, .aload_n 0, 1, 0), (69, .getfield 27, 3, 68), (72, .aload_n 0, 1, 0), (73, .getfield 36, 3, 71), (76, .iconst 1, 1, 0), (77, .iastore, 1, 0), (78, .aload_n 0, 1, 0), (79, .getfield 30, 3, 69), (82, .aload_n 0, 1, 0), (83, .getfield 36, 3, 71), (86, .aload_n 0, 1, 0), (87, .getfield 9, 3, 64), (90, .getfield 62, 3, 0), (93, .iload_n 1, 1, 0), (94, .iaload, 1, 0), (95, .iastore, 1, 0), (96, .aload_n 0, 1, 0), (97, .dup, 1, 0), (98, .getfield 36, 3, 71), (101, .iconst 1, 1, 0), (102, .iadd, 1, 0), (103, .putfield 36, 3, 71), (106, .goto 51, 3, 0), (109, .aload_n 0, 1, 0), (110, .getfield 21, 3, 66), (113, .iload_n 2, 1, 0), (114, .iaload, 1, 0), (115, .istore_n 3, 1, 0), (116, .aload_n 0, 1, 0), (117, .getfield 21, 3, 66), (120, .iload_n 1, 1, 0), (121, .iload_n 3, 1, 0), (122, .iastore, 1, 0), (123, .aload_n 0, 1, 0), (124, .getfield 27, 3, 68), (127, .iload_n 3, 1, 0), (128, .dup2, 1, 0), (129, .iaload, 1, 0), (130, .iconst 1, 1, 0), (131, .iadd, 1, 0), (132, .iastore, 1, 0), (133, .aload_n 0, 1, 0), (134, .getfield 30, 3, 69), (137, .iload_n 3, 1, 0), (138, .aload_n 0, 1, 0), (139, .getfield 30, 3, 69), (142, .iload_n 3, 1, 0), (143, .iaload, 1, 0), (144, .aload_n 0, 1, 0), (145, .getfield 9, 3, 64), (148, .getfield 62, 3, 0), (151, .iload_n 1, 1, 0), (152, .iaload, 1, 0), (153, .invokestatic 81, 3, 0), (156, .iastore, 1, 0), (157, .iinc 1 1, 3, 0), (160, .goto (-153), 3, 0), (163, .return_, 1, 0)]
def m_X1_numberLands : ct_M := (yX1_numberLands, cX1_numberLands, 4, none, t_X1_numberLands)
set_option maxRecDepth 100000 in
theorem ok_X1_numberLands : ct_MOk m_X1_numberLands := ct_MOk_of 683 79 flok_X1 (by decide +kernel) (by decide +kernel) (by decide +kernel) (by decide +kernel)
def t_X1_clearChildren : List ct_I := [(0, .aload_n 0, 1, 0), (1, .getfield 33, 3, 70), (4, .iconst 0, 1, 0), (5, .invokestatic 90, 3, 0), (8, .return_, 1, 0)]
def m_X1_clearChildren : ct_M := (yX1_clearChildren, cX1_clearChildren, 1, none, t_X1_clearChildren)
set_option maxRecDepth 100000 in
theorem ok_X1_clearChildren : ct_MOk m_X1_clearChildren := ct_MOk_of 826 79 flok_X1 (by decide +kernel) (by decide +kernel) (by decide +kernel) (by decide +kernel)
def t_X1_addChild : List ct_I := [(0, .aload_n 0, 1, 0), (1, .getfield 33, 3, 70), (4, .aload_n 0, 1, 0), (5, .getfield 21, 3, 66), (8, .iload_n 1, 1, 0), (9, .iaload, 1, 0), (10, .dup2, 1, 0), (11, .iaload, 1, 0), (12, .iconst 1, 1, 0), (13, .iadd, 1, 0), (14, .iastore, 1, 0), (15, .return_, 1, 0)]
def m_X1_addChild : ct_M := (yX1_addChild, cX1_addChild, 2, none, t_X1_addChild)
set_option maxRecDepth 100000 in
theorem ok_X1_addChild : ct_MOk m_X1_addChild := ct_MOk_of 831 79 flok_X1 (by decide +kernel) (by decide +kernel) (by decide +kernel) (by decide +kernel)
def t_X1_leaves : List ct_I := [(0, .iconst 0, 1, 0), (1, .istore_n 1, 1, 0), (2, .iconst 0, 1, 0), (3, .istore_n 2, 1, 0), (4, .iload_n 2, 1, 0), (5, .aload_n 0, 1, 0), (6, .getfield 36, 3, 71), (9, .if_icmp .ge 21, 3, 0), (12, .aload_n 0, 1, 0), (13, .getfield 33, 3, 70), (16, .iload_n 2, 1, 0), (17, .iaload, 1, 0), (18, .ifCond .ne 6, 3, 0), (21, .iinc 1 1, 3, 0), (24, .iinc 2 1, 3, 0), (27, .goto (-23), 3, 0), (30, .iload_n 1, 1, 0), (31, .ireturn, 1, 0)]
def m_X1_leaves : ct_M := (yX1_leaves, cX1_leaves, 3, (some .int), t_X1_leaves)
set_option maxRecDepth 100000 in
theorem ok_X1_leaves : ct_MOk m_X1_leaves := ct_MOk_of 835 79 flok_X1 (by decide +kernel) (by decide +kernel) (by decide +kernel) (by decide +kernel)
def t_X1_forks : List ct_I := [(0, .iconst 0, 1, 0), (1, .istore_n 1, 1, 0), (2, .iconst 0, 1, 0), (3, .istore_n 2, 1, 0), (4, .iload_n 2, 1, 0), (5, .aload_n 0, 1, 0), (6, .getfield 36, 3, 71), (9, .if_icmp .ge 22, 3, 0), (12, .aload_n 0, 1, 0), (13, .getfield 33, 3, 70), (16, .iload_n 2, 1, 0), (17, .iaload, 1, 0), (18, .iconst 1, 1, 0), (19, .if_icmp .le 6, 3, 0), (22, .iinc 1 1, 3, 0), (25, .iinc 2 1, 3, 0), (28, .goto (-24), 3, 0), (31, .iload_n 1, 1, 0), (32, .ireturn, 1, 0)]
def m_X1_forks : ct_M := (yX1_forks, cX1_forks, 3, (some .int), t_X1_forks)
set_option maxRecDepth 100000 in
theorem ok_X1_forks : ct_MOk m_X1_forks := ct_MOk_of 839 79 flok_X1 (by decide +kernel) (by decide +kernel) (by decide +kernel) (by decide +kernel)
def t_X2_trace : List ct_I := [(0, .aload_n 0, 1, 0), (1, .getfield 34, 3, 134), (4, .iload_n 1, 1, 0), (5, .if_icmp .ne 18, 3, 0), (8, .aload_n 0, 1, 0), (9, .getfield 37, 3, 135), (12, .aload_n 0, 1, 0), (13, .getfield 13, 3, 128), (16, .getfield 43, 3, 6), (19, .if_icmp .ne 4, 3, 0), (22, .return_, 1, 0), (23, .aload_n 0, 1, 0), (24, .iload_n 1, 1, 0), (25, .putfield 34, 3, 134), (28, .aload_n 0, 1, 0), (29, .aload_n 0, 1, 0), (30, .getfield 13, 3, 128), (33, .getfield 43, 3, 6), (36, .putfield 37, 3, 135), (39, .aload_n 0, 1, 0), (40, .iconst 0, 1, 0), (41, .putfield 30, 3, 133), (44, .aload_n 0, 1, 0), (45, .getfield 17, 3, 129), (48, .bipush (-5), 2, 0), (50, .invokestatic 46, 3, 0), (53, .aload_n 0, 1, 0), (54, .getfield 13, 3, 128), (57, .getfield 52, 3, 4), (60, .aload_n 0, 1, 0), (61, .getfield 13, 3, 128), (64, .getfield 55, 3, 3), (67, .isub, 1, 0), (68, .istore_n 2, 1, 0), (69, .iconst 0, 1, 0), (70, .istore_n 3, 1, 0), (71, .iload_n 3, 1, 0), (72, .iload_n 2, 1, 0), (73, .if_icmp .ge 61, 3, 0), (76, .aload_n 0, 1, 0), (77, .iload_n 3, 1, 0), (78, .invokevirtual 58, 3, 0), (81, .aload_n 0, 1, 0), (82, .iload_n 3, 1, 0), (83, .iconst 1, 1, 0), (84, .iadd, 1, 0), (85, .invokevirtual 58, 3, 0), (88, .if_icmp .eq 10, 3, 0), (91, .aload_n 0, 1, 0), (92, .iconst 2, 1, 0), (93, .iload_n 3, 1, 0), (94, .imul, 1, 0), (95, .invokevirtual 62, 3, 0), (98, .aload_n 0, 1, 0), (99, .iload_n 3, 1, 0), (100, .invokevirtual 58, 3, 0), (103, .aload_n 0, 1, 0), (104, .iload_n 3, 1, 0), (105, .aload_n 0, 1, 0), (106, .getfield 13, 3, 128), (109, .getfield 55, 3, 3), (112, .iadd, 1, 0), (113, .invokevirtual 58, 3, 0), (116, .if_icmp .eq 12, 3, 0), (119, .aload_n 0, 1, 0), (120, .iconst 2, 1, 0), (121, .iload_n 3, 1, 0), (122, .imul, 1, 0), (123, .iconst 1, 1, 0), (124, .iadd, 1, 0), (125, .invokevirtual 62, 3, 0), (128, .iinc 3 1, 3, 0), (131, .goto (-60), 3, 0), (134, .return_, 1, 0)]
def m_X2_trace : ct_M := (yX2_trace, cX2_trace, 4, none, t_X2_trace)
set_option maxRecDepth 100000 in
theorem ok_X2_trace : ct_MOk m_X2_trace := ct_MOk_of 572 78 flok_X2 (by decide +kernel) (by decide +kernel) (by decide +kernel) (by decide +kernel)
def t_X2_isIn : List ct_I := [(0, .aload_n 0, 1, 0), (1, .getfield 13, 3, 128), (4, .getfield 66, 3, 0), (7, .iload_n 1, 1, 0), (8, .iaload, 1, 0), (9, .aload_n 0, 1, 0), (10, .getfield 34, 3, 134), (13, .if_icmp .lt 7, 3, 0), (16, .iconst 1, 1, 0), (17, .goto 4, 3, 0), (20, .iconst 0, 1, 0), (21, .ireturn, 1, 0)]
def m_X2_isIn : ct_M := (yX2_isIn, cX2_isIn, 2, (some .boolean), t_X2_isIn)
set_option maxRecDepth 100000 in
theorem ok_X2_isIn : ct_MOk m_X2_isIn := ct_MOk_of 577 78 flok_X2 (by decide +kernel) (by decide +kernel) (by decide +kernel) (by decide +kernel)
def t_X2_follow : List ct_I := [(0, .aload_n 0, 1, 0), (1, .getfield 17, 3, 129), (4, .iload_n 1, 1, 0), (5, .iaload, 1, 0), (6, .bipush (-5), 2, 0), (8, .if_icmp .ne 12, 3, 0), (11, .aload_n 0, 1, 0), (12, .getfield 30, 3, 133), (15, .bipush 40, 2, 0), (17, .if_icmp .lt 4, 3, 0), (20, .return_, 1, 0), (21, .aload_n 0, 1, 0), (22, .getfield 24, 3, 131), (25, .aload_n 0, 1, 0), (26, .getfield 30, 3, 133), (29, .iaload, 1, 0), (30, .istore_n 2, 1, 0), (31, .iload_n 1, 1, 0), (32, .istore_n 3, 1, 0), (33, .iload_n 2, 1, 0), (34, .sipush 162, 3, 0), (37, .if_icmp .ge 43, 3, 0), (40, .aload_n 0, 1, 0), (41, .getfield 17, 3, 129), (44, .iload_n 3, 1, 0), (45, .iaload, 1, 0), (46, .bipush (-5), 2, 0), (48, .if_icmp .ne 32, 3, 0), (51, .aload_n 0, 1, 0), (52, .getfield 17, 3, 129), (55, .iload_n 3, 1, 0), (56, .aload_n 0, 1, 0), (57, .getfield 30, 3, 133), (60, .iastore, 1, 0), (61, .aload_n 0, 1, 0), (62, .getfield 21, 3, 130), (65, .iload_n 2, 1, 0), (66, .iload_n 3, 1, 0), (67, .iastore, 1, 0), (68, .iinc 2 1, 3, 0), (71, .aload_n 0, 1, 0), (72, .iload_n 3, 1, 0), (73, .invokevirtual 69, 3, 0), (76, .istore_n 3, 1, 0), (77, .goto (-44), 3, 0), (80, .aload_n 0, 1, 0), (81, .dup, 1, 0), (82, .getfield 30, 3, 133), (85, .iconst 1, 1, 0), (86, .iadd, 1, 0), (87, .putfield 30, 3, 133), (90, .aload_n 0, 1, 0), (91, .getfield 24, 3, 131), (94, .aload_n 0, 1, 0), (95, .getfield 30, 3, 133), (98, .iload_n 2, 1, 0), (99, .iastore, 1, 0), (100, .return_, 1, 0)]
def m_X2_follow : ct_M := (yX2_follow, cX2_follow, 4, none, t_X2_follow)
set_option maxRecDepth 100000 in
theorem ok_X2_follow : ct_MOk m_X2_follow := ct_MOk_of 581 78 flok_X2 (by decide +kernel) (by decide +kernel) (by decide +kernel) (by decide +kernel)
def t_X2_nextOf : List ct_I := [(0, .aload_n 0, 1, 0), (1, .iload_n 1, 1, 0), (2, .invokevirtual 73, 3, 0), (5, .lookupswitch 70 #[(100, 52), (114, 61), (117, 35)], 35, 0), (40, .aload_n 0, 1, 0), (41, .iload_n 1, 1, 0), (42, .iconst 2, 1, 0), (43, .idiv, 1, 0), (44, .aload_n 0, 1, 0), (45, .getfield 13, 3, 128), (48, .getfield 55, 3, 3), (51, .isub, 1, 0), (52, .iconst 2, 1, 0), (53, .invokevirtual 76, 3, 0), (56, .ireturn, 1, 0), (57, .aload_n 0, 1, 0), (58, .iload_n 1, 1, 0), (59, .iconst 2, 1, 0), (60, .idiv, 1, 0), (61, .iconst 0, 1, 0), (62, .invokevirtual 76, 3, 0), (65, .ireturn, 1, 0), (66, .aload_n 0, 1, 0), (67, .iload_n 1, 1, 0), (68, .iconst 2, 1, 0), (69, .idiv, 1, 0), (70, .iconst 3, 1, 0), (71, .invokevirtual 76, 3, 0), (74, .ireturn, 1, 0), (75, .aload_n 0, 1, 0), (76, .iload_n 1, 1, 0), (77, .iconst 2, 1, 0), (78, .idiv, 1, 0), (79, .iconst 1, 1, 0), (80, .isub, 1, 0), (81, .iconst 1, 1, 0), (82, .invokevirtual 76, 3, 0), (85, .ireturn, 1, 0)]
def m_X2_nextOf : ct_M := (yX2_nextOf, cX2_nextOf, 2, (some .int), t_X2_nextOf)
set_option maxRecDepth 100000 in
theorem ok_X2_nextOf : ct_MOk m_X2_nextOf := ct_MOk_of 585 78 flok_X2 (by decide +kernel) (by decide +kernel) (by decide +kernel) (by decide +kernel)
def t_X2_wayOver : List ct_I := [(0, .aload_n 0, 1, 0), (1, .iload_n 1, 1, 0), (2, .iconst 2, 1, 0), (3, .idiv, 1, 0), (4, .invokevirtual 58, 3, 0), (7, .istore_n 2, 1, 0), (8, .iload_n 1, 1, 0), (9, .iconst 2, 1, 0), (10, .irem, 1, 0), (11, .ifCond .ne 15, 3, 0), (14, .iload_n 2, 1, 0), (15, .ifCond .eq 8, 3, 0), (18, .bipush 117, 2, 0), (20, .goto 5, 3, 0), (23, .bipush 100, 2, 0), (25, .ireturn, 1, 0), (26, .iload_n 2, 1, 0), (27, .ifCond .eq 8, 3, 0), (30, .bipush 114, 2, 0), (32, .goto 5, 3, 0), (35, .bipush 108, 2, 0), (37, .ireturn, 1, 0)]
def m_X2_wayOver : ct_M := (yX2_wayOver, cX2_wayOver, 3, (some .int), t_X2_wayOver)
set_option maxRecDepth 100000 in
theorem ok_X2_wayOver : ct_MOk m_X2_wayOver := ct_MOk_of 589 78 flok_X2 (by decide +kernel) (by decide +kernel) (by decide +kernel) (by decide +kernel)
def t_X2_leave : List ct_I := [(0, .aload_n 0, 1, 0), (1, .getfield 13, 3, 128), (4, .iload_n 1, 1, 0), (5, .aload_n 0, 1, 0), (6, .getfield 34, 3, 134), (9, .invokevirtual 80, 3, 0), (12, .istore_n 3, 1, 0), (13, .iload_n 3, 1, 0), (14, .invokestatic 83, 3, 0), (17, .ifCond .eq 55, 3, 0), (20, .iload_n 3, 1, 0), (21, .iconst 5, 1, 0), (22, .if_icmp .ne 7, 3, 0), (25, .iconst 1, 1, 0), (26, .goto 4, 3, 0), (29, .iconst 0, 1, 0), (30, .aload_n 0, 1, 0), (31, .getfield 13, 3, 128), (34, .iload_n 1, 1, 0), (35, .aload_n 0, 1, 0), (36, .getfield 34, 3, 134), (39, .invokevirtual 86, 3, 0), (42, .if_icmp .ne 7, 3, 0), (45, .iconst 1, 1, 0), (46, .goto 4, 3, 0), (49, .iconst 0, 1, 0), (50, .istore 4, 2, 0), (52, .aload_n 0, 1, 0), (53, .iload_n 1, 1, 0), (54, .iload 4, 2, 0), (56, .ifCond .eq 9, 3, 0), (59, .iload_n 2, 1, 0), (60, .iconst 1, 1, 0), (61, .ixor, 1, 0), (62, .goto 6, 3, 0), (65, .iconst 3, 1, 0), (66, .iload_n 2, 1, 0), (67, .isub, 1, 0), (68, .invokevirtual 90, 3, 0), (71, .ireturn, 1, 0), (72, .iconst 0, 1, 0), (73, .istore 4, 2, 0), (75, .iload 4, 2, 0), (77, .iconst 3, 1, 0), (78, .if_icmp .ge 19, 3, 0), (81, .iload_n 3, 1, 0), (82, .iload 4, 2, 0), (84, .ishr, 1, 0), (85, .iconst 3, 1, 0), (86, .iand, 1, 0), (87, .iconst 1, 1, 0), (88, .if_icmp .eq 9, 3, 0), (91, .iinc 4 1, 3, 0), (94, .goto (-19), 3, 0), (97, .aload_n 0, 1, 0), (98, .iload_n 1, 1, 0), (99, .iload 4, 2, 0), (101, .invokevirtual 90, 3, 0), (104, .ireturn, 1, 0)]
def m_X2_leave : ct_M := (yX2_leave, cX2_leave, 5, (some .int), t_X2_leave)
set_option maxRecDepth 100000 in
theorem ok_X2_leave : ct_MOk m_X2_leave := ct_MOk_of 593 78 flok_X2 (by decide +kernel) (by decide +kernel) (by decide +kernel) (by decide +kernel)
def t_X2_sideOf : List ct_I := [(0, .iload_n 2, 1, 0), (1, .tableswitch 51 0 2 #[27, 31, 39], 27, 0), (28, .iconst 2, 1, 0), (29, .iload_n 1, 1, 0), (30, .imul, 1, 0), (31, .ireturn, 1, 0), (32, .iconst 2, 1, 0), (33, .iload_n 1, 1, 0), (34, .iconst 1, 1, 0), (35, .iadd, 1, 0), (36, .imul, 1, 0), (37, .iconst 1, 1, 0), (38, .iadd, 1, 0), (39, .ireturn, 1, 0), (40, .iconst 2, 1, 0), (41, .iload_n 1, 1, 0), (42, .aload_n 0, 1, 0), (43, .getfield 13, 3, 128), (46, .getfield 55, 3, 3), (49, .iadd, 1, 0), (50, .imul, 1, 0), (51, .ireturn, 1, 0), (52, .iconst 2, 1, 0), (53, .iload_n 1, 1, 0), (54, .imul, 1, 0), (55, .iconst 1, 1, 0), (56, .iadd, 1, 0), (57, .ireturn, 1, 0)]
def m_X2_sideOf : ct_M := (yX2_sideOf, cX2_sideOf, 3, (some .int), t_X2_sideOf)
set_option maxRecDepth 100000 in
theorem ok_X2_sideOf : ct_MOk m_X2_sideOf := ct_MOk_of 608 78 flok_X2 (by decide +kernel) (by decide +kernel) (by decide +kernel) (by decide +kernel)
def t_X2_isLine : List ct_I := [(0, .iload_n 1, 1, 0), (1, .ifCond .lt 15, 3, 0), (4, .iload_n 1, 1, 0), (5, .aload_n 0, 1, 0), (6, .getfield 30, 3, 133), (9, .if_icmp .ge 7, 3, 0), (12, .iconst 1, 1, 0), (13, .goto 4, 3, 0), (16, .iconst 0, 1, 0), (17, .ireturn, 1, 0)]
def m_X2_isLine : ct_M := (yX2_isLine, cX2_isLine, 2, (some .boolean), t_X2_isLine)
set_option maxRecDepth 100000 in
theorem ok_X2_isLine : ct_MOk m_X2_isLine := ct_MOk_of 727 78 flok_X2 (by decide +kernel) (by decide +kernel) (by decide +kernel) (by decide +kernel)
def t_X2_lengthOf : List ct_I := [(0, .aload_n 0, 1, 0), (1, .getfield 24, 3, 131), (4, .iload_n 1, 1, 0), (5, .iconst 1, 1, 0), (6, .iadd, 1, 0), (7, .iaload, 1, 0), (8, .aload_n 0, 1, 0), (9, .getfield 24, 3, 131), (12, .iload_n 1, 1, 0), (13, .iaload, 1, 0), (14, .isub, 1, 0), (15, .ireturn, 1, 0)]
def m_X2_lengthOf : ct_M := (yX2_lengthOf, cX2_lengthOf, 2, (some .int), t_X2_lengthOf)
set_option maxRecDepth 100000 in
theorem ok_X2_lengthOf : ct_MOk m_X2_lengthOf := ct_MOk_of 732 78 flok_X2 (by decide +kernel) (by decide +kernel) (by decide +kernel) (by decide +kernel)
def t_X2_edgeOf : List ct_I := [(0, .aload_n 0, 1, 0), (1, .getfield 21, 3, 130), (4, .aload_n 0, 1, 0), (5, .getfield 24, 3, 131), (8, .iload_n 1, 1, 0), (9, .iaload, 1, 0), (10, .iload_n 2, 1, 0), (11, .iadd, 1, 0), (12, .iaload, 1, 0), (13, .ireturn, 1, 0)]
def m_X2_edgeOf : ct_M := (yX2_edgeOf, cX2_edgeOf, 3, (some .int), t_X2_edgeOf)
set_option maxRecDepth 100000 in
theorem ok_X2_edgeOf : ct_MOk m_X2_edgeOf := ct_MOk_of 747 78 flok_X2 (by decide +kernel) (by decide +kernel) (by decide +kernel) (by decide +kernel)
def t_X2_leastEdge : List ct_I := [(0, .aload_n 0, 1, 0), (1, .getfield 21, 3, 130), (4, .aload_n 0, 1, 0), (5, .getfield 24, 3, 131), (8, .iload_n 1, 1, 0), (9, .iaload, 1, 0), (10, .iaload, 1, 0), (11, .ireturn, 1, 0)]
def m_X2_leastEdge : ct_M := (yX2_leastEdge, cX2_leastEdge, 2, (some .int), t_X2_leastEdge)
set_option maxRecDepth 100000 in
theorem ok_X2_leastEdge : ct_MOk m_X2_leastEdge := ct_MOk_of 637 78 flok_X2 (by decide +kernel) (by decide +kernel) (by decide +kernel) (by decide +kernel)
def t_X2_innerPlace : List ct_I := [(0, .aload_n 0, 1, 0), (1, .iload_n 1, 1, 0), (2, .invokevirtual 93, 3, 0), (5, .istore_n 2, 1, 0), (6, .iload_n 2, 1, 0), (7, .iconst 2, 1, 0), (8, .idiv, 1, 0), (9, .istore_n 3, 1, 0), (10, .aload_n 0, 1, 0), (11, .iload_n 3, 1, 0), (12, .invokevirtual 58, 3, 0), (15, .ifCond .eq 5, 3, 0), (18, .iload_n 3, 1, 0), (19, .ireturn, 1, 0), (20, .iload_n 2, 1, 0), (21, .iconst 2, 1, 0), (22, .irem, 1, 0), (23, .ifCond .ne 9, 3, 0), (26, .iload_n 3, 1, 0), (27, .iconst 1, 1, 0), (28, .iadd, 1, 0), (29, .goto 12, 3, 0), (32, .iload_n 3, 1, 0), (33, .aload_n 0, 1, 0), (34, .getfield 13, 3, 128), (37, .getfield 55, 3, 3), (40, .iadd, 1, 0), (41, .ireturn, 1, 0)]
def m_X2_innerPlace : ct_M := (yX2_innerPlace, cX2_innerPlace, 4, (some .int), t_X2_innerPlace)
set_option maxRecDepth 100000 in
theorem ok_X2_innerPlace : ct_MOk m_X2_innerPlace := ct_MOk_of 806 78 flok_X2 (by decide +kernel) (by decide +kernel) (by decide +kernel) (by decide +kernel)
def t_X2_holdersOf : List ct_I := [(0, .lconst 0, 1, 0), (1, .lstore_n 2, 1, 0), (2, .aload_n 0, 1, 0), (3, .getfield 13, 3, 128), (6, .getfield 55, 3, 3), (9, .iload_n 1, 1, 0), (10, .aload_n 0, 1, 0), (11, .getfield 13, 3, 128), (14, .getfield 55, 3, 3), (17, .idiv, 1, 0), (18, .iconst 1, 1, 0), (19, .iadd, 1, 0), (20, .imul, 1, 0), (21, .iconst 1, 1, 0), (22, .isub, 1, 0), (23, .istore 4, 2, 0), (25, .iload_n 1, 1, 0), (26, .istore 5, 2, 0), (28, .iload 5, 2, 0), (30, .iload 4, 2, 0), (32, .if_icmp .ge 32, 3, 0), (35, .aload_n 0, 1, 0), (36, .getfield 17, 3, 129), (39, .iconst 2, 1, 0), (40, .iload 5, 2, 0), (42, .imul, 1, 0), (43, .iaload, 1, 0), (44, .istore 6, 2, 0), (46, .iload 6, 2, 0), (48, .ifCond .lt 10, 3, 0), (51, .lload_n 2, 1, 0), (52, .lconst 1, 1, 0), (53, .iload 6, 2, 0), (55, .lshl, 1, 0), (56, .lxor, 1, 0), (57, .lstore_n 2, 1, 0), (58, .iinc 5 1, 3, 0), (61, .goto (-33), 3, 0), (64, .lload_n 2, 1, 0), (65, .lreturn, 1, 0)]
def m_X2_holdersOf : ct_M := (yX2_holdersOf, cX2_holdersOf, 7, (some .long), t_X2_holdersOf)
set_option maxRecDepth 100000 in
theorem ok_X2_holdersOf : ct_MOk m_X2_holdersOf := ct_MOk_of 641 78 flok_X2 (by decide +kernel) (by decide +kernel) (by decide +kernel) (by decide +kernel)
def t_X2_isHeld : List ct_I := [(0, .aload_n 0, 1, 0), (1, .iload_n 2, 1, 0), (2, .invokevirtual 96, 3, 0), (5, .iload_n 1, 1, 0), (6, .lshr, 1, 0), (7, .lconst 1, 1, 0), (8, .land, 1, 0), (9, .lconst 1, 1, 0), (10, .lcmp, 1, 0), (11, .ifCond .ne 7, 3, 0), (14, .iconst 1, 1, 0), (15, .goto 4, 3, 0), (18, .iconst 0, 1, 0), (19, .ireturn, 1, 0)]
def m_X2_isHeld : ct_M := (yX2_isHeld, cX2_isHeld, 3, (some .boolean), t_X2_isHeld)
set_option maxRecDepth 100000 in
theorem ok_X2_isHeld : ct_MOk m_X2_isHeld := ct_MOk_of 766 78 flok_X2 (by decide +kernel) (by decide +kernel) (by decide +kernel) (by decide +kernel)
def t_X2_holdersOfLine : List ct_I := [(0, .aload_n 0, 1, 0), (1, .aload_n 0, 1, 0), (2, .iload_n 1, 1, 0), (3, .invokevirtual 93, 3, 0), (6, .iconst 2, 1, 0), (7, .idiv, 1, 0), (8, .invokevirtual 96, 3, 0), (11, .lconst 1, 1, 0), (12, .iload_n 1, 1, 0), (13, .lshl, 1, 0), (14, .ldc2_w 100, 3, 0), (17, .lxor, 1, 0), (18, .land, 1, 0), (19, .lreturn, 1, 0)]
def m_X2_holdersOfLine : ct_M := (yX2_holdersOfLine, cX2_holdersOfLine, 2, (some .long), t_X2_holdersOfLine)
set_option maxRecDepth 100000 in
theorem ok_X2_holdersOfLine : ct_MOk m_X2_holdersOfLine := ct_MOk_of 633 78 flok_X2 (by decide +kernel) (by decide +kernel) (by decide +kernel) (by decide +kernel)
def t_X2_depthOf : List ct_I := [(0, .aload_n 0, 1, 0), (1, .iload_n 1, 1, 0), (2, .invokevirtual 102, 3, 0), (5, .invokestatic 105, 3, 0), (8, .ireturn, 1, 0)]
def m_X2_depthOf : ct_M := (yX2_depthOf, cX2_depthOf, 2, (some .int), t_X2_depthOf)
set_option maxRecDepth 100000 in
theorem ok_X2_depthOf : ct_MOk m_X2_depthOf := ct_MOk_of 629 78 flok_X2 (by decide +kernel) (by decide +kernel) (by decide +kernel) (by decide +kernel)
def t_X2_isOuter : List ct_I := [(0, .aload_n 0, 1, 0), (1, .iload_n 1, 1, 0), (2, .invokevirtual 111, 3, 0), (5, .iconst 2, 1, 0), (6, .irem, 1, 0), (7, .ifCond .ne 7, 3, 0), (10, .iconst 1, 1, 0), (11, .goto 4, 3, 0), (14, .iconst 0, 1, 0), (15, .ireturn, 1, 0)]
def m_X2_isOuter : ct_M := (yX2_isOuter, cX2_isOuter, 2, (some .boolean), t_X2_isOuter)
set_option maxRecDepth 100000 in
theorem ok_X2_isOuter : ct_MOk m_X2_isOuter := ct_MOk_of 625 78 flok_X2 (by decide +kernel) (by decide +kernel) (by decide +kernel) (by decide +kernel)
def t_X2_parentOf : List ct_I := [(0, .aload_n 0, 1, 0), (1, .iload_n 1, 1, 0), (2, .invokevirtual 102, 3, 0), (5, .lstore_n 2, 1, 0), (6, .bipush (-5), 2, 0), (8, .istore 4, 2, 0), (10, .iconst (-1), 1, 0), (11, .istore 5, 2, 0), (13, .iconst 0, 1, 0), (14, .istore 6, 2, 0), (16, .iload 6, 2, 0), (18, .aload_n 0, 1, 0), (19, .getfield 30, 3, 133), (22, .if_icmp .ge 43, 3, 0), (25, .lload_n 2, 1, 0), (26, .iload 6, 2, 0), (28, .lshr, 1, 0), (29, .lconst 1, 1, 0), (30, .land, 1, 0), (31, .lconst 1, 1, 0), (32, .lcmp, 1, 0), (33, .ifCond .ne 26, 3, 0), (36, .aload_n 0, 1, 0), (37, .iload 6, 2, 0), (39, .invokevirtual 111, 3, 0), (42, .iload 5, 2, 0), (44, .if_icmp .le 15, 3, 0), (47, .iload 6, 2, 0), (49, .istore 4, 2, 0), (51, .aload_n 0, 1, 0), (52, .iload 6, 2, 0), (54, .invokevirtual 111, 3, 0), (57, .istore 5, 2, 0), (59, .iinc 6 1, 3, 0), (62, .goto (-46), 3, 0), (65, .iload 4, 2, 0), (67, .ireturn, 1, 0)]
def m_X2_parentOf : ct_M := (yX2_parentOf, cX2_parentOf, 7, (some .int), t_X2_parentOf)
set_option maxRecDepth 100000 in
theorem ok_X2_parentOf : ct_MOk m_X2_parentOf := ct_MOk_of 737 78 flok_X2 (by decide +kernel) (by decide +kernel) (by decide +kernel) (by decide +kernel)
def t_X2_areaOf : List ct_I := [(0, .iconst 0, 1, 0), (1, .istore_n 2, 1, 0), (2, .aload_n 0, 1, 0), (3, .iload_n 1, 1, 0), (4, .invokevirtual 114, 3, 0), (7, .istore_n 3, 1, 0), (8, .iconst 0, 1, 0), (9, .istore 4, 2, 0), (11, .iload 4, 2, 0), (13, .iload_n 3, 1, 0), (14, .if_icmp .ge 75, 3, 0), (17, .aload_n 0, 1, 0), (18, .iload_n 1, 1, 0), (19, .iload 4, 2, 0), (21, .invokevirtual 117, 3, 0), (24, .istore 5, 2, 0), (26, .iload 4, 2, 0), (28, .iconst 1, 1, 0), (29, .iadd, 1, 0), (30, .iload_n 3, 1, 0), (31, .if_icmp .ge 15, 3, 0), (34, .aload_n 0, 1, 0), (35, .iload_n 1, 1, 0), (36, .iload 4, 2, 0), (38, .iconst 1, 1, 0), (39, .iadd, 1, 0), (40, .invokevirtual 117, 3, 0), (43, .goto 8, 3, 0), (46, .aload_n 0, 1, 0), (47, .iload_n 1, 1, 0), (48, .invokevirtual 93, 3, 0), (51, .istore 6, 2, 0), (53, .iload_n 2, 1, 0), (54, .aload_n 0, 1, 0), (55, .iload 5, 2, 0), (57, .invokevirtual 120, 3, 0), (60, .aload_n 0, 1, 0), (61, .iload 6, 2, 0), (63, .invokevirtual 123, 3, 0), (66, .imul, 1, 0), (67, .aload_n 0, 1, 0), (68, .iload 5, 2, 0), (70, .invokevirtual 123, 3, 0), (73, .aload_n 0, 1, 0), (74, .iload 6, 2, 0), (76, .invokevirtual 120, 3, 0), (79, .imul, 1, 0), (80, .isub, 1, 0), (81, .iadd, 1, 0), (82, .istore_n 2, 1, 0), (83, .iinc 4 1, 3, 0), (86, .goto (-75), 3, 0), (89, .iload_n 2, 1, 0), (90, .invokestatic 126, 3, 0), (93, .ireturn, 1, 0)]
def m_X2_areaOf : ct_M := (yX2_areaOf, cX2_areaOf, 7, (some .int), t_X2_areaOf)
set_option maxRecDepth 100000 in
theorem ok_X2_areaOf : ct_MOk m_X2_areaOf := ct_MOk_of 742 78 flok_X2 (by decide +kernel) (by decide +kernel) (by decide +kernel) (by decide +kernel)
def t_X2_acrossOf : List ct_I := [(0, .iconst 2, 1, 0), (1, .iload_n 1, 1, 0), (2, .iconst 2, 1, 0), (3, .idiv, 1, 0), (4, .aload_n 0, 1, 0), (5, .getfield 13, 3, 128), (8, .getfield 55, 3, 3), (11, .irem, 1, 0), (12, .iconst 1, 1, 0), (13, .isub, 1, 0), (14, .imul, 1, 0), (15, .iload_n 1, 1, 0), (16, .iconst 2, 1, 0), (17, .irem, 1, 0), (18, .ifCond .ne 7, 3, 0), (21, .iconst 1, 1, 0), (22, .goto 4, 3, 0), (25, .iconst 0, 1, 0), (26, .iadd, 1, 0), (27, .ireturn, 1, 0)]
def m_X2_acrossOf : ct_M := (yX2_acrossOf, cX2_acrossOf, 2, (some .int), t_X2_acrossOf)
set_option maxRecDepth 100000 in
theorem ok_X2_acrossOf : ct_MOk m_X2_acrossOf := ct_MOk_of 751 78 flok_X2 (by decide +kernel) (by decide +kernel) (by decide +kernel) (by decide +kernel)
def t_X2_downOf : List ct_I := [(0, .iconst 2, 1, 0), (1, .iload_n 1, 1, 0), (2, .iconst 2, 1, 0), (3, .idiv, 1, 0), (4, .aload_n 0, 1, 0), (5, .getfield 13, 3, 128), (8, .getfield 55, 3, 3), (11, .idiv, 1, 0), (12, .iconst 1, 1, 0), (13, .isub, 1, 0), (14, .imul, 1, 0), (15, .iload_n 1, 1, 0), (16, .iconst 2, 1, 0), (17, .irem, 1, 0), (18, .iadd, 1, 0), (19, .ireturn, 1, 0)]
def m_X2_downOf : ct_M := (yX2_downOf, cX2_downOf, 2, (some .int), t_X2_downOf)
set_option maxRecDepth 100000 in
theorem ok_X2_downOf : ct_MOk m_X2_downOf := ct_MOk_of 755 78 flok_X2 (by decide +kernel) (by decide +kernel) (by decide +kernel) (by decide +kernel)
def t_X2_pointsHeld : List ct_I := [(0, .iconst 0, 1, 0), (1, .istore_n 2, 1, 0), (2, .aload_n 0, 1, 0), (3, .getfield 13, 3, 128), (6, .invokevirtual 131, 3, 0), (9, .istore_n 3, 1, 0), (10, .iconst 0, 1, 0), (11, .istore 4, 2, 0), (13, .iload 4, 2, 0), (15, .iload_n 3, 1, 0), (16, .if_icmp .ge 29, 3, 0), (19, .aload_n 0, 1, 0), (20, .iload_n 1, 1, 0), (21, .aload_n 0, 1, 0), (22, .getfield 13, 3, 128), (25, .iload 4, 2, 0), (27, .invokevirtual 135, 3, 0), (30, .invokevirtual 138, 3, 0), (33, .ifCond .eq 6, 3, 0), (36, .iinc 2 1, 3, 0), (39, .iinc 4 1, 3, 0), (42, .goto (-29), 3, 0), (45, .iload_n 2, 1, 0), (46, .ireturn, 1, 0)]
def m_X2_pointsHeld : ct_M := (yX2_pointsHeld, cX2_pointsHeld, 5, (some .int), t_X2_pointsHeld)
set_option maxRecDepth 100000 in
theorem ok_X2_pointsHeld : ct_MOk m_X2_pointsHeld := ct_MOk_of 760 78 flok_X2 (by decide +kernel) (by decide +kernel) (by decide +kernel) (by decide +kernel)
def t_X2_outerOnes : List ct_I := [(0, .iconst 0, 1, 0), (1, .istore_n 1, 1, 0), (2, .iconst 0, 1, 0), (3, .istore_n 2, 1, 0), (4, .iload_n 2, 1, 0), (5, .aload_n 0, 1, 0), (6, .getfield 30, 3, 133), (9, .if_icmp .ge 20, 3, 0), (12, .aload_n 0, 1, 0), (13, .iload_n 2, 1, 0), (14, .invokevirtual 141, 3, 0), (17, .ifCond .eq 6, 3, 0), (20, .iinc 1 1, 3, 0), (23, .iinc 2 1, 3, 0), (26, .goto (-22), 3, 0), (29, .iload_n 1, 1, 0), (30, .ireturn, 1, 0)]
def m_X2_outerOnes : ct_M := (yX2_outerOnes, cX2_outerOnes, 3, (some .int), t_X2_outerOnes)
set_option maxRecDepth 100000 in
theorem ok_X2_outerOnes : ct_MOk m_X2_outerOnes := ct_MOk_of 621 78 flok_X2 (by decide +kernel) (by decide +kernel) (by decide +kernel) (by decide +kernel)
def t_X2_greatestDepth : List ct_I := [(0, .bipush (-5), 2, 0), (2, .istore_n 1, 1, 0), (3, .iconst 0, 1, 0), (4, .istore_n 2, 1, 0), (5, .iload_n 2, 1, 0), (6, .aload_n 0, 1, 0), (7, .getfield 30, 3, 133), (10, .if_icmp .ge 19, 3, 0), (13, .iload_n 1, 1, 0), (14, .aload_n 0, 1, 0), (15, .iload_n 2, 1, 0), (16, .invokevirtual 111, 3, 0), (19, .invokestatic 144, 3, 0), (22, .istore_n 1, 1, 0), (23, .iinc 2 1, 3, 0), (26, .goto (-21), 3, 0), (29, .iload_n 1, 1, 0), (30, .ireturn, 1, 0)]
def m_X2_greatestDepth : ct_M := (yX2_greatestDepth, cX2_greatestDepth, 3, (some .int), t_X2_greatestDepth)
set_option maxRecDepth 100000 in
theorem ok_X2_greatestDepth : ct_MOk m_X2_greatestDepth := ct_MOk_of 699 78 flok_X2 (by decide +kernel) (by decide +kernel) (by decide +kernel) (by decide +kernel)
def t_X2_countLevels : List ct_I := [(0, .aload_n 0, 1, 0), (1, .getfield 40, 3, 136), (4, .aload_n 0, 1, 0), (5, .getfield 13, 3, 128), (8, .getfield 43, 3, 6), (11, .if_icmp .ne 4, 3, 0), (14, .return_, 1, 0), (15, .aload_n 0, 1, 0), (16, .aload_n 0, 1, 0), (17, .getfield 13, 3, 128), (20, .getfield 43, 3, 6), (23, .putfield 40, 3, 136), (26, .iconst 0, 1, 0), (27, .istore_n 1, 1, 0), (28, .iload_n 1, 1, 0), (29, .bipush 100, 2, 0), (31, .if_icmp .ge 67, 3, 0), (34, .iload_n 1, 1, 0), (35, .ifCond .le 42, 3, 0), (38, .aload_n 0, 1, 0), (39, .getfield 27, 3, 132), (42, .iload_n 1, 1, 0), (43, .iconst 1, 1, 0), (44, .isub, 1, 0), (45, .iaload, 1, 0), (46, .ifCond .eq 14, 3, 0), (49, .aload_n 0, 1, 0), (50, .getfield 13, 3, 128), (53, .iload_n 1, 1, 0), (54, .invokevirtual 147, 3, 0), (57, .ifCond .eq 20, 3, 0), (60, .aload_n 0, 1, 0), (61, .getfield 27, 3, 132), (64, .iload_n 1, 1, 0), (65, .aload_n 0, 1, 0), (66, .getfield 27, 3, 132), (69, .iload_n 1, 1, 0), (70, .iconst 1, 1, 0), (71, .isub, 1, 0), (72, .iaload, 1, 0), (73, .iastore, 1, 0), (74, .goto 18, 3, 0), (77, .aload_n 0, 1, 0), (78, .iload_n 1, 1, 0), (79, .invokevirtual 150, 3, 0), (82, .aload_n 0, 1, 0), (83, .getfield 27, 3, 132), (86, .iload_n 1, 1, 0), (87, .aload_n 0, 1, 0), (88, .getfield 30, 3, 133), (91, .iastore, 1, 0), (92, .iinc 1 1, 3, 0), (95, .goto (-67), 3, 0), (98, .return_, 1, 0)]
def m_X2_countLevels : ct_M := (yX2_countLevels, cX2_countLevels, 2, none, t_X2_countLevels)
set_option maxRecDepth 100000 in
theorem ok_X2_countLevels : ct_MOk m_X2_countLevels := ct_MOk_of 564 78 flok_X2 (by decide +kernel) (by decide +kernel) (by decide +kernel) (by decide +kernel)
def t_X2_busiest : List ct_I := [(0, .iconst 0, 1, 0), (1, .istore_n 1, 1, 0), (2, .iconst 1, 1, 0), (3, .istore_n 2, 1, 0), (4, .iload_n 2, 1, 0), (5, .bipush 100, 2, 0), (7, .if_icmp .ge 26, 3, 0), (10, .aload_n 0, 1, 0), (11, .getfield 27, 3, 132), (14, .iload_n 2, 1, 0), (15, .iaload, 1, 0), (16, .aload_n 0, 1, 0), (17, .getfield 27, 3, 132), (20, .iload_n 1, 1, 0), (21, .iaload, 1, 0), (22, .if_icmp .le 5, 3, 0), (25, .iload_n 2, 1, 0), (26, .istore_n 1, 1, 0), (27, .iinc 2 1, 3, 0), (30, .goto (-26), 3, 0), (33, .iload_n 1, 1, 0), (34, .ireturn, 1, 0)]
def m_X2_busiest : ct_M := (yX2_busiest, cX2_busiest, 3, (some .int), t_X2_busiest)
set_option maxRecDepth 100000 in
theorem ok_X2_busiest : ct_MOk m_X2_busiest := ct_MOk_of 612 78 flok_X2 (by decide +kernel) (by decide +kernel) (by decide +kernel) (by decide +kernel)
def t_X3_isFull : List ct_I := [(0, .aload_n 0, 1, 0), (1, .getfield 16, 3, 194), (4, .aload_n 0, 1, 0), (5, .getfield 7, 3, 192), (8, .arraylength, 1, 0), (9, .if_icmp .lt 7, 3, 0), (12, .iconst 1, 1, 0), (13, .goto 4, 3, 0), (16, .iconst 0, 1, 0), (17, .ireturn, 1, 0)]
def m_X3_isFull : ct_M := (yX3_isFull, cX3_isFull, 1, (some .boolean), t_X3_isFull)
set_option maxRecDepth 100000 in
theorem ok_X3_isFull : ct_MOk m_X3_isFull := ct_MOk_of 856 80 flok_X3 (by decide +kernel) (by decide +kernel) (by decide +kernel) (by decide +kernel)
def t_X3_append : List ct_I := [(0, .aload_n 0, 1, 0), (1, .getfield 7, 3, 192), (4, .aload_n 0, 1, 0), (5, .getfield 16, 3, 194), (8, .iload_n 1, 1, 0), (9, .iastore, 1, 0), (10, .aload_n 0, 1, 0), (11, .getfield 13, 3, 193), (14, .aload_n 0, 1, 0), (15, .getfield 16, 3, 194), (18, .iload_n 2, 1, 0), (19, .iastore, 1, 0), (20, .aload_n 0, 1, 0), (21, .dup, 1, 0), (22, .getfield 16, 3, 194), (25, .iconst 1, 1, 0), (26, .iadd, 1, 0), (27, .putfield 16, 3, 194), (30, .aload_n 0, 1, 0), (31, .getfield 16, 3, 194), (34, .ireturn, 1, 0)]
def m_X3_append : ct_M := (yX3_append, cX3_append, 3, (some .int), t_X3_append)
set_option maxRecDepth 100000 in
theorem ok_X3_append : ct_MOk m_X3_append := ct_MOk_of 860 80 flok_X3 (by decide +kernel) (by decide +kernel) (by decide +kernel) (by decide +kernel)
def t_X3_clear : List ct_I := [(0, .aload_n 0, 1, 0), (1, .iconst 0, 1, 0), (2, .putfield 16, 3, 194), (5, .aload_n 0, 1, 0), (6, .getfield 16, 3, 194), (9, .ireturn, 1, 0)]
def m_X3_clear : ct_M := (yX3_clear, cX3_clear, 1, (some .int), t_X3_clear)
set_option maxRecDepth 100000 in
theorem ok_X3_clear : ct_MOk m_X3_clear := ct_MOk_of 852 80 flok_X3 (by decide +kernel) (by decide +kernel) (by decide +kernel) (by decide +kernel)
def t_X3_copyFrom : List ct_I := [(0, .aload_n 0, 1, 0), (1, .aload_n 1, 1, 0), (2, .getfield 16, 3, 194), (5, .putfield 16, 3, 194), (8, .iconst 0, 1, 0), (9, .istore_n 2, 1, 0), (10, .iload_n 2, 1, 0), (11, .aload_n 0, 1, 0), (12, .getfield 16, 3, 194), (15, .if_icmp .ge 33, 3, 0), (18, .aload_n 0, 1, 0), (19, .getfield 7, 3, 192), (22, .iload_n 2, 1, 0), (23, .aload_n 1, 1, 0), (24, .getfield 7, 3, 192), (27, .iload_n 2, 1, 0), (28, .iaload, 1, 0), (29, .iastore, 1, 0), (30, .aload_n 0, 1, 0), (31, .getfield 13, 3, 193), (34, .iload_n 2, 1, 0), (35, .aload_n 1, 1, 0), (36, .getfield 13, 3, 193), (39, .iload_n 2, 1, 0), (40, .iaload, 1, 0), (41, .iastore, 1, 0), (42, .iinc 2 1, 3, 0), (45, .goto (-35), 3, 0), (48, .return_, 1, 0)]
def m_X3_copyFrom : ct_M := (yX3_copyFrom, cX3_copyFrom, 3, none, t_X3_copyFrom)
set_option maxRecDepth 100000 in
theorem ok_X3_copyFrom : ct_MOk m_X3_copyFrom := ct_MOk_of 938 80 flok_X3 (by decide +kernel) (by decide +kernel) (by decide +kernel) (by decide +kernel)
def t_X4_isSort : List ct_I := [(0, .iload_n 0, 1, 0), (1, .ifCond .lt 12, 3, 0), (4, .iload_n 0, 1, 0), (5, .iconst 4, 1, 0), (6, .if_icmp .gt 7, 3, 0), (9, .iconst 1, 1, 0), (10, .goto 4, 3, 0), (13, .iconst 0, 1, 0), (14, .ireturn, 1, 0)]
def m_X4_isSort : ct_M := (yX4_isSort, cX4_isSort, 1, (some .boolean), t_X4_isSort)
set_option maxRecDepth 100000 in
theorem ok_X4_isSort : ct_MOk m_X4_isSort := ct_MOk_of 964 82 flok_X4 (by decide +kernel) (by decide +kernel) (by decide +kernel) (by decide +kernel)
def t_X4_become : List ct_I := [(0, .aload_n 0, 1, 0), (1, .iload_n 1, 1, 0), (2, .putfield 13, 3, 257), (5, .aload_n 0, 1, 0), (6, .iload_n 2, 1, 0), (7, .putfield 17, 3, 258), (10, .aload_n 0, 1, 0), (11, .getfield 9, 3, 256), (14, .lconst 0, 1, 0), (15, .invokestatic 20, 3, 0), (18, .return_, 1, 0)]
def m_X4_become : ct_M := (yX4_become, cX4_become, 3, none, t_X4_become)
set_option maxRecDepth 100000 in
theorem ok_X4_become : ct_MOk m_X4_become := ct_MOk_of 958 82 flok_X4 (by decide +kernel) (by decide +kernel) (by decide +kernel) (by decide +kernel)
def t_X4_isEmpty : List ct_I := [(0, .aload_n 0, 1, 0), (1, .getfield 13, 3, 257), (4, .iconst (-1), 1, 0), (5, .if_icmp .ne 7, 3, 0), (8, .iconst 1, 1, 0), (9, .goto 4, 3, 0), (12, .iconst 0, 1, 0), (13, .ireturn, 1, 0)]
def m_X4_isEmpty : ct_M := (yX4_isEmpty, cX4_isEmpty, 1, (some .boolean), t_X4_isEmpty)
set_option maxRecDepth 100000 in
theorem ok_X4_isEmpty : ct_MOk m_X4_isEmpty := ct_MOk_of 925 82 flok_X4 (by decide +kernel) (by decide +kernel) (by decide +kernel) (by decide +kernel)
def t_X4_isPlace : List ct_I := [(0, .iload_n 1, 1, 0), (1, .ifCond .lt 15, 3, 0), (4, .iload_n 1, 1, 0), (5, .aload_n 0, 1, 0), (6, .getfield 17, 3, 258), (9, .if_icmp .ge 7, 3, 0), (12, .iconst 1, 1, 0), (13, .goto 4, 3, 0), (16, .iconst 0, 1, 0), (17, .ireturn, 1, 0)]
def m_X4_isPlace : ct_M := (yX4_isPlace, cX4_isPlace, 2, (some .boolean), t_X4_isPlace)
set_option maxRecDepth 100000 in
theorem ok_X4_isPlace : ct_MOk m_X4_isPlace := ct_MOk_of 929 82 flok_X4 (by decide +kernel) (by decide +kernel) (by decide +kernel) (by decide +kernel)
def t_X4_isStretch : List ct_I := [(0, .iload_n 1, 1, 0), (1, .ifCond .lt 29, 3, 0), (4, .iload_n 2, 1, 0), (5, .ifCond .lt 25, 3, 0), (8, .iload_n 1, 1, 0), (9, .aload_n 0, 1, 0), (10, .getfield 17, 3, 258), (13, .if_icmp .gt 17, 3, 0), (16, .iload_n 2, 1, 0), (17, .aload_n 0, 1, 0), (18, .getfield 17, 3, 258), (21, .iload_n 1, 1, 0), (22, .isub, 1, 0), (23, .if_icmp .gt 7, 3, 0), (26, .iconst 1, 1, 0), (27, .goto 4, 3, 0), (30, .iconst 0, 1, 0), (31, .ireturn, 1, 0)]
def m_X4_isStretch : ct_M := (yX4_isStretch, cX4_isStretch, 3, (some .boolean), t_X4_isStretch)
set_option maxRecDepth 100000 in
theorem ok_X4_isStretch : ct_MOk m_X4_isStretch := ct_MOk_of 984 82 flok_X4 (by decide +kernel) (by decide +kernel) (by decide +kernel) (by decide +kernel)
def t_X4_put : List ct_I := [(0, .aload_n 0, 1, 0), (1, .getfield 13, 3, 257), (4, .tableswitch 94 0 4 #[36, 49, 62, 94, 74], 36, 0), (40, .aload_n 0, 1, 0), (41, .getfield 9, 3, 256), (44, .iload_n 1, 1, 0), (45, .lload_n 2, 1, 0), (46, .l2i, 1, 0), (47, .i2b, 1, 0), (48, .i2l, 1, 0), (49, .lastore, 1, 0), (50, .goto 55, 3, 0), (53, .aload_n 0, 1, 0), (54, .getfield 9, 3, 256), (57, .iload_n 1, 1, 0), (58, .lload_n 2, 1, 0), (59, .l2i, 1, 0), (60, .i2s, 1, 0), (61, .i2l, 1, 0), (62, .lastore, 1, 0), (63, .goto 42, 3, 0), (66, .aload_n 0, 1, 0), (67, .getfield 9, 3, 256), (70, .iload_n 1, 1, 0), (71, .lload_n 2, 1, 0), (72, .l2i, 1, 0), (73, .i2l, 1, 0), (74, .lastore, 1, 0), (75, .goto 30, 3, 0), (78, .aload_n 0, 1, 0), (79, .getfield 9, 3, 256), (82, .iload_n 1, 1, 0), (83, .lload_n 2, 1, 0), (84, .lconst 0, 1, 0), (85, .lcmp, 1, 0), (86, .ifCond .eq 7, 3, 0), (89, .lconst 1, 1, 0), (90, .goto 4, 3, 0), (93, .lconst 0, 1, 0), (94, .lastore, 1, 0), (95, .goto 10, 3, 0), (98, .aload_n 0, 1, 0), (99, .getfield 9, 3, 256), (102, .iload_n 1, 1, 0), (103, .lload_n 2, 1, 0), (104, .lastore, 1, 0), (105, .return_, 1, 0)]
def m_X4_put : ct_M := (yX4_put, cX4_put, 4, none, t_X4_put)
set_option maxRecDepth 100000 in
theorem ok_X4_put : ct_MOk m_X4_put := ct_MOk_of 972 82 flok_X4 (by decide +kernel) (by decide +kernel) (by decide +kernel) (by decide +kernel)
def t_X5_isFull : List ct_I := [(0, .aload_n 0, 1, 0), (1, .getfield 13, 3, 321), (4, .bipush 100, 2, 0), (6, .if_icmp .lt 7, 3, 0), (9, .iconst 1, 1, 0), (10, .goto 4, 3, 0), (13, .iconst 0, 1, 0), (14, .ireturn, 1, 0)]
def m_X5_isFull : ct_M := (yX5_isFull, cX5_isFull, 1, (some .boolean), t_X5_isFull)
set_option maxRecDepth 100000 in
theorem ok_X5_isFull : ct_MOk m_X5_isFull := ct_MOk_of 397 81 flok_X5 (by decide +kernel) (by decide +kernel) (by decide +kernel) (by decide +kernel)
def t_X5_append : List ct_I := [(0, .aload_n 0, 1, 0), (1, .getfield 9, 3, 320), (4, .aload_n 0, 1, 0), (5, .getfield 13, 3, 321), (8, .iload_n 1, 1, 0), (9, .iastore, 1, 0), (10, .aload_n 0, 1, 0), (11, .dup, 1, 0), (12, .getfield 13, 3, 321), (15, .iconst 1, 1, 0), (16, .iadd, 1, 0), (17, .putfield 13, 3, 321), (20, .return_, 1, 0)]
def m_X5_append : ct_M := (yX5_append, cX5_append, 2, none, t_X5_append)
set_option maxRecDepth 100000 in
theorem ok_X5_append : ct_MOk m_X5_append := ct_MOk_of 401 81 flok_X5 (by decide +kernel) (by decide +kernel) (by decide +kernel) (by decide +kernel)
def t_X5_wordOf : List ct_I := [(0, .aload_n 0, 1, 0), (1, .getfield 17, 3, 322), (4, .iload_n 1, 1, 0), (5, .iaload, 1, 0), (6, .ireturn, 1, 0)]
def m_X5_wordOf : ct_M := (yX5_wordOf, cX5_wordOf, 2, (some .int), t_X5_wordOf)
set_option maxRecDepth 100000 in
theorem ok_X5_wordOf : ct_MOk m_X5_wordOf := ct_MOk_of 509 81 flok_X5 (by decide +kernel) (by decide +kernel) (by decide +kernel) (by decide +kernel)
def t_X5_numberOf : List ct_I := [(0, .aload_n 0, 1, 0), (1, .getfield 20, 3, 323), (4, .iload_n 1, 1, 0), (5, .iconst 3, 1, 0), (6, .imul, 1, 0), (7, .iload_n 2, 1, 0), (8, .iadd, 1, 0), (9, .iaload, 1, 0), (10, .ireturn, 1, 0)]
def m_X5_numberOf : ct_M := (yX5_numberOf, cX5_numberOf, 3, (some .int), t_X5_numberOf)
set_option maxRecDepth 100000 in
theorem ok_X5_numberOf : ct_MOk m_X5_numberOf := ct_MOk_of 505 81 flok_X5 (by decide +kernel) (by decide +kernel) (by decide +kernel) (by decide +kernel)
def t_X5_parse : List ct_I := [(0, .aload_n 0, 1, 0), (1, .iconst 0, 1, 0), (2, .putfield 26, 3, 325), (5, .aload_n 0, 1, 0), (6, .iconst 0, 1, 0), (7, .putfield 23, 3, 324), (10, .iconst 1, 1, 0), (11, .istore_n 1, 1, 0), (12, .iload_n 1, 1, 0), (13, .ifCond .eq 61, 3, 0), (16, .aload_n 0, 1, 0), (17, .getfield 23, 3, 324), (20, .bipush 12, 2, 0), (22, .if_icmp .ge 52, 3, 0), (25, .aload_n 0, 1, 0), (26, .invokevirtual 29, 3, 0), (29, .ifCond .ne 8, 3, 0), (32, .aload_n 0, 1, 0), (33, .getfield 26, 3, 325), (36, .ireturn, 1, 0), (37, .aload_n 0, 1, 0), (38, .dup, 1, 0), (39, .getfield 23, 3, 324), (42, .iconst 1, 1, 0), (43, .iadd, 1, 0), (44, .putfield 23, 3, 324), (47, .aload_n 0, 1, 0), (48, .getfield 23, 3, 324), (51, .bipush 12, 2, 0), (53, .if_icmp .ge 16, 3, 0), (56, .aload_n 0, 1, 0), (57, .bipush 59, 2, 0), (59, .invokevirtual 33, 3, 0), (62, .ifCond .eq 7, 3, 0), (65, .iconst 1, 1, 0), (66, .goto 4, 3, 0), (69, .iconst 0, 1, 0), (70, .istore_n 1, 1, 0), (71, .goto (-59), 3, 0), (74, .aload_n 0, 1, 0), (75, .getfield 26, 3, 325), (78, .aload_n 0, 1, 0), (79, .getfield 13, 3, 321), (82, .if_icmp .ne 7, 3, 0), (85, .iconst (-1), 1, 0), (86, .goto 7, 3, 0), (89, .aload_n 0, 1, 0), (90, .getfield 26, 3, 325), (93, .ireturn, 1, 0)]
def m_X5_parse : ct_M := (yX5_parse, cX5_parse, 2, (some .int), t_X5_parse)
set_option maxRecDepth 100000 in
theorem ok_X5_parse : ct_MOk m_X5_parse := ct_MOk_of 409 81 flok_X5 (by decide +kernel) (by decide +kernel) (by decide +kernel) (by decide +kernel)
def t_X5_readClause : List ct_I := [(0, .aload_n 0, 1, 0), (1, .getfield 26, 3, 325), (4, .aload_n 0, 1, 0), (5, .getfield 13, 3, 321), (8, .if_icmp .ge 15, 3, 0), (11, .aload_n 0, 1, 0), (12, .getfield 9, 3, 320), (15, .aload_n 0, 1, 0), (16, .getfield 26, 3, 325), (19, .iaload, 1, 0), (20, .goto 4, 3, 0), (23, .iconst 0, 1, 0), (24, .invokestatic 37, 3, 0), (27, .istore_n 1, 1, 0), (28, .iload_n 1, 1, 0), (29, .invokestatic 41, 3, 0), (32, .astore_n 2, 1, 0), (33, .aload_n 2, 1, 0), (34, .invokevirtual 45, 3, 0), (37, .ifCond .eq 5, 3, 0), (40, .iconst 0, 1, 0), (41, .ireturn, 1, 0), (42, .iconst 0, 1, 0), (43, .istore_n 3, 1, 0), (44, .iload_n 3, 1, 0), (45, .aload_n 2, 1, 0), (46, .invokevirtual 50, 3, 0), (49, .if_icmp .ge 23, 3, 0), (52, .aload_n 0, 1, 0), (53, .aload_n 2, 1, 0), (54, .iload_n 3, 1, 0), (55, .invokevirtual 53, 3, 0), (58, .invokevirtual 33, 3, 0), (61, .ifCond .ne 5, 3, 0), (64, .iconst 0, 1, 0), (65, .ireturn, 1, 0), (66, .iinc 3 1, 3, 0), (69, .goto (-25), 3, 0), (72, .aload_n 0, 1, 0), (73, .getfield 17, 3, 322), (76, .aload_n 0, 1, 0), (77, .getfield 23, 3, 324), (80, .iload_n 1, 1, 0), (81, .iastore, 1, 0), (82, .iconst 0, 1, 0), (83, .istore_n 3, 1, 0), (84, .iload_n 3, 1, 0), (85, .iload_n 1, 1, 0), (86, .invokestatic 57, 3, 0), (89, .if_icmp .ge 35, 3, 0), (92, .aload_n 0, 1, 0), (93, .bipush 32, 2, 0), (95, .invokevirtual 33, 3, 0), (98, .ifCond .eq 18, 3, 0), (101, .aload_n 0, 1, 0), (102, .aload_n 0, 1, 0), (103, .getfield 23, 3, 324), (106, .iconst 3, 1, 0), (107, .imul, 1, 0), (108, .iload_n 3, 1, 0), (109, .iadd, 1, 0), (110, .invokevirtual 60, 3, 0), (113, .ifCond .ne 5, 3, 0), (116, .iconst 0, 1, 0), (117, .ireturn, 1, 0), (118, .iinc 3 1, 3, 0), (121, .goto (-37), 3, 0), (124, .iconst 1, 1, 0), (125, .ireturn, 1, 0)]
def m_X5_readClause : ct_M := (yX5_readClause, cX5_readClause, 4, (some .boolean), t_X5_readClause)
set_option maxRecDepth 100000 in
theorem ok_X5_readClause : ct_MOk m_X5_readClause := ct_MOk_of 413 81 flok_X5 (by decide +kernel) (by decide +kernel) (by decide +kernel) (by decide +kernel)
def t_X5_readNumber : List ct_I := [(0, .aload_n 0, 1, 0), (1, .invokevirtual 63, 3, 0), (4, .ifCond .ne 5, 3, 0), (7, .iconst 0, 1, 0), (8, .ireturn, 1, 0), (9, .aload_n 0, 1, 0), (10, .invokevirtual 66, 3, 0), (13, .istore_n 2, 1, 0), (14, .aload_n 0, 1, 0), (15, .invokevirtual 63, 3, 0), (18, .ifCond .eq 13, 3, 0), (21, .bipush 10, 2, 0), (23, .iload_n 2, 1, 0), (24, .imul, 1, 0), (25, .aload_n 0, 1, 0), (26, .invokevirtual 66, 3, 0), (29, .iadd, 1, 0), (30, .istore_n 2, 1, 0), (31, .aload_n 0, 1, 0), (32, .getfield 20, 3, 323), (35, .iload_n 1, 1, 0), (36, .iload_n 2, 1, 0), (37, .iastore, 1, 0), (38, .iconst 1, 1, 0), (39, .ireturn, 1, 0)]
def m_X5_readNumber : ct_M := (yX5_readNumber, cX5_readNumber, 3, (some .boolean), t_X5_readNumber)
set_option maxRecDepth 100000 in
theorem ok_X5_readNumber : ct_MOk m_X5_readNumber := ct_MOk_of 489 81 flok_X5 (by decide +kernel) (by decide +kernel) (by decide +kernel) (by decide +kernel)
def t_X5_take : List ct_I := [(0, .aload_n 0, 1, 0), (1, .getfield 26, 3, 325), (4, .aload_n 0, 1, 0), (5, .getfield 13, 3, 321), (8, .if_icmp .ge 16, 3, 0), (11, .aload_n 0, 1, 0), (12, .getfield 9, 3, 320), (15, .aload_n 0, 1, 0), (16, .getfield 26, 3, 325), (19, .iaload, 1, 0), (20, .iload_n 1, 1, 0), (21, .if_icmp .eq 5, 3, 0), (24, .iconst 0, 1, 0), (25, .ireturn, 1, 0), (26, .aload_n 0, 1, 0), (27, .dup, 1, 0), (28, .getfield 26, 3, 325), (31, .iconst 1, 1, 0), (32, .iadd, 1, 0), (33, .putfield 26, 3, 325), (36, .iconst 1, 1, 0), (37, .ireturn, 1, 0)]
def m_X5_take : ct_M := (yX5_take, cX5_take, 2, (some .boolean), t_X5_take)
set_option maxRecDepth 100000 in
theorem ok_X5_take : ct_MOk m_X5_take := ct_MOk_of 482 81 flok_X5 (by decide +kernel) (by decide +kernel) (by decide +kernel) (by decide +kernel)
def t_X5_isDigit : List ct_I := [(0, .aload_n 0, 1, 0), (1, .getfield 26, 3, 325), (4, .aload_n 0, 1, 0), (5, .getfield 13, 3, 321), (8, .if_icmp .ge 35, 3, 0), (11, .aload_n 0, 1, 0), (12, .getfield 9, 3, 320), (15, .aload_n 0, 1, 0), (16, .getfield 26, 3, 325), (19, .iaload, 1, 0), (20, .bipush 48, 2, 0), (22, .if_icmp .lt 21, 3, 0), (25, .aload_n 0, 1, 0), (26, .getfield 9, 3, 320), (29, .aload_n 0, 1, 0), (30, .getfield 26, 3, 325), (33, .iaload, 1, 0), (34, .bipush 57, 2, 0), (36, .if_icmp .gt 7, 3, 0), (39, .iconst 1, 1, 0), (40, .goto 4, 3, 0), (43, .iconst 0, 1, 0), (44, .ireturn, 1, 0)]
def m_X5_isDigit : ct_M := (yX5_isDigit, cX5_isDigit, 1, (some .boolean), t_X5_isDigit)
set_option maxRecDepth 100000 in
theorem ok_X5_isDigit : ct_MOk m_X5_isDigit := ct_MOk_of 493 81 flok_X5 (by decide +kernel) (by decide +kernel) (by decide +kernel) (by decide +kernel)
def t_X5_takeDigit : List ct_I := [(0, .aload_n 0, 1, 0), (1, .getfield 9, 3, 320), (4, .aload_n 0, 1, 0), (5, .getfield 26, 3, 325), (8, .iaload, 1, 0), (9, .bipush 48, 2, 0), (11, .isub, 1, 0), (12, .istore_n 1, 1, 0), (13, .aload_n 0, 1, 0), (14, .dup, 1, 0), (15, .getfield 26, 3, 325), (18, .iconst 1, 1, 0), (19, .iadd, 1, 0), (20, .putfield 26, 3, 325), (23, .iload_n 1, 1, 0), (24, .ireturn, 1, 0)]
def m_X5_takeDigit : ct_M := (yX5_takeDigit, cX5_takeDigit, 2, (some .int), t_X5_takeDigit)
set_option maxRecDepth 100000 in
theorem ok_X5_takeDigit : ct_MOk m_X5_takeDigit := ct_MOk_of 497 81 flok_X5 (by decide +kernel) (by decide +kernel) (by decide +kernel) (by decide +kernel)
def t_X5_wordFrom : List ct_I := [(0, .iload_n 0, 1, 0), (1, .tableswitch 87 102 116 #[79, 87, 81, 87, 87, 87, 87, 87, 87, 87, 77, 87, 83, 75, 85], 75, 0), (76, .iconst 0, 1, 0), (77, .ireturn, 1, 0), (78, .iconst 1, 1, 0), (79, .ireturn, 1, 0), (80, .iconst 2, 1, 0), (81, .ireturn, 1, 0), (82, .iconst 3, 1, 0), (83, .ireturn, 1, 0), (84, .iconst 4, 1, 0), (85, .ireturn, 1, 0), (86, .iconst 5, 1, 0), (87, .ireturn, 1, 0), (88, .iconst (-1), 1, 0), (89, .ireturn, 1, 0)]
def m_X5_wordFrom : ct_M := (yX5_wordFrom, cX5_wordFrom, 1, (some .int), t_X5_wordFrom)
set_option maxRecDepth 100000 in
theorem ok_X5_wordFrom : ct_MOk m_X5_wordFrom := ct_MOk_of 416 81 flok_X5 (by decide +kernel) (by decide +kernel) (by decide +kernel) (by decide +kernel)
def t_X5_lettersOf : List ct_I := [(0, .iload_n 0, 1, 0), (1, .tableswitch 57 0 5 #[39, 42, 45, 48, 51, 54], 39, 0), (40, .ldc 69, 2, 0), (42, .areturn, 1, 0), (43, .ldc 71, 2, 0), (45, .areturn, 1, 0), (46, .ldc 73, 2, 0), (48, .areturn, 1, 0), (49, .ldc 75, 2, 0), (51, .areturn, 1, 0), (52, .ldc 77, 2, 0), (54, .areturn, 1, 0), (55, .ldc 79, 2, 0), (57, .areturn, 1, 0), (58, .ldc 81, 2, 0), (60, .areturn, 1, 0)]
def m_X5_lettersOf : ct_M := (yX5_lettersOf, cX5_lettersOf, 1, (some (.object "java/lang/String")), t_X5_lettersOf)
set_option maxRecDepth 100000 in
theorem ok_X5_lettersOf : ct_MOk m_X5_lettersOf := ct_MOk_of 419 81 flok_X5 (by decide +kernel) (by decide +kernel) (by decide +kernel) (by decide +kernel)
def t_X5_numbersOf : List ct_I := [(0, .iload_n 0, 1, 0), (1, .tableswitch 41 0 4 #[35, 35, 37, 37, 39], 35, 0), (36, .iconst 2, 1, 0), (37, .ireturn, 1, 0), (38, .iconst 3, 1, 0), (39, .ireturn, 1, 0), (40, .iconst 1, 1, 0), (41, .ireturn, 1, 0), (42, .iconst 0, 1, 0), (43, .ireturn, 1, 0)]
def m_X5_numbersOf : ct_M := (yX5_numbersOf, cX5_numbersOf, 1, (some .int), t_X5_numbersOf)
set_option maxRecDepth 100000 in
theorem ok_X5_numbersOf : ct_MOk m_X5_numbersOf := ct_MOk_of 485 81 flok_X5 (by decide +kernel) (by decide +kernel) (by decide +kernel) (by decide +kernel)
def t_J13_bitCount_95d88 : List ct_I := [(0, .lload_n 0, 1, 0), (1, .lload_n 0, 1, 0), (2, .iconst 1, 1, 0), (3, .lushr, 1, 0), (4, .ldc2_w 314, 3, 0), (7, .land, 1, 0), (8, .lsub, 1, 0), (9, .lstore_n 0, 1, 0), (10, .lload_n 0, 1, 0), (11, .ldc2_w 316, 3, 0), (14, .land, 1, 0), (15, .lload_n 0, 1, 0), (16, .iconst 2, 1, 0), (17, .lushr, 1, 0), (18, .ldc2_w 316, 3, 0), (21, .land, 1, 0), (22, .ladd, 1, 0), (23, .lstore_n 0, 1, 0), (24, .lload_n 0, 1, 0), (25, .lload_n 0, 1, 0), (26, .iconst 4, 1, 0), (27, .lushr, 1, 0), (28, .ladd, 1, 0), (29, .ldc2_w 318, 3, 0), (32, .land, 1, 0), (33, .lstore_n 0, 1, 0), (34, .lload_n 0, 1, 0), (35, .lload_n 0, 1, 0), (36, .bipush 8, 2, 0), (38, .lushr, 1, 0), (39, .ladd, 1, 0), (40, .lstore_n 0, 1, 0), (41, .lload_n 0, 1, 0), (42, .lload_n 0, 1, 0), (43, .bipush 16, 2, 0), (45, .lushr, 1, 0), (46, .ladd, 1, 0), (47, .lstore_n 0, 1, 0), (48, .lload_n 0, 1, 0), (49, .lload_n 0, 1, 0), (50, .bipush 32, 2, 0), (52, .lushr, 1, 0), (53, .ladd, 1, 0), (54, .lstore_n 0, 1, 0), (55, .lload_n 0, 1, 0), (56, .l2i, 1, 0), (57, .bipush 127, 2, 0), (59, .iand, 1, 0), (60, .ireturn, 1, 0)]
def m_J13_bitCount_95d88 : ct_M := (yJ13_bitCount_95d88, cJ13_bitCount_95d88, 2, (some .int), t_J13_bitCount_95d88)
set_option maxRecDepth 100000 in
theorem ok_J13_bitCount_95d88 : ct_MOk m_J13_bitCount_95d88 := ct_MOk_of 645 89 flok_J13 (by decide +kernel) (by decide +kernel) (by decide +kernel) (by decide +kernel)
def t_J9_abs_0f7a4 : List ct_I := [(0, .iload_n 0, 1, 0), (1, .ifCond .ge 8, 3, 0), (4, .iload_n 0, 1, 0), (5, .ineg, 1, 0), (6, .goto 4, 3, 0), (9, .iload_n 0, 1, 0), (10, .ireturn, 1, 0)]
def m_J9_abs_0f7a4 : ct_M := (yJ9_abs_0f7a4, cJ9_abs_0f7a4, 1, (some .int), t_J9_abs_0f7a4)
set_option maxRecDepth 100000 in
theorem ok_J9_abs_0f7a4 : ct_MOk m_J9_abs_0f7a4 := ct_MOk_of 523 88 flok_J9 (by decide +kernel) (by decide +kernel) (by decide +kernel) (by decide +kernel)
def t_J9_max_7cf53 : List ct_I := [(0, .iload_n 0, 1, 0), (1, .iload_n 1, 1, 0), (2, .if_icmp .lt 7, 3, 0), (5, .iload_n 0, 1, 0), (6, .goto 4, 3, 0), (9, .iload_n 1, 1, 0), (10, .ireturn, 1, 0)]
def m_J9_max_7cf53 : ct_M := (yJ9_max_7cf53, cJ9_max_7cf53, 2, (some .int), t_J9_max_7cf53)
set_option maxRecDepth 100000 in
theorem ok_J9_max_7cf53 : ct_MOk m_J9_max_7cf53 := ct_MOk_of 527 88 flok_J9 (by decide +kernel) (by decide +kernel) (by decide +kernel) (by decide +kernel)
def t_J9_min_7cf53 : List ct_I := [(0, .iload_n 0, 1, 0), (1, .iload_n 1, 1, 0), (2, .if_icmp .gt 7, 3, 0), (5, .iload_n 0, 1, 0), (6, .goto 4, 3, 0), (9, .iload_n 1, 1, 0), (10, .ireturn, 1, 0)]
def m_J9_min_7cf53 : ct_M := (yJ9_min_7cf53, cJ9_min_7cf53, 2, (some .int), t_J9_min_7cf53)
set_option maxRecDepth 100000 in
theorem ok_J9_min_7cf53 : ct_MOk m_J9_min_7cf53 := ct_MOk_of 672 88 flok_J9 (by decide +kernel) (by decide +kernel) (by decide +kernel) (by decide +kernel)
def t_J7_fill_d0a16 : List ct_I := [(0, .iconst 0, 1, 0), (1, .istore_n 3, 1, 0), (2, .aload_n 0, 1, 0), (3, .arraylength, 1, 0), (4, .istore 4, 2, 0), (6, .iload_n 3, 1, 0), (7, .iload 4, 2, 0), (9, .if_icmp .ge 13, 3, 0), (12, .aload_n 0, 1, 0), (13, .iload_n 3, 1, 0), (14, .lload_n 1, 1, 0), (15, .lastore, 1, 0), (16, .iinc 3 1, 3, 0), (19, .goto (-13), 3, 0), (22, .return_, 1, 0)]
def m_J7_fill_d0a16 : ct_M := (yJ7_fill_d0a16, cJ7_fill_d0a16, 5, none, t_J7_fill_d0a16)
set_option maxRecDepth 100000 in
theorem ok_J7_fill_d0a16 : ct_MOk m_J7_fill_d0a16 := ct_MOk_of 961 77 flok_J7 (by decide +kernel) (by decide +kernel) (by decide +kernel) (by decide +kernel)
def t_J7_fill_53178 : List ct_I := [(0, .iconst 0, 1, 0), (1, .istore_n 2, 1, 0), (2, .aload_n 0, 1, 0), (3, .arraylength, 1, 0), (4, .istore_n 3, 1, 0), (5, .iload_n 2, 1, 0), (6, .iload_n 3, 1, 0), (7, .if_icmp .ge 13, 3, 0), (10, .aload_n 0, 1, 0), (11, .iload_n 2, 1, 0), (12, .iload_n 1, 1, 0), (13, .iastore, 1, 0), (14, .iinc 2 1, 3, 0), (17, .goto (-12), 3, 0), (20, .return_, 1, 0)]
def m_J7_fill_53178 : ct_M := (yJ7_fill_53178, cJ7_fill_53178, 4, none, t_J7_fill_53178)
set_option maxRecDepth 100000 in
theorem ok_J7_fill_53178 : ct_MOk m_J7_fill_53178 := ct_MOk_of 111 77 flok_J7 (by decide +kernel) (by decide +kernel) (by decide +kernel) (by decide +kernel)
