set_option maxRecDepth 100000 in
theorem lk_X6_91 : ct_LkS RX6 91 m_X0_isSize 1 := ct_LkS_of 359 360 (by decide +kernel) (by decide +kernel) (by decide +kernel)
set_option maxRecDepth 100000 in
theorem lk_X6_102 : ct_LkV RX6 102 m_X0_layOut 2 := ct_LkV_of 362 106 107 (by decide +kernel) (by decide +kernel) (by decide +kernel) (by decide +kernel)
set_option maxRecDepth 100000 in
theorem lk_X6_106 : ct_LkV RX6 106 m_X0_isPoint 1 := ct_LkV_of 367 368 369 (by decide +kernel) (by decide +kernel) (by decide +kernel) (by decide +kernel)
set_option maxRecDepth 100000 in
theorem lk_X6_109 : ct_LkS RX6 109 m_X6_isHeight 1 := ct_LkS_of 371 372 (by decide +kernel) (by decide +kernel) (by decide +kernel)
set_option maxRecDepth 100000 in
theorem lk_X6_112 : ct_LkV RX6 112 m_X0_heightOf 1 := ct_LkV_of 374 375 376 (by decide +kernel) (by decide +kernel) (by decide +kernel) (by decide +kernel)
set_option maxRecDepth 100000 in
theorem lk_X6_116 : ct_LkV RX6 116 m_X0_putHeight 2 := ct_LkV_of 378 117 118 (by decide +kernel) (by decide +kernel) (by decide +kernel) (by decide +kernel)
set_option maxRecDepth 100000 in
theorem lk_X6_119 : ct_LkS RX6 119 m_X6_isKind 1 := ct_LkS_of 383 384 (by decide +kernel) (by decide +kernel) (by decide +kernel)
set_option maxRecDepth 100000 in
theorem lk_X6_125 : ct_LkV RX6 125 m_X0_putKind 1 := ct_LkV_of 386 387 388 (by decide +kernel) (by decide +kernel) (by decide +kernel) (by decide +kernel)
set_option maxRecDepth 100000 in
theorem lk_X6_128 : ct_LkV RX6 128 m_X5_isFull 0 := ct_LkV_of 394 395 396 (by decide +kernel) (by decide +kernel) (by decide +kernel) (by decide +kernel)
set_option maxRecDepth 100000 in
theorem lk_X6_132 : ct_LkV RX6 132 m_X5_append 1 := ct_LkV_of 398 399 400 (by decide +kernel) (by decide +kernel) (by decide +kernel) (by decide +kernel)
set_option maxRecDepth 100000 in
theorem lk_X6_148 : ct_LkV RX6 148 m_X5_numberOf 2 := ct_LkV_of 502 503 504 (by decide +kernel) (by decide +kernel) (by decide +kernel) (by decide +kernel)
set_option maxRecDepth 100000 in
theorem lk_X6_152 : ct_LkV RX6 152 m_X5_wordOf 1 := ct_LkV_of 506 507 508 (by decide +kernel) (by decide +kernel) (by decide +kernel) (by decide +kernel)
set_option maxRecDepth 100000 in
theorem lk_X6_155 : ct_LkV RX6 155 m_X6_size 2 := ct_LkV_of 510 356 357 (by decide +kernel) (by decide +kernel) (by decide +kernel) (by decide +kernel)
set_option maxRecDepth 100000 in
theorem lk_X6_158 : ct_LkV RX6 158 m_X6_height 2 := ct_LkV_of 511 364 365 (by decide +kernel) (by decide +kernel) (by decide +kernel) (by decide +kernel)
set_option maxRecDepth 100000 in
theorem lk_X6_161 : ct_LkV RX6 161 m_X0_fillUp 3 := ct_LkV_of 512 513 514 (by decide +kernel) (by decide +kernel) (by decide +kernel) (by decide +kernel)
set_option maxRecDepth 100000 in
theorem lk_X6_165 : ct_LkV RX6 165 m_X0_heapUp 3 := ct_LkV_of 517 518 519 (by decide +kernel) (by decide +kernel) (by decide +kernel) (by decide +kernel)
set_option maxRecDepth 100000 in
theorem lk_X6_168 : ct_LkV RX6 168 m_X6_rule 1 := ct_LkV_of 528 380 381 (by decide +kernel) (by decide +kernel) (by decide +kernel) (by decide +kernel)
set_option maxRecDepth 100000 in
theorem lk_X6_171 : ct_LkV RX6 171 m_X0_turnOver 0 := ct_LkV_of 529 530 531 (by decide +kernel) (by decide +kernel) (by decide +kernel) (by decide +kernel)
set_option maxRecDepth 100000 in
theorem lk_X6_193 : ct_LkV RX6 193 m_X0_volume 1 := ct_LkV_of 554 555 556 (by decide +kernel) (by decide +kernel) (by decide +kernel) (by decide +kernel)
set_option maxRecDepth 100000 in
theorem lk_X6_196 : ct_LkS RX6 196 m_X6_isLevel 1 := ct_LkS_of 558 559 (by decide +kernel) (by decide +kernel) (by decide +kernel)
set_option maxRecDepth 100000 in
theorem lk_X6_174 : ct_LkV RX6 174 m_X0_greatest 0 := ct_LkV_of 542 543 544 (by decide +kernel) (by decide +kernel) (by decide +kernel) (by decide +kernel)
set_option maxRecDepth 100000 in
theorem lk_X6_177 : ct_LkV RX6 177 m_X0_firstOf 1 := ct_LkV_of 546 547 548 (by decide +kernel) (by decide +kernel) (by decide +kernel) (by decide +kernel)
set_option maxRecDepth 100000 in
theorem lk_X6_180 : ct_LkV RX6 180 m_X6_halfLevel 0 := ct_LkV_of 550 552 1 (by decide +kernel) (by decide +kernel) (by decide +kernel) (by decide +kernel)
set_option maxRecDepth 100000 in
theorem lk_X6_183 : ct_LkV RX6 183 m_X2_countLevels 0 := ct_LkV_of 561 562 563 (by decide +kernel) (by decide +kernel) (by decide +kernel) (by decide +kernel)
set_option maxRecDepth 100000 in
theorem lk_X6_186 : ct_LkV RX6 186 m_X2_busiest 0 := ct_LkV_of 609 610 611 (by decide +kernel) (by decide +kernel) (by decide +kernel) (by decide +kernel)
set_option maxRecDepth 100000 in
theorem lk_X6_199 : ct_LkV RX6 199 m_X2_trace 1 := ct_LkV_of 617 570 571 (by decide +kernel) (by decide +kernel) (by decide +kernel) (by decide +kernel)
set_option maxRecDepth 100000 in
theorem lk_X6_205 : ct_LkV RX6 205 m_X2_outerOnes 0 := ct_LkV_of 618 619 620 (by decide +kernel) (by decide +kernel) (by decide +kernel) (by decide +kernel)
set_option maxRecDepth 100000 in
theorem lk_X6_208 : ct_LkV RX6 208 m_X1_find 1 := ct_LkV_of 653 654 655 (by decide +kernel) (by decide +kernel) (by decide +kernel) (by decide +kernel)
set_option maxRecDepth 100000 in
theorem lk_X6_212 : ct_LkV RX6 212 m_X0_pointsIn 1 := ct_LkV_of 688 689 690 (by decide +kernel) (by decide +kernel) (by decide +kernel) (by decide +kernel)
set_option maxRecDepth 100000 in
theorem lk_X6_215 : ct_LkV RX6 215 m_X0_saddles 2 := ct_LkV_of 692 693 694 (by decide +kernel) (by decide +kernel) (by decide +kernel) (by decide +kernel)
set_option maxRecDepth 100000 in
theorem lk_X6_219 : ct_LkV RX6 219 m_X2_greatestDepth 0 := ct_LkV_of 700 701 702 (by decide +kernel) (by decide +kernel) (by decide +kernel) (by decide +kernel)
set_option maxRecDepth 100000 in
theorem lk_X6_222 : ct_LkV RX6 222 m_X0_isSquare 1 := ct_LkV_of 709 710 711 (by decide +kernel) (by decide +kernel) (by decide +kernel) (by decide +kernel)
set_option maxRecDepth 100000 in
theorem lk_X6_225 : ct_LkV RX6 225 m_X0_cornerOf 1 := ct_LkV_of 713 697 698 (by decide +kernel) (by decide +kernel) (by decide +kernel) (by decide +kernel)
set_option maxRecDepth 100000 in
theorem lk_X6_231 : ct_LkV RX6 231 m_X0_isJoinedSaddle 2 := ct_LkV_of 715 678 679 (by decide +kernel) (by decide +kernel) (by decide +kernel) (by decide +kernel)
set_option maxRecDepth 100000 in
theorem lk_X6_228 : ct_LkV RX6 228 m_X0_caseOf 2 := ct_LkV_of 714 595 596 (by decide +kernel) (by decide +kernel) (by decide +kernel) (by decide +kernel)
set_option maxRecDepth 100000 in
theorem lk_X6_235 : ct_LkV RX6 235 m_X0_isEdge 1 := ct_LkV_of 720 721 722 (by decide +kernel) (by decide +kernel) (by decide +kernel) (by decide +kernel)
set_option maxRecDepth 100000 in
theorem lk_X6_241 : ct_LkV RX6 241 m_X2_isLine 1 := ct_LkV_of 728 729 730 (by decide +kernel) (by decide +kernel) (by decide +kernel) (by decide +kernel)
set_option maxRecDepth 100000 in
theorem lk_X6_244 : ct_LkV RX6 244 m_X2_leastEdge 1 := ct_LkV_of 732 639 640 (by decide +kernel) (by decide +kernel) (by decide +kernel) (by decide +kernel)
set_option maxRecDepth 100000 in
theorem lk_X6_247 : ct_LkV RX6 247 m_X2_lengthOf 1 := ct_LkV_of 733 734 735 (by decide +kernel) (by decide +kernel) (by decide +kernel) (by decide +kernel)
set_option maxRecDepth 100000 in
theorem lk_X6_250 : ct_LkV RX6 250 m_X2_depthOf 1 := ct_LkV_of 737 627 628 (by decide +kernel) (by decide +kernel) (by decide +kernel) (by decide +kernel)
set_option maxRecDepth 100000 in
theorem lk_X6_253 : ct_LkV RX6 253 m_X2_parentOf 1 := ct_LkV_of 738 739 740 (by decide +kernel) (by decide +kernel) (by decide +kernel) (by decide +kernel)
set_option maxRecDepth 100000 in
theorem lk_X6_256 : ct_LkV RX6 256 m_X2_isOuter 1 := ct_LkV_of 742 623 624 (by decide +kernel) (by decide +kernel) (by decide +kernel) (by decide +kernel)
set_option maxRecDepth 100000 in
theorem lk_X6_259 : ct_LkV RX6 259 m_X2_areaOf 1 := ct_LkV_of 743 744 745 (by decide +kernel) (by decide +kernel) (by decide +kernel) (by decide +kernel)
set_option maxRecDepth 100000 in
theorem lk_X6_262 : ct_LkV RX6 262 m_X2_pointsHeld 1 := ct_LkV_of 761 762 763 (by decide +kernel) (by decide +kernel) (by decide +kernel) (by decide +kernel)
set_option maxRecDepth 100000 in
theorem lk_X6_265 : ct_LkV RX6 265 m_X2_edgeOf 2 := ct_LkV_of 775 749 750 (by decide +kernel) (by decide +kernel) (by decide +kernel) (by decide +kernel)
set_option maxRecDepth 100000 in
theorem lk_X6_268 : ct_LkV RX6 268 m_X0_placeOf 1 := ct_LkV_of 780 121 122 (by decide +kernel) (by decide +kernel) (by decide +kernel) (by decide +kernel)
set_option maxRecDepth 100000 in
theorem lk_X6_271 : ct_LkV RX6 271 m_X2_isHeld 2 := ct_LkV_of 781 768 769 (by decide +kernel) (by decide +kernel) (by decide +kernel) (by decide +kernel)
set_option maxRecDepth 100000 in
theorem lk_X6_274 : ct_LkV RX6 274 m_X2_wayOver 1 := ct_LkV_of 786 587 588 (by decide +kernel) (by decide +kernel) (by decide +kernel) (by decide +kernel)
set_option maxRecDepth 100000 in
theorem lk_X6_295 : ct_LkV RX6 295 m_X2_leastPlace 1 := ct_LkV_of 807 635 636 (by decide +kernel) (by decide +kernel) (by decide +kernel) (by decide +kernel)
set_option maxRecDepth 100000 in
theorem lk_X6_283 : ct_LkV RX6 283 m_X0_pointOf 1 := ct_LkV_of 799 800 801 (by decide +kernel) (by decide +kernel) (by decide +kernel) (by decide +kernel)
set_option maxRecDepth 100000 in
theorem lk_X6_292 : ct_LkV RX6 292 m_X6_holesOf 2 := ct_LkV_of 803 805 2 (by decide +kernel) (by decide +kernel) (by decide +kernel) (by decide +kernel)
theorem lk_X6_298 : Cond.methodLink RX6 298 Lib.Math.min.name ∈ ct_GW := ct_GW_of 812 (by decide +kernel) (by decide +kernel)
set_option maxRecDepth 100000 in
theorem lk_X6_303 : ct_LkV RX6 303 m_X1_topAround 1 := ct_LkV_of 817 818 819 (by decide +kernel) (by decide +kernel) (by decide +kernel) (by decide +kernel)
set_option maxRecDepth 100000 in
theorem lk_X6_316 : ct_LkV RX6 316 m_X1_clearChildren 0 := ct_LkV_of 828 829 830 (by decide +kernel) (by decide +kernel) (by decide +kernel) (by decide +kernel)
set_option maxRecDepth 100000 in
theorem lk_X6_319 : ct_LkV RX6 319 m_X1_addChild 1 := ct_LkV_of 833 834 835 (by decide +kernel) (by decide +kernel) (by decide +kernel) (by decide +kernel)
set_option maxRecDepth 100000 in
theorem lk_X6_306 : ct_LkS RX6 306 m_X6_countChildren 3 := ct_LkS_of 825 826 (by decide +kernel) (by decide +kernel) (by decide +kernel)
set_option maxRecDepth 100000 in
theorem lk_X6_313 : ct_LkV RX6 313 m_X1_forks 0 := ct_LkV_of 841 842 843 (by decide +kernel) (by decide +kernel) (by decide +kernel) (by decide +kernel)
set_option maxRecDepth 100000 in
theorem lk_X6_310 : ct_LkV RX6 310 m_X1_leaves 0 := ct_LkV_of 837 838 839 (by decide +kernel) (by decide +kernel) (by decide +kernel) (by decide +kernel)
theorem lk_X6_322 : Cond.methodLink RX6 322 Lib.Math.max.name ∈ ct_GW := ct_GW_of 849 (by decide +kernel) (by decide +kernel)
set_option maxRecDepth 100000 in
theorem lk_X6_328 : ct_LkV RX6 328 m_X3_isFull 0 := ct_LkV_of 858 859 860 (by decide +kernel) (by decide +kernel) (by decide +kernel) (by decide +kernel)
set_option maxRecDepth 100000 in
theorem lk_X6_329 : ct_LkV RX6 329 m_X3_append 2 := ct_LkV_of 862 863 864 (by decide +kernel) (by decide +kernel) (by decide +kernel) (by decide +kernel)
set_option maxRecDepth 100000 in
theorem lk_X6_325 : ct_LkV RX6 325 m_X3_clear 0 := ct_LkV_of 854 855 856 (by decide +kernel) (by decide +kernel) (by decide +kernel) (by decide +kernel)
theorem lc_X6_343 : Cond.constantLong RX6 343 (-9223372036854775808) ∈ ct_GW := ct_GW_of 877 (by decide +kernel) (by decide +kernel)
set_option maxRecDepth 100000 in
theorem lk_X6_340 : ct_LkS RX6 340 m_X6_isPart 1 := ct_LkS_of 874 875 (by decide +kernel) (by decide +kernel) (by decide +kernel)
set_option maxRecDepth 100000 in
theorem lk_X6_345 : ct_LkS RX6 345 m_X6_hundredths 2 := ct_LkS_of 878 879 (by decide +kernel) (by decide +kernel) (by decide +kernel)
set_option maxRecDepth 100000 in
theorem lk_X6_359 : ct_LkV RX6 359 m_X0_lowerAll 1 := ct_LkV_of 908 909 910 (by decide +kernel) (by decide +kernel) (by decide +kernel) (by decide +kernel)
set_option maxRecDepth 100000 in
theorem lk_X6_352 : ct_LkV RX6 352 m_X0_copyFrom 1 := ct_LkV_of 897 898 899 (by decide +kernel) (by decide +kernel) (by decide +kernel) (by decide +kernel)
set_option maxRecDepth 100000 in
theorem lk_X6_355 : ct_LkS RX6 355 m_X6_happen 3 := ct_LkS_of 905 906 (by decide +kernel) (by decide +kernel) (by decide +kernel)
set_option maxRecDepth 100000 in
theorem lk_X6_349 : ct_LkV RX6 349 m_X6_tryEvents 0 := ct_LkV_of 893 895 3 (by decide +kernel) (by decide +kernel) (by decide +kernel) (by decide +kernel)
set_option maxRecDepth 100000 in
theorem lk_X6_362 : ct_LkS RX6 362 m_X6_isTape 1 := ct_LkS_of 924 925 (by decide +kernel) (by decide +kernel) (by decide +kernel)
set_option maxRecDepth 100000 in
theorem lk_X6_365 : ct_LkV RX6 365 m_X4_isEmpty 0 := ct_LkV_of 927 928 929 (by decide +kernel) (by decide +kernel) (by decide +kernel) (by decide +kernel)
set_option maxRecDepth 100000 in
theorem lk_X6_371 : ct_LkV RX6 371 m_X0_points 0 := ct_LkV_of 931 113 114 (by decide +kernel) (by decide +kernel) (by decide +kernel) (by decide +kernel)
set_option maxRecDepth 100000 in
theorem lk_X6_374 : ct_LkV RX6 374 m_X4_isPlace 1 := ct_LkV_of 932 933 934 (by decide +kernel) (by decide +kernel) (by decide +kernel) (by decide +kernel)
set_option maxRecDepth 100000 in
theorem lk_X6_381 : ct_LkV RX6 381 m_X3_copyFrom 1 := ct_LkV_of 940 941 942 (by decide +kernel) (by decide +kernel) (by decide +kernel) (by decide +kernel)
set_option maxRecDepth 100000 in
theorem lk_X6_384 : ct_LkV RX6 384 m_X0_together 0 := ct_LkV_of 944 945 946 (by decide +kernel) (by decide +kernel) (by decide +kernel) (by decide +kernel)
set_option maxRecDepth 100000 in
theorem lk_X6_390 : ct_LkS RX6 390 m_X4_isSort 1 := ct_LkS_of 967 968 (by decide +kernel) (by decide +kernel) (by decide +kernel)
set_option maxRecDepth 100000 in
theorem lk_X6_387 : ct_LkV RX6 387 m_X4_become 2 := ct_LkV_of 960 961 962 (by decide +kernel) (by decide +kernel) (by decide +kernel) (by decide +kernel)
set_option maxRecDepth 100000 in
theorem lk_X6_393 : ct_LkV RX6 393 m_X4_put 2 := ct_LkV_of 974 975 976 (by decide +kernel) (by decide +kernel) (by decide +kernel) (by decide +kernel)
set_option maxRecDepth 100000 in
theorem lk_X6_397 : ct_LkV RX6 397 m_X4_isStretch 2 := ct_LkV_of 986 987 988 (by decide +kernel) (by decide +kernel) (by decide +kernel) (by decide +kernel)
theorem lk_X6_400 : Cond.methodLink RX6 400 arraycopyName ∈ ct_GW := ct_GW_of 990 (by decide +kernel) (by decide +kernel)
def f_X6_size (G : ct_G) (h : ct_H) (o : Nat) (a1 : Int) (a2 : Int) : Option (Int × ct_H) := (f_X0_isSize G h a1).bind fun v1 => if v1 = 0 then (some ((-2), h)) else (f_X0_isSize G h a2).bind fun v2 => if v2 = 0 then (some ((-2), h)) else ct_lt (ct_wr ((ct_wr (10 * (h.1 (G.1 o 0) 1))) + (h.1 (G.1 o 0) 2))) fun v3 => (f_X0_layOut G h (G.1 o 0) a1 a2).bind fun r4 => some (v3, r4)
set_option maxRecDepth 100000 in
theorem e_X6_size {d : Nat} {G : ct_G} {h : ct_H} (o : Nat) (a1 : Int) (a2 : Int) : ct_E m_X6_size (d + 3) G (ct_args 0 [.inr (.inr (6, o)), .inl a1, .inl a2]) h (fun r : Int × ct_H => (some (.inl (r.1) : ct_PV), r.2)) (f_X6_size G h o a1 a2) := by
  intro x C
  unfold f_X6_size
  show ct_Z x m_X6_size G 0 [(0, .inr (.inr (6, o))), (1, .inl a1), (2, .inl a2)] [] h (fun a => ct_q x G ((fun r : Int × ct_H => (some (.inl (r.1) : ct_PV), r.2)) a)) _
  refine ct_zrun C (k' := 1) (y := ([(0, .inr (.inr (6, o))), (1, .inl a1), (2, .inl a2)], [.inl a1], h)) 1 rfl rfl rfl ?_
  refine ct_zS C (pc := 1) (aux := 0) [.inl a1] [] ok_X0_isSize lk_X6_91 (e_X0_isSize a1) rfl rfl rfl rfl rfl rfl (fun v1 => ?_)
  refine ct_zt0 C (pc := 4) (aux := 0) (cn := .eq) (off := 10) (k' := 6) (a := v1) Iff.rfl rfl rfl rfl (fun e6 => ?_) (fun e6 => ?_)
  · refine ct_zrun C (k' := 7) (y := ([(0, .inr (.inr (6, o))), (1, .inl a1), (2, .inl a2)], [.inl (-2)], h)) 1 rfl rfl rfl ?_
    exact ct_zret C (pc := 16) (aux := 0) (ins := .ireturn) (ρ := (fun r : Int × ct_H => (some (.inl (r.1) : ct_PV), r.2))) (some (.inl (-2))) rfl rfl rfl ⟨rfl, Or.inl rfl⟩
  · refine ct_zrun C (k' := 4) (y := ([(0, .inr (.inr (6, o))), (1, .inl a1), (2, .inl a2)], [.inl a2], h)) 1 rfl rfl rfl ?_
    refine ct_zS C (pc := 8) (aux := 0) [.inl a2] [] ok_X0_isSize lk_X6_91 (e_X0_isSize a2) rfl rfl rfl rfl rfl rfl (fun v2 => ?_)
    refine ct_zf0 C (pc := 11) (aux := 0) (cn := .ne) (off := 6) (k' := 8) (a := v2) Iff.rfl rfl rfl rfl (fun e5 => ?_) (fun e5 => ?_)
    · refine ct_zrun C (k' := 7) (y := ([(0, .inr (.inr (6, o))), (1, .inl a1), (2, .inl a2)], [.inl (-2)], h)) 1 rfl rfl rfl ?_
      exact ct_zret C (pc := 16) (aux := 0) (ins := .ireturn) (ρ := (fun r : Int × ct_H => (some (.inl (r.1) : ct_PV), r.2))) (some (.inl (-2))) rfl rfl rfl ⟨rfl, Or.inl rfl⟩
    · refine ct_zrun C (k' := 18) (y := ([(3, .inl (ct_wr ((ct_wr (10 * (h.1 (G.1 o 0) 1))) + (h.1 (G.1 o 0) 2)))), (0, .inr (.inr (6, o))), (1, .inl a1), (2, .inl a2)], [], h)) 10 rfl rfl rfl ?_
      refine ct_zlet (L := fun v3 => [(3, .inl v3), (0, .inr (.inr (6, o))), (1, .inl a1), (2, .inl a2)]) (S := fun _ => []) (Hh := fun _ => h) (a := (ct_wr ((ct_wr (10 * (h.1 (G.1 o 0) 1))) + (h.1 (G.1 o 0) 2)))) (fun v3 => ?_)
      refine ct_zrun C (k' := 22) (y := ([(3, .inl v3), (0, .inr (.inr (6, o))), (1, .inl a1), (2, .inl a2)], [.inl a2, .inl a1, .inr (.inr (0, (G.1 o 0)))], h)) 4 rfl rfl rfl ?_
      refine ct_zV C (pc := 42) (aux := 0) [.inl a1, .inl a2] [] ok_X0_layOut lk_X6_102 (e_X0_layOut (G.1 o 0) a1 a2) rfl rfl rfl rfl rfl rfl rfl rfl (fun r4 => ?_)
      refine ct_zrun C (k' := 24) (y := ([(3, .inl v3), (0, .inr (.inr (6, o))), (1, .inl a1), (2, .inl a2)], [.inl v3], r4)) 1 rfl rfl rfl ?_
      exact ct_zret C (pc := 46) (aux := 0) (ins := .ireturn) (ρ := (fun r : Int × ct_H => (some (.inl (r.1) : ct_PV), r.2))) (some (.inl v3)) rfl rfl rfl ⟨rfl, Or.inl rfl⟩
def f_X6_isHeight (G : ct_G) (h : ct_H) (a0 : Int) : Option (Int) := if a0 < 0 then (some 0) else if 99 < a0 then (some 0) else some 1
set_option maxRecDepth 100000 in
theorem e_X6_isHeight {d : Nat} {G : ct_G} {h : ct_H} (a0 : Int) : ct_E m_X6_isHeight d G (ct_args 0 [.inl a0]) h (fun r : Int => (some (.inl r : ct_PV), h)) (f_X6_isHeight G h a0) := by
  intro x C
  unfold f_X6_isHeight
  show ct_Z x m_X6_isHeight G 0 [(0, .inl a0)] [] h (fun a => ct_q x G ((fun r : Int => (some (.inl r : ct_PV), h)) a)) _
  refine ct_zrun C (k' := 1) (y := ([(0, .inl a0)], [.inl a0], h)) 1 rfl rfl rfl ?_
  refine ct_zt0 C (pc := 1) (aux := 0) (cn := .lt) (off := 13) (k' := 7) (a := a0) Iff.rfl rfl rfl rfl (fun e2 => ?_) (fun e2 => ?_)
  · refine ct_zrun C (k' := 8) (y := ([(0, .inl a0)], [.inl 0], h)) 1 rfl rfl rfl ?_
    exact ct_zret C (pc := 15) (aux := 0) (ins := .ireturn) (ρ := (fun r : Int => (some (.inl r : ct_PV), h))) (some (.inl 0)) rfl rfl rfl ⟨rfl, Or.inr ⟨rfl, Or.inl rfl⟩⟩
  · refine ct_zrun C (k' := 4) (y := ([(0, .inl a0)], [.inl 99, .inl a0], h)) 2 rfl rfl rfl ?_
    refine ct_zt C (pc := 7) (aux := 0) (cn := .gt) (off := 7) (k' := 7) (a := a0) (b := 99) Iff.rfl rfl rfl rfl (fun e1 => ?_) (fun e1 => ?_)
    · refine ct_zrun C (k' := 8) (y := ([(0, .inl a0)], [.inl 0], h)) 1 rfl rfl rfl ?_
      exact ct_zret C (pc := 15) (aux := 0) (ins := .ireturn) (ρ := (fun r : Int => (some (.inl r : ct_PV), h))) (some (.inl 0)) rfl rfl rfl ⟨rfl, Or.inr ⟨rfl, Or.inl rfl⟩⟩
    · refine ct_zrun C (k' := 6) (y := ([(0, .inl a0)], [.inl 1], h)) 1 rfl rfl rfl ?_
      refine ct_zgoto C (pc := 11) (aux := 0) (off := 4) (k' := 8) rfl rfl ?_
      exact ct_zret C (pc := 15) (aux := 0) (ins := .ireturn) (ρ := (fun r : Int => (some (.inl r : ct_PV), h))) (some (.inl 1)) rfl rfl rfl ⟨rfl, Or.inr ⟨rfl, Or.inr rfl⟩⟩
def f_X6_height (G : ct_G) (h : ct_H) (o : Nat) (a1 : Int) (a2 : Int) : Option (Int × ct_H) := (f_X0_isPoint G h (G.1 o 0) a1).bind fun v1 => if v1 = 0 then (some ((-1), h)) else (f_X6_isHeight G h a2).bind fun v2 => if v2 = 0 then (some ((-2), h)) else (f_X0_heightOf G h (G.1 o 0) a1).bind fun v3 => (f_X0_putHeight G h (G.1 o 0) a1 a2).bind fun r4 => some (v3, r4)
set_option maxRecDepth 100000 in
theorem e_X6_height {d : Nat} {G : ct_G} {h : ct_H} (o : Nat) (a1 : Int) (a2 : Int) : ct_E m_X6_height (d + 2) G (ct_args 0 [.inr (.inr (6, o)), .inl a1, .inl a2]) h (fun r : Int × ct_H => (some (.inl (r.1) : ct_PV), r.2)) (f_X6_height G h o a1 a2) := by
  intro x C
  unfold f_X6_height
  show ct_Z x m_X6_height G 0 [(0, .inr (.inr (6, o))), (1, .inl a1), (2, .inl a2)] [] h (fun a => ct_q x G ((fun r : Int × ct_H => (some (.inl (r.1) : ct_PV), r.2)) a)) _
  refine ct_zrun C (k' := 3) (y := ([(0, .inr (.inr (6, o))), (1, .inl a1), (2, .inl a2)], [.inl a1, .inr (.inr (0, (G.1 o 0)))], h)) 3 rfl rfl rfl ?_
  refine ct_zV C (pc := 5) (aux := 0) [.inl a1] [] ok_X0_isPoint lk_X6_106 (e_X0_isPoint (G.1 o 0) a1) rfl rfl rfl rfl rfl rfl rfl rfl (fun v1 => ?_)
  refine ct_zf0 C (pc := 8) (aux := 0) (cn := .ne) (off := 5) (k' := 7) (a := v1) Iff.rfl rfl rfl rfl (fun e6 => ?_) (fun e6 => ?_)
  · refine ct_zrun C (k' := 6) (y := ([(0, .inr (.inr (6, o))), (1, .inl a1), (2, .inl a2)], [.inl (-1)], h)) 1 rfl rfl rfl ?_
    exact ct_zret C (pc := 12) (aux := 0) (ins := .ireturn) (ρ := (fun r : Int × ct_H => (some (.inl (r.1) : ct_PV), r.2))) (some (.inl (-1))) rfl rfl rfl ⟨rfl, Or.inl rfl⟩
  · refine ct_zrun C (k' := 8) (y := ([(0, .inr (.inr (6, o))), (1, .inl a1), (2, .inl a2)], [.inl a2], h)) 1 rfl rfl rfl ?_
    refine ct_zS C (pc := 14) (aux := 0) [.inl a2] [] ok_X6_isHeight lk_X6_109 (e_X6_isHeight a2) rfl rfl rfl rfl rfl rfl (fun v2 => ?_)
    refine ct_zf0 C (pc := 17) (aux := 0) (cn := .ne) (off := 6) (k' := 12) (a := v2) Iff.rfl rfl rfl rfl (fun e5 => ?_) (fun e5 => ?_)
    · refine ct_zrun C (k' := 11) (y := ([(0, .inr (.inr (6, o))), (1, .inl a1), (2, .inl a2)], [.inl (-2)], h)) 1 rfl rfl rfl ?_
      exact ct_zret C (pc := 22) (aux := 0) (ins := .ireturn) (ρ := (fun r : Int × ct_H => (some (.inl (r.1) : ct_PV), r.2))) (some (.inl (-2))) rfl rfl rfl ⟨rfl, Or.inl rfl⟩
    · refine ct_zrun C (k' := 15) (y := ([(0, .inr (.inr (6, o))), (1, .inl a1), (2, .inl a2)], [.inl a1, .inr (.inr (0, (G.1 o 0)))], h)) 3 rfl rfl rfl ?_
      refine ct_zV C (pc := 28) (aux := 0) [.inl a1] [] ok_X0_heightOf lk_X6_112 (e_X0_heightOf (G.1 o 0) a1) rfl rfl rfl rfl rfl rfl rfl rfl (fun v3 => ?_)
      refine ct_zrun C (k' := 21) (y := ([(3, .inl v3), (0, .inr (.inr (6, o))), (1, .inl a1), (2, .inl a2)], [.inl a2, .inl a1, .inr (.inr (0, (G.1 o 0)))], h)) 5 rfl rfl rfl ?_
      refine ct_zV C (pc := 38) (aux := 0) [.inl a1, .inl a2] [] ok_X0_putHeight lk_X6_116 (e_X0_putHeight (G.1 o 0) a1 a2) rfl rfl rfl rfl rfl rfl rfl rfl (fun r4 => ?_)
      refine ct_zrun C (k' := 23) (y := ([(3, .inl v3), (0, .inr (.inr (6, o))), (1, .inl a1), (2, .inl a2)], [.inl v3], r4)) 1 rfl rfl rfl ?_
      exact ct_zret C (pc := 42) (aux := 0) (ins := .ireturn) (ρ := (fun r : Int × ct_H => (some (.inl (r.1) : ct_PV), r.2))) (some (.inl v3)) rfl rfl rfl ⟨rfl, Or.inl rfl⟩
def f_X6_isKind (G : ct_G) (h : ct_H) (a0 : Int) : Option (Int) := if a0 < 0 then (some 0) else if 5 ≤ a0 then (some 0) else some 1
set_option maxRecDepth 100000 in
theorem e_X6_isKind {d : Nat} {G : ct_G} {h : ct_H} (a0 : Int) : ct_E m_X6_isKind d G (ct_args 0 [.inl a0]) h (fun r : Int => (some (.inl r : ct_PV), h)) (f_X6_isKind G h a0) := by
  intro x C
  unfold f_X6_isKind
  show ct_Z x m_X6_isKind G 0 [(0, .inl a0)] [] h (fun a => ct_q x G ((fun r : Int => (some (.inl r : ct_PV), h)) a)) _
  refine ct_zrun C (k' := 1) (y := ([(0, .inl a0)], [.inl a0], h)) 1 rfl rfl rfl ?_
  refine ct_zt0 C (pc := 1) (aux := 0) (cn := .lt) (off := 12) (k' := 7) (a := a0) Iff.rfl rfl rfl rfl (fun e2 => ?_) (fun e2 => ?_)
  · refine ct_zrun C (k' := 8) (y := ([(0, .inl a0)], [.inl 0], h)) 1 rfl rfl rfl ?_
    exact ct_zret C (pc := 14) (aux := 0) (ins := .ireturn) (ρ := (fun r : Int => (some (.inl r : ct_PV), h))) (some (.inl 0)) rfl rfl rfl ⟨rfl, Or.inr ⟨rfl, Or.inl rfl⟩⟩
  · refine ct_zrun C (k' := 4) (y := ([(0, .inl a0)], [.inl 5, .inl a0], h)) 2 rfl rfl rfl ?_
    refine ct_zt C (pc := 6) (aux := 0) (cn := .ge) (off := 7) (k' := 7) (a := a0) (b := 5) Iff.rfl rfl rfl rfl (fun e1 => ?_) (fun e1 => ?_)
    · refine ct_zrun C (k' := 8) (y := ([(0, .inl a0)], [.inl 0], h)) 1 rfl rfl rfl ?_
      exact ct_zret C (pc := 14) (aux := 0) (ins := .ireturn) (ρ := (fun r : Int => (some (.inl r : ct_PV), h))) (some (.inl 0)) rfl rfl rfl ⟨rfl, Or.inr ⟨rfl, Or.inl rfl⟩⟩
    · refine ct_zrun C (k' := 6) (y := ([(0, .inl a0)], [.inl 1], h)) 1 rfl rfl rfl ?_
      refine ct_zgoto C (pc := 10) (aux := 0) (off := 4) (k' := 8) rfl rfl ?_
      exact ct_zret C (pc := 14) (aux := 0) (ins := .ireturn) (ρ := (fun r : Int => (some (.inl r : ct_PV), h))) (some (.inl 1)) rfl rfl rfl ⟨rfl, Or.inr ⟨rfl, Or.inr rfl⟩⟩
def f_X6_rule (G : ct_G) (h : ct_H) (o : Nat) (a1 : Int) : Option (Int × ct_H) := (f_X6_isKind G h a1).bind fun v1 => if v1 = 0 then (some ((-1), h)) else ct_lt (h.1 (G.1 o 0) 5) fun v2 => (f_X0_putKind G h (G.1 o 0) a1).bind fun r3 => some (v2, r3)
set_option maxRecDepth 100000 in
theorem e_X6_rule {d : Nat} {G : ct_G} {h : ct_H} (o : Nat) (a1 : Int) : ct_E m_X6_rule (d + 1) G (ct_args 0 [.inr (.inr (6, o)), .inl a1]) h (fun r : Int × ct_H => (some (.inl (r.1) : ct_PV), r.2)) (f_X6_rule G h o a1) := by
  intro x C
  unfold f_X6_rule
  show ct_Z x m_X6_rule G 0 [(0, .inr (.inr (6, o))), (1, .inl a1)] [] h (fun a => ct_q x G ((fun r : Int × ct_H => (some (.inl (r.1) : ct_PV), r.2)) a)) _
  refine ct_zrun C (k' := 1) (y := ([(0, .inr (.inr (6, o))), (1, .inl a1)], [.inl a1], h)) 1 rfl rfl rfl ?_
  refine ct_zS C (pc := 1) (aux := 0) [.inl a1] [] ok_X6_isKind lk_X6_119 (e_X6_isKind a1) rfl rfl rfl rfl rfl rfl (fun v1 => ?_)
  refine ct_zf0 C (pc := 4) (aux := 0) (cn := .ne) (off := 5) (k' := 5) (a := v1) Iff.rfl rfl rfl rfl (fun e4 => ?_) (fun e4 => ?_)
  · refine ct_zrun C (k' := 4) (y := ([(0, .inr (.inr (6, o))), (1, .inl a1)], [.inl (-1)], h)) 1 rfl rfl rfl ?_
    exact ct_zret C (pc := 8) (aux := 0) (ins := .ireturn) (ρ := (fun r : Int × ct_H => (some (.inl (r.1) : ct_PV), r.2))) (some (.inl (-1))) rfl rfl rfl ⟨rfl, Or.inl rfl⟩
  · refine ct_zrun C (k' := 9) (y := ([(2, .inl (h.1 (G.1 o 0) 5)), (0, .inr (.inr (6, o))), (1, .inl a1)], [], h)) 4 rfl rfl rfl ?_
    refine ct_zlet (L := fun v2 => [(2, .inl v2), (0, .inr (.inr (6, o))), (1, .inl a1)]) (S := fun _ => []) (Hh := fun _ => h) (a := (h.1 (G.1 o 0) 5)) (fun v2 => ?_)
    refine ct_zrun C (k' := 12) (y := ([(2, .inl v2), (0, .inr (.inr (6, o))), (1, .inl a1)], [.inl a1, .inr (.inr (0, (G.1 o 0)))], h)) 3 rfl rfl rfl ?_
    refine ct_zV C (pc := 22) (aux := 0) [.inl a1] [] ok_X0_putKind lk_X6_125 (e_X0_putKind (G.1 o 0) a1) rfl rfl rfl rfl rfl rfl rfl rfl (fun r3 => ?_)
    refine ct_zrun C (k' := 14) (y := ([(2, .inl v2), (0, .inr (.inr (6, o))), (1, .inl a1)], [.inl v2], r3)) 1 rfl rfl rfl ?_
    exact ct_zret C (pc := 26) (aux := 0) (ins := .ireturn) (ρ := (fun r : Int × ct_H => (some (.inl (r.1) : ct_PV), r.2))) (some (.inl v2)) rfl rfl rfl ⟨rfl, Or.inl rfl⟩
def f_X6_feed (G : ct_G) (h : ct_H) (o : Nat) (a1 : Int) : Option (Int × ct_H) := if a1 < 0 then (some ((-2), h)) else if a1 ≤ 127 then ((f_X5_isFull G h (G.1 o 10)).bind fun v1 => if v1 = 0 then ((f_X5_append G h (G.1 o 10) a1).bind fun r2 => some ((r2.1 (G.1 o 10) 1), r2)) else some ((-4), h)) else some ((-2), h)
set_option maxRecDepth 100000 in
theorem e_X6_feed {d : Nat} {G : ct_G} {h : ct_H} (o : Nat) (a1 : Int) : ct_E m_X6_feed (d + 1) G (ct_args 0 [.inr (.inr (6, o)), .inl a1]) h (fun r : Int × ct_H => (some (.inl (r.1) : ct_PV), r.2)) (f_X6_feed G h o a1) := by
  intro x C
  unfold f_X6_feed
  show ct_Z x m_X6_feed G 0 [(0, .inr (.inr (6, o))), (1, .inl a1)] [] h (fun a => ct_q x G ((fun r : Int × ct_H => (some (.inl (r.1) : ct_PV), r.2)) a)) _
  refine ct_zrun C (k' := 1) (y := ([(0, .inr (.inr (6, o))), (1, .inl a1)], [.inl a1], h)) 1 rfl rfl rfl ?_
  refine ct_zt0 C (pc := 1) (aux := 0) (cn := .lt) (off := 9) (k' := 5) (a := a1) Iff.rfl rfl rfl rfl (fun e5 => ?_) (fun e5 => ?_)
  · refine ct_zrun C (k' := 6) (y := ([(0, .inr (.inr (6, o))), (1, .inl a1)], [.inl (-2)], h)) 1 rfl rfl rfl ?_
    exact ct_zret C (pc := 12) (aux := 0) (ins := .ireturn) (ρ := (fun r : Int × ct_H => (some (.inl (r.1) : ct_PV), r.2))) (some (.inl (-2))) rfl rfl rfl ⟨rfl, Or.inl rfl⟩
  · refine ct_zrun C (k' := 4) (y := ([(0, .inr (.inr (6, o))), (1, .inl a1)], [.inl 127, .inl a1], h)) 2 rfl rfl rfl ?_
    refine ct_zt C (pc := 7) (aux := 0) (cn := .le) (off := 6) (k' := 7) (a := a1) (b := 127) Iff.rfl rfl rfl rfl (fun e4 => ?_) (fun e4 => ?_)
    · refine ct_zrun C (k' := 9) (y := ([(0, .inr (.inr (6, o))), (1, .inl a1)], [.inr (.inr (5, (G.1 o 10)))], h)) 2 rfl rfl rfl ?_
      refine ct_zV C (pc := 17) (aux := 0) [] [] ok_X5_isFull lk_X6_128 (e_X5_isFull (G.1 o 10)) rfl rfl rfl rfl rfl rfl rfl rfl (fun v1 => ?_)
      refine ct_zt0 C (pc := 20) (aux := 0) (cn := .eq) (off := 6) (k' := 13) (a := v1) Iff.rfl rfl rfl rfl (fun e3 => ?_) (fun e3 => ?_)
      · refine ct_zrun C (k' := 16) (y := ([(0, .inr (.inr (6, o))), (1, .inl a1)], [.inl a1, .inr (.inr (5, (G.1 o 10)))], h)) 3 rfl rfl rfl ?_
        refine ct_zV C (pc := 31) (aux := 0) [.inl a1] [] ok_X5_append lk_X6_132 (e_X5_append (G.1 o 10) a1) rfl rfl rfl rfl rfl rfl rfl rfl (fun r2 => ?_)
        refine ct_zrun C (k' := 20) (y := ([(0, .inr (.inr (6, o))), (1, .inl a1)], [.inl (r2.1 (G.1 o 10) 1)], r2)) 3 rfl rfl rfl ?_
        exact ct_zret C (pc := 41) (aux := 0) (ins := .ireturn) (ρ := (fun r : Int × ct_H => (some (.inl (r.1) : ct_PV), r.2))) (some (.inl (r2.1 (G.1 o 10) 1))) rfl rfl rfl ⟨rfl, Or.inl rfl⟩
      · refine ct_zrun C (k' := 12) (y := ([(0, .inr (.inr (6, o))), (1, .inl a1)], [.inl (-4)], h)) 1 rfl rfl rfl ?_
        exact ct_zret C (pc := 25) (aux := 0) (ins := .ireturn) (ρ := (fun r : Int × ct_H => (some (.inl (r.1) : ct_PV), r.2))) (some (.inl (-4))) rfl rfl rfl ⟨rfl, Or.inl rfl⟩
    · refine ct_zrun C (k' := 6) (y := ([(0, .inr (.inr (6, o))), (1, .inl a1)], [.inl (-2)], h)) 1 rfl rfl rfl ?_
      exact ct_zret C (pc := 12) (aux := 0) (ins := .ireturn) (ρ := (fun r : Int × ct_H => (some (.inl (r.1) : ct_PV), r.2))) (some (.inl (-2))) rfl rfl rfl ⟨rfl, Or.inl rfl⟩
def f_X6_perform (G : ct_G) (h : ct_H) (o : Nat) (a1 : Int) : Option (Int × ct_H) := (f_X5_numberOf G h (G.1 o 10) a1 0).bind fun v1 => (f_X5_numberOf G h (G.1 o 10) a1 1).bind fun v2 => (f_X5_numberOf G h (G.1 o 10) a1 2).bind fun v3 => (f_X5_wordOf G h (G.1 o 10) a1).bind fun v4 => if v4 = 0 then ((f_X6_size G h o v1 v2).bind fun r5 => if r5.1 < 0 then (some (0, r5.2)) else some (1, r5.2)) else if v4 = 1 then ((f_X6_height G h o v1 v2).bind fun r8 => if r8.1 < 0 then (some (0, r8.2)) else some (1, r8.2)) else if v4 = 2 then ((f_X0_fillUp G h (G.1 o 0) v1 v2 v3).bind fun r11 => (ct_bz (r11.1)).bind fun _ => some (r11.1, r11.2)) else if v4 = 3 then ((f_X0_heapUp G h (G.1 o 0) v1 v2 v3).bind fun r14 => (ct_bz (r14.1)).bind fun _ => some (r14.1, r14.2)) else if v4 = 4 then ((f_X6_rule G h o v1).bind fun r17 => if r17.1 < 0 then (some (0, r17.2)) else some (1, r17.2)) else (f_X0_turnOver G h (G.1 o 0)).bind fun r20 => some (1, r20)
set_option maxRecDepth 100000 in
theorem e_X6_perform {d : Nat} {G : ct_G} {h : ct_H} (o : Nat) (a1 : Int) : ct_E m_X6_perform (d + 4) G (ct_args 0 [.inr (.inr (6, o)), .inl a1]) h (fun r : Int × ct_H => (some (.inl (r.1) : ct_PV), r.2)) (f_X6_perform G h o a1) := by
  intro x C
  unfold f_X6_perform
  show ct_Z x m_X6_perform G 0 [(0, .inr (.inr (6, o))), (1, .inl a1)] [] h (fun a => ct_q x G ((fun r : Int × ct_H => (some (.inl (r.1) : ct_PV), r.2)) a)) _
  refine ct_zrun C (k' := 4) (y := ([(0, .inr (.inr (6, o))), (1, .inl a1)], [.inl 0, .inl a1, .inr (.inr (5, (G.1 o 10)))], h)) 4 rfl rfl rfl ?_
  refine ct_zV C (pc := 6) (aux := 0) [.inl a1, .inl 0] [] ok_X5_numberOf lk_X6_148 (e_X5_numberOf (G.1 o 10) a1 0) rfl rfl rfl rfl rfl rfl rfl rfl (fun v1 => ?_)
  refine ct_zrun C (k' := 10) (y := ([(2, .inl v1), (0, .inr (.inr (6, o))), (1, .inl a1)], [.inl 1, .inl a1, .inr (.inr (5, (G.1 o 10)))], h)) 5 rfl rfl rfl ?_
  refine ct_zV C (pc := 16) (aux := 0) [.inl a1, .inl 1] [] ok_X5_numberOf lk_X6_148 (e_X5_numberOf (G.1 o 10) a1 1) rfl rfl rfl rfl rfl rfl rfl rfl (fun v2 => ?_)
  refine ct_zrun C (k' := 16) (y := ([(3, .inl v2), (2, .inl v1), (0, .inr (.inr (6, o))), (1, .inl a1)], [.inl 2, .inl a1, .inr (.inr (5, (G.1 o 10)))], h)) 5 rfl rfl rfl ?_
  refine ct_zV C (pc := 26) (aux := 0) [.inl a1, .inl 2] [] ok_X5_numberOf lk_X6_148 (e_X5_numberOf (G.1 o 10) a1 2) rfl rfl rfl rfl rfl rfl rfl rfl (fun v3 => ?_)
  refine ct_zrun C (k' := 21) (y := ([(4, .inl v3), (3, .inl v2), (2, .inl v1), (0, .inr (.inr (6, o))), (1, .inl a1)], [.inl a1, .inr (.inr (5, (G.1 o 10)))], h)) 4 rfl rfl rfl ?_
  refine ct_zV C (pc := 36) (aux := 0) [.inl a1] [] ok_X5_wordOf lk_X6_152 (e_X5_wordOf (G.1 o 10) a1) rfl rfl rfl rfl rfl rfl rfl rfl (fun v4 => ?_)
  refine ct_zsplit (fun e7 => ?_) (fun e7 => ?_)
  · refine ct_zsw C (off := 33) (k' := 23) rfl (by rw [e7]; rfl) rfl ?_
    refine ct_zrun C (k' := 26) (y := ([(4, .inl v3), (3, .inl v2), (2, .inl v1), (0, .inr (.inr (6, o))), (1, .inl a1)], [.inl v2, .inl v1, .inr (.inr (6, o))], h)) 3 rfl rfl rfl ?_
    refine ct_zV C (pc := 75) (aux := 0) [.inl v1, .inl v2] [] ok_X6_size lk_X6_155 (e_X6_size o v1 v2) rfl rfl rfl rfl rfl rfl rfl rfl (fun r5 => ?_)
    refine ct_zt0 C (pc := 78) (aux := 0) (cn := .lt) (off := 7) (k' := 30) (a := r5.1) Iff.rfl rfl rfl rfl (fun e6 => ?_) (fun e6 => ?_)
    · refine ct_zrun C (k' := 31) (y := ([(4, .inl v3), (3, .inl v2), (2, .inl v1), (0, .inr (.inr (6, o))), (1, .inl a1)], [.inl 0], r5.2)) 1 rfl rfl rfl ?_
      exact ct_zret C (pc := 86) (aux := 0) (ins := .ireturn) (ρ := (fun r : Int × ct_H => (some (.inl (r.1) : ct_PV), r.2))) (some (.inl 0)) rfl rfl rfl ⟨rfl, Or.inr ⟨rfl, Or.inl rfl⟩⟩
    · refine ct_zrun C (k' := 29) (y := ([(4, .inl v3), (3, .inl v2), (2, .inl v1), (0, .inr (.inr (6, o))), (1, .inl a1)], [.inl 1], r5.2)) 1 rfl rfl rfl ?_
      refine ct_zgoto C (pc := 82) (aux := 0) (off := 4) (k' := 31) rfl rfl ?_
      exact ct_zret C (pc := 86) (aux := 0) (ins := .ireturn) (ρ := (fun r : Int × ct_H => (some (.inl (r.1) : ct_PV), r.2))) (some (.inl 1)) rfl rfl rfl ⟨rfl, Or.inr ⟨rfl, Or.inr rfl⟩⟩
  · refine ct_zsplit (fun e10 => ?_) (fun e10 => ?_)
    · refine ct_zsw C (off := 48) (k' := 32) rfl (by rw [e10]; rfl) rfl ?_
      refine ct_zrun C (k' := 35) (y := ([(4, .inl v3), (3, .inl v2), (2, .inl v1), (0, .inr (.inr (6, o))), (1, .inl a1)], [.inl v2, .inl v1, .inr (.inr (6, o))], h)) 3 rfl rfl rfl ?_
      refine ct_zV C (pc := 90) (aux := 0) [.inl v1, .inl v2] [] ok_X6_height lk_X6_158 (e_X6_height o v1 v2) rfl rfl rfl rfl rfl rfl rfl rfl (fun r8 => ?_)
      refine ct_zt0 C (pc := 93) (aux := 0) (cn := .lt) (off := 7) (k' := 39) (a := r8.1) Iff.rfl rfl rfl rfl (fun e9 => ?_) (fun e9 => ?_)
      · refine ct_zrun C (k' := 40) (y := ([(4, .inl v3), (3, .inl v2), (2, .inl v1), (0, .inr (.inr (6, o))), (1, .inl a1)], [.inl 0], r8.2)) 1 rfl rfl rfl ?_
        exact ct_zret C (pc := 101) (aux := 0) (ins := .ireturn) (ρ := (fun r : Int × ct_H => (some (.inl (r.1) : ct_PV), r.2))) (some (.inl 0)) rfl rfl rfl ⟨rfl, Or.inr ⟨rfl, Or.inl rfl⟩⟩
      · refine ct_zrun C (k' := 38) (y := ([(4, .inl v3), (3, .inl v2), (2, .inl v1), (0, .inr (.inr (6, o))), (1, .inl a1)], [.inl 1], r8.2)) 1 rfl rfl rfl ?_
        refine ct_zgoto C (pc := 97) (aux := 0) (off := 4) (k' := 40) rfl rfl ?_
        exact ct_zret C (pc := 101) (aux := 0) (ins := .ireturn) (ρ := (fun r : Int × ct_H => (some (.inl (r.1) : ct_PV), r.2))) (some (.inl 1)) rfl rfl rfl ⟨rfl, Or.inr ⟨rfl, Or.inr rfl⟩⟩
    · refine ct_zsplit (fun e13 => ?_) (fun e13 => ?_)
      · refine ct_zsw C (off := 63) (k' := 41) rfl (by rw [e13]; rfl) rfl ?_
        refine ct_zrun C (k' := 46) (y := ([(4, .inl v3), (3, .inl v2), (2, .inl v1), (0, .inr (.inr (6, o))), (1, .inl a1)], [.inl v3, .inl v2, .inl v1, .inr (.inr (0, (G.1 o 0)))], h)) 5 rfl rfl rfl ?_
        refine ct_zV C (pc := 110) (aux := 0) [.inl v1, .inl v2, .inl v3] [] ok_X0_fillUp lk_X6_161 (e_X0_fillUp (G.1 o 0) v1 v2 v3) rfl rfl rfl rfl rfl rfl rfl rfl (fun r11 => ?_)
        refine ct_zbz (F := fun _ => some (r11.1, r11.2)) (fun z12 => ?_)
        exact ct_zret C (pc := 113) (aux := 0) (ins := .ireturn) (ρ := (fun r : Int × ct_H => (some (.inl (r.1) : ct_PV), r.2))) (some (.inl (r11.1))) rfl rfl rfl ⟨rfl, Or.inr ⟨rfl, z12⟩⟩
      · refine ct_zsplit (fun e16 => ?_) (fun e16 => ?_)
        · refine ct_zsw C (off := 75) (k' := 48) rfl (by rw [e16]; rfl) rfl ?_
          refine ct_zrun C (k' := 53) (y := ([(4, .inl v3), (3, .inl v2), (2, .inl v1), (0, .inr (.inr (6, o))), (1, .inl a1)], [.inl v3, .inl v2, .inl v1, .inr (.inr (0, (G.1 o 0)))], h)) 5 rfl rfl rfl ?_
          refine ct_zV C (pc := 122) (aux := 0) [.inl v1, .inl v2, .inl v3] [] ok_X0_heapUp lk_X6_165 (e_X0_heapUp (G.1 o 0) v1 v2 v3) rfl rfl rfl rfl rfl rfl rfl rfl (fun r14 => ?_)
          refine ct_zbz (F := fun _ => some (r14.1, r14.2)) (fun z15 => ?_)
          exact ct_zret C (pc := 125) (aux := 0) (ins := .ireturn) (ρ := (fun r : Int × ct_H => (some (.inl (r.1) : ct_PV), r.2))) (some (.inl (r14.1))) rfl rfl rfl ⟨rfl, Or.inr ⟨rfl, z15⟩⟩
        · refine ct_zsplit (fun e19 => ?_) (fun e19 => ?_)
          · refine ct_zsw C (off := 87) (k' := 55) rfl (by rw [e19]; rfl) rfl ?_
            refine ct_zrun C (k' := 57) (y := ([(4, .inl v3), (3, .inl v2), (2, .inl v1), (0, .inr (.inr (6, o))), (1, .inl a1)], [.inl v1, .inr (.inr (6, o))], h)) 2 rfl rfl rfl ?_
            refine ct_zV C (pc := 128) (aux := 0) [.inl v1] [] ok_X6_rule lk_X6_168 (e_X6_rule o v1) rfl rfl rfl rfl rfl rfl rfl rfl (fun r17 => ?_)
            refine ct_zt0 C (pc := 131) (aux := 0) (cn := .lt) (off := 7) (k' := 61) (a := r17.1) Iff.rfl rfl rfl rfl (fun e18 => ?_) (fun e18 => ?_)
            · refine ct_zrun C (k' := 62) (y := ([(4, .inl v3), (3, .inl v2), (2, .inl v1), (0, .inr (.inr (6, o))), (1, .inl a1)], [.inl 0], r17.2)) 1 rfl rfl rfl ?_
              exact ct_zret C (pc := 139) (aux := 0) (ins := .ireturn) (ρ := (fun r : Int × ct_H => (some (.inl (r.1) : ct_PV), r.2))) (some (.inl 0)) rfl rfl rfl ⟨rfl, Or.inr ⟨rfl, Or.inl rfl⟩⟩
            · refine ct_zrun C (k' := 60) (y := ([(4, .inl v3), (3, .inl v2), (2, .inl v1), (0, .inr (.inr (6, o))), (1, .inl a1)], [.inl 1], r17.2)) 1 rfl rfl rfl ?_
              refine ct_zgoto C (pc := 135) (aux := 0) (off := 4) (k' := 62) rfl rfl ?_
              exact ct_zret C (pc := 139) (aux := 0) (ins := .ireturn) (ρ := (fun r : Int × ct_H => (some (.inl (r.1) : ct_PV), r.2))) (some (.inl 1)) rfl rfl rfl ⟨rfl, Or.inr ⟨rfl, Or.inr rfl⟩⟩
          · refine ct_zsw C (off := 101) (k' := 63) rfl (by show (if _ then _ else _) = _; rw [if_pos (by omega)]) rfl ?_
            refine ct_zrun C (k' := 65) (y := ([(4, .inl v3), (3, .inl v2), (2, .inl v1), (0, .inr (.inr (6, o))), (1, .inl a1)], [.inr (.inr (0, (G.1 o 0)))], h)) 2 rfl rfl rfl ?_
            refine ct_zV C (pc := 144) (aux := 0) [] [] ok_X0_turnOver lk_X6_171 (e_X0_turnOver (G.1 o 0)) rfl rfl rfl rfl rfl rfl rfl rfl (fun r20 => ?_)
            refine ct_zrun C (k' := 67) (y := ([(4, .inl v3), (3, .inl v2), (2, .inl v1), (0, .inr (.inr (6, o))), (1, .inl a1)], [.inl 1], r20)) 1 rfl rfl rfl ?_
            exact ct_zret C (pc := 148) (aux := 0) (ins := .ireturn) (ρ := (fun r : Int × ct_H => (some (.inl (r.1) : ct_PV), r.2))) (some (.inl 1)) rfl rfl rfl ⟨rfl, Or.inr ⟨rfl, Or.inr rfl⟩⟩
def f_X6_of (G : ct_G) (h : ct_H) (o : Nat) (a1 : Int) : Option (Int) := (f_X0_isPoint G h (G.1 o 0) a1).bind fun v1 => if v1 = 0 then (some (-1)) else (f_X0_heightOf G h (G.1 o 0) a1).bind fun v2 => some v2
set_option maxRecDepth 100000 in
theorem e_X6_of {d : Nat} {G : ct_G} {h : ct_H} (o : Nat) (a1 : Int) : ct_E m_X6_of (d + 2) G (ct_args 0 [.inr (.inr (6, o)), .inl a1]) h (fun r : Int => (some (.inl r : ct_PV), h)) (f_X6_of G h o a1) := by
  intro x C
  unfold f_X6_of
  show ct_Z x m_X6_of G 0 [(0, .inr (.inr (6, o))), (1, .inl a1)] [] h (fun a => ct_q x G ((fun r : Int => (some (.inl r : ct_PV), h)) a)) _
  refine ct_zrun C (k' := 3) (y := ([(0, .inr (.inr (6, o))), (1, .inl a1)], [.inl a1, .inr (.inr (0, (G.1 o 0)))], h)) 3 rfl rfl rfl ?_
  refine ct_zV C (pc := 5) (aux := 0) [.inl a1] [] ok_X0_isPoint lk_X6_106 (e_X0_isPoint (G.1 o 0) a1) rfl rfl rfl rfl rfl rfl rfl rfl (fun v1 => ?_)
  refine ct_zt0 C (pc := 8) (aux := 0) (cn := .eq) (off := 14) (k' := 10) (a := v1) Iff.rfl rfl rfl rfl (fun e3 => ?_) (fun e3 => ?_)
  · refine ct_zrun C (k' := 11) (y := ([(0, .inr (.inr (6, o))), (1, .inl a1)], [.inl (-1)], h)) 1 rfl rfl rfl ?_
    exact ct_zret C (pc := 23) (aux := 0) (ins := .ireturn) (ρ := (fun r : Int => (some (.inl r : ct_PV), h))) (some (.inl (-1))) rfl rfl rfl ⟨rfl, Or.inl rfl⟩
  · refine ct_zrun C (k' := 8) (y := ([(0, .inr (.inr (6, o))), (1, .inl a1)], [.inl a1, .inr (.inr (0, (G.1 o 0)))], h)) 3 rfl rfl rfl ?_
    refine ct_zV C (pc := 16) (aux := 0) [.inl a1] [] ok_X0_heightOf lk_X6_112 (e_X0_heightOf (G.1 o 0) a1) rfl rfl rfl rfl rfl rfl rfl rfl (fun v2 => ?_)
    refine ct_zgoto C (pc := 19) (aux := 0) (off := 4) (k' := 11) rfl rfl ?_
    exact ct_zret C (pc := 23) (aux := 0) (ins := .ireturn) (ρ := (fun r : Int => (some (.inl r : ct_PV), h))) (some (.inl v2)) rfl rfl rfl ⟨rfl, Or.inl rfl⟩
def f_X6_isLevel (G : ct_G) (h : ct_H) (a0 : Int) : Option (Int) := if a0 < 0 then (some 0) else if 100 ≤ a0 then (some 0) else some 1
set_option maxRecDepth 100000 in
theorem e_X6_isLevel {d : Nat} {G : ct_G} {h : ct_H} (a0 : Int) : ct_E m_X6_isLevel d G (ct_args 0 [.inl a0]) h (fun r : Int => (some (.inl r : ct_PV), h)) (f_X6_isLevel G h a0) := by
  intro x C
  unfold f_X6_isLevel
  show ct_Z x m_X6_isLevel G 0 [(0, .inl a0)] [] h (fun a => ct_q x G ((fun r : Int => (some (.inl r : ct_PV), h)) a)) _
  refine ct_zrun C (k' := 1) (y := ([(0, .inl a0)], [.inl a0], h)) 1 rfl rfl rfl ?_
  refine ct_zt0 C (pc := 1) (aux := 0) (cn := .lt) (off := 13) (k' := 7) (a := a0) Iff.rfl rfl rfl rfl (fun e2 => ?_) (fun e2 => ?_)
  · refine ct_zrun C (k' := 8) (y := ([(0, .inl a0)], [.inl 0], h)) 1 rfl rfl rfl ?_
    exact ct_zret C (pc := 15) (aux := 0) (ins := .ireturn) (ρ := (fun r : Int => (some (.inl r : ct_PV), h))) (some (.inl 0)) rfl rfl rfl ⟨rfl, Or.inr ⟨rfl, Or.inl rfl⟩⟩
  · refine ct_zrun C (k' := 4) (y := ([(0, .inl a0)], [.inl 100, .inl a0], h)) 2 rfl rfl rfl ?_
    refine ct_zt C (pc := 7) (aux := 0) (cn := .ge) (off := 7) (k' := 7) (a := a0) (b := 100) Iff.rfl rfl rfl rfl (fun e1 => ?_) (fun e1 => ?_)
    · refine ct_zrun C (k' := 8) (y := ([(0, .inl a0)], [.inl 0], h)) 1 rfl rfl rfl ?_
      exact ct_zret C (pc := 15) (aux := 0) (ins := .ireturn) (ρ := (fun r : Int => (some (.inl r : ct_PV), h))) (some (.inl 0)) rfl rfl rfl ⟨rfl, Or.inr ⟨rfl, Or.inl rfl⟩⟩
    · refine ct_zrun C (k' := 6) (y := ([(0, .inl a0)], [.inl 1], h)) 1 rfl rfl rfl ?_
      refine ct_zgoto C (pc := 11) (aux := 0) (off := 4) (k' := 8) rfl rfl ?_
      exact ct_zret C (pc := 15) (aux := 0) (ins := .ireturn) (ρ := (fun r : Int => (some (.inl r : ct_PV), h))) (some (.inl 1)) rfl rfl rfl ⟨rfl, Or.inr ⟨rfl, Or.inr rfl⟩⟩
def l_X6_halfLevel_9 (G : ct_G) (o : Nat) (h : ct_H) (v1 : Int) : Nat → (Int × Int) → Option (Int)
  | 0, _ => none
  | n3 + 1, b2 => if b2.2 ≤ 0 then (some (b2.1)) else (f_X6_isLevel G h (ct_wr (b2.1 + b2.2))).bind fun v4 => ct_jn (β := Int) (fun k6 => if v4 = 0 then (k6 (b2.1)) else (f_X0_volume G h (G.1 o 0) (ct_wr (b2.1 + b2.2))).bind fun v9 => if (ct_wr (2 * v9)) < v1 then (k6 (b2.1)) else ct_lt (ct_wr (b2.1 + b2.2)) fun v10 => k6 v10) (fun b5 => (ct_dv b2.2 2).bind fun v8 => l_X6_halfLevel_9 G o h v1 n3 (b5, v8))
set_option maxRecDepth 100000 in
theorem zl_X6_halfLevel_9 {x : ct_Ctx} {d : Nat} {G : ct_G} (C : ct_c x m_X6_halfLevel G (d + 3)) (o : Nat) (h : ct_H) (v1 : Int) : ∀ (n3 : Nat) (b2 : Int × Int), ct_Z x m_X6_halfLevel G 9 [(0, .inr (.inr (6, o))), (1, .inl v1), (2, .inl (b2.1)), (3, .inl (b2.2))] [] h (fun a => ct_q x G ((fun r : Int => (some (.inl r : ct_PV), h)) a)) (l_X6_halfLevel_9 G o h v1 n3 b2) := by
  intro n3
  induction n3 with
  | zero => intro b2; exact ct_znone
  | succ n3 ih =>
    intro b2
    rw [l_X6_halfLevel_9]
    refine ct_zrun C (k' := 10) (y := ([(0, .inr (.inr (6, o))), (1, .inl v1), (2, .inl (b2.1)), (3, .inl (b2.2))], [.inl (b2.2)], h)) 1 rfl rfl rfl ?_
    refine ct_zt0 C (pc := 15) (aux := 0) (cn := .le) (off := 39) (k' := 35) (a := b2.2) Iff.rfl rfl rfl rfl (fun e13 => ?_) (fun e13 => ?_)
    · refine ct_zrun C (k' := 36) (y := ([(0, .inr (.inr (6, o))), (1, .inl v1), (2, .inl (b2.1)), (3, .inl (b2.2))], [.inl (b2.1)], h)) 1 rfl rfl rfl ?_
      exact ct_zret C (pc := 55) (aux := 0) (ins := .ireturn) (ρ := (fun r : Int => (some (.inl r : ct_PV), h))) (some (.inl (b2.1))) rfl rfl rfl ⟨rfl, Or.inl rfl⟩
    · refine ct_zrun C (k' := 14) (y := ([(0, .inr (.inr (6, o))), (1, .inl v1), (2, .inl (b2.1)), (3, .inl (b2.2))], [.inl (ct_wr (b2.1 + b2.2))], h)) 3 rfl rfl rfl ?_
      refine ct_zS C (pc := 21) (aux := 0) [.inl (ct_wr (b2.1 + b2.2))] [] ok_X6_isLevel lk_X6_196 (e_X6_isLevel (ct_wr (b2.1 + b2.2))) rfl rfl rfl rfl rfl rfl (fun v4 => ?_)
      refine ct_zjn (β := Int) (kJ := 30) (L := fun b5 => [(0, .inr (.inr (6, o))), (1, .inl v1), (2, .inl b5), (3, .inl (b2.2))]) (S := fun b5 => []) (Hh := fun b5 => h) (fun b5 => ?_) (fun k6 z7 => ?_)
      · refine ct_zrun C (k' := 32) (y := ([(0, .inr (.inr (6, o))), (1, .inl v1), (2, .inl b5), (3, .inl (b2.2))], [.inl 2, .inl (b2.2)], h)) 2 rfl rfl rfl ?_
        refine ct_zdv C (pc := 49) (aux := 0) rfl rfl (fun v8 => ?_)
        refine ct_zrun C (k' := 34) (y := ([(3, .inl v8), (0, .inr (.inr (6, o))), (1, .inl v1), (2, .inl b5)], [], h)) 1 rfl rfl rfl ?_
        refine ct_zgoto C (pc := 51) (aux := 0) (off := (-37)) (k' := 9) rfl rfl ?_
        exact ct_zsub [1, 2, 3, 0] rfl (ih (b5, v8))
      · refine ct_zt0 C (pc := 24) (aux := 0) (cn := .eq) (off := 23) (k' := 30) (a := v4) Iff.rfl rfl rfl rfl (fun e12 => ?_) (fun e12 => ?_)
        · exact ct_zsub [0, 1, 2, 3] rfl (z7 (b2.1))
        · refine ct_zrun C (k' := 22) (y := ([(0, .inr (.inr (6, o))), (1, .inl v1), (2, .inl (b2.1)), (3, .inl (b2.2))], [.inl (ct_wr (b2.1 + b2.2)), .inr (.inr (0, (G.1 o 0))), .inl 2], h)) 6 rfl rfl rfl ?_
          refine ct_zV C (pc := 35) (aux := 0) [.inl (ct_wr (b2.1 + b2.2))] [.inl 2] ok_X0_volume lk_X6_193 (e_X0_volume (G.1 o 0) (ct_wr (b2.1 + b2.2))) rfl rfl rfl rfl rfl rfl rfl rfl (fun v9 => ?_)
          refine ct_zrun C (k' := 25) (y := ([(0, .inr (.inr (6, o))), (1, .inl v1), (2, .inl (b2.1)), (3, .inl (b2.2))], [.inl v1, .inl (ct_wr (2 * v9))], h)) 2 rfl rfl rfl ?_
          refine ct_zt C (pc := 40) (aux := 0) (cn := .lt) (off := 7) (k' := 30) (a := (ct_wr (2 * v9))) (b := v1) Iff.rfl rfl rfl rfl (fun e11 => ?_) (fun e11 => ?_)
          · exact ct_zsub [0, 1, 2, 3] rfl (z7 (b2.1))
          · refine ct_zrun C (k' := 30) (y := ([(2, .inl (ct_wr (b2.1 + b2.2))), (0, .inr (.inr (6, o))), (1, .inl v1), (3, .inl (b2.2))], [], h)) 4 rfl rfl rfl ?_
            refine ct_zlet (L := fun v10 => [(2, .inl v10), (0, .inr (.inr (6, o))), (1, .inl v1), (3, .inl (b2.2))]) (S := fun _ => []) (Hh := fun _ => h) (a := (ct_wr (b2.1 + b2.2))) (fun v10 => ?_)
            exact ct_zsub [1, 2, 0, 3] rfl (z7 v10)
def f_X6_halfLevel (G : ct_G) (h : ct_H) (o : Nat) : Option (Int) := (f_X0_volume G h (G.1 o 0) 0).bind fun v1 => l_X6_halfLevel_9 G o h v1 200 (0, 64)
set_option maxRecDepth 100000 in
theorem e_X6_halfLevel {d : Nat} {G : ct_G} {h : ct_H} (o : Nat) : ct_E m_X6_halfLevel (d + 3) G (ct_args 0 [.inr (.inr (6, o))]) h (fun r : Int => (some (.inl r : ct_PV), h)) (f_X6_halfLevel G h o) := by
  intro x C
  unfold f_X6_halfLevel
  show ct_Z x m_X6_halfLevel G 0 [(0, .inr (.inr (6, o)))] [] h (fun a => ct_q x G ((fun r : Int => (some (.inl r : ct_PV), h)) a)) _
  refine ct_zrun C (k' := 3) (y := ([(0, .inr (.inr (6, o)))], [.inl 0, .inr (.inr (0, (G.1 o 0)))], h)) 3 rfl rfl rfl ?_
  refine ct_zV C (pc := 5) (aux := 0) [.inl 0] [] ok_X0_volume lk_X6_193 (e_X0_volume (G.1 o 0) 0) rfl rfl rfl rfl rfl rfl rfl rfl (fun v1 => ?_)
  refine ct_zrun C (k' := 9) (y := ([(3, .inl 64), (2, .inl 0), (1, .inl v1), (0, .inr (.inr (6, o)))], [], h)) 5 rfl rfl rfl ?_
  exact ct_zsub [3, 2, 1, 0] rfl (zl_X6_halfLevel_9 C o h v1 200 (0, 64))
def f_X6_told (G : ct_G) (h : ct_H) (o : Nat) (a1 : Int) : Option (Int × ct_H) := if a1 = 0 then (some ((h.1 (G.1 o 0) 1), h)) else if a1 = 1 then (some ((h.1 (G.1 o 0) 2), h)) else if a1 = 2 then (some ((h.1 (G.1 o 0) 5), h)) else if a1 = 3 then ((f_X0_greatest G h (G.1 o 0)).bind fun v4 => some (v4, h)) else if a1 = 4 then ((f_X0_greatest G h (G.1 o 0)).bind fun v6 => (f_X0_firstOf G h (G.1 o 0) v6).bind fun v7 => some (v7, h)) else if a1 = 5 then ((f_X6_halfLevel G h o).bind fun v9 => some (v9, h)) else if a1 = 6 then ((f_X2_countLevels G h (G.1 o 1)).bind fun r11 => (f_X2_busiest G r11 (G.1 o 1)).bind fun v12 => some (v12, r11)) else if a1 = 7 then ((f_X2_countLevels G h (G.1 o 1)).bind fun r14 => (f_X2_busiest G r14 (G.1 o 1)).bind fun v15 => (ct_rd G r14 (G.1 (G.1 o 1) 4) v15).bind fun v16 => some (v16, r14)) else some ((-1), h)
set_option maxRecDepth 100000 in
theorem e_X6_told {d : Nat} {G : ct_G} {h : ct_H} (o : Nat) (a1 : Int) : ct_E m_X6_told (d + 6) G (ct_args 0 [.inr (.inr (6, o)), .inl a1]) h (fun r : Int × ct_H => (some (.inl (r.1) : ct_PV), r.2)) (f_X6_told G h o a1) := by
  intro x C
  unfold f_X6_told
  show ct_Z x m_X6_told G 0 [(0, .inr (.inr (6, o))), (1, .inl a1)] [] h (fun a => ct_q x G ((fun r : Int × ct_H => (some (.inl (r.1) : ct_PV), r.2)) a)) _
  refine ct_zrun C (k' := 1) (y := ([(0, .inr (.inr (6, o))), (1, .inl a1)], [.inl a1], h)) 1 rfl rfl rfl ?_
  refine ct_zsplit (fun e1 => ?_) (fun e1 => ?_)
  · refine ct_zsw C (off := 47) (k' := 2) rfl (by rw [e1]; rfl) rfl ?_
    refine ct_zrun C (k' := 5) (y := ([(0, .inr (.inr (6, o))), (1, .inl a1)], [.inl (h.1 (G.1 o 0) 1)], h)) 3 rfl rfl rfl ?_
    exact ct_zret C (pc := 55) (aux := 0) (ins := .ireturn) (ρ := (fun r : Int × ct_H => (some (.inl (r.1) : ct_PV), r.2))) (some (.inl (h.1 (G.1 o 0) 1))) rfl rfl rfl ⟨rfl, Or.inl rfl⟩
  · refine ct_zsplit (fun e2 => ?_) (fun e2 => ?_)
    · refine ct_zsw C (off := 55) (k' := 6) rfl (by rw [e2]; rfl) rfl ?_
      refine ct_zrun C (k' := 9) (y := ([(0, .inr (.inr (6, o))), (1, .inl a1)], [.inl (h.1 (G.1 o 0) 2)], h)) 3 rfl rfl rfl ?_
      exact ct_zret C (pc := 63) (aux := 0) (ins := .ireturn) (ρ := (fun r : Int × ct_H => (some (.inl (r.1) : ct_PV), r.2))) (some (.inl (h.1 (G.1 o 0) 2))) rfl rfl rfl ⟨rfl, Or.inl rfl⟩
    · refine ct_zsplit (fun e3 => ?_) (fun e3 => ?_)
      · refine ct_zsw C (off := 63) (k' := 10) rfl (by rw [e3]; rfl) rfl ?_
        refine ct_zrun C (k' := 13) (y := ([(0, .inr (.inr (6, o))), (1, .inl a1)], [.inl (h.1 (G.1 o 0) 5)], h)) 3 rfl rfl rfl ?_
        exact ct_zret C (pc := 71) (aux := 0) (ins := .ireturn) (ρ := (fun r : Int × ct_H => (some (.inl (r.1) : ct_PV), r.2))) (some (.inl (h.1 (G.1 o 0) 5))) rfl rfl rfl ⟨rfl, Or.inl rfl⟩
      · refine ct_zsplit (fun e5 => ?_) (fun e5 => ?_)
        · refine ct_zsw C (off := 71) (k' := 14) rfl (by rw [e5]; rfl) rfl ?_
          refine ct_zrun C (k' := 16) (y := ([(0, .inr (.inr (6, o))), (1, .inl a1)], [.inr (.inr (0, (G.1 o 0)))], h)) 2 rfl rfl rfl ?_
          refine ct_zV C (pc := 76) (aux := 0) [] [] ok_X0_greatest lk_X6_174 (e_X0_greatest (G.1 o 0)) rfl rfl rfl rfl rfl rfl rfl rfl (fun v4 => ?_)
          exact ct_zret C (pc := 79) (aux := 0) (ins := .ireturn) (ρ := (fun r : Int × ct_H => (some (.inl (r.1) : ct_PV), r.2))) (some (.inl v4)) rfl rfl rfl ⟨rfl, Or.inl rfl⟩
        · refine ct_zsplit (fun e8 => ?_) (fun e8 => ?_)
          · refine ct_zsw C (off := 79) (k' := 18) rfl (by rw [e8]; rfl) rfl ?_
            refine ct_zrun C (k' := 22) (y := ([(0, .inr (.inr (6, o))), (1, .inl a1)], [.inr (.inr (0, (G.1 o 0))), .inr (.inr (0, (G.1 o 0)))], h)) 4 rfl rfl rfl ?_
            refine ct_zV C (pc := 88) (aux := 0) [] [.inr (.inr (0, (G.1 o 0)))] ok_X0_greatest lk_X6_174 (e_X0_greatest (G.1 o 0)) rfl rfl rfl rfl rfl rfl rfl rfl (fun v6 => ?_)
            refine ct_zV C (pc := 91) (aux := 0) [.inl v6] [] ok_X0_firstOf lk_X6_177 (e_X0_firstOf (G.1 o 0) v6) rfl rfl rfl rfl rfl rfl rfl rfl (fun v7 => ?_)
            exact ct_zret C (pc := 94) (aux := 0) (ins := .ireturn) (ρ := (fun r : Int × ct_H => (some (.inl (r.1) : ct_PV), r.2))) (some (.inl v7)) rfl rfl rfl ⟨rfl, Or.inl rfl⟩
          · refine ct_zsplit (fun e10 => ?_) (fun e10 => ?_)
            · refine ct_zsw C (off := 94) (k' := 25) rfl (by rw [e10]; rfl) rfl ?_
              refine ct_zrun C (k' := 26) (y := ([(0, .inr (.inr (6, o))), (1, .inl a1)], [.inr (.inr (6, o))], h)) 1 rfl rfl rfl ?_
              refine ct_zV C (pc := 96) (aux := 0) [] [] ok_X6_halfLevel lk_X6_180 (e_X6_halfLevel o) rfl rfl rfl rfl rfl rfl rfl rfl (fun v9 => ?_)
              exact ct_zret C (pc := 99) (aux := 0) (ins := .ireturn) (ρ := (fun r : Int × ct_H => (some (.inl (r.1) : ct_PV), r.2))) (some (.inl v9)) rfl rfl rfl ⟨rfl, Or.inl rfl⟩
            · refine ct_zsplit (fun e13 => ?_) (fun e13 => ?_)
              · refine ct_zsw C (off := 99) (k' := 28) rfl (by rw [e13]; rfl) rfl ?_
                refine ct_zrun C (k' := 30) (y := ([(0, .inr (.inr (6, o))), (1, .inl a1)], [.inr (.inr (2, (G.1 o 1)))], h)) 2 rfl rfl rfl ?_
                refine ct_zV C (pc := 104) (aux := 0) [] [] ok_X2_countLevels lk_X6_183 (e_X2_countLevels (G.1 o 1)) rfl rfl rfl rfl rfl rfl rfl rfl (fun r11 => ?_)
                refine ct_zrun C (k' := 33) (y := ([(0, .inr (.inr (6, o))), (1, .inl a1)], [.inr (.inr (2, (G.1 o 1)))], r11)) 2 rfl rfl rfl ?_
                refine ct_zV C (pc := 111) (aux := 0) [] [] ok_X2_busiest lk_X6_186 (e_X2_busiest (G.1 o 1)) rfl rfl rfl rfl rfl rfl rfl rfl (fun v12 => ?_)
                exact ct_zret C (pc := 114) (aux := 0) (ins := .ireturn) (ρ := (fun r : Int × ct_H => (some (.inl (r.1) : ct_PV), r.2))) (some (.inl v12)) rfl rfl rfl ⟨rfl, Or.inl rfl⟩
              · refine ct_zsplit (fun e17 => ?_) (fun e17 => ?_)
                · refine ct_zsw C (off := 114) (k' := 35) rfl (by rw [e17]; rfl) rfl ?_
                  refine ct_zrun C (k' := 37) (y := ([(0, .inr (.inr (6, o))), (1, .inl a1)], [.inr (.inr (2, (G.1 o 1)))], h)) 2 rfl rfl rfl ?_
                  refine ct_zV C (pc := 119) (aux := 0) [] [] ok_X2_countLevels lk_X6_183 (e_X2_countLevels (G.1 o 1)) rfl rfl rfl rfl rfl rfl rfl rfl (fun r14 => ?_)
                  refine ct_zrun C (k' := 43) (y := ([(0, .inr (.inr (6, o))), (1, .inl a1)], [.inr (.inr (2, (G.1 o 1))), .inr (.inr (8, (G.1 (G.1 o 1) 4)))], r14)) 5 rfl rfl rfl ?_
                  refine ct_zV C (pc := 133) (aux := 0) [] [.inr (.inr (8, (G.1 (G.1 o 1) 4)))] ok_X2_busiest lk_X6_186 (e_X2_busiest (G.1 o 1)) rfl rfl rfl rfl rfl rfl rfl rfl (fun v15 => ?_)
                  refine ct_zrd C (pc := 136) (aux := 0) (ins := .iaload) (cd := 8) rfl rfl (Or.inl ⟨rfl, rfl⟩) (fun v16 => ?_)
                  exact ct_zret C (pc := 137) (aux := 0) (ins := .ireturn) (ρ := (fun r : Int × ct_H => (some (.inl (r.1) : ct_PV), r.2))) (some (.inl v16)) rfl rfl rfl ⟨rfl, Or.inl rfl⟩
                · refine ct_zsw C (off := 137) (k' := 46) rfl (by show (if _ then _ else _) = _; rw [if_pos (by omega)]) rfl ?_
                  refine ct_zrun C (k' := 47) (y := ([(0, .inr (.inr (6, o))), (1, .inl a1)], [.inl (-1)], h)) 1 rfl rfl rfl ?_
                  exact ct_zret C (pc := 139) (aux := 0) (ins := .ireturn) (ρ := (fun r : Int × ct_H => (some (.inl (r.1) : ct_PV), r.2))) (some (.inl (-1))) rfl rfl rfl ⟨rfl, Or.inl rfl⟩
def f_X6_at (G : ct_G) (h : ct_H) (o : Nat) (a1 : Int) (a2 : Int) : Option (Int × ct_H) := (f_X6_isLevel G h a1).bind fun v1 => if v1 = 0 then (some ((-2), h)) else if a2 = 0 then ((f_X2_trace G h (G.1 o 1) a1).bind fun r2 => some ((r2.1 (G.1 o 1) 5), r2)) else if a2 = 1 then ((f_X2_trace G h (G.1 o 1) a1).bind fun r4 => (f_X2_outerOnes G r4 (G.1 o 1)).bind fun v5 => some (v5, r4)) else if a2 = 2 then ((f_X1_find G h (G.1 o 2) a1).bind fun r7 => some ((r7.1 (G.1 o 2) 7), r7)) else if a2 = 3 then ((f_X0_pointsIn G h (G.1 o 0) a1).bind fun v9 => some (v9, h)) else if a2 = 4 then ((f_X0_saddles G h (G.1 o 0) a1 0).bind fun v11 => some (v11, h)) else if a2 = 5 then ((f_X0_saddles G h (G.1 o 0) a1 1).bind fun v13 => some (v13, h)) else if a2 = 6 then ((f_X0_volume G h (G.1 o 0) a1).bind fun v15 => some (v15, h)) else if a2 = 7 then ((f_X2_trace G h (G.1 o 1) a1).bind fun r17 => (f_X2_greatestDepth G r17 (G.1 o 1)).bind fun v18 => some (v18, r17)) else some ((-1), h)
set_option maxRecDepth 100000 in
theorem e_X6_at {d : Nat} {G : ct_G} {h : ct_H} (o : Nat) (a1 : Int) (a2 : Int) : ct_E m_X6_at (d + 6) G (ct_args 0 [.inr (.inr (6, o)), .inl a1, .inl a2]) h (fun r : Int × ct_H => (some (.inl (r.1) : ct_PV), r.2)) (f_X6_at G h o a1 a2) := by
  intro x C
  unfold f_X6_at
  show ct_Z x m_X6_at G 0 [(0, .inr (.inr (6, o))), (1, .inl a1), (2, .inl a2)] [] h (fun a => ct_q x G ((fun r : Int × ct_H => (some (.inl (r.1) : ct_PV), r.2)) a)) _
  refine ct_zrun C (k' := 1) (y := ([(0, .inr (.inr (6, o))), (1, .inl a1), (2, .inl a2)], [.inl a1], h)) 1 rfl rfl rfl ?_
  refine ct_zS C (pc := 1) (aux := 0) [.inl a1] [] ok_X6_isLevel lk_X6_196 (e_X6_isLevel a1) rfl rfl rfl rfl rfl rfl (fun v1 => ?_)
  refine ct_zf0 C (pc := 4) (aux := 0) (cn := .ne) (off := 6) (k' := 5) (a := v1) Iff.rfl rfl rfl rfl (fun e20 => ?_) (fun e20 => ?_)
  · refine ct_zrun C (k' := 4) (y := ([(0, .inr (.inr (6, o))), (1, .inl a1), (2, .inl a2)], [.inl (-2)], h)) 1 rfl rfl rfl ?_
    exact ct_zret C (pc := 9) (aux := 0) (ins := .ireturn) (ρ := (fun r : Int × ct_H => (some (.inl (r.1) : ct_PV), r.2))) (some (.inl (-2))) rfl rfl rfl ⟨rfl, Or.inl rfl⟩
  · refine ct_zrun C (k' := 6) (y := ([(0, .inr (.inr (6, o))), (1, .inl a1), (2, .inl a2)], [.inl a2], h)) 1 rfl rfl rfl ?_
    refine ct_zsplit (fun e3 => ?_) (fun e3 => ?_)
    · refine ct_zsw C (off := 45) (k' := 7) rfl (by rw [e3]; rfl) rfl ?_
      refine ct_zrun C (k' := 10) (y := ([(0, .inr (.inr (6, o))), (1, .inl a1), (2, .inl a2)], [.inl a1, .inr (.inr (2, (G.1 o 1)))], h)) 3 rfl rfl rfl ?_
      refine ct_zV C (pc := 61) (aux := 0) [.inl a1] [] ok_X2_trace lk_X6_199 (e_X2_trace (G.1 o 1) a1) rfl rfl rfl rfl rfl rfl rfl rfl (fun r2 => ?_)
      refine ct_zrun C (k' := 14) (y := ([(0, .inr (.inr (6, o))), (1, .inl a1), (2, .inl a2)], [.inl (r2.1 (G.1 o 1) 5)], r2)) 3 rfl rfl rfl ?_
      exact ct_zret C (pc := 71) (aux := 0) (ins := .ireturn) (ρ := (fun r : Int × ct_H => (some (.inl (r.1) : ct_PV), r.2))) (some (.inl (r2.1 (G.1 o 1) 5))) rfl rfl rfl ⟨rfl, Or.inl rfl⟩
    · refine ct_zsplit (fun e6 => ?_) (fun e6 => ?_)
      · refine ct_zsw C (off := 61) (k' := 15) rfl (by rw [e6]; rfl) rfl ?_
        refine ct_zrun C (k' := 18) (y := ([(0, .inr (.inr (6, o))), (1, .inl a1), (2, .inl a2)], [.inl a1, .inr (.inr (2, (G.1 o 1)))], h)) 3 rfl rfl rfl ?_
        refine ct_zV C (pc := 77) (aux := 0) [.inl a1] [] ok_X2_trace lk_X6_199 (e_X2_trace (G.1 o 1) a1) rfl rfl rfl rfl rfl rfl rfl rfl (fun r4 => ?_)
        refine ct_zrun C (k' := 21) (y := ([(0, .inr (.inr (6, o))), (1, .inl a1), (2, .inl a2)], [.inr (.inr (2, (G.1 o 1)))], r4)) 2 rfl rfl rfl ?_
        refine ct_zV C (pc := 84) (aux := 0) [] [] ok_X2_outerOnes lk_X6_205 (e_X2_outerOnes (G.1 o 1)) rfl rfl rfl rfl rfl rfl rfl rfl (fun v5 => ?_)
        exact ct_zret C (pc := 87) (aux := 0) (ins := .ireturn) (ρ := (fun r : Int × ct_H => (some (.inl (r.1) : ct_PV), r.2))) (some (.inl v5)) rfl rfl rfl ⟨rfl, Or.inl rfl⟩
      · refine ct_zsplit (fun e8 => ?_) (fun e8 => ?_)
        · refine ct_zsw C (off := 77) (k' := 23) rfl (by rw [e8]; rfl) rfl ?_
          refine ct_zrun C (k' := 26) (y := ([(0, .inr (.inr (6, o))), (1, .inl a1), (2, .inl a2)], [.inl a1, .inr (.inr (1, (G.1 o 2)))], h)) 3 rfl rfl rfl ?_
          refine ct_zV C (pc := 93) (aux := 0) [.inl a1] [] ok_X1_find lk_X6_208 (e_X1_find (G.1 o 2) a1) rfl rfl rfl rfl rfl rfl rfl rfl (fun r7 => ?_)
          refine ct_zrun C (k' := 30) (y := ([(0, .inr (.inr (6, o))), (1, .inl a1), (2, .inl a2)], [.inl (r7.1 (G.1 o 2) 7)], r7)) 3 rfl rfl rfl ?_
          exact ct_zret C (pc := 103) (aux := 0) (ins := .ireturn) (ρ := (fun r : Int × ct_H => (some (.inl (r.1) : ct_PV), r.2))) (some (.inl (r7.1 (G.1 o 2) 7))) rfl rfl rfl ⟨rfl, Or.inl rfl⟩
        · refine ct_zsplit (fun e10 => ?_) (fun e10 => ?_)
          · refine ct_zsw C (off := 93) (k' := 31) rfl (by rw [e10]; rfl) rfl ?_
            refine ct_zrun C (k' := 34) (y := ([(0, .inr (.inr (6, o))), (1, .inl a1), (2, .inl a2)], [.inl a1, .inr (.inr (0, (G.1 o 0)))], h)) 3 rfl rfl rfl ?_
            refine ct_zV C (pc := 109) (aux := 0) [.inl a1] [] ok_X0_pointsIn lk_X6_212 (e_X0_pointsIn (G.1 o 0) a1) rfl rfl rfl rfl rfl rfl rfl rfl (fun v9 => ?_)
            exact ct_zret C (pc := 112) (aux := 0) (ins := .ireturn) (ρ := (fun r : Int × ct_H => (some (.inl (r.1) : ct_PV), r.2))) (some (.inl v9)) rfl rfl rfl ⟨rfl, Or.inl rfl⟩
          · refine ct_zsplit (fun e12 => ?_) (fun e12 => ?_)
            · refine ct_zsw C (off := 102) (k' := 36) rfl (by rw [e12]; rfl) rfl ?_
              refine ct_zrun C (k' := 40) (y := ([(0, .inr (.inr (6, o))), (1, .inl a1), (2, .inl a2)], [.inl 0, .inl a1, .inr (.inr (0, (G.1 o 0)))], h)) 4 rfl rfl rfl ?_
              refine ct_zV C (pc := 119) (aux := 0) [.inl a1, .inl 0] [] ok_X0_saddles lk_X6_215 (e_X0_saddles (G.1 o 0) a1 0) rfl rfl rfl rfl rfl rfl rfl rfl (fun v11 => ?_)
              exact ct_zret C (pc := 122) (aux := 0) (ins := .ireturn) (ρ := (fun r : Int × ct_H => (some (.inl (r.1) : ct_PV), r.2))) (some (.inl v11)) rfl rfl rfl ⟨rfl, Or.inl rfl⟩
            · refine ct_zsplit (fun e14 => ?_) (fun e14 => ?_)
              · refine ct_zsw C (off := 112) (k' := 42) rfl (by rw [e14]; rfl) rfl ?_
                refine ct_zrun C (k' := 46) (y := ([(0, .inr (.inr (6, o))), (1, .inl a1), (2, .inl a2)], [.inl 1, .inl a1, .inr (.inr (0, (G.1 o 0)))], h)) 4 rfl rfl rfl ?_
                refine ct_zV C (pc := 129) (aux := 0) [.inl a1, .inl 1] [] ok_X0_saddles lk_X6_215 (e_X0_saddles (G.1 o 0) a1 1) rfl rfl rfl rfl rfl rfl rfl rfl (fun v13 => ?_)
                exact ct_zret C (pc := 132) (aux := 0) (ins := .ireturn) (ρ := (fun r : Int × ct_H => (some (.inl (r.1) : ct_PV), r.2))) (some (.inl v13)) rfl rfl rfl ⟨rfl, Or.inl rfl⟩
              · refine ct_zsplit (fun e16 => ?_) (fun e16 => ?_)
                · refine ct_zsw C (off := 122) (k' := 48) rfl (by rw [e16]; rfl) rfl ?_
                  refine ct_zrun C (k' := 51) (y := ([(0, .inr (.inr (6, o))), (1, .inl a1), (2, .inl a2)], [.inl a1, .inr (.inr (0, (G.1 o 0)))], h)) 3 rfl rfl rfl ?_
                  refine ct_zV C (pc := 138) (aux := 0) [.inl a1] [] ok_X0_volume lk_X6_193 (e_X0_volume (G.1 o 0) a1) rfl rfl rfl rfl rfl rfl rfl rfl (fun v15 => ?_)
                  exact ct_zret C (pc := 141) (aux := 0) (ins := .ireturn) (ρ := (fun r : Int × ct_H => (some (.inl (r.1) : ct_PV), r.2))) (some (.inl v15)) rfl rfl rfl ⟨rfl, Or.inl rfl⟩
                · refine ct_zsplit (fun e19 => ?_) (fun e19 => ?_)
                  · refine ct_zsw C (off := 131) (k' := 53) rfl (by rw [e19]; rfl) rfl ?_
                    refine ct_zrun C (k' := 56) (y := ([(0, .inr (.inr (6, o))), (1, .inl a1), (2, .inl a2)], [.inl a1, .inr (.inr (2, (G.1 o 1)))], h)) 3 rfl rfl rfl ?_
                    refine ct_zV C (pc := 147) (aux := 0) [.inl a1] [] ok_X2_trace lk_X6_199 (e_X2_trace (G.1 o 1) a1) rfl rfl rfl rfl rfl rfl rfl rfl (fun r17 => ?_)
                    refine ct_zrun C (k' := 59) (y := ([(0, .inr (.inr (6, o))), (1, .inl a1), (2, .inl a2)], [.inr (.inr (2, (G.1 o 1)))], r17)) 2 rfl rfl rfl ?_
                    refine ct_zV C (pc := 154) (aux := 0) [] [] ok_X2_greatestDepth lk_X6_219 (e_X2_greatestDepth (G.1 o 1)) rfl rfl rfl rfl rfl rfl rfl rfl (fun v18 => ?_)
                    exact ct_zret C (pc := 157) (aux := 0) (ins := .ireturn) (ρ := (fun r : Int × ct_H => (some (.inl (r.1) : ct_PV), r.2))) (some (.inl v18)) rfl rfl rfl ⟨rfl, Or.inl rfl⟩
                  · refine ct_zsw C (off := 147) (k' := 61) rfl (by show (if _ then _ else _) = _; rw [if_pos (by omega)]) rfl ?_
                    refine ct_zrun C (k' := 62) (y := ([(0, .inr (.inr (6, o))), (1, .inl a1), (2, .inl a2)], [.inl (-1)], h)) 1 rfl rfl rfl ?_
                    exact ct_zret C (pc := 159) (aux := 0) (ins := .ireturn) (ρ := (fun r : Int × ct_H => (some (.inl (r.1) : ct_PV), r.2))) (some (.inl (-1))) rfl rfl rfl ⟨rfl, Or.inl rfl⟩
def f_X6_square (G : ct_G) (h : ct_H) (o : Nat) (a1 : Int) (a2 : Int) (a3 : Int) : Option (Int) := (f_X6_isLevel G h a1).bind fun v1 => if v1 = 0 then (some (-2)) else (f_X0_isSquare G h (G.1 o 0) a2).bind fun v2 => if v2 = 0 then (some (-1)) else if a3 < 0 then (some (-1)) else if a3 ≤ 1 then ((f_X0_cornerOf G h (G.1 o 0) a2).bind fun v3 => if a3 = 0 then ((f_X0_caseOf G h (G.1 o 0) v3 a1).bind fun v6 => some v6) else (f_X0_isJoinedSaddle G h (G.1 o 0) v3 a1).bind fun v4 => if v4 = 0 then (some 0) else some 1) else some (-1)
set_option maxRecDepth 100000 in
theorem e_X6_square {d : Nat} {G : ct_G} {h : ct_H} (o : Nat) (a1 : Int) (a2 : Int) (a3 : Int) : ct_E m_X6_square (d + 2) G (ct_args 0 [.inr (.inr (6, o)), .inl a1, .inl a2, .inl a3]) h (fun r : Int => (some (.inl r : ct_PV), h)) (f_X6_square G h o a1 a2 a3) := by
  intro x C
  unfold f_X6_square
  show ct_Z x m_X6_square G 0 [(0, .inr (.inr (6, o))), (1, .inl a1), (2, .inl a2), (3, .inl a3)] [] h (fun a => ct_q x G ((fun r : Int => (some (.inl r : ct_PV), h)) a)) _
  refine ct_zrun C (k' := 1) (y := ([(0, .inr (.inr (6, o))), (1, .inl a1), (2, .inl a2), (3, .inl a3)], [.inl a1], h)) 1 rfl rfl rfl ?_
  refine ct_zS C (pc := 1) (aux := 0) [.inl a1] [] ok_X6_isLevel lk_X6_196 (e_X6_isLevel a1) rfl rfl rfl rfl rfl rfl (fun v1 => ?_)
  refine ct_zf0 C (pc := 4) (aux := 0) (cn := .ne) (off := 6) (k' := 5) (a := v1) Iff.rfl rfl rfl rfl (fun e11 => ?_) (fun e11 => ?_)
  · refine ct_zrun C (k' := 4) (y := ([(0, .inr (.inr (6, o))), (1, .inl a1), (2, .inl a2), (3, .inl a3)], [.inl (-2)], h)) 1 rfl rfl rfl ?_
    exact ct_zret C (pc := 9) (aux := 0) (ins := .ireturn) (ρ := (fun r : Int => (some (.inl r : ct_PV), h))) (some (.inl (-2))) rfl rfl rfl ⟨rfl, Or.inl rfl⟩
  · refine ct_zrun C (k' := 8) (y := ([(0, .inr (.inr (6, o))), (1, .inl a1), (2, .inl a2), (3, .inl a3)], [.inl a2, .inr (.inr (0, (G.1 o 0)))], h)) 3 rfl rfl rfl ?_
    refine ct_zV C (pc := 15) (aux := 0) [.inl a2] [] ok_X0_isSquare lk_X6_222 (e_X0_isSquare (G.1 o 0) a2) rfl rfl rfl rfl rfl rfl rfl rfl (fun v2 => ?_)
    refine ct_zt0 C (pc := 18) (aux := 0) (cn := .eq) (off := 12) (k' := 15) (a := v2) Iff.rfl rfl rfl rfl (fun e10 => ?_) (fun e10 => ?_)
    · refine ct_zrun C (k' := 16) (y := ([(0, .inr (.inr (6, o))), (1, .inl a1), (2, .inl a2), (3, .inl a3)], [.inl (-1)], h)) 1 rfl rfl rfl ?_
      exact ct_zret C (pc := 31) (aux := 0) (ins := .ireturn) (ρ := (fun r : Int => (some (.inl r : ct_PV), h))) (some (.inl (-1))) rfl rfl rfl ⟨rfl, Or.inl rfl⟩
    · refine ct_zrun C (k' := 11) (y := ([(0, .inr (.inr (6, o))), (1, .inl a1), (2, .inl a2), (3, .inl a3)], [.inl a3], h)) 1 rfl rfl rfl ?_
      refine ct_zt0 C (pc := 22) (aux := 0) (cn := .lt) (off := 8) (k' := 15) (a := a3) Iff.rfl rfl rfl rfl (fun e9 => ?_) (fun e9 => ?_)
      · refine ct_zrun C (k' := 16) (y := ([(0, .inr (.inr (6, o))), (1, .inl a1), (2, .inl a2), (3, .inl a3)], [.inl (-1)], h)) 1 rfl rfl rfl ?_
        exact ct_zret C (pc := 31) (aux := 0) (ins := .ireturn) (ρ := (fun r : Int => (some (.inl r : ct_PV), h))) (some (.inl (-1))) rfl rfl rfl ⟨rfl, Or.inl rfl⟩
      · refine ct_zrun C (k' := 14) (y := ([(0, .inr (.inr (6, o))), (1, .inl a1), (2, .inl a2), (3, .inl a3)], [.inl 1, .inl a3], h)) 2 rfl rfl rfl ?_
        refine ct_zt C (pc := 27) (aux := 0) (cn := .le) (off := 5) (k' := 17) (a := a3) (b := 1) Iff.rfl rfl rfl rfl (fun e8 => ?_) (fun e8 => ?_)
        · refine ct_zrun C (k' := 20) (y := ([(0, .inr (.inr (6, o))), (1, .inl a1), (2, .inl a2), (3, .inl a3)], [.inl a2, .inr (.inr (0, (G.1 o 0)))], h)) 3 rfl rfl rfl ?_
          refine ct_zV C (pc := 37) (aux := 0) [.inl a2] [] ok_X0_cornerOf lk_X6_225 (e_X0_cornerOf (G.1 o 0) a2) rfl rfl rfl rfl rfl rfl rfl rfl (fun v3 => ?_)
          refine ct_zrun C (k' := 23) (y := ([(4, .inl v3), (0, .inr (.inr (6, o))), (1, .inl a1), (2, .inl a2), (3, .inl a3)], [.inl a3], h)) 2 rfl rfl rfl ?_
          refine ct_zf0 C (pc := 43) (aux := 0) (cn := .ne) (off := 14) (k' := 30) (a := a3) Iff.rfl rfl rfl rfl (fun e7 => ?_) (fun e7 => ?_)
          · refine ct_zrun C (k' := 28) (y := ([(4, .inl v3), (0, .inr (.inr (6, o))), (1, .inl a1), (2, .inl a2), (3, .inl a3)], [.inl a1, .inl v3, .inr (.inr (0, (G.1 o 0)))], h)) 4 rfl rfl rfl ?_
            refine ct_zV C (pc := 53) (aux := 0) [.inl v3, .inl a1] [] ok_X0_caseOf lk_X6_228 (e_X0_caseOf (G.1 o 0) v3 a1) rfl rfl rfl rfl rfl rfl rfl rfl (fun v6 => ?_)
            exact ct_zret C (pc := 56) (aux := 0) (ins := .ireturn) (ρ := (fun r : Int => (some (.inl r : ct_PV), h))) (some (.inl v6)) rfl rfl rfl ⟨rfl, Or.inl rfl⟩
          · refine ct_zrun C (k' := 34) (y := ([(4, .inl v3), (0, .inr (.inr (6, o))), (1, .inl a1), (2, .inl a2), (3, .inl a3)], [.inl a1, .inl v3, .inr (.inr (0, (G.1 o 0)))], h)) 4 rfl rfl rfl ?_
            refine ct_zV C (pc := 64) (aux := 0) [.inl v3, .inl a1] [] ok_X0_isJoinedSaddle lk_X6_231 (e_X0_isJoinedSaddle (G.1 o 0) v3 a1) rfl rfl rfl rfl rfl rfl rfl rfl (fun v4 => ?_)
            refine ct_zt0 C (pc := 67) (aux := 0) (cn := .eq) (off := 7) (k' := 38) (a := v4) Iff.rfl rfl rfl rfl (fun e5 => ?_) (fun e5 => ?_)
            · refine ct_zrun C (k' := 39) (y := ([(4, .inl v3), (0, .inr (.inr (6, o))), (1, .inl a1), (2, .inl a2), (3, .inl a3)], [.inl 0], h)) 1 rfl rfl rfl ?_
              exact ct_zret C (pc := 75) (aux := 0) (ins := .ireturn) (ρ := (fun r : Int => (some (.inl r : ct_PV), h))) (some (.inl 0)) rfl rfl rfl ⟨rfl, Or.inl rfl⟩
            · refine ct_zrun C (k' := 37) (y := ([(4, .inl v3), (0, .inr (.inr (6, o))), (1, .inl a1), (2, .inl a2), (3, .inl a3)], [.inl 1], h)) 1 rfl rfl rfl ?_
              refine ct_zgoto C (pc := 71) (aux := 0) (off := 4) (k' := 39) rfl rfl ?_
              exact ct_zret C (pc := 75) (aux := 0) (ins := .ireturn) (ρ := (fun r : Int => (some (.inl r : ct_PV), h))) (some (.inl 1)) rfl rfl rfl ⟨rfl, Or.inl rfl⟩
        · refine ct_zrun C (k' := 16) (y := ([(0, .inr (.inr (6, o))), (1, .inl a1), (2, .inl a2), (3, .inl a3)], [.inl (-1)], h)) 1 rfl rfl rfl ?_
          exact ct_zret C (pc := 31) (aux := 0) (ins := .ireturn) (ρ := (fun r : Int => (some (.inl r : ct_PV), h))) (some (.inl (-1))) rfl rfl rfl ⟨rfl, Or.inl rfl⟩
def f_X6_edge (G : ct_G) (h : ct_H) (o : Nat) (a1 : Int) (a2 : Int) : Option (Int × ct_H) := (f_X6_isLevel G h a1).bind fun v1 => if v1 = 0 then (some ((-2), h)) else (f_X0_isEdge G h (G.1 o 0) a2).bind fun v2 => if v2 = 0 then (some ((-1), h)) else (f_X2_trace G h (G.1 o 1) a1).bind fun r3 => (ct_rd G r3 (G.1 (G.1 o 1) 1) a2).bind fun v4 => some (v4, r3)
set_option maxRecDepth 100000 in
theorem e_X6_edge {d : Nat} {G : ct_G} {h : ct_H} (o : Nat) (a1 : Int) (a2 : Int) : ct_E m_X6_edge (d + 5) G (ct_args 0 [.inr (.inr (6, o)), .inl a1, .inl a2]) h (fun r : Int × ct_H => (some (.inl (r.1) : ct_PV), r.2)) (f_X6_edge G h o a1 a2) := by
  intro x C
  unfold f_X6_edge
  show ct_Z x m_X6_edge G 0 [(0, .inr (.inr (6, o))), (1, .inl a1), (2, .inl a2)] [] h (fun a => ct_q x G ((fun r : Int × ct_H => (some (.inl (r.1) : ct_PV), r.2)) a)) _
  refine ct_zrun C (k' := 1) (y := ([(0, .inr (.inr (6, o))), (1, .inl a1), (2, .inl a2)], [.inl a1], h)) 1 rfl rfl rfl ?_
  refine ct_zS C (pc := 1) (aux := 0) [.inl a1] [] ok_X6_isLevel lk_X6_196 (e_X6_isLevel a1) rfl rfl rfl rfl rfl rfl (fun v1 => ?_)
  refine ct_zf0 C (pc := 4) (aux := 0) (cn := .ne) (off := 6) (k' := 5) (a := v1) Iff.rfl rfl rfl rfl (fun e6 => ?_) (fun e6 => ?_)
  · refine ct_zrun C (k' := 4) (y := ([(0, .inr (.inr (6, o))), (1, .inl a1), (2, .inl a2)], [.inl (-2)], h)) 1 rfl rfl rfl ?_
    exact ct_zret C (pc := 9) (aux := 0) (ins := .ireturn) (ρ := (fun r : Int × ct_H => (some (.inl (r.1) : ct_PV), r.2))) (some (.inl (-2))) rfl rfl rfl ⟨rfl, Or.inl rfl⟩
  · refine ct_zrun C (k' := 8) (y := ([(0, .inr (.inr (6, o))), (1, .inl a1), (2, .inl a2)], [.inl a2, .inr (.inr (0, (G.1 o 0)))], h)) 3 rfl rfl rfl ?_
    refine ct_zV C (pc := 15) (aux := 0) [.inl a2] [] ok_X0_isEdge lk_X6_235 (e_X0_isEdge (G.1 o 0) a2) rfl rfl rfl rfl rfl rfl rfl rfl (fun v2 => ?_)
    refine ct_zf0 C (pc := 18) (aux := 0) (cn := .ne) (off := 5) (k' := 12) (a := v2) Iff.rfl rfl rfl rfl (fun e5 => ?_) (fun e5 => ?_)
    · refine ct_zrun C (k' := 11) (y := ([(0, .inr (.inr (6, o))), (1, .inl a1), (2, .inl a2)], [.inl (-1)], h)) 1 rfl rfl rfl ?_
      exact ct_zret C (pc := 22) (aux := 0) (ins := .ireturn) (ρ := (fun r : Int × ct_H => (some (.inl (r.1) : ct_PV), r.2))) (some (.inl (-1))) rfl rfl rfl ⟨rfl, Or.inl rfl⟩
    · refine ct_zrun C (k' := 15) (y := ([(0, .inr (.inr (6, o))), (1, .inl a1), (2, .inl a2)], [.inl a1, .inr (.inr (2, (G.1 o 1)))], h)) 3 rfl rfl rfl ?_
      refine ct_zV C (pc := 28) (aux := 0) [.inl a1] [] ok_X2_trace lk_X6_199 (e_X2_trace (G.1 o 1) a1) rfl rfl rfl rfl rfl rfl rfl rfl (fun r3 => ?_)
      refine ct_zrun C (k' := 20) (y := ([(0, .inr (.inr (6, o))), (1, .inl a1), (2, .inl a2)], [.inl a2, .inr (.inr (8, (G.1 (G.1 o 1) 1)))], r3)) 4 rfl rfl rfl ?_
      refine ct_zrd C (pc := 39) (aux := 0) (ins := .iaload) (cd := 8) rfl rfl (Or.inl ⟨rfl, rfl⟩) (fun v4 => ?_)
      exact ct_zret C (pc := 40) (aux := 0) (ins := .ireturn) (ρ := (fun r : Int × ct_H => (some (.inl (r.1) : ct_PV), r.2))) (some (.inl v4)) rfl rfl rfl ⟨rfl, Or.inl rfl⟩
def f_X6_line (G : ct_G) (h : ct_H) (o : Nat) (a1 : Int) (a2 : Int) (a3 : Int) : Option (Int × ct_H) := (f_X6_isLevel G h a1).bind fun v1 => if v1 = 0 then (some ((-2), h)) else (f_X2_trace G h (G.1 o 1) a1).bind fun r2 => (f_X2_isLine G r2 (G.1 o 1) a2).bind fun v3 => if v3 = 0 then (some ((-1), r2)) else if a3 = 0 then ((f_X2_leastEdge G r2 (G.1 o 1) a2).bind fun v4 => some (v4, r2)) else if a3 = 1 then ((f_X2_lengthOf G r2 (G.1 o 1) a2).bind fun v6 => some (v6, r2)) else if a3 = 2 then ((f_X2_depthOf G r2 (G.1 o 1) a2).bind fun v8 => some (v8, r2)) else if a3 = 3 then ((f_X2_parentOf G r2 (G.1 o 1) a2).bind fun v10 => some (v10, r2)) else if a3 = 4 then ((f_X2_isOuter G r2 (G.1 o 1) a2).bind fun v12 => if v12 = 0 then (some (0, r2)) else some (1, r2)) else if a3 = 5 then ((f_X2_areaOf G r2 (G.1 o 1) a2).bind fun v15 => some (v15, r2)) else if a3 = 6 then ((f_X2_pointsHeld G r2 (G.1 o 1) a2).bind fun v17 => some (v17, r2)) else some ((-1), r2)
set_option maxRecDepth 100000 in
theorem e_X6_line {d : Nat} {G : ct_G} {h : ct_H} (o : Nat) (a1 : Int) (a2 : Int) (a3 : Int) : ct_E m_X6_line (d + 5) G (ct_args 0 [.inr (.inr (6, o)), .inl a1, .inl a2, .inl a3]) h (fun r : Int × ct_H => (some (.inl (r.1) : ct_PV), r.2)) (f_X6_line G h o a1 a2 a3) := by
  intro x C
  unfold f_X6_line
  show ct_Z x m_X6_line G 0 [(0, .inr (.inr (6, o))), (1, .inl a1), (2, .inl a2), (3, .inl a3)] [] h (fun a => ct_q x G ((fun r : Int × ct_H => (some (.inl (r.1) : ct_PV), r.2)) a)) _
  refine ct_zrun C (k' := 1) (y := ([(0, .inr (.inr (6, o))), (1, .inl a1), (2, .inl a2), (3, .inl a3)], [.inl a1], h)) 1 rfl rfl rfl ?_
  refine ct_zS C (pc := 1) (aux := 0) [.inl a1] [] ok_X6_isLevel lk_X6_196 (e_X6_isLevel a1) rfl rfl rfl rfl rfl rfl (fun v1 => ?_)
  refine ct_zf0 C (pc := 4) (aux := 0) (cn := .ne) (off := 6) (k' := 5) (a := v1) Iff.rfl rfl rfl rfl (fun e20 => ?_) (fun e20 => ?_)
  · refine ct_zrun C (k' := 4) (y := ([(0, .inr (.inr (6, o))), (1, .inl a1), (2, .inl a2), (3, .inl a3)], [.inl (-2)], h)) 1 rfl rfl rfl ?_
    exact ct_zret C (pc := 9) (aux := 0) (ins := .ireturn) (ρ := (fun r : Int × ct_H => (some (.inl (r.1) : ct_PV), r.2))) (some (.inl (-2))) rfl rfl rfl ⟨rfl, Or.inl rfl⟩
  · refine ct_zrun C (k' := 8) (y := ([(0, .inr (.inr (6, o))), (1, .inl a1), (2, .inl a2), (3, .inl a3)], [.inl a1, .inr (.inr (2, (G.1 o 1)))], h)) 3 rfl rfl rfl ?_
    refine ct_zV C (pc := 15) (aux := 0) [.inl a1] [] ok_X2_trace lk_X6_199 (e_X2_trace (G.1 o 1) a1) rfl rfl rfl rfl rfl rfl rfl rfl (fun r2 => ?_)
    refine ct_zrun C (k' := 12) (y := ([(0, .inr (.inr (6, o))), (1, .inl a1), (2, .inl a2), (3, .inl a3)], [.inl a2, .inr (.inr (2, (G.1 o 1)))], r2)) 3 rfl rfl rfl ?_
    refine ct_zV C (pc := 23) (aux := 0) [.inl a2] [] ok_X2_isLine lk_X6_241 (e_X2_isLine (G.1 o 1) a2) rfl rfl rfl rfl rfl rfl rfl rfl (fun v3 => ?_)
    refine ct_zf0 C (pc := 26) (aux := 0) (cn := .ne) (off := 5) (k' := 16) (a := v3) Iff.rfl rfl rfl rfl (fun e19 => ?_) (fun e19 => ?_)
    · refine ct_zrun C (k' := 15) (y := ([(0, .inr (.inr (6, o))), (1, .inl a1), (2, .inl a2), (3, .inl a3)], [.inl (-1)], r2)) 1 rfl rfl rfl ?_
      exact ct_zret C (pc := 30) (aux := 0) (ins := .ireturn) (ρ := (fun r : Int × ct_H => (some (.inl (r.1) : ct_PV), r.2))) (some (.inl (-1))) rfl rfl rfl ⟨rfl, Or.inl rfl⟩
    · refine ct_zrun C (k' := 17) (y := ([(0, .inr (.inr (6, o))), (1, .inl a1), (2, .inl a2), (3, .inl a3)], [.inl a3], r2)) 1 rfl rfl rfl ?_
      refine ct_zsplit (fun e5 => ?_) (fun e5 => ?_)
      · refine ct_zsw C (off := 44) (k' := 18) rfl (by rw [e5]; rfl) rfl ?_
        refine ct_zrun C (k' := 21) (y := ([(0, .inr (.inr (6, o))), (1, .inl a1), (2, .inl a2), (3, .inl a3)], [.inl a2, .inr (.inr (2, (G.1 o 1)))], r2)) 3 rfl rfl rfl ?_
        refine ct_zV C (pc := 81) (aux := 0) [.inl a2] [] ok_X2_leastEdge lk_X6_244 (e_X2_leastEdge (G.1 o 1) a2) rfl rfl rfl rfl rfl rfl rfl rfl (fun v4 => ?_)
        exact ct_zret C (pc := 84) (aux := 0) (ins := .ireturn) (ρ := (fun r : Int × ct_H => (some (.inl (r.1) : ct_PV), r.2))) (some (.inl v4)) rfl rfl rfl ⟨rfl, Or.inl rfl⟩
      · refine ct_zsplit (fun e7 => ?_) (fun e7 => ?_)
        · refine ct_zsw C (off := 53) (k' := 23) rfl (by rw [e7]; rfl) rfl ?_
          refine ct_zrun C (k' := 26) (y := ([(0, .inr (.inr (6, o))), (1, .inl a1), (2, .inl a2), (3, .inl a3)], [.inl a2, .inr (.inr (2, (G.1 o 1)))], r2)) 3 rfl rfl rfl ?_
          refine ct_zV C (pc := 90) (aux := 0) [.inl a2] [] ok_X2_lengthOf lk_X6_247 (e_X2_lengthOf (G.1 o 1) a2) rfl rfl rfl rfl rfl rfl rfl rfl (fun v6 => ?_)
          exact ct_zret C (pc := 93) (aux := 0) (ins := .ireturn) (ρ := (fun r : Int × ct_H => (some (.inl (r.1) : ct_PV), r.2))) (some (.inl v6)) rfl rfl rfl ⟨rfl, Or.inl rfl⟩
        · refine ct_zsplit (fun e9 => ?_) (fun e9 => ?_)
          · refine ct_zsw C (off := 62) (k' := 28) rfl (by rw [e9]; rfl) rfl ?_
            refine ct_zrun C (k' := 31) (y := ([(0, .inr (.inr (6, o))), (1, .inl a1), (2, .inl a2), (3, .inl a3)], [.inl a2, .inr (.inr (2, (G.1 o 1)))], r2)) 3 rfl rfl rfl ?_
            refine ct_zV C (pc := 99) (aux := 0) [.inl a2] [] ok_X2_depthOf lk_X6_250 (e_X2_depthOf (G.1 o 1) a2) rfl rfl rfl rfl rfl rfl rfl rfl (fun v8 => ?_)
            exact ct_zret C (pc := 102) (aux := 0) (ins := .ireturn) (ρ := (fun r : Int × ct_H => (some (.inl (r.1) : ct_PV), r.2))) (some (.inl v8)) rfl rfl rfl ⟨rfl, Or.inl rfl⟩
          · refine ct_zsplit (fun e11 => ?_) (fun e11 => ?_)
            · refine ct_zsw C (off := 71) (k' := 33) rfl (by rw [e11]; rfl) rfl ?_
              refine ct_zrun C (k' := 36) (y := ([(0, .inr (.inr (6, o))), (1, .inl a1), (2, .inl a2), (3, .inl a3)], [.inl a2, .inr (.inr (2, (G.1 o 1)))], r2)) 3 rfl rfl rfl ?_
              refine ct_zV C (pc := 108) (aux := 0) [.inl a2] [] ok_X2_parentOf lk_X6_253 (e_X2_parentOf (G.1 o 1) a2) rfl rfl rfl rfl rfl rfl rfl rfl (fun v10 => ?_)
              exact ct_zret C (pc := 111) (aux := 0) (ins := .ireturn) (ρ := (fun r : Int × ct_H => (some (.inl (r.1) : ct_PV), r.2))) (some (.inl v10)) rfl rfl rfl ⟨rfl, Or.inl rfl⟩
            · refine ct_zsplit (fun e14 => ?_) (fun e14 => ?_)
              · refine ct_zsw C (off := 80) (k' := 38) rfl (by rw [e14]; rfl) rfl ?_
                refine ct_zrun C (k' := 41) (y := ([(0, .inr (.inr (6, o))), (1, .inl a1), (2, .inl a2), (3, .inl a3)], [.inl a2, .inr (.inr (2, (G.1 o 1)))], r2)) 3 rfl rfl rfl ?_
                refine ct_zV C (pc := 117) (aux := 0) [.inl a2] [] ok_X2_isOuter lk_X6_256 (e_X2_isOuter (G.1 o 1) a2) rfl rfl rfl rfl rfl rfl rfl rfl (fun v12 => ?_)
                refine ct_zt0 C (pc := 120) (aux := 0) (cn := .eq) (off := 7) (k' := 45) (a := v12) Iff.rfl rfl rfl rfl (fun e13 => ?_) (fun e13 => ?_)
                · refine ct_zrun C (k' := 46) (y := ([(0, .inr (.inr (6, o))), (1, .inl a1), (2, .inl a2), (3, .inl a3)], [.inl 0], r2)) 1 rfl rfl rfl ?_
                  exact ct_zret C (pc := 128) (aux := 0) (ins := .ireturn) (ρ := (fun r : Int × ct_H => (some (.inl (r.1) : ct_PV), r.2))) (some (.inl 0)) rfl rfl rfl ⟨rfl, Or.inl rfl⟩
                · refine ct_zrun C (k' := 44) (y := ([(0, .inr (.inr (6, o))), (1, .inl a1), (2, .inl a2), (3, .inl a3)], [.inl 1], r2)) 1 rfl rfl rfl ?_
                  refine ct_zgoto C (pc := 124) (aux := 0) (off := 4) (k' := 46) rfl rfl ?_
                  exact ct_zret C (pc := 128) (aux := 0) (ins := .ireturn) (ρ := (fun r : Int × ct_H => (some (.inl (r.1) : ct_PV), r.2))) (some (.inl 1)) rfl rfl rfl ⟨rfl, Or.inl rfl⟩
              · refine ct_zsplit (fun e16 => ?_) (fun e16 => ?_)
                · refine ct_zsw C (off := 97) (k' := 47) rfl (by rw [e16]; rfl) rfl ?_
                  refine ct_zrun C (k' := 50) (y := ([(0, .inr (.inr (6, o))), (1, .inl a1), (2, .inl a2), (3, .inl a3)], [.inl a2, .inr (.inr (2, (G.1 o 1)))], r2)) 3 rfl rfl rfl ?_
                  refine ct_zV C (pc := 134) (aux := 0) [.inl a2] [] ok_X2_areaOf lk_X6_259 (e_X2_areaOf (G.1 o 1) a2) rfl rfl rfl rfl rfl rfl rfl rfl (fun v15 => ?_)
                  exact ct_zret C (pc := 137) (aux := 0) (ins := .ireturn) (ρ := (fun r : Int × ct_H => (some (.inl (r.1) : ct_PV), r.2))) (some (.inl v15)) rfl rfl rfl ⟨rfl, Or.inl rfl⟩
                · refine ct_zsplit (fun e18 => ?_) (fun e18 => ?_)
                  · refine ct_zsw C (off := 106) (k' := 52) rfl (by rw [e18]; rfl) rfl ?_
                    refine ct_zrun C (k' := 55) (y := ([(0, .inr (.inr (6, o))), (1, .inl a1), (2, .inl a2), (3, .inl a3)], [.inl a2, .inr (.inr (2, (G.1 o 1)))], r2)) 3 rfl rfl rfl ?_
                    refine ct_zV C (pc := 143) (aux := 0) [.inl a2] [] ok_X2_pointsHeld lk_X6_262 (e_X2_pointsHeld (G.1 o 1) a2) rfl rfl rfl rfl rfl rfl rfl rfl (fun v17 => ?_)
                    exact ct_zret C (pc := 146) (aux := 0) (ins := .ireturn) (ρ := (fun r : Int × ct_H => (some (.inl (r.1) : ct_PV), r.2))) (some (.inl v17)) rfl rfl rfl ⟨rfl, Or.inl rfl⟩
                  · refine ct_zsw C (off := 115) (k' := 57) rfl (by show (if _ then _ else _) = _; rw [if_pos (by omega)]) rfl ?_
                    refine ct_zrun C (k' := 58) (y := ([(0, .inr (.inr (6, o))), (1, .inl a1), (2, .inl a2), (3, .inl a3)], [.inl (-1)], r2)) 1 rfl rfl rfl ?_
                    exact ct_zret C (pc := 148) (aux := 0) (ins := .ireturn) (ρ := (fun r : Int × ct_H => (some (.inl (r.1) : ct_PV), r.2))) (some (.inl (-1))) rfl rfl rfl ⟨rfl, Or.inl rfl⟩
def f_X6_goes (G : ct_G) (h : ct_H) (o : Nat) (a1 : Int) (a2 : Int) (a3 : Int) : Option (Int × ct_H) := (f_X6_isLevel G h a1).bind fun v1 => if v1 = 0 then (some ((-2), h)) else (f_X2_trace G h (G.1 o 1) a1).bind fun r2 => (f_X2_isLine G r2 (G.1 o 1) a2).bind fun v3 => if v3 = 0 then (some ((-1), r2)) else if 0 ≤ a3 then ((f_X2_lengthOf G r2 (G.1 o 1) a2).bind fun v4 => if v4 ≤ a3 then (some ((-5), r2)) else (f_X2_edgeOf G r2 (G.1 o 1) a2 a3).bind fun v5 => some (v5, r2)) else some ((-1), r2)
set_option maxRecDepth 100000 in
theorem e_X6_goes {d : Nat} {G : ct_G} {h : ct_H} (o : Nat) (a1 : Int) (a2 : Int) (a3 : Int) : ct_E m_X6_goes (d + 5) G (ct_args 0 [.inr (.inr (6, o)), .inl a1, .inl a2, .inl a3]) h (fun r : Int × ct_H => (some (.inl (r.1) : ct_PV), r.2)) (f_X6_goes G h o a1 a2 a3) := by
  intro x C
  unfold f_X6_goes
  show ct_Z x m_X6_goes G 0 [(0, .inr (.inr (6, o))), (1, .inl a1), (2, .inl a2), (3, .inl a3)] [] h (fun a => ct_q x G ((fun r : Int × ct_H => (some (.inl (r.1) : ct_PV), r.2)) a)) _
  refine ct_zrun C (k' := 1) (y := ([(0, .inr (.inr (6, o))), (1, .inl a1), (2, .inl a2), (3, .inl a3)], [.inl a1], h)) 1 rfl rfl rfl ?_
  refine ct_zS C (pc := 1) (aux := 0) [.inl a1] [] ok_X6_isLevel lk_X6_196 (e_X6_isLevel a1) rfl rfl rfl rfl rfl rfl (fun v1 => ?_)
  refine ct_zf0 C (pc := 4) (aux := 0) (cn := .ne) (off := 6) (k' := 5) (a := v1) Iff.rfl rfl rfl rfl (fun e9 => ?_) (fun e9 => ?_)
  · refine ct_zrun C (k' := 4) (y := ([(0, .inr (.inr (6, o))), (1, .inl a1), (2, .inl a2), (3, .inl a3)], [.inl (-2)], h)) 1 rfl rfl rfl ?_
    exact ct_zret C (pc := 9) (aux := 0) (ins := .ireturn) (ρ := (fun r : Int × ct_H => (some (.inl (r.1) : ct_PV), r.2))) (some (.inl (-2))) rfl rfl rfl ⟨rfl, Or.inl rfl⟩
  · refine ct_zrun C (k' := 8) (y := ([(0, .inr (.inr (6, o))), (1, .inl a1), (2, .inl a2), (3, .inl a3)], [.inl a1, .inr (.inr (2, (G.1 o 1)))], h)) 3 rfl rfl rfl ?_
    refine ct_zV C (pc := 15) (aux := 0) [.inl a1] [] ok_X2_trace lk_X6_199 (e_X2_trace (G.1 o 1) a1) rfl rfl rfl rfl rfl rfl rfl rfl (fun r2 => ?_)
    refine ct_zrun C (k' := 12) (y := ([(0, .inr (.inr (6, o))), (1, .inl a1), (2, .inl a2), (3, .inl a3)], [.inl a2, .inr (.inr (2, (G.1 o 1)))], r2)) 3 rfl rfl rfl ?_
    refine ct_zV C (pc := 23) (aux := 0) [.inl a2] [] ok_X2_isLine lk_X6_241 (e_X2_isLine (G.1 o 1) a2) rfl rfl rfl rfl rfl rfl rfl rfl (fun v3 => ?_)
    refine ct_zt0 C (pc := 26) (aux := 0) (cn := .eq) (off := 7) (k' := 16) (a := v3) Iff.rfl rfl rfl rfl (fun e8 => ?_) (fun e8 => ?_)
    · refine ct_zrun C (k' := 17) (y := ([(0, .inr (.inr (6, o))), (1, .inl a1), (2, .inl a2), (3, .inl a3)], [.inl (-1)], r2)) 1 rfl rfl rfl ?_
      exact ct_zret C (pc := 34) (aux := 0) (ins := .ireturn) (ρ := (fun r : Int × ct_H => (some (.inl (r.1) : ct_PV), r.2))) (some (.inl (-1))) rfl rfl rfl ⟨rfl, Or.inl rfl⟩
    · refine ct_zrun C (k' := 15) (y := ([(0, .inr (.inr (6, o))), (1, .inl a1), (2, .inl a2), (3, .inl a3)], [.inl a3], r2)) 1 rfl rfl rfl ?_
      refine ct_zt0 C (pc := 30) (aux := 0) (cn := .ge) (off := 5) (k' := 18) (a := a3) Iff.rfl rfl rfl rfl (fun e7 => ?_) (fun e7 => ?_)
      · refine ct_zrun C (k' := 22) (y := ([(0, .inr (.inr (6, o))), (1, .inl a1), (2, .inl a2), (3, .inl a3)], [.inl a2, .inr (.inr (2, (G.1 o 1))), .inl a3], r2)) 4 rfl rfl rfl ?_
        refine ct_zV C (pc := 41) (aux := 0) [.inl a2] [.inl a3] ok_X2_lengthOf lk_X6_247 (e_X2_lengthOf (G.1 o 1) a2) rfl rfl rfl rfl rfl rfl rfl rfl (fun v4 => ?_)
        refine ct_zt C (pc := 44) (aux := 0) (cn := .ge) (off := 15) (k' := 30) (a := a3) (b := v4) Iff.rfl rfl rfl rfl (fun e6 => ?_) (fun e6 => ?_)
        · refine ct_zrun C (k' := 31) (y := ([(0, .inr (.inr (6, o))), (1, .inl a1), (2, .inl a2), (3, .inl a3)], [.inl (-5)], r2)) 1 rfl rfl rfl ?_
          exact ct_zret C (pc := 61) (aux := 0) (ins := .ireturn) (ρ := (fun r : Int × ct_H => (some (.inl (r.1) : ct_PV), r.2))) (some (.inl (-5))) rfl rfl rfl ⟨rfl, Or.inl rfl⟩
        · refine ct_zrun C (k' := 28) (y := ([(0, .inr (.inr (6, o))), (1, .inl a1), (2, .inl a2), (3, .inl a3)], [.inl a3, .inl a2, .inr (.inr (2, (G.1 o 1)))], r2)) 4 rfl rfl rfl ?_
          refine ct_zV C (pc := 53) (aux := 0) [.inl a2, .inl a3] [] ok_X2_edgeOf lk_X6_265 (e_X2_edgeOf (G.1 o 1) a2 a3) rfl rfl rfl rfl rfl rfl rfl rfl (fun v5 => ?_)
          refine ct_zgoto C (pc := 56) (aux := 0) (off := 5) (k' := 31) rfl rfl ?_
          exact ct_zret C (pc := 61) (aux := 0) (ins := .ireturn) (ρ := (fun r : Int × ct_H => (some (.inl (r.1) : ct_PV), r.2))) (some (.inl v5)) rfl rfl rfl ⟨rfl, Or.inl rfl⟩
      · refine ct_zrun C (k' := 17) (y := ([(0, .inr (.inr (6, o))), (1, .inl a1), (2, .inl a2), (3, .inl a3)], [.inl (-1)], r2)) 1 rfl rfl rfl ?_
        exact ct_zret C (pc := 34) (aux := 0) (ins := .ireturn) (ρ := (fun r : Int × ct_H => (some (.inl (r.1) : ct_PV), r.2))) (some (.inl (-1))) rfl rfl rfl ⟨rfl, Or.inl rfl⟩
def f_X6_holds (G : ct_G) (h : ct_H) (o : Nat) (a1 : Int) (a2 : Int) (a3 : Int) : Option (Int × ct_H) := (f_X6_isLevel G h a1).bind fun v1 => if v1 = 0 then (some ((-2), h)) else (f_X2_trace G h (G.1 o 1) a1).bind fun r2 => (f_X2_isLine G r2 (G.1 o 1) a2).bind fun v3 => if v3 = 0 then (some ((-1), r2)) else (f_X0_isPoint G r2 (G.1 o 0) a3).bind fun v4 => if v4 = 0 then (some ((-1), r2)) else (f_X0_placeOf G r2 (G.1 o 0) a3).bind fun v5 => (f_X2_isHeld G r2 (G.1 o 1) a2 v5).bind fun v6 => if v6 = 0 then (some (0, r2)) else some (1, r2)
set_option maxRecDepth 100000 in
theorem e_X6_holds {d : Nat} {G : ct_G} {h : ct_H} (o : Nat) (a1 : Int) (a2 : Int) (a3 : Int) : ct_E m_X6_holds (d + 5) G (ct_args 0 [.inr (.inr (6, o)), .inl a1, .inl a2, .inl a3]) h (fun r : Int × ct_H => (some (.inl (r.1) : ct_PV), r.2)) (f_X6_holds G h o a1 a2 a3) := by
  intro x C
  unfold f_X6_holds
  show ct_Z x m_X6_holds G 0 [(0, .inr (.inr (6, o))), (1, .inl a1), (2, .inl a2), (3, .inl a3)] [] h (fun a => ct_q x G ((fun r : Int × ct_H => (some (.inl (r.1) : ct_PV), r.2)) a)) _
  refine ct_zrun C (k' := 1) (y := ([(0, .inr (.inr (6, o))), (1, .inl a1), (2, .inl a2), (3, .inl a3)], [.inl a1], h)) 1 rfl rfl rfl ?_
  refine ct_zS C (pc := 1) (aux := 0) [.inl a1] [] ok_X6_isLevel lk_X6_196 (e_X6_isLevel a1) rfl rfl rfl rfl rfl rfl (fun v1 => ?_)
  refine ct_zf0 C (pc := 4) (aux := 0) (cn := .ne) (off := 6) (k' := 5) (a := v1) Iff.rfl rfl rfl rfl (fun e10 => ?_) (fun e10 => ?_)
  · refine ct_zrun C (k' := 4) (y := ([(0, .inr (.inr (6, o))), (1, .inl a1), (2, .inl a2), (3, .inl a3)], [.inl (-2)], h)) 1 rfl rfl rfl ?_
    exact ct_zret C (pc := 9) (aux := 0) (ins := .ireturn) (ρ := (fun r : Int × ct_H => (some (.inl (r.1) : ct_PV), r.2))) (some (.inl (-2))) rfl rfl rfl ⟨rfl, Or.inl rfl⟩
  · refine ct_zrun C (k' := 8) (y := ([(0, .inr (.inr (6, o))), (1, .inl a1), (2, .inl a2), (3, .inl a3)], [.inl a1, .inr (.inr (2, (G.1 o 1)))], h)) 3 rfl rfl rfl ?_
    refine ct_zV C (pc := 15) (aux := 0) [.inl a1] [] ok_X2_trace lk_X6_199 (e_X2_trace (G.1 o 1) a1) rfl rfl rfl rfl rfl rfl rfl rfl (fun r2 => ?_)
    refine ct_zrun C (k' := 12) (y := ([(0, .inr (.inr (6, o))), (1, .inl a1), (2, .inl a2), (3, .inl a3)], [.inl a2, .inr (.inr (2, (G.1 o 1)))], r2)) 3 rfl rfl rfl ?_
    refine ct_zV C (pc := 23) (aux := 0) [.inl a2] [] ok_X2_isLine lk_X6_241 (e_X2_isLine (G.1 o 1) a2) rfl rfl rfl rfl rfl rfl rfl rfl (fun v3 => ?_)
    refine ct_zt0 C (pc := 26) (aux := 0) (cn := .eq) (off := 14) (k' := 19) (a := v3) Iff.rfl rfl rfl rfl (fun e9 => ?_) (fun e9 => ?_)
    · refine ct_zrun C (k' := 20) (y := ([(0, .inr (.inr (6, o))), (1, .inl a1), (2, .inl a2), (3, .inl a3)], [.inl (-1)], r2)) 1 rfl rfl rfl ?_
      exact ct_zret C (pc := 41) (aux := 0) (ins := .ireturn) (ρ := (fun r : Int × ct_H => (some (.inl (r.1) : ct_PV), r.2))) (some (.inl (-1))) rfl rfl rfl ⟨rfl, Or.inl rfl⟩
    · refine ct_zrun C (k' := 17) (y := ([(0, .inr (.inr (6, o))), (1, .inl a1), (2, .inl a2), (3, .inl a3)], [.inl a3, .inr (.inr (0, (G.1 o 0)))], r2)) 3 rfl rfl rfl ?_
      refine ct_zV C (pc := 34) (aux := 0) [.inl a3] [] ok_X0_isPoint lk_X6_106 (e_X0_isPoint (G.1 o 0) a3) rfl rfl rfl rfl rfl rfl rfl rfl (fun v4 => ?_)
      refine ct_zf0 C (pc := 37) (aux := 0) (cn := .ne) (off := 5) (k' := 21) (a := v4) Iff.rfl rfl rfl rfl (fun e8 => ?_) (fun e8 => ?_)
      · refine ct_zrun C (k' := 20) (y := ([(0, .inr (.inr (6, o))), (1, .inl a1), (2, .inl a2), (3, .inl a3)], [.inl (-1)], r2)) 1 rfl rfl rfl ?_
        exact ct_zret C (pc := 41) (aux := 0) (ins := .ireturn) (ρ := (fun r : Int × ct_H => (some (.inl (r.1) : ct_PV), r.2))) (some (.inl (-1))) rfl rfl rfl ⟨rfl, Or.inl rfl⟩
      · refine ct_zrun C (k' := 27) (y := ([(0, .inr (.inr (6, o))), (1, .inl a1), (2, .inl a2), (3, .inl a3)], [.inl a3, .inr (.inr (0, (G.1 o 0))), .inl a2, .inr (.inr (2, (G.1 o 1)))], r2)) 6 rfl rfl rfl ?_
        refine ct_zV C (pc := 52) (aux := 0) [.inl a3] [.inl a2, .inr (.inr (2, (G.1 o 1)))] ok_X0_placeOf lk_X6_268 (e_X0_placeOf (G.1 o 0) a3) rfl rfl rfl rfl rfl rfl rfl rfl (fun v5 => ?_)
        refine ct_zV C (pc := 55) (aux := 0) [.inl a2, .inl v5] [] ok_X2_isHeld lk_X6_271 (e_X2_isHeld (G.1 o 1) a2 v5) rfl rfl rfl rfl rfl rfl rfl rfl (fun v6 => ?_)
        refine ct_zt0 C (pc := 58) (aux := 0) (cn := .eq) (off := 7) (k' := 32) (a := v6) Iff.rfl rfl rfl rfl (fun e7 => ?_) (fun e7 => ?_)
        · refine ct_zrun C (k' := 33) (y := ([(0, .inr (.inr (6, o))), (1, .inl a1), (2, .inl a2), (3, .inl a3)], [.inl 0], r2)) 1 rfl rfl rfl ?_
          exact ct_zret C (pc := 66) (aux := 0) (ins := .ireturn) (ρ := (fun r : Int × ct_H => (some (.inl (r.1) : ct_PV), r.2))) (some (.inl 0)) rfl rfl rfl ⟨rfl, Or.inl rfl⟩
        · refine ct_zrun C (k' := 31) (y := ([(0, .inr (.inr (6, o))), (1, .inl a1), (2, .inl a2), (3, .inl a3)], [.inl 1], r2)) 1 rfl rfl rfl ?_
          refine ct_zgoto C (pc := 62) (aux := 0) (off := 4) (k' := 33) rfl rfl ?_
          exact ct_zret C (pc := 66) (aux := 0) (ins := .ireturn) (ρ := (fun r : Int × ct_H => (some (.inl (r.1) : ct_PV), r.2))) (some (.inl 1)) rfl rfl rfl ⟨rfl, Or.inl rfl⟩
def f_X6_ways (G : ct_G) (h : ct_H) (o : Nat) (a1 : Int) (a2 : Int) (a3 : Int) : Option (Int × ct_H) := (f_X6_isLevel G h a1).bind fun v1 => if v1 = 0 then (some ((-2), h)) else (f_X2_trace G h (G.1 o 1) a1).bind fun r2 => (f_X2_isLine G r2 (G.1 o 1) a2).bind fun v3 => if v3 = 0 then (some ((-1), r2)) else if 0 ≤ a3 then ((f_X2_lengthOf G r2 (G.1 o 1) a2).bind fun v4 => if v4 ≤ a3 then (some ((-5), r2)) else (f_X2_edgeOf G r2 (G.1 o 1) a2 a3).bind fun v5 => (f_X2_wayOver G r2 (G.1 o 1) v5).bind fun v6 => some (v6, r2)) else some ((-1), r2)
set_option maxRecDepth 100000 in
theorem e_X6_ways {d : Nat} {G : ct_G} {h : ct_H} (o : Nat) (a1 : Int) (a2 : Int) (a3 : Int) : ct_E m_X6_ways (d + 5) G (ct_args 0 [.inr (.inr (6, o)), .inl a1, .inl a2, .inl a3]) h (fun r : Int × ct_H => (some (.inl (r.1) : ct_PV), r.2)) (f_X6_ways G h o a1 a2 a3) := by
  intro x C
  unfold f_X6_ways
  show ct_Z x m_X6_ways G 0 [(0, .inr (.inr (6, o))), (1, .inl a1), (2, .inl a2), (3, .inl a3)] [] h (fun a => ct_q x G ((fun r : Int × ct_H => (some (.inl (r.1) : ct_PV), r.2)) a)) _
  refine ct_zrun C (k' := 1) (y := ([(0, .inr (.inr (6, o))), (1, .inl a1), (2, .inl a2), (3, .inl a3)], [.inl a1], h)) 1 rfl rfl rfl ?_
  refine ct_zS C (pc := 1) (aux := 0) [.inl a1] [] ok_X6_isLevel lk_X6_196 (e_X6_isLevel a1) rfl rfl rfl rfl rfl rfl (fun v1 => ?_)
  refine ct_zf0 C (pc := 4) (aux := 0) (cn := .ne) (off := 6) (k' := 5) (a := v1) Iff.rfl rfl rfl rfl (fun e10 => ?_) (fun e10 => ?_)
  · refine ct_zrun C (k' := 4) (y := ([(0, .inr (.inr (6, o))), (1, .inl a1), (2, .inl a2), (3, .inl a3)], [.inl (-2)], h)) 1 rfl rfl rfl ?_
    exact ct_zret C (pc := 9) (aux := 0) (ins := .ireturn) (ρ := (fun r : Int × ct_H => (some (.inl (r.1) : ct_PV), r.2))) (some (.inl (-2))) rfl rfl rfl ⟨rfl, Or.inl rfl⟩
  · refine ct_zrun C (k' := 8) (y := ([(0, .inr (.inr (6, o))), (1, .inl a1), (2, .inl a2), (3, .inl a3)], [.inl a1, .inr (.inr (2, (G.1 o 1)))], h)) 3 rfl rfl rfl ?_
    refine ct_zV C (pc := 15) (aux := 0) [.inl a1] [] ok_X2_trace lk_X6_199 (e_X2_trace (G.1 o 1) a1) rfl rfl rfl rfl rfl rfl rfl rfl (fun r2 => ?_)
    refine ct_zrun C (k' := 12) (y := ([(0, .inr (.inr (6, o))), (1, .inl a1), (2, .inl a2), (3, .inl a3)], [.inl a2, .inr (.inr (2, (G.1 o 1)))], r2)) 3 rfl rfl rfl ?_
    refine ct_zV C (pc := 23) (aux := 0) [.inl a2] [] ok_X2_isLine lk_X6_241 (e_X2_isLine (G.1 o 1) a2) rfl rfl rfl rfl rfl rfl rfl rfl (fun v3 => ?_)
    refine ct_zt0 C (pc := 26) (aux := 0) (cn := .eq) (off := 7) (k' := 16) (a := v3) Iff.rfl rfl rfl rfl (fun e9 => ?_) (fun e9 => ?_)
    · refine ct_zrun C (k' := 17) (y := ([(0, .inr (.inr (6, o))), (1, .inl a1), (2, .inl a2), (3, .inl a3)], [.inl (-1)], r2)) 1 rfl rfl rfl ?_
      exact ct_zret C (pc := 34) (aux := 0) (ins := .ireturn) (ρ := (fun r : Int × ct_H => (some (.inl (r.1) : ct_PV), r.2))) (some (.inl (-1))) rfl rfl rfl ⟨rfl, Or.inl rfl⟩
    · refine ct_zrun C (k' := 15) (y := ([(0, .inr (.inr (6, o))), (1, .inl a1), (2, .inl a2), (3, .inl a3)], [.inl a3], r2)) 1 rfl rfl rfl ?_
      refine ct_zt0 C (pc := 30) (aux := 0) (cn := .ge) (off := 5) (k' := 18) (a := a3) Iff.rfl rfl rfl rfl (fun e8 => ?_) (fun e8 => ?_)
      · refine ct_zrun C (k' := 22) (y := ([(0, .inr (.inr (6, o))), (1, .inl a1), (2, .inl a2), (3, .inl a3)], [.inl a2, .inr (.inr (2, (G.1 o 1))), .inl a3], r2)) 4 rfl rfl rfl ?_
        refine ct_zV C (pc := 41) (aux := 0) [.inl a2] [.inl a3] ok_X2_lengthOf lk_X6_247 (e_X2_lengthOf (G.1 o 1) a2) rfl rfl rfl rfl rfl rfl rfl rfl (fun v4 => ?_)
        refine ct_zt C (pc := 44) (aux := 0) (cn := .ge) (off := 22) (k' := 33) (a := a3) (b := v4) Iff.rfl rfl rfl rfl (fun e7 => ?_) (fun e7 => ?_)
        · refine ct_zrun C (k' := 34) (y := ([(0, .inr (.inr (6, o))), (1, .inl a1), (2, .inl a2), (3, .inl a3)], [.inl (-5)], r2)) 1 rfl rfl rfl ?_
          exact ct_zret C (pc := 68) (aux := 0) (ins := .ireturn) (ρ := (fun r : Int × ct_H => (some (.inl (r.1) : ct_PV), r.2))) (some (.inl (-5))) rfl rfl rfl ⟨rfl, Or.inl rfl⟩
        · refine ct_zrun C (k' := 30) (y := ([(0, .inr (.inr (6, o))), (1, .inl a1), (2, .inl a2), (3, .inl a3)], [.inl a3, .inl a2, .inr (.inr (2, (G.1 o 1))), .inr (.inr (2, (G.1 o 1)))], r2)) 6 rfl rfl rfl ?_
          refine ct_zV C (pc := 57) (aux := 0) [.inl a2, .inl a3] [.inr (.inr (2, (G.1 o 1)))] ok_X2_edgeOf lk_X6_265 (e_X2_edgeOf (G.1 o 1) a2 a3) rfl rfl rfl rfl rfl rfl rfl rfl (fun v5 => ?_)
          refine ct_zV C (pc := 60) (aux := 0) [.inl v5] [] ok_X2_wayOver lk_X6_274 (e_X2_wayOver (G.1 o 1) v5) rfl rfl rfl rfl rfl rfl rfl rfl (fun v6 => ?_)
          refine ct_zgoto C (pc := 63) (aux := 0) (off := 5) (k' := 34) rfl rfl ?_
          exact ct_zret C (pc := 68) (aux := 0) (ins := .ireturn) (ρ := (fun r : Int × ct_H => (some (.inl (r.1) : ct_PV), r.2))) (some (.inl v6)) rfl rfl rfl ⟨rfl, Or.inl rfl⟩
      · refine ct_zrun C (k' := 17) (y := ([(0, .inr (.inr (6, o))), (1, .inl a1), (2, .inl a2), (3, .inl a3)], [.inl (-1)], r2)) 1 rfl rfl rfl ?_
        exact ct_zret C (pc := 34) (aux := 0) (ins := .ireturn) (ρ := (fun r : Int × ct_H => (some (.inl (r.1) : ct_PV), r.2))) (some (.inl (-1))) rfl rfl rfl ⟨rfl, Or.inl rfl⟩
def f_X6_picture (G : ct_G) (h : ct_H) (o : Nat) (a1 : Int) (a2 : Int) : Option (Int) := (f_X6_isLevel G h a1).bind fun v1 => if v1 = 0 then (some (-2)) else if 0 ≤ a2 then (ct_lt (ct_wr ((h.1 (G.1 o 0) 2) + 1)) fun v2 => (ct_dv a2 v2).bind fun v3 => (ct_md a2 v2).bind fun v4 => if (h.1 (G.1 o 0) 1) ≤ v3 then (some (-5)) else ct_jn (β := Unit) (fun k6 => if v3 = (ct_wr ((h.1 (G.1 o 0) 1) - 1)) then (if v4 = (h.1 (G.1 o 0) 2) then (some (-5)) else k6 ()) else k6 ()) (fun b5 => if v4 = (h.1 (G.1 o 0) 2) then (some 47) else (f_X0_heightOf G h (G.1 o 0) (ct_wr ((ct_wr (v3 * (h.1 (G.1 o 0) 2))) + v4))).bind fun v8 => if v8 < a1 then (some 46) else some 35)) else some (-1)
set_option maxRecDepth 100000 in
theorem e_X6_picture {d : Nat} {G : ct_G} {h : ct_H} (o : Nat) (a1 : Int) (a2 : Int) : ct_E m_X6_picture (d + 2) G (ct_args 0 [.inr (.inr (6, o)), .inl a1, .inl a2]) h (fun r : Int => (some (.inl r : ct_PV), h)) (f_X6_picture G h o a1 a2) := by
  intro x C
  unfold f_X6_picture
  show ct_Z x m_X6_picture G 0 [(0, .inr (.inr (6, o))), (1, .inl a1), (2, .inl a2)] [] h (fun a => ct_q x G ((fun r : Int => (some (.inl r : ct_PV), h)) a)) _
  refine ct_zrun C (k' := 1) (y := ([(0, .inr (.inr (6, o))), (1, .inl a1), (2, .inl a2)], [.inl a1], h)) 1 rfl rfl rfl ?_
  refine ct_zS C (pc := 1) (aux := 0) [.inl a1] [] ok_X6_isLevel lk_X6_196 (e_X6_isLevel a1) rfl rfl rfl rfl rfl rfl (fun v1 => ?_)
  refine ct_zf0 C (pc := 4) (aux := 0) (cn := .ne) (off := 6) (k' := 5) (a := v1) Iff.rfl rfl rfl rfl (fun e15 => ?_) (fun e15 => ?_)
  · refine ct_zrun C (k' := 4) (y := ([(0, .inr (.inr (6, o))), (1, .inl a1), (2, .inl a2)], [.inl (-2)], h)) 1 rfl rfl rfl ?_
    exact ct_zret C (pc := 9) (aux := 0) (ins := .ireturn) (ρ := (fun r : Int => (some (.inl r : ct_PV), h))) (some (.inl (-2))) rfl rfl rfl ⟨rfl, Or.inl rfl⟩
  · refine ct_zrun C (k' := 6) (y := ([(0, .inr (.inr (6, o))), (1, .inl a1), (2, .inl a2)], [.inl a2], h)) 1 rfl rfl rfl ?_
    refine ct_zt0 C (pc := 11) (aux := 0) (cn := .ge) (off := 5) (k' := 9) (a := a2) Iff.rfl rfl rfl rfl (fun e14 => ?_) (fun e14 => ?_)
    · refine ct_zrun C (k' := 15) (y := ([(3, .inl (ct_wr ((h.1 (G.1 o 0) 2) + 1))), (0, .inr (.inr (6, o))), (1, .inl a1), (2, .inl a2)], [], h)) 6 rfl rfl rfl ?_
      refine ct_zlet (L := fun v2 => [(3, .inl v2), (0, .inr (.inr (6, o))), (1, .inl a1), (2, .inl a2)]) (S := fun _ => []) (Hh := fun _ => h) (a := (ct_wr ((h.1 (G.1 o 0) 2) + 1))) (fun v2 => ?_)
      refine ct_zrun C (k' := 17) (y := ([(3, .inl v2), (0, .inr (.inr (6, o))), (1, .inl a1), (2, .inl a2)], [.inl v2, .inl a2], h)) 2 rfl rfl rfl ?_
      refine ct_zdv C (pc := 28) (aux := 0) rfl rfl (fun v3 => ?_)
      refine ct_zrun C (k' := 21) (y := ([(4, .inl v3), (3, .inl v2), (0, .inr (.inr (6, o))), (1, .inl a1), (2, .inl a2)], [.inl v2, .inl a2], h)) 3 rfl rfl rfl ?_
      refine ct_zmd C (pc := 33) (aux := 0) rfl rfl (fun v4 => ?_)
      refine ct_zrun C (k' := 27) (y := ([(5, .inl v4), (4, .inl v3), (3, .inl v2), (0, .inr (.inr (6, o))), (1, .inl a1), (2, .inl a2)], [.inl (h.1 (G.1 o 0) 1), .inl v3], h)) 5 rfl rfl rfl ?_
      refine ct_zt C (pc := 45) (aux := 0) (cn := .ge) (off := 29) (k' := 40) (a := v3) (b := (h.1 (G.1 o 0) 1)) Iff.rfl rfl rfl rfl (fun e13 => ?_) (fun e13 => ?_)
      · refine ct_zrun C (k' := 41) (y := ([(5, .inl v4), (4, .inl v3), (3, .inl v2), (0, .inr (.inr (6, o))), (1, .inl a1), (2, .inl a2)], [.inl (-5)], h)) 1 rfl rfl rfl ?_
        exact ct_zret C (pc := 76) (aux := 0) (ins := .ireturn) (ρ := (fun r : Int => (some (.inl r : ct_PV), h))) (some (.inl (-5))) rfl rfl rfl ⟨rfl, Or.inl rfl⟩
      · refine ct_zrun C (k' := 34) (y := ([(5, .inl v4), (4, .inl v3), (3, .inl v2), (0, .inr (.inr (6, o))), (1, .inl a1), (2, .inl a2)], [.inl (ct_wr ((h.1 (G.1 o 0) 1) - 1)), .inl v3], h)) 6 rfl rfl rfl ?_
        refine ct_zjn (β := Unit) (kJ := 42) (L := fun b5 => [(0, .inr (.inr (6, o))), (1, .inl a1), (4, .inl v3), (5, .inl v4)]) (S := fun b5 => []) (Hh := fun b5 => h) (fun b5 => ?_) (fun k6 z7 => ?_)
        · refine ct_zrun C (k' := 46) (y := ([(0, .inr (.inr (6, o))), (1, .inl a1), (4, .inl v3), (5, .inl v4)], [.inl (h.1 (G.1 o 0) 2), .inl v4], h)) 4 rfl rfl rfl ?_
          refine ct_zf C (pc := 86) (aux := 0) (cn := .ne) (off := 6) (k' := 49) (a := v4) (b := (h.1 (G.1 o 0) 2)) Iff.rfl rfl rfl rfl (fun e10 => ?_) (fun e10 => ?_)
          · refine ct_zrun C (k' := 48) (y := ([(0, .inr (.inr (6, o))), (1, .inl a1), (4, .inl v3), (5, .inl v4)], [.inl 47], h)) 1 rfl rfl rfl ?_
            exact ct_zret C (pc := 91) (aux := 0) (ins := .ireturn) (ρ := (fun r : Int => (some (.inl r : ct_PV), h))) (some (.inl 47)) rfl rfl rfl ⟨rfl, Or.inl rfl⟩
          · refine ct_zrun C (k' := 58) (y := ([(0, .inr (.inr (6, o))), (1, .inl a1), (4, .inl v3), (5, .inl v4)], [.inl (ct_wr ((ct_wr (v3 * (h.1 (G.1 o 0) 2))) + v4)), .inr (.inr (0, (G.1 o 0)))], h)) 9 rfl rfl rfl ?_
            refine ct_zV C (pc := 109) (aux := 0) [.inl (ct_wr ((ct_wr (v3 * (h.1 (G.1 o 0) 2))) + v4))] [] ok_X0_heightOf lk_X6_112 (e_X0_heightOf (G.1 o 0) (ct_wr ((ct_wr (v3 * (h.1 (G.1 o 0) 2))) + v4))) rfl rfl rfl rfl rfl rfl rfl rfl (fun v8 => ?_)
            refine ct_zrun C (k' := 60) (y := ([(0, .inr (.inr (6, o))), (1, .inl a1), (4, .inl v3), (5, .inl v4)], [.inl a1, .inl v8], h)) 1 rfl rfl rfl ?_
            refine ct_zt C (pc := 113) (aux := 0) (cn := .lt) (off := 8) (k' := 63) (a := v8) (b := a1) Iff.rfl rfl rfl rfl (fun e9 => ?_) (fun e9 => ?_)
            · refine ct_zrun C (k' := 64) (y := ([(0, .inr (.inr (6, o))), (1, .inl a1), (4, .inl v3), (5, .inl v4)], [.inl 46], h)) 1 rfl rfl rfl ?_
              exact ct_zret C (pc := 123) (aux := 0) (ins := .ireturn) (ρ := (fun r : Int => (some (.inl r : ct_PV), h))) (some (.inl 46)) rfl rfl rfl ⟨rfl, Or.inl rfl⟩
            · refine ct_zrun C (k' := 62) (y := ([(0, .inr (.inr (6, o))), (1, .inl a1), (4, .inl v3), (5, .inl v4)], [.inl 35], h)) 1 rfl rfl rfl ?_
              refine ct_zgoto C (pc := 118) (aux := 0) (off := 5) (k' := 64) rfl rfl ?_
              exact ct_zret C (pc := 123) (aux := 0) (ins := .ireturn) (ρ := (fun r : Int => (some (.inl r : ct_PV), h))) (some (.inl 35)) rfl rfl rfl ⟨rfl, Or.inl rfl⟩
        · refine ct_zf C (pc := 59) (aux := 0) (cn := .ne) (off := 18) (k' := 42) (a := v3) (b := (ct_wr ((h.1 (G.1 o 0) 1) - 1))) Iff.rfl rfl rfl rfl (fun e12 => ?_) (fun e12 => ?_)
          · refine ct_zrun C (k' := 39) (y := ([(5, .inl v4), (4, .inl v3), (3, .inl v2), (0, .inr (.inr (6, o))), (1, .inl a1), (2, .inl a2)], [.inl (h.1 (G.1 o 0) 2), .inl v4], h)) 4 rfl rfl rfl ?_
            refine ct_zf C (pc := 71) (aux := 0) (cn := .ne) (off := 6) (k' := 42) (a := v4) (b := (h.1 (G.1 o 0) 2)) Iff.rfl rfl rfl rfl (fun e11 => ?_) (fun e11 => ?_)
            · refine ct_zrun C (k' := 41) (y := ([(5, .inl v4), (4, .inl v3), (3, .inl v2), (0, .inr (.inr (6, o))), (1, .inl a1), (2, .inl a2)], [.inl (-5)], h)) 1 rfl rfl rfl ?_
              exact ct_zret C (pc := 76) (aux := 0) (ins := .ireturn) (ρ := (fun r : Int => (some (.inl r : ct_PV), h))) (some (.inl (-5))) rfl rfl rfl ⟨rfl, Or.inl rfl⟩
            · exact ct_zsub [3, 4, 1, 0] rfl (z7 ())
          · exact ct_zsub [3, 4, 1, 0] rfl (z7 ())
    · refine ct_zrun C (k' := 8) (y := ([(0, .inr (.inr (6, o))), (1, .inl a1), (2, .inl a2)], [.inl (-1)], h)) 1 rfl rfl rfl ?_
      exact ct_zret C (pc := 15) (aux := 0) (ins := .ireturn) (ρ := (fun r : Int => (some (.inl r : ct_PV), h))) (some (.inl (-1))) rfl rfl rfl ⟨rfl, Or.inl rfl⟩
def f_X6_land (G : ct_G) (h : ct_H) (o : Nat) (a1 : Int) (a2 : Int) : Option (Int × ct_H) := (f_X6_isLevel G h a1).bind fun v1 => if v1 = 0 then (some ((-2), h)) else (f_X0_isPoint G h (G.1 o 0) a2).bind fun v2 => if v2 = 0 then (some ((-1), h)) else (f_X1_find G h (G.1 o 2) a1).bind fun r3 => (f_X0_placeOf G r3 (G.1 o 0) a2).bind fun v4 => (ct_rd G r3 (G.1 (G.1 o 2) 2) v4).bind fun v5 => some (v5, r3)
set_option maxRecDepth 100000 in
theorem e_X6_land {d : Nat} {G : ct_G} {h : ct_H} (o : Nat) (a1 : Int) (a2 : Int) : ct_E m_X6_land (d + 4) G (ct_args 0 [.inr (.inr (6, o)), .inl a1, .inl a2]) h (fun r : Int × ct_H => (some (.inl (r.1) : ct_PV), r.2)) (f_X6_land G h o a1 a2) := by
  intro x C
  unfold f_X6_land
  show ct_Z x m_X6_land G 0 [(0, .inr (.inr (6, o))), (1, .inl a1), (2, .inl a2)] [] h (fun a => ct_q x G ((fun r : Int × ct_H => (some (.inl (r.1) : ct_PV), r.2)) a)) _
  refine ct_zrun C (k' := 1) (y := ([(0, .inr (.inr (6, o))), (1, .inl a1), (2, .inl a2)], [.inl a1], h)) 1 rfl rfl rfl ?_
  refine ct_zS C (pc := 1) (aux := 0) [.inl a1] [] ok_X6_isLevel lk_X6_196 (e_X6_isLevel a1) rfl rfl rfl rfl rfl rfl (fun v1 => ?_)
  refine ct_zf0 C (pc := 4) (aux := 0) (cn := .ne) (off := 6) (k' := 5) (a := v1) Iff.rfl rfl rfl rfl (fun e7 => ?_) (fun e7 => ?_)
  · refine ct_zrun C (k' := 4) (y := ([(0, .inr (.inr (6, o))), (1, .inl a1), (2, .inl a2)], [.inl (-2)], h)) 1 rfl rfl rfl ?_
    exact ct_zret C (pc := 9) (aux := 0) (ins := .ireturn) (ρ := (fun r : Int × ct_H => (some (.inl (r.1) : ct_PV), r.2))) (some (.inl (-2))) rfl rfl rfl ⟨rfl, Or.inl rfl⟩
  · refine ct_zrun C (k' := 8) (y := ([(0, .inr (.inr (6, o))), (1, .inl a1), (2, .inl a2)], [.inl a2, .inr (.inr (0, (G.1 o 0)))], h)) 3 rfl rfl rfl ?_
    refine ct_zV C (pc := 15) (aux := 0) [.inl a2] [] ok_X0_isPoint lk_X6_106 (e_X0_isPoint (G.1 o 0) a2) rfl rfl rfl rfl rfl rfl rfl rfl (fun v2 => ?_)
    refine ct_zf0 C (pc := 18) (aux := 0) (cn := .ne) (off := 5) (k' := 12) (a := v2) Iff.rfl rfl rfl rfl (fun e6 => ?_) (fun e6 => ?_)
    · refine ct_zrun C (k' := 11) (y := ([(0, .inr (.inr (6, o))), (1, .inl a1), (2, .inl a2)], [.inl (-1)], h)) 1 rfl rfl rfl ?_
      exact ct_zret C (pc := 22) (aux := 0) (ins := .ireturn) (ρ := (fun r : Int × ct_H => (some (.inl (r.1) : ct_PV), r.2))) (some (.inl (-1))) rfl rfl rfl ⟨rfl, Or.inl rfl⟩
    · refine ct_zrun C (k' := 15) (y := ([(0, .inr (.inr (6, o))), (1, .inl a1), (2, .inl a2)], [.inl a1, .inr (.inr (1, (G.1 o 2)))], h)) 3 rfl rfl rfl ?_
      refine ct_zV C (pc := 28) (aux := 0) [.inl a1] [] ok_X1_find lk_X6_208 (e_X1_find (G.1 o 2) a1) rfl rfl rfl rfl rfl rfl rfl rfl (fun r3 => ?_)
      refine ct_zrun C (k' := 22) (y := ([(0, .inr (.inr (6, o))), (1, .inl a1), (2, .inl a2)], [.inl a2, .inr (.inr (0, (G.1 o 0))), .inr (.inr (8, (G.1 (G.1 o 2) 2)))], r3)) 6 rfl rfl rfl ?_
      refine ct_zV C (pc := 43) (aux := 0) [.inl a2] [.inr (.inr (8, (G.1 (G.1 o 2) 2)))] ok_X0_placeOf lk_X6_268 (e_X0_placeOf (G.1 o 0) a2) rfl rfl rfl rfl rfl rfl rfl rfl (fun v4 => ?_)
      refine ct_zrd C (pc := 46) (aux := 0) (ins := .iaload) (cd := 8) rfl rfl (Or.inl ⟨rfl, rfl⟩) (fun v5 => ?_)
      exact ct_zret C (pc := 47) (aux := 0) (ins := .ireturn) (ρ := (fun r : Int × ct_H => (some (.inl (r.1) : ct_PV), r.2))) (some (.inl v5)) rfl rfl rfl ⟨rfl, Or.inl rfl⟩
def l_X6_holesOf_8 (G : ct_G) (o : Nat) (a2 : Int) (r1 : ct_H) : Nat → (Int × Int) → Option (Int × ct_H)
  | 0, _ => none
  | n3 + 1, b2 => if (r1.1 (G.1 o 1) 5) ≤ b2.2 then (some (b2.1, r1)) else (f_X2_isOuter G r1 (G.1 o 1) b2.2).bind fun v4 => ct_jn (β := Int) (fun k6 => if v4 = 0 then ((f_X2_leastPlace G r1 (G.1 o 1) b2.2).bind fun v8 => (ct_rd G r1 (G.1 (G.1 o 2) 2) v8).bind fun v9 => if v9 = a2 then (k6 (ct_wr (b2.1 + 1))) else k6 (b2.1)) else k6 (b2.1)) (fun b5 => l_X6_holesOf_8 G o a2 r1 n3 (b5, (ct_wr (b2.2 + 1))))
set_option maxRecDepth 100000 in
theorem zl_X6_holesOf_8 {x : ct_Ctx} {d : Nat} {G : ct_G} (C : ct_c x m_X6_holesOf G (d + 5)) (o : Nat) (a2 : Int) (r1 : ct_H) : ∀ (n3 : Nat) (b2 : Int × Int), ct_Z x m_X6_holesOf G 8 [(0, .inr (.inr (6, o))), (2, .inl a2), (3, .inl (b2.1)), (4, .inl (b2.2))] [] r1 (fun a => ct_q x G ((fun r : Int × ct_H => (some (.inl (r.1) : ct_PV), r.2)) a)) (l_X6_holesOf_8 G o a2 r1 n3 b2) := by
  intro n3
  induction n3 with
  | zero => intro b2; exact ct_znone
  | succ n3 ih =>
    intro b2
    rw [l_X6_holesOf_8]
    refine ct_zrun C (k' := 12) (y := ([(0, .inr (.inr (6, o))), (2, .inl a2), (3, .inl (b2.1)), (4, .inl (b2.2))], [.inl (r1.1 (G.1 o 1) 5), .inl (b2.2)], r1)) 4 rfl rfl rfl ?_
    refine ct_zt C (pc := 22) (aux := 0) (cn := .ge) (off := 45) (k' := 31) (a := b2.2) (b := (r1.1 (G.1 o 1) 5)) Iff.rfl rfl rfl rfl (fun e12 => ?_) (fun e12 => ?_)
    · refine ct_zrun C (k' := 32) (y := ([(0, .inr (.inr (6, o))), (2, .inl a2), (3, .inl (b2.1)), (4, .inl (b2.2))], [.inl (b2.1)], r1)) 1 rfl rfl rfl ?_
      exact ct_zret C (pc := 68) (aux := 0) (ins := .ireturn) (ρ := (fun r : Int × ct_H => (some (.inl (r.1) : ct_PV), r.2))) (some (.inl (b2.1))) rfl rfl rfl ⟨rfl, Or.inl rfl⟩
    · refine ct_zrun C (k' := 16) (y := ([(0, .inr (.inr (6, o))), (2, .inl a2), (3, .inl (b2.1)), (4, .inl (b2.2))], [.inl (b2.2), .inr (.inr (2, (G.1 o 1)))], r1)) 3 rfl rfl rfl ?_
      refine ct_zV C (pc := 31) (aux := 0) [.inl (b2.2)] [] ok_X2_isOuter lk_X6_256 (e_X2_isOuter (G.1 o 1) (b2.2)) rfl rfl rfl rfl rfl rfl rfl rfl (fun v4 => ?_)
      refine ct_zjn (β := Int) (kJ := 29) (L := fun b5 => [(0, .inr (.inr (6, o))), (2, .inl a2), (3, .inl b5), (4, .inl (b2.2))]) (S := fun b5 => []) (Hh := fun b5 => r1) (fun b5 => ?_) (fun k6 z7 => ?_)
      · refine ct_zrun C (k' := 30) (y := ([(4, .inl (ct_wr (b2.2 + 1))), (0, .inr (.inr (6, o))), (2, .inl a2), (3, .inl b5)], [], r1)) 1 rfl rfl rfl ?_
        refine ct_zgoto C (pc := 64) (aux := 0) (off := (-51)) (k' := 8) rfl rfl ?_
        exact ct_zsub [1, 2, 3, 0] rfl (ih (b5, (ct_wr (b2.2 + 1))))
      · refine ct_zf0 C (pc := 34) (aux := 0) (cn := .ne) (off := 27) (k' := 29) (a := v4) Iff.rfl rfl rfl rfl (fun e11 => ?_) (fun e11 => ?_)
        · refine ct_zrun C (k' := 24) (y := ([(0, .inr (.inr (6, o))), (2, .inl a2), (3, .inl (b2.1)), (4, .inl (b2.2))], [.inl (b2.2), .inr (.inr (2, (G.1 o 1))), .inr (.inr (8, (G.1 (G.1 o 2) 2)))], r1)) 6 rfl rfl rfl ?_
          refine ct_zV C (pc := 50) (aux := 0) [.inl (b2.2)] [.inr (.inr (8, (G.1 (G.1 o 2) 2)))] ok_X2_leastPlace lk_X6_295 (e_X2_leastPlace (G.1 o 1) (b2.2)) rfl rfl rfl rfl rfl rfl rfl rfl (fun v8 => ?_)
          refine ct_zrd C (pc := 53) (aux := 0) (ins := .iaload) (cd := 8) rfl rfl (Or.inl ⟨rfl, rfl⟩) (fun v9 => ?_)
          refine ct_zrun C (k' := 27) (y := ([(0, .inr (.inr (6, o))), (2, .inl a2), (3, .inl (b2.1)), (4, .inl (b2.2))], [.inl a2, .inl v9], r1)) 1 rfl rfl rfl ?_
          refine ct_zf C (pc := 55) (aux := 0) (cn := .ne) (off := 6) (k' := 29) (a := v9) (b := a2) Iff.rfl rfl rfl rfl (fun e10 => ?_) (fun e10 => ?_)
          · refine ct_zrun C (k' := 29) (y := ([(3, .inl (ct_wr (b2.1 + 1))), (0, .inr (.inr (6, o))), (2, .inl a2), (4, .inl (b2.2))], [], r1)) 1 rfl rfl rfl ?_
            exact ct_zsub [1, 2, 0, 3] rfl (z7 (ct_wr (b2.1 + 1)))
          · exact ct_zsub [0, 1, 2, 3] rfl (z7 (b2.1))
        · exact ct_zsub [0, 1, 2, 3] rfl (z7 (b2.1))
def f_X6_holesOf (G : ct_G) (h : ct_H) (o : Nat) (a1 : Int) (a2 : Int) : Option (Int × ct_H) := (f_X2_trace G h (G.1 o 1) a1).bind fun r1 => l_X6_holesOf_8 G o a2 r1 200 (0, 0)
set_option maxRecDepth 100000 in
theorem e_X6_holesOf {d : Nat} {G : ct_G} {h : ct_H} (o : Nat) (a1 : Int) (a2 : Int) : ct_E m_X6_holesOf (d + 5) G (ct_args 0 [.inr (.inr (6, o)), .inl a1, .inl a2]) h (fun r : Int × ct_H => (some (.inl (r.1) : ct_PV), r.2)) (f_X6_holesOf G h o a1 a2) := by
  intro x C
  unfold f_X6_holesOf
  show ct_Z x m_X6_holesOf G 0 [(0, .inr (.inr (6, o))), (1, .inl a1), (2, .inl a2)] [] h (fun a => ct_q x G ((fun r : Int × ct_H => (some (.inl (r.1) : ct_PV), r.2)) a)) _
  refine ct_zrun C (k' := 3) (y := ([(0, .inr (.inr (6, o))), (1, .inl a1), (2, .inl a2)], [.inl a1, .inr (.inr (2, (G.1 o 1)))], h)) 3 rfl rfl rfl ?_
  refine ct_zV C (pc := 5) (aux := 0) [.inl a1] [] ok_X2_trace lk_X6_199 (e_X2_trace (G.1 o 1) a1) rfl rfl rfl rfl rfl rfl rfl rfl (fun r1 => ?_)
  refine ct_zrun C (k' := 8) (y := ([(4, .inl 0), (3, .inl 0), (0, .inr (.inr (6, o))), (1, .inl a1), (2, .inl a2)], [], r1)) 4 rfl rfl rfl ?_
  exact ct_zsub [2, 4, 1, 0] rfl (zl_X6_holesOf_8 C o a2 r1 200 (0, 0))
def f_X6_landOf (G : ct_G) (h : ct_H) (o : Nat) (a1 : Int) (a2 : Int) (a3 : Int) : Option (Int × ct_H) := (f_X6_isLevel G h a1).bind fun v1 => if v1 = 0 then (some ((-2), h)) else (f_X1_find G h (G.1 o 2) a1).bind fun r2 => if a2 < 0 then (some ((-1), r2)) else if a2 < (r2.1 (G.1 o 2) 7) then (if a3 = 0 then ((ct_rd G r2 (G.1 (G.1 o 2) 3) a2).bind fun v3 => (f_X0_pointOf G r2 (G.1 o 0) v3).bind fun v4 => some (v4, r2)) else if a3 = 1 then ((ct_rd G r2 (G.1 (G.1 o 2) 4) a2).bind fun v6 => some (v6, r2)) else if a3 = 2 then ((ct_rd G r2 (G.1 (G.1 o 2) 5) a2).bind fun v8 => some (v8, r2)) else if a3 = 3 then ((f_X6_holesOf G r2 o a1 a2).bind fun r10 => some (r10.1, r10.2)) else some ((-1), r2)) else some ((-1), r2)
set_option maxRecDepth 100000 in
theorem e_X6_landOf {d : Nat} {G : ct_G} {h : ct_H} (o : Nat) (a1 : Int) (a2 : Int) (a3 : Int) : ct_E m_X6_landOf (d + 6) G (ct_args 0 [.inr (.inr (6, o)), .inl a1, .inl a2, .inl a3]) h (fun r : Int × ct_H => (some (.inl (r.1) : ct_PV), r.2)) (f_X6_landOf G h o a1 a2 a3) := by
  intro x C
  unfold f_X6_landOf
  show ct_Z x m_X6_landOf G 0 [(0, .inr (.inr (6, o))), (1, .inl a1), (2, .inl a2), (3, .inl a3)] [] h (fun a => ct_q x G ((fun r : Int × ct_H => (some (.inl (r.1) : ct_PV), r.2)) a)) _
  refine ct_zrun C (k' := 1) (y := ([(0, .inr (.inr (6, o))), (1, .inl a1), (2, .inl a2), (3, .inl a3)], [.inl a1], h)) 1 rfl rfl rfl ?_
  refine ct_zS C (pc := 1) (aux := 0) [.inl a1] [] ok_X6_isLevel lk_X6_196 (e_X6_isLevel a1) rfl rfl rfl rfl rfl rfl (fun v1 => ?_)
  refine ct_zf0 C (pc := 4) (aux := 0) (cn := .ne) (off := 6) (k' := 5) (a := v1) Iff.rfl rfl rfl rfl (fun e14 => ?_) (fun e14 => ?_)
  · refine ct_zrun C (k' := 4) (y := ([(0, .inr (.inr (6, o))), (1, .inl a1), (2, .inl a2), (3, .inl a3)], [.inl (-2)], h)) 1 rfl rfl rfl ?_
    exact ct_zret C (pc := 9) (aux := 0) (ins := .ireturn) (ρ := (fun r : Int × ct_H => (some (.inl (r.1) : ct_PV), r.2))) (some (.inl (-2))) rfl rfl rfl ⟨rfl, Or.inl rfl⟩
  · refine ct_zrun C (k' := 8) (y := ([(0, .inr (.inr (6, o))), (1, .inl a1), (2, .inl a2), (3, .inl a3)], [.inl a1, .inr (.inr (1, (G.1 o 2)))], h)) 3 rfl rfl rfl ?_
    refine ct_zV C (pc := 15) (aux := 0) [.inl a1] [] ok_X1_find lk_X6_208 (e_X1_find (G.1 o 2) a1) rfl rfl rfl rfl rfl rfl rfl rfl (fun r2 => ?_)
    refine ct_zrun C (k' := 10) (y := ([(0, .inr (.inr (6, o))), (1, .inl a1), (2, .inl a2), (3, .inl a3)], [.inl a2], r2)) 1 rfl rfl rfl ?_
    refine ct_zt0 C (pc := 19) (aux := 0) (cn := .lt) (off := 14) (k' := 16) (a := a2) Iff.rfl rfl rfl rfl (fun e13 => ?_) (fun e13 => ?_)
    · refine ct_zrun C (k' := 17) (y := ([(0, .inr (.inr (6, o))), (1, .inl a1), (2, .inl a2), (3, .inl a3)], [.inl (-1)], r2)) 1 rfl rfl rfl ?_
      exact ct_zret C (pc := 34) (aux := 0) (ins := .ireturn) (ρ := (fun r : Int × ct_H => (some (.inl (r.1) : ct_PV), r.2))) (some (.inl (-1))) rfl rfl rfl ⟨rfl, Or.inl rfl⟩
    · refine ct_zrun C (k' := 15) (y := ([(0, .inr (.inr (6, o))), (1, .inl a1), (2, .inl a2), (3, .inl a3)], [.inl (r2.1 (G.1 o 2) 7), .inl a2], r2)) 4 rfl rfl rfl ?_
      refine ct_zt C (pc := 30) (aux := 0) (cn := .lt) (off := 5) (k' := 18) (a := a2) (b := (r2.1 (G.1 o 2) 7)) Iff.rfl rfl rfl rfl (fun e12 => ?_) (fun e12 => ?_)
      · refine ct_zrun C (k' := 19) (y := ([(0, .inr (.inr (6, o))), (1, .inl a1), (2, .inl a2), (3, .inl a3)], [.inl a3], r2)) 1 rfl rfl rfl ?_
        refine ct_zsplit (fun e5 => ?_) (fun e5 => ?_)
        · refine ct_zsw C (off := 32) (k' := 20) rfl (by rw [e5]; rfl) rfl ?_
          refine ct_zrun C (k' := 26) (y := ([(0, .inr (.inr (6, o))), (1, .inl a1), (2, .inl a2), (3, .inl a3)], [.inl a2, .inr (.inr (8, (G.1 (G.1 o 2) 3))), .inr (.inr (0, (G.1 o 0)))], r2)) 6 rfl rfl rfl ?_
          refine ct_zrd C (pc := 80) (aux := 0) (ins := .iaload) (cd := 8) rfl rfl (Or.inl ⟨rfl, rfl⟩) (fun v3 => ?_)
          refine ct_zV C (pc := 81) (aux := 0) [.inl v3] [] ok_X0_pointOf lk_X6_283 (e_X0_pointOf (G.1 o 0) v3) rfl rfl rfl rfl rfl rfl rfl rfl (fun v4 => ?_)
          exact ct_zret C (pc := 84) (aux := 0) (ins := .ireturn) (ρ := (fun r : Int × ct_H => (some (.inl (r.1) : ct_PV), r.2))) (some (.inl v4)) rfl rfl rfl ⟨rfl, Or.inl rfl⟩
        · refine ct_zsplit (fun e7 => ?_) (fun e7 => ?_)
          · refine ct_zsw C (off := 49) (k' := 29) rfl (by rw [e7]; rfl) rfl ?_
            refine ct_zrun C (k' := 33) (y := ([(0, .inr (.inr (6, o))), (1, .inl a1), (2, .inl a2), (3, .inl a3)], [.inl a2, .inr (.inr (8, (G.1 (G.1 o 2) 4)))], r2)) 4 rfl rfl rfl ?_
            refine ct_zrd C (pc := 93) (aux := 0) (ins := .iaload) (cd := 8) rfl rfl (Or.inl ⟨rfl, rfl⟩) (fun v6 => ?_)
            exact ct_zret C (pc := 94) (aux := 0) (ins := .ireturn) (ρ := (fun r : Int × ct_H => (some (.inl (r.1) : ct_PV), r.2))) (some (.inl v6)) rfl rfl rfl ⟨rfl, Or.inl rfl⟩
          · refine ct_zsplit (fun e9 => ?_) (fun e9 => ?_)
            · refine ct_zsw C (off := 59) (k' := 35) rfl (by rw [e9]; rfl) rfl ?_
              refine ct_zrun C (k' := 39) (y := ([(0, .inr (.inr (6, o))), (1, .inl a1), (2, .inl a2), (3, .inl a3)], [.inl a2, .inr (.inr (8, (G.1 (G.1 o 2) 5)))], r2)) 4 rfl rfl rfl ?_
              refine ct_zrd C (pc := 103) (aux := 0) (ins := .iaload) (cd := 8) rfl rfl (Or.inl ⟨rfl, rfl⟩) (fun v8 => ?_)
              exact ct_zret C (pc := 104) (aux := 0) (ins := .ireturn) (ρ := (fun r : Int × ct_H => (some (.inl (r.1) : ct_PV), r.2))) (some (.inl v8)) rfl rfl rfl ⟨rfl, Or.inl rfl⟩
            · refine ct_zsplit (fun e11 => ?_) (fun e11 => ?_)
              · refine ct_zsw C (off := 69) (k' := 41) rfl (by rw [e11]; rfl) rfl ?_
                refine ct_zrun C (k' := 44) (y := ([(0, .inr (.inr (6, o))), (1, .inl a1), (2, .inl a2), (3, .inl a3)], [.inl a2, .inl a1, .inr (.inr (6, o))], r2)) 3 rfl rfl rfl ?_
                refine ct_zV C (pc := 108) (aux := 0) [.inl a1, .inl a2] [] ok_X6_holesOf lk_X6_292 (e_X6_holesOf o a1 a2) rfl rfl rfl rfl rfl rfl rfl rfl (fun r10 => ?_)
                exact ct_zret C (pc := 111) (aux := 0) (ins := .ireturn) (ρ := (fun r : Int × ct_H => (some (.inl (r.1) : ct_PV), r.2))) (some (.inl (r10.1))) rfl rfl rfl ⟨rfl, Or.inl rfl⟩
              · refine ct_zsw C (off := 76) (k' := 46) rfl (by show (if _ then _ else _) = _; rw [if_pos (by omega)]) rfl ?_
                refine ct_zrun C (k' := 47) (y := ([(0, .inr (.inr (6, o))), (1, .inl a1), (2, .inl a2), (3, .inl a3)], [.inl (-1)], r2)) 1 rfl rfl rfl ?_
                exact ct_zret C (pc := 113) (aux := 0) (ins := .ireturn) (ρ := (fun r : Int × ct_H => (some (.inl (r.1) : ct_PV), r.2))) (some (.inl (-1))) rfl rfl rfl ⟨rfl, Or.inl rfl⟩
      · refine ct_zrun C (k' := 17) (y := ([(0, .inr (.inr (6, o))), (1, .inl a1), (2, .inl a2), (3, .inl a3)], [.inl (-1)], r2)) 1 rfl rfl rfl ?_
        exact ct_zret C (pc := 34) (aux := 0) (ins := .ireturn) (ρ := (fun r : Int × ct_H => (some (.inl (r.1) : ct_PV), r.2))) (some (.inl (-1))) rfl rfl rfl ⟨rfl, Or.inl rfl⟩
def l_X6_pass_36 (G : ct_G) (o : Nat) (v5 : Int) (v6 : Int) (p7 : Int) : Nat → (Int × Int × ct_H) → Option (Int × ct_H)
  | 0, _ => none
  | n9 + 1, b8 => if b8.2.1 ≤ 0 then (some (b8.1, b8.2.2)) else ct_jn (β := Int × ct_H) (fun k11 => if p7 < (ct_wr (b8.1 + b8.2.1)) then (k11 (b8.1, b8.2.2)) else (f_X1_find G b8.2.2 (G.1 o 2) (ct_wr (b8.1 + b8.2.1))).bind fun r14 => (ct_rd G r14 (G.1 (G.1 o 2) 2) v5).bind fun v15 => (ct_rd G r14 (G.1 (G.1 o 2) 2) v6).bind fun v16 => if v15 = v16 then (ct_lt (ct_wr (b8.1 + b8.2.1)) fun v17 => k11 (v17, r14)) else k11 (b8.1, r14)) (fun b10 => (ct_dv b8.2.1 2).bind fun v13 => l_X6_pass_36 G o v5 v6 p7 n9 (b10.1, v13, b10.2))
set_option maxRecDepth 100000 in
theorem zl_X6_pass_36 {x : ct_Ctx} {d : Nat} {G : ct_G} (C : ct_c x m_X6_pass G (d + 4)) (o : Nat) (v5 : Int) (v6 : Int) (p7 : Int) : ∀ (n9 : Nat) (b8 : Int × Int × ct_H), ct_Z x m_X6_pass G 36 [(0, .inr (.inr (6, o))), (3, .inl p7), (4, .inl v5), (5, .inl v6), (6, .inl (b8.1)), (7, .inl (b8.2.1))] [] b8.2.2 (fun a => ct_q x G ((fun r : Int × ct_H => (some (.inl (r.1) : ct_PV), r.2)) a)) (l_X6_pass_36 G o v5 v6 p7 n9 b8) := by
  intro n9
  induction n9 with
  | zero => intro b8; exact ct_znone
  | succ n9 ih =>
    intro b8
    rw [l_X6_pass_36]
    refine ct_zrun C (k' := 37) (y := ([(0, .inr (.inr (6, o))), (3, .inl p7), (4, .inl v5), (5, .inl v6), (6, .inl (b8.1)), (7, .inl (b8.2.1))], [.inl (b8.2.1)], b8.2.2)) 1 rfl rfl rfl ?_
    refine ct_zt0 C (pc := 73) (aux := 0) (cn := .le) (off := 63) (k' := 69) (a := b8.2.1) Iff.rfl rfl rfl rfl (fun e20 => ?_) (fun e20 => ?_)
    · refine ct_zrun C (k' := 70) (y := ([(0, .inr (.inr (6, o))), (3, .inl p7), (4, .inl v5), (5, .inl v6), (6, .inl (b8.1)), (7, .inl (b8.2.1))], [.inl (b8.1)], b8.2.2)) 1 rfl rfl rfl ?_
      exact ct_zret C (pc := 138) (aux := 0) (ins := .ireturn) (ρ := (fun r : Int × ct_H => (some (.inl (r.1) : ct_PV), r.2))) (some (.inl (b8.1))) rfl rfl rfl ⟨rfl, Or.inl rfl⟩
    · refine ct_zrun C (k' := 42) (y := ([(0, .inr (.inr (6, o))), (3, .inl p7), (4, .inl v5), (5, .inl v6), (6, .inl (b8.1)), (7, .inl (b8.2.1))], [.inl p7, .inl (ct_wr (b8.1 + b8.2.1))], b8.2.2)) 4 rfl rfl rfl ?_
      refine ct_zjn (β := Int × ct_H) (kJ := 64) (L := fun b10 => [(0, .inr (.inr (6, o))), (3, .inl p7), (4, .inl v5), (5, .inl v6), (6, .inl (b10.1)), (7, .inl (b8.2.1))]) (S := fun b10 => []) (Hh := fun b10 => b10.2) (fun b10 => ?_) (fun k11 z12 => ?_)
      · refine ct_zrun C (k' := 66) (y := ([(0, .inr (.inr (6, o))), (3, .inl p7), (4, .inl v5), (5, .inl v6), (6, .inl (b10.1)), (7, .inl (b8.2.1))], [.inl 2, .inl (b8.2.1)], b10.2)) 2 rfl rfl rfl ?_
        refine ct_zdv C (pc := 130) (aux := 0) rfl rfl (fun v13 => ?_)
        refine ct_zrun C (k' := 68) (y := ([(7, .inl v13), (0, .inr (.inr (6, o))), (3, .inl p7), (4, .inl v5), (5, .inl v6), (6, .inl (b10.1))], [], b10.2)) 1 rfl rfl rfl ?_
        refine ct_zgoto C (pc := 133) (aux := 0) (off := (-62)) (k' := 36) rfl rfl ?_
        exact ct_zsub [1, 2, 3, 4, 5, 0] rfl (ih (b10.1, v13, b10.2))
      · refine ct_zt C (pc := 82) (aux := 0) (cn := .gt) (off := 45) (k' := 64) (a := (ct_wr (b8.1 + b8.2.1))) (b := p7) Iff.rfl rfl rfl rfl (fun e19 => ?_) (fun e19 => ?_)
        · exact ct_zsub [0, 1, 2, 3, 4, 5] rfl (z12 (b8.1, b8.2.2))
        · refine ct_zrun C (k' := 48) (y := ([(0, .inr (.inr (6, o))), (3, .inl p7), (4, .inl v5), (5, .inl v6), (6, .inl (b8.1)), (7, .inl (b8.2.1))], [.inl (ct_wr (b8.1 + b8.2.1)), .inr (.inr (1, (G.1 o 2)))], b8.2.2)) 5 rfl rfl rfl ?_
          refine ct_zV C (pc := 94) (aux := 0) [.inl (ct_wr (b8.1 + b8.2.1))] [] ok_X1_find lk_X6_208 (e_X1_find (G.1 o 2) (ct_wr (b8.1 + b8.2.1))) rfl rfl rfl rfl rfl rfl rfl rfl (fun r14 => ?_)
          refine ct_zrun C (k' := 53) (y := ([(0, .inr (.inr (6, o))), (3, .inl p7), (4, .inl v5), (5, .inl v6), (6, .inl (b8.1)), (7, .inl (b8.2.1))], [.inl v5, .inr (.inr (8, (G.1 (G.1 o 2) 2)))], r14)) 4 rfl rfl rfl ?_
          refine ct_zrd C (pc := 106) (aux := 0) (ins := .iaload) (cd := 8) rfl rfl (Or.inl ⟨rfl, rfl⟩) (fun v15 => ?_)
          refine ct_zrun C (k' := 58) (y := ([(0, .inr (.inr (6, o))), (3, .inl p7), (4, .inl v5), (5, .inl v6), (6, .inl (b8.1)), (7, .inl (b8.2.1))], [.inl v6, .inr (.inr (8, (G.1 (G.1 o 2) 2))), .inl v15], r14)) 4 rfl rfl rfl ?_
          refine ct_zrd C (pc := 116) (aux := 0) (ins := .iaload) (cd := 8) rfl rfl (Or.inl ⟨rfl, rfl⟩) (fun v16 => ?_)
          refine ct_zf C (pc := 117) (aux := 0) (cn := .ne) (off := 10) (k' := 64) (a := v15) (b := v16) Iff.rfl rfl rfl rfl (fun e18 => ?_) (fun e18 => ?_)
          · refine ct_zrun C (k' := 64) (y := ([(6, .inl (ct_wr (b8.1 + b8.2.1))), (0, .inr (.inr (6, o))), (3, .inl p7), (4, .inl v5), (5, .inl v6), (7, .inl (b8.2.1))], [], r14)) 4 rfl rfl rfl ?_
            refine ct_zlet (L := fun v17 => [(6, .inl v17), (0, .inr (.inr (6, o))), (3, .inl p7), (4, .inl v5), (5, .inl v6), (7, .inl (b8.2.1))]) (S := fun _ => []) (Hh := fun _ => r14) (a := (ct_wr (b8.1 + b8.2.1))) (fun v17 => ?_)
            exact ct_zsub [1, 2, 3, 4, 0, 5] rfl (z12 (v17, r14))
          · exact ct_zsub [0, 1, 2, 3, 4, 5] rfl (z12 (b8.1, r14))
def f_X6_pass (G : ct_G) (h : ct_H) (o : Nat) (a1 : Int) (a2 : Int) : Option (Int × ct_H) := (f_X0_isPoint G h (G.1 o 0) a1).bind fun v1 => if v1 = 0 then (some ((-1), h)) else (f_X0_isPoint G h (G.1 o 0) a2).bind fun v2 => if v2 = 0 then (some ((-1), h)) else (f_X0_heightOf G h (G.1 o 0) a1).bind fun v3 => (f_X0_heightOf G h (G.1 o 0) a2).bind fun v4 => (f_X0_placeOf G h (G.1 o 0) a1).bind fun v5 => (f_X0_placeOf G h (G.1 o 0) a2).bind fun v6 => l_X6_pass_36 G o v5 v6 (ct_min v3 v4) 200 (0, 64, h)
set_option maxRecDepth 100000 in
theorem e_X6_pass {d : Nat} {G : ct_G} {h : ct_H} (o : Nat) (a1 : Int) (a2 : Int) : ct_E m_X6_pass (d + 4) G (ct_args 0 [.inr (.inr (6, o)), .inl a1, .inl a2]) h (fun r : Int × ct_H => (some (.inl (r.1) : ct_PV), r.2)) (f_X6_pass G h o a1 a2) := by
  intro x C
  unfold f_X6_pass
  show ct_Z x m_X6_pass G 0 [(0, .inr (.inr (6, o))), (1, .inl a1), (2, .inl a2)] [] h (fun a => ct_q x G ((fun r : Int × ct_H => (some (.inl (r.1) : ct_PV), r.2)) a)) _
  refine ct_zrun C (k' := 3) (y := ([(0, .inr (.inr (6, o))), (1, .inl a1), (2, .inl a2)], [.inl a1, .inr (.inr (0, (G.1 o 0)))], h)) 3 rfl rfl rfl ?_
  refine ct_zV C (pc := 5) (aux := 0) [.inl a1] [] ok_X0_isPoint lk_X6_106 (e_X0_isPoint (G.1 o 0) a1) rfl rfl rfl rfl rfl rfl rfl rfl (fun v1 => ?_)
  refine ct_zt0 C (pc := 8) (aux := 0) (cn := .eq) (off := 14) (k' := 10) (a := v1) Iff.rfl rfl rfl rfl (fun e22 => ?_) (fun e22 => ?_)
  · refine ct_zrun C (k' := 11) (y := ([(0, .inr (.inr (6, o))), (1, .inl a1), (2, .inl a2)], [.inl (-1)], h)) 1 rfl rfl rfl ?_
    exact ct_zret C (pc := 23) (aux := 0) (ins := .ireturn) (ρ := (fun r : Int × ct_H => (some (.inl (r.1) : ct_PV), r.2))) (some (.inl (-1))) rfl rfl rfl ⟨rfl, Or.inl rfl⟩
  · refine ct_zrun C (k' := 8) (y := ([(0, .inr (.inr (6, o))), (1, .inl a1), (2, .inl a2)], [.inl a2, .inr (.inr (0, (G.1 o 0)))], h)) 3 rfl rfl rfl ?_
    refine ct_zV C (pc := 16) (aux := 0) [.inl a2] [] ok_X0_isPoint lk_X6_106 (e_X0_isPoint (G.1 o 0) a2) rfl rfl rfl rfl rfl rfl rfl rfl (fun v2 => ?_)
    refine ct_zf0 C (pc := 19) (aux := 0) (cn := .ne) (off := 5) (k' := 12) (a := v2) Iff.rfl rfl rfl rfl (fun e21 => ?_) (fun e21 => ?_)
    · refine ct_zrun C (k' := 11) (y := ([(0, .inr (.inr (6, o))), (1, .inl a1), (2, .inl a2)], [.inl (-1)], h)) 1 rfl rfl rfl ?_
      exact ct_zret C (pc := 23) (aux := 0) (ins := .ireturn) (ρ := (fun r : Int × ct_H => (some (.inl (r.1) : ct_PV), r.2))) (some (.inl (-1))) rfl rfl rfl ⟨rfl, Or.inl rfl⟩
    · refine ct_zrun C (k' := 15) (y := ([(0, .inr (.inr (6, o))), (1, .inl a1), (2, .inl a2)], [.inl a1, .inr (.inr (0, (G.1 o 0)))], h)) 3 rfl rfl rfl ?_
      refine ct_zV C (pc := 29) (aux := 0) [.inl a1] [] ok_X0_heightOf lk_X6_112 (e_X0_heightOf (G.1 o 0) a1) rfl rfl rfl rfl rfl rfl rfl rfl (fun v3 => ?_)
      refine ct_zrun C (k' := 19) (y := ([(0, .inr (.inr (6, o))), (1, .inl a1), (2, .inl a2)], [.inl a2, .inr (.inr (0, (G.1 o 0))), .inl v3], h)) 3 rfl rfl rfl ?_
      refine ct_zV C (pc := 37) (aux := 0) [.inl a2] [.inl v3] ok_X0_heightOf lk_X6_112 (e_X0_heightOf (G.1 o 0) a2) rfl rfl rfl rfl rfl rfl rfl rfl (fun v4 => ?_)
      refine ct_zmin C (pc := 40) (aux := 0) lk_X6_298 rfl rfl rfl ?_
      refine ct_zrun C (k' := 25) (y := ([(3, .inl (ct_min v3 v4)), (0, .inr (.inr (6, o))), (1, .inl a1), (2, .inl a2)], [.inl a1, .inr (.inr (0, (G.1 o 0)))], h)) 4 rfl rfl rfl ?_
      refine ct_zV C (pc := 49) (aux := 0) [.inl a1] [] ok_X0_placeOf lk_X6_268 (e_X0_placeOf (G.1 o 0) a1) rfl rfl rfl rfl rfl rfl rfl rfl (fun v5 => ?_)
      refine ct_zrun C (k' := 30) (y := ([(4, .inl v5), (3, .inl (ct_min v3 v4)), (0, .inr (.inr (6, o))), (1, .inl a1), (2, .inl a2)], [.inl a2, .inr (.inr (0, (G.1 o 0)))], h)) 4 rfl rfl rfl ?_
      refine ct_zV C (pc := 59) (aux := 0) [.inl a2] [] ok_X0_placeOf lk_X6_268 (e_X0_placeOf (G.1 o 0) a2) rfl rfl rfl rfl rfl rfl rfl rfl (fun v6 => ?_)
      refine ct_zrun C (k' := 36) (y := ([(7, .inl 64), (6, .inl 0), (5, .inl v6), (4, .inl v5), (3, .inl (ct_min v3 v4)), (0, .inr (.inr (6, o))), (1, .inl a1), (2, .inl a2)], [], h)) 5 rfl rfl rfl ?_
      exact ct_zsub [5, 4, 3, 2, 1, 0] rfl (zl_X6_pass_36 C o v5 v6 (ct_min v3 v4) 200 (0, 64, h))
def l_X6_stands_21 (G : ct_G) (o : Nat) (v2 : Int) (v3 : Int) : Nat → (Int × Int × ct_H) → Option (Int × ct_H)
  | 0, _ => none
  | n5 + 1, b4 => if b4.2.1 ≤ 0 then (some ((ct_wr (v2 - b4.1)), b4.2.2)) else ct_jn (β := Int × ct_H) (fun k7 => if v2 < (ct_wr (b4.1 + b4.2.1)) then (k7 (b4.1, b4.2.2)) else (f_X1_find G b4.2.2 (G.1 o 2) (ct_wr (b4.1 + b4.2.1))).bind fun r10 => (f_X1_topAround G r10 (G.1 o 2) v3).bind fun v11 => if v11 ≤ v2 then (k7 (b4.1, r10)) else ct_lt (ct_wr (b4.1 + b4.2.1)) fun v12 => k7 (v12, r10)) (fun b6 => (ct_dv b4.2.1 2).bind fun v9 => l_X6_stands_21 G o v2 v3 n5 (b6.1, v9, b6.2))
set_option maxRecDepth 100000 in
theorem zl_X6_stands_21 {x : ct_Ctx} {d : Nat} {G : ct_G} (C : ct_c x m_X6_stands G (d + 4)) (o : Nat) (v2 : Int) (v3 : Int) : ∀ (n5 : Nat) (b4 : Int × Int × ct_H), ct_Z x m_X6_stands G 21 [(0, .inr (.inr (6, o))), (2, .inl v2), (3, .inl v3), (4, .inl (b4.1)), (5, .inl (b4.2.1))] [] b4.2.2 (fun a => ct_q x G ((fun r : Int × ct_H => (some (.inl (r.1) : ct_PV), r.2)) a)) (l_X6_stands_21 G o v2 v3 n5 b4) := by
  intro n5
  induction n5 with
  | zero => intro b4; exact ct_znone
  | succ n5 ih =>
    intro b4
    rw [l_X6_stands_21]
    refine ct_zrun C (k' := 22) (y := ([(0, .inr (.inr (6, o))), (2, .inl v2), (3, .inl v3), (4, .inl (b4.1)), (5, .inl (b4.2.1))], [.inl (b4.2.1)], b4.2.2)) 1 rfl rfl rfl ?_
    refine ct_zt0 C (pc := 40) (aux := 0) (cn := .le) (off := 52) (k' := 49) (a := b4.2.1) Iff.rfl rfl rfl rfl (fun e15 => ?_) (fun e15 => ?_)
    · refine ct_zrun C (k' := 52) (y := ([(0, .inr (.inr (6, o))), (2, .inl v2), (3, .inl v3), (4, .inl (b4.1)), (5, .inl (b4.2.1))], [.inl (ct_wr (v2 - b4.1))], b4.2.2)) 3 rfl rfl rfl ?_
      exact ct_zret C (pc := 96) (aux := 0) (ins := .ireturn) (ρ := (fun r : Int × ct_H => (some (.inl (r.1) : ct_PV), r.2))) (some (.inl (ct_wr (v2 - b4.1)))) rfl rfl rfl ⟨rfl, Or.inl rfl⟩
    · refine ct_zrun C (k' := 27) (y := ([(0, .inr (.inr (6, o))), (2, .inl v2), (3, .inl v3), (4, .inl (b4.1)), (5, .inl (b4.2.1))], [.inl v2, .inl (ct_wr (b4.1 + b4.2.1))], b4.2.2)) 4 rfl rfl rfl ?_
      refine ct_zjn (β := Int × ct_H) (kJ := 44) (L := fun b6 => [(0, .inr (.inr (6, o))), (2, .inl v2), (3, .inl v3), (4, .inl (b6.1)), (5, .inl (b4.2.1))]) (S := fun b6 => []) (Hh := fun b6 => b6.2) (fun b6 => ?_) (fun k7 z8 => ?_)
      · refine ct_zrun C (k' := 46) (y := ([(0, .inr (.inr (6, o))), (2, .inl v2), (3, .inl v3), (4, .inl (b6.1)), (5, .inl (b4.2.1))], [.inl 2, .inl (b4.2.1)], b6.2)) 2 rfl rfl rfl ?_
        refine ct_zdv C (pc := 86) (aux := 0) rfl rfl (fun v9 => ?_)
        refine ct_zrun C (k' := 48) (y := ([(5, .inl v9), (0, .inr (.inr (6, o))), (2, .inl v2), (3, .inl v3), (4, .inl (b6.1))], [], b6.2)) 1 rfl rfl rfl ?_
        refine ct_zgoto C (pc := 89) (aux := 0) (off := (-51)) (k' := 21) rfl rfl ?_
        exact ct_zsub [1, 2, 3, 4, 0] rfl (ih (b6.1, v9, b6.2))
      · refine ct_zt C (pc := 49) (aux := 0) (cn := .gt) (off := 34) (k' := 44) (a := (ct_wr (b4.1 + b4.2.1))) (b := v2) Iff.rfl rfl rfl rfl (fun e14 => ?_) (fun e14 => ?_)
        · exact ct_zsub [0, 1, 2, 3, 4] rfl (z8 (b4.1, b4.2.2))
        · refine ct_zrun C (k' := 33) (y := ([(0, .inr (.inr (6, o))), (2, .inl v2), (3, .inl v3), (4, .inl (b4.1)), (5, .inl (b4.2.1))], [.inl (ct_wr (b4.1 + b4.2.1)), .inr (.inr (1, (G.1 o 2)))], b4.2.2)) 5 rfl rfl rfl ?_
          refine ct_zV C (pc := 61) (aux := 0) [.inl (ct_wr (b4.1 + b4.2.1))] [] ok_X1_find lk_X6_208 (e_X1_find (G.1 o 2) (ct_wr (b4.1 + b4.2.1))) rfl rfl rfl rfl rfl rfl rfl rfl (fun r10 => ?_)
          refine ct_zrun C (k' := 37) (y := ([(0, .inr (.inr (6, o))), (2, .inl v2), (3, .inl v3), (4, .inl (b4.1)), (5, .inl (b4.2.1))], [.inl v3, .inr (.inr (1, (G.1 o 2)))], r10)) 3 rfl rfl rfl ?_
          refine ct_zV C (pc := 69) (aux := 0) [.inl v3] [] ok_X1_topAround lk_X6_303 (e_X1_topAround (G.1 o 2) v3) rfl rfl rfl rfl rfl rfl rfl rfl (fun v11 => ?_)
          refine ct_zrun C (k' := 39) (y := ([(0, .inr (.inr (6, o))), (2, .inl v2), (3, .inl v3), (4, .inl (b4.1)), (5, .inl (b4.2.1))], [.inl v2, .inl v11], r10)) 1 rfl rfl rfl ?_
          refine ct_zt C (pc := 73) (aux := 0) (cn := .le) (off := 10) (k' := 44) (a := v11) (b := v2) Iff.rfl rfl rfl rfl (fun e13 => ?_) (fun e13 => ?_)
          · exact ct_zsub [0, 1, 2, 3, 4] rfl (z8 (b4.1, r10))
          · refine ct_zrun C (k' := 44) (y := ([(4, .inl (ct_wr (b4.1 + b4.2.1))), (0, .inr (.inr (6, o))), (2, .inl v2), (3, .inl v3), (5, .inl (b4.2.1))], [], r10)) 4 rfl rfl rfl ?_
            refine ct_zlet (L := fun v12 => [(4, .inl v12), (0, .inr (.inr (6, o))), (2, .inl v2), (3, .inl v3), (5, .inl (b4.2.1))]) (S := fun _ => []) (Hh := fun _ => r10) (a := (ct_wr (b4.1 + b4.2.1))) (fun v12 => ?_)
            exact ct_zsub [1, 2, 3, 0, 4] rfl (z8 (v12, r10))
def f_X6_stands (G : ct_G) (h : ct_H) (o : Nat) (a1 : Int) : Option (Int × ct_H) := (f_X0_isPoint G h (G.1 o 0) a1).bind fun v1 => if v1 = 0 then (some ((-1), h)) else (f_X0_heightOf G h (G.1 o 0) a1).bind fun v2 => (f_X0_placeOf G h (G.1 o 0) a1).bind fun v3 => l_X6_stands_21 G o v2 v3 200 (0, 64, h)
set_option maxRecDepth 100000 in
theorem e_X6_stands {d : Nat} {G : ct_G} {h : ct_H} (o : Nat) (a1 : Int) : ct_E m_X6_stands (d + 4) G (ct_args 0 [.inr (.inr (6, o)), .inl a1]) h (fun r : Int × ct_H => (some (.inl (r.1) : ct_PV), r.2)) (f_X6_stands G h o a1) := by
  intro x C
  unfold f_X6_stands
  show ct_Z x m_X6_stands G 0 [(0, .inr (.inr (6, o))), (1, .inl a1)] [] h (fun a => ct_q x G ((fun r : Int × ct_H => (some (.inl (r.1) : ct_PV), r.2)) a)) _
  refine ct_zrun C (k' := 3) (y := ([(0, .inr (.inr (6, o))), (1, .inl a1)], [.inl a1, .inr (.inr (0, (G.1 o 0)))], h)) 3 rfl rfl rfl ?_
  refine ct_zV C (pc := 5) (aux := 0) [.inl a1] [] ok_X0_isPoint lk_X6_106 (e_X0_isPoint (G.1 o 0) a1) rfl rfl rfl rfl rfl rfl rfl rfl (fun v1 => ?_)
  refine ct_zf0 C (pc := 8) (aux := 0) (cn := .ne) (off := 5) (k' := 7) (a := v1) Iff.rfl rfl rfl rfl (fun e16 => ?_) (fun e16 => ?_)
  · refine ct_zrun C (k' := 6) (y := ([(0, .inr (.inr (6, o))), (1, .inl a1)], [.inl (-1)], h)) 1 rfl rfl rfl ?_
    exact ct_zret C (pc := 12) (aux := 0) (ins := .ireturn) (ρ := (fun r : Int × ct_H => (some (.inl (r.1) : ct_PV), r.2))) (some (.inl (-1))) rfl rfl rfl ⟨rfl, Or.inl rfl⟩
  · refine ct_zrun C (k' := 10) (y := ([(0, .inr (.inr (6, o))), (1, .inl a1)], [.inl a1, .inr (.inr (0, (G.1 o 0)))], h)) 3 rfl rfl rfl ?_
    refine ct_zV C (pc := 18) (aux := 0) [.inl a1] [] ok_X0_heightOf lk_X6_112 (e_X0_heightOf (G.1 o 0) a1) rfl rfl rfl rfl rfl rfl rfl rfl (fun v2 => ?_)
    refine ct_zrun C (k' := 15) (y := ([(2, .inl v2), (0, .inr (.inr (6, o))), (1, .inl a1)], [.inl a1, .inr (.inr (0, (G.1 o 0)))], h)) 4 rfl rfl rfl ?_
    refine ct_zV C (pc := 27) (aux := 0) [.inl a1] [] ok_X0_placeOf lk_X6_268 (e_X0_placeOf (G.1 o 0) a1) rfl rfl rfl rfl rfl rfl rfl rfl (fun v3 => ?_)
    refine ct_zrun C (k' := 21) (y := ([(5, .inl 64), (4, .inl 0), (3, .inl v3), (2, .inl v2), (0, .inr (.inr (6, o))), (1, .inl a1)], [], h)) 5 rfl rfl rfl ?_
    exact ct_zsub [4, 3, 2, 1, 0] rfl (zl_X6_stands_21 C o v2 v3 200 (0, 64, h))
def l_X6_countChildren_10 (G : ct_G) (a0 : Nat) (a1 : Nat) : Nat → (Int × ct_H) → Option (ct_H)
  | 0, _ => none
  | n4 + 1, b3 => if (b3.2.1 a1 7) ≤ b3.1 then (some (b3.2)) else (ct_rd G b3.2 (G.1 a1 3) b3.1).bind fun v5 => (f_X1_addChild G b3.2 a0 v5).bind fun r6 => l_X6_countChildren_10 G a0 a1 n4 ((ct_wr (b3.1 + 1)), r6)
set_option maxRecDepth 100000 in
theorem zl_X6_countChildren_10 {x : ct_Ctx} {d : Nat} {G : ct_G} (C : ct_c x m_X6_countChildren G (d + 4)) (a0 : Nat) (a1 : Nat) : ∀ (n4 : Nat) (b3 : Int × ct_H), ct_Z x m_X6_countChildren G 10 [(0, .inr (.inr (1, a0))), (1, .inr (.inr (1, a1))), (3, .inl (b3.1))] [] b3.2 (fun a => ct_q x G ((fun r : ct_H => ((none : Option ct_PV), r)) a)) (l_X6_countChildren_10 G a0 a1 n4 b3) := by
  intro n4
  induction n4 with
  | zero => intro b3; exact ct_znone
  | succ n4 ih =>
    intro b3
    rw [l_X6_countChildren_10]
    refine ct_zrun C (k' := 13) (y := ([(0, .inr (.inr (1, a0))), (1, .inr (.inr (1, a1))), (3, .inl (b3.1))], [.inl (b3.2.1 a1 7), .inl (b3.1)], b3.2)) 3 rfl rfl rfl ?_
    refine ct_zt C (pc := 22) (aux := 0) (cn := .ge) (off := 19) (k' := 22) (a := b3.1) (b := (b3.2.1 a1 7)) Iff.rfl rfl rfl rfl (fun e7 => ?_) (fun e7 => ?_)
    · exact ct_zret C (pc := 41) (aux := 0) (ins := .return_) (ρ := (fun r : ct_H => ((none : Option ct_PV), r))) none rfl rfl rfl ⟨rfl, rfl⟩
    · refine ct_zrun C (k' := 18) (y := ([(0, .inr (.inr (1, a0))), (1, .inr (.inr (1, a1))), (3, .inl (b3.1))], [.inl (b3.1), .inr (.inr (8, (G.1 a1 3))), .inr (.inr (1, a0))], b3.2)) 4 rfl rfl rfl ?_
      refine ct_zrd C (pc := 31) (aux := 0) (ins := .iaload) (cd := 8) rfl rfl (Or.inl ⟨rfl, rfl⟩) (fun v5 => ?_)
      refine ct_zV C (pc := 32) (aux := 0) [.inl v5] [] ok_X1_addChild lk_X6_319 (e_X1_addChild a0 v5) rfl rfl rfl rfl rfl rfl rfl rfl (fun r6 => ?_)
      refine ct_zrun C (k' := 21) (y := ([(3, .inl (ct_wr (b3.1 + 1))), (0, .inr (.inr (1, a0))), (1, .inr (.inr (1, a1)))], [], r6)) 1 rfl rfl rfl ?_
      refine ct_zgoto C (pc := 38) (aux := 0) (off := (-21)) (k' := 10) rfl rfl ?_
      exact ct_zsub [1, 2, 0] rfl (ih ((ct_wr (b3.1 + 1)), r6))
def f_X6_countChildren (G : ct_G) (h : ct_H) (a0 : Nat) (a1 : Nat) (a2 : Int) : Option (ct_H) := (f_X1_clearChildren G h a0).bind fun r1 => if 100 ≤ a2 then (some r1) else (f_X1_find G r1 a1 a2).bind fun r2 => l_X6_countChildren_10 G a0 a1 200 (0, r2)
set_option maxRecDepth 100000 in
theorem e_X6_countChildren {d : Nat} {G : ct_G} {h : ct_H} (a0 : Nat) (a1 : Nat) (a2 : Int) : ct_E m_X6_countChildren (d + 4) G (ct_args 0 [.inr (.inr (1, a0)), .inr (.inr (1, a1)), .inl a2]) h (fun r : ct_H => ((none : Option ct_PV), r)) (f_X6_countChildren G h a0 a1 a2) := by
  intro x C
  unfold f_X6_countChildren
  show ct_Z x m_X6_countChildren G 0 [(0, .inr (.inr (1, a0))), (1, .inr (.inr (1, a1))), (2, .inl a2)] [] h (fun a => ct_q x G ((fun r : ct_H => ((none : Option ct_PV), r)) a)) _
  refine ct_zrun C (k' := 1) (y := ([(0, .inr (.inr (1, a0))), (1, .inr (.inr (1, a1))), (2, .inl a2)], [.inr (.inr (1, a0))], h)) 1 rfl rfl rfl ?_
  refine ct_zV C (pc := 1) (aux := 0) [] [] ok_X1_clearChildren lk_X6_316 (e_X1_clearChildren a0) rfl rfl rfl rfl rfl rfl rfl rfl (fun r1 => ?_)
  refine ct_zrun C (k' := 4) (y := ([(0, .inr (.inr (1, a0))), (1, .inr (.inr (1, a1))), (2, .inl a2)], [.inl 100, .inl a2], r1)) 2 rfl rfl rfl ?_
  refine ct_zt C (pc := 7) (aux := 0) (cn := .ge) (off := 34) (k' := 22) (a := a2) (b := 100) Iff.rfl rfl rfl rfl (fun e8 => ?_) (fun e8 => ?_)
  · exact ct_zret C (pc := 41) (aux := 0) (ins := .return_) (ρ := (fun r : ct_H => ((none : Option ct_PV), r))) none rfl rfl rfl ⟨rfl, rfl⟩
  · refine ct_zrun C (k' := 7) (y := ([(0, .inr (.inr (1, a0))), (1, .inr (.inr (1, a1))), (2, .inl a2)], [.inl a2, .inr (.inr (1, a1))], r1)) 2 rfl rfl rfl ?_
    refine ct_zV C (pc := 12) (aux := 0) [.inl a2] [] ok_X1_find lk_X6_208 (e_X1_find a1 a2) rfl rfl rfl rfl rfl rfl rfl rfl (fun r2 => ?_)
    refine ct_zrun C (k' := 10) (y := ([(3, .inl 0), (0, .inr (.inr (1, a0))), (1, .inr (.inr (1, a1))), (2, .inl a2)], [], r2)) 2 rfl rfl rfl ?_
    exact ct_zsub [1, 2, 0] rfl (zl_X6_countChildren_10 C a0 a1 200 (0, r2))
def l_X6_tree_28 (G : ct_G) (a1 : Int) (a2 : Int) : Nat → (Int × Nat × Nat × Int × ct_H) → Option (Int × ct_H)
  | 0, _ => none
  | n3 + 1, b2 => if 100 ≤ b2.2.2.2.1 then (some (b2.1, b2.2.2.2.2)) else if (b2.2.2.2.2.1 b2.2.1 7) ≤ 0 then (some (b2.1, b2.2.2.2.2)) else (f_X6_countChildren G b2.2.2.2.2 b2.2.1 b2.2.2.1 (ct_wr (b2.2.2.2.1 + a1))).bind fun r4 => ct_jn (β := Int) (fun k6 => if a2 = 0 then (k6 (r4.1 b2.2.1 7)) else if a2 = 1 then ((f_X1_leaves G r4 b2.2.1).bind fun v11 => k6 v11) else (f_X1_forks G r4 b2.2.1).bind fun v10 => k6 v10) (fun b5 => ct_lt (ct_wr (b2.1 + b5)) fun v8 => ct_lt (ct_wr (b2.2.2.2.1 + a1)) fun v9 => l_X6_tree_28 G a1 a2 n3 (v8, b2.2.2.1, b2.2.1, v9, r4))
set_option maxRecDepth 100000 in
theorem zl_X6_tree_28 {x : ct_Ctx} {d : Nat} {G : ct_G} (C : ct_c x m_X6_tree G (d + 5)) (a1 : Int) (a2 : Int) : ∀ (n3 : Nat) (b2 : Int × Nat × Nat × Int × ct_H), ct_Z x m_X6_tree G 28 [(1, .inl a1), (2, .inl a2), (3, .inl (b2.1)), (4, .inr (.inr (1, b2.2.1))), (5, .inr (.inr (1, b2.2.2.1))), (6, .inl (b2.2.2.2.1))] [] b2.2.2.2.2 (fun a => ct_q x G ((fun r : Int × ct_H => (some (.inl (r.1) : ct_PV), r.2)) a)) (l_X6_tree_28 G a1 a2 n3 b2) := by
  intro n3
  induction n3 with
  | zero => intro b2; exact ct_znone
  | succ n3 ih =>
    intro b2
    rw [l_X6_tree_28]
    refine ct_zrun C (k' := 30) (y := ([(1, .inl a1), (2, .inl a2), (3, .inl (b2.1)), (4, .inr (.inr (1, b2.2.1))), (5, .inr (.inr (1, b2.2.2.1))), (6, .inl (b2.2.2.2.1))], [.inl 100, .inl (b2.2.2.2.1)], b2.2.2.2.2)) 2 rfl rfl rfl ?_
    refine ct_zt C (pc := 52) (aux := 0) (cn := .ge) (off := 76) (k' := 67) (a := b2.2.2.2.1) (b := 100) Iff.rfl rfl rfl rfl (fun e15 => ?_) (fun e15 => ?_)
    · refine ct_zrun C (k' := 68) (y := ([(1, .inl a1), (2, .inl a2), (3, .inl (b2.1)), (4, .inr (.inr (1, b2.2.1))), (5, .inr (.inr (1, b2.2.2.1))), (6, .inl (b2.2.2.2.1))], [.inl (b2.1)], b2.2.2.2.2)) 1 rfl rfl rfl ?_
      exact ct_zret C (pc := 129) (aux := 0) (ins := .ireturn) (ρ := (fun r : Int × ct_H => (some (.inl (r.1) : ct_PV), r.2))) (some (.inl (b2.1))) rfl rfl rfl ⟨rfl, Or.inl rfl⟩
    · refine ct_zrun C (k' := 33) (y := ([(1, .inl a1), (2, .inl a2), (3, .inl (b2.1)), (4, .inr (.inr (1, b2.2.1))), (5, .inr (.inr (1, b2.2.2.1))), (6, .inl (b2.2.2.2.1))], [.inl (b2.2.2.2.2.1 b2.2.1 7)], b2.2.2.2.2)) 2 rfl rfl rfl ?_
      refine ct_zt0 C (pc := 60) (aux := 0) (cn := .le) (off := 68) (k' := 67) (a := (b2.2.2.2.2.1 b2.2.1 7)) Iff.rfl rfl rfl rfl (fun e14 => ?_) (fun e14 => ?_)
      · refine ct_zrun C (k' := 68) (y := ([(1, .inl a1), (2, .inl a2), (3, .inl (b2.1)), (4, .inr (.inr (1, b2.2.1))), (5, .inr (.inr (1, b2.2.2.1))), (6, .inl (b2.2.2.2.1))], [.inl (b2.1)], b2.2.2.2.2)) 1 rfl rfl rfl ?_
        exact ct_zret C (pc := 129) (aux := 0) (ins := .ireturn) (ρ := (fun r : Int × ct_H => (some (.inl (r.1) : ct_PV), r.2))) (some (.inl (b2.1))) rfl rfl rfl ⟨rfl, Or.inl rfl⟩
      · refine ct_zrun C (k' := 39) (y := ([(1, .inl a1), (2, .inl a2), (3, .inl (b2.1)), (4, .inr (.inr (1, b2.2.1))), (5, .inr (.inr (1, b2.2.2.1))), (6, .inl (b2.2.2.2.1))], [.inl (ct_wr (b2.2.2.2.1 + a1)), .inr (.inr (1, b2.2.2.1)), .inr (.inr (1, b2.2.1))], b2.2.2.2.2)) 5 rfl rfl rfl ?_
        refine ct_zS C (pc := 71) (aux := 0) [.inr (.inr (1, b2.2.1)), .inr (.inr (1, b2.2.2.1)), .inl (ct_wr (b2.2.2.2.1 + a1))] [] ok_X6_countChildren lk_X6_306 (e_X6_countChildren (b2.2.1) (b2.2.2.1) (ct_wr (b2.2.2.2.1 + a1))) rfl rfl rfl rfl rfl rfl (fun r4 => ?_)
        refine ct_zrun C (k' := 42) (y := ([(1, .inl a1), (2, .inl a2), (3, .inl (b2.1)), (4, .inr (.inr (1, b2.2.1))), (5, .inr (.inr (1, b2.2.2.1))), (6, .inl (b2.2.2.2.1))], [.inl a2, .inl (b2.1)], r4)) 2 rfl rfl rfl ?_
        refine ct_zjn (β := Int) (kJ := 54) (L := fun b5 => [(1, .inl a1), (2, .inl a2), (4, .inr (.inr (1, b2.2.1))), (5, .inr (.inr (1, b2.2.2.1))), (6, .inl (b2.2.2.2.1))]) (S := fun b5 => [.inl b5, .inl (b2.1)]) (Hh := fun b5 => r4) (fun b5 => ?_) (fun k6 z7 => ?_)
        · refine ct_zrun C (k' := 56) (y := ([(3, .inl (ct_wr (b2.1 + b5))), (1, .inl a1), (2, .inl a2), (4, .inr (.inr (1, b2.2.1))), (5, .inr (.inr (1, b2.2.2.1))), (6, .inl (b2.2.2.2.1))], [], r4)) 2 rfl rfl rfl ?_
          refine ct_zlet (L := fun v8 => [(3, .inl v8), (1, .inl a1), (2, .inl a2), (4, .inr (.inr (1, b2.2.1))), (5, .inr (.inr (1, b2.2.2.1))), (6, .inl (b2.2.2.2.1))]) (S := fun _ => []) (Hh := fun _ => r4) (a := (ct_wr (b2.1 + b5))) (fun v8 => ?_)
          refine ct_zrun C (k' := 66) (y := ([(6, .inl (ct_wr (b2.2.2.2.1 + a1))), (5, .inr (.inr (1, b2.2.1))), (4, .inr (.inr (1, b2.2.2.1))), (7, .inr (.inr (1, b2.2.1))), (3, .inl v8), (1, .inl a1), (2, .inl a2)], [], r4)) 10 rfl rfl rfl ?_
          refine ct_zlet (L := fun v9 => [(6, .inl v9), (5, .inr (.inr (1, b2.2.1))), (4, .inr (.inr (1, b2.2.2.1))), (7, .inr (.inr (1, b2.2.1))), (3, .inl v8), (1, .inl a1), (2, .inl a2)]) (S := fun _ => []) (Hh := fun _ => r4) (a := (ct_wr (b2.2.2.2.1 + a1))) (fun v9 => ?_)
          refine ct_zgoto C (pc := 125) (aux := 0) (off := (-77)) (k' := 28) rfl rfl ?_
          exact ct_zsub [5, 6, 4, 2, 1, 0] rfl (ih (v8, b2.2.2.1, b2.2.1, v9, r4))
        · refine ct_zf0 C (pc := 76) (aux := 0) (cn := .ne) (off := 11) (k' := 46) (a := a2) Iff.rfl rfl rfl rfl (fun e13 => ?_) (fun e13 => ?_)
          · refine ct_zrun C (k' := 45) (y := ([(1, .inl a1), (2, .inl a2), (3, .inl (b2.1)), (4, .inr (.inr (1, b2.2.1))), (5, .inr (.inr (1, b2.2.2.1))), (6, .inl (b2.2.2.2.1))], [.inl (r4.1 b2.2.1 7), .inl (b2.1)], r4)) 2 rfl rfl rfl ?_
            refine ct_zgoto C (pc := 84) (aux := 0) (off := 21) (k' := 54) rfl rfl ?_
            exact ct_zsub [0, 1, 3, 4, 5] rfl (z7 (r4.1 b2.2.1 7))
          · refine ct_zrun C (k' := 48) (y := ([(1, .inl a1), (2, .inl a2), (3, .inl (b2.1)), (4, .inr (.inr (1, b2.2.1))), (5, .inr (.inr (1, b2.2.2.1))), (6, .inl (b2.2.2.2.1))], [.inl 1, .inl a2, .inl (b2.1)], r4)) 2 rfl rfl rfl ?_
            refine ct_zf C (pc := 89) (aux := 0) (cn := .ne) (off := 11) (k' := 52) (a := a2) (b := 1) Iff.rfl rfl rfl rfl (fun e12 => ?_) (fun e12 => ?_)
            · refine ct_zrun C (k' := 50) (y := ([(1, .inl a1), (2, .inl a2), (3, .inl (b2.1)), (4, .inr (.inr (1, b2.2.1))), (5, .inr (.inr (1, b2.2.2.1))), (6, .inl (b2.2.2.2.1))], [.inr (.inr (1, b2.2.1)), .inl (b2.1)], r4)) 1 rfl rfl rfl ?_
              refine ct_zV C (pc := 94) (aux := 0) [] [.inl (b2.1)] ok_X1_leaves lk_X6_310 (e_X1_leaves (b2.2.1)) rfl rfl rfl rfl rfl rfl rfl rfl (fun v11 => ?_)
              refine ct_zgoto C (pc := 97) (aux := 0) (off := 8) (k' := 54) rfl rfl ?_
              exact ct_zsub [0, 1, 3, 4, 5] rfl (z7 v11)
            · refine ct_zrun C (k' := 53) (y := ([(1, .inl a1), (2, .inl a2), (3, .inl (b2.1)), (4, .inr (.inr (1, b2.2.1))), (5, .inr (.inr (1, b2.2.2.1))), (6, .inl (b2.2.2.2.1))], [.inr (.inr (1, b2.2.1)), .inl (b2.1)], r4)) 1 rfl rfl rfl ?_
              refine ct_zV C (pc := 102) (aux := 0) [] [.inl (b2.1)] ok_X1_forks lk_X6_313 (e_X1_forks (b2.2.1)) rfl rfl rfl rfl rfl rfl rfl rfl (fun v10 => ?_)
              exact ct_zsub [0, 1, 3, 4, 5] rfl (z7 v10)
def f_X6_tree (G : ct_G) (h : ct_H) (o : Nat) (a1 : Int) (a2 : Int) : Option (Int × ct_H) := if a1 < 1 then (some ((-2), h)) else if a1 ≤ 50 then (if a2 < 0 then (some ((-1), h)) else if a2 ≤ 2 then ((f_X1_find G h (G.1 o 2) 0).bind fun r1 => l_X6_tree_28 G a1 a2 200 (0, (G.1 o 2), (G.1 o 3), 0, r1)) else some ((-1), h)) else some ((-2), h)
set_option maxRecDepth 100000 in
theorem e_X6_tree {d : Nat} {G : ct_G} {h : ct_H} (o : Nat) (a1 : Int) (a2 : Int) : ct_E m_X6_tree (d + 5) G (ct_args 0 [.inr (.inr (6, o)), .inl a1, .inl a2]) h (fun r : Int × ct_H => (some (.inl (r.1) : ct_PV), r.2)) (f_X6_tree G h o a1 a2) := by
  intro x C
  unfold f_X6_tree
  show ct_Z x m_X6_tree G 0 [(0, .inr (.inr (6, o))), (1, .inl a1), (2, .inl a2)] [] h (fun a => ct_q x G ((fun r : Int × ct_H => (some (.inl (r.1) : ct_PV), r.2)) a)) _
  refine ct_zrun C (k' := 2) (y := ([(0, .inr (.inr (6, o))), (1, .inl a1), (2, .inl a2)], [.inl 1, .inl a1], h)) 2 rfl rfl rfl ?_
  refine ct_zt C (pc := 2) (aux := 0) (cn := .lt) (off := 9) (k' := 6) (a := a1) (b := 1) Iff.rfl rfl rfl rfl (fun e19 => ?_) (fun e19 => ?_)
  · refine ct_zrun C (k' := 7) (y := ([(0, .inr (.inr (6, o))), (1, .inl a1), (2, .inl a2)], [.inl (-2)], h)) 1 rfl rfl rfl ?_
    exact ct_zret C (pc := 13) (aux := 0) (ins := .ireturn) (ρ := (fun r : Int × ct_H => (some (.inl (r.1) : ct_PV), r.2))) (some (.inl (-2))) rfl rfl rfl ⟨rfl, Or.inl rfl⟩
  · refine ct_zrun C (k' := 5) (y := ([(0, .inr (.inr (6, o))), (1, .inl a1), (2, .inl a2)], [.inl 50, .inl a1], h)) 2 rfl rfl rfl ?_
    refine ct_zt C (pc := 8) (aux := 0) (cn := .le) (off := 6) (k' := 8) (a := a1) (b := 50) Iff.rfl rfl rfl rfl (fun e18 => ?_) (fun e18 => ?_)
    · refine ct_zrun C (k' := 9) (y := ([(0, .inr (.inr (6, o))), (1, .inl a1), (2, .inl a2)], [.inl a2], h)) 1 rfl rfl rfl ?_
      refine ct_zt0 C (pc := 15) (aux := 0) (cn := .lt) (off := 8) (k' := 13) (a := a2) Iff.rfl rfl rfl rfl (fun e17 => ?_) (fun e17 => ?_)
      · refine ct_zrun C (k' := 14) (y := ([(0, .inr (.inr (6, o))), (1, .inl a1), (2, .inl a2)], [.inl (-1)], h)) 1 rfl rfl rfl ?_
        exact ct_zret C (pc := 24) (aux := 0) (ins := .ireturn) (ρ := (fun r : Int × ct_H => (some (.inl (r.1) : ct_PV), r.2))) (some (.inl (-1))) rfl rfl rfl ⟨rfl, Or.inl rfl⟩
      · refine ct_zrun C (k' := 12) (y := ([(0, .inr (.inr (6, o))), (1, .inl a1), (2, .inl a2)], [.inl 2, .inl a2], h)) 2 rfl rfl rfl ?_
        refine ct_zt C (pc := 20) (aux := 0) (cn := .le) (off := 5) (k' := 15) (a := a2) (b := 2) Iff.rfl rfl rfl rfl (fun e16 => ?_) (fun e16 => ?_)
        · refine ct_zrun C (k' := 25) (y := ([(5, .inr (.inr (1, (G.1 o 3)))), (4, .inr (.inr (1, (G.1 o 2)))), (3, .inl 0), (0, .inr (.inr (6, o))), (1, .inl a1), (2, .inl a2)], [.inl 0, .inr (.inr (1, (G.1 o 2)))], h)) 10 rfl rfl rfl ?_
          refine ct_zV C (pc := 42) (aux := 0) [.inl 0] [] ok_X1_find lk_X6_208 (e_X1_find (G.1 o 2) 0) rfl rfl rfl rfl rfl rfl rfl rfl (fun r1 => ?_)
          refine ct_zrun C (k' := 28) (y := ([(6, .inl 0), (5, .inr (.inr (1, (G.1 o 3)))), (4, .inr (.inr (1, (G.1 o 2)))), (3, .inl 0), (0, .inr (.inr (6, o))), (1, .inl a1), (2, .inl a2)], [], r1)) 2 rfl rfl rfl ?_
          exact ct_zsub [5, 6, 3, 2, 1, 0] rfl (zl_X6_tree_28 C a1 a2 200 (0, (G.1 o 2), (G.1 o 3), 0, r1))
        · refine ct_zrun C (k' := 14) (y := ([(0, .inr (.inr (6, o))), (1, .inl a1), (2, .inl a2)], [.inl (-1)], h)) 1 rfl rfl rfl ?_
          exact ct_zret C (pc := 24) (aux := 0) (ins := .ireturn) (ρ := (fun r : Int × ct_H => (some (.inl (r.1) : ct_PV), r.2))) (some (.inl (-1))) rfl rfl rfl ⟨rfl, Or.inl rfl⟩
    · refine ct_zrun C (k' := 7) (y := ([(0, .inr (.inr (6, o))), (1, .inl a1), (2, .inl a2)], [.inl (-2)], h)) 1 rfl rfl rfl ?_
      exact ct_zret C (pc := 13) (aux := 0) (ins := .ireturn) (ρ := (fun r : Int × ct_H => (some (.inl (r.1) : ct_PV), r.2))) (some (.inl (-2))) rfl rfl rfl ⟨rfl, Or.inl rfl⟩
def f_X6_between (G : ct_G) (h : ct_H) (o : Nat) (a1 : Int) (a2 : Int) : Option (Int) := (f_X6_isLevel G h a1).bind fun v1 => if v1 = 0 then (some (-2)) else (f_X6_isLevel G h a2).bind fun v2 => if v2 = 0 then (some (-2)) else (f_X0_volume G h (G.1 o 0) (ct_min a1 a2)).bind fun v3 => (f_X0_volume G h (G.1 o 0) (ct_max a1 a2)).bind fun v4 => some (ct_wr (v3 - v4))
set_option maxRecDepth 100000 in
theorem e_X6_between {d : Nat} {G : ct_G} {h : ct_H} (o : Nat) (a1 : Int) (a2 : Int) : ct_E m_X6_between (d + 3) G (ct_args 0 [.inr (.inr (6, o)), .inl a1, .inl a2]) h (fun r : Int => (some (.inl r : ct_PV), h)) (f_X6_between G h o a1 a2) := by
  intro x C
  unfold f_X6_between
  show ct_Z x m_X6_between G 0 [(0, .inr (.inr (6, o))), (1, .inl a1), (2, .inl a2)] [] h (fun a => ct_q x G ((fun r : Int => (some (.inl r : ct_PV), h)) a)) _
  refine ct_zrun C (k' := 1) (y := ([(0, .inr (.inr (6, o))), (1, .inl a1), (2, .inl a2)], [.inl a1], h)) 1 rfl rfl rfl ?_
  refine ct_zS C (pc := 1) (aux := 0) [.inl a1] [] ok_X6_isLevel lk_X6_196 (e_X6_isLevel a1) rfl rfl rfl rfl rfl rfl (fun v1 => ?_)
  refine ct_zt0 C (pc := 4) (aux := 0) (cn := .eq) (off := 10) (k' := 6) (a := v1) Iff.rfl rfl rfl rfl (fun e6 => ?_) (fun e6 => ?_)
  · refine ct_zrun C (k' := 7) (y := ([(0, .inr (.inr (6, o))), (1, .inl a1), (2, .inl a2)], [.inl (-2)], h)) 1 rfl rfl rfl ?_
    exact ct_zret C (pc := 16) (aux := 0) (ins := .ireturn) (ρ := (fun r : Int => (some (.inl r : ct_PV), h))) (some (.inl (-2))) rfl rfl rfl ⟨rfl, Or.inl rfl⟩
  · refine ct_zrun C (k' := 4) (y := ([(0, .inr (.inr (6, o))), (1, .inl a1), (2, .inl a2)], [.inl a2], h)) 1 rfl rfl rfl ?_
    refine ct_zS C (pc := 8) (aux := 0) [.inl a2] [] ok_X6_isLevel lk_X6_196 (e_X6_isLevel a2) rfl rfl rfl rfl rfl rfl (fun v2 => ?_)
    refine ct_zf0 C (pc := 11) (aux := 0) (cn := .ne) (off := 6) (k' := 8) (a := v2) Iff.rfl rfl rfl rfl (fun e5 => ?_) (fun e5 => ?_)
    · refine ct_zrun C (k' := 7) (y := ([(0, .inr (.inr (6, o))), (1, .inl a1), (2, .inl a2)], [.inl (-2)], h)) 1 rfl rfl rfl ?_
      exact ct_zret C (pc := 16) (aux := 0) (ins := .ireturn) (ρ := (fun r : Int => (some (.inl r : ct_PV), h))) (some (.inl (-2))) rfl rfl rfl ⟨rfl, Or.inl rfl⟩
    · refine ct_zrun C (k' := 12) (y := ([(0, .inr (.inr (6, o))), (1, .inl a1), (2, .inl a2)], [.inl a2, .inl a1, .inr (.inr (0, (G.1 o 0)))], h)) 4 rfl rfl rfl ?_
      refine ct_zmin C (pc := 23) (aux := 0) lk_X6_298 rfl rfl rfl ?_
      refine ct_zV C (pc := 26) (aux := 0) [.inl (ct_min a1 a2)] [] ok_X0_volume lk_X6_193 (e_X0_volume (G.1 o 0) (ct_min a1 a2)) rfl rfl rfl rfl rfl rfl rfl rfl (fun v3 => ?_)
      refine ct_zrun C (k' := 18) (y := ([(0, .inr (.inr (6, o))), (1, .inl a1), (2, .inl a2)], [.inl a2, .inl a1, .inr (.inr (0, (G.1 o 0))), .inl v3], h)) 4 rfl rfl rfl ?_
      refine ct_zmax C (pc := 35) (aux := 0) lk_X6_322 rfl rfl rfl ?_
      refine ct_zV C (pc := 38) (aux := 0) [.inl (ct_max a1 a2)] [.inl v3] ok_X0_volume lk_X6_193 (e_X0_volume (G.1 o 0) (ct_max a1 a2)) rfl rfl rfl rfl rfl rfl rfl rfl (fun v4 => ?_)
      refine ct_zrun C (k' := 21) (y := ([(0, .inr (.inr (6, o))), (1, .inl a1), (2, .inl a2)], [.inl (ct_wr (v3 - v4))], h)) 1 rfl rfl rfl ?_
      exact ct_zret C (pc := 42) (aux := 0) (ins := .ireturn) (ρ := (fun r : Int => (some (.inl r : ct_PV), h))) (some (.inl (ct_wr (v3 - v4)))) rfl rfl rfl ⟨rfl, Or.inl rfl⟩
def f_X6_see (G : ct_G) (h : ct_H) (o : Nat) (a1 : Int) (a2 : Int) : Option (Int × ct_H) := if a1 = (-1) then ((f_X3_clear G h (G.1 o 7)).bind fun r8 => some (r8.1, r8.2)) else (f_X0_isPoint G h (G.1 o 0) a1).bind fun v1 => if v1 = 0 then (some ((-1), h)) else if a2 < 0 then (some ((-2), h)) else if a2 ≤ 1 then ((f_X3_isFull G h (G.1 o 7)).bind fun v2 => if v2 = 0 then ((f_X3_append G h (G.1 o 7) a1 a2).bind fun r3 => some (r3.1, r3.2)) else some ((-4), h)) else some ((-2), h)
set_option maxRecDepth 100000 in
theorem e_X6_see {d : Nat} {G : ct_G} {h : ct_H} (o : Nat) (a1 : Int) (a2 : Int) : ct_E m_X6_see (d + 2) G (ct_args 0 [.inr (.inr (6, o)), .inl a1, .inl a2]) h (fun r : Int × ct_H => (some (.inl (r.1) : ct_PV), r.2)) (f_X6_see G h o a1 a2) := by
  intro x C
  unfold f_X6_see
  show ct_Z x m_X6_see G 0 [(0, .inr (.inr (6, o))), (1, .inl a1), (2, .inl a2)] [] h (fun a => ct_q x G ((fun r : Int × ct_H => (some (.inl (r.1) : ct_PV), r.2)) a)) _
  refine ct_zrun C (k' := 2) (y := ([(0, .inr (.inr (6, o))), (1, .inl a1), (2, .inl a2)], [.inl (-1), .inl a1], h)) 2 rfl rfl rfl ?_
  refine ct_zf C (pc := 2) (aux := 0) (cn := .ne) (off := 11) (k' := 7) (a := a1) (b := (-1)) Iff.rfl rfl rfl rfl (fun e9 => ?_) (fun e9 => ?_)
  · refine ct_zrun C (k' := 5) (y := ([(0, .inr (.inr (6, o))), (1, .inl a1), (2, .inl a2)], [.inr (.inr (3, (G.1 o 7)))], h)) 2 rfl rfl rfl ?_
    refine ct_zV C (pc := 9) (aux := 0) [] [] ok_X3_clear lk_X6_325 (e_X3_clear (G.1 o 7)) rfl rfl rfl rfl rfl rfl rfl rfl (fun r8 => ?_)
    exact ct_zret C (pc := 12) (aux := 0) (ins := .ireturn) (ρ := (fun r : Int × ct_H => (some (.inl (r.1) : ct_PV), r.2))) (some (.inl (r8.1))) rfl rfl rfl ⟨rfl, Or.inl rfl⟩
  · refine ct_zrun C (k' := 10) (y := ([(0, .inr (.inr (6, o))), (1, .inl a1), (2, .inl a2)], [.inl a1, .inr (.inr (0, (G.1 o 0)))], h)) 3 rfl rfl rfl ?_
    refine ct_zV C (pc := 18) (aux := 0) [.inl a1] [] ok_X0_isPoint lk_X6_106 (e_X0_isPoint (G.1 o 0) a1) rfl rfl rfl rfl rfl rfl rfl rfl (fun v1 => ?_)
    refine ct_zf0 C (pc := 21) (aux := 0) (cn := .ne) (off := 5) (k' := 14) (a := v1) Iff.rfl rfl rfl rfl (fun e7 => ?_) (fun e7 => ?_)
    · refine ct_zrun C (k' := 13) (y := ([(0, .inr (.inr (6, o))), (1, .inl a1), (2, .inl a2)], [.inl (-1)], h)) 1 rfl rfl rfl ?_
      exact ct_zret C (pc := 25) (aux := 0) (ins := .ireturn) (ρ := (fun r : Int × ct_H => (some (.inl (r.1) : ct_PV), r.2))) (some (.inl (-1))) rfl rfl rfl ⟨rfl, Or.inl rfl⟩
    · refine ct_zrun C (k' := 15) (y := ([(0, .inr (.inr (6, o))), (1, .inl a1), (2, .inl a2)], [.inl a2], h)) 1 rfl rfl rfl ?_
      refine ct_zt0 C (pc := 27) (aux := 0) (cn := .lt) (off := 8) (k' := 19) (a := a2) Iff.rfl rfl rfl rfl (fun e6 => ?_) (fun e6 => ?_)
      · refine ct_zrun C (k' := 20) (y := ([(0, .inr (.inr (6, o))), (1, .inl a1), (2, .inl a2)], [.inl (-2)], h)) 1 rfl rfl rfl ?_
        exact ct_zret C (pc := 37) (aux := 0) (ins := .ireturn) (ρ := (fun r : Int × ct_H => (some (.inl (r.1) : ct_PV), r.2))) (some (.inl (-2))) rfl rfl rfl ⟨rfl, Or.inl rfl⟩
      · refine ct_zrun C (k' := 18) (y := ([(0, .inr (.inr (6, o))), (1, .inl a1), (2, .inl a2)], [.inl 1, .inl a2], h)) 2 rfl rfl rfl ?_
        refine ct_zt C (pc := 32) (aux := 0) (cn := .le) (off := 6) (k' := 21) (a := a2) (b := 1) Iff.rfl rfl rfl rfl (fun e5 => ?_) (fun e5 => ?_)
        · refine ct_zrun C (k' := 23) (y := ([(0, .inr (.inr (6, o))), (1, .inl a1), (2, .inl a2)], [.inr (.inr (3, (G.1 o 7)))], h)) 2 rfl rfl rfl ?_
          refine ct_zV C (pc := 42) (aux := 0) [] [] ok_X3_isFull lk_X6_328 (e_X3_isFull (G.1 o 7)) rfl rfl rfl rfl rfl rfl rfl rfl (fun v2 => ?_)
          refine ct_zt0 C (pc := 45) (aux := 0) (cn := .eq) (off := 8) (k' := 27) (a := v2) Iff.rfl rfl rfl rfl (fun e4 => ?_) (fun e4 => ?_)
          · refine ct_zrun C (k' := 31) (y := ([(0, .inr (.inr (6, o))), (1, .inl a1), (2, .inl a2)], [.inl a2, .inl a1, .inr (.inr (3, (G.1 o 7)))], h)) 4 rfl rfl rfl ?_
            refine ct_zV C (pc := 59) (aux := 0) [.inl a1, .inl a2] [] ok_X3_append lk_X6_329 (e_X3_append (G.1 o 7) a1 a2) rfl rfl rfl rfl rfl rfl rfl rfl (fun r3 => ?_)
            exact ct_zret C (pc := 62) (aux := 0) (ins := .ireturn) (ρ := (fun r : Int × ct_H => (some (.inl (r.1) : ct_PV), r.2))) (some (.inl (r3.1))) rfl rfl rfl ⟨rfl, Or.inl rfl⟩
          · refine ct_zrun C (k' := 26) (y := ([(0, .inr (.inr (6, o))), (1, .inl a1), (2, .inl a2)], [.inl (-4)], h)) 1 rfl rfl rfl ?_
            refine ct_zgoto C (pc := 50) (aux := 0) (off := 12) (k' := 32) rfl rfl ?_
            exact ct_zret C (pc := 62) (aux := 0) (ins := .ireturn) (ρ := (fun r : Int × ct_H => (some (.inl (r.1) : ct_PV), r.2))) (some (.inl (-4))) rfl rfl rfl ⟨rfl, Or.inl rfl⟩
        · refine ct_zrun C (k' := 20) (y := ([(0, .inr (.inr (6, o))), (1, .inl a1), (2, .inl a2)], [.inl (-2)], h)) 1 rfl rfl rfl ?_
          exact ct_zret C (pc := 37) (aux := 0) (ins := .ireturn) (ρ := (fun r : Int × ct_H => (some (.inl (r.1) : ct_PV), r.2))) (some (.inl (-2))) rfl rfl rfl ⟨rfl, Or.inl rfl⟩
def l_X6_fits_13 (G : ct_G) (o : Nat) (h : ct_H) (k3 : (Int × Int) → Option (Int)) : Nat → (Int × Int × Int) → Option (Int)
  | 0, _ => none
  | n2 + 1, b1 => if (h.1 (G.1 o 7) 2) ≤ b1.2.2 then (k3 (b1.1, b1.2.1)) else (ct_rd G h (G.1 (G.1 o 7) 0) b1.2.2).bind fun v6 => (f_X0_isPoint G h (G.1 o 0) v6).bind fun v7 => ct_jn (β := Int × Int) (fun k9 => if v7 = 0 then (k9 (b1.1, (-1))) else (ct_rd G h (G.1 (G.1 o 7) 1) b1.2.2).bind fun v11 => if v11 = 1 then ((ct_rd G h (G.1 (G.1 o 7) 0) b1.2.2).bind fun v15 => (f_X0_heightOf G h (G.1 o 0) v15).bind fun v16 => ct_lt (ct_min b1.2.1 v16) fun v17 => k9 (b1.1, v17)) else (ct_rd G h (G.1 (G.1 o 7) 0) b1.2.2).bind fun v12 => (f_X0_heightOf G h (G.1 o 0) v12).bind fun v13 => ct_lt (ct_max b1.1 (ct_wr (v13 + 1))) fun v14 => k9 (v14, b1.2.1)) (fun b8 => l_X6_fits_13 G o h k3 n2 (b8.1, b8.2, (ct_wr (b1.2.2 + 1))))
set_option maxRecDepth 100000 in
theorem zl_X6_fits_13 {x : ct_Ctx} {d : Nat} {G : ct_G} (C : ct_c x m_X6_fits G (d + 2)) (o : Nat) (a1 : Int) (h : ct_H) (k3 : (Int × Int) → Option (Int)) (z4 : ∀ b5 : Int × Int, ct_Z x m_X6_fits G 64 [(1, .inl a1), (2, .inl (b5.1)), (3, .inl (b5.2))] [] h (fun a => ct_q x G ((fun r : Int => (some (.inl r : ct_PV), h)) a)) (k3 b5)) : ∀ (n2 : Nat) (b1 : Int × Int × Int), ct_Z x m_X6_fits G 13 [(0, .inr (.inr (6, o))), (1, .inl a1), (2, .inl (b1.1)), (3, .inl (b1.2.1)), (4, .inl (b1.2.2))] [] h (fun a => ct_q x G ((fun r : Int => (some (.inl r : ct_PV), h)) a)) (l_X6_fits_13 G o h k3 n2 b1) := by
  intro n2
  induction n2 with
  | zero => intro b1; exact ct_znone
  | succ n2 ih =>
    intro b1
    rw [l_X6_fits_13]
    refine ct_zrun C (k' := 17) (y := ([(0, .inr (.inr (6, o))), (1, .inl a1), (2, .inl (b1.1)), (3, .inl (b1.2.1)), (4, .inl (b1.2.2))], [.inl (h.1 (G.1 o 7) 2), .inl (b1.2.2)], h)) 4 rfl rfl rfl ?_
    refine ct_zt C (pc := 28) (aux := 0) (cn := .ge) (off := 97) (k' := 64) (a := b1.2.2) (b := (h.1 (G.1 o 7) 2)) Iff.rfl rfl rfl rfl (fun e20 => ?_) (fun e20 => ?_)
    · exact ct_zsub [1, 2, 3] rfl (z4 (b1.1, b1.2.1))
    · refine ct_zrun C (k' := 24) (y := ([(0, .inr (.inr (6, o))), (1, .inl a1), (2, .inl (b1.1)), (3, .inl (b1.2.1)), (4, .inl (b1.2.2))], [.inl (b1.2.2), .inr (.inr (8, (G.1 (G.1 o 7) 0))), .inr (.inr (0, (G.1 o 0)))], h)) 6 rfl rfl rfl ?_
      refine ct_zrd C (pc := 44) (aux := 0) (ins := .iaload) (cd := 8) rfl rfl (Or.inl ⟨rfl, rfl⟩) (fun v6 => ?_)
      refine ct_zV C (pc := 45) (aux := 0) [.inl v6] [] ok_X0_isPoint lk_X6_106 (e_X0_isPoint (G.1 o 0) v6) rfl rfl rfl rfl rfl rfl rfl rfl (fun v7 => ?_)
      refine ct_zjn (β := Int × Int) (kJ := 62) (L := fun b8 => [(0, .inr (.inr (6, o))), (1, .inl a1), (2, .inl (b8.1)), (3, .inl (b8.2)), (4, .inl (b1.2.2))]) (S := fun b8 => []) (Hh := fun b8 => h) (fun b8 => ?_) (fun k9 z10 => ?_)
      · refine ct_zrun C (k' := 63) (y := ([(4, .inl (ct_wr (b1.2.2 + 1))), (0, .inr (.inr (6, o))), (1, .inl a1), (2, .inl (b8.1)), (3, .inl (b8.2))], [], h)) 1 rfl rfl rfl ?_
        refine ct_zgoto C (pc := 122) (aux := 0) (off := (-103)) (k' := 13) rfl rfl ?_
        exact ct_zsub [1, 2, 3, 4, 0] rfl (ih (b8.1, b8.2, (ct_wr (b1.2.2 + 1))))
      · refine ct_zf0 C (pc := 48) (aux := 0) (cn := .ne) (off := 8) (k' := 30) (a := v7) Iff.rfl rfl rfl rfl (fun e19 => ?_) (fun e19 => ?_)
        · refine ct_zrun C (k' := 29) (y := ([(3, .inl (-1)), (0, .inr (.inr (6, o))), (1, .inl a1), (2, .inl (b1.1)), (4, .inl (b1.2.2))], [], h)) 2 rfl rfl rfl ?_
          refine ct_zgoto C (pc := 53) (aux := 0) (off := 66) (k' := 62) rfl rfl ?_
          exact ct_zsub [1, 2, 3, 0, 4] rfl (z10 (b1.1, (-1)))
        · refine ct_zrun C (k' := 34) (y := ([(0, .inr (.inr (6, o))), (1, .inl a1), (2, .inl (b1.1)), (3, .inl (b1.2.1)), (4, .inl (b1.2.2))], [.inl (b1.2.2), .inr (.inr (8, (G.1 (G.1 o 7) 1)))], h)) 4 rfl rfl rfl ?_
          refine ct_zrd C (pc := 65) (aux := 0) (ins := .iaload) (cd := 8) rfl rfl (Or.inl ⟨rfl, rfl⟩) (fun v11 => ?_)
          refine ct_zrun C (k' := 36) (y := ([(0, .inr (.inr (6, o))), (1, .inl a1), (2, .inl (b1.1)), (3, .inl (b1.2.1)), (4, .inl (b1.2.2))], [.inl 1, .inl v11], h)) 1 rfl rfl rfl ?_
          refine ct_zf C (pc := 67) (aux := 0) (cn := .ne) (off := 28) (k' := 49) (a := v11) (b := 1) Iff.rfl rfl rfl rfl (fun e18 => ?_) (fun e18 => ?_)
          · refine ct_zrun C (k' := 44) (y := ([(0, .inr (.inr (6, o))), (1, .inl a1), (2, .inl (b1.1)), (3, .inl (b1.2.1)), (4, .inl (b1.2.2))], [.inl (b1.2.2), .inr (.inr (8, (G.1 (G.1 o 7) 0))), .inr (.inr (0, (G.1 o 0))), .inl (b1.2.1)], h)) 7 rfl rfl rfl ?_
            refine ct_zrd C (pc := 84) (aux := 0) (ins := .iaload) (cd := 8) rfl rfl (Or.inl ⟨rfl, rfl⟩) (fun v15 => ?_)
            refine ct_zV C (pc := 85) (aux := 0) [.inl v15] [.inl (b1.2.1)] ok_X0_heightOf lk_X6_112 (e_X0_heightOf (G.1 o 0) v15) rfl rfl rfl rfl rfl rfl rfl rfl (fun v16 => ?_)
            refine ct_zmin C (pc := 88) (aux := 0) lk_X6_298 rfl rfl rfl ?_
            refine ct_zrun C (k' := 48) (y := ([(3, .inl (ct_min b1.2.1 v16)), (0, .inr (.inr (6, o))), (1, .inl a1), (2, .inl (b1.1)), (4, .inl (b1.2.2))], [], h)) 1 rfl rfl rfl ?_
            refine ct_zlet (L := fun v17 => [(3, .inl v17), (0, .inr (.inr (6, o))), (1, .inl a1), (2, .inl (b1.1)), (4, .inl (b1.2.2))]) (S := fun _ => []) (Hh := fun _ => h) (a := (ct_min b1.2.1 v16)) (fun v17 => ?_)
            refine ct_zgoto C (pc := 92) (aux := 0) (off := 27) (k' := 62) rfl rfl ?_
            exact ct_zsub [1, 2, 3, 0, 4] rfl (z10 (b1.1, v17))
          · refine ct_zrun C (k' := 56) (y := ([(0, .inr (.inr (6, o))), (1, .inl a1), (2, .inl (b1.1)), (3, .inl (b1.2.1)), (4, .inl (b1.2.2))], [.inl (b1.2.2), .inr (.inr (8, (G.1 (G.1 o 7) 0))), .inr (.inr (0, (G.1 o 0))), .inl (b1.1)], h)) 7 rfl rfl rfl ?_
            refine ct_zrd C (pc := 109) (aux := 0) (ins := .iaload) (cd := 8) rfl rfl (Or.inl ⟨rfl, rfl⟩) (fun v12 => ?_)
            refine ct_zV C (pc := 110) (aux := 0) [.inl v12] [.inl (b1.1)] ok_X0_heightOf lk_X6_112 (e_X0_heightOf (G.1 o 0) v12) rfl rfl rfl rfl rfl rfl rfl rfl (fun v13 => ?_)
            refine ct_zrun C (k' := 60) (y := ([(0, .inr (.inr (6, o))), (1, .inl a1), (2, .inl (b1.1)), (3, .inl (b1.2.1)), (4, .inl (b1.2.2))], [.inl (ct_wr (v13 + 1)), .inl (b1.1)], h)) 2 rfl rfl rfl ?_
            refine ct_zmax C (pc := 115) (aux := 0) lk_X6_322 rfl rfl rfl ?_
            refine ct_zrun C (k' := 62) (y := ([(2, .inl (ct_max b1.1 (ct_wr (v13 + 1)))), (0, .inr (.inr (6, o))), (1, .inl a1), (3, .inl (b1.2.1)), (4, .inl (b1.2.2))], [], h)) 1 rfl rfl rfl ?_
            refine ct_zlet (L := fun v14 => [(2, .inl v14), (0, .inr (.inr (6, o))), (1, .inl a1), (3, .inl (b1.2.1)), (4, .inl (b1.2.2))]) (S := fun _ => []) (Hh := fun _ => h) (a := (ct_max b1.1 (ct_wr (v13 + 1)))) (fun v14 => ?_)
            exact ct_zsub [1, 2, 0, 3, 4] rfl (z10 (v14, b1.2.1))
def f_X6_fits (G : ct_G) (h : ct_H) (o : Nat) (a1 : Int) : Option (Int) := if a1 < 0 then (some (-1)) else if a1 ≤ 1 then (l_X6_fits_13 G o h (fun b21 => if a1 = 0 then (some (ct_max 0 (ct_wr ((ct_wr (b21.2 - b21.1)) + 1)))) else if b21.2 < b21.1 then (some (-5)) else some (b21.1)) 200 (0, 99, 0)) else some (-1)
set_option maxRecDepth 100000 in
theorem e_X6_fits {d : Nat} {G : ct_G} {h : ct_H} (o : Nat) (a1 : Int) : ct_E m_X6_fits (d + 2) G (ct_args 0 [.inr (.inr (6, o)), .inl a1]) h (fun r : Int => (some (.inl r : ct_PV), h)) (f_X6_fits G h o a1) := by
  intro x C
  unfold f_X6_fits
  show ct_Z x m_X6_fits G 0 [(0, .inr (.inr (6, o))), (1, .inl a1)] [] h (fun a => ct_q x G ((fun r : Int => (some (.inl r : ct_PV), h)) a)) _
  refine ct_zrun C (k' := 1) (y := ([(0, .inr (.inr (6, o))), (1, .inl a1)], [.inl a1], h)) 1 rfl rfl rfl ?_
  refine ct_zt0 C (pc := 1) (aux := 0) (cn := .lt) (off := 8) (k' := 5) (a := a1) Iff.rfl rfl rfl rfl (fun e25 => ?_) (fun e25 => ?_)
  · refine ct_zrun C (k' := 6) (y := ([(0, .inr (.inr (6, o))), (1, .inl a1)], [.inl (-1)], h)) 1 rfl rfl rfl ?_
    exact ct_zret C (pc := 10) (aux := 0) (ins := .ireturn) (ρ := (fun r : Int => (some (.inl r : ct_PV), h))) (some (.inl (-1))) rfl rfl rfl ⟨rfl, Or.inl rfl⟩
  · refine ct_zrun C (k' := 4) (y := ([(0, .inr (.inr (6, o))), (1, .inl a1)], [.inl 1, .inl a1], h)) 2 rfl rfl rfl ?_
    refine ct_zt C (pc := 6) (aux := 0) (cn := .le) (off := 5) (k' := 7) (a := a1) (b := 1) Iff.rfl rfl rfl rfl (fun e24 => ?_) (fun e24 => ?_)
    · refine ct_zrun C (k' := 13) (y := ([(4, .inl 0), (3, .inl 99), (2, .inl 0), (0, .inr (.inr (6, o))), (1, .inl a1)], [], h)) 6 rfl rfl rfl ?_
      refine ct_zsub [3, 4, 2, 1, 0] rfl (zl_X6_fits_13 C o a1 h _ (fun b21 => ?_) 200 (0, 99, 0))
      refine ct_zrun C (k' := 65) (y := ([(1, .inl a1), (2, .inl (b21.1)), (3, .inl (b21.2))], [.inl a1], h)) 1 rfl rfl rfl ?_
      refine ct_zf0 C (pc := 126) (aux := 0) (cn := .ne) (off := 13) (k' := 74) (a := a1) Iff.rfl rfl rfl rfl (fun e23 => ?_) (fun e23 => ?_)
      · refine ct_zrun C (k' := 72) (y := ([(1, .inl a1), (2, .inl (b21.1)), (3, .inl (b21.2))], [.inl (ct_wr ((ct_wr (b21.2 - b21.1)) + 1)), .inl 0], h)) 6 rfl rfl rfl ?_
        refine ct_zmax C (pc := 135) (aux := 0) lk_X6_322 rfl rfl rfl ?_
        exact ct_zret C (pc := 138) (aux := 0) (ins := .ireturn) (ρ := (fun r : Int => (some (.inl r : ct_PV), h))) (some (.inl (ct_max 0 (ct_wr ((ct_wr (b21.2 - b21.1)) + 1))))) rfl rfl rfl ⟨rfl, Or.inl rfl⟩
      · refine ct_zrun C (k' := 76) (y := ([(1, .inl a1), (2, .inl (b21.1)), (3, .inl (b21.2))], [.inl (b21.2), .inl (b21.1)], h)) 2 rfl rfl rfl ?_
        refine ct_zt C (pc := 141) (aux := 0) (cn := .gt) (off := 7) (k' := 79) (a := b21.1) (b := b21.2) Iff.rfl rfl rfl rfl (fun e22 => ?_) (fun e22 => ?_)
        · refine ct_zrun C (k' := 80) (y := ([(1, .inl a1), (2, .inl (b21.1)), (3, .inl (b21.2))], [.inl (-5)], h)) 1 rfl rfl rfl ?_
          exact ct_zret C (pc := 150) (aux := 0) (ins := .ireturn) (ρ := (fun r : Int => (some (.inl r : ct_PV), h))) (some (.inl (-5))) rfl rfl rfl ⟨rfl, Or.inl rfl⟩
        · refine ct_zrun C (k' := 78) (y := ([(1, .inl a1), (2, .inl (b21.1)), (3, .inl (b21.2))], [.inl (b21.1)], h)) 1 rfl rfl rfl ?_
          refine ct_zgoto C (pc := 145) (aux := 0) (off := 5) (k' := 80) rfl rfl ?_
          exact ct_zret C (pc := 150) (aux := 0) (ins := .ireturn) (ρ := (fun r : Int => (some (.inl r : ct_PV), h))) (some (.inl (b21.1))) rfl rfl rfl ⟨rfl, Or.inl rfl⟩
    · refine ct_zrun C (k' := 6) (y := ([(0, .inr (.inr (6, o))), (1, .inl a1)], [.inl (-1)], h)) 1 rfl rfl rfl ?_
      exact ct_zret C (pc := 10) (aux := 0) (ins := .ireturn) (ρ := (fun r : Int => (some (.inl r : ct_PV), h))) (some (.inl (-1))) rfl rfl rfl ⟨rfl, Or.inl rfl⟩
def f_X6_isPart (G : ct_G) (h : ct_H) (a0 : Int) : Option (Int) := if a0 = 0 then (some 1) else if a0 = 1 then (some 1) else some 0
set_option maxRecDepth 100000 in
theorem e_X6_isPart {d : Nat} {G : ct_G} {h : ct_H} (a0 : Int) : ct_E m_X6_isPart d G (ct_args 0 [.inl a0]) h (fun r : Int => (some (.inl r : ct_PV), h)) (f_X6_isPart G h a0) := by
  intro x C
  unfold f_X6_isPart
  show ct_Z x m_X6_isPart G 0 [(0, .inl a0)] [] h (fun a => ct_q x G ((fun r : Int => (some (.inl r : ct_PV), h)) a)) _
  refine ct_zrun C (k' := 1) (y := ([(0, .inl a0)], [.inl a0], h)) 1 rfl rfl rfl ?_
  refine ct_zt0 C (pc := 1) (aux := 0) (cn := .eq) (off := 8) (k' := 5) (a := a0) Iff.rfl rfl rfl rfl (fun e2 => ?_) (fun e2 => ?_)
  · refine ct_zrun C (k' := 6) (y := ([(0, .inl a0)], [.inl 1], h)) 1 rfl rfl rfl ?_
    refine ct_zgoto C (pc := 10) (aux := 0) (off := 4) (k' := 8) rfl rfl ?_
    exact ct_zret C (pc := 14) (aux := 0) (ins := .ireturn) (ρ := (fun r : Int => (some (.inl r : ct_PV), h))) (some (.inl 1)) rfl rfl rfl ⟨rfl, Or.inr ⟨rfl, Or.inr rfl⟩⟩
  · refine ct_zrun C (k' := 4) (y := ([(0, .inl a0)], [.inl 1, .inl a0], h)) 2 rfl rfl rfl ?_
    refine ct_zf C (pc := 6) (aux := 0) (cn := .ne) (off := 7) (k' := 7) (a := a0) (b := 1) Iff.rfl rfl rfl rfl (fun e1 => ?_) (fun e1 => ?_)
    · refine ct_zrun C (k' := 6) (y := ([(0, .inl a0)], [.inl 1], h)) 1 rfl rfl rfl ?_
      refine ct_zgoto C (pc := 10) (aux := 0) (off := 4) (k' := 8) rfl rfl ?_
      exact ct_zret C (pc := 14) (aux := 0) (ins := .ireturn) (ρ := (fun r : Int => (some (.inl r : ct_PV), h))) (some (.inl 1)) rfl rfl rfl ⟨rfl, Or.inr ⟨rfl, Or.inr rfl⟩⟩
    · refine ct_zrun C (k' := 8) (y := ([(0, .inl a0)], [.inl 0], h)) 1 rfl rfl rfl ?_
      exact ct_zret C (pc := 14) (aux := 0) (ins := .ireturn) (ρ := (fun r : Int => (some (.inl r : ct_PV), h))) (some (.inl 0)) rfl rfl rfl ⟨rfl, Or.inr ⟨rfl, Or.inl rfl⟩⟩
def l_X6_hundredths_2 (G : ct_G) (a0 : Int) (k3 : Int → Option (Int64)) : Nat → Int → Option (Int64)
  | 0, _ => none
  | n2 + 1, b1 => if b1 ≤ 1 then (k3 b1) else (ct_md a0 b1).bind fun v6 => ct_jn (β := Unit) (fun k8 => if v6 = 0 then ((ct_md 100 b1).bind fun v10 => if v10 = 0 then (k3 b1) else k8 ()) else k8 ()) (fun b7 => l_X6_hundredths_2 G a0 k3 n2 (ct_wr (b1 + (-1))))
set_option maxRecDepth 100000 in
theorem zl_X6_hundredths_2 {x : ct_Ctx} {d : Nat} {G : ct_G} (C : ct_c x m_X6_hundredths G d) (a0 : Int) (a1 : Int) (h : ct_H) (k3 : Int → Option (Int64)) (z4 : ∀ b5 : Int, ct_Z x m_X6_hundredths G 15 [(0, .inl a0), (1, .inl a1), (2, .inl b5)] [] h (fun a => ct_q x G ((fun r : Int64 => (some (.inr (.inl r) : ct_PV), h)) a)) (k3 b5)) : ∀ (n2 : Nat) (b1 : Int), ct_Z x m_X6_hundredths G 2 [(0, .inl a0), (1, .inl a1), (2, .inl b1)] [] h (fun a => ct_q x G ((fun r : Int64 => (some (.inr (.inl r) : ct_PV), h)) a)) (l_X6_hundredths_2 G a0 k3 n2 b1) := by
  intro n2
  induction n2 with
  | zero => intro b1; exact ct_znone
  | succ n2 ih =>
    intro b1
    rw [l_X6_hundredths_2]
    refine ct_zrun C (k' := 4) (y := ([(0, .inl a0), (1, .inl a1), (2, .inl b1)], [.inl 1, .inl b1], h)) 2 rfl rfl rfl ?_
    refine ct_zt C (pc := 5) (aux := 0) (cn := .le) (off := 22) (k' := 15) (a := b1) (b := 1) Iff.rfl rfl rfl rfl (fun e13 => ?_) (fun e13 => ?_)
    · exact ct_zsub [0, 1, 2] rfl (z4 b1)
    · refine ct_zrun C (k' := 7) (y := ([(0, .inl a0), (1, .inl a1), (2, .inl b1)], [.inl b1, .inl a0], h)) 2 rfl rfl rfl ?_
      refine ct_zmd C (pc := 10) (aux := 0) rfl rfl (fun v6 => ?_)
      refine ct_zjn (β := Unit) (kJ := 13) (L := fun b7 => [(0, .inl a0), (1, .inl a1), (2, .inl b1)]) (S := fun b7 => []) (Hh := fun b7 => h) (fun b7 => ?_) (fun k8 z9 => ?_)
      · refine ct_zrun C (k' := 14) (y := ([(2, .inl (ct_wr (b1 + (-1)))), (0, .inl a0), (1, .inl a1)], [], h)) 1 rfl rfl rfl ?_
        refine ct_zgoto C (pc := 24) (aux := 0) (off := (-21)) (k' := 2) rfl rfl ?_
        exact ct_zsub [1, 2, 0] rfl (ih (ct_wr (b1 + (-1))))
      · refine ct_zf0 C (pc := 11) (aux := 0) (cn := .ne) (off := 10) (k' := 13) (a := v6) Iff.rfl rfl rfl rfl (fun e12 => ?_) (fun e12 => ?_)
        · refine ct_zrun C (k' := 11) (y := ([(0, .inl a0), (1, .inl a1), (2, .inl b1)], [.inl b1, .inl 100], h)) 2 rfl rfl rfl ?_
          refine ct_zmd C (pc := 17) (aux := 0) rfl rfl (fun v10 => ?_)
          refine ct_zt0 C (pc := 18) (aux := 0) (cn := .eq) (off := 9) (k' := 15) (a := v10) Iff.rfl rfl rfl rfl (fun e11 => ?_) (fun e11 => ?_)
          · exact ct_zsub [0, 1, 2] rfl (z4 b1)
          · exact ct_zsub [0, 1, 2] rfl (z9 ())
        · exact ct_zsub [0, 1, 2] rfl (z9 ())
def f_X6_hundredths (G : ct_G) (h : ct_H) (a0 : Int) (a1 : Int) : Option (Int64) := l_X6_hundredths_2 G a0 (fun b14 => if a1 = 0 then ((ct_dv a0 b14).bind fun v16 => some ((Int32.ofInt v16).toInt64)) else (ct_dv 100 b14).bind fun v15 => some ((Int32.ofInt v15).toInt64)) 200 100
set_option maxRecDepth 100000 in
theorem e_X6_hundredths {d : Nat} {G : ct_G} {h : ct_H} (a0 : Int) (a1 : Int) : ct_E m_X6_hundredths d G (ct_args 0 [.inl a0, .inl a1]) h (fun r : Int64 => (some (.inr (.inl r) : ct_PV), h)) (f_X6_hundredths G h a0 a1) := by
  intro x C
  unfold f_X6_hundredths
  show ct_Z x m_X6_hundredths G 0 [(0, .inl a0), (1, .inl a1)] [] h (fun a => ct_q x G ((fun r : Int64 => (some (.inr (.inl r) : ct_PV), h)) a)) _
  refine ct_zrun C (k' := 2) (y := ([(2, .inl 100), (0, .inl a0), (1, .inl a1)], [], h)) 2 rfl rfl rfl ?_
  refine ct_zsub [1, 2, 0] rfl (zl_X6_hundredths_2 C a0 a1 h _ (fun b14 => ?_) 200 100)
  refine ct_zrun C (k' := 16) (y := ([(0, .inl a0), (1, .inl a1), (2, .inl b14)], [.inl a1], h)) 1 rfl rfl rfl ?_
  refine ct_zf0 C (pc := 28) (aux := 0) (cn := .ne) (off := 10) (k' := 22) (a := a1) Iff.rfl rfl rfl rfl (fun e17 => ?_) (fun e17 => ?_)
  · refine ct_zrun C (k' := 19) (y := ([(0, .inl a0), (1, .inl a1), (2, .inl b14)], [.inl b14, .inl a0], h)) 2 rfl rfl rfl ?_
    refine ct_zdv C (pc := 33) (aux := 0) rfl rfl (fun v16 => ?_)
    refine ct_zrun C (k' := 21) (y := ([(0, .inl a0), (1, .inl a1), (2, .inl b14)], [.inr (.inl ((Int32.ofInt v16).toInt64))], h)) 1 rfl rfl rfl ?_
    refine ct_zgoto C (pc := 35) (aux := 0) (off := 8) (k' := 26) rfl rfl ?_
    exact ct_zret C (pc := 43) (aux := 0) (ins := .lreturn) (ρ := (fun r : Int64 => (some (.inr (.inl r) : ct_PV), h))) (some (.inr (.inl ((Int32.ofInt v16).toInt64)))) rfl rfl rfl ⟨rfl, rfl⟩
  · refine ct_zrun C (k' := 24) (y := ([(0, .inl a0), (1, .inl a1), (2, .inl b14)], [.inl b14, .inl 100], h)) 2 rfl rfl rfl ?_
    refine ct_zdv C (pc := 41) (aux := 0) rfl rfl (fun v15 => ?_)
    refine ct_zrun C (k' := 26) (y := ([(0, .inl a0), (1, .inl a1), (2, .inl b14)], [.inr (.inl ((Int32.ofInt v15).toInt64))], h)) 1 rfl rfl rfl ?_
    exact ct_zret C (pc := 43) (aux := 0) (ins := .lreturn) (ρ := (fun r : Int64 => (some (.inr (.inl r) : ct_PV), h))) (some (.inr (.inl ((Int32.ofInt v15).toInt64)))) rfl rfl rfl ⟨rfl, rfl⟩
def f_X6_odds (G : ct_G) (h : ct_H) (o : Nat) (a1 : Int) (a2 : Int) : Option (Int64) := (f_X0_isPoint G h (G.1 o 0) a1).bind fun v1 => ct_jn (β := Unit) (fun k3 => if v1 = 0 then (k3 ()) else (f_X6_isPart G h a2).bind fun v5 => if v5 = 0 then (k3 ()) else (f_X0_heightOf G h (G.1 o 0) a1).bind fun v6 => (f_X6_hundredths G h (ct_wr (v6 + 1)) a2).bind fun v7 => some v7) (fun b2 => some (-9223372036854775808 : Int64))
set_option maxRecDepth 100000 in
theorem e_X6_odds {d : Nat} {G : ct_G} {h : ct_H} (o : Nat) (a1 : Int) (a2 : Int) : ct_E m_X6_odds (d + 2) G (ct_args 0 [.inr (.inr (6, o)), .inl a1, .inl a2]) h (fun r : Int64 => (some (.inr (.inl r) : ct_PV), h)) (f_X6_odds G h o a1 a2) := by
  intro x C
  unfold f_X6_odds
  show ct_Z x m_X6_odds G 0 [(0, .inr (.inr (6, o))), (1, .inl a1), (2, .inl a2)] [] h (fun a => ct_q x G ((fun r : Int64 => (some (.inr (.inl r) : ct_PV), h)) a)) _
  refine ct_zrun C (k' := 3) (y := ([(0, .inr (.inr (6, o))), (1, .inl a1), (2, .inl a2)], [.inl a1, .inr (.inr (0, (G.1 o 0)))], h)) 3 rfl rfl rfl ?_
  refine ct_zV C (pc := 5) (aux := 0) [.inl a1] [] ok_X0_isPoint lk_X6_106 (e_X0_isPoint (G.1 o 0) a1) rfl rfl rfl rfl rfl rfl rfl rfl (fun v1 => ?_)
  refine ct_zjn (β := Unit) (kJ := 8) (L := fun b2 => []) (S := fun b2 => []) (Hh := fun b2 => h) (fun b2 => ?_) (fun k3 z4 => ?_)
  · refine ct_zldc2 C (pc := 18) (aux := 0) (v := -9223372036854775808) lc_X6_343 rfl rfl ?_
    exact ct_zret C (pc := 21) (aux := 0) (ins := .lreturn) (ρ := (fun r : Int64 => (some (.inr (.inl r) : ct_PV), h))) (some (.inr (.inl (-9223372036854775808 : Int64)))) rfl rfl rfl ⟨rfl, rfl⟩
  · refine ct_zt0 C (pc := 8) (aux := 0) (cn := .eq) (off := 10) (k' := 8) (a := v1) Iff.rfl rfl rfl rfl (fun e9 => ?_) (fun e9 => ?_)
    · exact ct_zsub [] rfl (z4 ())
    · refine ct_zrun C (k' := 6) (y := ([(0, .inr (.inr (6, o))), (1, .inl a1), (2, .inl a2)], [.inl a2], h)) 1 rfl rfl rfl ?_
      refine ct_zS C (pc := 12) (aux := 0) [.inl a2] [] ok_X6_isPart lk_X6_340 (e_X6_isPart a2) rfl rfl rfl rfl rfl rfl (fun v5 => ?_)
      refine ct_zf0 C (pc := 15) (aux := 0) (cn := .ne) (off := 7) (k' := 10) (a := v5) Iff.rfl rfl rfl rfl (fun e8 => ?_) (fun e8 => ?_)
      · exact ct_zsub [] rfl (z4 ())
      · refine ct_zrun C (k' := 13) (y := ([(0, .inr (.inr (6, o))), (1, .inl a1), (2, .inl a2)], [.inl a1, .inr (.inr (0, (G.1 o 0)))], h)) 3 rfl rfl rfl ?_
        refine ct_zV C (pc := 27) (aux := 0) [.inl a1] [] ok_X0_heightOf lk_X6_112 (e_X0_heightOf (G.1 o 0) a1) rfl rfl rfl rfl rfl rfl rfl rfl (fun v6 => ?_)
        refine ct_zrun C (k' := 17) (y := ([(0, .inr (.inr (6, o))), (1, .inl a1), (2, .inl a2)], [.inl a2, .inl (ct_wr (v6 + 1))], h)) 3 rfl rfl rfl ?_
        refine ct_zS C (pc := 33) (aux := 0) [.inl (ct_wr (v6 + 1)), .inl a2] [] ok_X6_hundredths lk_X6_345 (e_X6_hundredths (ct_wr (v6 + 1)) a2) rfl rfl rfl rfl rfl rfl (fun v7 => ?_)
        exact ct_zret C (pc := 36) (aux := 0) (ins := .lreturn) (ρ := (fun r : Int64 => (some (.inr (.inl r) : ct_PV), h))) (some (.inr (.inl v7))) rfl rfl rfl ⟨rfl, rfl⟩
def l_X6_mean_12 (G : ct_G) (o : Nat) (r2 : ct_H) (k5 : Int → Option (Int64 × ct_H)) : Nat → (Int × Int) → Option (Int64 × ct_H)
  | 0, _ => none
  | n4 + 1, b3 => if 100 ≤ b3.2 then (k5 (b3.1)) else (ct_rd G r2 (G.1 (G.1 o 1) 4) b3.2).bind fun v8 => ct_lt (ct_wr (b3.1 + v8)) fun v9 => l_X6_mean_12 G o r2 k5 n4 (v9, (ct_wr (b3.2 + 1)))
set_option maxRecDepth 100000 in
theorem zl_X6_mean_12 {x : ct_Ctx} {d : Nat} {G : ct_G} (C : ct_c x m_X6_mean G (d + 6)) (o : Nat) (a1 : Int) (r2 : ct_H) (k5 : Int → Option (Int64 × ct_H)) (z6 : ∀ b7 : Int, ct_Z x m_X6_mean G 25 [(1, .inl a1), (2, .inl b7)] [] r2 (fun a => ct_q x G ((fun r : Int64 × ct_H => (some (.inr (.inl (r.1)) : ct_PV), r.2)) a)) (k5 b7)) : ∀ (n4 : Nat) (b3 : Int × Int), ct_Z x m_X6_mean G 12 [(0, .inr (.inr (6, o))), (1, .inl a1), (2, .inl (b3.1)), (3, .inl (b3.2))] [] r2 (fun a => ct_q x G ((fun r : Int64 × ct_H => (some (.inr (.inl (r.1)) : ct_PV), r.2)) a)) (l_X6_mean_12 G o r2 k5 n4 b3) := by
  intro n4
  induction n4 with
  | zero => intro b3; exact ct_znone
  | succ n4 ih =>
    intro b3
    rw [l_X6_mean_12]
    refine ct_zrun C (k' := 14) (y := ([(0, .inr (.inr (6, o))), (1, .inl a1), (2, .inl (b3.1)), (3, .inl (b3.2))], [.inl 100, .inl (b3.2)], r2)) 2 rfl rfl rfl ?_
    refine ct_zt C (pc := 25) (aux := 0) (cn := .ge) (off := 21) (k' := 25) (a := b3.2) (b := 100) Iff.rfl rfl rfl rfl (fun e10 => ?_) (fun e10 => ?_)
    · exact ct_zsub [1, 2] rfl (z6 (b3.1))
    · refine ct_zrun C (k' := 20) (y := ([(0, .inr (.inr (6, o))), (1, .inl a1), (2, .inl (b3.1)), (3, .inl (b3.2))], [.inl (b3.2), .inr (.inr (8, (G.1 (G.1 o 1) 4))), .inl (b3.1)], r2)) 5 rfl rfl rfl ?_
      refine ct_zrd C (pc := 37) (aux := 0) (ins := .iaload) (cd := 8) rfl rfl (Or.inl ⟨rfl, rfl⟩) (fun v8 => ?_)
      refine ct_zrun C (k' := 23) (y := ([(2, .inl (ct_wr (b3.1 + v8))), (0, .inr (.inr (6, o))), (1, .inl a1), (3, .inl (b3.2))], [], r2)) 2 rfl rfl rfl ?_
      refine ct_zlet (L := fun v9 => [(2, .inl v9), (0, .inr (.inr (6, o))), (1, .inl a1), (3, .inl (b3.2))]) (S := fun _ => []) (Hh := fun _ => r2) (a := (ct_wr (b3.1 + v8))) (fun v9 => ?_)
      refine ct_zrun C (k' := 24) (y := ([(3, .inl (ct_wr (b3.2 + 1))), (2, .inl v9), (0, .inr (.inr (6, o))), (1, .inl a1)], [], r2)) 1 rfl rfl rfl ?_
      refine ct_zgoto C (pc := 43) (aux := 0) (off := (-21)) (k' := 12) rfl rfl ?_
      exact ct_zsub [2, 3, 1, 0] rfl (ih (v9, (ct_wr (b3.2 + 1))))
def f_X6_mean (G : ct_G) (h : ct_H) (o : Nat) (a1 : Int) : Option (Int64 × ct_H) := (f_X6_isPart G h a1).bind fun v1 => if v1 = 0 then (some ((-9223372036854775808 : Int64), h)) else (f_X2_countLevels G h (G.1 o 1)).bind fun r2 => l_X6_mean_12 G o r2 (fun b11 => (f_X6_hundredths G r2 b11 a1).bind fun v12 => some (v12, r2)) 200 (0, 0)
set_option maxRecDepth 100000 in
theorem e_X6_mean {d : Nat} {G : ct_G} {h : ct_H} (o : Nat) (a1 : Int) : ct_E m_X6_mean (d + 6) G (ct_args 0 [.inr (.inr (6, o)), .inl a1]) h (fun r : Int64 × ct_H => (some (.inr (.inl (r.1)) : ct_PV), r.2)) (f_X6_mean G h o a1) := by
  intro x C
  unfold f_X6_mean
  show ct_Z x m_X6_mean G 0 [(0, .inr (.inr (6, o))), (1, .inl a1)] [] h (fun a => ct_q x G ((fun r : Int64 × ct_H => (some (.inr (.inl (r.1)) : ct_PV), r.2)) a)) _
  refine ct_zrun C (k' := 1) (y := ([(0, .inr (.inr (6, o))), (1, .inl a1)], [.inl a1], h)) 1 rfl rfl rfl ?_
  refine ct_zS C (pc := 1) (aux := 0) [.inl a1] [] ok_X6_isPart lk_X6_340 (e_X6_isPart a1) rfl rfl rfl rfl rfl rfl (fun v1 => ?_)
  refine ct_zf0 C (pc := 4) (aux := 0) (cn := .ne) (off := 7) (k' := 5) (a := v1) Iff.rfl rfl rfl rfl (fun e13 => ?_) (fun e13 => ?_)
  · refine ct_zldc2 C (pc := 7) (aux := 0) (v := -9223372036854775808) lc_X6_343 rfl rfl ?_
    exact ct_zret C (pc := 10) (aux := 0) (ins := .lreturn) (ρ := (fun r : Int64 × ct_H => (some (.inr (.inl (r.1)) : ct_PV), r.2))) (some (.inr (.inl (-9223372036854775808 : Int64)))) rfl rfl rfl ⟨rfl, rfl⟩
  · refine ct_zrun C (k' := 7) (y := ([(0, .inr (.inr (6, o))), (1, .inl a1)], [.inr (.inr (2, (G.1 o 1)))], h)) 2 rfl rfl rfl ?_
    refine ct_zV C (pc := 15) (aux := 0) [] [] ok_X2_countLevels lk_X6_183 (e_X2_countLevels (G.1 o 1)) rfl rfl rfl rfl rfl rfl rfl rfl (fun r2 => ?_)
    refine ct_zrun C (k' := 12) (y := ([(3, .inl 0), (2, .inl 0), (0, .inr (.inr (6, o))), (1, .inl a1)], [], r2)) 4 rfl rfl rfl ?_
    refine ct_zsub [2, 3, 1, 0] rfl (zl_X6_mean_12 C o a1 r2 _ (fun b11 => ?_) 200 (0, 0))
    refine ct_zrun C (k' := 27) (y := ([(1, .inl a1), (2, .inl b11)], [.inl a1, .inl b11], r2)) 2 rfl rfl rfl ?_
    refine ct_zS C (pc := 48) (aux := 0) [.inl b11, .inl a1] [] ok_X6_hundredths lk_X6_345 (e_X6_hundredths b11 a1) rfl rfl rfl rfl rfl rfl (fun v12 => ?_)
    exact ct_zret C (pc := 51) (aux := 0) (ins := .lreturn) (ρ := (fun r : Int64 × ct_H => (some (.inr (.inl (r.1)) : ct_PV), r.2))) (some (.inr (.inl v12))) rfl rfl rfl ⟨rfl, rfl⟩
def f_X6_event (G : ct_G) (h : ct_H) (o : Nat) (a1 : Int) (a2 : Int) : Option (Int × ct_H) := if a1 = (-1) then ((f_X3_clear G h (G.1 o 8)).bind fun r37 => some (r37.1, r37.2)) else ct_jn (β := Int) (fun k2 => ct_jn (β := Unit) (fun k33 => if a1 = 0 then (k33 ()) else if a1 = 1 then (k33 ()) else k2 0) (fun b32 => k2 1)) (fun b1 => if a1 < 0 then (some ((-1), h)) else if 4 < a1 then (some ((-1), h)) else ct_jn (β := Unit) (fun k5 => if b1 = 0 then (k5 ()) else (f_X0_isPoint G h (G.1 o 0) a2).bind fun v27 => if v27 = 0 then (some ((-1), h)) else k5 ()) (fun b4 => ct_jn (β := Unit) (fun k8 => if a1 = 2 then ((f_X6_isHeight G h a2).bind fun v24 => if v24 = 0 then (some ((-2), h)) else k8 ()) else k8 ()) (fun b7 => ct_jn (β := Unit) (fun k11 => if a1 = 3 then ((f_X6_isKind G h a2).bind fun v21 => if v21 = 0 then (some ((-2), h)) else k11 ()) else k11 ()) (fun b10 => ct_jn (β := Unit) (fun k14 => if a1 = 4 then (if a2 = 0 then (k14 ()) else some ((-2), h)) else k14 ()) (fun b13 => (f_X3_isFull G h (G.1 o 8)).bind fun v16 => if v16 = 0 then ((f_X3_append G h (G.1 o 8) a1 a2).bind fun r17 => some (r17.1, r17.2)) else some ((-4), h))))))
set_option maxRecDepth 100000 in
theorem e_X6_event {d : Nat} {G : ct_G} {h : ct_H} (o : Nat) (a1 : Int) (a2 : Int) : ct_E m_X6_event (d + 2) G (ct_args 0 [.inr (.inr (6, o)), .inl a1, .inl a2]) h (fun r : Int × ct_H => (some (.inl (r.1) : ct_PV), r.2)) (f_X6_event G h o a1 a2) := by
  intro x C
  unfold f_X6_event
  show ct_Z x m_X6_event G 0 [(0, .inr (.inr (6, o))), (1, .inl a1), (2, .inl a2)] [] h (fun a => ct_q x G ((fun r : Int × ct_H => (some (.inl (r.1) : ct_PV), r.2)) a)) _
  refine ct_zrun C (k' := 2) (y := ([(0, .inr (.inr (6, o))), (1, .inl a1), (2, .inl a2)], [.inl (-1), .inl a1], h)) 2 rfl rfl rfl ?_
  refine ct_zf C (pc := 2) (aux := 0) (cn := .ne) (off := 11) (k' := 7) (a := a1) (b := (-1)) Iff.rfl rfl rfl rfl (fun e38 => ?_) (fun e38 => ?_)
  · refine ct_zrun C (k' := 5) (y := ([(0, .inr (.inr (6, o))), (1, .inl a1), (2, .inl a2)], [.inr (.inr (3, (G.1 o 8)))], h)) 2 rfl rfl rfl ?_
    refine ct_zV C (pc := 9) (aux := 0) [] [] ok_X3_clear lk_X6_325 (e_X3_clear (G.1 o 8)) rfl rfl rfl rfl rfl rfl rfl rfl (fun r37 => ?_)
    exact ct_zret C (pc := 12) (aux := 0) (ins := .ireturn) (ρ := (fun r : Int × ct_H => (some (.inl (r.1) : ct_PV), r.2))) (some (.inl (r37.1))) rfl rfl rfl ⟨rfl, Or.inl rfl⟩
  · refine ct_zrun C (k' := 8) (y := ([(0, .inr (.inr (6, o))), (1, .inl a1), (2, .inl a2)], [.inl a1], h)) 1 rfl rfl rfl ?_
    refine ct_zjn (β := Int) (kJ := 15) (L := fun b1 => [(0, .inr (.inr (6, o))), (1, .inl a1), (2, .inl a2)]) (S := fun b1 => [.inl b1]) (Hh := fun b1 => h) (fun b1 => ?_) (fun k2 z3 => ?_)
    · refine ct_zrun C (k' := 17) (y := ([(3, .inl b1), (0, .inr (.inr (6, o))), (1, .inl a1), (2, .inl a2)], [.inl a1], h)) 2 rfl rfl rfl ?_
      refine ct_zt0 C (pc := 29) (aux := 0) (cn := .lt) (off := 23) (k' := 28) (a := a1) Iff.rfl rfl rfl rfl (fun e31 => ?_) (fun e31 => ?_)
      · refine ct_zrun C (k' := 29) (y := ([(3, .inl b1), (0, .inr (.inr (6, o))), (1, .inl a1), (2, .inl a2)], [.inl (-1)], h)) 1 rfl rfl rfl ?_
        exact ct_zret C (pc := 53) (aux := 0) (ins := .ireturn) (ρ := (fun r : Int × ct_H => (some (.inl (r.1) : ct_PV), r.2))) (some (.inl (-1))) rfl rfl rfl ⟨rfl, Or.inl rfl⟩
      · refine ct_zrun C (k' := 20) (y := ([(3, .inl b1), (0, .inr (.inr (6, o))), (1, .inl a1), (2, .inl a2)], [.inl 4, .inl a1], h)) 2 rfl rfl rfl ?_
        refine ct_zt C (pc := 34) (aux := 0) (cn := .gt) (off := 18) (k' := 28) (a := a1) (b := 4) Iff.rfl rfl rfl rfl (fun e30 => ?_) (fun e30 => ?_)
        · refine ct_zrun C (k' := 29) (y := ([(3, .inl b1), (0, .inr (.inr (6, o))), (1, .inl a1), (2, .inl a2)], [.inl (-1)], h)) 1 rfl rfl rfl ?_
          exact ct_zret C (pc := 53) (aux := 0) (ins := .ireturn) (ρ := (fun r : Int × ct_H => (some (.inl (r.1) : ct_PV), r.2))) (some (.inl (-1))) rfl rfl rfl ⟨rfl, Or.inl rfl⟩
        · refine ct_zrun C (k' := 22) (y := ([(3, .inl b1), (0, .inr (.inr (6, o))), (1, .inl a1), (2, .inl a2)], [.inl b1], h)) 1 rfl rfl rfl ?_
          refine ct_zjn (β := Unit) (kJ := 30) (L := fun b4 => [(0, .inr (.inr (6, o))), (1, .inl a1), (2, .inl a2)]) (S := fun b4 => []) (Hh := fun b4 => h) (fun b4 => ?_) (fun k5 z6 => ?_)
          · refine ct_zrun C (k' := 32) (y := ([(0, .inr (.inr (6, o))), (1, .inl a1), (2, .inl a2)], [.inl 2, .inl a1], h)) 2 rfl rfl rfl ?_
            refine ct_zjn (β := Unit) (kJ := 36) (L := fun b7 => [(0, .inr (.inr (6, o))), (1, .inl a1), (2, .inl a2)]) (S := fun b7 => []) (Hh := fun b7 => h) (fun b7 => ?_) (fun k8 z9 => ?_)
            · refine ct_zrun C (k' := 38) (y := ([(0, .inr (.inr (6, o))), (1, .inl a1), (2, .inl a2)], [.inl 3, .inl a1], h)) 2 rfl rfl rfl ?_
              refine ct_zjn (β := Unit) (kJ := 42) (L := fun b10 => [(0, .inr (.inr (6, o))), (1, .inl a1), (2, .inl a2)]) (S := fun b10 => []) (Hh := fun b10 => h) (fun b10 => ?_) (fun k11 z12 => ?_)
              · refine ct_zrun C (k' := 44) (y := ([(0, .inr (.inr (6, o))), (1, .inl a1), (2, .inl a2)], [.inl 4, .inl a1], h)) 2 rfl rfl rfl ?_
                refine ct_zjn (β := Unit) (kJ := 49) (L := fun b13 => [(0, .inr (.inr (6, o))), (1, .inl a1), (2, .inl a2)]) (S := fun b13 => []) (Hh := fun b13 => h) (fun b13 => ?_) (fun k14 z15 => ?_)
                · refine ct_zrun C (k' := 51) (y := ([(0, .inr (.inr (6, o))), (1, .inl a1), (2, .inl a2)], [.inr (.inr (3, (G.1 o 8)))], h)) 2 rfl rfl rfl ?_
                  refine ct_zV C (pc := 94) (aux := 0) [] [] ok_X3_isFull lk_X6_328 (e_X3_isFull (G.1 o 8)) rfl rfl rfl rfl rfl rfl rfl rfl (fun v16 => ?_)
                  refine ct_zt0 C (pc := 97) (aux := 0) (cn := .eq) (off := 8) (k' := 55) (a := v16) Iff.rfl rfl rfl rfl (fun e18 => ?_) (fun e18 => ?_)
                  · refine ct_zrun C (k' := 59) (y := ([(0, .inr (.inr (6, o))), (1, .inl a1), (2, .inl a2)], [.inl a2, .inl a1, .inr (.inr (3, (G.1 o 8)))], h)) 4 rfl rfl rfl ?_
                    refine ct_zV C (pc := 111) (aux := 0) [.inl a1, .inl a2] [] ok_X3_append lk_X6_329 (e_X3_append (G.1 o 8) a1 a2) rfl rfl rfl rfl rfl rfl rfl rfl (fun r17 => ?_)
                    exact ct_zret C (pc := 114) (aux := 0) (ins := .ireturn) (ρ := (fun r : Int × ct_H => (some (.inl (r.1) : ct_PV), r.2))) (some (.inl (r17.1))) rfl rfl rfl ⟨rfl, Or.inl rfl⟩
                  · refine ct_zrun C (k' := 54) (y := ([(0, .inr (.inr (6, o))), (1, .inl a1), (2, .inl a2)], [.inl (-4)], h)) 1 rfl rfl rfl ?_
                    refine ct_zgoto C (pc := 102) (aux := 0) (off := 12) (k' := 60) rfl rfl ?_
                    exact ct_zret C (pc := 114) (aux := 0) (ins := .ireturn) (ρ := (fun r : Int × ct_H => (some (.inl (r.1) : ct_PV), r.2))) (some (.inl (-4))) rfl rfl rfl ⟨rfl, Or.inl rfl⟩
                · refine ct_zf C (pc := 80) (aux := 0) (cn := .ne) (off := 10) (k' := 49) (a := a1) (b := 4) Iff.rfl rfl rfl rfl (fun e20 => ?_) (fun e20 => ?_)
                  · refine ct_zrun C (k' := 46) (y := ([(0, .inr (.inr (6, o))), (1, .inl a1), (2, .inl a2)], [.inl a2], h)) 1 rfl rfl rfl ?_
                    refine ct_zt0 C (pc := 84) (aux := 0) (cn := .eq) (off := 6) (k' := 49) (a := a2) Iff.rfl rfl rfl rfl (fun e19 => ?_) (fun e19 => ?_)
                    · exact ct_zsub [0, 1, 2] rfl (z15 ())
                    · refine ct_zrun C (k' := 48) (y := ([(0, .inr (.inr (6, o))), (1, .inl a1), (2, .inl a2)], [.inl (-2)], h)) 1 rfl rfl rfl ?_
                      exact ct_zret C (pc := 89) (aux := 0) (ins := .ireturn) (ρ := (fun r : Int × ct_H => (some (.inl (r.1) : ct_PV), r.2))) (some (.inl (-2))) rfl rfl rfl ⟨rfl, Or.inl rfl⟩
                  · exact ct_zsub [0, 1, 2] rfl (z15 ())
              · refine ct_zf C (pc := 68) (aux := 0) (cn := .ne) (off := 10) (k' := 42) (a := a1) (b := 3) Iff.rfl rfl rfl rfl (fun e23 => ?_) (fun e23 => ?_)
                · refine ct_zrun C (k' := 40) (y := ([(0, .inr (.inr (6, o))), (1, .inl a1), (2, .inl a2)], [.inl a2], h)) 1 rfl rfl rfl ?_
                  refine ct_zS C (pc := 72) (aux := 0) [.inl a2] [] ok_X6_isKind lk_X6_119 (e_X6_isKind a2) rfl rfl rfl rfl rfl rfl (fun v21 => ?_)
                  refine ct_zt0 C (pc := 75) (aux := 0) (cn := .eq) (off := 12) (k' := 47) (a := v21) Iff.rfl rfl rfl rfl (fun e22 => ?_) (fun e22 => ?_)
                  · refine ct_zrun C (k' := 48) (y := ([(0, .inr (.inr (6, o))), (1, .inl a1), (2, .inl a2)], [.inl (-2)], h)) 1 rfl rfl rfl ?_
                    exact ct_zret C (pc := 89) (aux := 0) (ins := .ireturn) (ρ := (fun r : Int × ct_H => (some (.inl (r.1) : ct_PV), r.2))) (some (.inl (-2))) rfl rfl rfl ⟨rfl, Or.inl rfl⟩
                  · exact ct_zsub [0, 1, 2] rfl (z12 ())
                · exact ct_zsub [0, 1, 2] rfl (z12 ())
            · refine ct_zf C (pc := 56) (aux := 0) (cn := .ne) (off := 10) (k' := 36) (a := a1) (b := 2) Iff.rfl rfl rfl rfl (fun e26 => ?_) (fun e26 => ?_)
              · refine ct_zrun C (k' := 34) (y := ([(0, .inr (.inr (6, o))), (1, .inl a1), (2, .inl a2)], [.inl a2], h)) 1 rfl rfl rfl ?_
                refine ct_zS C (pc := 60) (aux := 0) [.inl a2] [] ok_X6_isHeight lk_X6_109 (e_X6_isHeight a2) rfl rfl rfl rfl rfl rfl (fun v24 => ?_)
                refine ct_zt0 C (pc := 63) (aux := 0) (cn := .eq) (off := 24) (k' := 47) (a := v24) Iff.rfl rfl rfl rfl (fun e25 => ?_) (fun e25 => ?_)
                · refine ct_zrun C (k' := 48) (y := ([(0, .inr (.inr (6, o))), (1, .inl a1), (2, .inl a2)], [.inl (-2)], h)) 1 rfl rfl rfl ?_
                  exact ct_zret C (pc := 89) (aux := 0) (ins := .ireturn) (ρ := (fun r : Int × ct_H => (some (.inl (r.1) : ct_PV), r.2))) (some (.inl (-2))) rfl rfl rfl ⟨rfl, Or.inl rfl⟩
                · exact ct_zsub [0, 1, 2] rfl (z9 ())
              · exact ct_zsub [0, 1, 2] rfl (z9 ())
          · refine ct_zt0 C (pc := 38) (aux := 0) (cn := .eq) (off := 16) (k' := 30) (a := b1) Iff.rfl rfl rfl rfl (fun e29 => ?_) (fun e29 => ?_)
            · exact ct_zsub [1, 2, 3] rfl (z6 ())
            · refine ct_zrun C (k' := 26) (y := ([(3, .inl b1), (0, .inr (.inr (6, o))), (1, .inl a1), (2, .inl a2)], [.inl a2, .inr (.inr (0, (G.1 o 0)))], h)) 3 rfl rfl rfl ?_
              refine ct_zV C (pc := 46) (aux := 0) [.inl a2] [] ok_X0_isPoint lk_X6_106 (e_X0_isPoint (G.1 o 0) a2) rfl rfl rfl rfl rfl rfl rfl rfl (fun v27 => ?_)
              refine ct_zf0 C (pc := 49) (aux := 0) (cn := .ne) (off := 5) (k' := 30) (a := v27) Iff.rfl rfl rfl rfl (fun e28 => ?_) (fun e28 => ?_)
              · refine ct_zrun C (k' := 29) (y := ([(3, .inl b1), (0, .inr (.inr (6, o))), (1, .inl a1), (2, .inl a2)], [.inl (-1)], h)) 1 rfl rfl rfl ?_
                exact ct_zret C (pc := 53) (aux := 0) (ins := .ireturn) (ρ := (fun r : Int × ct_H => (some (.inl (r.1) : ct_PV), r.2))) (some (.inl (-1))) rfl rfl rfl ⟨rfl, Or.inl rfl⟩
              · exact ct_zsub [1, 2, 3] rfl (z6 ())
    · refine ct_zjn (β := Unit) (kJ := 12) (L := fun b32 => [(0, .inr (.inr (6, o))), (1, .inl a1), (2, .inl a2)]) (S := fun b32 => []) (Hh := fun b32 => h) (fun b32 => ?_) (fun k33 z34 => ?_)
      · refine ct_zrun C (k' := 13) (y := ([(0, .inr (.inr (6, o))), (1, .inl a1), (2, .inl a2)], [.inl 1], h)) 1 rfl rfl rfl ?_
        refine ct_zgoto C (pc := 23) (aux := 0) (off := 4) (k' := 15) rfl rfl ?_
        exact ct_zsub [0, 1, 2] rfl (z3 1)
      · refine ct_zt0 C (pc := 14) (aux := 0) (cn := .eq) (off := 8) (k' := 12) (a := a1) Iff.rfl rfl rfl rfl (fun e36 => ?_) (fun e36 => ?_)
        · exact ct_zsub [0, 1, 2] rfl (z34 ())
        · refine ct_zrun C (k' := 11) (y := ([(0, .inr (.inr (6, o))), (1, .inl a1), (2, .inl a2)], [.inl 1, .inl a1], h)) 2 rfl rfl rfl ?_
          refine ct_zf C (pc := 19) (aux := 0) (cn := .ne) (off := 7) (k' := 14) (a := a1) (b := 1) Iff.rfl rfl rfl rfl (fun e35 => ?_) (fun e35 => ?_)
          · exact ct_zsub [0, 1, 2] rfl (z34 ())
          · refine ct_zrun C (k' := 15) (y := ([(0, .inr (.inr (6, o))), (1, .inl a1), (2, .inl a2)], [.inl 0], h)) 1 rfl rfl rfl ?_
            exact ct_zsub [0, 1, 2] rfl (z3 0)
def f_X6_happen (G : ct_G) (h : ct_H) (a0 : Nat) (a1 : Int) (a2 : Int) : Option (ct_H) := if a1 = 0 then ((f_X0_isPoint G h a0 a2).bind fun v1 => if v1 = 0 then (some h) else (f_X0_heightOf G h a0 a2).bind fun v2 => (f_X0_putHeight G h a0 a2 (ct_min 99 (ct_wr (v2 + 10)))).bind fun r3 => some r3) else if a1 = 1 then ((f_X0_isPoint G h a0 a2).bind fun v6 => if v6 = 0 then (some h) else (f_X0_putHeight G h a0 a2 0).bind fun r7 => some r7) else if a1 = 2 then ((f_X0_lowerAll G h a0 a2).bind fun r10 => some r10) else if a1 = 3 then ((f_X0_putKind G h a0 a2).bind fun r12 => some r12) else (f_X0_turnOver G h a0).bind fun r14 => some r14
set_option maxRecDepth 100000 in
theorem e_X6_happen {d : Nat} {G : ct_G} {h : ct_H} (a0 : Nat) (a1 : Int) (a2 : Int) : ct_E m_X6_happen (d + 3) G (ct_args 0 [.inr (.inr (0, a0)), .inl a1, .inl a2]) h (fun r : ct_H => ((none : Option ct_PV), r)) (f_X6_happen G h a0 a1 a2) := by
  intro x C
  unfold f_X6_happen
  show ct_Z x m_X6_happen G 0 [(0, .inr (.inr (0, a0))), (1, .inl a1), (2, .inl a2)] [] h (fun a => ct_q x G ((fun r : ct_H => ((none : Option ct_PV), r)) a)) _
  refine ct_zrun C (k' := 1) (y := ([(0, .inr (.inr (0, a0))), (1, .inl a1), (2, .inl a2)], [.inl a1], h)) 1 rfl rfl rfl ?_
  refine ct_zsplit (fun e5 => ?_) (fun e5 => ?_)
  · refine ct_zsw C (off := 31) (k' := 2) rfl (by rw [e5]; rfl) rfl ?_
    refine ct_zrun C (k' := 4) (y := ([(0, .inr (.inr (0, a0))), (1, .inl a1), (2, .inl a2)], [.inl a2, .inr (.inr (0, a0))], h)) 2 rfl rfl rfl ?_
    refine ct_zV C (pc := 34) (aux := 0) [.inl a2] [] ok_X0_isPoint lk_X6_106 (e_X0_isPoint a0 a2) rfl rfl rfl rfl rfl rfl rfl rfl (fun v1 => ?_)
    refine ct_zt0 C (pc := 37) (aux := 0) (cn := .eq) (off := 61) (k' := 36) (a := v1) Iff.rfl rfl rfl rfl (fun e4 => ?_) (fun e4 => ?_)
    · exact ct_zret C (pc := 98) (aux := 0) (ins := .return_) (ρ := (fun r : ct_H => ((none : Option ct_PV), r))) none rfl rfl rfl ⟨rfl, rfl⟩
    · refine ct_zrun C (k' := 11) (y := ([(0, .inr (.inr (0, a0))), (1, .inl a1), (2, .inl a2)], [.inl a2, .inr (.inr (0, a0)), .inl 99, .inl a2, .inr (.inr (0, a0))], h)) 5 rfl rfl rfl ?_
      refine ct_zV C (pc := 46) (aux := 0) [.inl a2] [.inl 99, .inl a2, .inr (.inr (0, a0))] ok_X0_heightOf lk_X6_112 (e_X0_heightOf a0 a2) rfl rfl rfl rfl rfl rfl rfl rfl (fun v2 => ?_)
      refine ct_zrun C (k' := 14) (y := ([(0, .inr (.inr (0, a0))), (1, .inl a1), (2, .inl a2)], [.inl (ct_wr (v2 + 10)), .inl 99, .inl a2, .inr (.inr (0, a0))], h)) 2 rfl rfl rfl ?_
      refine ct_zmin C (pc := 52) (aux := 0) lk_X6_298 rfl rfl rfl ?_
      refine ct_zV C (pc := 55) (aux := 0) [.inl a2, .inl (ct_min 99 (ct_wr (v2 + 10)))] [] ok_X0_putHeight lk_X6_116 (e_X0_putHeight a0 a2 (ct_min 99 (ct_wr (v2 + 10)))) rfl rfl rfl rfl rfl rfl rfl rfl (fun r3 => ?_)
      refine ct_zgoto C (pc := 58) (aux := 0) (off := 40) (k' := 36) rfl rfl ?_
      exact ct_zret C (pc := 98) (aux := 0) (ins := .return_) (ρ := (fun r : ct_H => ((none : Option ct_PV), r))) none rfl rfl rfl ⟨rfl, rfl⟩
  · refine ct_zsplit (fun e9 => ?_) (fun e9 => ?_)
    · refine ct_zsw C (off := 60) (k' := 17) rfl (by rw [e9]; rfl) rfl ?_
      refine ct_zrun C (k' := 19) (y := ([(0, .inr (.inr (0, a0))), (1, .inl a1), (2, .inl a2)], [.inl a2, .inr (.inr (0, a0))], h)) 2 rfl rfl rfl ?_
      refine ct_zV C (pc := 63) (aux := 0) [.inl a2] [] ok_X0_isPoint lk_X6_106 (e_X0_isPoint a0 a2) rfl rfl rfl rfl rfl rfl rfl rfl (fun v6 => ?_)
      refine ct_zt0 C (pc := 66) (aux := 0) (cn := .eq) (off := 32) (k' := 36) (a := v6) Iff.rfl rfl rfl rfl (fun e8 => ?_) (fun e8 => ?_)
      · exact ct_zret C (pc := 98) (aux := 0) (ins := .return_) (ρ := (fun r : ct_H => ((none : Option ct_PV), r))) none rfl rfl rfl ⟨rfl, rfl⟩
      · refine ct_zrun C (k' := 24) (y := ([(0, .inr (.inr (0, a0))), (1, .inl a1), (2, .inl a2)], [.inl 0, .inl a2, .inr (.inr (0, a0))], h)) 3 rfl rfl rfl ?_
        refine ct_zV C (pc := 72) (aux := 0) [.inl a2, .inl 0] [] ok_X0_putHeight lk_X6_116 (e_X0_putHeight a0 a2 0) rfl rfl rfl rfl rfl rfl rfl rfl (fun r7 => ?_)
        refine ct_zgoto C (pc := 75) (aux := 0) (off := 23) (k' := 36) rfl rfl ?_
        exact ct_zret C (pc := 98) (aux := 0) (ins := .return_) (ρ := (fun r : ct_H => ((none : Option ct_PV), r))) none rfl rfl rfl ⟨rfl, rfl⟩
    · refine ct_zsplit (fun e11 => ?_) (fun e11 => ?_)
      · refine ct_zsw C (off := 77) (k' := 26) rfl (by rw [e11]; rfl) rfl ?_
        refine ct_zrun C (k' := 28) (y := ([(0, .inr (.inr (0, a0))), (1, .inl a1), (2, .inl a2)], [.inl a2, .inr (.inr (0, a0))], h)) 2 rfl rfl rfl ?_
        refine ct_zV C (pc := 80) (aux := 0) [.inl a2] [] ok_X0_lowerAll lk_X6_359 (e_X0_lowerAll a0 a2) rfl rfl rfl rfl rfl rfl rfl rfl (fun r10 => ?_)
        refine ct_zgoto C (pc := 83) (aux := 0) (off := 15) (k' := 36) rfl rfl ?_
        exact ct_zret C (pc := 98) (aux := 0) (ins := .return_) (ρ := (fun r : ct_H => ((none : Option ct_PV), r))) none rfl rfl rfl ⟨rfl, rfl⟩
      · refine ct_zsplit (fun e13 => ?_) (fun e13 => ?_)
        · refine ct_zsw C (off := 85) (k' := 30) rfl (by rw [e13]; rfl) rfl ?_
          refine ct_zrun C (k' := 32) (y := ([(0, .inr (.inr (0, a0))), (1, .inl a1), (2, .inl a2)], [.inl a2, .inr (.inr (0, a0))], h)) 2 rfl rfl rfl ?_
          refine ct_zV C (pc := 88) (aux := 0) [.inl a2] [] ok_X0_putKind lk_X6_125 (e_X0_putKind a0 a2) rfl rfl rfl rfl rfl rfl rfl rfl (fun r12 => ?_)
          refine ct_zgoto C (pc := 91) (aux := 0) (off := 7) (k' := 36) rfl rfl ?_
          exact ct_zret C (pc := 98) (aux := 0) (ins := .return_) (ρ := (fun r : ct_H => ((none : Option ct_PV), r))) none rfl rfl rfl ⟨rfl, rfl⟩
        · refine ct_zsw C (off := 93) (k' := 34) rfl (by show (if _ then _ else _) = _; rw [if_pos (by omega)]) rfl ?_
          refine ct_zrun C (k' := 35) (y := ([(0, .inr (.inr (0, a0))), (1, .inl a1), (2, .inl a2)], [.inr (.inr (0, a0))], h)) 1 rfl rfl rfl ?_
          refine ct_zV C (pc := 95) (aux := 0) [] [] ok_X0_turnOver lk_X6_171 (e_X0_turnOver a0) rfl rfl rfl rfl rfl rfl rfl rfl (fun r14 => ?_)
          exact ct_zret C (pc := 98) (aux := 0) (ins := .return_) (ρ := (fun r : ct_H => ((none : Option ct_PV), r))) none rfl rfl rfl ⟨rfl, rfl⟩
def l_X6_tryEvents_7 (G : ct_G) (o : Nat) : Nat → (Int × ct_H) → Option (ct_H)
  | 0, _ => none
  | n3 + 1, b2 => if (b2.2.1 (G.1 o 8) 2) ≤ b2.1 then (some (b2.2)) else (ct_rd G b2.2 (G.1 (G.1 o 8) 0) b2.1).bind fun v4 => (ct_rd G b2.2 (G.1 (G.1 o 8) 1) b2.1).bind fun v5 => (f_X6_happen G b2.2 (G.1 o 4) v4 v5).bind fun r6 => l_X6_tryEvents_7 G o n3 ((ct_wr (b2.1 + 1)), r6)
set_option maxRecDepth 100000 in
theorem zl_X6_tryEvents_7 {x : ct_Ctx} {d : Nat} {G : ct_G} (C : ct_c x m_X6_tryEvents G (d + 4)) (o : Nat) : ∀ (n3 : Nat) (b2 : Int × ct_H), ct_Z x m_X6_tryEvents G 7 [(0, .inr (.inr (6, o))), (1, .inl (b2.1))] [] b2.2 (fun a => ct_q x G ((fun r : ct_H => ((none : Option ct_PV), r)) a)) (l_X6_tryEvents_7 G o n3 b2) := by
  intro n3
  induction n3 with
  | zero => intro b2; exact ct_znone
  | succ n3 ih =>
    intro b2
    rw [l_X6_tryEvents_7]
    refine ct_zrun C (k' := 11) (y := ([(0, .inr (.inr (6, o))), (1, .inl (b2.1))], [.inl (b2.2.1 (G.1 o 8) 2), .inl (b2.1)], b2.2)) 4 rfl rfl rfl ?_
    refine ct_zt C (pc := 21) (aux := 0) (cn := .ge) (off := 34) (k' := 27) (a := b2.1) (b := (b2.2.1 (G.1 o 8) 2)) Iff.rfl rfl rfl rfl (fun e7 => ?_) (fun e7 => ?_)
    · exact ct_zret C (pc := 55) (aux := 0) (ins := .return_) (ρ := (fun r : ct_H => ((none : Option ct_PV), r))) none rfl rfl rfl ⟨rfl, rfl⟩
    · refine ct_zrun C (k' := 18) (y := ([(0, .inr (.inr (6, o))), (1, .inl (b2.1))], [.inl (b2.1), .inr (.inr (8, (G.1 (G.1 o 8) 0))), .inr (.inr (0, (G.1 o 4)))], b2.2)) 6 rfl rfl rfl ?_
      refine ct_zrd C (pc := 36) (aux := 0) (ins := .iaload) (cd := 8) rfl rfl (Or.inl ⟨rfl, rfl⟩) (fun v4 => ?_)
      refine ct_zrun C (k' := 23) (y := ([(0, .inr (.inr (6, o))), (1, .inl (b2.1))], [.inl (b2.1), .inr (.inr (8, (G.1 (G.1 o 8) 1))), .inl v4, .inr (.inr (0, (G.1 o 4)))], b2.2)) 4 rfl rfl rfl ?_
      refine ct_zrd C (pc := 45) (aux := 0) (ins := .iaload) (cd := 8) rfl rfl (Or.inl ⟨rfl, rfl⟩) (fun v5 => ?_)
      refine ct_zS C (pc := 46) (aux := 0) [.inr (.inr (0, (G.1 o 4))), .inl v4, .inl v5] [] ok_X6_happen lk_X6_355 (e_X6_happen (G.1 o 4) v4 v5) rfl rfl rfl rfl rfl rfl (fun r6 => ?_)
      refine ct_zrun C (k' := 26) (y := ([(1, .inl (ct_wr (b2.1 + 1))), (0, .inr (.inr (6, o)))], [], r6)) 1 rfl rfl rfl ?_
      refine ct_zgoto C (pc := 52) (aux := 0) (off := (-39)) (k' := 7) rfl rfl ?_
      exact ct_zsub [1, 0] rfl (ih ((ct_wr (b2.1 + 1)), r6))
def f_X6_tryEvents (G : ct_G) (h : ct_H) (o : Nat) : Option (ct_H) := (f_X0_copyFrom G h (G.1 o 4) (G.1 o 0)).bind fun r1 => l_X6_tryEvents_7 G o 200 (0, r1)
set_option maxRecDepth 100000 in
theorem e_X6_tryEvents {d : Nat} {G : ct_G} {h : ct_H} (o : Nat) : ct_E m_X6_tryEvents (d + 4) G (ct_args 0 [.inr (.inr (6, o))]) h (fun r : ct_H => ((none : Option ct_PV), r)) (f_X6_tryEvents G h o) := by
  intro x C
  unfold f_X6_tryEvents
  show ct_Z x m_X6_tryEvents G 0 [(0, .inr (.inr (6, o)))] [] h (fun a => ct_q x G ((fun r : ct_H => ((none : Option ct_PV), r)) a)) _
  refine ct_zrun C (k' := 4) (y := ([(0, .inr (.inr (6, o)))], [.inr (.inr (0, (G.1 o 0))), .inr (.inr (0, (G.1 o 4)))], h)) 4 rfl rfl rfl ?_
  refine ct_zV C (pc := 8) (aux := 0) [.inr (.inr (0, (G.1 o 0)))] [] ok_X0_copyFrom lk_X6_352 (e_X0_copyFrom (G.1 o 4) (G.1 o 0)) rfl rfl rfl rfl rfl rfl rfl rfl (fun r1 => ?_)
  refine ct_zrun C (k' := 7) (y := ([(1, .inl 0), (0, .inr (.inr (6, o)))], [], r1)) 2 rfl rfl rfl ?_
  exact ct_zsub [1, 0] rfl (zl_X6_tryEvents_7 C o 200 (0, r1))
def f_X6_after (G : ct_G) (h : ct_H) (o : Nat) (a1 : Int) (a2 : Int) : Option (Int × ct_H) := (f_X6_isLevel G h a1).bind fun v1 => if v1 = 0 then (some ((-2), h)) else if a2 < 0 then (some ((-1), h)) else if a2 ≤ 2 then ((f_X6_tryEvents G h o).bind fun r2 => if a2 = 0 then ((f_X2_trace G r2 (G.1 o 5) a1).bind fun r6 => some ((r6.1 (G.1 o 5) 5), r6)) else if a2 = 1 then ((f_X1_find G r2 (G.1 o 6) a1).bind fun r4 => some ((r4.1 (G.1 o 6) 7), r4)) else (f_X0_volume G r2 (G.1 o 4) a1).bind fun v3 => some (v3, r2)) else some ((-1), h)
set_option maxRecDepth 100000 in
theorem e_X6_after {d : Nat} {G : ct_G} {h : ct_H} (o : Nat) (a1 : Int) (a2 : Int) : ct_E m_X6_after (d + 5) G (ct_args 0 [.inr (.inr (6, o)), .inl a1, .inl a2]) h (fun r : Int × ct_H => (some (.inl (r.1) : ct_PV), r.2)) (f_X6_after G h o a1 a2) := by
  intro x C
  unfold f_X6_after
  show ct_Z x m_X6_after G 0 [(0, .inr (.inr (6, o))), (1, .inl a1), (2, .inl a2)] [] h (fun a => ct_q x G ((fun r : Int × ct_H => (some (.inl (r.1) : ct_PV), r.2)) a)) _
  refine ct_zrun C (k' := 1) (y := ([(0, .inr (.inr (6, o))), (1, .inl a1), (2, .inl a2)], [.inl a1], h)) 1 rfl rfl rfl ?_
  refine ct_zS C (pc := 1) (aux := 0) [.inl a1] [] ok_X6_isLevel lk_X6_196 (e_X6_isLevel a1) rfl rfl rfl rfl rfl rfl (fun v1 => ?_)
  refine ct_zf0 C (pc := 4) (aux := 0) (cn := .ne) (off := 6) (k' := 5) (a := v1) Iff.rfl rfl rfl rfl (fun e10 => ?_) (fun e10 => ?_)
  · refine ct_zrun C (k' := 4) (y := ([(0, .inr (.inr (6, o))), (1, .inl a1), (2, .inl a2)], [.inl (-2)], h)) 1 rfl rfl rfl ?_
    exact ct_zret C (pc := 9) (aux := 0) (ins := .ireturn) (ρ := (fun r : Int × ct_H => (some (.inl (r.1) : ct_PV), r.2))) (some (.inl (-2))) rfl rfl rfl ⟨rfl, Or.inl rfl⟩
  · refine ct_zrun C (k' := 6) (y := ([(0, .inr (.inr (6, o))), (1, .inl a1), (2, .inl a2)], [.inl a2], h)) 1 rfl rfl rfl ?_
    refine ct_zt0 C (pc := 11) (aux := 0) (cn := .lt) (off := 8) (k' := 10) (a := a2) Iff.rfl rfl rfl rfl (fun e9 => ?_) (fun e9 => ?_)
    · refine ct_zrun C (k' := 11) (y := ([(0, .inr (.inr (6, o))), (1, .inl a1), (2, .inl a2)], [.inl (-1)], h)) 1 rfl rfl rfl ?_
      exact ct_zret C (pc := 20) (aux := 0) (ins := .ireturn) (ρ := (fun r : Int × ct_H => (some (.inl (r.1) : ct_PV), r.2))) (some (.inl (-1))) rfl rfl rfl ⟨rfl, Or.inl rfl⟩
    · refine ct_zrun C (k' := 9) (y := ([(0, .inr (.inr (6, o))), (1, .inl a1), (2, .inl a2)], [.inl 2, .inl a2], h)) 2 rfl rfl rfl ?_
      refine ct_zt C (pc := 16) (aux := 0) (cn := .le) (off := 5) (k' := 12) (a := a2) (b := 2) Iff.rfl rfl rfl rfl (fun e8 => ?_) (fun e8 => ?_)
      · refine ct_zrun C (k' := 13) (y := ([(0, .inr (.inr (6, o))), (1, .inl a1), (2, .inl a2)], [.inr (.inr (6, o))], h)) 1 rfl rfl rfl ?_
        refine ct_zV C (pc := 22) (aux := 0) [] [] ok_X6_tryEvents lk_X6_349 (e_X6_tryEvents o) rfl rfl rfl rfl rfl rfl rfl rfl (fun r2 => ?_)
        refine ct_zrun C (k' := 15) (y := ([(0, .inr (.inr (6, o))), (1, .inl a1), (2, .inl a2)], [.inl a2], r2)) 1 rfl rfl rfl ?_
        refine ct_zf0 C (pc := 26) (aux := 0) (cn := .ne) (off := 19) (k' := 24) (a := a2) Iff.rfl rfl rfl rfl (fun e7 => ?_) (fun e7 => ?_)
        · refine ct_zrun C (k' := 19) (y := ([(0, .inr (.inr (6, o))), (1, .inl a1), (2, .inl a2)], [.inl a1, .inr (.inr (2, (G.1 o 5)))], r2)) 3 rfl rfl rfl ?_
          refine ct_zV C (pc := 34) (aux := 0) [.inl a1] [] ok_X2_trace lk_X6_199 (e_X2_trace (G.1 o 5) a1) rfl rfl rfl rfl rfl rfl rfl rfl (fun r6 => ?_)
          refine ct_zrun C (k' := 23) (y := ([(0, .inr (.inr (6, o))), (1, .inl a1), (2, .inl a2)], [.inl (r6.1 (G.1 o 5) 5)], r6)) 3 rfl rfl rfl ?_
          exact ct_zret C (pc := 44) (aux := 0) (ins := .ireturn) (ρ := (fun r : Int × ct_H => (some (.inl (r.1) : ct_PV), r.2))) (some (.inl (r6.1 (G.1 o 5) 5))) rfl rfl rfl ⟨rfl, Or.inl rfl⟩
        · refine ct_zrun C (k' := 26) (y := ([(0, .inr (.inr (6, o))), (1, .inl a1), (2, .inl a2)], [.inl 1, .inl a2], r2)) 2 rfl rfl rfl ?_
          refine ct_zf C (pc := 47) (aux := 0) (cn := .ne) (off := 19) (k' := 35) (a := a2) (b := 1) Iff.rfl rfl rfl rfl (fun e5 => ?_) (fun e5 => ?_)
          · refine ct_zrun C (k' := 30) (y := ([(0, .inr (.inr (6, o))), (1, .inl a1), (2, .inl a2)], [.inl a1, .inr (.inr (1, (G.1 o 6)))], r2)) 3 rfl rfl rfl ?_
            refine ct_zV C (pc := 55) (aux := 0) [.inl a1] [] ok_X1_find lk_X6_208 (e_X1_find (G.1 o 6) a1) rfl rfl rfl rfl rfl rfl rfl rfl (fun r4 => ?_)
            refine ct_zrun C (k' := 34) (y := ([(0, .inr (.inr (6, o))), (1, .inl a1), (2, .inl a2)], [.inl (r4.1 (G.1 o 6) 7)], r4)) 3 rfl rfl rfl ?_
            exact ct_zret C (pc := 65) (aux := 0) (ins := .ireturn) (ρ := (fun r : Int × ct_H => (some (.inl (r.1) : ct_PV), r.2))) (some (.inl (r4.1 (G.1 o 6) 7))) rfl rfl rfl ⟨rfl, Or.inl rfl⟩
          · refine ct_zrun C (k' := 38) (y := ([(0, .inr (.inr (6, o))), (1, .inl a1), (2, .inl a2)], [.inl a1, .inr (.inr (0, (G.1 o 4)))], r2)) 3 rfl rfl rfl ?_
            refine ct_zV C (pc := 71) (aux := 0) [.inl a1] [] ok_X0_volume lk_X6_193 (e_X0_volume (G.1 o 4) a1) rfl rfl rfl rfl rfl rfl rfl rfl (fun v3 => ?_)
            exact ct_zret C (pc := 74) (aux := 0) (ins := .ireturn) (ρ := (fun r : Int × ct_H => (some (.inl (r.1) : ct_PV), r.2))) (some (.inl v3)) rfl rfl rfl ⟨rfl, Or.inl rfl⟩
      · refine ct_zrun C (k' := 11) (y := ([(0, .inr (.inr (6, o))), (1, .inl a1), (2, .inl a2)], [.inl (-1)], h)) 1 rfl rfl rfl ?_
        exact ct_zret C (pc := 20) (aux := 0) (ins := .ireturn) (ρ := (fun r : Int × ct_H => (some (.inl (r.1) : ct_PV), r.2))) (some (.inl (-1))) rfl rfl rfl ⟨rfl, Or.inl rfl⟩
def f_X6_book (G : ct_G) (h : ct_H) (o : Nat) (a1 : Int) (a2 : Int) : Option (Int × ct_H) := if a1 = (-1) then ((f_X3_clear G h (G.1 o 9)).bind fun r8 => some (r8.1, r8.2)) else (f_X0_isPoint G h (G.1 o 0) a1).bind fun v1 => if v1 = 0 then (some ((-1), h)) else (f_X6_isHeight G h a2).bind fun v2 => if v2 = 0 then (some ((-2), h)) else (f_X3_isFull G h (G.1 o 9)).bind fun v3 => if v3 = 0 then ((f_X3_append G h (G.1 o 9) a1 a2).bind fun r4 => some (r4.1, r4.2)) else some ((-4), h)
set_option maxRecDepth 100000 in
theorem e_X6_book {d : Nat} {G : ct_G} {h : ct_H} (o : Nat) (a1 : Int) (a2 : Int) : ct_E m_X6_book (d + 2) G (ct_args 0 [.inr (.inr (6, o)), .inl a1, .inl a2]) h (fun r : Int × ct_H => (some (.inl (r.1) : ct_PV), r.2)) (f_X6_book G h o a1 a2) := by
  intro x C
  unfold f_X6_book
  show ct_Z x m_X6_book G 0 [(0, .inr (.inr (6, o))), (1, .inl a1), (2, .inl a2)] [] h (fun a => ct_q x G ((fun r : Int × ct_H => (some (.inl (r.1) : ct_PV), r.2)) a)) _
  refine ct_zrun C (k' := 2) (y := ([(0, .inr (.inr (6, o))), (1, .inl a1), (2, .inl a2)], [.inl (-1), .inl a1], h)) 2 rfl rfl rfl ?_
  refine ct_zf C (pc := 2) (aux := 0) (cn := .ne) (off := 11) (k' := 7) (a := a1) (b := (-1)) Iff.rfl rfl rfl rfl (fun e9 => ?_) (fun e9 => ?_)
  · refine ct_zrun C (k' := 5) (y := ([(0, .inr (.inr (6, o))), (1, .inl a1), (2, .inl a2)], [.inr (.inr (3, (G.1 o 9)))], h)) 2 rfl rfl rfl ?_
    refine ct_zV C (pc := 9) (aux := 0) [] [] ok_X3_clear lk_X6_325 (e_X3_clear (G.1 o 9)) rfl rfl rfl rfl rfl rfl rfl rfl (fun r8 => ?_)
    exact ct_zret C (pc := 12) (aux := 0) (ins := .ireturn) (ρ := (fun r : Int × ct_H => (some (.inl (r.1) : ct_PV), r.2))) (some (.inl (r8.1))) rfl rfl rfl ⟨rfl, Or.inl rfl⟩
  · refine ct_zrun C (k' := 10) (y := ([(0, .inr (.inr (6, o))), (1, .inl a1), (2, .inl a2)], [.inl a1, .inr (.inr (0, (G.1 o 0)))], h)) 3 rfl rfl rfl ?_
    refine ct_zV C (pc := 18) (aux := 0) [.inl a1] [] ok_X0_isPoint lk_X6_106 (e_X0_isPoint (G.1 o 0) a1) rfl rfl rfl rfl rfl rfl rfl rfl (fun v1 => ?_)
    refine ct_zf0 C (pc := 21) (aux := 0) (cn := .ne) (off := 5) (k' := 14) (a := v1) Iff.rfl rfl rfl rfl (fun e7 => ?_) (fun e7 => ?_)
    · refine ct_zrun C (k' := 13) (y := ([(0, .inr (.inr (6, o))), (1, .inl a1), (2, .inl a2)], [.inl (-1)], h)) 1 rfl rfl rfl ?_
      exact ct_zret C (pc := 25) (aux := 0) (ins := .ireturn) (ρ := (fun r : Int × ct_H => (some (.inl (r.1) : ct_PV), r.2))) (some (.inl (-1))) rfl rfl rfl ⟨rfl, Or.inl rfl⟩
    · refine ct_zrun C (k' := 15) (y := ([(0, .inr (.inr (6, o))), (1, .inl a1), (2, .inl a2)], [.inl a2], h)) 1 rfl rfl rfl ?_
      refine ct_zS C (pc := 27) (aux := 0) [.inl a2] [] ok_X6_isHeight lk_X6_109 (e_X6_isHeight a2) rfl rfl rfl rfl rfl rfl (fun v2 => ?_)
      refine ct_zf0 C (pc := 30) (aux := 0) (cn := .ne) (off := 6) (k' := 19) (a := v2) Iff.rfl rfl rfl rfl (fun e6 => ?_) (fun e6 => ?_)
      · refine ct_zrun C (k' := 18) (y := ([(0, .inr (.inr (6, o))), (1, .inl a1), (2, .inl a2)], [.inl (-2)], h)) 1 rfl rfl rfl ?_
        exact ct_zret C (pc := 35) (aux := 0) (ins := .ireturn) (ρ := (fun r : Int × ct_H => (some (.inl (r.1) : ct_PV), r.2))) (some (.inl (-2))) rfl rfl rfl ⟨rfl, Or.inl rfl⟩
      · refine ct_zrun C (k' := 21) (y := ([(0, .inr (.inr (6, o))), (1, .inl a1), (2, .inl a2)], [.inr (.inr (3, (G.1 o 9)))], h)) 2 rfl rfl rfl ?_
        refine ct_zV C (pc := 40) (aux := 0) [] [] ok_X3_isFull lk_X6_328 (e_X3_isFull (G.1 o 9)) rfl rfl rfl rfl rfl rfl rfl rfl (fun v3 => ?_)
        refine ct_zt0 C (pc := 43) (aux := 0) (cn := .eq) (off := 8) (k' := 25) (a := v3) Iff.rfl rfl rfl rfl (fun e5 => ?_) (fun e5 => ?_)
        · refine ct_zrun C (k' := 29) (y := ([(0, .inr (.inr (6, o))), (1, .inl a1), (2, .inl a2)], [.inl a2, .inl a1, .inr (.inr (3, (G.1 o 9)))], h)) 4 rfl rfl rfl ?_
          refine ct_zV C (pc := 57) (aux := 0) [.inl a1, .inl a2] [] ok_X3_append lk_X6_329 (e_X3_append (G.1 o 9) a1 a2) rfl rfl rfl rfl rfl rfl rfl rfl (fun r4 => ?_)
          exact ct_zret C (pc := 60) (aux := 0) (ins := .ireturn) (ρ := (fun r : Int × ct_H => (some (.inl (r.1) : ct_PV), r.2))) (some (.inl (r4.1))) rfl rfl rfl ⟨rfl, Or.inl rfl⟩
        · refine ct_zrun C (k' := 24) (y := ([(0, .inr (.inr (6, o))), (1, .inl a1), (2, .inl a2)], [.inl (-4)], h)) 1 rfl rfl rfl ?_
          refine ct_zgoto C (pc := 48) (aux := 0) (off := 12) (k' := 30) rfl rfl ?_
          exact ct_zret C (pc := 60) (aux := 0) (ins := .ireturn) (ρ := (fun r : Int × ct_H => (some (.inl (r.1) : ct_PV), r.2))) (some (.inl (-4))) rfl rfl rfl ⟨rfl, Or.inl rfl⟩
def l_X6_looked_2 (G : ct_G) (o : Nat) (h : ct_H) : Nat → Int → Option (Int)
  | 0, _ => none
  | n2 + 1, b1 => if (h.1 (G.1 o 9) 2) ≤ b1 then (some (-5)) else (ct_rd G h (G.1 (G.1 o 9) 0) b1).bind fun v3 => (f_X0_isPoint G h (G.1 o 0) v3).bind fun v4 => if v4 = 0 then (some b1) else (f_X0_heightOf G h (G.1 o 0) v3).bind fun v5 => (ct_rd G h (G.1 (G.1 o 9) 1) b1).bind fun v6 => if v5 = v6 then (l_X6_looked_2 G o h n2 (ct_wr (b1 + 1))) else some b1
set_option maxRecDepth 100000 in
theorem zl_X6_looked_2 {x : ct_Ctx} {d : Nat} {G : ct_G} (C : ct_c x m_X6_looked G (d + 2)) (o : Nat) (h : ct_H) : ∀ (n2 : Nat) (b1 : Int), ct_Z x m_X6_looked G 2 [(0, .inr (.inr (6, o))), (1, .inl b1)] [] h (fun a => ct_q x G ((fun r : Int => (some (.inl r : ct_PV), h)) a)) (l_X6_looked_2 G o h n2 b1) := by
  intro n2
  induction n2 with
  | zero => intro b1; exact ct_znone
  | succ n2 ih =>
    intro b1
    rw [l_X6_looked_2]
    refine ct_zrun C (k' := 6) (y := ([(0, .inr (.inr (6, o))), (1, .inl b1)], [.inl (h.1 (G.1 o 9) 2), .inl b1], h)) 4 rfl rfl rfl ?_
    refine ct_zt C (pc := 10) (aux := 0) (cn := .ge) (off := 52) (k' := 32) (a := b1) (b := (h.1 (G.1 o 9) 2)) Iff.rfl rfl rfl rfl (fun e9 => ?_) (fun e9 => ?_)
    · refine ct_zrun C (k' := 33) (y := ([(0, .inr (.inr (6, o))), (1, .inl b1)], [.inl (-5)], h)) 1 rfl rfl rfl ?_
      exact ct_zret C (pc := 64) (aux := 0) (ins := .ireturn) (ρ := (fun r : Int => (some (.inl r : ct_PV), h))) (some (.inl (-5))) rfl rfl rfl ⟨rfl, Or.inl rfl⟩
    · refine ct_zrun C (k' := 11) (y := ([(0, .inr (.inr (6, o))), (1, .inl b1)], [.inl b1, .inr (.inr (8, (G.1 (G.1 o 9) 0)))], h)) 4 rfl rfl rfl ?_
      refine ct_zrd C (pc := 21) (aux := 0) (ins := .iaload) (cd := 8) rfl rfl (Or.inl ⟨rfl, rfl⟩) (fun v3 => ?_)
      refine ct_zrun C (k' := 16) (y := ([(2, .inl v3), (0, .inr (.inr (6, o))), (1, .inl b1)], [.inl v3, .inr (.inr (0, (G.1 o 0)))], h)) 4 rfl rfl rfl ?_
      refine ct_zV C (pc := 28) (aux := 0) [.inl v3] [] ok_X0_isPoint lk_X6_106 (e_X0_isPoint (G.1 o 0) v3) rfl rfl rfl rfl rfl rfl rfl rfl (fun v4 => ?_)
      refine ct_zt0 C (pc := 31) (aux := 0) (cn := .eq) (off := 23) (k' := 28) (a := v4) Iff.rfl rfl rfl rfl (fun e8 => ?_) (fun e8 => ?_)
      · refine ct_zrun C (k' := 29) (y := ([(2, .inl v3), (0, .inr (.inr (6, o))), (1, .inl b1)], [.inl b1], h)) 1 rfl rfl rfl ?_
        exact ct_zret C (pc := 55) (aux := 0) (ins := .ireturn) (ρ := (fun r : Int => (some (.inl r : ct_PV), h))) (some (.inl b1)) rfl rfl rfl ⟨rfl, Or.inl rfl⟩
      · refine ct_zrun C (k' := 21) (y := ([(2, .inl v3), (0, .inr (.inr (6, o))), (1, .inl b1)], [.inl v3, .inr (.inr (0, (G.1 o 0)))], h)) 3 rfl rfl rfl ?_
        refine ct_zV C (pc := 39) (aux := 0) [.inl v3] [] ok_X0_heightOf lk_X6_112 (e_X0_heightOf (G.1 o 0) v3) rfl rfl rfl rfl rfl rfl rfl rfl (fun v5 => ?_)
        refine ct_zrun C (k' := 26) (y := ([(2, .inl v3), (0, .inr (.inr (6, o))), (1, .inl b1)], [.inl b1, .inr (.inr (8, (G.1 (G.1 o 9) 1))), .inl v5], h)) 4 rfl rfl rfl ?_
        refine ct_zrd C (pc := 50) (aux := 0) (ins := .iaload) (cd := 8) rfl rfl (Or.inl ⟨rfl, rfl⟩) (fun v6 => ?_)
        refine ct_zt C (pc := 51) (aux := 0) (cn := .eq) (off := 5) (k' := 30) (a := v5) (b := v6) Iff.rfl rfl rfl rfl (fun e7 => ?_) (fun e7 => ?_)
        · refine ct_zrun C (k' := 31) (y := ([(1, .inl (ct_wr (b1 + 1))), (2, .inl v3), (0, .inr (.inr (6, o)))], [], h)) 1 rfl rfl rfl ?_
          refine ct_zgoto C (pc := 59) (aux := 0) (off := (-57)) (k' := 2) rfl rfl ?_
          exact ct_zsub [2, 0] rfl (ih (ct_wr (b1 + 1)))
        · refine ct_zrun C (k' := 29) (y := ([(2, .inl v3), (0, .inr (.inr (6, o))), (1, .inl b1)], [.inl b1], h)) 1 rfl rfl rfl ?_
          exact ct_zret C (pc := 55) (aux := 0) (ins := .ireturn) (ρ := (fun r : Int => (some (.inl r : ct_PV), h))) (some (.inl b1)) rfl rfl rfl ⟨rfl, Or.inl rfl⟩
def f_X6_looked (G : ct_G) (h : ct_H) (o : Nat) : Option (Int) := l_X6_looked_2 G o h 200 0
set_option maxRecDepth 100000 in
theorem e_X6_looked {d : Nat} {G : ct_G} {h : ct_H} (o : Nat) : ct_E m_X6_looked (d + 2) G (ct_args 0 [.inr (.inr (6, o))]) h (fun r : Int => (some (.inl r : ct_PV), h)) (f_X6_looked G h o) := by
  intro x C
  unfold f_X6_looked
  show ct_Z x m_X6_looked G 0 [(0, .inr (.inr (6, o)))] [] h (fun a => ct_q x G ((fun r : Int => (some (.inl r : ct_PV), h)) a)) _
  refine ct_zrun C (k' := 2) (y := ([(1, .inl 0), (0, .inr (.inr (6, o)))], [], h)) 2 rfl rfl rfl ?_
  exact ct_zsub [1, 0] rfl (zl_X6_looked_2 C o h 200 0)
def f_X6_isTape (G : ct_G) (h : ct_H) (a0 : Int) : Option (Int) := if a0 < 0 then (some 0) else if 6 ≤ a0 then (some 0) else some 1
set_option maxRecDepth 100000 in
theorem e_X6_isTape {d : Nat} {G : ct_G} {h : ct_H} (a0 : Int) : ct_E m_X6_isTape d G (ct_args 0 [.inl a0]) h (fun r : Int => (some (.inl r : ct_PV), h)) (f_X6_isTape G h a0) := by
  intro x C
  unfold f_X6_isTape
  show ct_Z x m_X6_isTape G 0 [(0, .inl a0)] [] h (fun a => ct_q x G ((fun r : Int => (some (.inl r : ct_PV), h)) a)) _
  refine ct_zrun C (k' := 1) (y := ([(0, .inl a0)], [.inl a0], h)) 1 rfl rfl rfl ?_
  refine ct_zt0 C (pc := 1) (aux := 0) (cn := .lt) (off := 13) (k' := 7) (a := a0) Iff.rfl rfl rfl rfl (fun e2 => ?_) (fun e2 => ?_)
  · refine ct_zrun C (k' := 8) (y := ([(0, .inl a0)], [.inl 0], h)) 1 rfl rfl rfl ?_
    exact ct_zret C (pc := 15) (aux := 0) (ins := .ireturn) (ρ := (fun r : Int => (some (.inl r : ct_PV), h))) (some (.inl 0)) rfl rfl rfl ⟨rfl, Or.inr ⟨rfl, Or.inl rfl⟩⟩
  · refine ct_zrun C (k' := 4) (y := ([(0, .inl a0)], [.inl 6, .inl a0], h)) 2 rfl rfl rfl ?_
    refine ct_zt C (pc := 7) (aux := 0) (cn := .ge) (off := 7) (k' := 7) (a := a0) (b := 6) Iff.rfl rfl rfl rfl (fun e1 => ?_) (fun e1 => ?_)
    · refine ct_zrun C (k' := 8) (y := ([(0, .inl a0)], [.inl 0], h)) 1 rfl rfl rfl ?_
      exact ct_zret C (pc := 15) (aux := 0) (ins := .ireturn) (ρ := (fun r : Int => (some (.inl r : ct_PV), h))) (some (.inl 0)) rfl rfl rfl ⟨rfl, Or.inr ⟨rfl, Or.inl rfl⟩⟩
    · refine ct_zrun C (k' := 6) (y := ([(0, .inl a0)], [.inl 1], h)) 1 rfl rfl rfl ?_
      refine ct_zgoto C (pc := 11) (aux := 0) (off := 4) (k' := 8) rfl rfl ?_
      exact ct_zret C (pc := 15) (aux := 0) (ins := .ireturn) (ρ := (fun r : Int => (some (.inl r : ct_PV), h))) (some (.inl 1)) rfl rfl rfl ⟨rfl, Or.inr ⟨rfl, Or.inr rfl⟩⟩
def l_X6_judge_26 (G : ct_G) (o : Nat) (a2 : Int) (h : ct_H) (q2 : Nat) (v4 : Int) : Nat → Int → Option (Int)
  | 0, _ => none
  | n6 + 1, b5 => if v4 ≤ b5 then (some (-5)) else (f_X4_isPlace G h q2 (ct_wr (a2 + b5))).bind fun v7 => if v7 = 0 then (some (ct_wr (100 + b5))) else (ct_rdL G h (G.1 q2 0) (ct_wr (a2 + b5))).bind fun v8 => (f_X0_heightOf G h (G.1 o 0) b5).bind fun v9 => if ((lg_cmp v8 ((Int32.ofInt v9).toInt64)).toInt) = 0 then (l_X6_judge_26 G o a2 h q2 v4 n6 (ct_wr (b5 + 1))) else some b5
set_option maxRecDepth 100000 in
theorem zl_X6_judge_26 {x : ct_Ctx} {d : Nat} {G : ct_G} (C : ct_c x m_X6_judge G (d + 2)) (o : Nat) (a2 : Int) (h : ct_H) (q2 : Nat) (v4 : Int) : ∀ (n6 : Nat) (b5 : Int), ct_Z x m_X6_judge G 26 [(0, .inr (.inr (6, o))), (2, .inl a2), (3, .inr (.inr (4, q2))), (4, .inl v4), (5, .inl b5)] [] h (fun a => ct_q x G ((fun r : Int => (some (.inl r : ct_PV), h)) a)) (l_X6_judge_26 G o a2 h q2 v4 n6 b5) := by
  intro n6
  induction n6 with
  | zero => intro b5; exact ct_znone
  | succ n6 ih =>
    intro b5
    rw [l_X6_judge_26]
    refine ct_zrun C (k' := 28) (y := ([(0, .inr (.inr (6, o))), (2, .inl a2), (3, .inr (.inr (4, q2))), (4, .inl v4), (5, .inl b5)], [.inl v4, .inl b5], h)) 2 rfl rfl rfl ?_
    refine ct_zt C (pc := 52) (aux := 0) (cn := .ge) (off := 52) (k' := 56) (a := b5) (b := v4) Iff.rfl rfl rfl rfl (fun e12 => ?_) (fun e12 => ?_)
    · refine ct_zrun C (k' := 57) (y := ([(0, .inr (.inr (6, o))), (2, .inl a2), (3, .inr (.inr (4, q2))), (4, .inl v4), (5, .inl b5)], [.inl (-5)], h)) 1 rfl rfl rfl ?_
      exact ct_zret C (pc := 106) (aux := 0) (ins := .ireturn) (ρ := (fun r : Int => (some (.inl r : ct_PV), h))) (some (.inl (-5))) rfl rfl rfl ⟨rfl, Or.inl rfl⟩
    · refine ct_zrun C (k' := 33) (y := ([(0, .inr (.inr (6, o))), (2, .inl a2), (3, .inr (.inr (4, q2))), (4, .inl v4), (5, .inl b5)], [.inl (ct_wr (a2 + b5)), .inr (.inr (4, q2))], h)) 4 rfl rfl rfl ?_
      refine ct_zV C (pc := 60) (aux := 0) [.inl (ct_wr (a2 + b5))] [] ok_X4_isPlace lk_X6_374 (e_X4_isPlace q2 (ct_wr (a2 + b5))) rfl rfl rfl rfl rfl rfl rfl rfl (fun v7 => ?_)
      refine ct_zf0 C (pc := 63) (aux := 0) (cn := .ne) (off := 9) (k' := 39) (a := v7) Iff.rfl rfl rfl rfl (fun e11 => ?_) (fun e11 => ?_)
      · refine ct_zrun C (k' := 38) (y := ([(0, .inr (.inr (6, o))), (2, .inl a2), (3, .inr (.inr (4, q2))), (4, .inl v4), (5, .inl b5)], [.inl (ct_wr (100 + b5))], h)) 3 rfl rfl rfl ?_
        exact ct_zret C (pc := 71) (aux := 0) (ins := .ireturn) (ρ := (fun r : Int => (some (.inl r : ct_PV), h))) (some (.inl (ct_wr (100 + b5)))) rfl rfl rfl ⟨rfl, Or.inl rfl⟩
      · refine ct_zrun C (k' := 44) (y := ([(0, .inr (.inr (6, o))), (2, .inl a2), (3, .inr (.inr (4, q2))), (4, .inl v4), (5, .inl b5)], [.inl (ct_wr (a2 + b5)), .inr (.inr (11, (G.1 q2 0)))], h)) 5 rfl rfl rfl ?_
        refine ct_zrdL C (pc := 80) (aux := 0) rfl rfl (fun v8 => ?_)
        refine ct_zrun C (k' := 48) (y := ([(0, .inr (.inr (6, o))), (2, .inl a2), (3, .inr (.inr (4, q2))), (4, .inl v4), (5, .inl b5)], [.inl b5, .inr (.inr (0, (G.1 o 0))), .inr (.inl v8)], h)) 3 rfl rfl rfl ?_
        refine ct_zV C (pc := 87) (aux := 0) [.inl b5] [.inr (.inl v8)] ok_X0_heightOf lk_X6_112 (e_X0_heightOf (G.1 o 0) b5) rfl rfl rfl rfl rfl rfl rfl rfl (fun v9 => ?_)
        refine ct_zrun C (k' := 51) (y := ([(0, .inr (.inr (6, o))), (2, .inl a2), (3, .inr (.inr (4, q2))), (4, .inl v4), (5, .inl b5)], [.inl ((lg_cmp v8 ((Int32.ofInt v9).toInt64)).toInt)], h)) 2 rfl rfl rfl ?_
        refine ct_zt0 C (pc := 92) (aux := 0) (cn := .eq) (off := 6) (k' := 54) (a := ((lg_cmp v8 ((Int32.ofInt v9).toInt64)).toInt)) Iff.rfl rfl rfl rfl (fun e10 => ?_) (fun e10 => ?_)
        · refine ct_zrun C (k' := 55) (y := ([(5, .inl (ct_wr (b5 + 1))), (0, .inr (.inr (6, o))), (2, .inl a2), (3, .inr (.inr (4, q2))), (4, .inl v4)], [], h)) 1 rfl rfl rfl ?_
          refine ct_zgoto C (pc := 101) (aux := 0) (off := (-53)) (k' := 26) rfl rfl ?_
          exact ct_zsub [1, 2, 3, 4, 0] rfl (ih (ct_wr (b5 + 1)))
        · refine ct_zrun C (k' := 53) (y := ([(0, .inr (.inr (6, o))), (2, .inl a2), (3, .inr (.inr (4, q2))), (4, .inl v4), (5, .inl b5)], [.inl b5], h)) 1 rfl rfl rfl ?_
          exact ct_zret C (pc := 97) (aux := 0) (ins := .ireturn) (ρ := (fun r : Int => (some (.inl r : ct_PV), h))) (some (.inl b5)) rfl rfl rfl ⟨rfl, Or.inl rfl⟩
def f_X6_judge (G : ct_G) (h : ct_H) (o : Nat) (a1 : Int) (a2 : Int) : Option (Int) := (f_X6_isTape G h a1).bind fun v1 => if v1 = 0 then (some (-1)) else (ct_rdR G (G.1 o 11) a1).bind fun q2 => (f_X4_isEmpty G h q2).bind fun v3 => if v3 = 0 then (if (h.1 q2 1) = 0 then ((f_X0_points G h (G.1 o 0)).bind fun v4 => l_X6_judge_26 G o a2 h q2 v4 200 0) else some (-12)) else some 100
set_option maxRecDepth 100000 in
theorem e_X6_judge {d : Nat} {G : ct_G} {h : ct_H} (o : Nat) (a1 : Int) (a2 : Int) : ct_E m_X6_judge (d + 2) G (ct_args 0 [.inr (.inr (6, o)), .inl a1, .inl a2]) h (fun r : Int => (some (.inl r : ct_PV), h)) (f_X6_judge G h o a1 a2) := by
  intro x C
  unfold f_X6_judge
  show ct_Z x m_X6_judge G 0 [(0, .inr (.inr (6, o))), (1, .inl a1), (2, .inl a2)] [] h (fun a => ct_q x G ((fun r : Int => (some (.inl r : ct_PV), h)) a)) _
  refine ct_zrun C (k' := 1) (y := ([(0, .inr (.inr (6, o))), (1, .inl a1), (2, .inl a2)], [.inl a1], h)) 1 rfl rfl rfl ?_
  refine ct_zS C (pc := 1) (aux := 0) [.inl a1] [] ok_X6_isTape lk_X6_362 (e_X6_isTape a1) rfl rfl rfl rfl rfl rfl (fun v1 => ?_)
  refine ct_zf0 C (pc := 4) (aux := 0) (cn := .ne) (off := 5) (k' := 5) (a := v1) Iff.rfl rfl rfl rfl (fun e15 => ?_) (fun e15 => ?_)
  · refine ct_zrun C (k' := 4) (y := ([(0, .inr (.inr (6, o))), (1, .inl a1), (2, .inl a2)], [.inl (-1)], h)) 1 rfl rfl rfl ?_
    exact ct_zret C (pc := 8) (aux := 0) (ins := .ireturn) (ρ := (fun r : Int => (some (.inl r : ct_PV), h))) (some (.inl (-1))) rfl rfl rfl ⟨rfl, Or.inl rfl⟩
  · refine ct_zrun C (k' := 8) (y := ([(0, .inr (.inr (6, o))), (1, .inl a1), (2, .inl a2)], [.inl a1, .inr (.inr (12, (G.1 o 11)))], h)) 3 rfl rfl rfl ?_
    refine ct_zrdR C (pc := 14) (aux := 0) (cd := 12) rfl rfl (Or.inl rfl) (fun q2 => ?_)
    refine ct_zrun C (k' := 11) (y := ([(3, .inr (.inr (4, q2))), (0, .inr (.inr (6, o))), (1, .inl a1), (2, .inl a2)], [.inr (.inr (4, q2))], h)) 2 rfl rfl rfl ?_
    refine ct_zV C (pc := 17) (aux := 0) [] [] ok_X4_isEmpty lk_X6_365 (e_X4_isEmpty q2) rfl rfl rfl rfl rfl rfl rfl rfl (fun v3 => ?_)
    refine ct_zt0 C (pc := 20) (aux := 0) (cn := .eq) (off := 6) (k' := 15) (a := v3) Iff.rfl rfl rfl rfl (fun e14 => ?_) (fun e14 => ?_)
    · refine ct_zrun C (k' := 17) (y := ([(3, .inr (.inr (4, q2))), (0, .inr (.inr (6, o))), (1, .inl a1), (2, .inl a2)], [.inl (h.1 q2 1)], h)) 2 rfl rfl rfl ?_
      refine ct_zt0 C (pc := 30) (aux := 0) (cn := .eq) (off := 6) (k' := 20) (a := (h.1 q2 1)) Iff.rfl rfl rfl rfl (fun e13 => ?_) (fun e13 => ?_)
      · refine ct_zrun C (k' := 22) (y := ([(3, .inr (.inr (4, q2))), (0, .inr (.inr (6, o))), (1, .inl a1), (2, .inl a2)], [.inr (.inr (0, (G.1 o 0)))], h)) 2 rfl rfl rfl ?_
        refine ct_zV C (pc := 40) (aux := 0) [] [] ok_X0_points lk_X6_371 (e_X0_points (G.1 o 0)) rfl rfl rfl rfl rfl rfl rfl rfl (fun v4 => ?_)
        refine ct_zrun C (k' := 26) (y := ([(5, .inl 0), (4, .inl v4), (3, .inr (.inr (4, q2))), (0, .inr (.inr (6, o))), (1, .inl a1), (2, .inl a2)], [], h)) 3 rfl rfl rfl ?_
        exact ct_zsub [3, 5, 2, 1, 0] rfl (zl_X6_judge_26 C o a2 h q2 v4 200 0)
      · refine ct_zrun C (k' := 19) (y := ([(3, .inr (.inr (4, q2))), (0, .inr (.inr (6, o))), (1, .inl a1), (2, .inl a2)], [.inl (-12)], h)) 1 rfl rfl rfl ?_
        exact ct_zret C (pc := 35) (aux := 0) (ins := .ireturn) (ρ := (fun r : Int => (some (.inl r : ct_PV), h))) (some (.inl (-12))) rfl rfl rfl ⟨rfl, Or.inl rfl⟩
    · refine ct_zrun C (k' := 14) (y := ([(3, .inr (.inr (4, q2))), (0, .inr (.inr (6, o))), (1, .inl a1), (2, .inl a2)], [.inl 100], h)) 1 rfl rfl rfl ?_
      exact ct_zret C (pc := 25) (aux := 0) (ins := .ireturn) (ρ := (fun r : Int => (some (.inl r : ct_PV), h))) (some (.inl 100)) rfl rfl rfl ⟨rfl, Or.inl rfl⟩
def f_X6_image (G : ct_G) (h : ct_H) (o : Nat) : Option (Int × ct_H) := (f_X0_copyFrom G h (G.1 o 13) (G.1 o 0)).bind fun r1 => (f_X3_copyFrom G r1 (G.1 o 14) (G.1 o 7)).bind fun r2 => (f_X3_copyFrom G r2 (G.1 o 15) (G.1 o 8)).bind fun r3 => (f_X3_copyFrom G r3 (G.1 o 16) (G.1 o 9)).bind fun r4 => ct_lt (ct_wF r4 o 12 1) fun h5 => (f_X0_together G h5 (G.1 o 0)).bind fun v6 => some (v6, h5)
set_option maxRecDepth 100000 in
theorem e_X6_image {d : Nat} {G : ct_G} {h : ct_H} (o : Nat) : ct_E m_X6_image (d + 4) G (ct_args 0 [.inr (.inr (6, o))]) h (fun r : Int × ct_H => (some (.inl (r.1) : ct_PV), r.2)) (f_X6_image G h o) := by
  intro x C
  unfold f_X6_image
  show ct_Z x m_X6_image G 0 [(0, .inr (.inr (6, o)))] [] h (fun a => ct_q x G ((fun r : Int × ct_H => (some (.inl (r.1) : ct_PV), r.2)) a)) _
  refine ct_zrun C (k' := 4) (y := ([(0, .inr (.inr (6, o)))], [.inr (.inr (0, (G.1 o 0))), .inr (.inr (0, (G.1 o 13)))], h)) 4 rfl rfl rfl ?_
  refine ct_zV C (pc := 8) (aux := 0) [.inr (.inr (0, (G.1 o 0)))] [] ok_X0_copyFrom lk_X6_352 (e_X0_copyFrom (G.1 o 13) (G.1 o 0)) rfl rfl rfl rfl rfl rfl rfl rfl (fun r1 => ?_)
  refine ct_zrun C (k' := 9) (y := ([(0, .inr (.inr (6, o)))], [.inr (.inr (3, (G.1 o 7))), .inr (.inr (3, (G.1 o 14)))], r1)) 4 rfl rfl rfl ?_
  refine ct_zV C (pc := 19) (aux := 0) [.inr (.inr (3, (G.1 o 7)))] [] ok_X3_copyFrom lk_X6_381 (e_X3_copyFrom (G.1 o 14) (G.1 o 7)) rfl rfl rfl rfl rfl rfl rfl rfl (fun r2 => ?_)
  refine ct_zrun C (k' := 14) (y := ([(0, .inr (.inr (6, o)))], [.inr (.inr (3, (G.1 o 8))), .inr (.inr (3, (G.1 o 15)))], r2)) 4 rfl rfl rfl ?_
  refine ct_zV C (pc := 30) (aux := 0) [.inr (.inr (3, (G.1 o 8)))] [] ok_X3_copyFrom lk_X6_381 (e_X3_copyFrom (G.1 o 15) (G.1 o 8)) rfl rfl rfl rfl rfl rfl rfl rfl (fun r3 => ?_)
  refine ct_zrun C (k' := 19) (y := ([(0, .inr (.inr (6, o)))], [.inr (.inr (3, (G.1 o 9))), .inr (.inr (3, (G.1 o 16)))], r3)) 4 rfl rfl rfl ?_
  refine ct_zV C (pc := 41) (aux := 0) [.inr (.inr (3, (G.1 o 9)))] [] ok_X3_copyFrom lk_X6_381 (e_X3_copyFrom (G.1 o 16) (G.1 o 9)) rfl rfl rfl rfl rfl rfl rfl rfl (fun r4 => ?_)
  refine ct_zrun C (k' := 23) (y := ([(0, .inr (.inr (6, o)))], [], (ct_wF r4 o 12 1))) 3 rfl rfl rfl ?_
  refine ct_zlet (L := fun _ => [(0, .inr (.inr (6, o)))]) (S := fun _ => []) (Hh := fun h5 => h5) (a := (ct_wF r4 o 12 1)) (fun h5 => ?_)
  refine ct_zrun C (k' := 25) (y := ([(0, .inr (.inr (6, o)))], [.inr (.inr (0, (G.1 o 0)))], h5)) 2 rfl rfl rfl ?_
  refine ct_zV C (pc := 53) (aux := 0) [] [] ok_X0_together lk_X6_384 (e_X0_together (G.1 o 0)) rfl rfl rfl rfl rfl rfl rfl rfl (fun v6 => ?_)
  exact ct_zret C (pc := 56) (aux := 0) (ins := .ireturn) (ρ := (fun r : Int × ct_H => (some (.inl (r.1) : ct_PV), r.2))) (some (.inl v6)) rfl rfl rfl ⟨rfl, Or.inl rfl⟩
def f_X6_undo (G : ct_G) (h : ct_H) (o : Nat) : Option (Int × ct_H) := if (h.1 o 12) = 0 then (some ((-3), h)) else (f_X0_copyFrom G h (G.1 o 0) (G.1 o 13)).bind fun r1 => (f_X3_copyFrom G r1 (G.1 o 7) (G.1 o 14)).bind fun r2 => (f_X3_copyFrom G r2 (G.1 o 8) (G.1 o 15)).bind fun r3 => (f_X3_copyFrom G r3 (G.1 o 9) (G.1 o 16)).bind fun r4 => (f_X0_together G r4 (G.1 o 0)).bind fun v5 => some (v5, r4)
set_option maxRecDepth 100000 in
theorem e_X6_undo {d : Nat} {G : ct_G} {h : ct_H} (o : Nat) : ct_E m_X6_undo (d + 4) G (ct_args 0 [.inr (.inr (6, o))]) h (fun r : Int × ct_H => (some (.inl (r.1) : ct_PV), r.2)) (f_X6_undo G h o) := by
  intro x C
  unfold f_X6_undo
  show ct_Z x m_X6_undo G 0 [(0, .inr (.inr (6, o)))] [] h (fun a => ct_q x G ((fun r : Int × ct_H => (some (.inl (r.1) : ct_PV), r.2)) a)) _
  refine ct_zrun C (k' := 2) (y := ([(0, .inr (.inr (6, o)))], [.inl (h.1 o 12)], h)) 2 rfl rfl rfl ?_
  refine ct_zf0 C (pc := 4) (aux := 0) (cn := .ne) (off := 6) (k' := 5) (a := (h.1 o 12)) Iff.rfl rfl rfl rfl (fun e6 => ?_) (fun e6 => ?_)
  · refine ct_zrun C (k' := 4) (y := ([(0, .inr (.inr (6, o)))], [.inl (-3)], h)) 1 rfl rfl rfl ?_
    exact ct_zret C (pc := 9) (aux := 0) (ins := .ireturn) (ρ := (fun r : Int × ct_H => (some (.inl (r.1) : ct_PV), r.2))) (some (.inl (-3))) rfl rfl rfl ⟨rfl, Or.inl rfl⟩
  · refine ct_zrun C (k' := 9) (y := ([(0, .inr (.inr (6, o)))], [.inr (.inr (0, (G.1 o 13))), .inr (.inr (0, (G.1 o 0)))], h)) 4 rfl rfl rfl ?_
    refine ct_zV C (pc := 18) (aux := 0) [.inr (.inr (0, (G.1 o 13)))] [] ok_X0_copyFrom lk_X6_352 (e_X0_copyFrom (G.1 o 0) (G.1 o 13)) rfl rfl rfl rfl rfl rfl rfl rfl (fun r1 => ?_)
    refine ct_zrun C (k' := 14) (y := ([(0, .inr (.inr (6, o)))], [.inr (.inr (3, (G.1 o 14))), .inr (.inr (3, (G.1 o 7)))], r1)) 4 rfl rfl rfl ?_
    refine ct_zV C (pc := 29) (aux := 0) [.inr (.inr (3, (G.1 o 14)))] [] ok_X3_copyFrom lk_X6_381 (e_X3_copyFrom (G.1 o 7) (G.1 o 14)) rfl rfl rfl rfl rfl rfl rfl rfl (fun r2 => ?_)
    refine ct_zrun C (k' := 19) (y := ([(0, .inr (.inr (6, o)))], [.inr (.inr (3, (G.1 o 15))), .inr (.inr (3, (G.1 o 8)))], r2)) 4 rfl rfl rfl ?_
    refine ct_zV C (pc := 40) (aux := 0) [.inr (.inr (3, (G.1 o 15)))] [] ok_X3_copyFrom lk_X6_381 (e_X3_copyFrom (G.1 o 8) (G.1 o 15)) rfl rfl rfl rfl rfl rfl rfl rfl (fun r3 => ?_)
    refine ct_zrun C (k' := 24) (y := ([(0, .inr (.inr (6, o)))], [.inr (.inr (3, (G.1 o 16))), .inr (.inr (3, (G.1 o 9)))], r3)) 4 rfl rfl rfl ?_
    refine ct_zV C (pc := 51) (aux := 0) [.inr (.inr (3, (G.1 o 16)))] [] ok_X3_copyFrom lk_X6_381 (e_X3_copyFrom (G.1 o 9) (G.1 o 16)) rfl rfl rfl rfl rfl rfl rfl rfl (fun r4 => ?_)
    refine ct_zrun C (k' := 27) (y := ([(0, .inr (.inr (6, o)))], [.inr (.inr (0, (G.1 o 0)))], r4)) 2 rfl rfl rfl ?_
    refine ct_zV C (pc := 58) (aux := 0) [] [] ok_X0_together lk_X6_384 (e_X0_together (G.1 o 0)) rfl rfl rfl rfl rfl rfl rfl rfl (fun v5 => ?_)
    exact ct_zret C (pc := 61) (aux := 0) (ins := .ireturn) (ρ := (fun r : Int × ct_H => (some (.inl (r.1) : ct_PV), r.2))) (some (.inl v5)) rfl rfl rfl ⟨rfl, Or.inl rfl⟩
def f_X6_count (G : ct_G) (h : ct_H) (o : Nat) (a1 : Int) : Option (Int) := if a1 = 0 then (some (h.1 (G.1 o 7) 2)) else if a1 = 1 then (some (h.1 (G.1 o 8) 2)) else if a1 = 2 then (some (h.1 (G.1 o 9) 2)) else if a1 = 3 then (some (h.1 (G.1 o 10) 1)) else some (-2)
set_option maxRecDepth 100000 in
theorem e_X6_count {d : Nat} {G : ct_G} {h : ct_H} (o : Nat) (a1 : Int) : ct_E m_X6_count d G (ct_args 0 [.inr (.inr (6, o)), .inl a1]) h (fun r : Int => (some (.inl r : ct_PV), h)) (f_X6_count G h o a1) := by
  intro x C
  unfold f_X6_count
  show ct_Z x m_X6_count G 0 [(0, .inr (.inr (6, o))), (1, .inl a1)] [] h (fun a => ct_q x G ((fun r : Int => (some (.inl r : ct_PV), h)) a)) _
  refine ct_zrun C (k' := 1) (y := ([(0, .inr (.inr (6, o))), (1, .inl a1)], [.inl a1], h)) 1 rfl rfl rfl ?_
  refine ct_zsplit (fun e1 => ?_) (fun e1 => ?_)
  · refine ct_zsw C (off := 31) (k' := 2) rfl (by rw [e1]; rfl) rfl ?_
    refine ct_zrun C (k' := 5) (y := ([(0, .inr (.inr (6, o))), (1, .inl a1)], [.inl (h.1 (G.1 o 7) 2)], h)) 3 rfl rfl rfl ?_
    exact ct_zret C (pc := 39) (aux := 0) (ins := .ireturn) (ρ := (fun r : Int => (some (.inl r : ct_PV), h))) (some (.inl (h.1 (G.1 o 7) 2))) rfl rfl rfl ⟨rfl, Or.inl rfl⟩
  · refine ct_zsplit (fun e2 => ?_) (fun e2 => ?_)
    · refine ct_zsw C (off := 39) (k' := 6) rfl (by rw [e2]; rfl) rfl ?_
      refine ct_zrun C (k' := 9) (y := ([(0, .inr (.inr (6, o))), (1, .inl a1)], [.inl (h.1 (G.1 o 8) 2)], h)) 3 rfl rfl rfl ?_
      exact ct_zret C (pc := 47) (aux := 0) (ins := .ireturn) (ρ := (fun r : Int => (some (.inl r : ct_PV), h))) (some (.inl (h.1 (G.1 o 8) 2))) rfl rfl rfl ⟨rfl, Or.inl rfl⟩
    · refine ct_zsplit (fun e3 => ?_) (fun e3 => ?_)
      · refine ct_zsw C (off := 47) (k' := 10) rfl (by rw [e3]; rfl) rfl ?_
        refine ct_zrun C (k' := 13) (y := ([(0, .inr (.inr (6, o))), (1, .inl a1)], [.inl (h.1 (G.1 o 9) 2)], h)) 3 rfl rfl rfl ?_
        exact ct_zret C (pc := 55) (aux := 0) (ins := .ireturn) (ρ := (fun r : Int => (some (.inl r : ct_PV), h))) (some (.inl (h.1 (G.1 o 9) 2))) rfl rfl rfl ⟨rfl, Or.inl rfl⟩
      · refine ct_zsplit (fun e4 => ?_) (fun e4 => ?_)
        · refine ct_zsw C (off := 55) (k' := 14) rfl (by rw [e4]; rfl) rfl ?_
          refine ct_zrun C (k' := 17) (y := ([(0, .inr (.inr (6, o))), (1, .inl a1)], [.inl (h.1 (G.1 o 10) 1)], h)) 3 rfl rfl rfl ?_
          exact ct_zret C (pc := 63) (aux := 0) (ins := .ireturn) (ρ := (fun r : Int => (some (.inl r : ct_PV), h))) (some (.inl (h.1 (G.1 o 10) 1))) rfl rfl rfl ⟨rfl, Or.inl rfl⟩
        · refine ct_zsw C (off := 63) (k' := 18) rfl (by show (if _ then _ else _) = _; rw [if_pos (by omega)]) rfl ?_
          refine ct_zrun C (k' := 19) (y := ([(0, .inr (.inr (6, o))), (1, .inl a1)], [.inl (-2)], h)) 1 rfl rfl rfl ?_
          exact ct_zret C (pc := 66) (aux := 0) (ins := .ireturn) (ρ := (fun r : Int => (some (.inl r : ct_PV), h))) (some (.inl (-2))) rfl rfl rfl ⟨rfl, Or.inl rfl⟩
def f_X6_tape (G : ct_G) (h : ct_H) (o : Nat) (a1 : Int) (a2 : Int) (a3 : Int) : Option (Int × ct_H) := (f_X6_isTape G h a1).bind fun v1 => if v1 = 0 then (some ((-1), h)) else if a2 = (-1) then ((ct_rdR G (G.1 o 11) a1).bind fun q8 => (f_X4_become G h q8 (-1) 0).bind fun r9 => some (1, r9)) else (f_X4_isSort G h a2).bind fun v2 => if v2 = 0 then (some ((-2), h)) else if a3 ≤ 60 then (if 0 ≤ a3 then ((ct_rdR G (G.1 o 11) a1).bind fun q3 => (f_X4_become G h q3 a2 a3).bind fun r4 => some (1, r4)) else some ((-14), h)) else some ((-2), h)
set_option maxRecDepth 100000 in
theorem e_X6_tape {d : Nat} {G : ct_G} {h : ct_H} (o : Nat) (a1 : Int) (a2 : Int) (a3 : Int) : ct_E m_X6_tape (d + 2) G (ct_args 0 [.inr (.inr (6, o)), .inl a1, .inl a2, .inl a3]) h (fun r : Int × ct_H => (some (.inl (r.1) : ct_PV), r.2)) (f_X6_tape G h o a1 a2 a3) := by
  intro x C
  unfold f_X6_tape
  show ct_Z x m_X6_tape G 0 [(0, .inr (.inr (6, o))), (1, .inl a1), (2, .inl a2), (3, .inl a3)] [] h (fun a => ct_q x G ((fun r : Int × ct_H => (some (.inl (r.1) : ct_PV), r.2)) a)) _
  refine ct_zrun C (k' := 1) (y := ([(0, .inr (.inr (6, o))), (1, .inl a1), (2, .inl a2), (3, .inl a3)], [.inl a1], h)) 1 rfl rfl rfl ?_
  refine ct_zS C (pc := 1) (aux := 0) [.inl a1] [] ok_X6_isTape lk_X6_362 (e_X6_isTape a1) rfl rfl rfl rfl rfl rfl (fun v1 => ?_)
  refine ct_zf0 C (pc := 4) (aux := 0) (cn := .ne) (off := 5) (k' := 5) (a := v1) Iff.rfl rfl rfl rfl (fun e11 => ?_) (fun e11 => ?_)
  · refine ct_zrun C (k' := 4) (y := ([(0, .inr (.inr (6, o))), (1, .inl a1), (2, .inl a2), (3, .inl a3)], [.inl (-1)], h)) 1 rfl rfl rfl ?_
    exact ct_zret C (pc := 8) (aux := 0) (ins := .ireturn) (ρ := (fun r : Int × ct_H => (some (.inl (r.1) : ct_PV), r.2))) (some (.inl (-1))) rfl rfl rfl ⟨rfl, Or.inl rfl⟩
  · refine ct_zrun C (k' := 7) (y := ([(0, .inr (.inr (6, o))), (1, .inl a1), (2, .inl a2), (3, .inl a3)], [.inl (-1), .inl a2], h)) 2 rfl rfl rfl ?_
    refine ct_zf C (pc := 11) (aux := 0) (cn := .ne) (off := 16) (k' := 17) (a := a2) (b := (-1)) Iff.rfl rfl rfl rfl (fun e10 => ?_) (fun e10 => ?_)
    · refine ct_zrun C (k' := 11) (y := ([(0, .inr (.inr (6, o))), (1, .inl a1), (2, .inl a2), (3, .inl a3)], [.inl a1, .inr (.inr (12, (G.1 o 11)))], h)) 3 rfl rfl rfl ?_
      refine ct_zrdR C (pc := 19) (aux := 0) (cd := 12) rfl rfl (Or.inl rfl) (fun q8 => ?_)
      refine ct_zrun C (k' := 14) (y := ([(0, .inr (.inr (6, o))), (1, .inl a1), (2, .inl a2), (3, .inl a3)], [.inl 0, .inl (-1), .inr (.inr (4, q8))], h)) 2 rfl rfl rfl ?_
      refine ct_zV C (pc := 22) (aux := 0) [.inl (-1), .inl 0] [] ok_X4_become lk_X6_387 (e_X4_become q8 (-1) 0) rfl rfl rfl rfl rfl rfl rfl rfl (fun r9 => ?_)
      refine ct_zrun C (k' := 16) (y := ([(0, .inr (.inr (6, o))), (1, .inl a1), (2, .inl a2), (3, .inl a3)], [.inl 1], r9)) 1 rfl rfl rfl ?_
      exact ct_zret C (pc := 26) (aux := 0) (ins := .ireturn) (ρ := (fun r : Int × ct_H => (some (.inl (r.1) : ct_PV), r.2))) (some (.inl 1)) rfl rfl rfl ⟨rfl, Or.inl rfl⟩
    · refine ct_zrun C (k' := 18) (y := ([(0, .inr (.inr (6, o))), (1, .inl a1), (2, .inl a2), (3, .inl a3)], [.inl a2], h)) 1 rfl rfl rfl ?_
      refine ct_zS C (pc := 28) (aux := 0) [.inl a2] [] ok_X4_isSort lk_X6_390 (e_X4_isSort a2) rfl rfl rfl rfl rfl rfl (fun v2 => ?_)
      refine ct_zt0 C (pc := 31) (aux := 0) (cn := .eq) (off := 9) (k' := 23) (a := v2) Iff.rfl rfl rfl rfl (fun e7 => ?_) (fun e7 => ?_)
      · refine ct_zrun C (k' := 24) (y := ([(0, .inr (.inr (6, o))), (1, .inl a1), (2, .inl a2), (3, .inl a3)], [.inl (-2)], h)) 1 rfl rfl rfl ?_
        exact ct_zret C (pc := 42) (aux := 0) (ins := .ireturn) (ρ := (fun r : Int × ct_H => (some (.inl (r.1) : ct_PV), r.2))) (some (.inl (-2))) rfl rfl rfl ⟨rfl, Or.inl rfl⟩
      · refine ct_zrun C (k' := 22) (y := ([(0, .inr (.inr (6, o))), (1, .inl a1), (2, .inl a2), (3, .inl a3)], [.inl 60, .inl a3], h)) 2 rfl rfl rfl ?_
        refine ct_zt C (pc := 37) (aux := 0) (cn := .le) (off := 6) (k' := 25) (a := a3) (b := 60) Iff.rfl rfl rfl rfl (fun e6 => ?_) (fun e6 => ?_)
        · refine ct_zrun C (k' := 26) (y := ([(0, .inr (.inr (6, o))), (1, .inl a1), (2, .inl a2), (3, .inl a3)], [.inl a3], h)) 1 rfl rfl rfl ?_
          refine ct_zt0 C (pc := 44) (aux := 0) (cn := .ge) (off := 6) (k' := 29) (a := a3) Iff.rfl rfl rfl rfl (fun e5 => ?_) (fun e5 => ?_)
          · refine ct_zrun C (k' := 32) (y := ([(0, .inr (.inr (6, o))), (1, .inl a1), (2, .inl a2), (3, .inl a3)], [.inl a1, .inr (.inr (12, (G.1 o 11)))], h)) 3 rfl rfl rfl ?_
            refine ct_zrdR C (pc := 55) (aux := 0) (cd := 12) rfl rfl (Or.inl rfl) (fun q3 => ?_)
            refine ct_zrun C (k' := 35) (y := ([(0, .inr (.inr (6, o))), (1, .inl a1), (2, .inl a2), (3, .inl a3)], [.inl a3, .inl a2, .inr (.inr (4, q3))], h)) 2 rfl rfl rfl ?_
            refine ct_zV C (pc := 58) (aux := 0) [.inl a2, .inl a3] [] ok_X4_become lk_X6_387 (e_X4_become q3 a2 a3) rfl rfl rfl rfl rfl rfl rfl rfl (fun r4 => ?_)
            refine ct_zrun C (k' := 37) (y := ([(0, .inr (.inr (6, o))), (1, .inl a1), (2, .inl a2), (3, .inl a3)], [.inl 1], r4)) 1 rfl rfl rfl ?_
            exact ct_zret C (pc := 62) (aux := 0) (ins := .ireturn) (ρ := (fun r : Int × ct_H => (some (.inl (r.1) : ct_PV), r.2))) (some (.inl 1)) rfl rfl rfl ⟨rfl, Or.inl rfl⟩
          · refine ct_zrun C (k' := 28) (y := ([(0, .inr (.inr (6, o))), (1, .inl a1), (2, .inl a2), (3, .inl a3)], [.inl (-14)], h)) 1 rfl rfl rfl ?_
            exact ct_zret C (pc := 49) (aux := 0) (ins := .ireturn) (ρ := (fun r : Int × ct_H => (some (.inl (r.1) : ct_PV), r.2))) (some (.inl (-14))) rfl rfl rfl ⟨rfl, Or.inl rfl⟩
        · refine ct_zrun C (k' := 24) (y := ([(0, .inr (.inr (6, o))), (1, .inl a1), (2, .inl a2), (3, .inl a3)], [.inl (-2)], h)) 1 rfl rfl rfl ?_
          exact ct_zret C (pc := 42) (aux := 0) (ins := .ireturn) (ρ := (fun r : Int × ct_H => (some (.inl (r.1) : ct_PV), r.2))) (some (.inl (-2))) rfl rfl rfl ⟨rfl, Or.inl rfl⟩
def f_X6_item (G : ct_G) (h : ct_H) (o : Nat) (a1 : Int) (a2 : Int) (a3 : Int64) : Option (Int × ct_H) := (f_X6_isTape G h a1).bind fun v1 => if v1 = 0 then (some ((-1), h)) else (ct_rdR G (G.1 o 11) a1).bind fun q2 => (f_X4_isEmpty G h q2).bind fun v3 => if v3 = 0 then ((ct_rdR G (G.1 o 11) a1).bind fun q4 => (f_X4_isPlace G h q4 a2).bind fun v5 => if v5 = 0 then (some ((-13), h)) else (ct_rdR G (G.1 o 11) a1).bind fun q6 => (f_X4_put G h q6 a2 a3).bind fun r7 => some (1, r7)) else some ((-11), h)
set_option maxRecDepth 100000 in
theorem e_X6_item {d : Nat} {G : ct_G} {h : ct_H} (o : Nat) (a1 : Int) (a2 : Int) (a3 : Int64) : ct_E m_X6_item (d + 1) G (ct_args 0 [.inr (.inr (6, o)), .inl a1, .inl a2, .inr (.inl a3)]) h (fun r : Int × ct_H => (some (.inl (r.1) : ct_PV), r.2)) (f_X6_item G h o a1 a2 a3) := by
  intro x C
  unfold f_X6_item
  show ct_Z x m_X6_item G 0 [(0, .inr (.inr (6, o))), (1, .inl a1), (2, .inl a2), (3, .inr (.inl a3))] [] h (fun a => ct_q x G ((fun r : Int × ct_H => (some (.inl (r.1) : ct_PV), r.2)) a)) _
  refine ct_zrun C (k' := 1) (y := ([(0, .inr (.inr (6, o))), (1, .inl a1), (2, .inl a2), (3, .inr (.inl a3))], [.inl a1], h)) 1 rfl rfl rfl ?_
  refine ct_zS C (pc := 1) (aux := 0) [.inl a1] [] ok_X6_isTape lk_X6_362 (e_X6_isTape a1) rfl rfl rfl rfl rfl rfl (fun v1 => ?_)
  refine ct_zf0 C (pc := 4) (aux := 0) (cn := .ne) (off := 5) (k' := 5) (a := v1) Iff.rfl rfl rfl rfl (fun e10 => ?_) (fun e10 => ?_)
  · refine ct_zrun C (k' := 4) (y := ([(0, .inr (.inr (6, o))), (1, .inl a1), (2, .inl a2), (3, .inr (.inl a3))], [.inl (-1)], h)) 1 rfl rfl rfl ?_
    exact ct_zret C (pc := 8) (aux := 0) (ins := .ireturn) (ρ := (fun r : Int × ct_H => (some (.inl (r.1) : ct_PV), r.2))) (some (.inl (-1))) rfl rfl rfl ⟨rfl, Or.inl rfl⟩
  · refine ct_zrun C (k' := 8) (y := ([(0, .inr (.inr (6, o))), (1, .inl a1), (2, .inl a2), (3, .inr (.inl a3))], [.inl a1, .inr (.inr (12, (G.1 o 11)))], h)) 3 rfl rfl rfl ?_
    refine ct_zrdR C (pc := 14) (aux := 0) (cd := 12) rfl rfl (Or.inl rfl) (fun q2 => ?_)
    refine ct_zV C (pc := 15) (aux := 0) [] [] ok_X4_isEmpty lk_X6_365 (e_X4_isEmpty q2) rfl rfl rfl rfl rfl rfl rfl rfl (fun v3 => ?_)
    refine ct_zt0 C (pc := 18) (aux := 0) (cn := .eq) (off := 6) (k' := 13) (a := v3) Iff.rfl rfl rfl rfl (fun e9 => ?_) (fun e9 => ?_)
    · refine ct_zrun C (k' := 16) (y := ([(0, .inr (.inr (6, o))), (1, .inl a1), (2, .inl a2), (3, .inr (.inl a3))], [.inl a1, .inr (.inr (12, (G.1 o 11)))], h)) 3 rfl rfl rfl ?_
      refine ct_zrdR C (pc := 29) (aux := 0) (cd := 12) rfl rfl (Or.inl rfl) (fun q4 => ?_)
      refine ct_zrun C (k' := 18) (y := ([(0, .inr (.inr (6, o))), (1, .inl a1), (2, .inl a2), (3, .inr (.inl a3))], [.inl a2, .inr (.inr (4, q4))], h)) 1 rfl rfl rfl ?_
      refine ct_zV C (pc := 31) (aux := 0) [.inl a2] [] ok_X4_isPlace lk_X6_374 (e_X4_isPlace q4 a2) rfl rfl rfl rfl rfl rfl rfl rfl (fun v5 => ?_)
      refine ct_zf0 C (pc := 34) (aux := 0) (cn := .ne) (off := 6) (k' := 22) (a := v5) Iff.rfl rfl rfl rfl (fun e8 => ?_) (fun e8 => ?_)
      · refine ct_zrun C (k' := 21) (y := ([(0, .inr (.inr (6, o))), (1, .inl a1), (2, .inl a2), (3, .inr (.inl a3))], [.inl (-13)], h)) 1 rfl rfl rfl ?_
        exact ct_zret C (pc := 39) (aux := 0) (ins := .ireturn) (ρ := (fun r : Int × ct_H => (some (.inl (r.1) : ct_PV), r.2))) (some (.inl (-13))) rfl rfl rfl ⟨rfl, Or.inl rfl⟩
      · refine ct_zrun C (k' := 25) (y := ([(0, .inr (.inr (6, o))), (1, .inl a1), (2, .inl a2), (3, .inr (.inl a3))], [.inl a1, .inr (.inr (12, (G.1 o 11)))], h)) 3 rfl rfl rfl ?_
        refine ct_zrdR C (pc := 45) (aux := 0) (cd := 12) rfl rfl (Or.inl rfl) (fun q6 => ?_)
        refine ct_zrun C (k' := 28) (y := ([(0, .inr (.inr (6, o))), (1, .inl a1), (2, .inl a2), (3, .inr (.inl a3))], [.inr (.inl a3), .inl a2, .inr (.inr (4, q6))], h)) 2 rfl rfl rfl ?_
        refine ct_zV C (pc := 48) (aux := 0) [.inl a2, .inr (.inl a3)] [] ok_X4_put lk_X6_393 (e_X4_put q6 a2 a3) rfl rfl rfl rfl rfl rfl rfl rfl (fun r7 => ?_)
        refine ct_zrun C (k' := 30) (y := ([(0, .inr (.inr (6, o))), (1, .inl a1), (2, .inl a2), (3, .inr (.inl a3))], [.inl 1], r7)) 1 rfl rfl rfl ?_
        exact ct_zret C (pc := 52) (aux := 0) (ins := .ireturn) (ρ := (fun r : Int × ct_H => (some (.inl (r.1) : ct_PV), r.2))) (some (.inl 1)) rfl rfl rfl ⟨rfl, Or.inl rfl⟩
    · refine ct_zrun C (k' := 12) (y := ([(0, .inr (.inr (6, o))), (1, .inl a1), (2, .inl a2), (3, .inr (.inl a3))], [.inl (-11)], h)) 1 rfl rfl rfl ?_
      exact ct_zret C (pc := 23) (aux := 0) (ins := .ireturn) (ρ := (fun r : Int × ct_H => (some (.inl (r.1) : ct_PV), r.2))) (some (.inl (-11))) rfl rfl rfl ⟨rfl, Or.inl rfl⟩
def f_X6_peek (G : ct_G) (h : ct_H) (o : Nat) (a1 : Int) (a2 : Int) : Option (Int64) := (f_X6_isTape G h a1).bind fun v1 => ct_jn (β := Unit) (fun k3 => if v1 = 0 then (k3 ()) else (ct_rdR G (G.1 o 11) a1).bind fun q5 => (f_X4_isPlace G h q5 a2).bind fun v6 => if v6 = 0 then (k3 ()) else (ct_rdR G (G.1 o 11) a1).bind fun q7 => (ct_rdL G h (G.1 q7 0) a2).bind fun v8 => some v8) (fun b2 => some (-9223372036854775808 : Int64))
set_option maxRecDepth 100000 in
theorem e_X6_peek {d : Nat} {G : ct_G} {h : ct_H} (o : Nat) (a1 : Int) (a2 : Int) : ct_E m_X6_peek (d + 1) G (ct_args 0 [.inr (.inr (6, o)), .inl a1, .inl a2]) h (fun r : Int64 => (some (.inr (.inl r) : ct_PV), h)) (f_X6_peek G h o a1 a2) := by
  intro x C
  unfold f_X6_peek
  show ct_Z x m_X6_peek G 0 [(0, .inr (.inr (6, o))), (1, .inl a1), (2, .inl a2)] [] h (fun a => ct_q x G ((fun r : Int64 => (some (.inr (.inl r) : ct_PV), h)) a)) _
  refine ct_zrun C (k' := 1) (y := ([(0, .inr (.inr (6, o))), (1, .inl a1), (2, .inl a2)], [.inl a1], h)) 1 rfl rfl rfl ?_
  refine ct_zS C (pc := 1) (aux := 0) [.inl a1] [] ok_X6_isTape lk_X6_362 (e_X6_isTape a1) rfl rfl rfl rfl rfl rfl (fun v1 => ?_)
  refine ct_zjn (β := Unit) (kJ := 10) (L := fun b2 => []) (S := fun b2 => []) (Hh := fun b2 => h) (fun b2 => ?_) (fun k3 z4 => ?_)
  · refine ct_zldc2 C (pc := 20) (aux := 0) (v := -9223372036854775808) lc_X6_343 rfl rfl ?_
    exact ct_zret C (pc := 23) (aux := 0) (ins := .lreturn) (ρ := (fun r : Int64 => (some (.inr (.inl r) : ct_PV), h))) (some (.inr (.inl (-9223372036854775808 : Int64)))) rfl rfl rfl ⟨rfl, rfl⟩
  · refine ct_zt0 C (pc := 4) (aux := 0) (cn := .eq) (off := 16) (k' := 10) (a := v1) Iff.rfl rfl rfl rfl (fun e10 => ?_) (fun e10 => ?_)
    · exact ct_zsub [] rfl (z4 ())
    · refine ct_zrun C (k' := 6) (y := ([(0, .inr (.inr (6, o))), (1, .inl a1), (2, .inl a2)], [.inl a1, .inr (.inr (12, (G.1 o 11)))], h)) 3 rfl rfl rfl ?_
      refine ct_zrdR C (pc := 12) (aux := 0) (cd := 12) rfl rfl (Or.inl rfl) (fun q5 => ?_)
      refine ct_zrun C (k' := 8) (y := ([(0, .inr (.inr (6, o))), (1, .inl a1), (2, .inl a2)], [.inl a2, .inr (.inr (4, q5))], h)) 1 rfl rfl rfl ?_
      refine ct_zV C (pc := 14) (aux := 0) [.inl a2] [] ok_X4_isPlace lk_X6_374 (e_X4_isPlace q5 a2) rfl rfl rfl rfl rfl rfl rfl rfl (fun v6 => ?_)
      refine ct_zf0 C (pc := 17) (aux := 0) (cn := .ne) (off := 7) (k' := 12) (a := v6) Iff.rfl rfl rfl rfl (fun e9 => ?_) (fun e9 => ?_)
      · exact ct_zsub [] rfl (z4 ())
      · refine ct_zrun C (k' := 15) (y := ([(0, .inr (.inr (6, o))), (1, .inl a1), (2, .inl a2)], [.inl a1, .inr (.inr (12, (G.1 o 11)))], h)) 3 rfl rfl rfl ?_
        refine ct_zrdR C (pc := 29) (aux := 0) (cd := 12) rfl rfl (Or.inl rfl) (fun q7 => ?_)
        refine ct_zrun C (k' := 18) (y := ([(0, .inr (.inr (6, o))), (1, .inl a1), (2, .inl a2)], [.inl a2, .inr (.inr (11, (G.1 q7 0)))], h)) 2 rfl rfl rfl ?_
        refine ct_zrdL C (pc := 34) (aux := 0) rfl rfl (fun v8 => ?_)
        exact ct_zret C (pc := 35) (aux := 0) (ins := .lreturn) (ρ := (fun r : Int64 => (some (.inr (.inl r) : ct_PV), h))) (some (.inr (.inl v8))) rfl rfl rfl ⟨rfl, rfl⟩
def f_X6_shift (G : ct_G) (h : ct_H) (o : Nat) (a1 : Int) (a2 : Int) (a3 : Int) (a4 : Int) (a5 : Int) : Option (Int × ct_H) := (f_X6_isTape G h a1).bind fun v1 => if v1 = 0 then (some ((-1), h)) else (f_X6_isTape G h a3).bind fun v2 => if v2 = 0 then (some ((-1), h)) else (ct_rdR G (G.1 o 11) a1).bind fun q3 => (ct_rdR G (G.1 o 11) a3).bind fun q4 => (f_X4_isEmpty G h q3).bind fun v5 => if v5 = 0 then ((f_X4_isEmpty G h q4).bind fun v6 => if v6 = 0 then (if (h.1 q3 1) = (h.1 q4 1) then ((f_X4_isStretch G h q3 a2 a5).bind fun v7 => if v7 = 0 then (some ((-13), h)) else (f_X4_isStretch G h q4 a4 a5).bind fun v8 => if v8 = 0 then (some ((-13), h)) else (ct_cpL G h (G.1 q3 0) a2 (G.1 q4 0) a4 a5).bind fun h9 => some (a5, h9)) else some ((-12), h)) else some ((-11), h)) else some ((-11), h)
set_option maxRecDepth 100000 in
theorem e_X6_shift {d : Nat} {G : ct_G} {h : ct_H} (o : Nat) (a1 : Int) (a2 : Int) (a3 : Int) (a4 : Int) (a5 : Int) : ct_E m_X6_shift (d + 1) G (ct_args 0 [.inr (.inr (6, o)), .inl a1, .inl a2, .inl a3, .inl a4, .inl a5]) h (fun r : Int × ct_H => (some (.inl (r.1) : ct_PV), r.2)) (f_X6_shift G h o a1 a2 a3 a4 a5) := by
  intro x C
  unfold f_X6_shift
  show ct_Z x m_X6_shift G 0 [(0, .inr (.inr (6, o))), (1, .inl a1), (2, .inl a2), (3, .inl a3), (4, .inl a4), (5, .inl a5)] [] h (fun a => ct_q x G ((fun r : Int × ct_H => (some (.inl (r.1) : ct_PV), r.2)) a)) _
  refine ct_zrun C (k' := 1) (y := ([(0, .inr (.inr (6, o))), (1, .inl a1), (2, .inl a2), (3, .inl a3), (4, .inl a4), (5, .inl a5)], [.inl a1], h)) 1 rfl rfl rfl ?_
  refine ct_zS C (pc := 1) (aux := 0) [.inl a1] [] ok_X6_isTape lk_X6_362 (e_X6_isTape a1) rfl rfl rfl rfl rfl rfl (fun v1 => ?_)
  refine ct_zt0 C (pc := 4) (aux := 0) (cn := .eq) (off := 10) (k' := 6) (a := v1) Iff.rfl rfl rfl rfl (fun e16 => ?_) (fun e16 => ?_)
  · refine ct_zrun C (k' := 7) (y := ([(0, .inr (.inr (6, o))), (1, .inl a1), (2, .inl a2), (3, .inl a3), (4, .inl a4), (5, .inl a5)], [.inl (-1)], h)) 1 rfl rfl rfl ?_
    exact ct_zret C (pc := 15) (aux := 0) (ins := .ireturn) (ρ := (fun r : Int × ct_H => (some (.inl (r.1) : ct_PV), r.2))) (some (.inl (-1))) rfl rfl rfl ⟨rfl, Or.inl rfl⟩
  · refine ct_zrun C (k' := 4) (y := ([(0, .inr (.inr (6, o))), (1, .inl a1), (2, .inl a2), (3, .inl a3), (4, .inl a4), (5, .inl a5)], [.inl a3], h)) 1 rfl rfl rfl ?_
    refine ct_zS C (pc := 8) (aux := 0) [.inl a3] [] ok_X6_isTape lk_X6_362 (e_X6_isTape a3) rfl rfl rfl rfl rfl rfl (fun v2 => ?_)
    refine ct_zf0 C (pc := 11) (aux := 0) (cn := .ne) (off := 5) (k' := 8) (a := v2) Iff.rfl rfl rfl rfl (fun e15 => ?_) (fun e15 => ?_)
    · refine ct_zrun C (k' := 7) (y := ([(0, .inr (.inr (6, o))), (1, .inl a1), (2, .inl a2), (3, .inl a3), (4, .inl a4), (5, .inl a5)], [.inl (-1)], h)) 1 rfl rfl rfl ?_
      exact ct_zret C (pc := 15) (aux := 0) (ins := .ireturn) (ρ := (fun r : Int × ct_H => (some (.inl (r.1) : ct_PV), r.2))) (some (.inl (-1))) rfl rfl rfl ⟨rfl, Or.inl rfl⟩
    · refine ct_zrun C (k' := 11) (y := ([(0, .inr (.inr (6, o))), (1, .inl a1), (2, .inl a2), (3, .inl a3), (4, .inl a4), (5, .inl a5)], [.inl a1, .inr (.inr (12, (G.1 o 11)))], h)) 3 rfl rfl rfl ?_
      refine ct_zrdR C (pc := 21) (aux := 0) (cd := 12) rfl rfl (Or.inl rfl) (fun q3 => ?_)
      refine ct_zrun C (k' := 16) (y := ([(6, .inr (.inr (4, q3))), (0, .inr (.inr (6, o))), (1, .inl a1), (2, .inl a2), (3, .inl a3), (4, .inl a4), (5, .inl a5)], [.inl a3, .inr (.inr (12, (G.1 o 11)))], h)) 4 rfl rfl rfl ?_
      refine ct_zrdR C (pc := 29) (aux := 0) (cd := 12) rfl rfl (Or.inl rfl) (fun q4 => ?_)
      refine ct_zrun C (k' := 19) (y := ([(7, .inr (.inr (4, q4))), (6, .inr (.inr (4, q3))), (0, .inr (.inr (6, o))), (1, .inl a1), (2, .inl a2), (3, .inl a3), (4, .inl a4), (5, .inl a5)], [.inr (.inr (4, q3))], h)) 2 rfl rfl rfl ?_
      refine ct_zV C (pc := 34) (aux := 0) [] [] ok_X4_isEmpty lk_X6_365 (e_X4_isEmpty q3) rfl rfl rfl rfl rfl rfl rfl rfl (fun v5 => ?_)
      refine ct_zf0 C (pc := 37) (aux := 0) (cn := .ne) (off := 11) (k' := 24) (a := v5) Iff.rfl rfl rfl rfl (fun e14 => ?_) (fun e14 => ?_)
      · refine ct_zrun C (k' := 22) (y := ([(7, .inr (.inr (4, q4))), (6, .inr (.inr (4, q3))), (0, .inr (.inr (6, o))), (1, .inl a1), (2, .inl a2), (3, .inl a3), (4, .inl a4), (5, .inl a5)], [.inr (.inr (4, q4))], h)) 1 rfl rfl rfl ?_
        refine ct_zV C (pc := 42) (aux := 0) [] [] ok_X4_isEmpty lk_X6_365 (e_X4_isEmpty q4) rfl rfl rfl rfl rfl rfl rfl rfl (fun v6 => ?_)
        refine ct_zt0 C (pc := 45) (aux := 0) (cn := .eq) (off := 6) (k' := 26) (a := v6) Iff.rfl rfl rfl rfl (fun e13 => ?_) (fun e13 => ?_)
        · refine ct_zrun C (k' := 30) (y := ([(7, .inr (.inr (4, q4))), (6, .inr (.inr (4, q3))), (0, .inr (.inr (6, o))), (1, .inl a1), (2, .inl a2), (3, .inl a3), (4, .inl a4), (5, .inl a5)], [.inl (h.1 q4 1), .inl (h.1 q3 1)], h)) 4 rfl rfl rfl ?_
          refine ct_zt C (pc := 61) (aux := 0) (cn := .eq) (off := 6) (k' := 33) (a := (h.1 q3 1)) (b := (h.1 q4 1)) Iff.rfl rfl rfl rfl (fun e12 => ?_) (fun e12 => ?_)
          · refine ct_zrun C (k' := 36) (y := ([(7, .inr (.inr (4, q4))), (6, .inr (.inr (4, q3))), (0, .inr (.inr (6, o))), (1, .inl a1), (2, .inl a2), (3, .inl a3), (4, .inl a4), (5, .inl a5)], [.inl a5, .inl a2, .inr (.inr (4, q3))], h)) 3 rfl rfl rfl ?_
            refine ct_zV C (pc := 72) (aux := 0) [.inl a2, .inl a5] [] ok_X4_isStretch lk_X6_397 (e_X4_isStretch q3 a2 a5) rfl rfl rfl rfl rfl rfl rfl rfl (fun v7 => ?_)
            refine ct_zt0 C (pc := 75) (aux := 0) (cn := .eq) (off := 15) (k' := 43) (a := v7) Iff.rfl rfl rfl rfl (fun e11 => ?_) (fun e11 => ?_)
            · refine ct_zrun C (k' := 44) (y := ([(7, .inr (.inr (4, q4))), (6, .inr (.inr (4, q3))), (0, .inr (.inr (6, o))), (1, .inl a1), (2, .inl a2), (3, .inl a3), (4, .inl a4), (5, .inl a5)], [.inl (-13)], h)) 1 rfl rfl rfl ?_
              exact ct_zret C (pc := 92) (aux := 0) (ins := .ireturn) (ρ := (fun r : Int × ct_H => (some (.inl (r.1) : ct_PV), r.2))) (some (.inl (-13))) rfl rfl rfl ⟨rfl, Or.inl rfl⟩
            · refine ct_zrun C (k' := 41) (y := ([(7, .inr (.inr (4, q4))), (6, .inr (.inr (4, q3))), (0, .inr (.inr (6, o))), (1, .inl a1), (2, .inl a2), (3, .inl a3), (4, .inl a4), (5, .inl a5)], [.inl a5, .inl a4, .inr (.inr (4, q4))], h)) 3 rfl rfl rfl ?_
              refine ct_zV C (pc := 84) (aux := 0) [.inl a4, .inl a5] [] ok_X4_isStretch lk_X6_397 (e_X4_isStretch q4 a4 a5) rfl rfl rfl rfl rfl rfl rfl rfl (fun v8 => ?_)
              refine ct_zf0 C (pc := 87) (aux := 0) (cn := .ne) (off := 6) (k' := 45) (a := v8) Iff.rfl rfl rfl rfl (fun e10 => ?_) (fun e10 => ?_)
              · refine ct_zrun C (k' := 44) (y := ([(7, .inr (.inr (4, q4))), (6, .inr (.inr (4, q3))), (0, .inr (.inr (6, o))), (1, .inl a1), (2, .inl a2), (3, .inl a3), (4, .inl a4), (5, .inl a5)], [.inl (-13)], h)) 1 rfl rfl rfl ?_
                exact ct_zret C (pc := 92) (aux := 0) (ins := .ireturn) (ρ := (fun r : Int × ct_H => (some (.inl (r.1) : ct_PV), r.2))) (some (.inl (-13))) rfl rfl rfl ⟨rfl, Or.inl rfl⟩
              · refine ct_zrun C (k' := 52) (y := ([(7, .inr (.inr (4, q4))), (6, .inr (.inr (4, q3))), (0, .inr (.inr (6, o))), (1, .inl a1), (2, .inl a2), (3, .inl a3), (4, .inl a4), (5, .inl a5)], [.inl a5, .inl a4, .inr (.inr (11, (G.1 q4 0))), .inl a2, .inr (.inr (11, (G.1 q3 0)))], h)) 7 rfl rfl rfl ?_
                refine ct_zcopyL C (pc := 108) (aux := 0) lk_X6_400 ct_gsys rfl rfl rfl (fun h9 => ?_)
                refine ct_zrun C (k' := 54) (y := ([(7, .inr (.inr (4, q4))), (6, .inr (.inr (4, q3))), (0, .inr (.inr (6, o))), (1, .inl a1), (2, .inl a2), (3, .inl a3), (4, .inl a4), (5, .inl a5)], [.inl a5], h9)) 1 rfl rfl rfl ?_
                exact ct_zret C (pc := 113) (aux := 0) (ins := .ireturn) (ρ := (fun r : Int × ct_H => (some (.inl (r.1) : ct_PV), r.2))) (some (.inl a5)) rfl rfl rfl ⟨rfl, Or.inl rfl⟩
          · refine ct_zrun C (k' := 32) (y := ([(7, .inr (.inr (4, q4))), (6, .inr (.inr (4, q3))), (0, .inr (.inr (6, o))), (1, .inl a1), (2, .inl a2), (3, .inl a3), (4, .inl a4), (5, .inl a5)], [.inl (-12)], h)) 1 rfl rfl rfl ?_
            exact ct_zret C (pc := 66) (aux := 0) (ins := .ireturn) (ρ := (fun r : Int × ct_H => (some (.inl (r.1) : ct_PV), r.2))) (some (.inl (-12))) rfl rfl rfl ⟨rfl, Or.inl rfl⟩
        · refine ct_zrun C (k' := 25) (y := ([(7, .inr (.inr (4, q4))), (6, .inr (.inr (4, q3))), (0, .inr (.inr (6, o))), (1, .inl a1), (2, .inl a2), (3, .inl a3), (4, .inl a4), (5, .inl a5)], [.inl (-11)], h)) 1 rfl rfl rfl ?_
          exact ct_zret C (pc := 50) (aux := 0) (ins := .ireturn) (ρ := (fun r : Int × ct_H => (some (.inl (r.1) : ct_PV), r.2))) (some (.inl (-11))) rfl rfl rfl ⟨rfl, Or.inl rfl⟩
      · refine ct_zrun C (k' := 25) (y := ([(7, .inr (.inr (4, q4))), (6, .inr (.inr (4, q3))), (0, .inr (.inr (6, o))), (1, .inl a1), (2, .inl a2), (3, .inl a3), (4, .inl a4), (5, .inl a5)], [.inl (-11)], h)) 1 rfl rfl rfl ?_
        exact ct_zret C (pc := 50) (aux := 0) (ins := .ireturn) (ρ := (fun r : Int × ct_H => (some (.inl (r.1) : ct_PV), r.2))) (some (.inl (-11))) rfl rfl rfl ⟨rfl, Or.inl rfl⟩
