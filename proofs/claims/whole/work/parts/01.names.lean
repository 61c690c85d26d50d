-- ===== PART A: goes FIRST, ahead of the names: the tables' words, and 'selects' of the private methods out of them =====
/-- a private method of a class that the tables say can be made, by its rows of tables_1 -/
def lw_okq (q : MethodName × Nat) : Prop := (q.1.cls ≠ "java/lang/invoke/MethodHandle" ∧ q.1.cls ≠ "java/lang/invoke/VarHandle") ∧ Cond.instantiable q.1.cls q.2 ∈ tables_1 ∧ Cond.privateMethod q.1 ∈ tables_1 ∧ Cond.instanceMethod q.1 ∈ tables_1
theorem lw_p0 : lw_okq (⟨"ContourTracer", "perform", "(I)Z"⟩, 17) := ⟨⟨by decide +kernel, by decide +kernel⟩, List.mem_of_getElem? (i := 18) (by decide +kernel), List.mem_of_getElem? (i := 425) (by decide +kernel), List.mem_of_getElem? (i := 426) (by decide +kernel)⟩
theorem lw_p1 : lw_okq (⟨"ContourTracer", "halfLevel", "()I"⟩, 17) := ⟨⟨by decide +kernel, by decide +kernel⟩, List.mem_of_getElem? (i := 18) (by decide +kernel), List.mem_of_getElem? (i := 477) (by decide +kernel), List.mem_of_getElem? (i := 478) (by decide +kernel)⟩
theorem lw_p2 : lw_okq (⟨"ContourTracer", "holesOf", "(II)I"⟩, 17) := ⟨⟨by decide +kernel, by decide +kernel⟩, List.mem_of_getElem? (i := 18) (by decide +kernel), List.mem_of_getElem? (i := 730) (by decide +kernel), List.mem_of_getElem? (i := 731) (by decide +kernel)⟩
theorem lw_p3 : lw_okq (⟨"ContourTracer", "tryEvents", "()V"⟩, 17) := ⟨⟨by decide +kernel, by decide +kernel⟩, List.mem_of_getElem? (i := 18) (by decide +kernel), List.mem_of_getElem? (i := 820) (by decide +kernel), List.mem_of_getElem? (i := 821) (by decide +kernel)⟩
theorem lw_p4 : lw_okq (⟨"ContourTracerModel", "isPoint", "(I)Z"⟩, 39) := ⟨⟨by decide +kernel, by decide +kernel⟩, List.mem_of_getElem? (i := 918) (by decide +kernel), List.mem_of_getElem? (i := 1058) (by decide +kernel), List.mem_of_getElem? (i := 1059) (by decide +kernel)⟩
theorem lw_p5 : lw_okq (⟨"ContourTracerModel", "points", "()I"⟩, 39) := ⟨⟨by decide +kernel, by decide +kernel⟩, List.mem_of_getElem? (i := 918) (by decide +kernel), List.mem_of_getElem? (i := 1062) (by decide +kernel), List.mem_of_getElem? (i := 1063) (by decide +kernel)⟩
theorem lw_p6 : lw_okq (⟨"ContourTracerModel", "takesAll", "()Z"⟩, 39) := ⟨⟨by decide +kernel, by decide +kernel⟩, List.mem_of_getElem? (i := 918) (by decide +kernel), List.mem_of_getElem? (i := 1078) (by decide +kernel), List.mem_of_getElem? (i := 1079) (by decide +kernel)⟩
theorem lw_p7 : lw_okq (⟨"ContourTracerModel", "takesClause", "()Z"⟩, 39) := ⟨⟨by decide +kernel, by decide +kernel⟩, List.mem_of_getElem? (i := 918) (by decide +kernel), List.mem_of_getElem? (i := 1082) (by decide +kernel), List.mem_of_getElem? (i := 1083) (by decide +kernel)⟩
theorem lw_p8 : lw_okq (⟨"ContourTracerModel", "takesWord", "()Z"⟩, 39) := ⟨⟨by decide +kernel, by decide +kernel⟩, List.mem_of_getElem? (i := 918) (by decide +kernel), List.mem_of_getElem? (i := 1086) (by decide +kernel), List.mem_of_getElem? (i := 1087) (by decide +kernel)⟩
theorem lw_p9 : lw_okq (⟨"ContourTracerModel", "isAt", "(C)Z"⟩, 39) := ⟨⟨by decide +kernel, by decide +kernel⟩, List.mem_of_getElem? (i := 918) (by decide +kernel), List.mem_of_getElem? (i := 1100) (by decide +kernel), List.mem_of_getElem? (i := 1101) (by decide +kernel)⟩
theorem lw_p10 : lw_okq (⟨"ContourTracerModel", "takesNumber", "(I)Z"⟩, 39) := ⟨⟨by decide +kernel, by decide +kernel⟩, List.mem_of_getElem? (i := 918) (by decide +kernel), List.mem_of_getElem? (i := 1108) (by decide +kernel), List.mem_of_getElem? (i := 1109) (by decide +kernel)⟩
theorem lw_p11 : lw_okq (⟨"ContourTracerModel", "isDigit", "()Z"⟩, 39) := ⟨⟨by decide +kernel, by decide +kernel⟩, List.mem_of_getElem? (i := 918) (by decide +kernel), List.mem_of_getElem? (i := 1112) (by decide +kernel), List.mem_of_getElem? (i := 1113) (by decide +kernel)⟩
theorem lw_p12 : lw_okq (⟨"ContourTracerModel", "done", "(I)I"⟩, 39) := ⟨⟨by decide +kernel, by decide +kernel⟩, List.mem_of_getElem? (i := 918) (by decide +kernel), List.mem_of_getElem? (i := 1116) (by decide +kernel), List.mem_of_getElem? (i := 1117) (by decide +kernel)⟩
theorem lw_p13 : lw_okq (⟨"ContourTracerModel", "fill", "(III)I"⟩, 39) := ⟨⟨by decide +kernel, by decide +kernel⟩, List.mem_of_getElem? (i := 918) (by decide +kernel), List.mem_of_getElem? (i := 1122) (by decide +kernel), List.mem_of_getElem? (i := 1123) (by decide +kernel)⟩
theorem lw_p14 : lw_okq (⟨"ContourTracerModel", "hill", "(III)I"⟩, 39) := ⟨⟨by decide +kernel, by decide +kernel⟩, List.mem_of_getElem? (i := 918) (by decide +kernel), List.mem_of_getElem? (i := 1126) (by decide +kernel), List.mem_of_getElem? (i := 1127) (by decide +kernel)⟩
theorem lw_p15 : lw_okq (⟨"ContourTracerModel", "turn", "()I"⟩, 39) := ⟨⟨by decide +kernel, by decide +kernel⟩, List.mem_of_getElem? (i := 918) (by decide +kernel), List.mem_of_getElem? (i := 1133) (by decide +kernel), List.mem_of_getElem? (i := 1134) (by decide +kernel)⟩
def lw_privs_1 : List (MethodName × Nat) := [(⟨"ContourTracer", "perform", "(I)Z"⟩, 17), (⟨"ContourTracer", "halfLevel", "()I"⟩, 17), (⟨"ContourTracer", "holesOf", "(II)I"⟩, 17), (⟨"ContourTracer", "tryEvents", "()V"⟩, 17), (⟨"ContourTracerModel", "isPoint", "(I)Z"⟩, 39), (⟨"ContourTracerModel", "points", "()I"⟩, 39), (⟨"ContourTracerModel", "takesAll", "()Z"⟩, 39), (⟨"ContourTracerModel", "takesClause", "()Z"⟩, 39), (⟨"ContourTracerModel", "takesWord", "()Z"⟩, 39), (⟨"ContourTracerModel", "isAt", "(C)Z"⟩, 39), (⟨"ContourTracerModel", "takesNumber", "(I)Z"⟩, 39), (⟨"ContourTracerModel", "isDigit", "()Z"⟩, 39), (⟨"ContourTracerModel", "done", "(I)I"⟩, 39), (⟨"ContourTracerModel", "fill", "(III)I"⟩, 39), (⟨"ContourTracerModel", "hill", "(III)I"⟩, 39), (⟨"ContourTracerModel", "turn", "()I"⟩, 39)]
theorem lw_r1 : ∀ q ∈ lw_privs_1, lw_okq q := List.forall_mem_cons.mpr ⟨lw_p0, List.forall_mem_cons.mpr ⟨lw_p1, List.forall_mem_cons.mpr ⟨lw_p2, List.forall_mem_cons.mpr ⟨lw_p3, List.forall_mem_cons.mpr ⟨lw_p4, List.forall_mem_cons.mpr ⟨lw_p5, List.forall_mem_cons.mpr ⟨lw_p6, List.forall_mem_cons.mpr ⟨lw_p7, List.forall_mem_cons.mpr ⟨lw_p8, List.forall_mem_cons.mpr ⟨lw_p9, List.forall_mem_cons.mpr ⟨lw_p10, List.forall_mem_cons.mpr ⟨lw_p11, List.forall_mem_cons.mpr ⟨lw_p12, List.forall_mem_cons.mpr ⟨lw_p13, List.forall_mem_cons.mpr ⟨lw_p14, List.forall_mem_cons.mpr ⟨lw_p15, fun _ h => absurd h List.not_mem_nil⟩⟩⟩⟩⟩⟩⟩⟩⟩⟩⟩⟩⟩⟩⟩⟩
theorem lw_p16 : lw_okq (⟨"ContourTracerModel", "top", "()I"⟩, 39) := ⟨⟨by decide +kernel, by decide +kernel⟩, List.mem_of_getElem? (i := 918) (by decide +kernel), List.mem_of_getElem? (i := 1145) (by decide +kernel), List.mem_of_getElem? (i := 1146) (by decide +kernel)⟩
theorem lw_p17 : lw_okq (⟨"ContourTracerModel", "half", "()I"⟩, 39) := ⟨⟨by decide +kernel, by decide +kernel⟩, List.mem_of_getElem? (i := 918) (by decide +kernel), List.mem_of_getElem? (i := 1149) (by decide +kernel), List.mem_of_getElem? (i := 1150) (by decide +kernel)⟩
theorem lw_p18 : lw_okq (⟨"ContourTracerModel", "volume", "(I)I"⟩, 39) := ⟨⟨by decide +kernel, by decide +kernel⟩, List.mem_of_getElem? (i := 918) (by decide +kernel), List.mem_of_getElem? (i := 1153) (by decide +kernel), List.mem_of_getElem? (i := 1154) (by decide +kernel)⟩
theorem lw_p19 : lw_okq (⟨"ContourTracerModel", "above", "(II)I"⟩, 39) := ⟨⟨by decide +kernel, by decide +kernel⟩, List.mem_of_getElem? (i := 918) (by decide +kernel), List.mem_of_getElem? (i := 1157) (by decide +kernel), List.mem_of_getElem? (i := 1158) (by decide +kernel)⟩
theorem lw_p20 : lw_okq (⟨"ContourTracerModel", "busy", "()I"⟩, 39) := ⟨⟨by decide +kernel, by decide +kernel⟩, List.mem_of_getElem? (i := 918) (by decide +kernel), List.mem_of_getElem? (i := 1161) (by decide +kernel), List.mem_of_getElem? (i := 1162) (by decide +kernel)⟩
theorem lw_p21 : lw_okq (⟨"ContourTracerModel", "linesAt", "(I)I"⟩, 39) := ⟨⟨by decide +kernel, by decide +kernel⟩, List.mem_of_getElem? (i := 918) (by decide +kernel), List.mem_of_getElem? (i := 1165) (by decide +kernel), List.mem_of_getElem? (i := 1166) (by decide +kernel)⟩
theorem lw_p22 : lw_okq (⟨"ContourTracerModel", "layLines", "(I)V"⟩, 39) := ⟨⟨by decide +kernel, by decide +kernel⟩, List.mem_of_getElem? (i := 918) (by decide +kernel), List.mem_of_getElem? (i := 1169) (by decide +kernel), List.mem_of_getElem? (i := 1170) (by decide +kernel)⟩
theorem lw_p23 : lw_okq (⟨"ContourTracerModel", "isEdge", "(I)Z"⟩, 39) := ⟨⟨by decide +kernel, by decide +kernel⟩, List.mem_of_getElem? (i := 918) (by decide +kernel), List.mem_of_getElem? (i := 1173) (by decide +kernel), List.mem_of_getElem? (i := 1174) (by decide +kernel)⟩
theorem lw_p24 : lw_okq (⟨"ContourTracerModel", "places", "()I"⟩, 39) := ⟨⟨by decide +kernel, by decide +kernel⟩, List.mem_of_getElem? (i := 918) (by decide +kernel), List.mem_of_getElem? (i := 1177) (by decide +kernel), List.mem_of_getElem? (i := 1178) (by decide +kernel)⟩
theorem lw_p25 : lw_okq (⟨"ContourTracerModel", "column", "(I)I"⟩, 39) := ⟨⟨by decide +kernel, by decide +kernel⟩, List.mem_of_getElem? (i := 918) (by decide +kernel), List.mem_of_getElem? (i := 1181) (by decide +kernel), List.mem_of_getElem? (i := 1182) (by decide +kernel)⟩
theorem lw_p26 : lw_okq (⟨"ContourTracerModel", "row", "(I)I"⟩, 39) := ⟨⟨by decide +kernel, by decide +kernel⟩, List.mem_of_getElem? (i := 918) (by decide +kernel), List.mem_of_getElem? (i := 1185) (by decide +kernel), List.mem_of_getElem? (i := 1186) (by decide +kernel)⟩
theorem lw_p27 : lw_okq (⟨"ContourTracerModel", "heightAt", "(I)I"⟩, 39) := ⟨⟨by decide +kernel, by decide +kernel⟩, List.mem_of_getElem? (i := 918) (by decide +kernel), List.mem_of_getElem? (i := 1189) (by decide +kernel), List.mem_of_getElem? (i := 1190) (by decide +kernel)⟩
theorem lw_p28 : lw_okq (⟨"ContourTracerModel", "otherOf", "(I)I"⟩, 39) := ⟨⟨by decide +kernel, by decide +kernel⟩, List.mem_of_getElem? (i := 918) (by decide +kernel), List.mem_of_getElem? (i := 1193) (by decide +kernel), List.mem_of_getElem? (i := 1194) (by decide +kernel)⟩
theorem lw_p29 : lw_okq (⟨"ContourTracerModel", "behind", "(II)I"⟩, 39) := ⟨⟨by decide +kernel, by decide +kernel⟩, List.mem_of_getElem? (i := 918) (by decide +kernel), List.mem_of_getElem? (i := 1197) (by decide +kernel), List.mem_of_getElem? (i := 1198) (by decide +kernel)⟩
theorem lw_p30 : lw_okq (⟨"ContourTracerModel", "leadsTo", "(II)I"⟩, 39) := ⟨⟨by decide +kernel, by decide +kernel⟩, List.mem_of_getElem? (i := 918) (by decide +kernel), List.mem_of_getElem? (i := 1201) (by decide +kernel), List.mem_of_getElem? (i := 1202) (by decide +kernel)⟩
theorem lw_p31 : lw_okq (⟨"ContourTracerModel", "isBack", "(II)Z"⟩, 39) := ⟨⟨by decide +kernel, by decide +kernel⟩, List.mem_of_getElem? (i := 918) (by decide +kernel), List.mem_of_getElem? (i := 1205) (by decide +kernel), List.mem_of_getElem? (i := 1206) (by decide +kernel)⟩
def lw_privs_2 : List (MethodName × Nat) := [(⟨"ContourTracerModel", "top", "()I"⟩, 39), (⟨"ContourTracerModel", "half", "()I"⟩, 39), (⟨"ContourTracerModel", "volume", "(I)I"⟩, 39), (⟨"ContourTracerModel", "above", "(II)I"⟩, 39), (⟨"ContourTracerModel", "busy", "()I"⟩, 39), (⟨"ContourTracerModel", "linesAt", "(I)I"⟩, 39), (⟨"ContourTracerModel", "layLines", "(I)V"⟩, 39), (⟨"ContourTracerModel", "isEdge", "(I)Z"⟩, 39), (⟨"ContourTracerModel", "places", "()I"⟩, 39), (⟨"ContourTracerModel", "column", "(I)I"⟩, 39), (⟨"ContourTracerModel", "row", "(I)I"⟩, 39), (⟨"ContourTracerModel", "heightAt", "(I)I"⟩, 39), (⟨"ContourTracerModel", "otherOf", "(I)I"⟩, 39), (⟨"ContourTracerModel", "behind", "(II)I"⟩, 39), (⟨"ContourTracerModel", "leadsTo", "(II)I"⟩, 39), (⟨"ContourTracerModel", "isBack", "(II)Z"⟩, 39)]
theorem lw_r2 : ∀ q ∈ lw_privs_2, lw_okq q := List.forall_mem_cons.mpr ⟨lw_p16, List.forall_mem_cons.mpr ⟨lw_p17, List.forall_mem_cons.mpr ⟨lw_p18, List.forall_mem_cons.mpr ⟨lw_p19, List.forall_mem_cons.mpr ⟨lw_p20, List.forall_mem_cons.mpr ⟨lw_p21, List.forall_mem_cons.mpr ⟨lw_p22, List.forall_mem_cons.mpr ⟨lw_p23, List.forall_mem_cons.mpr ⟨lw_p24, List.forall_mem_cons.mpr ⟨lw_p25, List.forall_mem_cons.mpr ⟨lw_p26, List.forall_mem_cons.mpr ⟨lw_p27, List.forall_mem_cons.mpr ⟨lw_p28, List.forall_mem_cons.mpr ⟨lw_p29, List.forall_mem_cons.mpr ⟨lw_p30, List.forall_mem_cons.mpr ⟨lw_p31, fun _ h => absurd h List.not_mem_nil⟩⟩⟩⟩⟩⟩⟩⟩⟩⟩⟩⟩⟩⟩⟩⟩
theorem lw_p32 : lw_okq (⟨"ContourTracerModel", "edgeAt", "(II)I"⟩, 39) := ⟨⟨by decide +kernel, by decide +kernel⟩, List.mem_of_getElem? (i := 918) (by decide +kernel), List.mem_of_getElem? (i := 1209) (by decide +kernel), List.mem_of_getElem? (i := 1210) (by decide +kernel)⟩
theorem lw_p33 : lw_okq (⟨"ContourTracerModel", "cornerOf", "(I)I"⟩, 39) := ⟨⟨by decide +kernel, by decide +kernel⟩, List.mem_of_getElem? (i := 918) (by decide +kernel), List.mem_of_getElem? (i := 1213) (by decide +kernel), List.mem_of_getElem? (i := 1214) (by decide +kernel)⟩
theorem lw_p34 : lw_okq (⟨"ContourTracerModel", "caseOf", "(II)I"⟩, 39) := ⟨⟨by decide +kernel, by decide +kernel⟩, List.mem_of_getElem? (i := 918) (by decide +kernel), List.mem_of_getElem? (i := 1217) (by decide +kernel), List.mem_of_getElem? (i := 1218) (by decide +kernel)⟩
theorem lw_p35 : lw_okq (⟨"ContourTracerModel", "cornerAt", "(II)I"⟩, 39) := ⟨⟨by decide +kernel, by decide +kernel⟩, List.mem_of_getElem? (i := 918) (by decide +kernel), List.mem_of_getElem? (i := 1221) (by decide +kernel), List.mem_of_getElem? (i := 1222) (by decide +kernel)⟩
theorem lw_p36 : lw_okq (⟨"ContourTracerModel", "isJoined", "(II)Z"⟩, 39) := ⟨⟨by decide +kernel, by decide +kernel⟩, List.mem_of_getElem? (i := 918) (by decide +kernel), List.mem_of_getElem? (i := 1228) (by decide +kernel), List.mem_of_getElem? (i := 1229) (by decide +kernel)⟩
theorem lw_p37 : lw_okq (⟨"ContourTracerModel", "layLands", "(I)V"⟩, 39) := ⟨⟨by decide +kernel, by decide +kernel⟩, List.mem_of_getElem? (i := 918) (by decide +kernel), List.mem_of_getElem? (i := 1239) (by decide +kernel), List.mem_of_getElem? (i := 1240) (by decide +kernel)⟩
theorem lw_p38 : lw_okq (⟨"ContourTracerModel", "visit", "(III)V"⟩, 39) := ⟨⟨by decide +kernel, by decide +kernel⟩, List.mem_of_getElem? (i := 918) (by decide +kernel), List.mem_of_getElem? (i := 1243) (by decide +kernel), List.mem_of_getElem? (i := 1244) (by decide +kernel)⟩
theorem lw_p39 : lw_okq (⟨"ContourTracerModel", "spreads", "(III)V"⟩, 39) := ⟨⟨by decide +kernel, by decide +kernel⟩, List.mem_of_getElem? (i := 918) (by decide +kernel), List.mem_of_getElem? (i := 1247) (by decide +kernel), List.mem_of_getElem? (i := 1248) (by decide +kernel)⟩
theorem lw_p40 : lw_okq (⟨"ContourTracerModel", "squareOf", "(II)I"⟩, 39) := ⟨⟨by decide +kernel, by decide +kernel⟩, List.mem_of_getElem? (i := 918) (by decide +kernel), List.mem_of_getElem? (i := 1252) (by decide +kernel), List.mem_of_getElem? (i := 1253) (by decide +kernel)⟩
theorem lw_p41 : lw_okq (⟨"ContourTracerModel", "outers", "()I"⟩, 39) := ⟨⟨by decide +kernel, by decide +kernel⟩, List.mem_of_getElem? (i := 918) (by decide +kernel), List.mem_of_getElem? (i := 1256) (by decide +kernel), List.mem_of_getElem? (i := 1257) (by decide +kernel)⟩
theorem lw_p42 : lw_okq (⟨"ContourTracerModel", "isOuter", "(I)Z"⟩, 39) := ⟨⟨by decide +kernel, by decide +kernel⟩, List.mem_of_getElem? (i := 918) (by decide +kernel), List.mem_of_getElem? (i := 1260) (by decide +kernel), List.mem_of_getElem? (i := 1261) (by decide +kernel)⟩
theorem lw_p43 : lw_okq (⟨"ContourTracerModel", "depthOf", "(I)I"⟩, 39) := ⟨⟨by decide +kernel, by decide +kernel⟩, List.mem_of_getElem? (i := 918) (by decide +kernel), List.mem_of_getElem? (i := 1264) (by decide +kernel), List.mem_of_getElem? (i := 1265) (by decide +kernel)⟩
theorem lw_p44 : lw_okq (⟨"ContourTracerModel", "isHeldLine", "(II)Z"⟩, 39) := ⟨⟨by decide +kernel, by decide +kernel⟩, List.mem_of_getElem? (i := 918) (by decide +kernel), List.mem_of_getElem? (i := 1268) (by decide +kernel), List.mem_of_getElem? (i := 1269) (by decide +kernel)⟩
theorem lw_p45 : lw_okq (⟨"ContourTracerModel", "isHeld", "(II)Z"⟩, 39) := ⟨⟨by decide +kernel, by decide +kernel⟩, List.mem_of_getElem? (i := 918) (by decide +kernel), List.mem_of_getElem? (i := 1272) (by decide +kernel), List.mem_of_getElem? (i := 1273) (by decide +kernel)⟩
theorem lw_p46 : lw_okq (⟨"ContourTracerModel", "crossings", "(II)I"⟩, 39) := ⟨⟨by decide +kernel, by decide +kernel⟩, List.mem_of_getElem? (i := 918) (by decide +kernel), List.mem_of_getElem? (i := 1276) (by decide +kernel), List.mem_of_getElem? (i := 1277) (by decide +kernel)⟩
theorem lw_p47 : lw_okq (⟨"ContourTracerModel", "pointsIn", "(I)I"⟩, 39) := ⟨⟨by decide +kernel, by decide +kernel⟩, List.mem_of_getElem? (i := 918) (by decide +kernel), List.mem_of_getElem? (i := 1280) (by decide +kernel), List.mem_of_getElem? (i := 1281) (by decide +kernel)⟩
def lw_privs_3 : List (MethodName × Nat) := [(⟨"ContourTracerModel", "edgeAt", "(II)I"⟩, 39), (⟨"ContourTracerModel", "cornerOf", "(I)I"⟩, 39), (⟨"ContourTracerModel", "caseOf", "(II)I"⟩, 39), (⟨"ContourTracerModel", "cornerAt", "(II)I"⟩, 39), (⟨"ContourTracerModel", "isJoined", "(II)Z"⟩, 39), (⟨"ContourTracerModel", "layLands", "(I)V"⟩, 39), (⟨"ContourTracerModel", "visit", "(III)V"⟩, 39), (⟨"ContourTracerModel", "spreads", "(III)V"⟩, 39), (⟨"ContourTracerModel", "squareOf", "(II)I"⟩, 39), (⟨"ContourTracerModel", "outers", "()I"⟩, 39), (⟨"ContourTracerModel", "isOuter", "(I)Z"⟩, 39), (⟨"ContourTracerModel", "depthOf", "(I)I"⟩, 39), (⟨"ContourTracerModel", "isHeldLine", "(II)Z"⟩, 39), (⟨"ContourTracerModel", "isHeld", "(II)Z"⟩, 39), (⟨"ContourTracerModel", "crossings", "(II)I"⟩, 39), (⟨"ContourTracerModel", "pointsIn", "(I)I"⟩, 39)]
theorem lw_r3 : ∀ q ∈ lw_privs_3, lw_okq q := List.forall_mem_cons.mpr ⟨lw_p32, List.forall_mem_cons.mpr ⟨lw_p33, List.forall_mem_cons.mpr ⟨lw_p34, List.forall_mem_cons.mpr ⟨lw_p35, List.forall_mem_cons.mpr ⟨lw_p36, List.forall_mem_cons.mpr ⟨lw_p37, List.forall_mem_cons.mpr ⟨lw_p38, List.forall_mem_cons.mpr ⟨lw_p39, List.forall_mem_cons.mpr ⟨lw_p40, List.forall_mem_cons.mpr ⟨lw_p41, List.forall_mem_cons.mpr ⟨lw_p42, List.forall_mem_cons.mpr ⟨lw_p43, List.forall_mem_cons.mpr ⟨lw_p44, List.forall_mem_cons.mpr ⟨lw_p45, List.forall_mem_cons.mpr ⟨lw_p46, List.forall_mem_cons.mpr ⟨lw_p47, fun _ h => absurd h List.not_mem_nil⟩⟩⟩⟩⟩⟩⟩⟩⟩⟩⟩⟩⟩⟩⟩⟩
theorem lw_p48 : lw_okq (⟨"ContourTracerModel", "saddles", "(IZ)I"⟩, 39) := ⟨⟨by decide +kernel, by decide +kernel⟩, List.mem_of_getElem? (i := 918) (by decide +kernel), List.mem_of_getElem? (i := 1284) (by decide +kernel), List.mem_of_getElem? (i := 1285) (by decide +kernel)⟩
theorem lw_p49 : lw_okq (⟨"ContourTracerModel", "squares", "()I"⟩, 39) := ⟨⟨by decide +kernel, by decide +kernel⟩, List.mem_of_getElem? (i := 918) (by decide +kernel), List.mem_of_getElem? (i := 1288) (by decide +kernel), List.mem_of_getElem? (i := 1289) (by decide +kernel)⟩
theorem lw_p50 : lw_okq (⟨"ContourTracerModel", "deepest", "()I"⟩, 39) := ⟨⟨by decide +kernel, by decide +kernel⟩, List.mem_of_getElem? (i := 918) (by decide +kernel), List.mem_of_getElem? (i := 1292) (by decide +kernel), List.mem_of_getElem? (i := 1293) (by decide +kernel)⟩
theorem lw_p51 : lw_okq (⟨"ContourTracerModel", "asked", "(II)I"⟩, 39) := ⟨⟨by decide +kernel, by decide +kernel⟩, List.mem_of_getElem? (i := 918) (by decide +kernel), List.mem_of_getElem? (i := 1308) (by decide +kernel), List.mem_of_getElem? (i := 1309) (by decide +kernel)⟩
theorem lw_p52 : lw_okq (⟨"ContourTracerModel", "lengthOf", "(I)I"⟩, 39) := ⟨⟨by decide +kernel, by decide +kernel⟩, List.mem_of_getElem? (i := 918) (by decide +kernel), List.mem_of_getElem? (i := 1312) (by decide +kernel), List.mem_of_getElem? (i := 1313) (by decide +kernel)⟩
theorem lw_p53 : lw_okq (⟨"ContourTracerModel", "parentOf", "(I)I"⟩, 39) := ⟨⟨by decide +kernel, by decide +kernel⟩, List.mem_of_getElem? (i := 918) (by decide +kernel), List.mem_of_getElem? (i := 1316) (by decide +kernel), List.mem_of_getElem? (i := 1317) (by decide +kernel)⟩
theorem lw_p54 : lw_okq (⟨"ContourTracerModel", "areaOf", "(I)I"⟩, 39) := ⟨⟨by decide +kernel, by decide +kernel⟩, List.mem_of_getElem? (i := 918) (by decide +kernel), List.mem_of_getElem? (i := 1320) (by decide +kernel), List.mem_of_getElem? (i := 1321) (by decide +kernel)⟩
theorem lw_p55 : lw_okq (⟨"ContourTracerModel", "across", "(I)I"⟩, 39) := ⟨⟨by decide +kernel, by decide +kernel⟩, List.mem_of_getElem? (i := 918) (by decide +kernel), List.mem_of_getElem? (i := 1324) (by decide +kernel), List.mem_of_getElem? (i := 1325) (by decide +kernel)⟩
theorem lw_p56 : lw_okq (⟨"ContourTracerModel", "down", "(I)I"⟩, 39) := ⟨⟨by decide +kernel, by decide +kernel⟩, List.mem_of_getElem? (i := 918) (by decide +kernel), List.mem_of_getElem? (i := 1328) (by decide +kernel), List.mem_of_getElem? (i := 1329) (by decide +kernel)⟩
theorem lw_p57 : lw_okq (⟨"ContourTracerModel", "heldOf", "(I)I"⟩, 39) := ⟨⟨by decide +kernel, by decide +kernel⟩, List.mem_of_getElem? (i := 918) (by decide +kernel), List.mem_of_getElem? (i := 1332) (by decide +kernel), List.mem_of_getElem? (i := 1333) (by decide +kernel)⟩
theorem lw_p58 : lw_okq (⟨"ContourTracerModel", "placeOf", "(I)I"⟩, 39) := ⟨⟨by decide +kernel, by decide +kernel⟩, List.mem_of_getElem? (i := 918) (by decide +kernel), List.mem_of_getElem? (i := 1336) (by decide +kernel), List.mem_of_getElem? (i := 1337) (by decide +kernel)⟩
theorem lw_p59 : lw_okq (⟨"ContourTracerModel", "signOf", "(II)I"⟩, 39) := ⟨⟨by decide +kernel, by decide +kernel⟩, List.mem_of_getElem? (i := 918) (by decide +kernel), List.mem_of_getElem? (i := 1352) (by decide +kernel), List.mem_of_getElem? (i := 1353) (by decide +kernel)⟩
theorem lw_p60 : lw_okq (⟨"ContourTracerModel", "leastOf", "(I)I"⟩, 39) := ⟨⟨by decide +kernel, by decide +kernel⟩, List.mem_of_getElem? (i := 918) (by decide +kernel), List.mem_of_getElem? (i := 1368) (by decide +kernel), List.mem_of_getElem? (i := 1369) (by decide +kernel)⟩
theorem lw_p61 : lw_okq (⟨"ContourTracerModel", "sizeOf", "(I)I"⟩, 39) := ⟨⟨by decide +kernel, by decide +kernel⟩, List.mem_of_getElem? (i := 918) (by decide +kernel), List.mem_of_getElem? (i := 1372) (by decide +kernel), List.mem_of_getElem? (i := 1373) (by decide +kernel)⟩
theorem lw_p62 : lw_okq (⟨"ContourTracerModel", "topOf", "(I)I"⟩, 39) := ⟨⟨by decide +kernel, by decide +kernel⟩, List.mem_of_getElem? (i := 918) (by decide +kernel), List.mem_of_getElem? (i := 1376) (by decide +kernel), List.mem_of_getElem? (i := 1377) (by decide +kernel)⟩
theorem lw_p63 : lw_okq (⟨"ContourTracerModel", "holesOf", "(I)I"⟩, 39) := ⟨⟨by decide +kernel, by decide +kernel⟩, List.mem_of_getElem? (i := 918) (by decide +kernel), List.mem_of_getElem? (i := 1380) (by decide +kernel), List.mem_of_getElem? (i := 1381) (by decide +kernel)⟩
def lw_privs_4 : List (MethodName × Nat) := [(⟨"ContourTracerModel", "saddles", "(IZ)I"⟩, 39), (⟨"ContourTracerModel", "squares", "()I"⟩, 39), (⟨"ContourTracerModel", "deepest", "()I"⟩, 39), (⟨"ContourTracerModel", "asked", "(II)I"⟩, 39), (⟨"ContourTracerModel", "lengthOf", "(I)I"⟩, 39), (⟨"ContourTracerModel", "parentOf", "(I)I"⟩, 39), (⟨"ContourTracerModel", "areaOf", "(I)I"⟩, 39), (⟨"ContourTracerModel", "across", "(I)I"⟩, 39), (⟨"ContourTracerModel", "down", "(I)I"⟩, 39), (⟨"ContourTracerModel", "heldOf", "(I)I"⟩, 39), (⟨"ContourTracerModel", "placeOf", "(I)I"⟩, 39), (⟨"ContourTracerModel", "signOf", "(II)I"⟩, 39), (⟨"ContourTracerModel", "leastOf", "(I)I"⟩, 39), (⟨"ContourTracerModel", "sizeOf", "(I)I"⟩, 39), (⟨"ContourTracerModel", "topOf", "(I)I"⟩, 39), (⟨"ContourTracerModel", "holesOf", "(I)I"⟩, 39)]
theorem lw_r4 : ∀ q ∈ lw_privs_4, lw_okq q := List.forall_mem_cons.mpr ⟨lw_p48, List.forall_mem_cons.mpr ⟨lw_p49, List.forall_mem_cons.mpr ⟨lw_p50, List.forall_mem_cons.mpr ⟨lw_p51, List.forall_mem_cons.mpr ⟨lw_p52, List.forall_mem_cons.mpr ⟨lw_p53, List.forall_mem_cons.mpr ⟨lw_p54, List.forall_mem_cons.mpr ⟨lw_p55, List.forall_mem_cons.mpr ⟨lw_p56, List.forall_mem_cons.mpr ⟨lw_p57, List.forall_mem_cons.mpr ⟨lw_p58, List.forall_mem_cons.mpr ⟨lw_p59, List.forall_mem_cons.mpr ⟨lw_p60, List.forall_mem_cons.mpr ⟨lw_p61, List.forall_mem_cons.mpr ⟨lw_p62, List.forall_mem_cons.mpr ⟨lw_p63, fun _ h => absurd h List.not_mem_nil⟩⟩⟩⟩⟩⟩⟩⟩⟩⟩⟩⟩⟩⟩⟩⟩
theorem lw_p64 : lw_okq (⟨"ContourTracerModel", "isAtLand", "(II)Z"⟩, 39) := ⟨⟨by decide +kernel, by decide +kernel⟩, List.mem_of_getElem? (i := 918) (by decide +kernel), List.mem_of_getElem? (i := 1384) (by decide +kernel), List.mem_of_getElem? (i := 1385) (by decide +kernel)⟩
theorem lw_p65 : lw_okq (⟨"ContourTracerModel", "landAt", "(I)I"⟩, 39) := ⟨⟨by decide +kernel, by decide +kernel⟩, List.mem_of_getElem? (i := 918) (by decide +kernel), List.mem_of_getElem? (i := 1388) (by decide +kernel), List.mem_of_getElem? (i := 1389) (by decide +kernel)⟩
theorem lw_p66 : lw_okq (⟨"ContourTracerModel", "isWithHigher", "(I)Z"⟩, 39) := ⟨⟨by decide +kernel, by decide +kernel⟩, List.mem_of_getElem? (i := 918) (by decide +kernel), List.mem_of_getElem? (i := 1400) (by decide +kernel), List.mem_of_getElem? (i := 1401) (by decide +kernel)⟩
theorem lw_p67 : lw_okq (⟨"ContourTracerModel", "leavesOf", "(I)I"⟩, 39) := ⟨⟨by decide +kernel, by decide +kernel⟩, List.mem_of_getElem? (i := 918) (by decide +kernel), List.mem_of_getElem? (i := 1408) (by decide +kernel), List.mem_of_getElem? (i := 1409) (by decide +kernel)⟩
theorem lw_p68 : lw_okq (⟨"ContourTracerModel", "forksOf", "(I)I"⟩, 39) := ⟨⟨by decide +kernel, by decide +kernel⟩, List.mem_of_getElem? (i := 918) (by decide +kernel), List.mem_of_getElem? (i := 1412) (by decide +kernel), List.mem_of_getElem? (i := 1413) (by decide +kernel)⟩
theorem lw_p69 : lw_okq (⟨"ContourTracerModel", "isSo", "(I)Z"⟩, 39) := ⟨⟨by decide +kernel, by decide +kernel⟩, List.mem_of_getElem? (i := 918) (by decide +kernel), List.mem_of_getElem? (i := 1429) (by decide +kernel), List.mem_of_getElem? (i := 1430) (by decide +kernel)⟩
theorem lw_p70 : lw_okq (⟨"ContourTracerModel", "happens", "(II)V"⟩, 39) := ⟨⟨by decide +kernel, by decide +kernel⟩, List.mem_of_getElem? (i := 918) (by decide +kernel), List.mem_of_getElem? (i := 1459) (by decide +kernel), List.mem_of_getElem? (i := 1460) (by decide +kernel)⟩
theorem lw_p71 : lw_okq (⟨"ContourTracerModel", "rowsOf", "(I)[I"⟩, 39) := ⟨⟨by decide +kernel, by decide +kernel⟩, List.mem_of_getElem? (i := 918) (by decide +kernel), List.mem_of_getElem? (i := 1482) (by decide +kernel), List.mem_of_getElem? (i := 1483) (by decide +kernel)⟩
theorem lw_p72 : lw_okq (⟨"ContourTracerModel", "together", "()I"⟩, 39) := ⟨⟨by decide +kernel, by decide +kernel⟩, List.mem_of_getElem? (i := 918) (by decide +kernel), List.mem_of_getElem? (i := 1486) (by decide +kernel), List.mem_of_getElem? (i := 1487) (by decide +kernel)⟩
theorem lw_p73 : lw_okq (⟨"ContourTracerModel", "isWithin", "(III)Z"⟩, 39) := ⟨⟨by decide +kernel, by decide +kernel⟩, List.mem_of_getElem? (i := 918) (by decide +kernel), List.mem_of_getElem? (i := 1517) (by decide +kernel), List.mem_of_getElem? (i := 1518) (by decide +kernel)⟩
def lw_privs_5 : List (MethodName × Nat) := [(⟨"ContourTracerModel", "isAtLand", "(II)Z"⟩, 39), (⟨"ContourTracerModel", "landAt", "(I)I"⟩, 39), (⟨"ContourTracerModel", "isWithHigher", "(I)Z"⟩, 39), (⟨"ContourTracerModel", "leavesOf", "(I)I"⟩, 39), (⟨"ContourTracerModel", "forksOf", "(I)I"⟩, 39), (⟨"ContourTracerModel", "isSo", "(I)Z"⟩, 39), (⟨"ContourTracerModel", "happens", "(II)V"⟩, 39), (⟨"ContourTracerModel", "rowsOf", "(I)[I"⟩, 39), (⟨"ContourTracerModel", "together", "()I"⟩, 39), (⟨"ContourTracerModel", "isWithin", "(III)Z"⟩, 39)]
theorem lw_r5 : ∀ q ∈ lw_privs_5, lw_okq q := List.forall_mem_cons.mpr ⟨lw_p64, List.forall_mem_cons.mpr ⟨lw_p65, List.forall_mem_cons.mpr ⟨lw_p66, List.forall_mem_cons.mpr ⟨lw_p67, List.forall_mem_cons.mpr ⟨lw_p68, List.forall_mem_cons.mpr ⟨lw_p69, List.forall_mem_cons.mpr ⟨lw_p70, List.forall_mem_cons.mpr ⟨lw_p71, List.forall_mem_cons.mpr ⟨lw_p72, List.forall_mem_cons.mpr ⟨lw_p73, fun _ h => absurd h List.not_mem_nil⟩⟩⟩⟩⟩⟩⟩⟩⟩⟩
def lw_privs : List (MethodName × Nat) := lw_privs_1 ++ (lw_privs_2 ++ (lw_privs_3 ++ (lw_privs_4 ++ (lw_privs_5))))
def lw_tbl : List Cond := k2_sels lw_privs ++ tables_1
theorem lw_privs_ok : ∀ q ∈ lw_privs, lw_okq q := by
  show ∀ q ∈ lw_privs_1 ++ (lw_privs_2 ++ (lw_privs_3 ++ (lw_privs_4 ++ (lw_privs_5)))), lw_okq q
  exact List.forall_mem_append.mpr ⟨lw_r1, List.forall_mem_append.mpr ⟨lw_r2, List.forall_mem_append.mpr ⟨lw_r3, List.forall_mem_append.mpr ⟨lw_r4, lw_r5⟩⟩⟩⟩
def RX0 : String := "ContourTracer$Ground"
def TX0 : u_T := fun k => match k with
  | 0 => ("ContourTracer$Ground", "heights", "[I", true)
  | 1 => ("ContourTracer$Ground", "high", "I", false)
  | 2 => ("ContourTracer$Ground", "wide", "I", false)
  | 3 => ("ContourTracer$Ground", "stride", "I", false)
  | 4 => ("ContourTracer$Ground", "places", "I", false)
  | 5 => ("ContourTracer$Ground", "kind", "I", false)
  | _ => ("ContourTracer$Ground", "changes", "I", false)
def tyX0 : Nat → FieldType := fun k => match k with
  | 0 => .array .int
  | 1 => .int
  | 2 => .int
  | 3 => .int
  | 4 => .int
  | 5 => .int
  | _ => .int
abbrev wsX00 : List Cond := u_ws RX0 TX0 7
theorem nmX0 : ∀ a, a < 7 → ∀ b, b < 7 → a ≠ b → (TX0 a).2.1 ≠ (TX0 b).2.1 := by decide +kernel
theorem tyX0_ok : ∀ k, k < 7 → parseFieldDescriptor (TX0 k).2.2.1 = some (tyX0 k) := by decide +kernel
abbrev cX0_init : ByteArray := prog_2_method_1_code
def yX0_init : MethodName := ⟨RX0, "<init>", "()V"⟩
abbrev cX0_isSize : ByteArray := prog_2_method_2_code
def yX0_isSize : MethodName := ⟨RX0, "isSize", "(I)Z"⟩
abbrev cX0_layOut : ByteArray := prog_2_method_3_code
def yX0_layOut : MethodName := ⟨RX0, "layOut", "(II)V"⟩
abbrev cX0_copyFrom : ByteArray := prog_2_method_4_code
def yX0_copyFrom : MethodName := ⟨RX0, "copyFrom", "(LContourTracer$Ground;)V"⟩
abbrev cX0_putKind : ByteArray := prog_2_method_5_code
def yX0_putKind : MethodName := ⟨RX0, "putKind", "(I)V"⟩
abbrev cX0_putHeight : ByteArray := prog_2_method_6_code
def yX0_putHeight : MethodName := ⟨RX0, "putHeight", "(II)V"⟩
abbrev cX0_points : ByteArray := prog_2_method_7_code
def yX0_points : MethodName := ⟨RX0, "points", "()I"⟩
abbrev cX0_isPoint : ByteArray := prog_2_method_8_code
def yX0_isPoint : MethodName := ⟨RX0, "isPoint", "(I)Z"⟩
abbrev cX0_placeOf : ByteArray := prog_2_method_9_code
def yX0_placeOf : MethodName := ⟨RX0, "placeOf", "(I)I"⟩
abbrev cX0_pointOf : ByteArray := prog_2_method_10_code
def yX0_pointOf : MethodName := ⟨RX0, "pointOf", "(I)I"⟩
abbrev cX0_heightOf : ByteArray := prog_2_method_11_code
def yX0_heightOf : MethodName := ⟨RX0, "heightOf", "(I)I"⟩
abbrev cX0_greatest : ByteArray := prog_2_method_12_code
def yX0_greatest : MethodName := ⟨RX0, "greatest", "()I"⟩
abbrev cX0_firstOf : ByteArray := prog_2_method_13_code
def yX0_firstOf : MethodName := ⟨RX0, "firstOf", "(I)I"⟩
abbrev cX0_together : ByteArray := prog_2_method_14_code
def yX0_together : MethodName := ⟨RX0, "together", "()I"⟩
abbrev cX0_pointsIn : ByteArray := prog_2_method_15_code
def yX0_pointsIn : MethodName := ⟨RX0, "pointsIn", "(I)I"⟩
abbrev cX0_turnOver : ByteArray := prog_2_method_16_code
def yX0_turnOver : MethodName := ⟨RX0, "turnOver", "()V"⟩
abbrev cX0_lowerAll : ByteArray := prog_2_method_17_code
def yX0_lowerAll : MethodName := ⟨RX0, "lowerAll", "(I)V"⟩
abbrev cX0_fillUp : ByteArray := prog_2_method_18_code
def yX0_fillUp : MethodName := ⟨RX0, "fillUp", "(III)Z"⟩
abbrev cX0_heapUp : ByteArray := prog_2_method_19_code
def yX0_heapUp : MethodName := ⟨RX0, "heapUp", "(III)Z"⟩
abbrev cX0_isEdge : ByteArray := prog_2_method_20_code
def yX0_isEdge : MethodName := ⟨RX0, "isEdge", "(I)Z"⟩
abbrev cX0_isSquare : ByteArray := prog_2_method_21_code
def yX0_isSquare : MethodName := ⟨RX0, "isSquare", "(I)Z"⟩
abbrev cX0_cornerOf : ByteArray := prog_2_method_22_code
def yX0_cornerOf : MethodName := ⟨RX0, "cornerOf", "(I)I"⟩
abbrev cX0_caseOf : ByteArray := prog_2_method_23_code
def yX0_caseOf : MethodName := ⟨RX0, "caseOf", "(II)I"⟩
abbrev cX0_isSaddle : ByteArray := prog_2_method_24_code
def yX0_isSaddle : MethodName := ⟨RX0, "isSaddle", "(I)Z"⟩
abbrev cX0_isJoined : ByteArray := prog_2_method_25_code
def yX0_isJoined : MethodName := ⟨RX0, "isJoined", "(II)Z"⟩
abbrev cX0_isJoinedSaddle : ByteArray := prog_2_method_26_code
def yX0_isJoinedSaddle : MethodName := ⟨RX0, "isJoinedSaddle", "(II)Z"⟩
abbrev cX0_saddles : ByteArray := prog_2_method_27_code
def yX0_saddles : MethodName := ⟨RX0, "saddles", "(IZ)I"⟩
abbrev cX0_volume : ByteArray := prog_2_method_28_code
def yX0_volume : MethodName := ⟨RX0, "volume", "(I)I"⟩
abbrev cX0_isLikeBelow : ByteArray := prog_2_method_29_code
def yX0_isLikeBelow : MethodName := ⟨RX0, "isLikeBelow", "(I)Z"⟩
def RX1 : String := "ContourTracer$Lands"
def TX1 : u_T := fun k => match k with
  | 0 => ("ContourTracer$Lands", "ground", "LContourTracer$Ground;", true)
  | 1 => ("ContourTracer$Lands", "roots", "[I", true)
  | 2 => ("ContourTracer$Lands", "landAt", "[I", true)
  | 3 => ("ContourTracer$Lands", "leastPlaces", "[I", true)
  | 4 => ("ContourTracer$Lands", "sizes", "[I", true)
  | 5 => ("ContourTracer$Lands", "tops", "[I", true)
  | 6 => ("ContourTracer$Lands", "children", "[I", true)
  | 7 => ("ContourTracer$Lands", "found", "I", false)
  | 8 => ("ContourTracer$Lands", "level", "I", false)
  | _ => ("ContourTracer$Lands", "changesFound", "I", false)
def tyX1 : Nat → FieldType := fun k => match k with
  | 0 => .object "ContourTracer$Ground"
  | 1 => .array .int
  | 2 => .array .int
  | 3 => .array .int
  | 4 => .array .int
  | 5 => .array .int
  | 6 => .array .int
  | 7 => .int
  | 8 => .int
  | _ => .int
abbrev wsX10 : List Cond := u_ws RX1 TX1 10
theorem nmX1 : ∀ a, a < 10 → ∀ b, b < 10 → a ≠ b → (TX1 a).2.1 ≠ (TX1 b).2.1 := by decide +kernel
theorem tyX1_ok : ∀ k, k < 10 → parseFieldDescriptor (TX1 k).2.2.1 = some (tyX1 k) := by decide +kernel
abbrev cX1_init : ByteArray := prog_3_method_1_code
def yX1_init : MethodName := ⟨RX1, "<init>", "(LContourTracer$Ground;)V"⟩
abbrev cX1_find : ByteArray := prog_3_method_2_code
def yX1_find : MethodName := ⟨RX1, "find", "(I)V"⟩
abbrev cX1_isIn : ByteArray := prog_3_method_3_code
def yX1_isIn : MethodName := ⟨RX1, "isIn", "(I)Z"⟩
abbrev cX1_hangTogether : ByteArray := prog_3_method_4_code
def yX1_hangTogether : MethodName := ⟨RX1, "hangTogether", "(I)V"⟩
abbrev cX1_unite : ByteArray := prog_3_method_5_code
def yX1_unite : MethodName := ⟨RX1, "unite", "(II)V"⟩
abbrev cX1_rootOf : ByteArray := prog_3_method_6_code
def yX1_rootOf : MethodName := ⟨RX1, "rootOf", "(I)I"⟩
abbrev cX1_numberLands : ByteArray := prog_3_method_7_code
def yX1_numberLands : MethodName := ⟨RX1, "numberLands", "()V"⟩
abbrev cX1_topAround : ByteArray := prog_3_method_8_code
def yX1_topAround : MethodName := ⟨RX1, "topAround", "(I)I"⟩
abbrev cX1_clearChildren : ByteArray := prog_3_method_9_code
def yX1_clearChildren : MethodName := ⟨RX1, "clearChildren", "()V"⟩
abbrev cX1_addChild : ByteArray := prog_3_method_10_code
def yX1_addChild : MethodName := ⟨RX1, "addChild", "(I)V"⟩
abbrev cX1_leaves : ByteArray := prog_3_method_11_code
def yX1_leaves : MethodName := ⟨RX1, "leaves", "()I"⟩
abbrev cX1_forks : ByteArray := prog_3_method_12_code
def yX1_forks : MethodName := ⟨RX1, "forks", "()I"⟩
def RX2 : String := "ContourTracer$Lines"
def TX2 : u_T := fun k => match k with
  | 0 => ("ContourTracer$Lines", "ground", "LContourTracer$Ground;", true)
  | 1 => ("ContourTracer$Lines", "lineOver", "[I", true)
  | 2 => ("ContourTracer$Lines", "edges", "[I", true)
  | 3 => ("ContourTracer$Lines", "begins", "[I", true)
  | 4 => ("ContourTracer$Lines", "counts", "[I", true)
  | 5 => ("ContourTracer$Lines", "found", "I", false)
  | 6 => ("ContourTracer$Lines", "level", "I", false)
  | 7 => ("ContourTracer$Lines", "changesTraced", "I", false)
  | _ => ("ContourTracer$Lines", "changesCounted", "I", false)
def tyX2 : Nat → FieldType := fun k => match k with
  | 0 => .object "ContourTracer$Ground"
  | 1 => .array .int
  | 2 => .array .int
  | 3 => .array .int
  | 4 => .array .int
  | 5 => .int
  | 6 => .int
  | 7 => .int
  | _ => .int
abbrev wsX20 : List Cond := u_ws RX2 TX2 9
theorem nmX2 : ∀ a, a < 9 → ∀ b, b < 9 → a ≠ b → (TX2 a).2.1 ≠ (TX2 b).2.1 := by decide +kernel
theorem tyX2_ok : ∀ k, k < 9 → parseFieldDescriptor (TX2 k).2.2.1 = some (tyX2 k) := by decide +kernel
abbrev cX2_init : ByteArray := prog_4_method_1_code
def yX2_init : MethodName := ⟨RX2, "<init>", "(LContourTracer$Ground;)V"⟩
abbrev cX2_trace : ByteArray := prog_4_method_2_code
def yX2_trace : MethodName := ⟨RX2, "trace", "(I)V"⟩
abbrev cX2_isIn : ByteArray := prog_4_method_3_code
def yX2_isIn : MethodName := ⟨RX2, "isIn", "(I)Z"⟩
abbrev cX2_follow : ByteArray := prog_4_method_4_code
def yX2_follow : MethodName := ⟨RX2, "follow", "(I)V"⟩
abbrev cX2_nextOf : ByteArray := prog_4_method_5_code
def yX2_nextOf : MethodName := ⟨RX2, "nextOf", "(I)I"⟩
abbrev cX2_wayOver : ByteArray := prog_4_method_6_code
def yX2_wayOver : MethodName := ⟨RX2, "wayOver", "(I)I"⟩
abbrev cX2_leave : ByteArray := prog_4_method_7_code
def yX2_leave : MethodName := ⟨RX2, "leave", "(II)I"⟩
abbrev cX2_sideOf : ByteArray := prog_4_method_8_code
def yX2_sideOf : MethodName := ⟨RX2, "sideOf", "(II)I"⟩
abbrev cX2_isLine : ByteArray := prog_4_method_9_code
def yX2_isLine : MethodName := ⟨RX2, "isLine", "(I)Z"⟩
abbrev cX2_lengthOf : ByteArray := prog_4_method_10_code
def yX2_lengthOf : MethodName := ⟨RX2, "lengthOf", "(I)I"⟩
abbrev cX2_edgeOf : ByteArray := prog_4_method_11_code
def yX2_edgeOf : MethodName := ⟨RX2, "edgeOf", "(II)I"⟩
abbrev cX2_leastEdge : ByteArray := prog_4_method_12_code
def yX2_leastEdge : MethodName := ⟨RX2, "leastEdge", "(I)I"⟩
abbrev cX2_leastPlace : ByteArray := prog_4_method_13_code
def yX2_leastPlace : MethodName := ⟨RX2, "leastPlace", "(I)I"⟩
abbrev cX2_holdersOf : ByteArray := prog_4_method_14_code
def yX2_holdersOf : MethodName := ⟨RX2, "holdersOf", "(I)J"⟩
abbrev cX2_isHeld : ByteArray := prog_4_method_15_code
def yX2_isHeld : MethodName := ⟨RX2, "isHeld", "(II)Z"⟩
abbrev cX2_holdersOfLine : ByteArray := prog_4_method_16_code
def yX2_holdersOfLine : MethodName := ⟨RX2, "holdersOfLine", "(I)J"⟩
abbrev cX2_depthOf : ByteArray := prog_4_method_17_code
def yX2_depthOf : MethodName := ⟨RX2, "depthOf", "(I)I"⟩
abbrev cX2_isOuter : ByteArray := prog_4_method_18_code
def yX2_isOuter : MethodName := ⟨RX2, "isOuter", "(I)Z"⟩
abbrev cX2_parentOf : ByteArray := prog_4_method_19_code
def yX2_parentOf : MethodName := ⟨RX2, "parentOf", "(I)I"⟩
abbrev cX2_areaOf : ByteArray := prog_4_method_20_code
def yX2_areaOf : MethodName := ⟨RX2, "areaOf", "(I)I"⟩
abbrev cX2_acrossOf : ByteArray := prog_4_method_21_code
def yX2_acrossOf : MethodName := ⟨RX2, "acrossOf", "(I)I"⟩
abbrev cX2_downOf : ByteArray := prog_4_method_22_code
def yX2_downOf : MethodName := ⟨RX2, "downOf", "(I)I"⟩
abbrev cX2_pointsHeld : ByteArray := prog_4_method_23_code
def yX2_pointsHeld : MethodName := ⟨RX2, "pointsHeld", "(I)I"⟩
abbrev cX2_outerOnes : ByteArray := prog_4_method_24_code
def yX2_outerOnes : MethodName := ⟨RX2, "outerOnes", "()I"⟩
abbrev cX2_greatestDepth : ByteArray := prog_4_method_25_code
def yX2_greatestDepth : MethodName := ⟨RX2, "greatestDepth", "()I"⟩
abbrev cX2_countLevels : ByteArray := prog_4_method_26_code
def yX2_countLevels : MethodName := ⟨RX2, "countLevels", "()V"⟩
abbrev cX2_busiest : ByteArray := prog_4_method_27_code
def yX2_busiest : MethodName := ⟨RX2, "busiest", "()I"⟩
def RX3 : String := "ContourTracer$Rows"
def TX3 : u_T := fun k => match k with
  | 0 => ("ContourTracer$Rows", "firsts", "[I", true)
  | 1 => ("ContourTracer$Rows", "seconds", "[I", true)
  | _ => ("ContourTracer$Rows", "used", "I", false)
def tyX3 : Nat → FieldType := fun k => match k with
  | 0 => .array .int
  | 1 => .array .int
  | _ => .int
abbrev wsX30 : List Cond := u_ws RX3 TX3 3
theorem nmX3 : ∀ a, a < 3 → ∀ b, b < 3 → a ≠ b → (TX3 a).2.1 ≠ (TX3 b).2.1 := by decide +kernel
theorem tyX3_ok : ∀ k, k < 3 → parseFieldDescriptor (TX3 k).2.2.1 = some (tyX3 k) := by decide +kernel
abbrev cX3_init : ByteArray := prog_5_method_1_code
def yX3_init : MethodName := ⟨RX3, "<init>", "(I)V"⟩
abbrev cX3_isFull : ByteArray := prog_5_method_2_code
def yX3_isFull : MethodName := ⟨RX3, "isFull", "()Z"⟩
abbrev cX3_append : ByteArray := prog_5_method_3_code
def yX3_append : MethodName := ⟨RX3, "append", "(II)I"⟩
abbrev cX3_clear : ByteArray := prog_5_method_4_code
def yX3_clear : MethodName := ⟨RX3, "clear", "()I"⟩
abbrev cX3_copyFrom : ByteArray := prog_5_method_5_code
def yX3_copyFrom : MethodName := ⟨RX3, "copyFrom", "(LContourTracer$Rows;)V"⟩
def RX4 : String := "ContourTracer$Tape"
def TX4 : u_T := fun k => match k with
  | 0 => ("ContourTracer$Tape", "items", "[J", true)
  | 1 => ("ContourTracer$Tape", "sort", "I", false)
  | _ => ("ContourTracer$Tape", "length", "I", false)
def tyX4 : Nat → FieldType := fun k => match k with
  | 0 => .array .long
  | 1 => .int
  | _ => .int
abbrev wsX40 : List Cond := u_ws RX4 TX4 3
theorem nmX4 : ∀ a, a < 3 → ∀ b, b < 3 → a ≠ b → (TX4 a).2.1 ≠ (TX4 b).2.1 := by decide +kernel
theorem tyX4_ok : ∀ k, k < 3 → parseFieldDescriptor (TX4 k).2.2.1 = some (tyX4 k) := by decide +kernel
abbrev cX4_init : ByteArray := prog_6_method_1_code
def yX4_init : MethodName := ⟨RX4, "<init>", "()V"⟩
abbrev cX4_isSort : ByteArray := prog_6_method_2_code
def yX4_isSort : MethodName := ⟨RX4, "isSort", "(I)Z"⟩
abbrev cX4_become : ByteArray := prog_6_method_3_code
def yX4_become : MethodName := ⟨RX4, "become", "(II)V"⟩
abbrev cX4_isEmpty : ByteArray := prog_6_method_4_code
def yX4_isEmpty : MethodName := ⟨RX4, "isEmpty", "()Z"⟩
abbrev cX4_isPlace : ByteArray := prog_6_method_5_code
def yX4_isPlace : MethodName := ⟨RX4, "isPlace", "(I)Z"⟩
abbrev cX4_isStretch : ByteArray := prog_6_method_6_code
def yX4_isStretch : MethodName := ⟨RX4, "isStretch", "(II)Z"⟩
abbrev cX4_put : ByteArray := prog_6_method_7_code
def yX4_put : MethodName := ⟨RX4, "put", "(IJ)V"⟩
def RX5 : String := "ContourTracer$Text"
def TX5 : u_T := fun k => match k with
  | 0 => ("ContourTracer$Text", "signs", "[I", true)
  | 1 => ("ContourTracer$Text", "length", "I", false)
  | 2 => ("ContourTracer$Text", "words", "[I", true)
  | 3 => ("ContourTracer$Text", "numbers", "[I", true)
  | 4 => ("ContourTracer$Text", "clauses", "I", false)
  | _ => ("ContourTracer$Text", "cursor", "I", false)
def tyX5 : Nat → FieldType := fun k => match k with
  | 0 => .array .int
  | 1 => .int
  | 2 => .array .int
  | 3 => .array .int
  | 4 => .int
  | _ => .int
abbrev wsX50 : List Cond := u_ws RX5 TX5 6
theorem nmX5 : ∀ a, a < 6 → ∀ b, b < 6 → a ≠ b → (TX5 a).2.1 ≠ (TX5 b).2.1 := by decide +kernel
theorem tyX5_ok : ∀ k, k < 6 → parseFieldDescriptor (TX5 k).2.2.1 = some (tyX5 k) := by decide +kernel
abbrev cX5_init : ByteArray := prog_7_method_1_code
def yX5_init : MethodName := ⟨RX5, "<init>", "()V"⟩
abbrev cX5_isFull : ByteArray := prog_7_method_2_code
def yX5_isFull : MethodName := ⟨RX5, "isFull", "()Z"⟩
abbrev cX5_append : ByteArray := prog_7_method_3_code
def yX5_append : MethodName := ⟨RX5, "append", "(I)V"⟩
abbrev cX5_wordOf : ByteArray := prog_7_method_4_code
def yX5_wordOf : MethodName := ⟨RX5, "wordOf", "(I)I"⟩
abbrev cX5_numberOf : ByteArray := prog_7_method_5_code
def yX5_numberOf : MethodName := ⟨RX5, "numberOf", "(II)I"⟩
abbrev cX5_parse : ByteArray := prog_7_method_6_code
def yX5_parse : MethodName := ⟨RX5, "parse", "()I"⟩
abbrev cX5_readClause : ByteArray := prog_7_method_7_code
def yX5_readClause : MethodName := ⟨RX5, "readClause", "()Z"⟩
abbrev cX5_readNumber : ByteArray := prog_7_method_8_code
def yX5_readNumber : MethodName := ⟨RX5, "readNumber", "(I)Z"⟩
abbrev cX5_take : ByteArray := prog_7_method_9_code
def yX5_take : MethodName := ⟨RX5, "take", "(I)Z"⟩
abbrev cX5_isDigit : ByteArray := prog_7_method_10_code
def yX5_isDigit : MethodName := ⟨RX5, "isDigit", "()Z"⟩
abbrev cX5_takeDigit : ByteArray := prog_7_method_11_code
def yX5_takeDigit : MethodName := ⟨RX5, "takeDigit", "()I"⟩
abbrev cX5_wordFrom : ByteArray := prog_7_method_12_code
def yX5_wordFrom : MethodName := ⟨RX5, "wordFrom", "(I)I"⟩
abbrev cX5_lettersOf : ByteArray := prog_7_method_13_code
def yX5_lettersOf : MethodName := ⟨RX5, "lettersOf", "(I)Ljava/lang/String;"⟩
abbrev cX5_numbersOf : ByteArray := prog_7_method_14_code
def yX5_numbersOf : MethodName := ⟨RX5, "numbersOf", "(I)I"⟩
def RX6 : String := "ContourTracer"
def TX6 : u_T := fun k => match k with
  | 0 => ("ContourTracer", "ground", "LContourTracer$Ground;", true)
  | 1 => ("ContourTracer", "lines", "LContourTracer$Lines;", true)
  | 2 => ("ContourTracer", "lands", "LContourTracer$Lands;", true)
  | 3 => ("ContourTracer", "upperLands", "LContourTracer$Lands;", true)
  | 4 => ("ContourTracer", "trial", "LContourTracer$Ground;", true)
  | 5 => ("ContourTracer", "trialLines", "LContourTracer$Lines;", true)
  | 6 => ("ContourTracer", "trialLands", "LContourTracer$Lands;", true)
  | 7 => ("ContourTracer", "seen", "LContourTracer$Rows;", true)
  | 8 => ("ContourTracer", "events", "LContourTracer$Rows;", true)
  | 9 => ("ContourTracer", "booked", "LContourTracer$Rows;", true)
  | 10 => ("ContourTracer", "text", "LContourTracer$Text;", true)
  | 11 => ("ContourTracer", "tapes", "[LContourTracer$Tape;", true)
  | 12 => ("ContourTracer", "imaged", "Z", false)
  | 13 => ("ContourTracer", "groundThen", "LContourTracer$Ground;", true)
  | 14 => ("ContourTracer", "seenThen", "LContourTracer$Rows;", true)
  | 15 => ("ContourTracer", "eventsThen", "LContourTracer$Rows;", true)
  | _ => ("ContourTracer", "bookedThen", "LContourTracer$Rows;", true)
def tyX6 : Nat → FieldType := fun k => match k with
  | 0 => .object "ContourTracer$Ground"
  | 1 => .object "ContourTracer$Lines"
  | 2 => .object "ContourTracer$Lands"
  | 3 => .object "ContourTracer$Lands"
  | 4 => .object "ContourTracer$Ground"
  | 5 => .object "ContourTracer$Lines"
  | 6 => .object "ContourTracer$Lands"
  | 7 => .object "ContourTracer$Rows"
  | 8 => .object "ContourTracer$Rows"
  | 9 => .object "ContourTracer$Rows"
  | 10 => .object "ContourTracer$Text"
  | 11 => .array (.object "ContourTracer$Tape")
  | 12 => .boolean
  | 13 => .object "ContourTracer$Ground"
  | 14 => .object "ContourTracer$Rows"
  | 15 => .object "ContourTracer$Rows"
  | _ => .object "ContourTracer$Rows"
abbrev wsX60 : List Cond := u_ws RX6 TX6 17
theorem nmX6 : ∀ a, a < 17 → ∀ b, b < 17 → a ≠ b → (TX6 a).2.1 ≠ (TX6 b).2.1 := by decide +kernel
theorem tyX6_ok : ∀ k, k < 17 → parseFieldDescriptor (TX6 k).2.2.1 = some (tyX6 k) := by decide +kernel
abbrev cX6_init : ByteArray := prog_1_method_1_code
def yX6_init : MethodName := ⟨RX6, "<init>", "()V"⟩
abbrev cX6_size : ByteArray := prog_1_method_2_code
def yX6_size : MethodName := ⟨RX6, "size", "(II)I"⟩
abbrev cX6_height : ByteArray := prog_1_method_3_code
def yX6_height : MethodName := ⟨RX6, "height", "(II)I"⟩
abbrev cX6_rule : ByteArray := prog_1_method_4_code
def yX6_rule : MethodName := ⟨RX6, "rule", "(I)I"⟩
abbrev cX6_feed : ByteArray := prog_1_method_5_code
def yX6_feed : MethodName := ⟨RX6, "feed", "(I)I"⟩
abbrev cX6_read : ByteArray := prog_1_method_6_code
def yX6_read : MethodName := ⟨RX6, "read", "()I"⟩
abbrev cX6_perform : ByteArray := prog_1_method_7_code
def yX6_perform : MethodName := ⟨RX6, "perform", "(I)Z"⟩
abbrev cX6_of : ByteArray := prog_1_method_8_code
def yX6_of : MethodName := ⟨RX6, "of", "(I)I"⟩
abbrev cX6_told : ByteArray := prog_1_method_9_code
def yX6_told : MethodName := ⟨RX6, "told", "(I)I"⟩
abbrev cX6_halfLevel : ByteArray := prog_1_method_10_code
def yX6_halfLevel : MethodName := ⟨RX6, "halfLevel", "()I"⟩
abbrev cX6_at : ByteArray := prog_1_method_11_code
def yX6_at : MethodName := ⟨RX6, "at", "(II)I"⟩
abbrev cX6_square : ByteArray := prog_1_method_12_code
def yX6_square : MethodName := ⟨RX6, "square", "(III)I"⟩
abbrev cX6_edge : ByteArray := prog_1_method_13_code
def yX6_edge : MethodName := ⟨RX6, "edge", "(II)I"⟩
abbrev cX6_line : ByteArray := prog_1_method_14_code
def yX6_line : MethodName := ⟨RX6, "line", "(III)I"⟩
abbrev cX6_goes : ByteArray := prog_1_method_15_code
def yX6_goes : MethodName := ⟨RX6, "goes", "(III)I"⟩
abbrev cX6_holds : ByteArray := prog_1_method_16_code
def yX6_holds : MethodName := ⟨RX6, "holds", "(III)I"⟩
abbrev cX6_ways : ByteArray := prog_1_method_17_code
def yX6_ways : MethodName := ⟨RX6, "ways", "(III)I"⟩
abbrev cX6_picture : ByteArray := prog_1_method_18_code
def yX6_picture : MethodName := ⟨RX6, "picture", "(II)I"⟩
abbrev cX6_land : ByteArray := prog_1_method_19_code
def yX6_land : MethodName := ⟨RX6, "land", "(II)I"⟩
abbrev cX6_landOf : ByteArray := prog_1_method_20_code
def yX6_landOf : MethodName := ⟨RX6, "landOf", "(III)I"⟩
abbrev cX6_holesOf : ByteArray := prog_1_method_21_code
def yX6_holesOf : MethodName := ⟨RX6, "holesOf", "(II)I"⟩
abbrev cX6_pass : ByteArray := prog_1_method_22_code
def yX6_pass : MethodName := ⟨RX6, "pass", "(II)I"⟩
abbrev cX6_stands : ByteArray := prog_1_method_23_code
def yX6_stands : MethodName := ⟨RX6, "stands", "(I)I"⟩
abbrev cX6_tree : ByteArray := prog_1_method_24_code
def yX6_tree : MethodName := ⟨RX6, "tree", "(II)I"⟩
abbrev cX6_countChildren : ByteArray := prog_1_method_25_code
def yX6_countChildren : MethodName := ⟨RX6, "countChildren", "(LContourTracer$Lands;LContourTracer$Lands;I)V"⟩
abbrev cX6_between : ByteArray := prog_1_method_26_code
def yX6_between : MethodName := ⟨RX6, "between", "(II)I"⟩
abbrev cX6_see : ByteArray := prog_1_method_27_code
def yX6_see : MethodName := ⟨RX6, "see", "(II)I"⟩
abbrev cX6_fits : ByteArray := prog_1_method_28_code
def yX6_fits : MethodName := ⟨RX6, "fits", "(I)I"⟩
abbrev cX6_odds : ByteArray := prog_1_method_29_code
def yX6_odds : MethodName := ⟨RX6, "odds", "(II)J"⟩
abbrev cX6_mean : ByteArray := prog_1_method_30_code
def yX6_mean : MethodName := ⟨RX6, "mean", "(I)J"⟩
abbrev cX6_isPart : ByteArray := prog_1_method_31_code
def yX6_isPart : MethodName := ⟨RX6, "isPart", "(I)Z"⟩
abbrev cX6_hundredths : ByteArray := prog_1_method_32_code
def yX6_hundredths : MethodName := ⟨RX6, "hundredths", "(II)J"⟩
abbrev cX6_event : ByteArray := prog_1_method_33_code
def yX6_event : MethodName := ⟨RX6, "event", "(II)I"⟩
abbrev cX6_after : ByteArray := prog_1_method_34_code
def yX6_after : MethodName := ⟨RX6, "after", "(II)I"⟩
abbrev cX6_tryEvents : ByteArray := prog_1_method_35_code
def yX6_tryEvents : MethodName := ⟨RX6, "tryEvents", "()V"⟩
abbrev cX6_happen : ByteArray := prog_1_method_36_code
def yX6_happen : MethodName := ⟨RX6, "happen", "(LContourTracer$Ground;II)V"⟩
abbrev cX6_book : ByteArray := prog_1_method_37_code
def yX6_book : MethodName := ⟨RX6, "book", "(II)I"⟩
abbrev cX6_looked : ByteArray := prog_1_method_38_code
def yX6_looked : MethodName := ⟨RX6, "looked", "()I"⟩
abbrev cX6_judge : ByteArray := prog_1_method_39_code
def yX6_judge : MethodName := ⟨RX6, "judge", "(II)I"⟩
abbrev cX6_image : ByteArray := prog_1_method_40_code
def yX6_image : MethodName := ⟨RX6, "image", "()I"⟩
abbrev cX6_undo : ByteArray := prog_1_method_41_code
def yX6_undo : MethodName := ⟨RX6, "undo", "()I"⟩
abbrev cX6_count : ByteArray := prog_1_method_42_code
def yX6_count : MethodName := ⟨RX6, "count", "(I)I"⟩
abbrev cX6_tape : ByteArray := prog_1_method_43_code
def yX6_tape : MethodName := ⟨RX6, "tape", "(III)I"⟩
abbrev cX6_item : ByteArray := prog_1_method_44_code
def yX6_item : MethodName := ⟨RX6, "item", "(IIJ)I"⟩
abbrev cX6_peek : ByteArray := prog_1_method_45_code
def yX6_peek : MethodName := ⟨RX6, "peek", "(II)J"⟩
abbrev cX6_shift : ByteArray := prog_1_method_46_code
def yX6_shift : MethodName := ⟨RX6, "shift", "(IIIII)I"⟩
abbrev cX6_isLevel : ByteArray := prog_1_method_47_code
def yX6_isLevel : MethodName := ⟨RX6, "isLevel", "(I)Z"⟩
abbrev cX6_isHeight : ByteArray := prog_1_method_48_code
def yX6_isHeight : MethodName := ⟨RX6, "isHeight", "(I)Z"⟩
abbrev cX6_isKind : ByteArray := prog_1_method_49_code
def yX6_isKind : MethodName := ⟨RX6, "isKind", "(I)Z"⟩
abbrev cX6_isTape : ByteArray := prog_1_method_50_code
def yX6_isTape : MethodName := ⟨RX6, "isTape", "(I)Z"⟩
def RX7 : String := "ContourTracerModel"
def TX7 : u_T := fun k => match k with
  | 0 => ("ContourTracerModel", "high", "I", false)
  | 1 => ("ContourTracerModel", "wide", "I", false)
  | 2 => ("ContourTracerModel", "kind", "I", false)
  | 3 => ("ContourTracerModel", "heights", "[I", false)
  | 4 => ("ContourTracerModel", "text", "[B", true)
  | 5 => ("ContourTracerModel", "texted", "I", false)
  | 6 => ("ContourTracerModel", "words", "[I", true)
  | 7 => ("ContourTracerModel", "numbers", "[I", true)
  | 8 => ("ContourTracerModel", "at", "I", false)
  | 9 => ("ContourTracerModel", "clauses", "I", false)
  | 10 => ("ContourTracerModel", "isCrossed", "[Z", true)
  | 11 => ("ContourTracerModel", "lineOf", "[I", true)
  | 12 => ("ContourTracerModel", "order", "[I", true)
  | 13 => ("ContourTracerModel", "begins", "[I", true)
  | 14 => ("ContourTracerModel", "lines", "I", false)
  | 15 => ("ContourTracerModel", "ordered", "I", false)
  | 16 => ("ContourTracerModel", "landOf", "[I", true)
  | 17 => ("ContourTracerModel", "pile", "[I", true)
  | 18 => ("ContourTracerModel", "lands", "I", false)
  | 19 => ("ContourTracerModel", "piled", "I", false)
  | 20 => ("ContourTracerModel", "ahead", "[I", true)
  | 21 => ("ContourTracerModel", "inner", "[I", true)
  | 22 => ("ContourTracerModel", "seenPoints", "[I", false)
  | 23 => ("ContourTracerModel", "seenIs", "[I", false)
  | 24 => ("ContourTracerModel", "seen", "I", false)
  | 25 => ("ContourTracerModel", "eventWhat", "[I", false)
  | 26 => ("ContourTracerModel", "eventN", "[I", false)
  | 27 => ("ContourTracerModel", "events", "I", false)
  | 28 => ("ContourTracerModel", "keptHeights", "[I", true)
  | 29 => ("ContourTracerModel", "bookPoints", "[I", false)
  | 30 => ("ContourTracerModel", "bookHeights", "[I", false)
  | 31 => ("ContourTracerModel", "books", "I", false)
  | 32 => ("ContourTracerModel", "imageNumbers", "[I", true)
  | 33 => ("ContourTracerModel", "imageHeights", "[I", true)
  | 34 => ("ContourTracerModel", "imageRows", "[[I", true)
  | 35 => ("ContourTracerModel", "isKept", "Z", false)
  | 36 => ("ContourTracerModel", "sorts", "[I", true)
  | 37 => ("ContourTracerModel", "sizes", "[I", true)
  | _ => ("ContourTracerModel", "items", "[[J", true)
def tyX7 : Nat → FieldType := fun k => match k with
  | 0 => .int
  | 1 => .int
  | 2 => .int
  | 3 => .array .int
  | 4 => .array .byte
  | 5 => .int
  | 6 => .array .int
  | 7 => .array .int
  | 8 => .int
  | 9 => .int
  | 10 => .array .boolean
  | 11 => .array .int
  | 12 => .array .int
  | 13 => .array .int
  | 14 => .int
  | 15 => .int
  | 16 => .array .int
  | 17 => .array .int
  | 18 => .int
  | 19 => .int
  | 20 => .array .int
  | 21 => .array .int
  | 22 => .array .int
  | 23 => .array .int
  | 24 => .int
  | 25 => .array .int
  | 26 => .array .int
  | 27 => .int
  | 28 => .array .int
  | 29 => .array .int
  | 30 => .array .int
  | 31 => .int
  | 32 => .array .int
  | 33 => .array .int
  | 34 => .array (.array .int)
  | 35 => .boolean
  | 36 => .array .int
  | 37 => .array .int
  | _ => .array (.array .long)
abbrev wsX70 : List Cond := u_ws RX7 TX7 39
theorem nmX7 : ∀ a, a < 39 → ∀ b, b < 39 → a ≠ b → (TX7 a).2.1 ≠ (TX7 b).2.1 := by decide +kernel
theorem tyX7_ok : ∀ k, k < 39 → parseFieldDescriptor (TX7 k).2.2.1 = some (tyX7 k) := by decide +kernel
abbrev cX7_init : ByteArray := prog_9_method_1_code
def yX7_init : MethodName := ⟨RX7, "<init>", "()V"⟩
abbrev cX7_in : ByteArray := prog_9_method_2_code
def yX7_in : MethodName := ⟨RX7, "in", "(III)Z"⟩
abbrev cX7_isLevel : ByteArray := prog_9_method_3_code
def yX7_isLevel : MethodName := ⟨RX7, "isLevel", "(I)Z"⟩
abbrev cX7_points : ByteArray := prog_9_method_4_code
def yX7_points : MethodName := ⟨RX7, "points", "()I"⟩
abbrev cX7_isPoint : ByteArray := prog_9_method_5_code
def yX7_isPoint : MethodName := ⟨RX7, "isPoint", "(I)Z"⟩
abbrev cX7_size : ByteArray := prog_9_method_6_code
def yX7_size : MethodName := ⟨RX7, "size", "(II)I"⟩
abbrev cX7_height : ByteArray := prog_9_method_7_code
def yX7_height : MethodName := ⟨RX7, "height", "(II)I"⟩
abbrev cX7_rule : ByteArray := prog_9_method_8_code
def yX7_rule : MethodName := ⟨RX7, "rule", "(I)I"⟩
abbrev cX7_fill : ByteArray := prog_9_method_9_code
def yX7_fill : MethodName := ⟨RX7, "fill", "(III)I"⟩
abbrev cX7_hill : ByteArray := prog_9_method_10_code
def yX7_hill : MethodName := ⟨RX7, "hill", "(III)I"⟩
abbrev cX7_turn : ByteArray := prog_9_method_11_code
def yX7_turn : MethodName := ⟨RX7, "turn", "()I"⟩
abbrev cX7_feed : ByteArray := prog_9_method_12_code
def yX7_feed : MethodName := ⟨RX7, "feed", "(I)I"⟩
abbrev cX7_wordOf : ByteArray := prog_9_method_13_code
def yX7_wordOf : MethodName := ⟨RX7, "wordOf", "(I)Ljava/lang/String;"⟩
abbrev cX7_manyOf : ByteArray := prog_9_method_14_code
def yX7_manyOf : MethodName := ⟨RX7, "manyOf", "(I)I"⟩
abbrev cX7_isAt : ByteArray := prog_9_method_15_code
def yX7_isAt : MethodName := ⟨RX7, "isAt", "(C)Z"⟩
abbrev cX7_isDigit : ByteArray := prog_9_method_16_code
def yX7_isDigit : MethodName := ⟨RX7, "isDigit", "()Z"⟩
abbrev cX7_takesWord : ByteArray := prog_9_method_17_code
def yX7_takesWord : MethodName := ⟨RX7, "takesWord", "()Z"⟩
abbrev cX7_takesNumber : ByteArray := prog_9_method_18_code
def yX7_takesNumber : MethodName := ⟨RX7, "takesNumber", "(I)Z"⟩
abbrev cX7_takesClause : ByteArray := prog_9_method_19_code
def yX7_takesClause : MethodName := ⟨RX7, "takesClause", "()Z"⟩
abbrev cX7_takesAll : ByteArray := prog_9_method_20_code
def yX7_takesAll : MethodName := ⟨RX7, "takesAll", "()Z"⟩
abbrev cX7_done : ByteArray := prog_9_method_21_code
def yX7_done : MethodName := ⟨RX7, "done", "(I)I"⟩
abbrev cX7_read : ByteArray := prog_9_method_22_code
def yX7_read : MethodName := ⟨RX7, "read", "()I"⟩
abbrev cX7_row : ByteArray := prog_9_method_23_code
def yX7_row : MethodName := ⟨RX7, "row", "(I)I"⟩
abbrev cX7_column : ByteArray := prog_9_method_24_code
def yX7_column : MethodName := ⟨RX7, "column", "(I)I"⟩
abbrev cX7_places : ByteArray := prog_9_method_25_code
def yX7_places : MethodName := ⟨RX7, "places", "()I"⟩
abbrev cX7_placeOf : ByteArray := prog_9_method_26_code
def yX7_placeOf : MethodName := ⟨RX7, "placeOf", "(I)I"⟩
abbrev cX7_heightAt : ByteArray := prog_9_method_27_code
def yX7_heightAt : MethodName := ⟨RX7, "heightAt", "(I)I"⟩
abbrev cX7_otherOf : ByteArray := prog_9_method_28_code
def yX7_otherOf : MethodName := ⟨RX7, "otherOf", "(I)I"⟩
abbrev cX7_isEdge : ByteArray := prog_9_method_29_code
def yX7_isEdge : MethodName := ⟨RX7, "isEdge", "(I)Z"⟩
abbrev cX7_squares : ByteArray := prog_9_method_30_code
def yX7_squares : MethodName := ⟨RX7, "squares", "()I"⟩
abbrev cX7_cornerOf : ByteArray := prog_9_method_31_code
def yX7_cornerOf : MethodName := ⟨RX7, "cornerOf", "(I)I"⟩
abbrev cX7_cornerAt : ByteArray := prog_9_method_32_code
def yX7_cornerAt : MethodName := ⟨RX7, "cornerAt", "(II)I"⟩
abbrev cX7_caseOf : ByteArray := prog_9_method_33_code
def yX7_caseOf : MethodName := ⟨RX7, "caseOf", "(II)I"⟩
abbrev cX7_isSaddle : ByteArray := prog_9_method_34_code
def yX7_isSaddle : MethodName := ⟨RX7, "isSaddle", "(I)Z"⟩
abbrev cX7_isJoined : ByteArray := prog_9_method_35_code
def yX7_isJoined : MethodName := ⟨RX7, "isJoined", "(II)Z"⟩
abbrev cX7_isBack : ByteArray := prog_9_method_36_code
def yX7_isBack : MethodName := ⟨RX7, "isBack", "(II)Z"⟩
abbrev cX7_signOf : ByteArray := prog_9_method_37_code
def yX7_signOf : MethodName := ⟨RX7, "signOf", "(II)I"⟩
abbrev cX7_leadsTo : ByteArray := prog_9_method_38_code
def yX7_leadsTo : MethodName := ⟨RX7, "leadsTo", "(II)I"⟩
abbrev cX7_edgeAt : ByteArray := prog_9_method_39_code
def yX7_edgeAt : MethodName := ⟨RX7, "edgeAt", "(II)I"⟩
abbrev cX7_behind : ByteArray := prog_9_method_40_code
def yX7_behind : MethodName := ⟨RX7, "behind", "(II)I"⟩
abbrev cX7_layLines : ByteArray := prog_9_method_41_code
def yX7_layLines : MethodName := ⟨RX7, "layLines", "(I)V"⟩
abbrev cX7_crossings : ByteArray := prog_9_method_42_code
def yX7_crossings : MethodName := ⟨RX7, "crossings", "(II)I"⟩
abbrev cX7_isHeld : ByteArray := prog_9_method_43_code
def yX7_isHeld : MethodName := ⟨RX7, "isHeld", "(II)Z"⟩
abbrev cX7_isHeldLine : ByteArray := prog_9_method_44_code
def yX7_isHeldLine : MethodName := ⟨RX7, "isHeldLine", "(II)Z"⟩
abbrev cX7_depthOf : ByteArray := prog_9_method_45_code
def yX7_depthOf : MethodName := ⟨RX7, "depthOf", "(I)I"⟩
abbrev cX7_isOuter : ByteArray := prog_9_method_46_code
def yX7_isOuter : MethodName := ⟨RX7, "isOuter", "(I)Z"⟩
abbrev cX7_parentOf : ByteArray := prog_9_method_47_code
def yX7_parentOf : MethodName := ⟨RX7, "parentOf", "(I)I"⟩
abbrev cX7_lengthOf : ByteArray := prog_9_method_48_code
def yX7_lengthOf : MethodName := ⟨RX7, "lengthOf", "(I)I"⟩
abbrev cX7_across : ByteArray := prog_9_method_49_code
def yX7_across : MethodName := ⟨RX7, "across", "(I)I"⟩
abbrev cX7_down : ByteArray := prog_9_method_50_code
def yX7_down : MethodName := ⟨RX7, "down", "(I)I"⟩
abbrev cX7_areaOf : ByteArray := prog_9_method_51_code
def yX7_areaOf : MethodName := ⟨RX7, "areaOf", "(I)I"⟩
abbrev cX7_heldOf : ByteArray := prog_9_method_52_code
def yX7_heldOf : MethodName := ⟨RX7, "heldOf", "(I)I"⟩
abbrev cX7_outers : ByteArray := prog_9_method_53_code
def yX7_outers : MethodName := ⟨RX7, "outers", "()I"⟩
abbrev cX7_deepest : ByteArray := prog_9_method_54_code
def yX7_deepest : MethodName := ⟨RX7, "deepest", "()I"⟩
abbrev cX7_visit : ByteArray := prog_9_method_55_code
def yX7_visit : MethodName := ⟨RX7, "visit", "(III)V"⟩
abbrev cX7_squareOf : ByteArray := prog_9_method_56_code
def yX7_squareOf : MethodName := ⟨RX7, "squareOf", "(II)I"⟩
abbrev cX7_spreads : ByteArray := prog_9_method_57_code
def yX7_spreads : MethodName := ⟨RX7, "spreads", "(III)V"⟩
abbrev cX7_layLands : ByteArray := prog_9_method_58_code
def yX7_layLands : MethodName := ⟨RX7, "layLands", "(I)V"⟩
abbrev cX7_leastOf : ByteArray := prog_9_method_59_code
def yX7_leastOf : MethodName := ⟨RX7, "leastOf", "(I)I"⟩
abbrev cX7_sizeOf : ByteArray := prog_9_method_60_code
def yX7_sizeOf : MethodName := ⟨RX7, "sizeOf", "(I)I"⟩
abbrev cX7_topOf : ByteArray := prog_9_method_61_code
def yX7_topOf : MethodName := ⟨RX7, "topOf", "(I)I"⟩
abbrev cX7_landAt : ByteArray := prog_9_method_62_code
def yX7_landAt : MethodName := ⟨RX7, "landAt", "(I)I"⟩
abbrev cX7_isAtLand : ByteArray := prog_9_method_63_code
def yX7_isAtLand : MethodName := ⟨RX7, "isAtLand", "(II)Z"⟩
abbrev cX7_holesOf : ByteArray := prog_9_method_64_code
def yX7_holesOf : MethodName := ⟨RX7, "holesOf", "(I)I"⟩
abbrev cX7_above : ByteArray := prog_9_method_65_code
def yX7_above : MethodName := ⟨RX7, "above", "(II)I"⟩
abbrev cX7_volume : ByteArray := prog_9_method_66_code
def yX7_volume : MethodName := ⟨RX7, "volume", "(I)I"⟩
abbrev cX7_of : ByteArray := prog_9_method_67_code
def yX7_of : MethodName := ⟨RX7, "of", "(I)I"⟩
abbrev cX7_top : ByteArray := prog_9_method_68_code
def yX7_top : MethodName := ⟨RX7, "top", "()I"⟩
abbrev cX7_half : ByteArray := prog_9_method_69_code
def yX7_half : MethodName := ⟨RX7, "half", "()I"⟩
abbrev cX7_linesAt : ByteArray := prog_9_method_70_code
def yX7_linesAt : MethodName := ⟨RX7, "linesAt", "(I)I"⟩
abbrev cX7_busy : ByteArray := prog_9_method_71_code
def yX7_busy : MethodName := ⟨RX7, "busy", "()I"⟩
abbrev cX7_told : ByteArray := prog_9_method_72_code
def yX7_told : MethodName := ⟨RX7, "told", "(I)I"⟩
abbrev cX7_pointsIn : ByteArray := prog_9_method_73_code
def yX7_pointsIn : MethodName := ⟨RX7, "pointsIn", "(I)I"⟩
abbrev cX7_saddles : ByteArray := prog_9_method_74_code
def yX7_saddles : MethodName := ⟨RX7, "saddles", "(IZ)I"⟩
abbrev cX7_at : ByteArray := prog_9_method_75_code
def yX7_at : MethodName := ⟨RX7, "at", "(II)I"⟩
abbrev cX7_square : ByteArray := prog_9_method_76_code
def yX7_square : MethodName := ⟨RX7, "square", "(III)I"⟩
abbrev cX7_edge : ByteArray := prog_9_method_77_code
def yX7_edge : MethodName := ⟨RX7, "edge", "(II)I"⟩
abbrev cX7_asked : ByteArray := prog_9_method_78_code
def yX7_asked : MethodName := ⟨RX7, "asked", "(II)I"⟩
abbrev cX7_line : ByteArray := prog_9_method_79_code
def yX7_line : MethodName := ⟨RX7, "line", "(III)I"⟩
abbrev cX7_goes : ByteArray := prog_9_method_80_code
def yX7_goes : MethodName := ⟨RX7, "goes", "(III)I"⟩
abbrev cX7_holds : ByteArray := prog_9_method_81_code
def yX7_holds : MethodName := ⟨RX7, "holds", "(III)I"⟩
abbrev cX7_ways : ByteArray := prog_9_method_82_code
def yX7_ways : MethodName := ⟨RX7, "ways", "(III)I"⟩
abbrev cX7_picture : ByteArray := prog_9_method_83_code
def yX7_picture : MethodName := ⟨RX7, "picture", "(II)I"⟩
abbrev cX7_land : ByteArray := prog_9_method_84_code
def yX7_land : MethodName := ⟨RX7, "land", "(II)I"⟩
abbrev cX7_landOf : ByteArray := prog_9_method_85_code
def yX7_landOf : MethodName := ⟨RX7, "landOf", "(III)I"⟩
abbrev cX7_pass : ByteArray := prog_9_method_86_code
def yX7_pass : MethodName := ⟨RX7, "pass", "(II)I"⟩
abbrev cX7_isWithHigher : ByteArray := prog_9_method_87_code
def yX7_isWithHigher : MethodName := ⟨RX7, "isWithHigher", "(I)Z"⟩
abbrev cX7_stands : ByteArray := prog_9_method_88_code
def yX7_stands : MethodName := ⟨RX7, "stands", "(I)I"⟩
abbrev cX7_leavesOf : ByteArray := prog_9_method_89_code
def yX7_leavesOf : MethodName := ⟨RX7, "leavesOf", "(I)I"⟩
abbrev cX7_forksOf : ByteArray := prog_9_method_90_code
def yX7_forksOf : MethodName := ⟨RX7, "forksOf", "(I)I"⟩
abbrev cX7_tree : ByteArray := prog_9_method_91_code
def yX7_tree : MethodName := ⟨RX7, "tree", "(II)I"⟩
abbrev cX7_between : ByteArray := prog_9_method_92_code
def yX7_between : MethodName := ⟨RX7, "between", "(II)I"⟩
abbrev cX7_see : ByteArray := prog_9_method_93_code
def yX7_see : MethodName := ⟨RX7, "see", "(II)I"⟩
abbrev cX7_isSo : ByteArray := prog_9_method_94_code
def yX7_isSo : MethodName := ⟨RX7, "isSo", "(I)Z"⟩
abbrev cX7_fits : ByteArray := prog_9_method_95_code
def yX7_fits : MethodName := ⟨RX7, "fits", "(I)I"⟩
abbrev cX7_common : ByteArray := prog_9_method_96_code
def yX7_common : MethodName := ⟨RX7, "common", "(II)I"⟩
abbrev cX7_lowest : ByteArray := prog_9_method_97_code
def yX7_lowest : MethodName := ⟨RX7, "lowest", "(III)J"⟩
abbrev cX7_odds : ByteArray := prog_9_method_98_code
def yX7_odds : MethodName := ⟨RX7, "odds", "(II)J"⟩
abbrev cX7_mean : ByteArray := prog_9_method_99_code
def yX7_mean : MethodName := ⟨RX7, "mean", "(I)J"⟩
abbrev cX7_isNumber : ByteArray := prog_9_method_100_code
def yX7_isNumber : MethodName := ⟨RX7, "isNumber", "(II)Z"⟩
abbrev cX7_event : ByteArray := prog_9_method_101_code
def yX7_event : MethodName := ⟨RX7, "event", "(II)I"⟩
abbrev cX7_happens : ByteArray := prog_9_method_102_code
def yX7_happens : MethodName := ⟨RX7, "happens", "(II)V"⟩
abbrev cX7_after : ByteArray := prog_9_method_103_code
def yX7_after : MethodName := ⟨RX7, "after", "(II)I"⟩
abbrev cX7_book : ByteArray := prog_9_method_104_code
def yX7_book : MethodName := ⟨RX7, "book", "(II)I"⟩
abbrev cX7_looked : ByteArray := prog_9_method_105_code
def yX7_looked : MethodName := ⟨RX7, "looked", "()I"⟩
abbrev cX7_judge : ByteArray := prog_9_method_106_code
def yX7_judge : MethodName := ⟨RX7, "judge", "(II)I"⟩
abbrev cX7_together : ByteArray := prog_9_method_107_code
def yX7_together : MethodName := ⟨RX7, "together", "()I"⟩
abbrev cX7_rowsOf : ByteArray := prog_9_method_108_code
def yX7_rowsOf : MethodName := ⟨RX7, "rowsOf", "(I)[I"⟩
abbrev cX7_image : ByteArray := prog_9_method_109_code
def yX7_image : MethodName := ⟨RX7, "image", "()I"⟩
abbrev cX7_undo : ByteArray := prog_9_method_110_code
def yX7_undo : MethodName := ⟨RX7, "undo", "()I"⟩
abbrev cX7_count : ByteArray := prog_9_method_111_code
def yX7_count : MethodName := ⟨RX7, "count", "(I)I"⟩
abbrev cX7_isTape : ByteArray := prog_9_method_112_code
def yX7_isTape : MethodName := ⟨RX7, "isTape", "(I)Z"⟩
abbrev cX7_tape : ByteArray := prog_9_method_113_code
def yX7_tape : MethodName := ⟨RX7, "tape", "(III)I"⟩
abbrev cX7_asItem : ByteArray := prog_9_method_114_code
def yX7_asItem : MethodName := ⟨RX7, "asItem", "(IJ)J"⟩
abbrev cX7_item : ByteArray := prog_9_method_115_code
def yX7_item : MethodName := ⟨RX7, "item", "(IIJ)I"⟩
abbrev cX7_peek : ByteArray := prog_9_method_116_code
def yX7_peek : MethodName := ⟨RX7, "peek", "(II)J"⟩
abbrev cX7_isWithin : ByteArray := prog_9_method_117_code
def yX7_isWithin : MethodName := ⟨RX7, "isWithin", "(III)Z"⟩
abbrev cX7_shift : ByteArray := prog_9_method_118_code
def yX7_shift : MethodName := ⟨RX7, "shift", "(IIIII)I"⟩
def RJ13 : String := "java/lang/Long"
abbrev cJ13_bitCount_95d88 : ByteArray := prog_10_method_50_code
def yJ13_bitCount_95d88 : MethodName := ⟨RJ13, "bitCount", "(J)I"⟩
def RJ9 : String := "java/lang/Math"
abbrev cJ9_abs_0f7a4 : ByteArray := prog_11_method_59_code
def yJ9_abs_0f7a4 : MethodName := ⟨RJ9, "abs", "(I)I"⟩
abbrev cJ9_max_7cf53 : ByteArray := prog_11_method_65_code
def yJ9_max_7cf53 : MethodName := ⟨RJ9, "max", "(II)I"⟩
abbrev cJ9_min_7cf53 : ByteArray := prog_11_method_69_code
def yJ9_min_7cf53 : MethodName := ⟨RJ9, "min", "(II)I"⟩
def RJ0 : String := "java/lang/String"
abbrev cJ0_length_8abf5 : ByteArray := prog_12_method_54_code
def yJ0_length_8abf5 : MethodName := ⟨RJ0, "length", "()I"⟩
abbrev cJ0_isEmpty_aae02 : ByteArray := prog_12_method_55_code
def yJ0_isEmpty_aae02 : MethodName := ⟨RJ0, "isEmpty", "()Z"⟩
abbrev cJ0_charAt_5068e : ByteArray := prog_12_method_56_code
def yJ0_charAt_5068e : MethodName := ⟨RJ0, "charAt", "(I)C"⟩
abbrev cJ0_coder_7d493 : ByteArray := prog_12_method_152_code
def yJ0_coder_7d493 : MethodName := ⟨RJ0, "coder", "()B"⟩
abbrev cJ0_isLatin1_aae02 : ByteArray := prog_12_method_154_code
def yJ0_isLatin1_aae02 : MethodName := ⟨RJ0, "isLatin1", "()Z"⟩
abbrev cJ0_checkIndex_df160 : ByteArray := prog_12_method_155_code
def yJ0_checkIndex_df160 : MethodName := ⟨RJ0, "checkIndex", "(II)V"⟩
def RJ1 : String := "java/lang/StringLatin1"
abbrev cJ1_charAt_3b067 : ByteArray := prog_13_method_2_code
def yJ1_charAt_3b067 : MethodName := ⟨RJ1, "charAt", "([BI)C"⟩
def RJ2 : String := "java/lang/StringUTF16"
abbrev cJ2_getChar_3b067 : ByteArray := prog_14_method_5_code
def yJ2_getChar_3b067 : MethodName := ⟨RJ2, "getChar", "([BI)C"⟩
abbrev cJ2_length_9d52b : ByteArray := prog_14_method_6_code
def yJ2_length_9d52b : MethodName := ⟨RJ2, "length", "([B)I"⟩
abbrev cJ2_charAt_3b067 : ByteArray := prog_14_method_83_code
def yJ2_charAt_3b067 : MethodName := ⟨RJ2, "charAt", "([BI)C"⟩
abbrev cJ2_checkIndex_2214a : ByteArray := prog_14_method_91_code
def yJ2_checkIndex_2214a : MethodName := ⟨RJ2, "checkIndex", "(I[B)V"⟩
def RJ10 : String := "java/lang/System"
def RJ7 : String := "java/util/Arrays"
abbrev cJ7_fill_d0a16 : ByteArray := prog_16_method_101_code
def yJ7_fill_d0a16 : MethodName := ⟨RJ7, "fill", "([JJ)V"⟩
abbrev cJ7_fill_53178 : ByteArray := prog_16_method_103_code
def yJ7_fill_53178 : MethodName := ⟨RJ7, "fill", "([II)V"⟩
def RJ3 : String := "jdk/internal/util/Preconditions"
abbrev cJ3_checkIndex_8e157 : ByteArray := prog_17_method_11_code
def yJ3_checkIndex_8e157 : MethodName := ⟨RJ3, "checkIndex", "(IILjava/util/function/BiFunction;)I"⟩
def RL : String := "ContourTracerLaw"
abbrev cL_law : ByteArray := code
def yL_law : MethodName := ⟨RL, "law", "([I)Z"⟩
