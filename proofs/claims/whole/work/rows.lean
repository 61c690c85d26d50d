section
-- ===== PART A: goes FIRST, ahead of the names: the tables' words, and 'selects' of the private methods out of them =====
/-- a private method of a class that the tables say can be made, by its rows of tables_1 -/
def lw_okq (q : MethodName × Nat) : Prop := (q.1.cls ≠ "java/lang/invoke/MethodHandle" ∧ q.1.cls ≠ "java/lang/invoke/VarHandle") ∧ Cond.instantiable q.1.cls q.2 ∈ tables_1 ∧ Cond.privateMethod q.1 ∈ tables_1 ∧ Cond.instanceMethod q.1 ∈ tables_1
theorem lw_p0 : lw_okq (⟨"ContourTracer", "perform", "(I)Z"⟩, 17) := ⟨⟨by decide +kernel, by decide +kernel⟩, List.mem_of_getElem? (i := 18) (by decide +kernel), List.mem_of_getElem? (i := 425) (by decide +kernel), List.mem_of_getElem? (i := 426) (by decide +kernel)⟩
theorem lw_p1 : lw_okq (⟨"ContourTracer", "halfLevel", "()I"⟩, 17) := ⟨⟨by decide +kernel, by decide +kernel⟩, List.mem_of_getElem? (i := 18) (by decide +kernel), List.mem_of_getElem? (i := 477) (by decide +kernel), List.mem_of_getElem? (i := 478) (by decide +kernel)⟩
theorem lw_p2 : lw_okq (⟨"ContourTracer", "holesOf", "(II)I"⟩, 17) := ⟨⟨by decide +kernel, by decide +kernel⟩, List.mem_of_getElem? (i := 18) (by decide +kernel), List.mem_of_getElem? (i := 726) (by decide +kernel), List.mem_of_getElem? (i := 727) (by decide +kernel)⟩
theorem lw_p3 : lw_okq (⟨"ContourTracer", "tryEvents", "()V"⟩, 17) := ⟨⟨by decide +kernel, by decide +kernel⟩, List.mem_of_getElem? (i := 18) (by decide +kernel), List.mem_of_getElem? (i := 815) (by decide +kernel), List.mem_of_getElem? (i := 816) (by decide +kernel)⟩
theorem lw_p4 : lw_okq (⟨"ContourTracerModel", "isPoint", "(I)Z"⟩, 39) := ⟨⟨by decide +kernel, by decide +kernel⟩, List.mem_of_getElem? (i := 913) (by decide +kernel), List.mem_of_getElem? (i := 1053) (by decide +kernel), List.mem_of_getElem? (i := 1054) (by decide +kernel)⟩
theorem lw_p5 : lw_okq (⟨"ContourTracerModel", "points", "()I"⟩, 39) := ⟨⟨by decide +kernel, by decide +kernel⟩, List.mem_of_getElem? (i := 913) (by decide +kernel), List.mem_of_getElem? (i := 1057) (by decide +kernel), List.mem_of_getElem? (i := 1058) (by decide +kernel)⟩
theorem lw_p6 : lw_okq (⟨"ContourTracerModel", "takesAll", "()Z"⟩, 39) := ⟨⟨by decide +kernel, by decide +kernel⟩, List.mem_of_getElem? (i := 913) (by decide +kernel), List.mem_of_getElem? (i := 1073) (by decide +kernel), List.mem_of_getElem? (i := 1074) (by decide +kernel)⟩
theorem lw_p7 : lw_okq (⟨"ContourTracerModel", "takesClause", "()Z"⟩, 39) := ⟨⟨by decide +kernel, by decide +kernel⟩, List.mem_of_getElem? (i := 913) (by decide +kernel), List.mem_of_getElem? (i := 1077) (by decide +kernel), List.mem_of_getElem? (i := 1078) (by decide +kernel)⟩
theorem lw_p8 : lw_okq (⟨"ContourTracerModel", "takesWord", "()Z"⟩, 39) := ⟨⟨by decide +kernel, by decide +kernel⟩, List.mem_of_getElem? (i := 913) (by decide +kernel), List.mem_of_getElem? (i := 1081) (by decide +kernel), List.mem_of_getElem? (i := 1082) (by decide +kernel)⟩
theorem lw_p9 : lw_okq (⟨"ContourTracerModel", "isAt", "(C)Z"⟩, 39) := ⟨⟨by decide +kernel, by decide +kernel⟩, List.mem_of_getElem? (i := 913) (by decide +kernel), List.mem_of_getElem? (i := 1095) (by decide +kernel), List.mem_of_getElem? (i := 1096) (by decide +kernel)⟩
theorem lw_p10 : lw_okq (⟨"ContourTracerModel", "takesNumber", "(I)Z"⟩, 39) := ⟨⟨by decide +kernel, by decide +kernel⟩, List.mem_of_getElem? (i := 913) (by decide +kernel), List.mem_of_getElem? (i := 1103) (by decide +kernel), List.mem_of_getElem? (i := 1104) (by decide +kernel)⟩
theorem lw_p11 : lw_okq (⟨"ContourTracerModel", "isDigit", "()Z"⟩, 39) := ⟨⟨by decide +kernel, by decide +kernel⟩, List.mem_of_getElem? (i := 913) (by decide +kernel), List.mem_of_getElem? (i := 1107) (by decide +kernel), List.mem_of_getElem? (i := 1108) (by decide +kernel)⟩
theorem lw_p12 : lw_okq (⟨"ContourTracerModel", "done", "(I)I"⟩, 39) := ⟨⟨by decide +kernel, by decide +kernel⟩, List.mem_of_getElem? (i := 913) (by decide +kernel), List.mem_of_getElem? (i := 1111) (by decide +kernel), List.mem_of_getElem? (i := 1112) (by decide +kernel)⟩
theorem lw_p13 : lw_okq (⟨"ContourTracerModel", "fill", "(III)I"⟩, 39) := ⟨⟨by decide +kernel, by decide +kernel⟩, List.mem_of_getElem? (i := 913) (by decide +kernel), List.mem_of_getElem? (i := 1117) (by decide +kernel), List.mem_of_getElem? (i := 1118) (by decide +kernel)⟩
theorem lw_p14 : lw_okq (⟨"ContourTracerModel", "hill", "(III)I"⟩, 39) := ⟨⟨by decide +kernel, by decide +kernel⟩, List.mem_of_getElem? (i := 913) (by decide +kernel), List.mem_of_getElem? (i := 1121) (by decide +kernel), List.mem_of_getElem? (i := 1122) (by decide +kernel)⟩
theorem lw_p15 : lw_okq (⟨"ContourTracerModel", "turn", "()I"⟩, 39) := ⟨⟨by decide +kernel, by decide +kernel⟩, List.mem_of_getElem? (i := 913) (by decide +kernel), List.mem_of_getElem? (i := 1128) (by decide +kernel), List.mem_of_getElem? (i := 1129) (by decide +kernel)⟩
def lw_privs_1 : List (MethodName × Nat) := [(⟨"ContourTracer", "perform", "(I)Z"⟩, 17), (⟨"ContourTracer", "halfLevel", "()I"⟩, 17), (⟨"ContourTracer", "holesOf", "(II)I"⟩, 17), (⟨"ContourTracer", "tryEvents", "()V"⟩, 17), (⟨"ContourTracerModel", "isPoint", "(I)Z"⟩, 39), (⟨"ContourTracerModel", "points", "()I"⟩, 39), (⟨"ContourTracerModel", "takesAll", "()Z"⟩, 39), (⟨"ContourTracerModel", "takesClause", "()Z"⟩, 39), (⟨"ContourTracerModel", "takesWord", "()Z"⟩, 39), (⟨"ContourTracerModel", "isAt", "(C)Z"⟩, 39), (⟨"ContourTracerModel", "takesNumber", "(I)Z"⟩, 39), (⟨"ContourTracerModel", "isDigit", "()Z"⟩, 39), (⟨"ContourTracerModel", "done", "(I)I"⟩, 39), (⟨"ContourTracerModel", "fill", "(III)I"⟩, 39), (⟨"ContourTracerModel", "hill", "(III)I"⟩, 39), (⟨"ContourTracerModel", "turn", "()I"⟩, 39)]
theorem lw_r1 : ∀ q ∈ lw_privs_1, lw_okq q := List.forall_mem_cons.mpr ⟨lw_p0, List.forall_mem_cons.mpr ⟨lw_p1, List.forall_mem_cons.mpr ⟨lw_p2, List.forall_mem_cons.mpr ⟨lw_p3, List.forall_mem_cons.mpr ⟨lw_p4, List.forall_mem_cons.mpr ⟨lw_p5, List.forall_mem_cons.mpr ⟨lw_p6, List.forall_mem_cons.mpr ⟨lw_p7, List.forall_mem_cons.mpr ⟨lw_p8, List.forall_mem_cons.mpr ⟨lw_p9, List.forall_mem_cons.mpr ⟨lw_p10, List.forall_mem_cons.mpr ⟨lw_p11, List.forall_mem_cons.mpr ⟨lw_p12, List.forall_mem_cons.mpr ⟨lw_p13, List.forall_mem_cons.mpr ⟨lw_p14, List.forall_mem_cons.mpr ⟨lw_p15, fun _ h => absurd h List.not_mem_nil⟩⟩⟩⟩⟩⟩⟩⟩⟩⟩⟩⟩⟩⟩⟩⟩
theorem lw_p16 : lw_okq (⟨"ContourTracerModel", "top", "()I"⟩, 39) := ⟨⟨by decide +kernel, by decide +kernel⟩, List.mem_of_getElem? (i := 913) (by decide +kernel), List.mem_of_getElem? (i := 1140) (by decide +kernel), List.mem_of_getElem? (i := 1141) (by decide +kernel)⟩
theorem lw_p17 : lw_okq (⟨"ContourTracerModel", "half", "()I"⟩, 39) := ⟨⟨by decide +kernel, by decide +kernel⟩, List.mem_of_getElem? (i := 913) (by decide +kernel), List.mem_of_getElem? (i := 1144) (by decide +kernel), List.mem_of_getElem? (i := 1145) (by decide +kernel)⟩
theorem lw_p18 : lw_okq (⟨"ContourTracerModel", "volume", "(I)I"⟩, 39) := ⟨⟨by decide +kernel, by decide +kernel⟩, List.mem_of_getElem? (i := 913) (by decide +kernel), List.mem_of_getElem? (i := 1148) (by decide +kernel), List.mem_of_getElem? (i := 1149) (by decide +kernel)⟩
theorem lw_p19 : lw_okq (⟨"ContourTracerModel", "above", "(II)I"⟩, 39) := ⟨⟨by decide +kernel, by decide +kernel⟩, List.mem_of_getElem? (i := 913) (by decide +kernel), List.mem_of_getElem? (i := 1152) (by decide +kernel), List.mem_of_getElem? (i := 1153) (by decide +kernel)⟩
theorem lw_p20 : lw_okq (⟨"ContourTracerModel", "busy", "()I"⟩, 39) := ⟨⟨by decide +kernel, by decide +kernel⟩, List.mem_of_getElem? (i := 913) (by decide +kernel), List.mem_of_getElem? (i := 1156) (by decide +kernel), List.mem_of_getElem? (i := 1157) (by decide +kernel)⟩
theorem lw_p21 : lw_okq (⟨"ContourTracerModel", "linesAt", "(I)I"⟩, 39) := ⟨⟨by decide +kernel, by decide +kernel⟩, List.mem_of_getElem? (i := 913) (by decide +kernel), List.mem_of_getElem? (i := 1160) (by decide +kernel), List.mem_of_getElem? (i := 1161) (by decide +kernel)⟩
theorem lw_p22 : lw_okq (⟨"ContourTracerModel", "layLines", "(I)V"⟩, 39) := ⟨⟨by decide +kernel, by decide +kernel⟩, List.mem_of_getElem? (i := 913) (by decide +kernel), List.mem_of_getElem? (i := 1164) (by decide +kernel), List.mem_of_getElem? (i := 1165) (by decide +kernel)⟩
theorem lw_p23 : lw_okq (⟨"ContourTracerModel", "isEdge", "(I)Z"⟩, 39) := ⟨⟨by decide +kernel, by decide +kernel⟩, List.mem_of_getElem? (i := 913) (by decide +kernel), List.mem_of_getElem? (i := 1168) (by decide +kernel), List.mem_of_getElem? (i := 1169) (by decide +kernel)⟩
theorem lw_p24 : lw_okq (⟨"ContourTracerModel", "places", "()I"⟩, 39) := ⟨⟨by decide +kernel, by decide +kernel⟩, List.mem_of_getElem? (i := 913) (by decide +kernel), List.mem_of_getElem? (i := 1172) (by decide +kernel), List.mem_of_getElem? (i := 1173) (by decide +kernel)⟩
theorem lw_p25 : lw_okq (⟨"ContourTracerModel", "column", "(I)I"⟩, 39) := ⟨⟨by decide +kernel, by decide +kernel⟩, List.mem_of_getElem? (i := 913) (by decide +kernel), List.mem_of_getElem? (i := 1176) (by decide +kernel), List.mem_of_getElem? (i := 1177) (by decide +kernel)⟩
theorem lw_p26 : lw_okq (⟨"ContourTracerModel", "row", "(I)I"⟩, 39) := ⟨⟨by decide +kernel, by decide +kernel⟩, List.mem_of_getElem? (i := 913) (by decide +kernel), List.mem_of_getElem? (i := 1180) (by decide +kernel), List.mem_of_getElem? (i := 1181) (by decide +kernel)⟩
theorem lw_p27 : lw_okq (⟨"ContourTracerModel", "heightAt", "(I)I"⟩, 39) := ⟨⟨by decide +kernel, by decide +kernel⟩, List.mem_of_getElem? (i := 913) (by decide +kernel), List.mem_of_getElem? (i := 1184) (by decide +kernel), List.mem_of_getElem? (i := 1185) (by decide +kernel)⟩
theorem lw_p28 : lw_okq (⟨"ContourTracerModel", "otherOf", "(I)I"⟩, 39) := ⟨⟨by decide +kernel, by decide +kernel⟩, List.mem_of_getElem? (i := 913) (by decide +kernel), List.mem_of_getElem? (i := 1188) (by decide +kernel), List.mem_of_getElem? (i := 1189) (by decide +kernel)⟩
theorem lw_p29 : lw_okq (⟨"ContourTracerModel", "behind", "(II)I"⟩, 39) := ⟨⟨by decide +kernel, by decide +kernel⟩, List.mem_of_getElem? (i := 913) (by decide +kernel), List.mem_of_getElem? (i := 1192) (by decide +kernel), List.mem_of_getElem? (i := 1193) (by decide +kernel)⟩
theorem lw_p30 : lw_okq (⟨"ContourTracerModel", "leadsTo", "(II)I"⟩, 39) := ⟨⟨by decide +kernel, by decide +kernel⟩, List.mem_of_getElem? (i := 913) (by decide +kernel), List.mem_of_getElem? (i := 1196) (by decide +kernel), List.mem_of_getElem? (i := 1197) (by decide +kernel)⟩
theorem lw_p31 : lw_okq (⟨"ContourTracerModel", "isBack", "(II)Z"⟩, 39) := ⟨⟨by decide +kernel, by decide +kernel⟩, List.mem_of_getElem? (i := 913) (by decide +kernel), List.mem_of_getElem? (i := 1200) (by decide +kernel), List.mem_of_getElem? (i := 1201) (by decide +kernel)⟩
def lw_privs_2 : List (MethodName × Nat) := [(⟨"ContourTracerModel", "top", "()I"⟩, 39), (⟨"ContourTracerModel", "half", "()I"⟩, 39), (⟨"ContourTracerModel", "volume", "(I)I"⟩, 39), (⟨"ContourTracerModel", "above", "(II)I"⟩, 39), (⟨"ContourTracerModel", "busy", "()I"⟩, 39), (⟨"ContourTracerModel", "linesAt", "(I)I"⟩, 39), (⟨"ContourTracerModel", "layLines", "(I)V"⟩, 39), (⟨"ContourTracerModel", "isEdge", "(I)Z"⟩, 39), (⟨"ContourTracerModel", "places", "()I"⟩, 39), (⟨"ContourTracerModel", "column", "(I)I"⟩, 39), (⟨"ContourTracerModel", "row", "(I)I"⟩, 39), (⟨"ContourTracerModel", "heightAt", "(I)I"⟩, 39), (⟨"ContourTracerModel", "otherOf", "(I)I"⟩, 39), (⟨"ContourTracerModel", "behind", "(II)I"⟩, 39), (⟨"ContourTracerModel", "leadsTo", "(II)I"⟩, 39), (⟨"ContourTracerModel", "isBack", "(II)Z"⟩, 39)]
theorem lw_r2 : ∀ q ∈ lw_privs_2, lw_okq q := List.forall_mem_cons.mpr ⟨lw_p16, List.forall_mem_cons.mpr ⟨lw_p17, List.forall_mem_cons.mpr ⟨lw_p18, List.forall_mem_cons.mpr ⟨lw_p19, List.forall_mem_cons.mpr ⟨lw_p20, List.forall_mem_cons.mpr ⟨lw_p21, List.forall_mem_cons.mpr ⟨lw_p22, List.forall_mem_cons.mpr ⟨lw_p23, List.forall_mem_cons.mpr ⟨lw_p24, List.forall_mem_cons.mpr ⟨lw_p25, List.forall_mem_cons.mpr ⟨lw_p26, List.forall_mem_cons.mpr ⟨lw_p27, List.forall_mem_cons.mpr ⟨lw_p28, List.forall_mem_cons.mpr ⟨lw_p29, List.forall_mem_cons.mpr ⟨lw_p30, List.forall_mem_cons.mpr ⟨lw_p31, fun _ h => absurd h List.not_mem_nil⟩⟩⟩⟩⟩⟩⟩⟩⟩⟩⟩⟩⟩⟩⟩⟩
theorem lw_p32 : lw_okq (⟨"ContourTracerModel", "edgeAt", "(II)I"⟩, 39) := ⟨⟨by decide +kernel, by decide +kernel⟩, List.mem_of_getElem? (i := 913) (by decide +kernel), List.mem_of_getElem? (i := 1204) (by decide +kernel), List.mem_of_getElem? (i := 1205) (by decide +kernel)⟩
theorem lw_p33 : lw_okq (⟨"ContourTracerModel", "cornerOf", "(I)I"⟩, 39) := ⟨⟨by decide +kernel, by decide +kernel⟩, List.mem_of_getElem? (i := 913) (by decide +kernel), List.mem_of_getElem? (i := 1208) (by decide +kernel), List.mem_of_getElem? (i := 1209) (by decide +kernel)⟩
theorem lw_p34 : lw_okq (⟨"ContourTracerModel", "caseOf", "(II)I"⟩, 39) := ⟨⟨by decide +kernel, by decide +kernel⟩, List.mem_of_getElem? (i := 913) (by decide +kernel), List.mem_of_getElem? (i := 1212) (by decide +kernel), List.mem_of_getElem? (i := 1213) (by decide +kernel)⟩
theorem lw_p35 : lw_okq (⟨"ContourTracerModel", "cornerAt", "(II)I"⟩, 39) := ⟨⟨by decide +kernel, by decide +kernel⟩, List.mem_of_getElem? (i := 913) (by decide +kernel), List.mem_of_getElem? (i := 1216) (by decide +kernel), List.mem_of_getElem? (i := 1217) (by decide +kernel)⟩
theorem lw_p36 : lw_okq (⟨"ContourTracerModel", "isJoined", "(II)Z"⟩, 39) := ⟨⟨by decide +kernel, by decide +kernel⟩, List.mem_of_getElem? (i := 913) (by decide +kernel), List.mem_of_getElem? (i := 1223) (by decide +kernel), List.mem_of_getElem? (i := 1224) (by decide +kernel)⟩
theorem lw_p37 : lw_okq (⟨"ContourTracerModel", "layLands", "(I)V"⟩, 39) := ⟨⟨by decide +kernel, by decide +kernel⟩, List.mem_of_getElem? (i := 913) (by decide +kernel), List.mem_of_getElem? (i := 1234) (by decide +kernel), List.mem_of_getElem? (i := 1235) (by decide +kernel)⟩
theorem lw_p38 : lw_okq (⟨"ContourTracerModel", "visit", "(III)V"⟩, 39) := ⟨⟨by decide +kernel, by decide +kernel⟩, List.mem_of_getElem? (i := 913) (by decide +kernel), List.mem_of_getElem? (i := 1238) (by decide +kernel), List.mem_of_getElem? (i := 1239) (by decide +kernel)⟩
theorem lw_p39 : lw_okq (⟨"ContourTracerModel", "spreads", "(III)V"⟩, 39) := ⟨⟨by decide +kernel, by decide +kernel⟩, List.mem_of_getElem? (i := 913) (by decide +kernel), List.mem_of_getElem? (i := 1242) (by decide +kernel), List.mem_of_getElem? (i := 1243) (by decide +kernel)⟩
theorem lw_p40 : lw_okq (⟨"ContourTracerModel", "squareOf", "(II)I"⟩, 39) := ⟨⟨by decide +kernel, by decide +kernel⟩, List.mem_of_getElem? (i := 913) (by decide +kernel), List.mem_of_getElem? (i := 1247) (by decide +kernel), List.mem_of_getElem? (i := 1248) (by decide +kernel)⟩
theorem lw_p41 : lw_okq (⟨"ContourTracerModel", "outers", "()I"⟩, 39) := ⟨⟨by decide +kernel, by decide +kernel⟩, List.mem_of_getElem? (i := 913) (by decide +kernel), List.mem_of_getElem? (i := 1251) (by decide +kernel), List.mem_of_getElem? (i := 1252) (by decide +kernel)⟩
theorem lw_p42 : lw_okq (⟨"ContourTracerModel", "isOuter", "(I)Z"⟩, 39) := ⟨⟨by decide +kernel, by decide +kernel⟩, List.mem_of_getElem? (i := 913) (by decide +kernel), List.mem_of_getElem? (i := 1255) (by decide +kernel), List.mem_of_getElem? (i := 1256) (by decide +kernel)⟩
theorem lw_p43 : lw_okq (⟨"ContourTracerModel", "depthOf", "(I)I"⟩, 39) := ⟨⟨by decide +kernel, by decide +kernel⟩, List.mem_of_getElem? (i := 913) (by decide +kernel), List.mem_of_getElem? (i := 1259) (by decide +kernel), List.mem_of_getElem? (i := 1260) (by decide +kernel)⟩
theorem lw_p44 : lw_okq (⟨"ContourTracerModel", "isHeldLine", "(II)Z"⟩, 39) := ⟨⟨by decide +kernel, by decide +kernel⟩, List.mem_of_getElem? (i := 913) (by decide +kernel), List.mem_of_getElem? (i := 1263) (by decide +kernel), List.mem_of_getElem? (i := 1264) (by decide +kernel)⟩
theorem lw_p45 : lw_okq (⟨"ContourTracerModel", "isHeld", "(II)Z"⟩, 39) := ⟨⟨by decide +kernel, by decide +kernel⟩, List.mem_of_getElem? (i := 913) (by decide +kernel), List.mem_of_getElem? (i := 1267) (by decide +kernel), List.mem_of_getElem? (i := 1268) (by decide +kernel)⟩
theorem lw_p46 : lw_okq (⟨"ContourTracerModel", "crossings", "(II)I"⟩, 39) := ⟨⟨by decide +kernel, by decide +kernel⟩, List.mem_of_getElem? (i := 913) (by decide +kernel), List.mem_of_getElem? (i := 1271) (by decide +kernel), List.mem_of_getElem? (i := 1272) (by decide +kernel)⟩
theorem lw_p47 : lw_okq (⟨"ContourTracerModel", "pointsIn", "(I)I"⟩, 39) := ⟨⟨by decide +kernel, by decide +kernel⟩, List.mem_of_getElem? (i := 913) (by decide +kernel), List.mem_of_getElem? (i := 1275) (by decide +kernel), List.mem_of_getElem? (i := 1276) (by decide +kernel)⟩
def lw_privs_3 : List (MethodName × Nat) := [(⟨"ContourTracerModel", "edgeAt", "(II)I"⟩, 39), (⟨"ContourTracerModel", "cornerOf", "(I)I"⟩, 39), (⟨"ContourTracerModel", "caseOf", "(II)I"⟩, 39), (⟨"ContourTracerModel", "cornerAt", "(II)I"⟩, 39), (⟨"ContourTracerModel", "isJoined", "(II)Z"⟩, 39), (⟨"ContourTracerModel", "layLands", "(I)V"⟩, 39), (⟨"ContourTracerModel", "visit", "(III)V"⟩, 39), (⟨"ContourTracerModel", "spreads", "(III)V"⟩, 39), (⟨"ContourTracerModel", "squareOf", "(II)I"⟩, 39), (⟨"ContourTracerModel", "outers", "()I"⟩, 39), (⟨"ContourTracerModel", "isOuter", "(I)Z"⟩, 39), (⟨"ContourTracerModel", "depthOf", "(I)I"⟩, 39), (⟨"ContourTracerModel", "isHeldLine", "(II)Z"⟩, 39), (⟨"ContourTracerModel", "isHeld", "(II)Z"⟩, 39), (⟨"ContourTracerModel", "crossings", "(II)I"⟩, 39), (⟨"ContourTracerModel", "pointsIn", "(I)I"⟩, 39)]
theorem lw_r3 : ∀ q ∈ lw_privs_3, lw_okq q := List.forall_mem_cons.mpr ⟨lw_p32, List.forall_mem_cons.mpr ⟨lw_p33, List.forall_mem_cons.mpr ⟨lw_p34, List.forall_mem_cons.mpr ⟨lw_p35, List.forall_mem_cons.mpr ⟨lw_p36, List.forall_mem_cons.mpr ⟨lw_p37, List.forall_mem_cons.mpr ⟨lw_p38, List.forall_mem_cons.mpr ⟨lw_p39, List.forall_mem_cons.mpr ⟨lw_p40, List.forall_mem_cons.mpr ⟨lw_p41, List.forall_mem_cons.mpr ⟨lw_p42, List.forall_mem_cons.mpr ⟨lw_p43, List.forall_mem_cons.mpr ⟨lw_p44, List.forall_mem_cons.mpr ⟨lw_p45, List.forall_mem_cons.mpr ⟨lw_p46, List.forall_mem_cons.mpr ⟨lw_p47, fun _ h => absurd h List.not_mem_nil⟩⟩⟩⟩⟩⟩⟩⟩⟩⟩⟩⟩⟩⟩⟩⟩
theorem lw_p48 : lw_okq (⟨"ContourTracerModel", "saddles", "(IZ)I"⟩, 39) := ⟨⟨by decide +kernel, by decide +kernel⟩, List.mem_of_getElem? (i := 913) (by decide +kernel), List.mem_of_getElem? (i := 1279) (by decide +kernel), List.mem_of_getElem? (i := 1280) (by decide +kernel)⟩
theorem lw_p49 : lw_okq (⟨"ContourTracerModel", "squares", "()I"⟩, 39) := ⟨⟨by decide +kernel, by decide +kernel⟩, List.mem_of_getElem? (i := 913) (by decide +kernel), List.mem_of_getElem? (i := 1283) (by decide +kernel), List.mem_of_getElem? (i := 1284) (by decide +kernel)⟩
theorem lw_p50 : lw_okq (⟨"ContourTracerModel", "deepest", "()I"⟩, 39) := ⟨⟨by decide +kernel, by decide +kernel⟩, List.mem_of_getElem? (i := 913) (by decide +kernel), List.mem_of_getElem? (i := 1287) (by decide +kernel), List.mem_of_getElem? (i := 1288) (by decide +kernel)⟩
theorem lw_p51 : lw_okq (⟨"ContourTracerModel", "asked", "(II)I"⟩, 39) := ⟨⟨by decide +kernel, by decide +kernel⟩, List.mem_of_getElem? (i := 913) (by decide +kernel), List.mem_of_getElem? (i := 1303) (by decide +kernel), List.mem_of_getElem? (i := 1304) (by decide +kernel)⟩
theorem lw_p52 : lw_okq (⟨"ContourTracerModel", "lengthOf", "(I)I"⟩, 39) := ⟨⟨by decide +kernel, by decide +kernel⟩, List.mem_of_getElem? (i := 913) (by decide +kernel), List.mem_of_getElem? (i := 1307) (by decide +kernel), List.mem_of_getElem? (i := 1308) (by decide +kernel)⟩
theorem lw_p53 : lw_okq (⟨"ContourTracerModel", "parentOf", "(I)I"⟩, 39) := ⟨⟨by decide +kernel, by decide +kernel⟩, List.mem_of_getElem? (i := 913) (by decide +kernel), List.mem_of_getElem? (i := 1311) (by decide +kernel), List.mem_of_getElem? (i := 1312) (by decide +kernel)⟩
theorem lw_p54 : lw_okq (⟨"ContourTracerModel", "areaOf", "(I)I"⟩, 39) := ⟨⟨by decide +kernel, by decide +kernel⟩, List.mem_of_getElem? (i := 913) (by decide +kernel), List.mem_of_getElem? (i := 1315) (by decide +kernel), List.mem_of_getElem? (i := 1316) (by decide +kernel)⟩
theorem lw_p55 : lw_okq (⟨"ContourTracerModel", "across", "(I)I"⟩, 39) := ⟨⟨by decide +kernel, by decide +kernel⟩, List.mem_of_getElem? (i := 913) (by decide +kernel), List.mem_of_getElem? (i := 1319) (by decide +kernel), List.mem_of_getElem? (i := 1320) (by decide +kernel)⟩
theorem lw_p56 : lw_okq (⟨"ContourTracerModel", "down", "(I)I"⟩, 39) := ⟨⟨by decide +kernel, by decide +kernel⟩, List.mem_of_getElem? (i := 913) (by decide +kernel), List.mem_of_getElem? (i := 1323) (by decide +kernel), List.mem_of_getElem? (i := 1324) (by decide +kernel)⟩
theorem lw_p57 : lw_okq (⟨"ContourTracerModel", "heldOf", "(I)I"⟩, 39) := ⟨⟨by decide +kernel, by decide +kernel⟩, List.mem_of_getElem? (i := 913) (by decide +kernel), List.mem_of_getElem? (i := 1327) (by decide +kernel), List.mem_of_getElem? (i := 1328) (by decide +kernel)⟩
theorem lw_p58 : lw_okq (⟨"ContourTracerModel", "placeOf", "(I)I"⟩, 39) := ⟨⟨by decide +kernel, by decide +kernel⟩, List.mem_of_getElem? (i := 913) (by decide +kernel), List.mem_of_getElem? (i := 1331) (by decide +kernel), List.mem_of_getElem? (i := 1332) (by decide +kernel)⟩
theorem lw_p59 : lw_okq (⟨"ContourTracerModel", "signOf", "(II)I"⟩, 39) := ⟨⟨by decide +kernel, by decide +kernel⟩, List.mem_of_getElem? (i := 913) (by decide +kernel), List.mem_of_getElem? (i := 1347) (by decide +kernel), List.mem_of_getElem? (i := 1348) (by decide +kernel)⟩
theorem lw_p60 : lw_okq (⟨"ContourTracerModel", "leastOf", "(I)I"⟩, 39) := ⟨⟨by decide +kernel, by decide +kernel⟩, List.mem_of_getElem? (i := 913) (by decide +kernel), List.mem_of_getElem? (i := 1363) (by decide +kernel), List.mem_of_getElem? (i := 1364) (by decide +kernel)⟩
theorem lw_p61 : lw_okq (⟨"ContourTracerModel", "sizeOf", "(I)I"⟩, 39) := ⟨⟨by decide +kernel, by decide +kernel⟩, List.mem_of_getElem? (i := 913) (by decide +kernel), List.mem_of_getElem? (i := 1367) (by decide +kernel), List.mem_of_getElem? (i := 1368) (by decide +kernel)⟩
theorem lw_p62 : lw_okq (⟨"ContourTracerModel", "topOf", "(I)I"⟩, 39) := ⟨⟨by decide +kernel, by decide +kernel⟩, List.mem_of_getElem? (i := 913) (by decide +kernel), List.mem_of_getElem? (i := 1371) (by decide +kernel), List.mem_of_getElem? (i := 1372) (by decide +kernel)⟩
theorem lw_p63 : lw_okq (⟨"ContourTracerModel", "holesOf", "(I)I"⟩, 39) := ⟨⟨by decide +kernel, by decide +kernel⟩, List.mem_of_getElem? (i := 913) (by decide +kernel), List.mem_of_getElem? (i := 1375) (by decide +kernel), List.mem_of_getElem? (i := 1376) (by decide +kernel)⟩
def lw_privs_4 : List (MethodName × Nat) := [(⟨"ContourTracerModel", "saddles", "(IZ)I"⟩, 39), (⟨"ContourTracerModel", "squares", "()I"⟩, 39), (⟨"ContourTracerModel", "deepest", "()I"⟩, 39), (⟨"ContourTracerModel", "asked", "(II)I"⟩, 39), (⟨"ContourTracerModel", "lengthOf", "(I)I"⟩, 39), (⟨"ContourTracerModel", "parentOf", "(I)I"⟩, 39), (⟨"ContourTracerModel", "areaOf", "(I)I"⟩, 39), (⟨"ContourTracerModel", "across", "(I)I"⟩, 39), (⟨"ContourTracerModel", "down", "(I)I"⟩, 39), (⟨"ContourTracerModel", "heldOf", "(I)I"⟩, 39), (⟨"ContourTracerModel", "placeOf", "(I)I"⟩, 39), (⟨"ContourTracerModel", "signOf", "(II)I"⟩, 39), (⟨"ContourTracerModel", "leastOf", "(I)I"⟩, 39), (⟨"ContourTracerModel", "sizeOf", "(I)I"⟩, 39), (⟨"ContourTracerModel", "topOf", "(I)I"⟩, 39), (⟨"ContourTracerModel", "holesOf", "(I)I"⟩, 39)]
theorem lw_r4 : ∀ q ∈ lw_privs_4, lw_okq q := List.forall_mem_cons.mpr ⟨lw_p48, List.forall_mem_cons.mpr ⟨lw_p49, List.forall_mem_cons.mpr ⟨lw_p50, List.forall_mem_cons.mpr ⟨lw_p51, List.forall_mem_cons.mpr ⟨lw_p52, List.forall_mem_cons.mpr ⟨lw_p53, List.forall_mem_cons.mpr ⟨lw_p54, List.forall_mem_cons.mpr ⟨lw_p55, List.forall_mem_cons.mpr ⟨lw_p56, List.forall_mem_cons.mpr ⟨lw_p57, List.forall_mem_cons.mpr ⟨lw_p58, List.forall_mem_cons.mpr ⟨lw_p59, List.forall_mem_cons.mpr ⟨lw_p60, List.forall_mem_cons.mpr ⟨lw_p61, List.forall_mem_cons.mpr ⟨lw_p62, List.forall_mem_cons.mpr ⟨lw_p63, fun _ h => absurd h List.not_mem_nil⟩⟩⟩⟩⟩⟩⟩⟩⟩⟩⟩⟩⟩⟩⟩⟩
theorem lw_p64 : lw_okq (⟨"ContourTracerModel", "isAtLand", "(II)Z"⟩, 39) := ⟨⟨by decide +kernel, by decide +kernel⟩, List.mem_of_getElem? (i := 913) (by decide +kernel), List.mem_of_getElem? (i := 1379) (by decide +kernel), List.mem_of_getElem? (i := 1380) (by decide +kernel)⟩
theorem lw_p65 : lw_okq (⟨"ContourTracerModel", "landAt", "(I)I"⟩, 39) := ⟨⟨by decide +kernel, by decide +kernel⟩, List.mem_of_getElem? (i := 913) (by decide +kernel), List.mem_of_getElem? (i := 1383) (by decide +kernel), List.mem_of_getElem? (i := 1384) (by decide +kernel)⟩
theorem lw_p66 : lw_okq (⟨"ContourTracerModel", "isWithHigher", "(I)Z"⟩, 39) := ⟨⟨by decide +kernel, by decide +kernel⟩, List.mem_of_getElem? (i := 913) (by decide +kernel), List.mem_of_getElem? (i := 1395) (by decide +kernel), List.mem_of_getElem? (i := 1396) (by decide +kernel)⟩
theorem lw_p67 : lw_okq (⟨"ContourTracerModel", "leavesOf", "(I)I"⟩, 39) := ⟨⟨by decide +kernel, by decide +kernel⟩, List.mem_of_getElem? (i := 913) (by decide +kernel), List.mem_of_getElem? (i := 1403) (by decide +kernel), List.mem_of_getElem? (i := 1404) (by decide +kernel)⟩
theorem lw_p68 : lw_okq (⟨"ContourTracerModel", "forksOf", "(I)I"⟩, 39) := ⟨⟨by decide +kernel, by decide +kernel⟩, List.mem_of_getElem? (i := 913) (by decide +kernel), List.mem_of_getElem? (i := 1407) (by decide +kernel), List.mem_of_getElem? (i := 1408) (by decide +kernel)⟩
theorem lw_p69 : lw_okq (⟨"ContourTracerModel", "isSo", "(I)Z"⟩, 39) := ⟨⟨by decide +kernel, by decide +kernel⟩, List.mem_of_getElem? (i := 913) (by decide +kernel), List.mem_of_getElem? (i := 1424) (by decide +kernel), List.mem_of_getElem? (i := 1425) (by decide +kernel)⟩
theorem lw_p70 : lw_okq (⟨"ContourTracerModel", "happens", "(II)V"⟩, 39) := ⟨⟨by decide +kernel, by decide +kernel⟩, List.mem_of_getElem? (i := 913) (by decide +kernel), List.mem_of_getElem? (i := 1454) (by decide +kernel), List.mem_of_getElem? (i := 1455) (by decide +kernel)⟩
theorem lw_p71 : lw_okq (⟨"ContourTracerModel", "rowsOf", "(I)[I"⟩, 39) := ⟨⟨by decide +kernel, by decide +kernel⟩, List.mem_of_getElem? (i := 913) (by decide +kernel), List.mem_of_getElem? (i := 1477) (by decide +kernel), List.mem_of_getElem? (i := 1478) (by decide +kernel)⟩
theorem lw_p72 : lw_okq (⟨"ContourTracerModel", "together", "()I"⟩, 39) := ⟨⟨by decide +kernel, by decide +kernel⟩, List.mem_of_getElem? (i := 913) (by decide +kernel), List.mem_of_getElem? (i := 1481) (by decide +kernel), List.mem_of_getElem? (i := 1482) (by decide +kernel)⟩
theorem lw_p73 : lw_okq (⟨"ContourTracerModel", "isWithin", "(III)Z"⟩, 39) := ⟨⟨by decide +kernel, by decide +kernel⟩, List.mem_of_getElem? (i := 913) (by decide +kernel), List.mem_of_getElem? (i := 1512) (by decide +kernel), List.mem_of_getElem? (i := 1513) (by decide +kernel)⟩
def lw_privs_5 : List (MethodName × Nat) := [(⟨"ContourTracerModel", "isAtLand", "(II)Z"⟩, 39), (⟨"ContourTracerModel", "landAt", "(I)I"⟩, 39), (⟨"ContourTracerModel", "isWithHigher", "(I)Z"⟩, 39), (⟨"ContourTracerModel", "leavesOf", "(I)I"⟩, 39), (⟨"ContourTracerModel", "forksOf", "(I)I"⟩, 39), (⟨"ContourTracerModel", "isSo", "(I)Z"⟩, 39), (⟨"ContourTracerModel", "happens", "(II)V"⟩, 39), (⟨"ContourTracerModel", "rowsOf", "(I)[I"⟩, 39), (⟨"ContourTracerModel", "together", "()I"⟩, 39), (⟨"ContourTracerModel", "isWithin", "(III)Z"⟩, 39)]
theorem lw_r5 : ∀ q ∈ lw_privs_5, lw_okq q := List.forall_mem_cons.mpr ⟨lw_p64, List.forall_mem_cons.mpr ⟨lw_p65, List.forall_mem_cons.mpr ⟨lw_p66, List.forall_mem_cons.mpr ⟨lw_p67, List.forall_mem_cons.mpr ⟨lw_p68, List.forall_mem_cons.mpr ⟨lw_p69, List.forall_mem_cons.mpr ⟨lw_p70, List.forall_mem_cons.mpr ⟨lw_p71, List.forall_mem_cons.mpr ⟨lw_p72, List.forall_mem_cons.mpr ⟨lw_p73, fun _ h => absurd h List.not_mem_nil⟩⟩⟩⟩⟩⟩⟩⟩⟩⟩
def lw_privs : List (MethodName × Nat) := lw_privs_1 ++ (lw_privs_2 ++ (lw_privs_3 ++ (lw_privs_4 ++ (lw_privs_5))))
def lw_tbl : List Cond := k2_sels lw_privs ++ tables_1
theorem lw_privs_ok : ∀ q ∈ lw_privs, lw_okq q := by
  show ∀ q ∈ lw_privs_1 ++ (lw_privs_2 ++ (lw_privs_3 ++ (lw_privs_4 ++ (lw_privs_5)))), lw_okq q
  exact List.forall_mem_append.mpr ⟨lw_r1, List.forall_mem_append.mpr ⟨lw_r2, List.forall_mem_append.mpr ⟨lw_r3, List.forall_mem_append.mpr ⟨lw_r4, lw_r5⟩⟩⟩⟩
def RX0 : String := "ContourTracer$Ground"
def TX0 : u_T := fun k => match k with
  | 0 => ("ContourTracer$Ground", "heights", "[I", true)
  | 1 => ("ContourTracer$Ground", "high", "I", false)
  | 2 => ("ContourTracer$Ground", "wide", "I", false)
  | 3 => ("ContourTracer$Ground", "stride", "I", false)
  | 4 => ("ContourTracer$Ground", "places", "I", false)
  | 5 => ("ContourTracer$Ground", "kind", "I", false)
  | _ => ("ContourTracer$Ground", "changes", "I", false)
def tyX0 : Nat → FieldType := fun k => match k with
  | 0 => .array .int
  | 1 => .int
  | 2 => .int
  | 3 => .int
  | 4 => .int
  | 5 => .int
  | _ => .int
abbrev wsX00 : List Cond := u_ws RX0 TX0 7
theorem nmX0 : ∀ a, a < 7 → ∀ b, b < 7 → a ≠ b → (TX0 a).2.1 ≠ (TX0 b).2.1 := by decide +kernel
theorem tyX0_ok : ∀ k, k < 7 → parseFieldDescriptor (TX0 k).2.2.1 = some (tyX0 k) := by decide +kernel
abbrev cX0_init : ByteArray := prog_2_method_1_code
def yX0_init : MethodName := ⟨RX0, "<init>", "()V"⟩
abbrev cX0_isSize : ByteArray := prog_2_method_2_code
def yX0_isSize : MethodName := ⟨RX0, "isSize", "(I)Z"⟩
abbrev cX0_layOut : ByteArray := prog_2_method_3_code
def yX0_layOut : MethodName := ⟨RX0, "layOut", "(II)V"⟩
abbrev cX0_copyFrom : ByteArray := prog_2_method_4_code
def yX0_copyFrom : MethodName := ⟨RX0, "copyFrom", "(LContourTracer$Ground;)V"⟩
abbrev cX0_putKind : ByteArray := prog_2_method_5_code
def yX0_putKind : MethodName := ⟨RX0, "putKind", "(I)V"⟩
abbrev cX0_putHeight : ByteArray := prog_2_method_6_code
def yX0_putHeight : MethodName := ⟨RX0, "putHeight", "(II)V"⟩
abbrev cX0_points : ByteArray := prog_2_method_7_code
def yX0_points : MethodName := ⟨RX0, "points", "()I"⟩
abbrev cX0_isPoint : ByteArray := prog_2_method_8_code
def yX0_isPoint : MethodName := ⟨RX0, "isPoint", "(I)Z"⟩
abbrev cX0_placeOf : ByteArray := prog_2_method_9_code
def yX0_placeOf : MethodName := ⟨RX0, "placeOf", "(I)I"⟩
abbrev cX0_pointOf : ByteArray := prog_2_method_10_code
def yX0_pointOf : MethodName := ⟨RX0, "pointOf", "(I)I"⟩
abbrev cX0_heightOf : ByteArray := prog_2_method_11_code
def yX0_heightOf : MethodName := ⟨RX0, "heightOf", "(I)I"⟩
abbrev cX0_greatest : ByteArray := prog_2_method_12_code
def yX0_greatest : MethodName := ⟨RX0, "greatest", "()I"⟩
abbrev cX0_firstOf : ByteArray := prog_2_method_13_code
def yX0_firstOf : MethodName := ⟨RX0, "firstOf", "(I)I"⟩
abbrev cX0_together : ByteArray := prog_2_method_14_code
def yX0_together : MethodName := ⟨RX0, "together", "()I"⟩
abbrev cX0_pointsIn : ByteArray := prog_2_method_15_code
def yX0_pointsIn : MethodName := ⟨RX0, "pointsIn", "(I)I"⟩
abbrev cX0_turnOver : ByteArray := prog_2_method_16_code
def yX0_turnOver : MethodName := ⟨RX0, "turnOver", "()V"⟩
abbrev cX0_lowerAll : ByteArray := prog_2_method_17_code
def yX0_lowerAll : MethodName := ⟨RX0, "lowerAll", "(I)V"⟩
abbrev cX0_fillUp : ByteArray := prog_2_method_18_code
def yX0_fillUp : MethodName := ⟨RX0, "fillUp", "(III)Z"⟩
abbrev cX0_heapUp : ByteArray := prog_2_method_19_code
def yX0_heapUp : MethodName := ⟨RX0, "heapUp", "(III)Z"⟩
abbrev cX0_isEdge : ByteArray := prog_2_method_20_code
def yX0_isEdge : MethodName := ⟨RX0, "isEdge", "(I)Z"⟩
abbrev cX0_isSquare : ByteArray := prog_2_method_21_code
def yX0_isSquare : MethodName := ⟨RX0, "isSquare", "(I)Z"⟩
abbrev cX0_cornerOf : ByteArray := prog_2_method_22_code
def yX0_cornerOf : MethodName := ⟨RX0, "cornerOf", "(I)I"⟩
abbrev cX0_caseOf : ByteArray := prog_2_method_23_code
def yX0_caseOf : MethodName := ⟨RX0, "caseOf", "(II)I"⟩
abbrev cX0_isSaddle : ByteArray := prog_2_method_24_code
def yX0_isSaddle : MethodName := ⟨RX0, "isSaddle", "(I)Z"⟩
abbrev cX0_isJoined : ByteArray := prog_2_method_25_code
def yX0_isJoined : MethodName := ⟨RX0, "isJoined", "(II)Z"⟩
abbrev cX0_isJoinedSaddle : ByteArray := prog_2_method_26_code
def yX0_isJoinedSaddle : MethodName := ⟨RX0, "isJoinedSaddle", "(II)Z"⟩
abbrev cX0_saddles : ByteArray := prog_2_method_27_code
def yX0_saddles : MethodName := ⟨RX0, "saddles", "(IZ)I"⟩
abbrev cX0_volume : ByteArray := prog_2_method_28_code
def yX0_volume : MethodName := ⟨RX0, "volume", "(I)I"⟩
abbrev cX0_isLikeBelow : ByteArray := prog_2_method_29_code
def yX0_isLikeBelow : MethodName := ⟨RX0, "isLikeBelow", "(I)Z"⟩
def RX1 : String := "ContourTracer$Lands"
def TX1 : u_T := fun k => match k with
  | 0 => ("ContourTracer$Lands", "ground", "LContourTracer$Ground;", true)
  | 1 => ("ContourTracer$Lands", "roots", "[I", true)
  | 2 => ("ContourTracer$Lands", "landAt", "[I", true)
  | 3 => ("ContourTracer$Lands", "leastPlaces", "[I", true)
  | 4 => ("ContourTracer$Lands", "sizes", "[I", true)
  | 5 => ("ContourTracer$Lands", "tops", "[I", true)
  | 6 => ("ContourTracer$Lands", "children", "[I", true)
  | 7 => ("ContourTracer$Lands", "found", "I", false)
  | 8 => ("ContourTracer$Lands", "level", "I", false)
  | _ => ("ContourTracer$Lands", "changesFound", "I", false)
def tyX1 : Nat → FieldType := fun k => match k with
  | 0 => .object "ContourTracer$Ground"
  | 1 => .array .int
  | 2 => .array .int
  | 3 => .array .int
  | 4 => .array .int
  | 5 => .array .int
  | 6 => .array .int
  | 7 => .int
  | 8 => .int
  | _ => .int
abbrev wsX10 : List Cond := u_ws RX1 TX1 10
theorem nmX1 : ∀ a, a < 10 → ∀ b, b < 10 → a ≠ b → (TX1 a).2.1 ≠ (TX1 b).2.1 := by decide +kernel
theorem tyX1_ok : ∀ k, k < 10 → parseFieldDescriptor (TX1 k).2.2.1 = some (tyX1 k) := by decide +kernel
abbrev cX1_init : ByteArray := prog_3_method_1_code
def yX1_init : MethodName := ⟨RX1, "<init>", "(LContourTracer$Ground;)V"⟩
abbrev cX1_find : ByteArray := prog_3_method_2_code
def yX1_find : MethodName := ⟨RX1, "find", "(I)V"⟩
abbrev cX1_isIn : ByteArray := prog_3_method_3_code
def yX1_isIn : MethodName := ⟨RX1, "isIn", "(I)Z"⟩
abbrev cX1_hangTogether : ByteArray := prog_3_method_4_code
def yX1_hangTogether : MethodName := ⟨RX1, "hangTogether", "(I)V"⟩
abbrev cX1_unite : ByteArray := prog_3_method_5_code
def yX1_unite : MethodName := ⟨RX1, "unite", "(II)V"⟩
abbrev cX1_rootOf : ByteArray := prog_3_method_6_code
def yX1_rootOf : MethodName := ⟨RX1, "rootOf", "(I)I"⟩
abbrev cX1_numberLands : ByteArray := prog_3_method_7_code
def yX1_numberLands : MethodName := ⟨RX1, "numberLands", "()V"⟩
abbrev cX1_clearChildren : ByteArray := prog_3_method_8_code
def yX1_clearChildren : MethodName := ⟨RX1, "clearChildren", "()V"⟩
abbrev cX1_addChild : ByteArray := prog_3_method_9_code
def yX1_addChild : MethodName := ⟨RX1, "addChild", "(I)V"⟩
abbrev cX1_leaves : ByteArray := prog_3_method_10_code
def yX1_leaves : MethodName := ⟨RX1, "leaves", "()I"⟩
abbrev cX1_forks : ByteArray := prog_3_method_11_code
def yX1_forks : MethodName := ⟨RX1, "forks", "()I"⟩
def RX2 : String := "ContourTracer$Lines"
def TX2 : u_T := fun k => match k with
  | 0 => ("ContourTracer$Lines", "ground", "LContourTracer$Ground;", true)
  | 1 => ("ContourTracer$Lines", "lineOver", "[I", true)
  | 2 => ("ContourTracer$Lines", "edges", "[I", true)
  | 3 => ("ContourTracer$Lines", "begins", "[I", true)
  | 4 => ("ContourTracer$Lines", "counts", "[I", true)
  | 5 => ("ContourTracer$Lines", "found", "I", false)
  | 6 => ("ContourTracer$Lines", "level", "I", false)
  | 7 => ("ContourTracer$Lines", "changesTraced", "I", false)
  | _ => ("ContourTracer$Lines", "changesCounted", "I", false)
def tyX2 : Nat → FieldType := fun k => match k with
  | 0 => .object "ContourTracer$Ground"
  | 1 => .array .int
  | 2 => .array .int
  | 3 => .array .int
  | 4 => .array .int
  | 5 => .int
  | 6 => .int
  | 7 => .int
  | _ => .int
abbrev wsX20 : List Cond := u_ws RX2 TX2 9
theorem nmX2 : ∀ a, a < 9 → ∀ b, b < 9 → a ≠ b → (TX2 a).2.1 ≠ (TX2 b).2.1 := by decide +kernel
theorem tyX2_ok : ∀ k, k < 9 → parseFieldDescriptor (TX2 k).2.2.1 = some (tyX2 k) := by decide +kernel
abbrev cX2_init : ByteArray := prog_4_method_1_code
def yX2_init : MethodName := ⟨RX2, "<init>", "(LContourTracer$Ground;)V"⟩
abbrev cX2_trace : ByteArray := prog_4_method_2_code
def yX2_trace : MethodName := ⟨RX2, "trace", "(I)V"⟩
abbrev cX2_isIn : ByteArray := prog_4_method_3_code
def yX2_isIn : MethodName := ⟨RX2, "isIn", "(I)Z"⟩
abbrev cX2_follow : ByteArray := prog_4_method_4_code
def yX2_follow : MethodName := ⟨RX2, "follow", "(I)V"⟩
abbrev cX2_nextOf : ByteArray := prog_4_method_5_code
def yX2_nextOf : MethodName := ⟨RX2, "nextOf", "(I)I"⟩
abbrev cX2_wayOver : ByteArray := prog_4_method_6_code
def yX2_wayOver : MethodName := ⟨RX2, "wayOver", "(I)I"⟩
abbrev cX2_leave : ByteArray := prog_4_method_7_code
def yX2_leave : MethodName := ⟨RX2, "leave", "(II)I"⟩
abbrev cX2_sideOf : ByteArray := prog_4_method_8_code
def yX2_sideOf : MethodName := ⟨RX2, "sideOf", "(II)I"⟩
abbrev cX2_isLine : ByteArray := prog_4_method_9_code
def yX2_isLine : MethodName := ⟨RX2, "isLine", "(I)Z"⟩
abbrev cX2_lengthOf : ByteArray := prog_4_method_10_code
def yX2_lengthOf : MethodName := ⟨RX2, "lengthOf", "(I)I"⟩
abbrev cX2_edgeOf : ByteArray := prog_4_method_11_code
def yX2_edgeOf : MethodName := ⟨RX2, "edgeOf", "(II)I"⟩
abbrev cX2_leastEdge : ByteArray := prog_4_method_12_code
def yX2_leastEdge : MethodName := ⟨RX2, "leastEdge", "(I)I"⟩
abbrev cX2_innerPlace : ByteArray := prog_4_method_13_code
def yX2_innerPlace : MethodName := ⟨RX2, "innerPlace", "(I)I"⟩
abbrev cX2_holdersOf : ByteArray := prog_4_method_14_code
def yX2_holdersOf : MethodName := ⟨RX2, "holdersOf", "(I)J"⟩
abbrev cX2_isHeld : ByteArray := prog_4_method_15_code
def yX2_isHeld : MethodName := ⟨RX2, "isHeld", "(II)Z"⟩
abbrev cX2_holdersOfLine : ByteArray := prog_4_method_16_code
def yX2_holdersOfLine : MethodName := ⟨RX2, "holdersOfLine", "(I)J"⟩
abbrev cX2_depthOf : ByteArray := prog_4_method_17_code
def yX2_depthOf : MethodName := ⟨RX2, "depthOf", "(I)I"⟩
abbrev cX2_isOuter : ByteArray := prog_4_method_18_code
def yX2_isOuter : MethodName := ⟨RX2, "isOuter", "(I)Z"⟩
abbrev cX2_parentOf : ByteArray := prog_4_method_19_code
def yX2_parentOf : MethodName := ⟨RX2, "parentOf", "(I)I"⟩
abbrev cX2_areaOf : ByteArray := prog_4_method_20_code
def yX2_areaOf : MethodName := ⟨RX2, "areaOf", "(I)I"⟩
abbrev cX2_acrossOf : ByteArray := prog_4_method_21_code
def yX2_acrossOf : MethodName := ⟨RX2, "acrossOf", "(I)I"⟩
abbrev cX2_downOf : ByteArray := prog_4_method_22_code
def yX2_downOf : MethodName := ⟨RX2, "downOf", "(I)I"⟩
abbrev cX2_pointsHeld : ByteArray := prog_4_method_23_code
def yX2_pointsHeld : MethodName := ⟨RX2, "pointsHeld", "(I)I"⟩
abbrev cX2_outerOnes : ByteArray := prog_4_method_24_code
def yX2_outerOnes : MethodName := ⟨RX2, "outerOnes", "()I"⟩
abbrev cX2_greatestDepth : ByteArray := prog_4_method_25_code
def yX2_greatestDepth : MethodName := ⟨RX2, "greatestDepth", "()I"⟩
abbrev cX2_countLevels : ByteArray := prog_4_method_26_code
def yX2_countLevels : MethodName := ⟨RX2, "countLevels", "()V"⟩
abbrev cX2_busiest : ByteArray := prog_4_method_27_code
def yX2_busiest : MethodName := ⟨RX2, "busiest", "()I"⟩
def RX3 : String := "ContourTracer$Rows"
def TX3 : u_T := fun k => match k with
  | 0 => ("ContourTracer$Rows", "firsts", "[I", true)
  | 1 => ("ContourTracer$Rows", "seconds", "[I", true)
  | _ => ("ContourTracer$Rows", "used", "I", false)
def tyX3 : Nat → FieldType := fun k => match k with
  | 0 => .array .int
  | 1 => .array .int
  | _ => .int
abbrev wsX30 : List Cond := u_ws RX3 TX3 3
theorem nmX3 : ∀ a, a < 3 → ∀ b, b < 3 → a ≠ b → (TX3 a).2.1 ≠ (TX3 b).2.1 := by decide +kernel
theorem tyX3_ok : ∀ k, k < 3 → parseFieldDescriptor (TX3 k).2.2.1 = some (tyX3 k) := by decide +kernel
abbrev cX3_init : ByteArray := prog_5_method_1_code
def yX3_init : MethodName := ⟨RX3, "<init>", "(I)V"⟩
abbrev cX3_isFull : ByteArray := prog_5_method_2_code
def yX3_isFull : MethodName := ⟨RX3, "isFull", "()Z"⟩
abbrev cX3_append : ByteArray := prog_5_method_3_code
def yX3_append : MethodName := ⟨RX3, "append", "(II)I"⟩
abbrev cX3_clear : ByteArray := prog_5_method_4_code
def yX3_clear : MethodName := ⟨RX3, "clear", "()I"⟩
abbrev cX3_copyFrom : ByteArray := prog_5_method_5_code
def yX3_copyFrom : MethodName := ⟨RX3, "copyFrom", "(LContourTracer$Rows;)V"⟩
def RX4 : String := "ContourTracer$Tape"
def TX4 : u_T := fun k => match k with
  | 0 => ("ContourTracer$Tape", "items", "[J", true)
  | 1 => ("ContourTracer$Tape", "sort", "I", false)
  | _ => ("ContourTracer$Tape", "length", "I", false)
def tyX4 : Nat → FieldType := fun k => match k with
  | 0 => .array .long
  | 1 => .int
  | _ => .int
abbrev wsX40 : List Cond := u_ws RX4 TX4 3
theorem nmX4 : ∀ a, a < 3 → ∀ b, b < 3 → a ≠ b → (TX4 a).2.1 ≠ (TX4 b).2.1 := by decide +kernel
theorem tyX4_ok : ∀ k, k < 3 → parseFieldDescriptor (TX4 k).2.2.1 = some (tyX4 k) := by decide +kernel
abbrev cX4_init : ByteArray := prog_6_method_1_code
def yX4_init : MethodName := ⟨RX4, "<init>", "()V"⟩
abbrev cX4_isSort : ByteArray := prog_6_method_2_code
def yX4_isSort : MethodName := ⟨RX4, "isSort", "(I)Z"⟩
abbrev cX4_become : ByteArray := prog_6_method_3_code
def yX4_become : MethodName := ⟨RX4, "become", "(II)V"⟩
abbrev cX4_isEmpty : ByteArray := prog_6_method_4_code
def yX4_isEmpty : MethodName := ⟨RX4, "isEmpty", "()Z"⟩
abbrev cX4_isPlace : ByteArray := prog_6_method_5_code
def yX4_isPlace : MethodName := ⟨RX4, "isPlace", "(I)Z"⟩
abbrev cX4_isStretch : ByteArray := prog_6_method_6_code
def yX4_isStretch : MethodName := ⟨RX4, "isStretch", "(II)Z"⟩
abbrev cX4_put : ByteArray := prog_6_method_7_code
def yX4_put : MethodName := ⟨RX4, "put", "(IJ)V"⟩
def RX5 : String := "ContourTracer$Text"
def TX5 : u_T := fun k => match k with
  | 0 => ("ContourTracer$Text", "signs", "[I", true)
  | 1 => ("ContourTracer$Text", "length", "I", false)
  | 2 => ("ContourTracer$Text", "words", "[I", true)
  | 3 => ("ContourTracer$Text", "numbers", "[I", true)
  | 4 => ("ContourTracer$Text", "clauses", "I", false)
  | _ => ("ContourTracer$Text", "cursor", "I", false)
def tyX5 : Nat → FieldType := fun k => match k with
  | 0 => .array .int
  | 1 => .int
  | 2 => .array .int
  | 3 => .array .int
  | 4 => .int
  | _ => .int
abbrev wsX50 : List Cond := u_ws RX5 TX5 6
theorem nmX5 : ∀ a, a < 6 → ∀ b, b < 6 → a ≠ b → (TX5 a).2.1 ≠ (TX5 b).2.1 := by decide +kernel
theorem tyX5_ok : ∀ k, k < 6 → parseFieldDescriptor (TX5 k).2.2.1 = some (tyX5 k) := by decide +kernel
abbrev cX5_init : ByteArray := prog_7_method_1_code
def yX5_init : MethodName := ⟨RX5, "<init>", "()V"⟩
abbrev cX5_isFull : ByteArray := prog_7_method_2_code
def yX5_isFull : MethodName := ⟨RX5, "isFull", "()Z"⟩
abbrev cX5_append : ByteArray := prog_7_method_3_code
def yX5_append : MethodName := ⟨RX5, "append", "(I)V"⟩
abbrev cX5_wordOf : ByteArray := prog_7_method_4_code
def yX5_wordOf : MethodName := ⟨RX5, "wordOf", "(I)I"⟩
abbrev cX5_numberOf : ByteArray := prog_7_method_5_code
def yX5_numberOf : MethodName := ⟨RX5, "numberOf", "(II)I"⟩
abbrev cX5_parse : ByteArray := prog_7_method_6_code
def yX5_parse : MethodName := ⟨RX5, "parse", "()I"⟩
abbrev cX5_readClause : ByteArray := prog_7_method_7_code
def yX5_readClause : MethodName := ⟨RX5, "readClause", "()Z"⟩
abbrev cX5_readNumber : ByteArray := prog_7_method_8_code
def yX5_readNumber : MethodName := ⟨RX5, "readNumber", "(I)Z"⟩
abbrev cX5_take : ByteArray := prog_7_method_9_code
def yX5_take : MethodName := ⟨RX5, "take", "(I)Z"⟩
abbrev cX5_isDigit : ByteArray := prog_7_method_10_code
def yX5_isDigit : MethodName := ⟨RX5, "isDigit", "()Z"⟩
abbrev cX5_takeDigit : ByteArray := prog_7_method_11_code
def yX5_takeDigit : MethodName := ⟨RX5, "takeDigit", "()I"⟩
abbrev cX5_wordFrom : ByteArray := prog_7_method_12_code
def yX5_wordFrom : MethodName := ⟨RX5, "wordFrom", "(I)I"⟩
abbrev cX5_lettersOf : ByteArray := prog_7_method_13_code
def yX5_lettersOf : MethodName := ⟨RX5, "lettersOf", "(I)Ljava/lang/String;"⟩
abbrev cX5_numbersOf : ByteArray := prog_7_method_14_code
def yX5_numbersOf : MethodName := ⟨RX5, "numbersOf", "(I)I"⟩
def RX6 : String := "ContourTracer"
def TX6 : u_T := fun k => match k with
  | 0 => ("ContourTracer", "ground", "LContourTracer$Ground;", true)
  | 1 => ("ContourTracer", "lines", "LContourTracer$Lines;", true)
  | 2 => ("ContourTracer", "lands", "LContourTracer$Lands;", true)
  | 3 => ("ContourTracer", "upperLands", "LContourTracer$Lands;", true)
  | 4 => ("ContourTracer", "trial", "LContourTracer$Ground;", true)
  | 5 => ("ContourTracer", "trialLines", "LContourTracer$Lines;", true)
  | 6 => ("ContourTracer", "trialLands", "LContourTracer$Lands;", true)
  | 7 => ("ContourTracer", "seen", "LContourTracer$Rows;", true)
  | 8 => ("ContourTracer", "events", "LContourTracer$Rows;", true)
  | 9 => ("ContourTracer", "booked", "LContourTracer$Rows;", true)
  | 10 => ("ContourTracer", "text", "LContourTracer$Text;", true)
  | 11 => ("ContourTracer", "tapes", "[LContourTracer$Tape;", true)
  | 12 => ("ContourTracer", "imaged", "Z", false)
  | 13 => ("ContourTracer", "groundThen", "LContourTracer$Ground;", true)
  | 14 => ("ContourTracer", "seenThen", "LContourTracer$Rows;", true)
  | 15 => ("ContourTracer", "eventsThen", "LContourTracer$Rows;", true)
  | _ => ("ContourTracer", "bookedThen", "LContourTracer$Rows;", true)
def tyX6 : Nat → FieldType := fun k => match k with
  | 0 => .object "ContourTracer$Ground"
  | 1 => .object "ContourTracer$Lines"
  | 2 => .object "ContourTracer$Lands"
  | 3 => .object "ContourTracer$Lands"
  | 4 => .object "ContourTracer$Ground"
  | 5 => .object "ContourTracer$Lines"
  | 6 => .object "ContourTracer$Lands"
  | 7 => .object "ContourTracer$Rows"
  | 8 => .object "ContourTracer$Rows"
  | 9 => .object "ContourTracer$Rows"
  | 10 => .object "ContourTracer$Text"
  | 11 => .array (.object "ContourTracer$Tape")
  | 12 => .boolean
  | 13 => .object "ContourTracer$Ground"
  | 14 => .object "ContourTracer$Rows"
  | 15 => .object "ContourTracer$Rows"
  | _ => .object "ContourTracer$Rows"
abbrev wsX60 : List Cond := u_ws RX6 TX6 17
theorem nmX6 : ∀ a, a < 17 → ∀ b, b < 17 → a ≠ b → (TX6 a).2.1 ≠ (TX6 b).2.1 := by decide +kernel
theorem tyX6_ok : ∀ k, k < 17 → parseFieldDescriptor (TX6 k).2.2.1 = some (tyX6 k) := by decide +kernel
abbrev cX6_init : ByteArray := prog_1_method_1_code
def yX6_init : MethodName := ⟨RX6, "<init>", "()V"⟩
abbrev cX6_size : ByteArray := prog_1_method_2_code
def yX6_size : MethodName := ⟨RX6, "size", "(II)I"⟩
abbrev cX6_height : ByteArray := prog_1_method_3_code
def yX6_height : MethodName := ⟨RX6, "height", "(II)I"⟩
abbrev cX6_rule : ByteArray := prog_1_method_4_code
def yX6_rule : MethodName := ⟨RX6, "rule", "(I)I"⟩
abbrev cX6_feed : ByteArray := prog_1_method_5_code
def yX6_feed : MethodName := ⟨RX6, "feed", "(I)I"⟩
abbrev cX6_read : ByteArray := prog_1_method_6_code
def yX6_read : MethodName := ⟨RX6, "read", "()I"⟩
abbrev cX6_perform : ByteArray := prog_1_method_7_code
def yX6_perform : MethodName := ⟨RX6, "perform", "(I)Z"⟩
abbrev cX6_of : ByteArray := prog_1_method_8_code
def yX6_of : MethodName := ⟨RX6, "of", "(I)I"⟩
abbrev cX6_told : ByteArray := prog_1_method_9_code
def yX6_told : MethodName := ⟨RX6, "told", "(I)I"⟩
abbrev cX6_halfLevel : ByteArray := prog_1_method_10_code
def yX6_halfLevel : MethodName := ⟨RX6, "halfLevel", "()I"⟩
abbrev cX6_at : ByteArray := prog_1_method_11_code
def yX6_at : MethodName := ⟨RX6, "at", "(II)I"⟩
abbrev cX6_square : ByteArray := prog_1_method_12_code
def yX6_square : MethodName := ⟨RX6, "square", "(III)I"⟩
abbrev cX6_edge : ByteArray := prog_1_method_13_code
def yX6_edge : MethodName := ⟨RX6, "edge", "(II)I"⟩
abbrev cX6_line : ByteArray := prog_1_method_14_code
def yX6_line : MethodName := ⟨RX6, "line", "(III)I"⟩
abbrev cX6_goes : ByteArray := prog_1_method_15_code
def yX6_goes : MethodName := ⟨RX6, "goes", "(III)I"⟩
abbrev cX6_holds : ByteArray := prog_1_method_16_code
def yX6_holds : MethodName := ⟨RX6, "holds", "(III)I"⟩
abbrev cX6_ways : ByteArray := prog_1_method_17_code
def yX6_ways : MethodName := ⟨RX6, "ways", "(III)I"⟩
abbrev cX6_picture : ByteArray := prog_1_method_18_code
def yX6_picture : MethodName := ⟨RX6, "picture", "(II)I"⟩
abbrev cX6_land : ByteArray := prog_1_method_19_code
def yX6_land : MethodName := ⟨RX6, "land", "(II)I"⟩
abbrev cX6_landOf : ByteArray := prog_1_method_20_code
def yX6_landOf : MethodName := ⟨RX6, "landOf", "(III)I"⟩
abbrev cX6_holesOf : ByteArray := prog_1_method_21_code
def yX6_holesOf : MethodName := ⟨RX6, "holesOf", "(II)I"⟩
abbrev cX6_pass : ByteArray := prog_1_method_22_code
def yX6_pass : MethodName := ⟨RX6, "pass", "(II)I"⟩
abbrev cX6_stands : ByteArray := prog_1_method_23_code
def yX6_stands : MethodName := ⟨RX6, "stands", "(I)I"⟩
abbrev cX6_tree : ByteArray := prog_1_method_24_code
def yX6_tree : MethodName := ⟨RX6, "tree", "(II)I"⟩
abbrev cX6_countChildren : ByteArray := prog_1_method_25_code
def yX6_countChildren : MethodName := ⟨RX6, "countChildren", "(LContourTracer$Lands;LContourTracer$Lands;I)V"⟩
abbrev cX6_between : ByteArray := prog_1_method_26_code
def yX6_between : MethodName := ⟨RX6, "between", "(II)I"⟩
abbrev cX6_see : ByteArray := prog_1_method_27_code
def yX6_see : MethodName := ⟨RX6, "see", "(II)I"⟩
abbrev cX6_fits : ByteArray := prog_1_method_28_code
def yX6_fits : MethodName := ⟨RX6, "fits", "(I)I"⟩
abbrev cX6_odds : ByteArray := prog_1_method_29_code
def yX6_odds : MethodName := ⟨RX6, "odds", "(II)J"⟩
abbrev cX6_mean : ByteArray := prog_1_method_30_code
def yX6_mean : MethodName := ⟨RX6, "mean", "(I)J"⟩
abbrev cX6_isPart : ByteArray := prog_1_method_31_code
def yX6_isPart : MethodName := ⟨RX6, "isPart", "(I)Z"⟩
abbrev cX6_hundredths : ByteArray := prog_1_method_32_code
def yX6_hundredths : MethodName := ⟨RX6, "hundredths", "(II)J"⟩
abbrev cX6_event : ByteArray := prog_1_method_33_code
def yX6_event : MethodName := ⟨RX6, "event", "(II)I"⟩
abbrev cX6_after : ByteArray := prog_1_method_34_code
def yX6_after : MethodName := ⟨RX6, "after", "(II)I"⟩
abbrev cX6_tryEvents : ByteArray := prog_1_method_35_code
def yX6_tryEvents : MethodName := ⟨RX6, "tryEvents", "()V"⟩
abbrev cX6_happen : ByteArray := prog_1_method_36_code
def yX6_happen : MethodName := ⟨RX6, "happen", "(LContourTracer$Ground;II)V"⟩
abbrev cX6_book : ByteArray := prog_1_method_37_code
def yX6_book : MethodName := ⟨RX6, "book", "(II)I"⟩
abbrev cX6_looked : ByteArray := prog_1_method_38_code
def yX6_looked : MethodName := ⟨RX6, "looked", "()I"⟩
abbrev cX6_judge : ByteArray := prog_1_method_39_code
def yX6_judge : MethodName := ⟨RX6, "judge", "(II)I"⟩
abbrev cX6_image : ByteArray := prog_1_method_40_code
def yX6_image : MethodName := ⟨RX6, "image", "()I"⟩
abbrev cX6_undo : ByteArray := prog_1_method_41_code
def yX6_undo : MethodName := ⟨RX6, "undo", "()I"⟩
abbrev cX6_count : ByteArray := prog_1_method_42_code
def yX6_count : MethodName := ⟨RX6, "count", "(I)I"⟩
abbrev cX6_tape : ByteArray := prog_1_method_43_code
def yX6_tape : MethodName := ⟨RX6, "tape", "(III)I"⟩
abbrev cX6_item : ByteArray := prog_1_method_44_code
def yX6_item : MethodName := ⟨RX6, "item", "(IIJ)I"⟩
abbrev cX6_peek : ByteArray := prog_1_method_45_code
def yX6_peek : MethodName := ⟨RX6, "peek", "(II)J"⟩
abbrev cX6_shift : ByteArray := prog_1_method_46_code
def yX6_shift : MethodName := ⟨RX6, "shift", "(IIIII)I"⟩
abbrev cX6_isLevel : ByteArray := prog_1_method_47_code
def yX6_isLevel : MethodName := ⟨RX6, "isLevel", "(I)Z"⟩
abbrev cX6_isHeight : ByteArray := prog_1_method_48_code
def yX6_isHeight : MethodName := ⟨RX6, "isHeight", "(I)Z"⟩
abbrev cX6_isKind : ByteArray := prog_1_method_49_code
def yX6_isKind : MethodName := ⟨RX6, "isKind", "(I)Z"⟩
abbrev cX6_isTape : ByteArray := prog_1_method_50_code
def yX6_isTape : MethodName := ⟨RX6, "isTape", "(I)Z"⟩
def RX7 : String := "ContourTracerModel"
def TX7 : u_T := fun k => match k with
  | 0 => ("ContourTracerModel", "high", "I", false)
  | 1 => ("ContourTracerModel", "wide", "I", false)
  | 2 => ("ContourTracerModel", "kind", "I", false)
  | 3 => ("ContourTracerModel", "heights", "[I", false)
  | 4 => ("ContourTracerModel", "text", "[B", true)
  | 5 => ("ContourTracerModel", "texted", "I", false)
  | 6 => ("ContourTracerModel", "words", "[I", true)
  | 7 => ("ContourTracerModel", "numbers", "[I", true)
  | 8 => ("ContourTracerModel", "at", "I", false)
  | 9 => ("ContourTracerModel", "clauses", "I", false)
  | 10 => ("ContourTracerModel", "isCrossed", "[Z", true)
  | 11 => ("ContourTracerModel", "lineOf", "[I", true)
  | 12 => ("ContourTracerModel", "order", "[I", true)
  | 13 => ("ContourTracerModel", "begins", "[I", true)
  | 14 => ("ContourTracerModel", "lines", "I", false)
  | 15 => ("ContourTracerModel", "ordered", "I", false)
  | 16 => ("ContourTracerModel", "landOf", "[I", true)
  | 17 => ("ContourTracerModel", "pile", "[I", true)
  | 18 => ("ContourTracerModel", "lands", "I", false)
  | 19 => ("ContourTracerModel", "piled", "I", false)
  | 20 => ("ContourTracerModel", "ahead", "[I", true)
  | 21 => ("ContourTracerModel", "inner", "[I", true)
  | 22 => ("ContourTracerModel", "seenPoints", "[I", false)
  | 23 => ("ContourTracerModel", "seenIs", "[I", false)
  | 24 => ("ContourTracerModel", "seen", "I", false)
  | 25 => ("ContourTracerModel", "eventWhat", "[I", false)
  | 26 => ("ContourTracerModel", "eventN", "[I", false)
  | 27 => ("ContourTracerModel", "events", "I", false)
  | 28 => ("ContourTracerModel", "keptHeights", "[I", true)
  | 29 => ("ContourTracerModel", "bookPoints", "[I", false)
  | 30 => ("ContourTracerModel", "bookHeights", "[I", false)
  | 31 => ("ContourTracerModel", "books", "I", false)
  | 32 => ("ContourTracerModel", "imageNumbers", "[I", true)
  | 33 => ("ContourTracerModel", "imageHeights", "[I", true)
  | 34 => ("ContourTracerModel", "imageRows", "[[I", true)
  | 35 => ("ContourTracerModel", "isKept", "Z", false)
  | 36 => ("ContourTracerModel", "sorts", "[I", true)
  | 37 => ("ContourTracerModel", "sizes", "[I", true)
  | _ => ("ContourTracerModel", "items", "[[J", true)
def tyX7 : Nat → FieldType := fun k => match k with
  | 0 => .int
  | 1 => .int
  | 2 => .int
  | 3 => .array .int
  | 4 => .array .byte
  | 5 => .int
  | 6 => .array .int
  | 7 => .array .int
  | 8 => .int
  | 9 => .int
  | 10 => .array .boolean
  | 11 => .array .int
  | 12 => .array .int
  | 13 => .array .int
  | 14 => .int
  | 15 => .int
  | 16 => .array .int
  | 17 => .array .int
  | 18 => .int
  | 19 => .int
  | 20 => .array .int
  | 21 => .array .int
  | 22 => .array .int
  | 23 => .array .int
  | 24 => .int
  | 25 => .array .int
  | 26 => .array .int
  | 27 => .int
  | 28 => .array .int
  | 29 => .array .int
  | 30 => .array .int
  | 31 => .int
  | 32 => .array .int
  | 33 => .array .int
  | 34 => .array (.array .int)
  | 35 => .boolean
  | 36 => .array .int
  | 37 => .array .int
  | _ => .array (.array .long)
abbrev wsX70 : List Cond := u_ws RX7 TX7 39
theorem nmX7 : ∀ a, a < 39 → ∀ b, b < 39 → a ≠ b → (TX7 a).2.1 ≠ (TX7 b).2.1 := by decide +kernel
theorem tyX7_ok : ∀ k, k < 39 → parseFieldDescriptor (TX7 k).2.2.1 = some (tyX7 k) := by decide +kernel
abbrev cX7_init : ByteArray := prog_9_method_1_code
def yX7_init : MethodName := ⟨RX7, "<init>", "()V"⟩
abbrev cX7_in : ByteArray := prog_9_method_2_code
def yX7_in : MethodName := ⟨RX7, "in", "(III)Z"⟩
abbrev cX7_isLevel : ByteArray := prog_9_method_3_code
def yX7_isLevel : MethodName := ⟨RX7, "isLevel", "(I)Z"⟩
abbrev cX7_points : ByteArray := prog_9_method_4_code
def yX7_points : MethodName := ⟨RX7, "points", "()I"⟩
abbrev cX7_isPoint : ByteArray := prog_9_method_5_code
def yX7_isPoint : MethodName := ⟨RX7, "isPoint", "(I)Z"⟩
abbrev cX7_size : ByteArray := prog_9_method_6_code
def yX7_size : MethodName := ⟨RX7, "size", "(II)I"⟩
abbrev cX7_height : ByteArray := prog_9_method_7_code
def yX7_height : MethodName := ⟨RX7, "height", "(II)I"⟩
abbrev cX7_rule : ByteArray := prog_9_method_8_code
def yX7_rule : MethodName := ⟨RX7, "rule", "(I)I"⟩
abbrev cX7_fill : ByteArray := prog_9_method_9_code
def yX7_fill : MethodName := ⟨RX7, "fill", "(III)I"⟩
abbrev cX7_hill : ByteArray := prog_9_method_10_code
def yX7_hill : MethodName := ⟨RX7, "hill", "(III)I"⟩
abbrev cX7_turn : ByteArray := prog_9_method_11_code
def yX7_turn : MethodName := ⟨RX7, "turn", "()I"⟩
abbrev cX7_feed : ByteArray := prog_9_method_12_code
def yX7_feed : MethodName := ⟨RX7, "feed", "(I)I"⟩
abbrev cX7_wordOf : ByteArray := prog_9_method_13_code
def yX7_wordOf : MethodName := ⟨RX7, "wordOf", "(I)Ljava/lang/String;"⟩
abbrev cX7_manyOf : ByteArray := prog_9_method_14_code
def yX7_manyOf : MethodName := ⟨RX7, "manyOf", "(I)I"⟩
abbrev cX7_isAt : ByteArray := prog_9_method_15_code
def yX7_isAt : MethodName := ⟨RX7, "isAt", "(C)Z"⟩
abbrev cX7_isDigit : ByteArray := prog_9_method_16_code
def yX7_isDigit : MethodName := ⟨RX7, "isDigit", "()Z"⟩
abbrev cX7_takesWord : ByteArray := prog_9_method_17_code
def yX7_takesWord : MethodName := ⟨RX7, "takesWord", "()Z"⟩
abbrev cX7_takesNumber : ByteArray := prog_9_method_18_code
def yX7_takesNumber : MethodName := ⟨RX7, "takesNumber", "(I)Z"⟩
abbrev cX7_takesClause : ByteArray := prog_9_method_19_code
def yX7_takesClause : MethodName := ⟨RX7, "takesClause", "()Z"⟩
abbrev cX7_takesAll : ByteArray := prog_9_method_20_code
def yX7_takesAll : MethodName := ⟨RX7, "takesAll", "()Z"⟩
abbrev cX7_done : ByteArray := prog_9_method_21_code
def yX7_done : MethodName := ⟨RX7, "done", "(I)I"⟩
abbrev cX7_read : ByteArray := prog_9_method_22_code
def yX7_read : MethodName := ⟨RX7, "read", "()I"⟩
abbrev cX7_row : ByteArray := prog_9_method_23_code
def yX7_row : MethodName := ⟨RX7, "row", "(I)I"⟩
abbrev cX7_column : ByteArray := prog_9_method_24_code
def yX7_column : MethodName := ⟨RX7, "column", "(I)I"⟩
abbrev cX7_places : ByteArray := prog_9_method_25_code
def yX7_places : MethodName := ⟨RX7, "places", "()I"⟩
abbrev cX7_placeOf : ByteArray := prog_9_method_26_code
def yX7_placeOf : MethodName := ⟨RX7, "placeOf", "(I)I"⟩
abbrev cX7_heightAt : ByteArray := prog_9_method_27_code
def yX7_heightAt : MethodName := ⟨RX7, "heightAt", "(I)I"⟩
abbrev cX7_otherOf : ByteArray := prog_9_method_28_code
def yX7_otherOf : MethodName := ⟨RX7, "otherOf", "(I)I"⟩
abbrev cX7_isEdge : ByteArray := prog_9_method_29_code
def yX7_isEdge : MethodName := ⟨RX7, "isEdge", "(I)Z"⟩
abbrev cX7_squares : ByteArray := prog_9_method_30_code
def yX7_squares : MethodName := ⟨RX7, "squares", "()I"⟩
abbrev cX7_cornerOf : ByteArray := prog_9_method_31_code
def yX7_cornerOf : MethodName := ⟨RX7, "cornerOf", "(I)I"⟩
abbrev cX7_cornerAt : ByteArray := prog_9_method_32_code
def yX7_cornerAt : MethodName := ⟨RX7, "cornerAt", "(II)I"⟩
abbrev cX7_caseOf : ByteArray := prog_9_method_33_code
def yX7_caseOf : MethodName := ⟨RX7, "caseOf", "(II)I"⟩
abbrev cX7_isSaddle : ByteArray := prog_9_method_34_code
def yX7_isSaddle : MethodName := ⟨RX7, "isSaddle", "(I)Z"⟩
abbrev cX7_isJoined : ByteArray := prog_9_method_35_code
def yX7_isJoined : MethodName := ⟨RX7, "isJoined", "(II)Z"⟩
abbrev cX7_isBack : ByteArray := prog_9_method_36_code
def yX7_isBack : MethodName := ⟨RX7, "isBack", "(II)Z"⟩
abbrev cX7_signOf : ByteArray := prog_9_method_37_code
def yX7_signOf : MethodName := ⟨RX7, "signOf", "(II)I"⟩
abbrev cX7_leadsTo : ByteArray := prog_9_method_38_code
def yX7_leadsTo : MethodName := ⟨RX7, "leadsTo", "(II)I"⟩
abbrev cX7_edgeAt : ByteArray := prog_9_method_39_code
def yX7_edgeAt : MethodName := ⟨RX7, "edgeAt", "(II)I"⟩
abbrev cX7_behind : ByteArray := prog_9_method_40_code
def yX7_behind : MethodName := ⟨RX7, "behind", "(II)I"⟩
abbrev cX7_layLines : ByteArray := prog_9_method_41_code
def yX7_layLines : MethodName := ⟨RX7, "layLines", "(I)V"⟩
abbrev cX7_crossings : ByteArray := prog_9_method_42_code
def yX7_crossings : MethodName := ⟨RX7, "crossings", "(II)I"⟩
abbrev cX7_isHeld : ByteArray := prog_9_method_43_code
def yX7_isHeld : MethodName := ⟨RX7, "isHeld", "(II)Z"⟩
abbrev cX7_isHeldLine : ByteArray := prog_9_method_44_code
def yX7_isHeldLine : MethodName := ⟨RX7, "isHeldLine", "(II)Z"⟩
abbrev cX7_depthOf : ByteArray := prog_9_method_45_code
def yX7_depthOf : MethodName := ⟨RX7, "depthOf", "(I)I"⟩
abbrev cX7_isOuter : ByteArray := prog_9_method_46_code
def yX7_isOuter : MethodName := ⟨RX7, "isOuter", "(I)Z"⟩
abbrev cX7_parentOf : ByteArray := prog_9_method_47_code
def yX7_parentOf : MethodName := ⟨RX7, "parentOf", "(I)I"⟩
abbrev cX7_lengthOf : ByteArray := prog_9_method_48_code
def yX7_lengthOf : MethodName := ⟨RX7, "lengthOf", "(I)I"⟩
abbrev cX7_across : ByteArray := prog_9_method_49_code
def yX7_across : MethodName := ⟨RX7, "across", "(I)I"⟩
abbrev cX7_down : ByteArray := prog_9_method_50_code
def yX7_down : MethodName := ⟨RX7, "down", "(I)I"⟩
abbrev cX7_areaOf : ByteArray := prog_9_method_51_code
def yX7_areaOf : MethodName := ⟨RX7, "areaOf", "(I)I"⟩
abbrev cX7_heldOf : ByteArray := prog_9_method_52_code
def yX7_heldOf : MethodName := ⟨RX7, "heldOf", "(I)I"⟩
abbrev cX7_outers : ByteArray := prog_9_method_53_code
def yX7_outers : MethodName := ⟨RX7, "outers", "()I"⟩
abbrev cX7_deepest : ByteArray := prog_9_method_54_code
def yX7_deepest : MethodName := ⟨RX7, "deepest", "()I"⟩
abbrev cX7_visit : ByteArray := prog_9_method_55_code
def yX7_visit : MethodName := ⟨RX7, "visit", "(III)V"⟩
abbrev cX7_squareOf : ByteArray := prog_9_method_56_code
def yX7_squareOf : MethodName := ⟨RX7, "squareOf", "(II)I"⟩
abbrev cX7_spreads : ByteArray := prog_9_method_57_code
def yX7_spreads : MethodName := ⟨RX7, "spreads", "(III)V"⟩
abbrev cX7_layLands : ByteArray := prog_9_method_58_code
def yX7_layLands : MethodName := ⟨RX7, "layLands", "(I)V"⟩
abbrev cX7_leastOf : ByteArray := prog_9_method_59_code
def yX7_leastOf : MethodName := ⟨RX7, "leastOf", "(I)I"⟩
abbrev cX7_sizeOf : ByteArray := prog_9_method_60_code
def yX7_sizeOf : MethodName := ⟨RX7, "sizeOf", "(I)I"⟩
abbrev cX7_topOf : ByteArray := prog_9_method_61_code
def yX7_topOf : MethodName := ⟨RX7, "topOf", "(I)I"⟩
abbrev cX7_landAt : ByteArray := prog_9_method_62_code
def yX7_landAt : MethodName := ⟨RX7, "landAt", "(I)I"⟩
abbrev cX7_isAtLand : ByteArray := prog_9_method_63_code
def yX7_isAtLand : MethodName := ⟨RX7, "isAtLand", "(II)Z"⟩
abbrev cX7_holesOf : ByteArray := prog_9_method_64_code
def yX7_holesOf : MethodName := ⟨RX7, "holesOf", "(I)I"⟩
abbrev cX7_above : ByteArray := prog_9_method_65_code
def yX7_above : MethodName := ⟨RX7, "above", "(II)I"⟩
abbrev cX7_volume : ByteArray := prog_9_method_66_code
def yX7_volume : MethodName := ⟨RX7, "volume", "(I)I"⟩
abbrev cX7_of : ByteArray := prog_9_method_67_code
def yX7_of : MethodName := ⟨RX7, "of", "(I)I"⟩
abbrev cX7_top : ByteArray := prog_9_method_68_code
def yX7_top : MethodName := ⟨RX7, "top", "()I"⟩
abbrev cX7_half : ByteArray := prog_9_method_69_code
def yX7_half : MethodName := ⟨RX7, "half", "()I"⟩
abbrev cX7_linesAt : ByteArray := prog_9_method_70_code
def yX7_linesAt : MethodName := ⟨RX7, "linesAt", "(I)I"⟩
abbrev cX7_busy : ByteArray := prog_9_method_71_code
def yX7_busy : MethodName := ⟨RX7, "busy", "()I"⟩
abbrev cX7_told : ByteArray := prog_9_method_72_code
def yX7_told : MethodName := ⟨RX7, "told", "(I)I"⟩
abbrev cX7_pointsIn : ByteArray := prog_9_method_73_code
def yX7_pointsIn : MethodName := ⟨RX7, "pointsIn", "(I)I"⟩
abbrev cX7_saddles : ByteArray := prog_9_method_74_code
def yX7_saddles : MethodName := ⟨RX7, "saddles", "(IZ)I"⟩
abbrev cX7_at : ByteArray := prog_9_method_75_code
def yX7_at : MethodName := ⟨RX7, "at", "(II)I"⟩
abbrev cX7_square : ByteArray := prog_9_method_76_code
def yX7_square : MethodName := ⟨RX7, "square", "(III)I"⟩
abbrev cX7_edge : ByteArray := prog_9_method_77_code
def yX7_edge : MethodName := ⟨RX7, "edge", "(II)I"⟩
abbrev cX7_asked : ByteArray := prog_9_method_78_code
def yX7_asked : MethodName := ⟨RX7, "asked", "(II)I"⟩
abbrev cX7_line : ByteArray := prog_9_method_79_code
def yX7_line : MethodName := ⟨RX7, "line", "(III)I"⟩
abbrev cX7_goes : ByteArray := prog_9_method_80_code
def yX7_goes : MethodName := ⟨RX7, "goes", "(III)I"⟩
abbrev cX7_holds : ByteArray := prog_9_method_81_code
def yX7_holds : MethodName := ⟨RX7, "holds", "(III)I"⟩
abbrev cX7_ways : ByteArray := prog_9_method_82_code
def yX7_ways : MethodName := ⟨RX7, "ways", "(III)I"⟩
abbrev cX7_picture : ByteArray := prog_9_method_83_code
def yX7_picture : MethodName := ⟨RX7, "picture", "(II)I"⟩
abbrev cX7_land : ByteArray := prog_9_method_84_code
def yX7_land : MethodName := ⟨RX7, "land", "(II)I"⟩
abbrev cX7_landOf : ByteArray := prog_9_method_85_code
def yX7_landOf : MethodName := ⟨RX7, "landOf", "(III)I"⟩
abbrev cX7_pass : ByteArray := prog_9_method_86_code
def yX7_pass : MethodName := ⟨RX7, "pass", "(II)I"⟩
abbrev cX7_isWithHigher : ByteArray := prog_9_method_87_code
def yX7_isWithHigher : MethodName := ⟨RX7, "isWithHigher", "(I)Z"⟩
abbrev cX7_stands : ByteArray := prog_9_method_88_code
def yX7_stands : MethodName := ⟨RX7, "stands", "(I)I"⟩
abbrev cX7_leavesOf : ByteArray := prog_9_method_89_code
def yX7_leavesOf : MethodName := ⟨RX7, "leavesOf", "(I)I"⟩
abbrev cX7_forksOf : ByteArray := prog_9_method_90_code
def yX7_forksOf : MethodName := ⟨RX7, "forksOf", "(I)I"⟩
abbrev cX7_tree : ByteArray := prog_9_method_91_code
def yX7_tree : MethodName := ⟨RX7, "tree", "(II)I"⟩
abbrev cX7_between : ByteArray := prog_9_method_92_code
def yX7_between : MethodName := ⟨RX7, "between", "(II)I"⟩
abbrev cX7_see : ByteArray := prog_9_method_93_code
def yX7_see : MethodName := ⟨RX7, "see", "(II)I"⟩
abbrev cX7_isSo : ByteArray := prog_9_method_94_code
def yX7_isSo : MethodName := ⟨RX7, "isSo", "(I)Z"⟩
abbrev cX7_fits : ByteArray := prog_9_method_95_code
def yX7_fits : MethodName := ⟨RX7, "fits", "(I)I"⟩
abbrev cX7_common : ByteArray := prog_9_method_96_code
def yX7_common : MethodName := ⟨RX7, "common", "(II)I"⟩
abbrev cX7_lowest : ByteArray := prog_9_method_97_code
def yX7_lowest : MethodName := ⟨RX7, "lowest", "(III)J"⟩
abbrev cX7_odds : ByteArray := prog_9_method_98_code
def yX7_odds : MethodName := ⟨RX7, "odds", "(II)J"⟩
abbrev cX7_mean : ByteArray := prog_9_method_99_code
def yX7_mean : MethodName := ⟨RX7, "mean", "(I)J"⟩
abbrev cX7_isNumber : ByteArray := prog_9_method_100_code
def yX7_isNumber : MethodName := ⟨RX7, "isNumber", "(II)Z"⟩
abbrev cX7_event : ByteArray := prog_9_method_101_code
def yX7_event : MethodName := ⟨RX7, "event", "(II)I"⟩
abbrev cX7_happens : ByteArray := prog_9_method_102_code
def yX7_happens : MethodName := ⟨RX7, "happens", "(II)V"⟩
abbrev cX7_after : ByteArray := prog_9_method_103_code
def yX7_after : MethodName := ⟨RX7, "after", "(II)I"⟩
abbrev cX7_book : ByteArray := prog_9_method_104_code
def yX7_book : MethodName := ⟨RX7, "book", "(II)I"⟩
abbrev cX7_looked : ByteArray := prog_9_method_105_code
def yX7_looked : MethodName := ⟨RX7, "looked", "()I"⟩
abbrev cX7_judge : ByteArray := prog_9_method_106_code
def yX7_judge : MethodName := ⟨RX7, "judge", "(II)I"⟩
abbrev cX7_together : ByteArray := prog_9_method_107_code
def yX7_together : MethodName := ⟨RX7, "together", "()I"⟩
abbrev cX7_rowsOf : ByteArray := prog_9_method_108_code
def yX7_rowsOf : MethodName := ⟨RX7, "rowsOf", "(I)[I"⟩
abbrev cX7_image : ByteArray := prog_9_method_109_code
def yX7_image : MethodName := ⟨RX7, "image", "()I"⟩
abbrev cX7_undo : ByteArray := prog_9_method_110_code
def yX7_undo : MethodName := ⟨RX7, "undo", "()I"⟩
abbrev cX7_count : ByteArray := prog_9_method_111_code
def yX7_count : MethodName := ⟨RX7, "count", "(I)I"⟩
abbrev cX7_isTape : ByteArray := prog_9_method_112_code
def yX7_isTape : MethodName := ⟨RX7, "isTape", "(I)Z"⟩
abbrev cX7_tape : ByteArray := prog_9_method_113_code
def yX7_tape : MethodName := ⟨RX7, "tape", "(III)I"⟩
abbrev cX7_asItem : ByteArray := prog_9_method_114_code
def yX7_asItem : MethodName := ⟨RX7, "asItem", "(IJ)J"⟩
abbrev cX7_item : ByteArray := prog_9_method_115_code
def yX7_item : MethodName := ⟨RX7, "item", "(IIJ)I"⟩
abbrev cX7_peek : ByteArray := prog_9_method_116_code
def yX7_peek : MethodName := ⟨RX7, "peek", "(II)J"⟩
abbrev cX7_isWithin : ByteArray := prog_9_method_117_code
def yX7_isWithin : MethodName := ⟨RX7, "isWithin", "(III)Z"⟩
abbrev cX7_shift : ByteArray := prog_9_method_118_code
def yX7_shift : MethodName := ⟨RX7, "shift", "(IIIII)I"⟩
def RJ13 : String := "java/lang/Long"
abbrev cJ13_bitCount_95d88 : ByteArray := prog_10_method_50_code
def yJ13_bitCount_95d88 : MethodName := ⟨RJ13, "bitCount", "(J)I"⟩
def RJ9 : String := "java/lang/Math"
abbrev cJ9_abs_0f7a4 : ByteArray := prog_11_method_59_code
def yJ9_abs_0f7a4 : MethodName := ⟨RJ9, "abs", "(I)I"⟩
abbrev cJ9_max_7cf53 : ByteArray := prog_11_method_65_code
def yJ9_max_7cf53 : MethodName := ⟨RJ9, "max", "(II)I"⟩
abbrev cJ9_min_7cf53 : ByteArray := prog_11_method_69_code
def yJ9_min_7cf53 : MethodName := ⟨RJ9, "min", "(II)I"⟩
def RJ0 : String := "java/lang/String"
abbrev cJ0_length_8abf5 : ByteArray := prog_12_method_54_code
def yJ0_length_8abf5 : MethodName := ⟨RJ0, "length", "()I"⟩
abbrev cJ0_isEmpty_aae02 : ByteArray := prog_12_method_55_code
def yJ0_isEmpty_aae02 : MethodName := ⟨RJ0, "isEmpty", "()Z"⟩
abbrev cJ0_charAt_5068e : ByteArray := prog_12_method_56_code
def yJ0_charAt_5068e : MethodName := ⟨RJ0, "charAt", "(I)C"⟩
abbrev cJ0_coder_7d493 : ByteArray := prog_12_method_152_code
def yJ0_coder_7d493 : MethodName := ⟨RJ0, "coder", "()B"⟩
abbrev cJ0_isLatin1_aae02 : ByteArray := prog_12_method_154_code
def yJ0_isLatin1_aae02 : MethodName := ⟨RJ0, "isLatin1", "()Z"⟩
abbrev cJ0_checkIndex_df160 : ByteArray := prog_12_method_155_code
def yJ0_checkIndex_df160 : MethodName := ⟨RJ0, "checkIndex", "(II)V"⟩
def RJ1 : String := "java/lang/StringLatin1"
abbrev cJ1_charAt_3b067 : ByteArray := prog_13_method_2_code
def yJ1_charAt_3b067 : MethodName := ⟨RJ1, "charAt", "([BI)C"⟩
def RJ2 : String := "java/lang/StringUTF16"
abbrev cJ2_getChar_3b067 : ByteArray := prog_14_method_5_code
def yJ2_getChar_3b067 : MethodName := ⟨RJ2, "getChar", "([BI)C"⟩
abbrev cJ2_length_9d52b : ByteArray := prog_14_method_6_code
def yJ2_length_9d52b : MethodName := ⟨RJ2, "length", "([B)I"⟩
abbrev cJ2_charAt_3b067 : ByteArray := prog_14_method_83_code
def yJ2_charAt_3b067 : MethodName := ⟨RJ2, "charAt", "([BI)C"⟩
abbrev cJ2_checkIndex_2214a : ByteArray := prog_14_method_91_code
def yJ2_checkIndex_2214a : MethodName := ⟨RJ2, "checkIndex", "(I[B)V"⟩
def RJ10 : String := "java/lang/System"
def RJ7 : String := "java/util/Arrays"
abbrev cJ7_fill_d0a16 : ByteArray := prog_16_method_101_code
def yJ7_fill_d0a16 : MethodName := ⟨RJ7, "fill", "([JJ)V"⟩
abbrev cJ7_fill_53178 : ByteArray := prog_16_method_103_code
def yJ7_fill_53178 : MethodName := ⟨RJ7, "fill", "([II)V"⟩
def RJ3 : String := "jdk/internal/util/Preconditions"
abbrev cJ3_checkIndex_8e157 : ByteArray := prog_17_method_11_code
def yJ3_checkIndex_8e157 : MethodName := ⟨RJ3, "checkIndex", "(IILjava/util/function/BiFunction;)I"⟩
def RL : String := "ContourTracerLaw"
abbrev cL_law : ByteArray := code
def yL_law : MethodName := ⟨RL, "law", "([I)Z"⟩
end
section
def ct_GW : List Cond := lw_tbl.filter goodWord
theorem ct_GW_of {w : Cond} (i : Nat) (h : lw_tbl[i]? = some w) (hg : goodWord w = true) : w ∈ ct_GW := List.mem_filter.mpr ⟨List.mem_of_getElem? h, hg⟩
theorem ct_GW_sub {w : Cond} (h : w ∈ ct_GW) : w ∈ lw_tbl := (List.mem_filter.mp h).1
theorem ct_GW_good {w : Cond} (h : w ∈ ct_GW) : (w.onTables && w.keeps) = true ∨ ∃ ty, w = .arrayClass ty := good_of_word (List.mem_filter.mp h).2
abbrev ct_cl : List vw_C := [(RX0, TX0, 7), (RX1, TX1, 10), (RX2, TX2, 9), (RX3, TX3, 3), (RX4, TX4, 3), (RX5, TX5, 6), (RX6, TX6, 17), (RX7, TX7, 39)]
def ct_R (c : Nat) : String := match c with
  | 0 => RX0
  | 1 => RX1
  | 2 => RX2
  | 3 => RX3
  | 4 => RX4
  | 5 => RX5
  | 6 => RX6
  | _ => RX7
def ct_T (c : Nat) : u_T := match c with
  | 0 => TX0
  | 1 => TX1
  | 2 => TX2
  | 3 => TX3
  | 4 => TX4
  | 5 => TX5
  | 6 => TX6
  | _ => TX7
def ct_ty (c : Nat) : Nat → FieldType := match c with
  | 0 => tyX0
  | 1 => tyX1
  | 2 => tyX2
  | 3 => tyX3
  | 4 => tyX4
  | 5 => tyX5
  | 6 => tyX6
  | _ => tyX7
def ct_rtL : List (List Nat) := [[8, 99, 99, 99, 99, 99, 99], [0, 8, 8, 8, 8, 8, 8, 99, 99, 99], [0, 8, 8, 8, 8, 99, 99, 99, 99], [8, 8, 99], [11, 99, 99], [8, 99, 8, 8, 99, 99], [0, 2, 1, 1, 0, 2, 1, 3, 3, 3, 5, 12, 98, 0, 3, 3, 3], [99, 99, 99, 8, 9, 99, 8, 8, 99, 99, 10, 8, 8, 8, 99, 99, 8, 8, 99, 99, 8, 8, 8, 8, 99, 8, 8, 99, 8, 8, 8, 99, 8, 8, 13, 98, 8, 8, 14]]
def ct_rt (c j : Nat) : Nat := (ct_rtL.getD c []).getD j 99
def ct_N (c : Nat) : Nat := (ct_rtL.getD c []).length
theorem ct_cl_get : ∀ c, c < 8 → ct_cl[c]? = some (ct_R c, ct_T c, ct_N c) := by
  intro c h
  match c, h with
  | 0, _ => rfl
  | 1, _ => rfl
  | 2, _ => rfl
  | 3, _ => rfl
  | 4, _ => rfl
  | 5, _ => rfl
  | 6, _ => rfl
  | 7, _ => rfl
set_option maxRecDepth 100000 in
theorem ct_lay0 : u_ws RX0 TX0 7 = [142, 144, 146, 148, 150, 152, 154].filterMap (fun i => lw_tbl[i]?) := by decide +kernel
theorem ct_layg0 : (u_ws RX0 TX0 7).all goodWord = true := by decide +kernel
set_option maxRecDepth 100000 in
theorem ct_lay1 : u_ws RX1 TX1 10 = [216, 218, 220, 222, 224, 226, 228, 230, 232, 234].filterMap (fun i => lw_tbl[i]?) := by decide +kernel
theorem ct_layg1 : (u_ws RX1 TX1 10).all goodWord = true := by decide +kernel
set_option maxRecDepth 100000 in
theorem ct_lay2 : u_ws RX2 TX2 9 = [176, 178, 180, 182, 184, 186, 188, 190, 192].filterMap (fun i => lw_tbl[i]?) := by decide +kernel
theorem ct_layg2 : (u_ws RX2 TX2 9).all goodWord = true := by decide +kernel
set_option maxRecDepth 100000 in
theorem ct_lay3 : u_ws RX3 TX3 3 = [249, 251, 253].filterMap (fun i => lw_tbl[i]?) := by decide +kernel
theorem ct_layg3 : (u_ws RX3 TX3 3).all goodWord = true := by decide +kernel
set_option maxRecDepth 100000 in
theorem ct_lay4 : u_ws RX4 TX4 3 = [295, 297, 299].filterMap (fun i => lw_tbl[i]?) := by decide +kernel
theorem ct_layg4 : (u_ws RX4 TX4 3).all goodWord = true := by decide +kernel
set_option maxRecDepth 100000 in
theorem ct_lay5 : u_ws RX5 TX5 6 = [270, 272, 274, 276, 278, 280].filterMap (fun i => lw_tbl[i]?) := by decide +kernel
theorem ct_layg5 : (u_ws RX5 TX5 6).all goodWord = true := by decide +kernel
set_option maxRecDepth 100000 in
theorem ct_lay6 : u_ws RX6 TX6 17 = [320, 322, 324, 326, 328, 330, 332, 334, 336, 338, 340, 342, 344, 346, 348, 350, 352].filterMap (fun i => lw_tbl[i]?) := by decide +kernel
theorem ct_layg6 : (u_ws RX6 TX6 17).all goodWord = true := by decide +kernel
set_option maxRecDepth 100000 in
theorem ct_lay7 : u_ws RX7 TX7 39 = [1035, 1037, 1039, 1041, 1043, 1045, 1047, 1049, 1051, 1053, 1055, 1057, 1059, 1061, 1063, 1065, 1067, 1069, 1071, 1073, 1075, 1077, 1079, 1081, 1083, 1085, 1087, 1089, 1091, 1093, 1095, 1097, 1099, 1101, 1103, 1105, 1107, 1109, 1111].filterMap (fun i => lw_tbl[i]?) := by decide +kernel
theorem ct_layg7 : (u_ws RX7 TX7 39).all goodWord = true := by decide +kernel
theorem ct_inW {ws : List Cond} {ps : List Nat} (h : ws = ps.filterMap (fun i => lw_tbl[i]?)) (hg : ws.all goodWord = true) : ∀ w ∈ ws, w ∈ ct_GW := by
  intro w hw
  have h1 := List.all_eq_true.mp hg w hw
  rw [h] at hw
  obtain ⟨i, -, hi⟩ := List.mem_filterMap.mp hw
  exact ct_GW_of i hi h1
theorem ct_lays : ∀ c, c < 8 → ∀ w ∈ u_ws (ct_R c) (ct_T c) (ct_N c), w ∈ ct_GW := by
  intro c h
  match c, h with
  | 0, _ => exact ct_inW ct_lay0 ct_layg0
  | 1, _ => exact ct_inW ct_lay1 ct_layg1
  | 2, _ => exact ct_inW ct_lay2 ct_layg2
  | 3, _ => exact ct_inW ct_lay3 ct_layg3
  | 4, _ => exact ct_inW ct_lay4 ct_layg4
  | 5, _ => exact ct_inW ct_lay5 ct_layg5
  | 6, _ => exact ct_inW ct_lay6 ct_layg6
  | 7, _ => exact ct_inW ct_lay7 ct_layg7
theorem ct_ty_ok : ∀ c, c < 8 → ∀ k, k < ct_N c → parseFieldDescriptor (ct_T c k).2.2.1 = some (ct_ty c k) := by
  intro c h
  match c, h with
  | 0, _ => exact tyX0_ok
  | 1, _ => exact tyX1_ok
  | 2, _ => exact tyX2_ok
  | 3, _ => exact tyX3_ok
  | 4, _ => exact tyX4_ok
  | 5, _ => exact tyX5_ok
  | 6, _ => exact tyX6_ok
  | 7, _ => exact tyX7_ok
theorem ct_nm : ∀ c, c < 8 → ∀ a, a < ct_N c → ∀ b, b < ct_N c → a ≠ b → (ct_T c a).2.1 ≠ (ct_T c b).2.1 := by
  intro c h
  match c, h with
  | 0, _ => exact nmX0
  | 1, _ => exact nmX1
  | 2, _ => exact nmX2
  | 3, _ => exact nmX3
  | 4, _ => exact nmX4
  | 5, _ => exact nmX5
  | 6, _ => exact nmX6
  | 7, _ => exact nmX7
set_option maxRecDepth 100000 in
theorem ct_ty_int : ∀ c, c < 8 → ∀ k, k < ct_N c → (ct_rt c k = 99 → ct_ty c k = .int) ∧ (ct_rt c k = 98 → ct_ty c k = .boolean) := by decide +kernel
def ct_sL : List Nat := [4, 5, 4, 4, 4, 4, 0]
def ct_sB : List (List Int32) := [[115, 105, 122, 101], [112, 111, 105, 110, 116], [102, 105, 108, 108], [104, 105, 108, 108], [114, 117, 108, 101], [116, 117, 114, 110], []]
def ct_sR : List (String × Nat × String × Nat) := [("ContourTracer$Text", 69, "size", 0), ("ContourTracer$Text", 71, "point", 1), ("ContourTracer$Text", 73, "fill", 2), ("ContourTracer$Text", 75, "hill", 3), ("ContourTracer$Text", 77, "rule", 4), ("ContourTracer$Text", 79, "turn", 5), ("ContourTracer$Text", 81, "", 6), ("ContourTracerModel", 128, "size", 0), ("ContourTracerModel", 130, "point", 1), ("ContourTracerModel", 132, "fill", 2), ("ContourTracerModel", 134, "hill", 3), ("ContourTracerModel", 136, "rule", 4), ("ContourTracerModel", 138, "turn", 5)]
/-! the pure pictures: an int is an Int, a long an Int64, a reference a pair (code of its kind, number of its cell) -/
abbrev ct_PV : Type := Int ⊕ (Int64 ⊕ (Nat × Nat))
abbrev ct_L : Type := List (Nat × ct_PV)
abbrev ct_G : Type := (Nat → Nat → Nat) × (Nat → Nat)
abbrev ct_H : Type := (Nat → Nat → Int) × (Nat → Nat → Int64)
abbrev ct_I : Type := Nat × Instr × Nat × Nat
def ct_wr (a : Int) : Int := (a + 2147483648) % 4294967296 - 2147483648
def ct_in (a : Int) : Prop := -2147483648 ≤ a ∧ a < 2147483648
def ct_mv (ad : Nat → Nat) (v : ct_PV) : Value := match v with
  | .inl a => .int (Int32.ofInt a)
  | .inr (.inl x) => .long x
  | .inr (.inr q) => .ref (ad q.2)
def ct_cat (v : ct_PV) : Nat := match v with
  | .inl _ => 1
  | .inr (.inl _) => 2
  | .inr (.inr _) => 1
theorem ct_cat_mv (ad : Nat → Nat) (v : ct_PV) : (ct_mv ad v).category = ct_cat v := by
  rcases v with a | x | q <;> rfl
theorem ct_wr_in (a : Int) : ct_in (ct_wr a) := by unfold ct_in ct_wr; omega
theorem ct_wr_id {a : Int} (h : ct_in a) : ct_wr a = a := by unfold ct_in at h; unfold ct_wr; omega
theorem ct_toInt {a : Int} (h : ct_in a) : (Int32.ofInt a).toInt = a := by
  unfold ct_in at h
  rw [Int32.toInt_ofInt]
  unfold Int.bmod
  simp only [Int32.size]
  split <;> omega
theorem ct_of_toInt (x : Int32) : Int32.ofInt x.toInt = x := by simp
theorem ct_toInt_in (x : Int32) : ct_in x.toInt := ⟨Int32.le_toInt x, Int32.toInt_lt x⟩
theorem ct_ofInt_wr (a : Int) : Int32.ofInt (ct_wr a) = Int32.ofInt a := by
  have : (ct_wr a) = a - 4294967296 * ((a + 2147483648) / 4294967296) := by unfold ct_wr; omega
  rw [this]
  apply Int32.toInt_inj.mp
  rw [Int32.toInt_ofInt, Int32.toInt_ofInt]
  simp only [Int32.size]
  unfold Int.bmod
  have e : (a - 4294967296 * ((a + 2147483648) / 4294967296)) % ((4294967296 : Nat) : Int) = a % ((4294967296 : Nat) : Int) := by omega
  rw [e]
/-- which kind of slot, which length: kind codes 0..7 objects, 8 int[], 9 byte[], 10 boolean[], 11 long[], 12 Tape[], 13 int[][], 14 long[][], 15 a text -/
def ct_cell (cA : Nat → ClassId) (ad : Nat → Nat) (G : ct_G) (K : Nat → Nat) (h : ct_H) (i : Nat) : va_E :=
  if K i < 8 then .inr (K i, (List.range (ct_N (K i))).map (fun j => if 98 ≤ ct_rt (K i) j then Value.int (Int32.ofInt (h.1 i j)) else Value.ref (ad (G.1 i j))))
  else if K i ≤ 10 then .inl (cA (K i), G.2 i, .inl (fun j => Int32.ofInt (h.1 i j)))
  else if K i = 11 then .inl (cA 11, G.2 i, .inr (.inl (fun j => h.2 i j)))
  else .inl (cA (K i), G.2 i, .inr (.inr (.inr (.inr (fun j => some (ad (G.1 i j)))))))
def ct_ws (cA : Nat → ClassId) (ad : Nat → Nat) (G : ct_G) (K : Nat → Nat) (n : Nat) (h : ct_H) : va_W := (List.range n).map (fun i => (ad i, ct_cell cA ad G K h i))
theorem ct_ws_get {cA : Nat → ClassId} {ad : Nat → Nat} {G : ct_G} {K : Nat → Nat} {n : Nat} {h : ct_H} {i : Nat} (hi : i < n) : (ct_ws cA ad G K n h)[i]? = some (ad i, ct_cell cA ad G K h i) := by
  unfold ct_ws
  rw [List.getElem?_map, List.getElem?_range hi]
  rfl
theorem ct_ws_set {cA : Nat → ClassId} {ad : Nat → Nat} {G : ct_G} {K : Nat → Nat} {n : Nat} {h h' : ct_H} {i : Nat} {e : va_E} (he : e = ct_cell cA ad G K h' i) (ho : ∀ j, j ≠ i → ct_cell cA ad G K h' j = ct_cell cA ad G K h j) : (ct_ws cA ad G K n h).set i (ad i, e) = ct_ws cA ad G K n h' := by
  subst he
  apply List.ext_getElem?
  intro k
  by_cases hk : k < n
  · rw [ct_ws_get hk, List.getElem?_set]
    by_cases hki : i = k
    · subst hki
      have hl : i < (ct_ws cA ad G K n h).length := by unfold ct_ws; simpa using hk
      rw [if_pos rfl, if_pos hl]
    · rw [if_neg hki, ct_ws_get hk, ho k (fun q => hki q.symm)]
  · have e1 : (ct_ws cA ad G K n h').length ≤ k := by unfold ct_ws; simpa using Nat.le_of_not_lt hk
    have e2 : ((ct_ws cA ad G K n h).set i (ad i, ct_cell cA ad G K h' i)).length ≤ k := by rw [List.length_set]; unfold ct_ws; simpa using Nat.le_of_not_lt hk
    rw [List.getElem?_eq_none e1, List.getElem?_eq_none e2]
theorem ct_ws_len {cA : Nat → ClassId} {ad : Nat → Nat} {G : ct_G} {K : Nat → Nat} {n : Nat} {h : ct_H} : (ct_ws cA ad G K n h).length = n := by unfold ct_ws; simp
theorem ct_wsD {cA : Nat → ClassId} {ad : Nat → Nat} {G : ct_G} {K : Nat → Nat} {n : Nat} {h : ct_H} {A : Nat → Prop} (hj : ∀ i j, i < n → j < n → ad i = ad j → i = j) (hA : ∀ i, i < n → A (ad i)) : va_D A (ct_ws cA ad G K n h) := by
  refine ⟨fun i j p q hp hq e => ?_, fun k q hq => ?_⟩
  · have hi : i < n := by have := (List.getElem?_eq_some_iff.mp hp).1; rwa [ct_ws_len] at this
    have hj2 : j < n := by have := (List.getElem?_eq_some_iff.mp hq).1; rwa [ct_ws_len] at this
    rw [ct_ws_get hi] at hp
    rw [ct_ws_get hj2] at hq
    cases hp; cases hq
    exact hj i j hi hj2 e
  · have hi : k < n := by have := (List.getElem?_eq_some_iff.mp hq).1; rwa [ct_ws_len] at this
    rw [ct_ws_get hi] at hq
    cases hq
    exact hA k hi
/-- the kinds fit: what a cell's references lead to -/
def ct_et (k : Nat) : Nat := if k = 12 then 4 else if k = 13 then 8 else 11
def ct_WT (G : ct_G) (K : Nat → Nat) (n : Nat) : Prop := ∀ i, i < n → K i ≤ 14 ∧ G.2 i < 2147483648 ∧ (K i < 8 → ∀ j, j < ct_N (K i) → ct_rt (K i) j < 98 → G.1 i j < n ∧ K (G.1 i j) = ct_rt (K i) j) ∧ (12 ≤ K i → ∀ j, j < G.2 i → G.1 i j < n ∧ K (G.1 i j) = ct_et (K i))
def ct_ok (K : Nat → Nat) (n : Nat) (v : ct_PV) : Prop := match v with
  | .inl a => ct_in a
  | .inr (.inl _) => True
  | .inr (.inr q) => (q.2 < n ∧ K q.2 = q.1) ∨ (q.1 = 15 ∧ 1000 ≤ q.2 ∧ q.2 < 1007)
def ct_hin (h : ct_H) : Prop := ∀ i j, ct_in (h.1 i j)
def ct_wF (h : ct_H) (i j : Nat) (v : Int) : ct_H := (fun a b => if a = i ∧ b = j then v else h.1 a b, h.2)
def ct_wL (h : ct_H) (i j : Nat) (v : Int64) : ct_H := (h.1, fun a b => if a = i ∧ b = j then v else h.2 a b)
theorem ct_hin_wF {h : ct_H} {i j : Nat} {v : Int} (hh : ct_hin h) (hv : ct_in v) : ct_hin (ct_wF h i j v) := by
  intro a b
  unfold ct_wF
  dsimp only
  split
  · exact hv
  · exact hh a b
def ct_tys (cA : Nat → ClassId) : List (ClassId × FieldType) := [(cA 8, .int), (cA 9, .byte), (cA 10, .boolean), (cA 11, .long), (cA 12, .object RX4), (cA 13, .array .int), (cA 14, .array .long)]
/-- texts: constants of the class and of the reference -/
def ct_Str (ad : Nat → Nat) (A : Nat → Prop) (U : State) : Prop := vk_S 7 ct_sL ct_sB (fun i => ad (1000 + i)) (fun i => ad (2000 + i)) A U U.heap ∧ va_Z "java/lang/String" "COMPACT_STRINGS" "Z" (.int 1) A U U.heap ∧ ∀ q ∈ ct_sR, vk_R q.1 q.2.1 q.2.2.1 (ad (1000 + q.2.2.2)) U
/-- what holds all through a method's body -/
def ct_Cx (p : Program) (R : Room) (s : State) (m : MethodId) (args : Array Value) (c : Code) (bytes : ByteArray) (maxL : Nat) (own : String) (A : Nat → Prop) (D : va_G) (cA : Nat → ClassId) (ad : Nat → Nat) (G : ct_G) (K : Nat → Nat) (n d cells slots : Nat) : Prop :=
  p.tables.exec = Jvm.exec ∧ c.code = bytes ∧ c.maxLocals = maxL ∧ s.vm.findClass own = some m.cls ∧ (∀ w ∈ ct_GW, w.before args s = true) ∧ va_K D ct_cl (ct_tys cA) s ∧ ((∀ i j, i < n → j < n → ad i = ad j → i = j) ∧ ∀ i, i < n → A (ad i)) ∧ ct_WT G K n ∧ (d ≤ R.frames ∧ 40 * d ≤ R.locals ∧ cells ≤ R.cells ∧ slots ≤ R.slots) ∧ ct_Str ad A s
def ct_V (p : Program) (l : Launch) (e : Env) (R : Room) (s : State) (m : MethodId) (args : Array Value) (below : List Frame) (meth : Method) (c : Code) (maxL : Nat) (A : Nat → Prop) (D : va_G) (cA : Nat → ClassId) (ad : Nat → Nat) (G : ct_G) (K : Nat → Nat) (n cells slots : Nat) (Q : State → Prop) (pc : Nat) (ls : ct_L) (st : List ct_PV) (h : ct_H) : Prop :=
  ∀ (H : Heap) (locs : List Loc) (lm : Array Slot), va_P D ct_cl (ct_ws cA ad G K n h) H → va_S A s.heap H locs → lv_has lm maxL (ls.map fun q => (q.1, ct_mv ad q.2)) → (∀ q ∈ ls, ct_ok K n q.2) → (∀ v ∈ st, ct_ok K n v) → ct_hin h → W p l e R s m args below meth c H locs cells slots Q (F0 m pc lm (st.map (ct_mv ad)))
end
section
/-! one instruction of a straight stretch, on the pure pictures -/
def ct_lk (ls : ct_L) (k : Nat) : Option ct_PV := match ls with
  | [] => none
  | q :: r => if q.1 = k then some q.2 else ct_lk r k
def ct_sto (ls : ct_L) (k : Nat) (v : ct_PV) : ct_L := (k, v) :: ls.filter (fun q => !(q.1 == k) && !(q.1 + 1 == k && ct_cat q.2 == 2))
def ct_stoL (ls : ct_L) (k : Nat) (v : ct_PV) : ct_L := (k, v) :: ls.filter (fun q => !(q.1 == k) && (!(q.1 == k + 1) && !(q.1 + 1 == k && ct_cat q.2 == 2)))
abbrev ct_S : Type := ct_L × List ct_PV × ct_H
def ct_ldI (ls : ct_L) (k : Nat) (st : List ct_PV) (h : ct_H) : Option ct_S := match ct_lk ls k with
  | some (.inl a) => some (ls, .inl a :: st, h)
  | _ => none
def ct_ldL (ls : ct_L) (k : Nat) (st : List ct_PV) (h : ct_H) : Option ct_S := match ct_lk ls k with
  | some (.inr (.inl a)) => some (ls, .inr (.inl a) :: st, h)
  | _ => none
def ct_ldA (ls : ct_L) (k : Nat) (st : List ct_PV) (h : ct_H) : Option ct_S := match ct_lk ls k with
  | some (.inr (.inr a)) => some (ls, .inr (.inr a) :: st, h)
  | _ => none
def ct_stI (mL : Nat) (ls : ct_L) (k : Nat) (st : List ct_PV) (h : ct_H) : Option ct_S := match st with
  | .inl a :: r => if k < mL then some (ct_sto ls k (.inl a), r, h) else none
  | _ => none
def ct_stA (mL : Nat) (ls : ct_L) (k : Nat) (st : List ct_PV) (h : ct_H) : Option ct_S := match st with
  | .inr (.inr a) :: r => if k < mL then some (ct_sto ls k (.inr (.inr a)), r, h) else none
  | _ => none
def ct_stL (mL : Nat) (ls : ct_L) (k : Nat) (st : List ct_PV) (h : ct_H) : Option ct_S := match st with
  | .inr (.inl a) :: r => if k + 1 < mL then some (ct_stoL ls k (.inr (.inl a)), r, h) else none
  | _ => none
def ct_bI (f : Int → Int → Int) (ls : ct_L) (st : List ct_PV) (h : ct_H) : Option ct_S := match st with
  | .inl b :: .inl a :: r => some (ls, .inl (f a b) :: r, h)
  | _ => none
def ct_bL (f : Int64 → Int64 → Int64) (ls : ct_L) (st : List ct_PV) (h : ct_H) : Option ct_S := match st with
  | .inr (.inl b) :: .inr (.inl a) :: r => some (ls, .inr (.inl (f a b)) :: r, h)
  | _ => none
def ct_bS (f : Int64 → Int → Int64) (ls : ct_L) (st : List ct_PV) (h : ct_H) : Option ct_S := match st with
  | .inl b :: .inr (.inl a) :: r => some (ls, .inr (.inl (f a b)) :: r, h)
  | _ => none
def ct_u (f : Int → Int) (ls : ct_L) (st : List ct_PV) (h : ct_H) : Option ct_S := match st with
  | .inl a :: r => some (ls, .inl (f a) :: r, h)
  | _ => none
def ct_get (G : ct_G) (c j : Nat) (ls : ct_L) (st : List ct_PV) (h : ct_H) : Option ct_S := match st with
  | .inr (.inr q) :: r => if q.1 = c then (if 98 ≤ ct_rt c j then some (ls, .inl (h.1 q.2 j) :: r, h) else some (ls, .inr (.inr (ct_rt c j, G.1 q.2 j)) :: r, h)) else none
  | _ => none
def ct_put (c j : Nat) (ls : ct_L) (st : List ct_PV) (h : ct_H) : Option ct_S := match st with
  | .inl v :: .inr (.inr q) :: r => if q.1 = c then (if ct_rt c j = 99 then some (ls, r, ct_wF h q.2 j v) else if ct_rt c j = 98 then (if v = 0 ∨ v = 1 then some (ls, r, ct_wF h q.2 j v) else none) else none) else none
  | _ => none
def ct_bop (f : Int32 → Int32 → Int32) (a b : Int) : Int := (f (Int32.ofInt a) (Int32.ofInt b)).toInt
def ct_st1 (G : ct_G) (mL : Nat) (q : ct_I) (ls : ct_L) (st : List ct_PV) (h : ct_H) : Option ct_S := match q.2.1 with
  | .iconst n => if -1 ≤ n ∧ n ≤ 5 then some (ls, .inl n :: st, h) else none
  | .bipush n => if -128 ≤ n ∧ n ≤ 127 then some (ls, .inl n :: st, h) else none
  | .sipush n => if -32768 ≤ n ∧ n ≤ 32767 then some (ls, .inl n :: st, h) else none
  | .lconst n => some (ls, .inr (.inl (Int64.ofNat n.val)) :: st, h)
  | .iload_n k => ct_ldI ls k.val st h
  | .iload k => ct_ldI ls k st h
  | .lload_n k => ct_ldL ls k.val st h
  | .lload k => ct_ldL ls k st h
  | .aload_n k => ct_ldA ls k.val st h
  | .aload k => ct_ldA ls k st h
  | .istore_n k => ct_stI mL ls k.val st h
  | .istore k => ct_stI mL ls k st h
  | .lstore_n k => ct_stL mL ls k.val st h
  | .lstore k => ct_stL mL ls k st h
  | .astore_n k => ct_stA mL ls k.val st h
  | .astore k => ct_stA mL ls k st h
  | .iinc k n => match ct_lk ls k with
    | some (.inl a) => if k < mL then some (ct_sto ls k (.inl (ct_wr (a + n))), st, h) else none
    | _ => none
  | .iadd => ct_bI (fun a b => ct_wr (a + b)) ls st h
  | .isub => ct_bI (fun a b => ct_wr (a - b)) ls st h
  | .imul => ct_bI (fun a b => ct_wr (a * b)) ls st h
  | .iand => ct_bI (ct_bop (fun x y => x &&& y)) ls st h
  | .ior => ct_bI (ct_bop (fun x y => x ||| y)) ls st h
  | .ixor => ct_bI (ct_bop (fun x y => x ^^^ y)) ls st h
  | .ishl => ct_bI (ct_bop (fun x y => x <<< (y &&& 31))) ls st h
  | .ishr => ct_bI (ct_bop (fun x y => x >>> (y &&& 31))) ls st h
  | .ladd => ct_bL (fun a b => a + b) ls st h
  | .lsub => ct_bL (fun a b => a - b) ls st h
  | .land => ct_bL (fun a b => a &&& b) ls st h
  | .lor => ct_bL (fun a b => a ||| b) ls st h
  | .lxor => ct_bL (fun a b => a ^^^ b) ls st h
  | .lshl => ct_bS (fun a b => a <<< ((Int32.ofInt b).toInt64 &&& 63)) ls st h
  | .lshr => ct_bS (fun a b => a >>> ((Int32.ofInt b).toInt64 &&& 63)) ls st h
  | .lushr => ct_bS (fun a b => (a.toUInt64 >>> ((Int32.ofInt b).toInt64.toUInt64 &&& Int64.toUInt64 63)).toInt64) ls st h
  | .i2b => ct_u (fun a => (Int32.ofInt a).toInt8.toInt32.toInt) ls st h
  | .i2s => ct_u (fun a => (Int32.ofInt a).toInt16.toInt32.toInt) ls st h
  | .i2c => ct_u (fun a => ((Int32.ofInt a).toUInt32 % 65536).toInt32.toInt) ls st h
  | .i2l => match st with
    | .inl a :: r => some (ls, .inr (.inl (Int32.ofInt a).toInt64) :: r, h)
    | _ => none
  | .l2i => match st with
    | .inr (.inl a) :: r => some (ls, .inl a.toInt32.toInt :: r, h)
    | _ => none
  | .lcmp => match st with
    | .inr (.inl b) :: .inr (.inl a) :: r => some (ls, .inl (lg_cmp a b).toInt :: r, h)
    | _ => none
  | .dup => match st with
    | v :: r => if ct_cat v = 1 then some (ls, v :: v :: r, h) else none
    | _ => none
  | .dup2 => match st with
    | v :: w :: r => if ct_cat v = 1 ∧ ct_cat w = 1 then some (ls, v :: w :: v :: w :: r, h) else none
    | _ => none
  | .arraylength => match st with
    | .inr (.inr q) :: r => if 8 ≤ q.1 ∧ q.1 ≤ 14 then some (ls, .inl (G.2 q.2 : Int) :: r, h) else none
    | _ => none
  | .getfield _ => ct_get G (q.2.2.2 / 64) (q.2.2.2 % 64) ls st h
  | .putfield _ => ct_put (q.2.2.2 / 64) (q.2.2.2 % 64) ls st h
  | _ => none
def ct_len (i : Instr) : Nat := match i with
  | .bipush _ => 2
  | .sipush _ => 3
  | .iload _ => 2
  | .lload _ => 2
  | .aload _ => 2
  | .istore _ => 2
  | .lstore _ => 2
  | .astore _ => 2
  | .iinc _ _ => 3
  | .getfield _ => 3
  | .putfield _ => 3
  | _ => 1
/-- what the tables must say of a row of a method's list -/
def ct_fok (own : String) (q : ct_I) : Prop := match q.2.1 with
  | .getfield idx => q.2.2.2 / 64 < 8 ∧ q.2.2.2 % 64 < ct_N (q.2.2.2 / 64) ∧ Cond.fieldLink own idx (ct_T (q.2.2.2 / 64) (q.2.2.2 % 64)).1 (ct_T (q.2.2.2 / 64) (q.2.2.2 % 64)).2.1 (ct_T (q.2.2.2 / 64) (q.2.2.2 % 64)).2.2.1 ∈ ct_GW
  | .putfield idx => q.2.2.2 / 64 < 8 ∧ q.2.2.2 % 64 < ct_N (q.2.2.2 / 64) ∧ Cond.fieldLink own idx (ct_T (q.2.2.2 / 64) (q.2.2.2 % 64)).1 (ct_T (q.2.2.2 / 64) (q.2.2.2 % 64)).2.1 (ct_T (q.2.2.2 / 64) (q.2.2.2 % 64)).2.2.1 ∈ ct_GW ∧ (98 ≤ ct_rt (q.2.2.2 / 64) (q.2.2.2 % 64) → (ct_T (q.2.2.2 / 64) (q.2.2.2 % 64)).2.2.2 = false)
  | _ => True
theorem ct_lk_mem {k : Nat} {v : ct_PV} : ∀ {ls : ct_L}, ct_lk ls k = some v → (k, v) ∈ ls
  | [], h => by cases h
  | q :: r, h => by
    unfold ct_lk at h
    split at h
    · rename_i e
      cases h
      subst e
      exact List.mem_cons_self
    · exact List.mem_cons_of_mem _ (ct_lk_mem h)
theorem ct_lk_idx {ad : Nat → Nat} {ls : ct_L} {k : Nat} {v : ct_PV} (h : ct_lk ls k = some v) : ∃ j : Nat, (ls.map fun q => (q.1, ct_mv ad q.2))[j]? = some (k, ct_mv ad v) := by
  obtain ⟨j, hj⟩ := List.getElem?_of_mem (ct_lk_mem h)
  exact ⟨j, by rw [List.getElem?_map, hj]; rfl⟩
theorem ct_sto_map (ad : Nat → Nat) (ls : ct_L) (k : Nat) (v : ct_PV) : (k, ct_mv ad v) :: (ls.map fun q => (q.1, ct_mv ad q.2)).filter (fun q => !(q.1 == k) && !(q.1 + 1 == k && q.2.category == 2)) = (ct_sto ls k v).map fun q => (q.1, ct_mv ad q.2) := by
  unfold ct_sto
  rw [List.map_cons, List.filter_map]
  congr 2
  apply congrArg (List.filter · ls)
  funext q
  simp [Function.comp, ct_cat_mv]
theorem ct_stoL_map (ad : Nat → Nat) (ls : ct_L) (k : Nat) (v : ct_PV) : (k, ct_mv ad v) :: (ls.map fun q => (q.1, ct_mv ad q.2)).filter (fun q => !(q.1 == k) && (!(q.1 == k + 1) && !(q.1 + 1 == k && q.2.category == 2))) = (ct_stoL ls k v).map fun q => (q.1, ct_mv ad q.2) := by
  unfold ct_stoL
  rw [List.map_cons, List.filter_map]
  congr 2
  apply congrArg (List.filter · ls)
  funext q
  simp [Function.comp, ct_cat_mv]
theorem ct_sto_ok {K : Nat → Nat} {n : Nat} {ls : ct_L} {k : Nat} {v : ct_PV} (h : ∀ q ∈ ls, ct_ok K n q.2) (hv : ct_ok K n v) : ∀ q ∈ ct_sto ls k v, ct_ok K n q.2 := by
  intro q hq
  rcases List.mem_cons.mp hq with e | e
  · rw [e]; exact hv
  · exact h q (List.mem_filter.mp e).1
theorem ct_stoL_ok {K : Nat → Nat} {n : Nat} {ls : ct_L} {k : Nat} {v : ct_PV} (h : ∀ q ∈ ls, ct_ok K n q.2) (hv : ct_ok K n v) : ∀ q ∈ ct_stoL ls k v, ct_ok K n q.2 := by
  intro q hq
  rcases List.mem_cons.mp hq with e | e
  · rw [e]; exact hv
  · exact h q (List.mem_filter.mp e).1
theorem ct_cons_ok {K : Nat → Nat} {n : Nat} {v : ct_PV} {r : List ct_PV} (hv : ct_ok K n v) (h : ∀ w ∈ r, ct_ok K n w) : ∀ w ∈ v :: r, ct_ok K n w := by
  intro w hw
  rcases List.mem_cons.mp hw with e | e
  · rw [e]; exact hv
  · exact h w e
theorem ct_tl {K : Nat → Nat} {n : Nat} {v : ct_PV} {r : List ct_PV} (h : ∀ w ∈ v :: r, ct_ok K n w) : ∀ w ∈ r, ct_ok K n w := fun w hw => h w (List.mem_cons_of_mem _ hw)
theorem ct_hd {K : Nat → Nat} {n : Nat} {v : ct_PV} {r : List ct_PV} (h : ∀ w ∈ v :: r, ct_ok K n w) : ct_ok K n v := h v List.mem_cons_self
theorem ct_cell_obj {cA : Nat → ClassId} {ad : Nat → Nat} {G : ct_G} {K : Nat → Nat} {h : ct_H} {i : Nat} (hk : K i < 8) : ct_cell cA ad G K h i = .inr (K i, (List.range (ct_N (K i))).map (fun j => if 98 ≤ ct_rt (K i) j then Value.int (Int32.ofInt (h.1 i j)) else Value.ref (ad (G.1 i j)))) := by
  unfold ct_cell
  rw [if_pos hk]
theorem ct_cell_int {cA : Nat → ClassId} {ad : Nat → Nat} {G : ct_G} {K : Nat → Nat} {h : ct_H} {i : Nat} (h1 : 8 ≤ K i) (h2 : K i ≤ 10) : ct_cell cA ad G K h i = .inl (cA (K i), G.2 i, .inl (fun j => Int32.ofInt (h.1 i j))) := by
  unfold ct_cell
  rw [if_neg (by omega), if_pos h2]
theorem ct_cell_long {cA : Nat → ClassId} {ad : Nat → Nat} {G : ct_G} {K : Nat → Nat} {h : ct_H} {i : Nat} (h1 : K i = 11) : ct_cell cA ad G K h i = .inl (cA 11, G.2 i, .inr (.inl (fun j => h.2 i j))) := by
  unfold ct_cell
  rw [if_neg (by omega), if_neg (by omega), if_pos h1]
theorem ct_cell_ref {cA : Nat → ClassId} {ad : Nat → Nat} {G : ct_G} {K : Nat → Nat} {h : ct_H} {i : Nat} (h1 : 12 ≤ K i) : ct_cell cA ad G K h i = .inl (cA (K i), G.2 i, .inr (.inr (.inr (.inr (fun j => some (ad (G.1 i j))))))) := by
  unfold ct_cell
  rw [if_neg (by omega), if_neg (by omega), if_neg (by omega)]
theorem ct_cell_wF_ne {cA : Nat → ClassId} {ad : Nat → Nat} {G : ct_G} {K : Nat → Nat} {h : ct_H} {i j : Nat} {v : Int} : ∀ a, a ≠ i → ct_cell cA ad G K (ct_wF h i j v) a = ct_cell cA ad G K h a := by
  intro a ha
  unfold ct_cell ct_wF
  simp [ha]
theorem ct_cell_wL_ne {cA : Nat → ClassId} {ad : Nat → Nat} {G : ct_G} {K : Nat → Nat} {h : ct_H} {i j : Nat} {v : Int64} : ∀ a, a ≠ i → ct_cell cA ad G K (ct_wL h i j v) a = ct_cell cA ad G K h a := by
  intro a ha
  unfold ct_cell ct_wL
  simp [ha]
end
section
/-! one instruction on the pure pictures is the machine's -/
theorem ct_ofInt_add (a b : Int) : Int32.ofInt a + Int32.ofInt b = Int32.ofInt (ct_wr (a + b)) := by rw [ct_ofInt_wr, Int32.ofInt_add]
theorem ct_ofInt_sub (a b : Int) : Int32.ofInt a - Int32.ofInt b = Int32.ofInt (ct_wr (a - b)) := by rw [ct_ofInt_wr, Int32.ofInt_sub]
theorem ct_ofInt_mul (a b : Int) : Int32.ofInt a * Int32.ofInt b = Int32.ofInt (ct_wr (a * b)) := by rw [ct_ofInt_wr, Int32.ofInt_mul]
section
variable {p : Program} {l : Launch} {e : Env} {R : Room} {s : State} {m : MethodId} {args : Array Value} {below : List Frame} {meth : Method} {c : Code} {maxL : Nat} {bytes : ByteArray} {own : String} {A : Nat → Prop} {D : va_G} {cA : Nat → ClassId} {ad : Nat → Nat} {G : ct_G} {K : Nat → Nat} {n d cells slots : Nat} {Q : State → Prop} {pc : Nat} {ls : ct_L} {st : List ct_PV} {h : ct_H}
theorem ct_pushOk {len : Nat} {v : ct_PV} (row : ∀ (H : Heap) (locs : List Loc) (lm : Array Slot) (rest : List Value), lv_has lm maxL (ls.map fun q => (q.1, ct_mv ad q.2)) → W p l e R s m args below meth c H locs cells slots Q (F0 m (pc + len) lm (ct_mv ad v :: rest)) → W p l e R s m args below meth c H locs cells slots Q (F0 m pc lm rest))
    (hv : (∀ q ∈ ls, ct_ok K n q.2) → ct_ok K n v) (k : ct_V p l e R s m args below meth c maxL A D cA ad G K n cells slots Q (pc + len) ls (v :: st) h) : ct_V p l e R s m args below meth c maxL A D cA ad G K n cells slots Q pc ls st h := by
  intro H locs lm hP hS hl ho hs hh
  exact row H locs lm _ hl (k H locs lm hP hS hl ho (ct_cons_ok (hv ho) hs) hh)
theorem ct_bIOk {f : Int → Int → Int} {g : Int32 → Int32 → Int32} {a b : Int} {r : List ct_PV} (row : ∀ (H : Heap) (locs : List Loc) (lm : Array Slot) (rest : List Value) (x y : Int32), W p l e R s m args below meth c H locs cells slots Q (F0 m (pc + 1) lm (.int (g x y) :: rest)) → W p l e R s m args below meth c H locs cells slots Q (F0 m pc lm (.int y :: .int x :: rest)))
    (hg : g (Int32.ofInt a) (Int32.ofInt b) = Int32.ofInt (f a b)) (hf : ct_in (f a b)) (k : ct_V p l e R s m args below meth c maxL A D cA ad G K n cells slots Q (pc + 1) ls (.inl (f a b) :: r) h) : ct_V p l e R s m args below meth c maxL A D cA ad G K n cells slots Q pc ls (.inl b :: .inl a :: r) h := by
  intro H locs lm hP hS hl ho hs hh
  refine row H locs lm _ _ _ ?_
  rw [hg]
  exact k H locs lm hP hS hl ho (ct_cons_ok hf (ct_tl (ct_tl hs))) hh
theorem ct_bLOk {g : Int64 → Int64 → Int64} {a b : Int64} {r : List ct_PV} (row : ∀ (H : Heap) (locs : List Loc) (lm : Array Slot) (rest : List Value) (x y : Int64), W p l e R s m args below meth c H locs cells slots Q (F0 m (pc + 1) lm (.long (g x y) :: rest)) → W p l e R s m args below meth c H locs cells slots Q (F0 m pc lm (.long y :: .long x :: rest)))
    (k : ct_V p l e R s m args below meth c maxL A D cA ad G K n cells slots Q (pc + 1) ls (.inr (.inl (g a b)) :: r) h) : ct_V p l e R s m args below meth c maxL A D cA ad G K n cells slots Q pc ls (.inr (.inl b) :: .inr (.inl a) :: r) h := by
  intro H locs lm hP hS hl ho hs hh
  exact row H locs lm _ _ _ (k H locs lm hP hS hl ho (ct_cons_ok trivial (ct_tl (ct_tl hs))) hh)
theorem ct_bSOk {f : Int64 → Int → Int64} {a : Int64} {b : Int} {r : List ct_PV} (row : ∀ (H : Heap) (locs : List Loc) (lm : Array Slot) (rest : List Value), W p l e R s m args below meth c H locs cells slots Q (F0 m (pc + 1) lm (.long (f a b) :: rest)) → W p l e R s m args below meth c H locs cells slots Q (F0 m pc lm (.int (Int32.ofInt b) :: .long a :: rest)))
    (k : ct_V p l e R s m args below meth c maxL A D cA ad G K n cells slots Q (pc + 1) ls (.inr (.inl (f a b)) :: r) h) : ct_V p l e R s m args below meth c maxL A D cA ad G K n cells slots Q pc ls (.inl b :: .inr (.inl a) :: r) h := by
  intro H locs lm hP hS hl ho hs hh
  exact row H locs lm _ (k H locs lm hP hS hl ho (ct_cons_ok trivial (ct_tl (ct_tl hs))) hh)
theorem ct_uOk {f : Int → Int} {a : Int} {r : List ct_PV} (row : ∀ (H : Heap) (locs : List Loc) (lm : Array Slot) (rest : List Value), W p l e R s m args below meth c H locs cells slots Q (F0 m (pc + 1) lm (.int (Int32.ofInt (f a)) :: rest)) → W p l e R s m args below meth c H locs cells slots Q (F0 m pc lm (.int (Int32.ofInt a) :: rest)))
    (hf : ct_in (f a)) (k : ct_V p l e R s m args below meth c maxL A D cA ad G K n cells slots Q (pc + 1) ls (.inl (f a) :: r) h) : ct_V p l e R s m args below meth c maxL A D cA ad G K n cells slots Q pc ls (.inl a :: r) h := by
  intro H locs lm hP hS hl ho hs hh
  exact row H locs lm _ (k H locs lm hP hS hl ho (ct_cons_ok hf (ct_tl hs)) hh)
theorem ct_stoOk {len i : Nat} {v : ct_PV} {r : List ct_PV} (hc : ct_cat v = 1) (hi : i < maxL) (row : ∀ (H : Heap) (locs : List Loc) (lm : Array Slot) (rest : List Value) (lv lv' : List (Nat × Value)), lv_has lm maxL lv → (i, ct_mv ad v) :: lv.filter (fun q => !(q.1 == i) && !(q.1 + 1 == i && q.2.category == 2)) = lv' → (∀ ls' : Array Slot, lv_has ls' maxL lv' → W p l e R s m args below meth c H locs cells slots Q (F0 m (pc + len) ls' rest)) → W p l e R s m args below meth c H locs cells slots Q (F0 m pc lm (ct_mv ad v :: rest)))
    (k : ct_V p l e R s m args below meth c maxL A D cA ad G K n cells slots Q (pc + len) (ct_sto ls i v) r h) : ct_V p l e R s m args below meth c maxL A D cA ad G K n cells slots Q pc ls (v :: r) h := by
  intro H locs lm hP hS hl ho hs hh
  exact row H locs lm _ _ _ hl (ct_sto_map ad ls i v) (fun ls' hl' => k H locs ls' hP hS hl' (ct_sto_ok ho (ct_hd hs)) (ct_tl hs) hh)
theorem ct_stoLOk {len i : Nat} {v : ct_PV} {r : List ct_PV} (hi : i + 1 < maxL) (row : ∀ (H : Heap) (locs : List Loc) (lm : Array Slot) (rest : List Value) (lv lv' : List (Nat × Value)), lv_has lm maxL lv → (i, ct_mv ad v) :: lv.filter (fun q => !(q.1 == i) && (!(q.1 == i + 1) && !(q.1 + 1 == i && q.2.category == 2))) = lv' → (∀ ls' : Array Slot, lv_has ls' maxL lv' → W p l e R s m args below meth c H locs cells slots Q (F0 m (pc + len) ls' rest)) → W p l e R s m args below meth c H locs cells slots Q (F0 m pc lm (ct_mv ad v :: rest)))
    (k : ct_V p l e R s m args below meth c maxL A D cA ad G K n cells slots Q (pc + len) (ct_stoL ls i v) r h) : ct_V p l e R s m args below meth c maxL A D cA ad G K n cells slots Q pc ls (v :: r) h := by
  intro H locs lm hP hS hl ho hs hh
  exact row H locs lm _ _ _ hl (ct_stoL_map ad ls i v) (fun ls' hl' => k H locs ls' hP hS hl' (ct_stoL_ok ho (ct_hd hs)) (ct_tl hs) hh)
theorem ct_getOk (C : ct_Cx p R s m args c bytes maxL own A D cA ad G K n d cells slots) {idx cc j : Nat} {q : Nat × Nat} {v : ct_PV} {r : List ct_PV} (hcc : cc < 8) (hj : j < ct_N cc) (hw : Cond.fieldLink own idx (ct_T cc j).1 (ct_T cc j).2.1 (ct_T cc j).2.2.1 ∈ ct_GW) (hq : q.1 = cc) (hv : v = if 98 ≤ ct_rt cc j then .inl (h.1 q.2 j) else .inr (.inr (ct_rt cc j, G.1 q.2 j))) (hdec : decode bytes pc = .ok (.getfield idx, 3))
    (k : ct_V p l e R s m args below meth c maxL A D cA ad G K n cells slots Q (pc + 3) ls (v :: r) h) : ct_V p l e R s m args below meth c maxL A D cA ad G K n cells slots Q pc ls (.inr (.inr q) :: r) h := by
  obtain ⟨hx, hb, hml, hown, hts, hK, hD, hWT, hR, -⟩ := C
  intro H locs lm hP hS hl ho hs hh
  have hq0 := ct_hd hs
  rcases hq0 with ⟨hn, hk⟩ | ⟨hk, -⟩
  case inr => omega
  have hk2 : K q.2 = cc := hk.trans hq
  have hcell := ct_ws_get (cA := cA) (ad := ad) (G := G) (K := K) (h := h) hn
  rw [ct_cell_obj (by omega), hk2] at hcell
  have hvo : ct_ok K n v := by
    rw [hv]
    split
    · exact hh _ _
    · rename_i hge
      have hz := (hWT q.2 hn).2.2.1 (by omega) j (by rw [hk2]; exact hj) (by rw [hk2]; omega)
      rw [hk2] at hz
      exact Or.inl hz
  refine va_get (D := D) (ci := cc) (C := ct_R cc) (T := ct_T cc) (N := ct_N cc) (v := ct_mv ad v) hx hb hts (ct_lays cc hcc) hown hK hP q.2 hcell (ct_cl_get cc hcc) j hj (hts _ hw) (fun _ z => z) ?_ hdec (k H locs lm hP hS hl ho (ct_cons_ok hvo (ct_tl hs)) hh)
  rw [List.getElem?_map, List.getElem?_range hj, hv]
  show some (if 98 ≤ ct_rt cc j then Value.int (Int32.ofInt (h.1 q.2 j)) else Value.ref (ad (G.1 q.2 j))) = some _
  split <;> rfl
theorem ct_fitB {v : Int} (hv : v = 0 ∨ v = 1) : narrow .boolean (.int (Int32.ofInt v)) = .int (Int32.ofInt v) ∧ fits .boolean (.int (Int32.ofInt v)) = true := by
  rcases hv with rfl | rfl <;> decide +kernel
theorem ct_fitI {v : Int32} : narrow .int (.int v) = .int v ∧ fits .int (.int v) = true := ⟨rfl, rfl⟩
theorem ct_putOk (C : ct_Cx p R s m args c bytes maxL own A D cA ad G K n d cells slots) {idx cc j : Nat} {q : Nat × Nat} {v : Int} {r : List ct_PV} (hcc : cc < 8) (hj : j < ct_N cc) (hw : Cond.fieldLink own idx (ct_T cc j).1 (ct_T cc j).2.1 (ct_T cc j).2.2.1 ∈ ct_GW) (hfin : (ct_T cc j).2.2.2 = false) (hq : q.1 = cc) (hv : ct_rt cc j = 99 ∨ (ct_rt cc j = 98 ∧ (v = 0 ∨ v = 1))) (hdec : decode bytes pc = .ok (.putfield idx, 3))
    (k : ct_V p l e R s m args below meth c maxL A D cA ad G K n cells slots Q (pc + 3) ls r (ct_wF h q.2 j v)) : ct_V p l e R s m args below meth c maxL A D cA ad G K n cells slots Q pc ls (.inl v :: .inr (.inr q) :: r) h := by
  obtain ⟨hx, hb, hml, hown, hts, hK, hD, hWT, hR, -⟩ := C
  intro H locs lm hP hS hl ho hs hh
  have hv0 : ct_in v := ct_hd hs
  have hq0 := ct_hd (ct_tl hs)
  rcases hq0 with ⟨hn, hk⟩ | ⟨hk, -⟩
  case inr => omega
  have hk2 : K q.2 = cc := hk.trans hq
  have hcell := ct_ws_get (cA := cA) (ad := ad) (G := G) (K := K) (h := h) hn
  rw [ct_cell_obj (by omega), hk2] at hcell
  have hty := ct_ty_int cc hcc j hj
  have hfit : narrow (ct_ty cc j) (.int (Int32.ofInt v)) = .int (Int32.ofInt v) ∧ fits (ct_ty cc j) (.int (Int32.ofInt v)) = true := by
    rcases hv with h1 | ⟨h1, h2⟩
    · rw [hty.1 h1]; exact ct_fitI
    · rw [hty.2 h1]; exact ct_fitB h2
  refine va_put (D := D) (ci := cc) (C := ct_R cc) (T := ct_T cc) (N := ct_N cc) (v := .int (Int32.ofInt v)) (ty := ct_ty cc j) hx hb hts (ct_lays cc hcc) (ct_ty cc) (ct_ty_ok cc hcc) (ct_nm cc hcc) hown hK hP (ct_wsD hD.1 hD.2) hS q.2 hcell (ct_cl_get cc hcc) j hj (hts _ hw) (fun _ z => z) hfin (ct_ty_ok cc hcc j hj) hfit.1 hfit.2 (by simpa using hj) hdec (fun H1 locs1 hP1 hD1 hS1 => ?_)
  have he : (ct_ws cA ad G K n h).set q.2 (ad q.2, .inr (cc, ((List.range (ct_N cc)).map (fun j => if 98 ≤ ct_rt cc j then Value.int (Int32.ofInt (h.1 q.2 j)) else Value.ref (ad (G.1 q.2 j)))).set j (.int (Int32.ofInt v)))) = ct_ws cA ad G K n (ct_wF h q.2 j v) := by
    refine ct_ws_set ?_ ct_cell_wF_ne
    rw [ct_cell_obj (by omega), hk2]
    congr 2
    apply List.ext_getElem?
    intro i
    rw [List.getElem?_set, List.getElem?_map, List.getElem?_map]
    by_cases hi : j = i
    · subst hi
      rw [if_pos rfl, if_pos (by simpa using hj), List.getElem?_range hj]
      have h98 : 98 ≤ ct_rt cc j := by omega
      simp [ct_wF, h98]
    · rw [if_neg hi]
      by_cases hi2 : i < ct_N cc
      · rw [List.getElem?_range hi2]
        show some _ = some _
        have : ¬ i = j := fun z => hi z.symm
        simp [ct_wF, this]
      · rw [List.getElem?_eq_none (by simpa using Nat.le_of_not_lt hi2)]
        rfl
  rw [he] at hP1
  exact k H1 locs1 lm hP1 hS1 hl ho (ct_tl (ct_tl hs)) (ct_hin_wF hh hv0)
end
end
section
/-! a straight stretch on the pure pictures is the machine's -/
section
variable {p : Program} {l : Launch} {e : Env} {R : Room} {s : State} {m : MethodId} {args : Array Value} {below : List Frame} {meth : Method} {c : Code} {maxL : Nat} {bytes : ByteArray} {own : String} {A : Nat → Prop} {D : va_G} {cA : Nat → ClassId} {ad : Nat → Nat} {G : ct_G} {K : Nat → Nat} {n d cells slots : Nat} {Q : State → Prop}
set_option maxHeartbeats 4000000 in
theorem ct_st1_ok (C : ct_Cx p R s m args c bytes maxL own A D cA ad G K n d cells slots) {q : ct_I} (hdec : decode bytes q.1 = .ok (q.2.1, q.2.2.1)) (hlen : q.2.2.1 = ct_len q.2.1) (hf : ct_fok own q) {ls ls' : ct_L} {st st' : List ct_PV} {h h' : ct_H} (hs : ct_st1 G maxL q ls st h = some (ls', st', h'))
    (k : ct_V p l e R s m args below meth c maxL A D cA ad G K n cells slots Q (q.1 + q.2.2.1) ls' st' h') : ct_V p l e R s m args below meth c maxL A D cA ad G K n cells slots Q q.1 ls st h := by
  obtain ⟨pc, ins, len, aux⟩ := q
  dsimp only at hdec hlen k ⊢
  have hx := C.1
  have hb := C.2.1
  have ldI : ∀ {j : Nat}, ct_ldI ls j st h = some (ls', st', h') → ∃ a, ct_lk ls j = some (.inl a) ∧ ls' = ls ∧ st' = .inl a :: st ∧ h' = h := by
    intro j hj
    unfold ct_ldI at hj
    split at hj
    · rename_i a ha
      cases hj
      exact ⟨a, ha, rfl, rfl, rfl⟩
    · cases hj
  have ldL : ∀ {j : Nat}, ct_ldL ls j st h = some (ls', st', h') → ∃ a, ct_lk ls j = some (.inr (.inl a)) ∧ ls' = ls ∧ st' = .inr (.inl a) :: st ∧ h' = h := by
    intro j hj
    unfold ct_ldL at hj
    split at hj
    · rename_i a ha
      cases hj
      exact ⟨a, ha, rfl, rfl, rfl⟩
    · cases hj
  have ldA : ∀ {j : Nat}, ct_ldA ls j st h = some (ls', st', h') → ∃ a, ct_lk ls j = some (.inr (.inr a)) ∧ ls' = ls ∧ st' = .inr (.inr a) :: st ∧ h' = h := by
    intro j hj
    unfold ct_ldA at hj
    split at hj
    · rename_i a ha
      cases hj
      exact ⟨a, ha, rfl, rfl, rfl⟩
    · cases hj
  have stI : ∀ {j : Nat}, ct_stI maxL ls j st h = some (ls', st', h') → ∃ a, st = .inl a :: st' ∧ j < maxL ∧ ls' = ct_sto ls j (.inl a) ∧ h' = h := by
    intro j hj
    unfold ct_stI at hj
    split at hj
    · split at hj
      · rename_i a r hlt
        cases hj
        exact ⟨_, rfl, hlt, rfl, rfl⟩
      · cases hj
    · cases hj
  have stA : ∀ {j : Nat}, ct_stA maxL ls j st h = some (ls', st', h') → ∃ a, st = .inr (.inr a) :: st' ∧ j < maxL ∧ ls' = ct_sto ls j (.inr (.inr a)) ∧ h' = h := by
    intro j hj
    unfold ct_stA at hj
    split at hj
    · split at hj
      · rename_i a r hlt
        cases hj
        exact ⟨_, rfl, hlt, rfl, rfl⟩
      · cases hj
    · cases hj
  have stL : ∀ {j : Nat}, ct_stL maxL ls j st h = some (ls', st', h') → ∃ a, st = .inr (.inl a) :: st' ∧ j + 1 < maxL ∧ ls' = ct_stoL ls j (.inr (.inl a)) ∧ h' = h := by
    intro j hj
    unfold ct_stL at hj
    split at hj
    · split at hj
      · rename_i a r hlt
        cases hj
        exact ⟨_, rfl, hlt, rfl, rfl⟩
      · cases hj
    · cases hj
  have bI : ∀ {f : Int → Int → Int}, ct_bI f ls st h = some (ls', st', h') → ∃ a b r, st = .inl b :: .inl a :: r ∧ ls' = ls ∧ st' = .inl (f a b) :: r ∧ h' = h := by
    intro f hj
    unfold ct_bI at hj
    split at hj
    · cases hj
      exact ⟨_, _, _, rfl, rfl, rfl, rfl⟩
    · cases hj
  have bL : ∀ {f : Int64 → Int64 → Int64}, ct_bL f ls st h = some (ls', st', h') → ∃ a b r, st = .inr (.inl b) :: .inr (.inl a) :: r ∧ ls' = ls ∧ st' = .inr (.inl (f a b)) :: r ∧ h' = h := by
    intro f hj
    unfold ct_bL at hj
    split at hj
    · cases hj
      exact ⟨_, _, _, rfl, rfl, rfl, rfl⟩
    · cases hj
  have bS : ∀ {f : Int64 → Int → Int64}, ct_bS f ls st h = some (ls', st', h') → ∃ a b r, st = .inl b :: .inr (.inl a) :: r ∧ ls' = ls ∧ st' = .inr (.inl (f a b)) :: r ∧ h' = h := by
    intro f hj
    unfold ct_bS at hj
    split at hj
    · cases hj
      exact ⟨_, _, _, rfl, rfl, rfl, rfl⟩
    · cases hj
  have bU : ∀ {f : Int → Int}, ct_u f ls st h = some (ls', st', h') → ∃ a r, st = .inl a :: r ∧ ls' = ls ∧ st' = .inl (f a) :: r ∧ h' = h := by
    intro f hj
    unfold ct_u at hj
    split at hj
    · cases hj
      exact ⟨_, _, rfl, rfl, rfl, rfl⟩
    · cases hj
  cases ins
  case iconst v =>
    subst hlen
    dsimp only [ct_st1] at hs
    split at hs
    · rename_i hv
      cases hs
      exact ct_pushOk (v := .inl v) (fun H locs lm rest _ kk => lv_iconst hx hb hdec rfl kk) (fun _ => by show ct_in v; unfold ct_in; omega) k
    · cases hs
  case bipush v =>
    subst hlen
    dsimp only [ct_st1] at hs
    split at hs
    · rename_i hv
      cases hs
      refine ct_pushOk (v := .inl v) (fun H locs lm rest _ kk => lv_bipush (v := Int32.ofInt v) hx hb hdec ?_ kk) (fun _ => by show ct_in v; unfold ct_in; omega) k
      apply Int32.toInt_inj.mp
      rw [Int8.toInt_toInt32, ct_toInt (by unfold ct_in; omega), Int8.toInt_ofInt]
      unfold Int.bmod
      simp only [Int8.size]
      split <;> omega
    · cases hs
  case sipush v =>
    subst hlen
    dsimp only [ct_st1] at hs
    split at hs
    · rename_i hv
      cases hs
      refine ct_pushOk (v := .inl v) (fun H locs lm rest _ kk => lv_sipush (v := Int32.ofInt v) hx hb hdec ?_ kk) (fun _ => by show ct_in v; unfold ct_in; omega) k
      apply Int32.toInt_inj.mp
      rw [Int16.toInt_toInt32, ct_toInt (by unfold ct_in; omega), Int16.toInt_ofInt]
      unfold Int.bmod
      simp only [Int16.size]
      split <;> omega
    · cases hs
  case lconst v =>
    subst hlen
    cases hs
    exact ct_pushOk (v := .inr (.inl _)) (fun H locs lm rest _ kk => lv_lconst hx hb hdec rfl kk) (fun _ => trivial) k
  case iload_n j =>
    subst hlen
    obtain ⟨a, ha, rfl, rfl, rfl⟩ := ldI hs
    obtain ⟨i, hi⟩ := ct_lk_idx (ad := ad) ha
    exact ct_pushOk (v := .inl a) (fun H locs lm rest hl kk => lv_iload_n hx hb hdec rfl (lv_at hl i hi) kk) (fun z => z _ (ct_lk_mem ha)) k
  case iload j =>
    subst hlen
    obtain ⟨a, ha, rfl, rfl, rfl⟩ := ldI hs
    obtain ⟨i, hi⟩ := ct_lk_idx (ad := ad) ha
    exact ct_pushOk (v := .inl a) (fun H locs lm rest hl kk => lv_iload hx hb hdec (lv_at hl i hi) kk) (fun z => z _ (ct_lk_mem ha)) k
  case lload_n j =>
    subst hlen
    obtain ⟨a, ha, rfl, rfl, rfl⟩ := ldL hs
    obtain ⟨i, hi⟩ := ct_lk_idx (ad := ad) ha
    exact ct_pushOk (v := .inr (.inl a)) (fun H locs lm rest hl kk => lv_lload_n hx hb hdec rfl (lv_at hl i hi) kk) (fun z => z _ (ct_lk_mem ha)) k
  case lload j =>
    subst hlen
    obtain ⟨a, ha, rfl, rfl, rfl⟩ := ldL hs
    obtain ⟨i, hi⟩ := ct_lk_idx (ad := ad) ha
    exact ct_pushOk (v := .inr (.inl a)) (fun H locs lm rest hl kk => lv_lload hx hb hdec (lv_at hl i hi) kk) (fun z => z _ (ct_lk_mem ha)) k
  case aload_n j =>
    subst hlen
    obtain ⟨a, ha, rfl, rfl, rfl⟩ := ldA hs
    obtain ⟨i, hi⟩ := ct_lk_idx (ad := ad) ha
    exact ct_pushOk (v := .inr (.inr a)) (fun H locs lm rest hl kk => lv_aload_n hx hb hdec rfl (lv_at hl i hi) kk) (fun z => z _ (ct_lk_mem ha)) k
  case aload j =>
    subst hlen
    obtain ⟨a, ha, rfl, rfl, rfl⟩ := ldA hs
    obtain ⟨i, hi⟩ := ct_lk_idx (ad := ad) ha
    exact ct_pushOk (v := .inr (.inr a)) (fun H locs lm rest hl kk => lv_aload hx hb hdec (lv_at hl i hi) kk) (fun z => z _ (ct_lk_mem ha)) k
  case istore_n j =>
    subst hlen
    obtain ⟨a, rfl, hj, rfl, rfl⟩ := stI hs
    exact ct_stoOk (v := .inl a) rfl hj (fun H locs lm rest lv lv' hl e kk => lv_istore_n hx hb hdec rfl hl hj e kk) k
  case istore j =>
    subst hlen
    obtain ⟨a, rfl, hj, rfl, rfl⟩ := stI hs
    exact ct_stoOk (v := .inl a) rfl hj (fun H locs lm rest lv lv' hl e kk => lv_istore hx hb hdec hl hj e kk) k
  case astore_n j =>
    subst hlen
    obtain ⟨a, rfl, hj, rfl, rfl⟩ := stA hs
    exact ct_stoOk (v := .inr (.inr a)) rfl hj (fun H locs lm rest lv lv' hl e kk => lv_astore_n hx hb hdec rfl hl hj e kk) k
  case astore j =>
    subst hlen
    obtain ⟨a, rfl, hj, rfl, rfl⟩ := stA hs
    exact ct_stoOk (v := .inr (.inr a)) rfl hj (fun H locs lm rest lv lv' hl e kk => lv_astore hx hb hdec hl hj e kk) k
  case lstore_n j =>
    subst hlen
    obtain ⟨a, rfl, hj, rfl, rfl⟩ := stL hs
    exact ct_stoLOk (v := .inr (.inl a)) hj (fun H locs lm rest lv lv' hl e kk => lv_lstore_n hx hb hdec rfl hl hj e kk) k
  case lstore j =>
    subst hlen
    obtain ⟨a, rfl, hj, rfl, rfl⟩ := stL hs
    exact ct_stoLOk (v := .inr (.inl a)) hj (fun H locs lm rest lv lv' hl e kk => lv_lstore hx hb hdec hl hj e kk) k
  case iinc j v =>
    subst hlen
    dsimp only [ct_st1] at hs
    split at hs
    · rename_i a ha
      split at hs
      · rename_i hj
        cases hs
        obtain ⟨i, hi⟩ := ct_lk_idx (ad := ad) ha
        intro H locs lm hP hS hl ho hos hh
        refine lv_iinc (k := i) (x := Int32.ofInt a) (v := Int32.ofInt (ct_wr (a + v))) hx hb hdec hl hi (ct_ofInt_add a v) hj (ct_sto_map ad ls j (.inl (ct_wr (a + v)))) (fun ls' hl' => k H locs ls' hP hS hl' (ct_sto_ok ho (ct_wr_in _)) hos hh)
      · cases hs
    · cases hs
  case iadd =>
    subst hlen
    obtain ⟨a, b, r, rfl, rfl, rfl, rfl⟩ := bI hs
    exact ct_bIOk (f := fun a b => ct_wr (a + b)) (g := fun x y => x + y) (fun H locs lm rest x y kk => lv_iadd hx hb hdec kk) (ct_ofInt_add a b) (ct_wr_in _) k
  case isub =>
    subst hlen
    obtain ⟨a, b, r, rfl, rfl, rfl, rfl⟩ := bI hs
    exact ct_bIOk (f := fun a b => ct_wr (a - b)) (g := fun x y => x - y) (fun H locs lm rest x y kk => lv_isub hx hb hdec kk) (ct_ofInt_sub a b) (ct_wr_in _) k
  case imul =>
    subst hlen
    obtain ⟨a, b, r, rfl, rfl, rfl, rfl⟩ := bI hs
    exact ct_bIOk (f := fun a b => ct_wr (a * b)) (g := fun x y => x * y) (fun H locs lm rest x y kk => lv_imul hx hb hdec kk) (ct_ofInt_mul a b) (ct_wr_in _) k
  case iand =>
    subst hlen
    obtain ⟨a, b, r, rfl, rfl, rfl, rfl⟩ := bI hs
    exact ct_bIOk (g := fun x y => x &&& y) (fun H locs lm rest x y kk => lv_iand hx hb hdec kk) (ct_of_toInt _).symm (ct_toInt_in _) k
  case ior =>
    subst hlen
    obtain ⟨a, b, r, rfl, rfl, rfl, rfl⟩ := bI hs
    exact ct_bIOk (g := fun x y => x ||| y) (fun H locs lm rest x y kk => lv_ior hx hb hdec kk) (ct_of_toInt _).symm (ct_toInt_in _) k
  case ixor =>
    subst hlen
    obtain ⟨a, b, r, rfl, rfl, rfl, rfl⟩ := bI hs
    exact ct_bIOk (g := fun x y => x ^^^ y) (fun H locs lm rest x y kk => lv_ixor hx hb hdec kk) (ct_of_toInt _).symm (ct_toInt_in _) k
  case ishl =>
    subst hlen
    obtain ⟨a, b, r, rfl, rfl, rfl, rfl⟩ := bI hs
    exact ct_bIOk (g := fun x y => x <<< (y &&& 31)) (fun H locs lm rest x y kk => lv_ishl hx hb hdec kk) (ct_of_toInt _).symm (ct_toInt_in _) k
  case ishr =>
    subst hlen
    obtain ⟨a, b, r, rfl, rfl, rfl, rfl⟩ := bI hs
    exact ct_bIOk (g := fun x y => x >>> (y &&& 31)) (fun H locs lm rest x y kk => lv_ishr hx hb hdec kk) (ct_of_toInt _).symm (ct_toInt_in _) k
  case ladd =>
    subst hlen
    obtain ⟨a, b, r, rfl, rfl, rfl, rfl⟩ := bL hs
    exact ct_bLOk (g := fun x y => x + y) (fun H locs lm rest x y kk => lv_ladd hx hb hdec kk) k
  case lsub =>
    subst hlen
    obtain ⟨a, b, r, rfl, rfl, rfl, rfl⟩ := bL hs
    exact ct_bLOk (g := fun x y => x - y) (fun H locs lm rest x y kk => lv_lsub hx hb hdec kk) k
  case land =>
    subst hlen
    obtain ⟨a, b, r, rfl, rfl, rfl, rfl⟩ := bL hs
    exact ct_bLOk (g := fun x y => x &&& y) (fun H locs lm rest x y kk => lv_land hx hb hdec kk) k
  case lor =>
    subst hlen
    obtain ⟨a, b, r, rfl, rfl, rfl, rfl⟩ := bL hs
    exact ct_bLOk (g := fun x y => x ||| y) (fun H locs lm rest x y kk => lv_lor hx hb hdec kk) k
  case lxor =>
    subst hlen
    obtain ⟨a, b, r, rfl, rfl, rfl, rfl⟩ := bL hs
    exact ct_bLOk (g := fun x y => x ^^^ y) (fun H locs lm rest x y kk => lv_lxor hx hb hdec kk) k
  case lshl =>
    subst hlen
    obtain ⟨a, b, r, rfl, rfl, rfl, rfl⟩ := bS hs
    exact ct_bSOk (f := fun a b => a <<< ((Int32.ofInt b).toInt64 &&& 63)) (fun H locs lm rest kk => lv_lshl hx hb hdec rfl kk) k
  case lshr =>
    subst hlen
    obtain ⟨a, b, r, rfl, rfl, rfl, rfl⟩ := bS hs
    exact ct_bSOk (f := fun a b => a >>> ((Int32.ofInt b).toInt64 &&& 63)) (fun H locs lm rest kk => lv_lshr hx hb hdec rfl kk) k
  case lushr =>
    subst hlen
    obtain ⟨a, b, r, rfl, rfl, rfl, rfl⟩ := bS hs
    exact ct_bSOk (f := fun a b => (a.toUInt64 >>> ((Int32.ofInt b).toInt64.toUInt64 &&& Int64.toUInt64 63)).toInt64) (fun H locs lm rest kk => lv_lushr hx hb hdec rfl kk) k
  case i2b =>
    subst hlen
    obtain ⟨a, r, rfl, rfl, rfl, rfl⟩ := bU hs
    exact ct_uOk (f := fun a => (Int32.ofInt a).toInt8.toInt32.toInt) (fun H locs lm rest kk => lv_i2b hx hb hdec (ct_of_toInt _).symm kk) (ct_toInt_in _) k
  case i2s =>
    subst hlen
    obtain ⟨a, r, rfl, rfl, rfl, rfl⟩ := bU hs
    exact ct_uOk (f := fun a => (Int32.ofInt a).toInt16.toInt32.toInt) (fun H locs lm rest kk => lv_i2s hx hb hdec (ct_of_toInt _).symm kk) (ct_toInt_in _) k
  case i2c =>
    subst hlen
    obtain ⟨a, r, rfl, rfl, rfl, rfl⟩ := bU hs
    exact ct_uOk (f := fun a => ((Int32.ofInt a).toUInt32 % 65536).toInt32.toInt) (fun H locs lm rest kk => lv_i2c hx hb hdec (ct_of_toInt _).symm kk) (ct_toInt_in _) k
  case i2l =>
    subst hlen
    dsimp only [ct_st1] at hs
    split at hs
    · cases hs
      intro H locs lm hP hS hl ho hos hh
      exact lv_i2l hx hb hdec rfl (k H locs lm hP hS hl ho (ct_cons_ok trivial (ct_tl hos)) hh)
    · cases hs
  case l2i =>
    subst hlen
    dsimp only [ct_st1] at hs
    split at hs
    · cases hs
      intro H locs lm hP hS hl ho hos hh
      exact lv_l2i hx hb hdec (ct_of_toInt _).symm (k H locs lm hP hS hl ho (ct_cons_ok (ct_toInt_in _) (ct_tl hos)) hh)
    · cases hs
  case lcmp =>
    subst hlen
    dsimp only [ct_st1] at hs
    split at hs
    · cases hs
      intro H locs lm hP hS hl ho hos hh
      have kk := k H locs lm hP hS hl ho (ct_cons_ok (ct_toInt_in _) (ct_tl (ct_tl hos))) hh
      simp only [List.map_cons, ct_mv, ct_of_toInt] at kk
      exact W.lcmp hx hb hdec kk
    · cases hs
  case dup =>
    subst hlen
    dsimp only [ct_st1] at hs
    split at hs
    · split at hs
      · rename_i v r hv
        cases hs
        intro H locs lm hP hS hl ho hos hh
        exact lv_dup hx hb hdec ((ct_cat_mv ad _).trans hv) (k H locs lm hP hS hl ho (ct_cons_ok (ct_hd hos) hos) hh)
      · cases hs
    · cases hs
  case dup2 =>
    subst hlen
    dsimp only [ct_st1] at hs
    split at hs
    · split at hs
      · rename_i v w r hv
        cases hs
        intro H locs lm hP hS hl ho hos hh
        exact lv_dup2_11 hx hb hdec ((ct_cat_mv ad _).trans hv.1) ((ct_cat_mv ad _).trans hv.2) (k H locs lm hP hS hl ho (ct_cons_ok (ct_hd hos) (ct_cons_ok (ct_hd (ct_tl hos)) hos)) hh)
      · cases hs
    · cases hs
  case arraylength =>
    subst hlen
    dsimp only [ct_st1] at hs
    split at hs
    · split at hs
      · rename_i v r hv
        cases hs
        obtain ⟨-, -, hml, hown, hts, hK, hD, hWT, hR, -⟩ := C
        intro H locs lm hP hS hl ho hos hh
        have hq0 := ct_hd hos
        rcases hq0 with ⟨hn, hk⟩ | ⟨hk, -⟩
        case inr => omega
        have hcell := ct_ws_get (cA := cA) (ad := ad) (G := G) (K := K) (h := h) hn
        have hlt : G.2 v.2 < 2147483648 := (hWT v.2 hn).2.1
        have kk := k H locs lm hP hS hl ho (ct_cons_ok (show ct_in _ by unfold ct_in; omega) (ct_tl hos)) hh
        have hty : ∃ (x : vp_A) (t0 : Nat) (cx : ClassId) (ty : FieldType), ct_cell cA ad G K h v.2 = .inl (cx, x) ∧ x.1 = G.2 v.2 ∧ (ct_tys cA)[t0]? = some (cx, ty) := by
          by_cases h10 : K v.2 ≤ 10
          · refine ⟨(G.2 v.2, _), K v.2 - 8, _, ?_, ct_cell_int (by omega) h10, rfl, ?_⟩
            · exact if K v.2 = 8 then .int else if K v.2 = 9 then .byte else .boolean
            · rcases (show K v.2 = 8 ∨ K v.2 = 9 ∨ K v.2 = 10 by omega) with h0 | h0 | h0 <;> rw [h0] <;> rfl
          · by_cases h11 : K v.2 = 11
            · exact ⟨(G.2 v.2, _), 3, _, .long, ct_cell_long h11, rfl, rfl⟩
            · refine ⟨(G.2 v.2, _), K v.2 - 8, _, ?_, ct_cell_ref (by omega), rfl, ?_⟩
              · exact if K v.2 = 12 then .object RX4 else if K v.2 = 13 then .array .int else .array .long
              · rcases (show K v.2 = 12 ∨ K v.2 = 13 ∨ K v.2 = 14 by omega) with h0 | h0 | h0 <;> rw [h0] <;> rfl
        obtain ⟨x, t0, cx, ty, e1, e2, e3⟩ := hty
        rw [e1] at hcell
        exact va_alen hx hb hK hP v.2 t0 hcell e3 (v := Int32.ofInt (G.2 v.2 : Int)) (by rw [e2]; rfl) hdec kk
      · cases hs
    · cases hs
  case getfield idx =>
    subst hlen
    obtain ⟨f1, f2, f3⟩ := hf
    dsimp only [ct_st1, ct_get] at hs
    split at hs
    · split at hs
      · rename_i v r hv
        split at hs
        · rename_i h98
          cases hs
          exact ct_getOk C f1 f2 f3 hv (by rw [if_pos h98]) hdec k
        · rename_i h98
          cases hs
          exact ct_getOk C f1 f2 f3 hv (by rw [if_neg h98]) hdec k
      · cases hs
    · cases hs
  case putfield idx =>
    subst hlen
    obtain ⟨f1, f2, f3, f4⟩ := hf
    dsimp only [ct_st1, ct_put] at hs
    split at hs
    · split at hs
      · rename_i v q r hv
        split at hs
        · rename_i h99
          cases hs
          exact ct_putOk C f1 f2 f3 (f4 (by dsimp only at h99 ⊢; omega)) hv (Or.inl h99) hdec k
        · split at hs
          · rename_i h98
            split at hs
            · rename_i hb
              cases hs
              exact ct_putOk C f1 f2 f3 (f4 (by dsimp only at h98 ⊢; omega)) hv (Or.inr ⟨h98, hb⟩) hdec k
            · cases hs
          · cases hs
      · cases hs
    · cases hs
  all_goals (cases hs)
/-- n instructions of a list -/
def ct_run (G : ct_G) (mL : Nat) : Nat → List ct_I → ct_L → List ct_PV → ct_H → Option ct_S
  | 0, _, ls, st, h => some (ls, st, h)
  | _ + 1, [], _, _, _ => none
  | k + 1, q :: T, ls, st, h => match ct_st1 G mL q ls st h with
    | none => none
    | some x => ct_run G mL k T x.1 x.2.1 x.2.2
def ct_pc (T : List ct_I) (k : Nat) : Nat := match T[k]? with
  | some q => q.1
  | none => 0
/-- the list is the method's: every row is decoded so, its pool numbers are linked so, a row's end is the next row's beginning -/
def ct_TOk (own : String) (bytes : ByteArray) (T : List ct_I) : Prop := (∀ q ∈ T, decode bytes q.1 = .ok (q.2.1, q.2.2.1) ∧ ct_fok own q) ∧ ∀ (k : Nat) (q r : ct_I), T[k]? = some q → T[k + 1]? = some r → r.1 = q.1 + q.2.2.1
end
end
section
/-! rules of the walk, on the pure pictures: stretches, arrays, division, branches -/
def ct_rd (G : ct_G) (h : ct_H) (a : Nat) (i : Int) : Option Int := if 0 ≤ i ∧ i < (G.2 a : Int) then some (h.1 a i.toNat) else none
def ct_rdL (G : ct_G) (h : ct_H) (a : Nat) (i : Int) : Option Int64 := if 0 ≤ i ∧ i < (G.2 a : Int) then some (h.2 a i.toNat) else none
def ct_rdR (G : ct_G) (a : Nat) (i : Int) : Option Nat := if 0 ≤ i ∧ i < (G.2 a : Int) then some (G.1 a i.toNat) else none
def ct_wt (G : ct_G) (h : ct_H) (a : Nat) (i v : Int) : Option ct_H := if 0 ≤ i ∧ i < (G.2 a : Int) then some (ct_wF h a i.toNat v) else none
def ct_wtB (G : ct_G) (h : ct_H) (a : Nat) (i v : Int) : Option ct_H := if (0 ≤ i ∧ i < (G.2 a : Int)) ∧ -128 ≤ v ∧ v ≤ 127 then some (ct_wF h a i.toNat v) else none
def ct_wtZ (G : ct_G) (h : ct_H) (a : Nat) (i v : Int) : Option ct_H := if (0 ≤ i ∧ i < (G.2 a : Int)) ∧ (v = 0 ∨ v = 1) then some (ct_wF h a i.toNat v) else none
def ct_wtL (G : ct_G) (h : ct_H) (a : Nat) (i : Int) (v : Int64) : Option ct_H := if 0 ≤ i ∧ i < (G.2 a : Int) then some (ct_wL h a i.toNat v) else none
def ct_dv (a b : Int) : Option Int := if 0 ≤ a ∧ 0 < b then some (a / b) else none
def ct_md (a b : Int) : Option Int := if 0 ≤ a ∧ 0 < b then some (a % b) else none
def ct_ctl (i : Instr) : Bool := match i with
  | .if_icmp _ _ => true
  | .ifCond _ _ => true
  | .goto _ => true
  | .tableswitch _ _ _ _ => true
  | .lookupswitch _ _ => true
  | .invokevirtual _ => true
  | .invokestatic _ => true
  | .invokespecial _ => true
  | .ldc _ => true
  | .ldc2_w _ => true
  | .new _ => true
  | .newarray _ => true
  | .anewarray _ => true
  | .multianewarray _ _ => true
  | .getstatic _ => true
  | _ => false
/-- the list is the method's -/
def ct_TK (own : String) (bytes : ByteArray) (T : List ct_I) : Prop := (∀ q ∈ T, decode bytes q.1 = .ok (q.2.1, q.2.2.1) ∧ ct_fok own q ∧ (ct_ctl q.2.1 = true ∨ q.2.2.1 = ct_len q.2.1)) ∧ ∀ (k : Nat) (q r : ct_I), T[k]? = some q → T[k + 1]? = some r → r.1 = q.1 + q.2.2.1
theorem ct_st1_ctl {G : ct_G} {mL : Nat} {q : ct_I} {ls : ct_L} {st : List ct_PV} {h : ct_H} {x : ct_S} (hs : ct_st1 G mL q ls st h = some x) : ct_ctl q.2.1 = false := by
  obtain ⟨pc, ins, len, aux⟩ := q
  cases ins <;> first | rfl | (cases hs)
theorem ct_pc_get {T : List ct_I} {k : Nat} {q : ct_I} (h : T[k]? = some q) : ct_pc T k = q.1 := by unfold ct_pc; rw [h]
section
variable {p : Program} {l : Launch} {e : Env} {R : Room} {s : State} {m : MethodId} {args : Array Value} {below : List Frame} {meth : Method} {c : Code} {maxL : Nat} {bytes : ByteArray} {own : String} {A : Nat → Prop} {D : va_G} {cA : Nat → ClassId} {ad : Nat → Nat} {G : ct_G} {K : Nat → Nat} {n d cells slots : Nat} {Q : State → Prop} {T : List ct_I} {k : Nat} {ls : ct_L} {st : List ct_PV} {h : ct_H}
theorem ct_Vrun (C : ct_Cx p R s m args c bytes maxL own A D cA ad G K n d cells slots) (hT : ct_TK own bytes T) : ∀ (j k : Nat) (ls : ct_L) (st : List ct_PV) (h : ct_H) (x : ct_S), ct_run G maxL j (T.drop k) ls st h = some x → k + j < T.length → ct_V p l e R s m args below meth c maxL A D cA ad G K n cells slots Q (ct_pc T (k + j)) x.1 x.2.1 x.2.2 → ct_V p l e R s m args below meth c maxL A D cA ad G K n cells slots Q (ct_pc T k) ls st h
  | 0, k, ls, st, h, x, hr, hlt, kk => by
    unfold ct_run at hr
    cases hr
    exact kk
  | j + 1, k, ls, st, h, x, hr, hlt, kk => by
    have hk : k < T.length := by omega
    have hk1 : k + 1 < T.length := by omega
    have e0 : T.drop k = T[k] :: T.drop (k + 1) := List.drop_eq_getElem_cons hk
    rw [e0] at hr
    unfold ct_run at hr
    cases hs : ct_st1 G maxL T[k] ls st h with
    | none => rw [hs] at hr; cases hr
    | some y =>
      rw [hs] at hr
      have hmem : T[k] ∈ T := List.getElem_mem hk
      obtain ⟨h1, h2, h3⟩ := hT.1 _ hmem
      have hlen : T[k].2.2.1 = ct_len T[k].2.1 := by
        rcases h3 with h3 | h3
        · rw [ct_st1_ctl hs] at h3; cases h3
        · exact h3
      have hg : T[k]? = some T[k] := List.getElem?_eq_getElem hk
      have hg1 : T[k + 1]? = some T[k + 1] := List.getElem?_eq_getElem hk1
      have hch := hT.2 k _ _ hg hg1
      have ih := ct_Vrun C hT j (k + 1) y.1 y.2.1 y.2.2 x hr (by omega) (by rw [show k + 1 + j = k + (j + 1) by omega]; exact kk)
      rw [ct_pc_get hg1, hch] at ih
      rw [ct_pc_get hg]
      exact ct_st1_ok C h1 hlen h2 hs ih
theorem ct_Vsub {ls' : ct_L} (ks : List Nat) (hl' : ks.filterMap (fun i => ls[i]?) = ls') (kk : ct_V p l e R s m args below meth c maxL A D cA ad G K n cells slots Q k ls' st h) : ct_V p l e R s m args below meth c maxL A D cA ad G K n cells slots Q k ls st h := by
  intro H locs lm hP hS hl ho hs hh
  have hm : ∀ q ∈ ls', q ∈ ls := by
    intro q hq
    rw [← hl'] at hq
    obtain ⟨i, -, hi⟩ := List.mem_filterMap.mp hq
    exact List.mem_of_getElem? hi
  refine kk H locs lm hP hS ⟨hl.1, hl.2.1, fun q hq => ?_⟩ (fun q hq => ho q (hm q hq)) hs hh
  obtain ⟨q0, h0, rfl⟩ := List.mem_map.mp hq
  exact hl.2.2 _ (List.mem_map.mpr ⟨q0, hm q0 h0, rfl⟩)
theorem ct_clamp {i : Int} (h : ct_in i) (h0 : 0 ≤ i) : (Int32.ofInt i).toNatClampNeg = i.toNat := by
  show (Int32.ofInt i).toInt.toNat = i.toNat
  rw [ct_toInt h]
theorem ct_vpin {i : Int} {N : Nat} (h : ct_in i) (h0 : 0 ≤ i ∧ i < (N : Int)) : vp_in (Int32.ofInt i) N := by
  rw [vp_in_iff, ct_toInt h]
  exact h0
theorem ct_Vrd (C : ct_Cx p R s m args c bytes maxL own A D cA ad G K n d cells slots) {pc a : Nat} {cd : Nat} {i v : Int} {ins : Instr} (hcd : (cd = 8 ∧ ins = .iaload) ∨ (cd = 9 ∧ ins = .baload) ∨ (cd = 10 ∧ ins = .baload)) (hdec : decode bytes pc = .ok (ins, 1)) (hv : ct_rd G h a i = some v)
    (kk : ct_V p l e R s m args below meth c maxL A D cA ad G K n cells slots Q (pc + 1) ls (.inl v :: st) h) : ct_V p l e R s m args below meth c maxL A D cA ad G K n cells slots Q pc ls (.inl i :: .inr (.inr (cd, a)) :: st) h := by
  obtain ⟨hx, hb, hml, hown, hts, hK, hD, hWT, hR, -⟩ := C
  intro H locs lm hP hS hl ho hs hh
  have hi : ct_in i := ct_hd hs
  have hq0 := ct_hd (ct_tl hs)
  rcases hq0 with ⟨hn, hk⟩ | ⟨hk, -⟩
  case inr => rcases hcd with ⟨z, -⟩ | ⟨z, -⟩ | ⟨z, -⟩ <;> (dsimp only at hk; omega)
  dsimp only at hn hk
  unfold ct_rd at hv
  split at hv
  case isFalse => cases hv
  rename_i hin
  cases hv
  have hcell := ct_ws_get (cA := cA) (ad := ad) (G := G) (K := K) (h := h) hn
  rw [ct_cell_int (by rcases hcd with ⟨z, -⟩ | ⟨z, -⟩ | ⟨z, -⟩ <;> omega) (by rcases hcd with ⟨z, -⟩ | ⟨z, -⟩ | ⟨z, -⟩ <;> omega), hk] at hcell
  have k2 := kk H locs lm hP hS hl ho (ct_cons_ok (hh _ _) (ct_tl (ct_tl hs))) hh
  rcases hcd with ⟨rfl, rfl⟩ | ⟨rfl, rfl⟩ | ⟨rfl, rfl⟩
  · refine va_iald hx hb hK hP a 0 hcell rfl (ct_vpin hi hin) hdec ?_
    rw [ct_clamp hi hin.1]; exact k2
  · refine va_bald hx hb hK hP a 1 hcell rfl (ct_vpin hi hin) hdec ?_
    rw [ct_clamp hi hin.1]; exact k2
  · refine va_zald hx hb hK hP a 2 hcell rfl (ct_vpin hi hin) hdec ?_
    rw [ct_clamp hi hin.1]; exact k2
theorem ct_VrdL (C : ct_Cx p R s m args c bytes maxL own A D cA ad G K n d cells slots) {pc a : Nat} {i : Int} {v : Int64} (hdec : decode bytes pc = .ok (.laload, 1)) (hv : ct_rdL G h a i = some v)
    (kk : ct_V p l e R s m args below meth c maxL A D cA ad G K n cells slots Q (pc + 1) ls (.inr (.inl v) :: st) h) : ct_V p l e R s m args below meth c maxL A D cA ad G K n cells slots Q pc ls (.inl i :: .inr (.inr (11, a)) :: st) h := by
  obtain ⟨hx, hb, hml, hown, hts, hK, hD, hWT, hR, -⟩ := C
  intro H locs lm hP hS hl ho hs hh
  have hi : ct_in i := ct_hd hs
  have hq0 := ct_hd (ct_tl hs)
  rcases hq0 with ⟨hn, hk⟩ | ⟨hk, -⟩
  case inr => dsimp only at hk; omega
  dsimp only at hn hk
  unfold ct_rdL at hv
  split at hv
  case isFalse => cases hv
  rename_i hin
  cases hv
  have hcell := ct_ws_get (cA := cA) (ad := ad) (G := G) (K := K) (h := h) hn
  rw [ct_cell_long hk] at hcell
  have k2 := kk H locs lm hP hS hl ho (ct_cons_ok trivial (ct_tl (ct_tl hs))) hh
  refine va_lald hx hb hK hP a 3 hcell rfl (ct_vpin hi hin) hdec ?_
  rw [ct_clamp hi hin.1]; exact k2
theorem ct_VrdR (C : ct_Cx p R s m args c bytes maxL own A D cA ad G K n d cells slots) {pc a v cd : Nat} {i : Int} (hcd : cd = 12 ∨ cd = 13 ∨ cd = 14) (hdec : decode bytes pc = .ok (.aaload, 1)) (hv : ct_rdR G a i = some v)
    (kk : ct_V p l e R s m args below meth c maxL A D cA ad G K n cells slots Q (pc + 1) ls (.inr (.inr (ct_et cd, v)) :: st) h) : ct_V p l e R s m args below meth c maxL A D cA ad G K n cells slots Q pc ls (.inl i :: .inr (.inr (cd, a)) :: st) h := by
  obtain ⟨hx, hb, hml, hown, hts, hK, hD, hWT, hR, -⟩ := C
  intro H locs lm hP hS hl ho hs hh
  have hi : ct_in i := ct_hd hs
  have hq0 := ct_hd (ct_tl hs)
  rcases hq0 with ⟨hn, hk⟩ | ⟨hk, -⟩
  case inr => dsimp only at hk; omega
  dsimp only at hn hk
  unfold ct_rdR at hv
  split at hv
  case isFalse => cases hv
  rename_i hin
  cases hv
  have hcell := ct_ws_get (cA := cA) (ad := ad) (G := G) (K := K) (h := h) hn
  rw [ct_cell_ref (by omega), hk] at hcell
  have hw := (hWT a hn).2.2.2 (by omega) i.toNat (by omega)
  rw [hk] at hw
  have k2 := kk H locs lm hP hS hl ho (ct_cons_ok (Or.inl hw) (ct_tl (ct_tl hs))) hh
  have hvp := ct_vpin hi hin
  have hlt : (Int32.ofInt i).toNatClampNeg < G.2 a := Nat.not_le.mp fun q => hvp (Or.inr q)
  have k3 : W p l e R s m args below meth c H locs cells slots Q (F0 m (pc + 1) lm (va_rf (some (ad (G.1 a (Int32.ofInt i).toNatClampNeg))) :: st.map (ct_mv ad))) := by
    rw [ct_clamp hi hin.1]; exact k2
  rcases hcd with rfl | rfl | rfl
  · exact va_aldq hx hb hK hP a 4 hcell rfl hvp hdec k3
  · exact W.aald (v := va_rf (some (ad (G.1 a (Int32.ofInt i).toNatClampNeg)))) (ty := .array .int) hx hb (hP a _ hcell) ((hK.2 5 _ rfl).1 _ (fun j => va_rf (some (ad (G.1 a j))))) rfl (fun q => by cases q) (by show ¬ (_ ∨ (arrV _ _ _).slots.size ≤ _); rw [arrV_size]; exact hvp) (by show (arrV _ _ _).slots[_]? = _; rw [arrV_read _ _ hlt]) rfl rfl hdec k3
  · exact W.aald (v := va_rf (some (ad (G.1 a (Int32.ofInt i).toNatClampNeg)))) (ty := .array .long) hx hb (hP a _ hcell) ((hK.2 6 _ rfl).1 _ (fun j => va_rf (some (ad (G.1 a j))))) rfl (fun q => by cases q) (by show ¬ (_ ∨ (arrV _ _ _).slots.size ≤ _); rw [arrV_size]; exact hvp) (by show (arrV _ _ _).slots[_]? = _; rw [arrV_read _ _ hlt]) rfl rfl hdec k3
theorem ct_narB {v : Int} (h : -128 ≤ v ∧ v ≤ 127) : vp_nar .byte (Int32.ofInt v) = Int32.ofInt v := by
  rw [vp_nar_byte]
  apply Int32.toInt_inj.mp
  rw [Int8.toInt_toInt32, Int32.toInt_toInt8, ct_toInt (by unfold ct_in; omega)]
  unfold Int.bmod
  simp only [Int8.size]
  split <;> omega
theorem ct_narZ {v : Int} (h : v = 0 ∨ v = 1) : vp_nar .boolean (Int32.ofInt v) = Int32.ofInt v := by
  rcases h with rfl | rfl <;> decide +kernel
theorem ct_Vwt_aux {cx : ClassId} {h : ct_H} {a j : Nat} {v : Int} (h8 : 8 ≤ K a) (h10 : K a ≤ 10) (hcx : cx = cA (K a)) : (ct_ws cA ad G K n h).set a (ad a, .inl (cx, G.2 a, .inl (upd (fun j => Int32.ofInt (h.1 a j)) j (Int32.ofInt v)))) = ct_ws cA ad G K n (ct_wF h a j v) := by
  refine ct_ws_set ?_ ct_cell_wF_ne
  rw [ct_cell_int h8 h10, hcx]
  congr 4
  funext b
  unfold upd ct_wF
  by_cases hb : b = j <;> simp [hb]
theorem ct_Vwt (C : ct_Cx p R s m args c bytes maxL own A D cA ad G K n d cells slots) {pc a : Nat} {i v : Int} {h' : ct_H} (hdec : decode bytes pc = .ok (.iastore, 1)) (hv : ct_wt G h a i v = some h')
    (kk : ct_V p l e R s m args below meth c maxL A D cA ad G K n cells slots Q (pc + 1) ls st h') : ct_V p l e R s m args below meth c maxL A D cA ad G K n cells slots Q pc ls (.inl v :: .inl i :: .inr (.inr (8, a)) :: st) h := by
  obtain ⟨hx, hb, hml, hown, hts, hK, hD, hWT, hR, -⟩ := C
  intro H locs lm hP hS hl ho hs hh
  have hv0 : ct_in v := ct_hd hs
  have hi : ct_in i := ct_hd (ct_tl hs)
  have hq0 := ct_hd (ct_tl (ct_tl hs))
  rcases hq0 with ⟨hn, hk⟩ | ⟨hk, -⟩
  case inr => dsimp only at hk; omega
  dsimp only at hn hk
  unfold ct_wt at hv
  split at hv
  case isFalse => cases hv
  rename_i hin
  cases hv
  have hcell := ct_ws_get (cA := cA) (ad := ad) (G := G) (K := K) (h := h) hn
  rw [ct_cell_int (by omega) (by omega)] at hcell
  refine va_iast hx hb hK hP (ct_wsD hD.1 hD.2) hS a 0 hcell (by rw [hk]; rfl) (ct_vpin hi hin) hdec (fun H1 locs1 hP1 hD1 hS1 => ?_)
  rw [ct_clamp hi hin.1, ct_Vwt_aux (by omega) (by omega) rfl] at hP1
  exact kk H1 locs1 lm hP1 hS1 hl ho (ct_tl (ct_tl (ct_tl hs))) (ct_hin_wF hh hv0)
theorem ct_VwtB (C : ct_Cx p R s m args c bytes maxL own A D cA ad G K n d cells slots) {pc a : Nat} {i v : Int} {h' : ct_H} (hdec : decode bytes pc = .ok (.bastore, 1)) (hv : ct_wtB G h a i v = some h')
    (kk : ct_V p l e R s m args below meth c maxL A D cA ad G K n cells slots Q (pc + 1) ls st h') : ct_V p l e R s m args below meth c maxL A D cA ad G K n cells slots Q pc ls (.inl v :: .inl i :: .inr (.inr (9, a)) :: st) h := by
  obtain ⟨hx, hb, hml, hown, hts, hK, hD, hWT, hR, -⟩ := C
  intro H locs lm hP hS hl ho hs hh
  have hv0 : ct_in v := ct_hd hs
  have hi : ct_in i := ct_hd (ct_tl hs)
  have hq0 := ct_hd (ct_tl (ct_tl hs))
  rcases hq0 with ⟨hn, hk⟩ | ⟨hk, -⟩
  case inr => dsimp only at hk; omega
  dsimp only at hn hk
  unfold ct_wtB at hv
  split at hv
  case isFalse => cases hv
  rename_i hin
  cases hv
  have hcell := ct_ws_get (cA := cA) (ad := ad) (G := G) (K := K) (h := h) hn
  rw [ct_cell_int (by omega) (by omega)] at hcell
  refine va_bast hx hb hK hP (ct_wsD hD.1 hD.2) hS a 1 hcell (by rw [hk]; rfl) (ct_vpin hi hin.1) hdec (fun H1 locs1 hP1 hD1 hS1 => ?_)
  rw [ct_clamp hi hin.1.1, ct_narB hin.2, ct_Vwt_aux (by omega) (by omega) rfl] at hP1
  exact kk H1 locs1 lm hP1 hS1 hl ho (ct_tl (ct_tl (ct_tl hs))) (ct_hin_wF hh hv0)
theorem ct_VwtZ (C : ct_Cx p R s m args c bytes maxL own A D cA ad G K n d cells slots) {pc a : Nat} {i v : Int} {h' : ct_H} (hdec : decode bytes pc = .ok (.bastore, 1)) (hv : ct_wtZ G h a i v = some h')
    (kk : ct_V p l e R s m args below meth c maxL A D cA ad G K n cells slots Q (pc + 1) ls st h') : ct_V p l e R s m args below meth c maxL A D cA ad G K n cells slots Q pc ls (.inl v :: .inl i :: .inr (.inr (10, a)) :: st) h := by
  obtain ⟨hx, hb, hml, hown, hts, hK, hD, hWT, hR, -⟩ := C
  intro H locs lm hP hS hl ho hs hh
  have hv0 : ct_in v := ct_hd hs
  have hi : ct_in i := ct_hd (ct_tl hs)
  have hq0 := ct_hd (ct_tl (ct_tl hs))
  rcases hq0 with ⟨hn, hk⟩ | ⟨hk, -⟩
  case inr => dsimp only at hk; omega
  dsimp only at hn hk
  unfold ct_wtZ at hv
  split at hv
  case isFalse => cases hv
  rename_i hin
  cases hv
  have hcell := ct_ws_get (cA := cA) (ad := ad) (G := G) (K := K) (h := h) hn
  rw [ct_cell_int (by omega) (by omega)] at hcell
  refine va_zast hx hb hK hP (ct_wsD hD.1 hD.2) hS a 2 hcell (by rw [hk]; rfl) (ct_vpin hi hin.1) hdec (fun H1 locs1 hP1 hD1 hS1 => ?_)
  rw [ct_clamp hi hin.1.1, ct_narZ hin.2, ct_Vwt_aux (by omega) (by omega) rfl] at hP1
  exact kk H1 locs1 lm hP1 hS1 hl ho (ct_tl (ct_tl (ct_tl hs))) (ct_hin_wF hh hv0)
theorem ct_VwtL (C : ct_Cx p R s m args c bytes maxL own A D cA ad G K n d cells slots) {pc a : Nat} {i : Int} {v : Int64} {h' : ct_H} (hdec : decode bytes pc = .ok (.lastore, 1)) (hv : ct_wtL G h a i v = some h')
    (kk : ct_V p l e R s m args below meth c maxL A D cA ad G K n cells slots Q (pc + 1) ls st h') : ct_V p l e R s m args below meth c maxL A D cA ad G K n cells slots Q pc ls (.inr (.inl v) :: .inl i :: .inr (.inr (11, a)) :: st) h := by
  obtain ⟨hx, hb, hml, hown, hts, hK, hD, hWT, hR, -⟩ := C
  intro H locs lm hP hS hl ho hs hh
  have hi : ct_in i := ct_hd (ct_tl hs)
  have hq0 := ct_hd (ct_tl (ct_tl hs))
  rcases hq0 with ⟨hn, hk⟩ | ⟨hk, -⟩
  case inr => dsimp only at hk; omega
  dsimp only at hn hk
  unfold ct_wtL at hv
  split at hv
  case isFalse => cases hv
  rename_i hin
  cases hv
  have hcell := ct_ws_get (cA := cA) (ad := ad) (G := G) (K := K) (h := h) hn
  rw [ct_cell_long hk] at hcell
  refine va_last hx hb hK hP (ct_wsD hD.1 hD.2) hS a 3 hcell rfl (ct_vpin hi hin) hdec (fun H1 locs1 hP1 hD1 hS1 => ?_)
  have he : (ct_ws cA ad G K n h).set a (ad a, .inl (cA 11, G.2 a, .inr (.inl (vp_updL (fun j => h.2 a j) i.toNat v)))) = ct_ws cA ad G K n (ct_wL h a i.toNat v) := by
    refine ct_ws_set ?_ ct_cell_wL_ne
    rw [ct_cell_long hk]
    congr 5
    funext b
    unfold vp_updL ct_wL
    by_cases hb : b = i.toNat <;> simp [hb]
  rw [ct_clamp hi hin.1, he] at hP1
  exact kk H1 locs1 lm hP1 hS1 hl ho (ct_tl (ct_tl (ct_tl hs))) hh
theorem ct_ofInt_div {a b : Int} (ha : ct_in a) (hb : ct_in b) (h0 : 0 ≤ a) (h1 : 0 < b) : Int32.ofInt a / Int32.ofInt b = Int32.ofInt (a / b) := by
  apply Int32.toInt_inj.mp
  have hle : a / b ≤ a := Int.ediv_le_self _ h0
  have hge : 0 ≤ a / b := Int.ediv_nonneg h0 (by omega)
  unfold ct_in at ha hb
  rw [Int32.toInt_div, ct_toInt ha, ct_toInt hb, ct_toInt (by unfold ct_in; omega), Int.tdiv_eq_ediv_of_nonneg h0]
  generalize a / b = q at hle hge
  have e : ((2 ^ 32 : Nat) : Int) = 4294967296 := by decide
  unfold Int.bmod
  rw [e]
  dsimp only
  split <;> omega
theorem ct_div_in {a b : Int} (ha : ct_in a) (h0 : 0 ≤ a) (h1 : 0 < b) : ct_in (a / b) := by
  have hle : a / b ≤ a := Int.ediv_le_self _ h0
  have hge : 0 ≤ a / b := Int.ediv_nonneg h0 (by omega)
  unfold ct_in at *
  omega
theorem ct_md_in {a b : Int} (hb : ct_in b) (h1 : 0 < b) : ct_in (a % b) := by
  have hle : a % b < b := Int.emod_lt_of_pos _ h1
  have hge : 0 ≤ a % b := Int.emod_nonneg _ (by omega)
  unfold ct_in at *
  omega
theorem ct_ofInt_ne {b : Int} (hb : ct_in b) (h1 : 0 < b) : ¬ Int32.ofInt b = 0 := by
  intro z
  have := congrArg Int32.toInt z
  rw [ct_toInt hb] at this
  have h0 : (0 : Int32).toInt = 0 := by decide
  omega
theorem ct_Vdv (C : ct_Cx p R s m args c bytes maxL own A D cA ad G K n d cells slots) {pc : Nat} {a b v : Int} (hdec : decode bytes pc = .ok (.idiv, 1)) (hv : ct_dv a b = some v)
    (kk : ct_V p l e R s m args below meth c maxL A D cA ad G K n cells slots Q (pc + 1) ls (.inl v :: st) h) : ct_V p l e R s m args below meth c maxL A D cA ad G K n cells slots Q pc ls (.inl b :: .inl a :: st) h := by
  intro H locs lm hP hS hl ho hs hh
  have hb : ct_in b := ct_hd hs
  have ha : ct_in a := ct_hd (ct_tl hs)
  unfold ct_dv at hv
  split at hv
  case isFalse => cases hv
  rename_i hc
  cases hv
  refine lv_idiv C.1 C.2.1 hdec (ct_ofInt_ne hb hc.2) ?_
  rw [ct_ofInt_div ha hb hc.1 hc.2]
  exact kk H locs lm hP hS hl ho (ct_cons_ok (ct_div_in ha hc.1 hc.2) (ct_tl (ct_tl hs))) hh
theorem ct_Vmd (C : ct_Cx p R s m args c bytes maxL own A D cA ad G K n d cells slots) {pc : Nat} {a b v : Int} (hdec : decode bytes pc = .ok (.irem, 1)) (hv : ct_md a b = some v)
    (kk : ct_V p l e R s m args below meth c maxL A D cA ad G K n cells slots Q (pc + 1) ls (.inl v :: st) h) : ct_V p l e R s m args below meth c maxL A D cA ad G K n cells slots Q pc ls (.inl b :: .inl a :: st) h := by
  intro H locs lm hP hS hl ho hs hh
  have hb : ct_in b := ct_hd hs
  have ha : ct_in a := ct_hd (ct_tl hs)
  unfold ct_md at hv
  split at hv
  case isFalse => cases hv
  rename_i hc
  cases hv
  refine lv_irem C.1 C.2.1 hdec (ct_ofInt_ne hb hc.2) ?_
  have e0 : Int32.ofInt a - Int32.ofInt a / Int32.ofInt b * Int32.ofInt b = Int32.ofInt (a % b) := by
    apply Int32.toInt_inj.mp
    rw [rem_toInt, ct_toInt ha, ct_toInt hb, ct_toInt (ct_md_in hb hc.2), Int.tmod_eq_emod_of_nonneg hc.1]
  rw [e0]
  exact kk H locs lm hP hS hl ho (ct_cons_ok (ct_md_in hb hc.2) (ct_tl (ct_tl hs))) hh
def ct_cmp (cn : Jvm.ClassFile.Cond) (a b : Int) : Prop := match cn with
  | .eq => a = b
  | .ne => ¬ a = b
  | .lt => a < b
  | .ge => b ≤ a
  | .gt => b < a
  | .le => a ≤ b
theorem ct_lt32 {a b : Int} (ha : ct_in a) (hb : ct_in b) : Int32.ofInt a < Int32.ofInt b ↔ a < b := by rw [Int32.lt_iff_toInt_lt, ct_toInt ha, ct_toInt hb]
theorem ct_le32 {a b : Int} (ha : ct_in a) (hb : ct_in b) : Int32.ofInt a ≤ Int32.ofInt b ↔ a ≤ b := by rw [Int32.le_iff_toInt_le, ct_toInt ha, ct_toInt hb]
theorem ct_eq32 {a b : Int} (ha : ct_in a) (hb : ct_in b) : Int32.ofInt a = Int32.ofInt b ↔ a = b := ⟨fun z => by have := congrArg Int32.toInt z; rwa [ct_toInt ha, ct_toInt hb] at this, fun z => by rw [z]⟩
theorem ct_Vicmp (C : ct_Cx p R s m args c bytes maxL own A D cA ad G K n d cells slots) {pc tgt : Nat} {a b off : Int} {cn : Jvm.ClassFile.Cond} (hdec : decode bytes pc = .ok (.if_icmp cn off, 3)) (ht : (pc : Int) + off = (tgt : Int))
    (kt : ct_cmp cn a b → ct_V p l e R s m args below meth c maxL A D cA ad G K n cells slots Q tgt ls st h) (kf : ¬ ct_cmp cn a b → ct_V p l e R s m args below meth c maxL A D cA ad G K n cells slots Q (pc + 3) ls st h) : ct_V p l e R s m args below meth c maxL A D cA ad G K n cells slots Q pc ls (.inl b :: .inl a :: st) h := by
  intro H locs lm hP hS hl ho hs hh
  have hb : ct_in b := ct_hd hs
  have ha : ct_in a := ct_hd (ct_tl hs)
  have hs2 := ct_tl (ct_tl hs)
  have k1 := fun z => kt z H locs lm hP hS hl ho hs2 hh
  have k2 := fun z => kf z H locs lm hP hS hl ho hs2 hh
  cases cn with
  | eq => exact lv_icmp_eq C.1 C.2.1 hdec ht (fun z => k1 ((ct_eq32 ha hb).mp z)) (fun z => k2 (fun w => z ((ct_eq32 ha hb).mpr w)))
  | ne => exact lv_icmp_ne C.1 C.2.1 hdec ht (fun z => k1 (fun w => z ((ct_eq32 ha hb).mpr w))) (fun z => k2 (fun w => w ((ct_eq32 ha hb).mp z)))
  | lt => exact lv_icmp_lt C.1 C.2.1 hdec ht (fun z => k1 ((ct_lt32 ha hb).mp z)) (fun z => k2 (fun w => z ((ct_lt32 ha hb).mpr w)))
  | ge => exact lv_icmp_ge C.1 C.2.1 hdec ht (fun z => k1 ((ct_le32 hb ha).mp z)) (fun z => k2 (fun w => z ((ct_le32 hb ha).mpr w)))
  | gt => exact lv_icmp_gt C.1 C.2.1 hdec ht (fun z => k1 ((ct_lt32 hb ha).mp z)) (fun z => k2 (fun w => z ((ct_lt32 hb ha).mpr w)))
  | le => exact lv_icmp_le C.1 C.2.1 hdec ht (fun z => k1 ((ct_le32 ha hb).mp z)) (fun z => k2 (fun w => z ((ct_le32 ha hb).mpr w)))
theorem ct_in0 : ct_in 0 := by unfold ct_in; omega
theorem ct_of0 : Int32.ofInt 0 = 0 := by decide
theorem ct_Vcond (C : ct_Cx p R s m args c bytes maxL own A D cA ad G K n d cells slots) {pc tgt : Nat} {a off : Int} {cn : Jvm.ClassFile.Cond} (hdec : decode bytes pc = .ok (.ifCond cn off, 3)) (ht : (pc : Int) + off = (tgt : Int))
    (kt : ct_cmp cn a 0 → ct_V p l e R s m args below meth c maxL A D cA ad G K n cells slots Q tgt ls st h) (kf : ¬ ct_cmp cn a 0 → ct_V p l e R s m args below meth c maxL A D cA ad G K n cells slots Q (pc + 3) ls st h) : ct_V p l e R s m args below meth c maxL A D cA ad G K n cells slots Q pc ls (.inl a :: st) h := by
  intro H locs lm hP hS hl ho hs hh
  have ha : ct_in a := ct_hd hs
  have hb := ct_in0
  have hs2 := ct_tl hs
  have k1 := fun z => kt z H locs lm hP hS hl ho hs2 hh
  have k2 := fun z => kf z H locs lm hP hS hl ho hs2 hh
  have e1 := ct_eq32 ha hb
  have e2 := ct_lt32 ha hb
  have e3 := ct_le32 hb ha
  have e4 := ct_lt32 hb ha
  have e5 := ct_le32 ha hb
  rw [ct_of0] at e1 e2 e3 e4 e5
  cases cn with
  | eq => exact lv_if_eq C.1 C.2.1 hdec ht (fun z => k1 (e1.mp z)) (fun z => k2 (fun w => z (e1.mpr w)))
  | ne => exact lv_if_ne C.1 C.2.1 hdec ht (fun z => k1 (fun w => z (e1.mpr w))) (fun z => k2 (fun w => w (e1.mp z)))
  | lt => exact lv_if_lt C.1 C.2.1 hdec ht (fun z => k1 (e2.mp z)) (fun z => k2 (fun w => z (e2.mpr w)))
  | ge => exact lv_if_ge C.1 C.2.1 hdec ht (fun z => k1 (e3.mp z)) (fun z => k2 (fun w => z (e3.mpr w)))
  | gt => exact lv_if_gt C.1 C.2.1 hdec ht (fun z => k1 (e4.mp z)) (fun z => k2 (fun w => z (e4.mpr w)))
  | le => exact lv_if_le C.1 C.2.1 hdec ht (fun z => k1 (e5.mp z)) (fun z => k2 (fun w => z (e5.mpr w)))
theorem ct_Vgoto (C : ct_Cx p R s m args c bytes maxL own A D cA ad G K n d cells slots) {pc tgt : Nat} {off : Int} (hdec : decode bytes pc = .ok (.goto off, 3)) (ht : (pc : Int) + off = (tgt : Int))
    (kt : ct_V p l e R s m args below meth c maxL A D cA ad G K n cells slots Q tgt ls st h) : ct_V p l e R s m args below meth c maxL A D cA ad G K n cells slots Q pc ls st h := by
  intro H locs lm hP hS hl ho hs hh
  exact lv_goto C.1 C.2.1 hdec ht (kt H locs lm hP hS hl ho hs hh)
/-- where a switch leads -/
def ct_sw (i : Instr) (a : Int) : Option Int := match i with
  | .tableswitch dflt lo hi offs => if a < lo ∨ hi < a then some dflt else offs[(a - lo).toNat]?
  | .lookupswitch dflt ps => if (ps.toList.zip (ps.toList.drop 1)).all (fun (a, next) => a.1 < next.1) = true then some (Op.lookupswitch.offset ps.toList dflt a) else none
  | _ => none
theorem ct_Vsw (C : ct_Cx p R s m args c bytes maxL own A D cA ad G K n d cells slots) {pc tgt len : Nat} {a off : Int} {ins : Instr} (hdec : decode bytes pc = .ok (ins, len)) (hsw : ct_sw ins a = some off) (ht : (pc : Int) + off = (tgt : Int))
    (kt : ct_V p l e R s m args below meth c maxL A D cA ad G K n cells slots Q tgt ls st h) : ct_V p l e R s m args below meth c maxL A D cA ad G K n cells slots Q pc ls (.inl a :: st) h := by
  intro H locs lm hP hS hl ho hs hh
  have ha : ct_in a := ct_hd hs
  have k1 := kt H locs lm hP hS hl ho (ct_tl hs) hh
  cases ins
  case tableswitch dflt lo hi offs =>
    dsimp only [ct_sw] at hsw
    split at hsw
    · rename_i hz
      cases hsw
      exact lv_tableOut C.1 C.2.1 hdec (by rw [ct_toInt ha]; exact hz) ht k1
    · rename_i hz
      exact lv_tableIn C.1 C.2.1 hdec (by rw [ct_toInt ha]; omega) (by rw [ct_toInt ha]; omega) (by rw [ct_toInt ha]; exact hsw) ht k1
  case lookupswitch dflt ps =>
    dsimp only [ct_sw] at hsw
    split at hsw
    · rename_i hz
      cases hsw
      exact lv_lookup C.1 C.2.1 hdec hz (by rw [ct_toInt ha]) ht k1
    · cases hsw
  all_goals (cases hsw)
end
end
section
/-! methods, their contracts, calls -/
abbrev ct_M : Type := MethodName × ByteArray × Nat × Option FieldType × List ct_I
def ct_MOk (M : ct_M) : Prop := Cond.code M.1 M.2.1 M.2.2.1 M.2.2.2.1 ∈ ct_GW ∧ Cond.initialized M.1.cls ∈ ct_GW ∧ ct_TK M.1.cls M.2.1 M.2.2.2.2 ∧ M.2.2.1 ≤ 20 ∧ plainName M.1.cls = true ∧ (M.1.cls ≠ "java/lang/invoke/MethodHandle" ∧ M.1.cls ≠ "java/lang/invoke/VarHandle") ∧ ct_pc M.2.2.2.2 0 = 0
def ct_rm (d : Nat) : Room := { frames := d, cells := 0, slots := 0, locals := 40 * d }
def ct_args : Nat → List ct_PV → ct_L
  | _, [] => []
  | i, v :: vs => (i, v) :: ct_args (if ct_cat v = 2 then i + 2 else i + 1) vs
theorem ct_args_map (ad : Nat → Nat) : ∀ (as : List ct_PV) (i : Nat), lv_args i (as.map (ct_mv ad)) = (ct_args i as).map fun q => (q.1, ct_mv ad q.2)
  | [], i => rfl
  | v :: vs, i => by
    show (i, ct_mv ad v) :: lv_args (if (ct_mv ad v).category = 2 then i + 2 else i + 1) (vs.map (ct_mv ad)) = _
    rw [ct_cat_mv, ct_args_map ad vs]
    rfl
theorem ct_sl_len (ad : Nat → Nat) : ∀ (as : List ct_PV), (lg_sl (as.map (ct_mv ad))).length = (as.map ct_cat).sum
  | [] => rfl
  | v :: vs => by
    have ih := ct_sl_len ad vs
    unfold lg_sl at ih ⊢
    simp only [List.map_cons, List.flatMap_cons, List.length_append, List.sum_cons, ih, ct_cat_mv]
    rcases v with a | x | q <;> rfl
theorem ct_args_ok {K : Nat → Nat} {n : Nat} : ∀ (as : List ct_PV) (i : Nat), (∀ v ∈ as, ct_ok K n v) → ∀ q ∈ ct_args i as, ct_ok K n q.2
  | [], i, _, q, hq => by cases hq
  | v :: vs, i, h, q, hq => by
    rcases List.mem_cons.mp hq with e | e
    · rw [e]; exact h v List.mem_cons_self
    · exact ct_args_ok vs _ (fun w hw => h w (List.mem_cons_of_mem _ hw)) q e
def ct_Pc (A : Nat → Prop) (D : va_G) (cA : Nat → ClassId) (ad : Nat → Nat) (G : ct_G) (K : Nat → Nat) (n : Nat) (as : List ct_PV) (h : ct_H) : Array Value → State → Prop := fun v U => v = (as.map (ct_mv ad)).toArray ∧ va_P D ct_cl (ct_ws cA ad G K n h) U.heap ∧ va_K D ct_cl (ct_tys cA) U ∧ ct_Str ad A U
def ct_Qc (A : Nat → Prop) (D : va_G) (cA : Nat → ClassId) (ad : Nat → Nat) (G : ct_G) (K : Nat → Nat) (n : Nat) (r : Option ct_PV × ct_H) : Array Value → State → Outcome → State → Prop := fun _ st oc t => oc = .returned (r.1.map (ct_mv ad)) ∧ va_P D ct_cl (ct_ws cA ad G K n r.2) t.heap ∧ va_F A st t ∧ ct_hin r.2 ∧ ∀ v, r.1 = some v → ct_ok K n v
/-- from row k of M's list, with these locals, this stack, this heap: M returns what o says -/
def ct_X {α : Type} (M : ct_M) (d : Nat) (G : ct_G) (k : Nat) (ls : ct_L) (st : List ct_PV) (h : ct_H) (ρ : α → Option ct_PV × ct_H) (o : Option α) : Prop :=
  ∀ a, o = some a → ∀ (p : Program) (l : Launch) (e : Env) (R : Room) (s : State) (m : MethodId) (args : Array Value) (below : List Frame) (meth : Method) (c : Code) (A : Nat → Prop) (D : va_G) (cA : Nat → ClassId) (ad : Nat → Nat) (K : Nat → Nat) (n : Nat),
    ct_Cx p R s m args c M.2.1 M.2.2.1 M.1.cls A D cA ad G K n d 0 0 → meth.sig.returnType = M.2.2.2.1 → meth.locks = false →
    ct_V p l e R s m args below meth c M.2.2.1 A D cA ad G K n 0 0 (MQ below (ct_Qc A D cA ad G K n (ρ a)) args s 0 0 A) (ct_pc M.2.2.2.2 k) ls st h
theorem ct_Str_to {ad : Nat → Nat} {A : Nat → Prop} {s U : State} {H : Heap} {locs : List Loc} (h : ct_Str ad A s) (hS : va_S A s.heap H locs) (hU : U.heap = H) (hW : s.WarmedH U.vm) : ct_Str ad A U := by
  obtain ⟨h1, h2, h3⟩ := h
  refine ⟨?_, ?_, fun q hq => (h3 q hq).warm hW⟩
  · rw [hU]; exact (h1.moved hW.alike).kept hS.2.1
  · rw [hU]; exact (h2.moved hW.alike).kept hS.2.1
theorem ct_blind {A : Nat → Prop} {D : va_G} {cA : Nat → ClassId} {ad : Nat → Nat} {G : ct_G} {K : Nat → Nat} {n : Nat} {as : List ct_PV} {h : ct_H} : FrameBlind (ct_Pc A D cA ad G K n as h) := by
  intro a U g mk q
  obtain ⟨q0, qP, qK, q1, q2, q3⟩ := q
  exact ⟨q0, qP, va_K.moved (u := U) (U := U.calling g mk a) (Vm.Alike.refl U.vm) qK, vk_S.moved (u := U) (U := U.calling g mk a) (Vm.Alike.refl U.vm) q1, va_Z.moved (u := U) (U := U.calling g mk a) (Vm.Alike.refl U.vm) q2, fun q hq => vk_R.same (u := U) (U := U.calling g mk a) rfl (q3 q hq)⟩
theorem ct_Met {α : Type} {M : ct_M} (hM : ct_MOk M) {d : Nat} {G : ct_G} {as : List ct_PV} {h : ct_H} {ρ : α → Option ct_PV × ct_H} {o : Option α} {a : α} (l : Launch) {A : Nat → Prop} {D : va_G} {cA : Nat → ClassId} {ad : Nat → Nat} {K : Nat → Nat} {n : Nat} (hX : ct_X M d G 0 (ct_args 0 as) [] h ρ o) (ho : o = some a) (hlen : (as.map ct_cat).sum ≤ M.2.2.1) (hh : ct_hin h) (hok : ∀ v ∈ as, ct_ok K n v) (hWT : ct_WT G K n) (hD : (∀ i j, i < n → j < n → ad i = ad j → i = j) ∧ ∀ i, i < n → A (ad i)) :
    Met l M.1 (Cond.code M.1 M.2.1 M.2.2.1 M.2.2.2.1 :: ct_GW) (ct_rm d) (ct_Pc A D cA ad G K n as h) (ct_Qc A D cA ad G K n (ρ a)) 0 0 A := by
  obtain ⟨-, -, -, -, hpl, -, hpc⟩ := hM
  refine Met.ofW (cc := M.2.1) (maxL := M.2.2.1) (ret := M.2.2.2.1) hpl rfl ?_
  intro p e s m args below meth c s₁ B hml hv
  obtain ⟨rfl, hP, hK, hStr⟩ := hv
  have hts := atoms_spec (ws := Cond.code M.1 M.2.1 M.2.2.1 M.2.2.2.1 :: ct_GW) B.pre
  have hown : s.vm.findClass M.1.cls = some m.cls := findClass_of_methodNamed B.named
  have hl := lv_entry (as.map (ct_mv ad)) (n := M.2.2.1) (by rw [ct_sl_len]; exact hlen)
  rw [lg_entry_eq]
  rw [ct_args_map] at hl
  have hC : ct_Cx p (ct_rm d) s m (as.map (ct_mv ad)).toArray c M.2.1 M.2.2.1 M.1.cls A D cA ad G K n d 0 0 := ⟨B.exec, B.bytes, hml, hown, fun w hw => hts w (List.mem_cons_of_mem _ hw), hK, hD, hWT, ⟨Nat.le_refl _, Nat.le_refl _, Nat.zero_le _, Nat.zero_le _⟩, hStr⟩
  have kk := hX a ho p l e (ct_rm d) s m (as.map (ct_mv ad)).toArray below meth c A D cA ad K n hC B.returns B.notSynchronized s.heap [] _ hP va_S.rf hl (ct_args_ok as 0 hok) (fun v hv => by cases hv) hh
  rw [hpc] at kk
  exact kk
section
variable {p : Program} {l : Launch} {e : Env} {R : Room} {s : State} {m : MethodId} {args : Array Value} {below : List Frame} {meth : Method} {c : Code} {maxL : Nat} {bytes : ByteArray} {own : String} {A : Nat → Prop} {D : va_G} {cA : Nat → ClassId} {ad : Nat → Nat} {G : ct_G} {K : Nat → Nat} {n d cells slots : Nat} {Q : State → Prop} {T : List ct_I} {k : Nat} {ls : ct_L} {st : List ct_PV} {h : ct_H}
theorem ct_callQ {H : Heap} {locs : List Loc} {pc : Nat} {lm : Array Slot} {st0 rest : List Value} {a0 : Array Value} {r : Option ct_PV × ct_H} (hr : va_Run p l e R s m args below meth c H locs cells slots 0 0 (F0 m pc lm st0) rest (ct_Qc A D cA ad G K n r a0) A) (hS : va_S A s.heap H locs)
    (kk : ∀ (H1 : Heap) (locs1 : List Loc), va_P D ct_cl (ct_ws cA ad G K n r.2) H1 → va_S A s.heap H1 locs1 → ct_hin r.2 → (∀ v, r.1 = some v → ct_ok K n v) → W p l e R s m args below meth c H1 locs1 cells slots Q (F0 m (pc + 3) lm (r.1.toList.map (ct_mv ad) ++ rest))) : W p l e R s m args below meth c H locs cells slots Q (F0 m pc lm st0) := by
  intro T hT X
  obtain ⟨v, st₀, t, T', L, h0, X', hL, e1, e2, ⟨hv, hP, ⟨hz, hk⟩, hh, hok⟩, stp⟩ := hr T hT X
  rw [h0] at hz hk
  rw [← e1] at hP
  have hv2 : v = r.1.map (ct_mv ad) := by cases hv; rfl
  subst hv2
  obtain ⟨t2, a1, b1⟩ := kk T'.heap (locs ++ L) hP ⟨Nat.le_trans hS.1 (by rw [e1]; exact hz), fun q h1 h2 => by rw [e1, hk q (Nat.lt_of_lt_of_le h1 hS.1) h2]; exact hS.2.1 q h1 h2, fun q hq => by
      rcases List.mem_append.mp hq with h | h
      · exact hS.2.2 q h
      · exact hL q h⟩ hh hok T' rfl X'
  refine ⟨t2, stp t2 ?_, b1⟩
  have e3 : (r.1.map (ct_mv ad)).toList = r.1.toList.map (ct_mv ad) := by cases r.1 <;> rfl
  rw [e3]
  exact a1
/-- what the tables say of a call of M by a pool number -/
def ct_LkV (own : String) (idx : Nat) (M : ct_M) (nA : Nat) : Prop := Cond.methodLink own idx M.1 ∈ ct_GW ∧ Cond.instanceMethod M.1 ∈ ct_GW ∧ Cond.selects M.1.cls M.1 M.1 ∈ ct_GW ∧ (parseMethodDescriptor M.1.desc).map (fun d => d.parameters.length) = some nA
def ct_LkS (own : String) (idx : Nat) (M : ct_M) (nA : Nat) : Prop := Cond.methodLink own idx M.1 ∈ ct_GW ∧ Cond.static M.1 ∈ ct_GW ∧ (parseMethodDescriptor M.1.desc).map (fun d => d.parameters.length) = some nA
theorem ct_CallB (C : ct_Cx p R s m args c bytes maxL own A D cA ad G K n (d + 1) cells slots) {M : ct_M} (hM : ct_MOk M) {idx nA : Nat} (hl : Cond.methodLink own idx M.1 ∈ ct_GW) (hn : (parseMethodDescriptor M.1.desc).map (fun d => d.parameters.length) = some nA) : CallB R s args own idx M.1 M.2.1 M.2.2.1 M.2.2.2.1 (Cond.code M.1 M.2.1 M.2.2.1 M.2.2.2.1 :: ct_GW) (ct_rm d) 0 0 nA := by
  obtain ⟨m1, m2, m3, m4, m5, m6, m7⟩ := hM
  obtain ⟨-, -, -, -, hts, -, -, -, ⟨r1, r2, r3, r4⟩, -⟩ := C
  have hin : ∀ w ∈ (Cond.code M.1 M.2.1 M.2.2.1 M.2.2.2.1 :: ct_GW), w ∈ ct_GW := by
    intro w hw
    rcases List.mem_cons.mp hw with e | e
    · rw [e]; exact m1
    · exact e
  refine ⟨rfl, rfl, r1, ?_, fun w hw a' U hW => word_at hW (ct_GW_good (hin w hw)) (hts w (hin w hw)), List.mem_cons_self, hts _ m1, hts _ m2, m6, fun sig hsig => ?_, hts _ hl⟩
  · show 8 + (M.2.2.1 + 11) + 40 * d ≤ R.locals
    omega
  · rw [hsig] at hn
    exact (Option.some.inj hn).symm
theorem ct_sum_map (ad : Nat → Nat) (st : List ct_PV) : ((st.map (ct_mv ad)).map fun v => v.category).sum = (st.map ct_cat).sum := by
  rw [List.map_map]
  congr 1
  apply List.map_congr_left
  intro v _
  exact ct_cat_mv ad v
theorem ct_VcallV {α : Type} (C : ct_Cx p R s m args c bytes maxL own A D cA ad G K n (d + 1) cells slots) {M : ct_M} (hM : ct_MOk M) {pc idx nA cc b : Nat} {as : List ct_PV} {ρ : α → Option ct_PV × ct_H} {o : Option α} {a : α} (hdec : decode bytes pc = .ok (.invokevirtual idx, 3)) (hL : ct_LkV own idx M nA) (hX : ct_X M d G 0 (ct_args 0 (.inr (.inr (cc, b)) :: as)) [] h ρ o) (ho : o = some a) (hnA : as.length = nA) (hcc : cc < 8) (hcn : ct_R cc = M.1.cls) (hlen : 1 + (as.map ct_cat).sum ≤ M.2.2.1) (hrest : (st.map ct_cat).sum ≤ 8)
    (kk : ct_V p l e R s m args below meth c maxL A D cA ad G K n cells slots Q (pc + 3) ls ((ρ a).1.toList ++ st) (ρ a).2) : ct_V p l e R s m args below meth c maxL A D cA ad G K n cells slots Q pc ls (as.reverse ++ .inr (.inr (cc, b)) :: st) h := by
  intro H locs lm hP hS hl hol hos hh
  obtain ⟨hx, hb, hml, hown, hts, hK, hD, hWT, hR, hStr⟩ := id C
  have hos1 : ∀ v ∈ as, ct_ok K n v := fun v hv => hos v (List.mem_append_left _ (List.mem_reverse.mpr hv))
  have hos2 : ∀ v ∈ (.inr (.inr (cc, b)) :: st : List ct_PV), ct_ok K n v := fun v hv => hos v (List.mem_append_right _ hv)
  have hasok : ∀ v ∈ (.inr (.inr (cc, b)) :: as : List ct_PV), ct_ok K n v := ct_cons_ok (ct_hd hos2) hos1
  have hq0 := ct_hd hos2
  rcases hq0 with ⟨hn, hk⟩ | ⟨hk, -⟩
  case inr => dsimp only at hk; omega
  dsimp only at hn hk
  have hcell := ct_ws_get (cA := cA) (ad := ad) (G := G) (K := K) (h := h) hn
  rw [ct_cell_obj (by omega), hk] at hcell
  have hmet := ct_Met hM l (A := A) (D := D) (cA := cA) (ad := ad) (K := K) (n := n) hX ho (by simpa [ct_cat] using hlen) hh hasok hWT hD
  have hcw : CallW R s args own M.1.cls idx M.1 M.2.1 M.2.2.1 M.2.2.2.1 (Cond.code M.1 M.2.1 M.2.2.1 M.2.2.2.1 :: ct_GW) (ct_rm d) 0 0 nA := ⟨ct_CallB C hM hL.1 hL.2.2.2, hts _ hL.2.1, hts _ hL.2.2.1⟩
  have hrecv := va_recv hK hP (ct_cl_get cc hcc) hcell
  rw [show (ct_R cc, ct_T cc, ct_N cc).1 = M.1.cls from hcn] at hrecv
  have hrun := va_runV (As := as.map (ct_mv ad)) (rest := st.map (ct_mv ad)) (Ts := ct_GW) (g := F0 m pc lm ((as.map (ct_mv ad)).reverse ++ .ref (ad b) :: st.map (ct_mv ad))) (H := H) (locs := locs) (cells := cells) (slots := slots) (e := e) (below := below) (meth := meth) ⟨hx, hb, hml, hown, hts⟩ hmet hcw ⟨ct_blind, hrecv, fun U hU hW => ⟨rfl, by rw [hU]; exact hP, va_K.moved hW.alike hK, ct_Str_to hStr hS hU hW⟩⟩ rfl (by rw [List.length_map]; exact hnA) hl.1 rfl (by show 2 * 0 + _ ≤ 8; rw [ct_sum_map]; omega) hdec ⟨hR.2.2.1, hR.2.2.2⟩
  have e0 : (as.reverse ++ .inr (.inr (cc, b)) :: st).map (ct_mv ad) = (as.map (ct_mv ad)).reverse ++ .ref (ad b) :: st.map (ct_mv ad) := by
    rw [List.map_append, List.map_reverse, List.map_cons]; rfl
  rw [e0]
  refine ct_callQ hrun hS (fun H1 locs1 hP1 hS1 hh1 hok1 => ?_)
  have k2 := kk H1 locs1 lm hP1 hS1 hl hol (fun v hv => by
    rcases List.mem_append.mp hv with h1 | h1
    · exact hok1 v (by simpa using h1)
    · exact ct_tl hos2 v h1) hh1
  rw [List.map_append] at k2
  exact k2
theorem ct_VcallS {α : Type} (C : ct_Cx p R s m args c bytes maxL own A D cA ad G K n (d + 1) cells slots) {M : ct_M} (hM : ct_MOk M) {pc idx nA : Nat} {as : List ct_PV} {ρ : α → Option ct_PV × ct_H} {o : Option α} {a : α} (hdec : decode bytes pc = .ok (.invokestatic idx, 3)) (hL : ct_LkS own idx M nA) (hX : ct_X M d G 0 (ct_args 0 as) [] h ρ o) (ho : o = some a) (hnA : as.length = nA) (hlen : (as.map ct_cat).sum ≤ M.2.2.1) (hrest : (st.map ct_cat).sum ≤ 8)
    (kk : ct_V p l e R s m args below meth c maxL A D cA ad G K n cells slots Q (pc + 3) ls ((ρ a).1.toList ++ st) (ρ a).2) : ct_V p l e R s m args below meth c maxL A D cA ad G K n cells slots Q pc ls (as.reverse ++ st) h := by
  intro H locs lm hP hS hl hol hos hh
  obtain ⟨hx, hb, hml, hown, hts, hK, hD, hWT, hR, hStr⟩ := id C
  have hos1 : ∀ v ∈ as, ct_ok K n v := fun v hv => hos v (List.mem_append_left _ (List.mem_reverse.mpr hv))
  have hos2 : ∀ v ∈ st, ct_ok K n v := fun v hv => hos v (List.mem_append_right _ hv)
  have hmet := ct_Met hM l (A := A) (D := D) (cA := cA) (ad := ad) (K := K) (n := n) hX ho hlen hh hos1 hWT hD
  have hrun := va_runS (As := as.map (ct_mv ad)) (rest := st.map (ct_mv ad)) (Ts := ct_GW) (g := F0 m pc lm ((as.map (ct_mv ad)).reverse ++ st.map (ct_mv ad))) (H := H) (locs := locs) (cells := cells) (slots := slots) (e := e) (below := below) (meth := meth) ⟨hx, hb, hml, hown, hts⟩ hmet ⟨ct_CallB C hM hL.1 hL.2.2, hts _ hL.2.1⟩ ⟨ct_blind, fun U hU hW => ⟨rfl, by rw [hU]; exact hP, va_K.moved hW.alike hK, ct_Str_to hStr hS hU hW⟩⟩ rfl (by rw [List.length_map]; exact hnA) hl.1 rfl (by show 2 * 0 + _ ≤ 8; rw [ct_sum_map]; omega) hdec ⟨hR.2.2.1, hR.2.2.2⟩
  have e0 : (as.reverse ++ st).map (ct_mv ad) = (as.map (ct_mv ad)).reverse ++ st.map (ct_mv ad) := by
    rw [List.map_append, List.map_reverse]
  rw [e0]
  refine ct_callQ hrun hS (fun H1 locs1 hP1 hS1 hh1 hok1 => ?_)
  have k2 := kk H1 locs1 lm hP1 hS1 hl hol (fun v hv => by
    rcases List.mem_append.mp hv with h1 | h1
    · exact hok1 v (by simpa using h1)
    · exact hos2 v h1) hh1
  rw [List.map_append] at k2
  exact k2
def ct_rv (v : Option ct_PV) (ins : Instr) (ret : Option FieldType) : Prop := match v with
  | none => ins = .return_ ∧ ret = none
  | some (.inl a) => ins = .ireturn ∧ (ret = some .int ∨ (ret = some .boolean ∧ (a = 0 ∨ a = 1)))
  | some (.inr (.inl _)) => ins = .lreturn ∧ ret = some .long
  | some (.inr (.inr _)) => ins = .areturn ∧ ∃ rt, ret = some rt ∧ ((∃ n, rt = .object n) ∨ ∃ t, rt = .array t)
theorem ct_Vret (C : ct_Cx p R s m args c bytes maxL own A D cA ad G K n d 0 0) {pc : Nat} {v : Option ct_PV} {ins : Instr} {ret : Option FieldType} (hr : meth.sig.returnType = ret) (hlk : meth.locks = false) (hdec : decode bytes pc = .ok (ins, 1))
    (hk : ct_rv v ins ret) :
    ct_V p l e R s m args below meth c maxL A D cA ad G K n 0 0 (MQ below (ct_Qc A D cA ad G K n (v, h)) args s 0 0 A) pc ls v.toList h := by
  intro H locs lm hP hS hl hol hos hh
  have hq : ∀ (w : Option Value), w = v.map (ct_mv ad) → ∀ t : State, t.heap = H → s.WarmedH t.vm → ct_Qc A D cA ad G K n (v, h) args s (.returned w) t := fun w hw t ht hW => ⟨by rw [hw], by rw [ht]; exact hP, hS.F ht, hh, fun x hx => hos x (by dsimp only at hx; rw [hx]; exact List.mem_singleton.mpr rfl)⟩
  rcases v with _ | a | x | q
  · obtain ⟨rfl, h2⟩ := hk
    exact W.vret C.1 C.2.1 (hr.trans h2) (hq none rfl) hS.2.2 hdec
  · obtain ⟨rfl, h2 | ⟨h2, h3⟩⟩ := hk
    · exact W.iret C.1 C.2.1 (hr.trans h2) (hq _ rfl) hS.2.2 hdec
    · exact W.zret C.1 C.2.1 (hr.trans h2) (ct_fitB h3).1 (hq _ rfl) hS.2.2 hdec
  · obtain ⟨rfl, h2⟩ := hk
    exact W.lret C.1 C.2.1 (hr.trans h2) (hq _ rfl) hS.2.2 hdec
  · obtain ⟨rfl, rt, h2, h3⟩ := hk
    exact W.aret C.1 C.2.1 (hr.trans h2) h3 (Or.inr ⟨_, rfl⟩) (hq _ rfl) hS.2.2 hdec
end
end
section
/-! the walk: rules in a bundled context -/
/-- p, l, e, R, s, m, args, below, meth, c, A, D, cA, ad, K, n, cells, slots, Q -/
abbrev ct_Ctx : Type := Program × Launch × Env × Room × State × MethodId × Array Value × List Frame × Method × Code × (Nat → Prop) × va_G × (Nat → ClassId) × (Nat → Nat) × (Nat → Nat) × Nat × Nat × Nat × (State → Prop)
def ct_v (x : ct_Ctx) (M : ct_M) (G : ct_G) (k : Nat) (ls : ct_L) (st : List ct_PV) (h : ct_H) : Prop := match x with
  | (p, l, e, R, s, m, args, below, meth, c, A, D, cA, ad, K, n, cells, slots, Q) => ct_V p l e R s m args below meth c M.2.2.1 A D cA ad G K n cells slots Q (ct_pc M.2.2.2.2 k) ls st h
def ct_c (x : ct_Ctx) (M : ct_M) (G : ct_G) (d : Nat) : Prop := match x with
  | (p, _, _, R, s, m, args, _, meth, c, A, D, cA, ad, K, n, cells, slots, _) => ct_MOk M ∧ ct_Cx p R s m args c M.2.1 M.2.2.1 M.1.cls A D cA ad G K n d cells slots ∧ meth.sig.returnType = M.2.2.2.1 ∧ meth.locks = false
def ct_q (x : ct_Ctx) (G : ct_G) (r : Option ct_PV × ct_H) : Prop := match x with
  | (_, _, _, _, s, _, args, below, _, _, A, D, cA, ad, K, n, cells, slots, Q) => cells = 0 ∧ slots = 0 ∧ Q = MQ below (ct_Qc A D cA ad G K n r) args s 0 0 A
def ct_Z {α : Type} (x : ct_Ctx) (M : ct_M) (G : ct_G) (k : Nat) (ls : ct_L) (st : List ct_PV) (h : ct_H) (P : α → Prop) (o : Option α) : Prop := ∀ a, o = some a → P a → ct_v x M G k ls st h
/-- M's contract: from its entry, with these locals, it returns what o says -/
def ct_E {α : Type} (M : ct_M) (d : Nat) (G : ct_G) (ls : ct_L) (h : ct_H) (ρ : α → Option ct_PV × ct_H) (o : Option α) : Prop := ∀ x, ct_c x M G d → ct_Z x M G 0 ls [] h (fun a => ct_q x G (ρ a)) o
theorem ct_E.toX {α : Type} {M : ct_M} {d : Nat} {G : ct_G} {ls : ct_L} {h : ct_H} {ρ : α → Option ct_PV × ct_H} {o : Option α} (hM : ct_MOk M) (hE : ct_E M d G ls h ρ o) : ct_X M d G 0 ls [] h ρ o := by
  intro a ha p l e R s m args below meth c A D cA ad K n C hr hl
  exact hE (p, l, e, R, s, m, args, below, meth, c, A, D, cA, ad, K, n, 0, 0, MQ below (ct_Qc A D cA ad G K n (ρ a)) args s 0 0 A) ⟨hM, C, hr, hl⟩ a ha ⟨rfl, rfl, rfl⟩
section
variable {α : Type} {x : ct_Ctx} {M : ct_M} {G : ct_G} {d k : Nat} {ls : ct_L} {st : List ct_PV} {h : ct_H} {P : α → Prop} {o : Option α}
theorem ct_znone : ct_Z x M G k ls st h P none := fun _ h0 _ => by cases h0
theorem ct_zrun (C : ct_c x M G d) {k' : Nat} {y : ct_S} (j : Nat) (hr : ct_run G M.2.2.1 j (M.2.2.2.2.drop k) ls st h = some y) (hk : k + j = k') (hlt : Nat.blt k' M.2.2.2.2.length = true) (z : ct_Z x M G k' y.1 y.2.1 y.2.2 P o) : ct_Z x M G k ls st h P o := by
  intro a ha hp
  have hz := z a ha hp
  obtain ⟨p, l, e, R, s, m, args, below, meth, c, A, D, cA, ad, K, n, cells, slots, Q⟩ := x
  obtain ⟨hM, hC, -⟩ := C
  subst hk
  exact ct_Vrun hC hM.2.2.1 j k ls st h y hr (by simpa using hlt) hz
theorem ct_zsub {ls' : ct_L} (ks : List Nat) (hl' : ks.filterMap (fun i => ls[i]?) = ls') (z : ct_Z x M G k ls' st h P o) : ct_Z x M G k ls st h P o := by
  intro a ha hp
  have hz := z a ha hp
  obtain ⟨p, l, e, R, s, m, args, below, meth, c, A, D, cA, ad, K, n, cells, slots, Q⟩ := x
  exact ct_Vsub ks hl' hz
theorem ct_row (hM : ct_MOk M) {q : ct_I} (hk : M.2.2.2.2[k]? = some q) : decode M.2.1 q.1 = .ok (q.2.1, q.2.2.1) ∧ ct_pc M.2.2.2.2 k = q.1 := ⟨(hM.2.2.1.1 q (List.mem_of_getElem? hk)).1, ct_pc_get hk⟩
theorem ct_next (hM : ct_MOk M) {q : ct_I} (hk : M.2.2.2.2[k]? = some q) (hlt : Nat.blt (k + 1) M.2.2.2.2.length = true) : ct_pc M.2.2.2.2 (k + 1) = q.1 + q.2.2.1 := by
  have hl : k + 1 < M.2.2.2.2.length := by simpa using hlt
  have hg : M.2.2.2.2[k + 1]? = some M.2.2.2.2[k + 1] := List.getElem?_eq_getElem hl
  rw [ct_pc_get hg]
  exact hM.2.2.1.2 k q _ hk hg
theorem ct_zrd (C : ct_c x M G d) {pc a cd aux : Nat} {i : Int} {ins : Instr} {F : Int → Option α} (hk : M.2.2.2.2[k]? = some (pc, ins, 1, aux)) (hlt : Nat.blt (k + 1) M.2.2.2.2.length = true) (hcd : (cd = 8 ∧ ins = .iaload) ∨ (cd = 9 ∧ ins = .baload) ∨ (cd = 10 ∧ ins = .baload)) (z : ∀ v, ct_Z x M G (k + 1) ls (.inl v :: st) h P (F v)) : ct_Z x M G k ls (.inl i :: .inr (.inr (cd, a)) :: st) h P ((ct_rd G h a i).bind F) := by
  intro b hb hp
  obtain ⟨v, h1, h2⟩ := Option.bind_eq_some_iff.mp hb
  have hz := z v b h2 hp
  obtain ⟨p, l, e, R, s, m, args, below, meth, c, A, D, cA, ad, K, n, cells, slots, Q⟩ := x
  obtain ⟨hM, hC, -⟩ := C
  obtain ⟨r1, r2⟩ := ct_row hM hk
  unfold ct_v at hz ⊢
  dsimp only at hz ⊢ r1 r2
  rw [ct_next hM hk hlt] at hz
  rw [r2]
  exact ct_Vrd hC hcd r1 h1 hz
theorem ct_zrdL (C : ct_c x M G d) {pc a aux : Nat} {i : Int} {F : Int64 → Option α} (hk : M.2.2.2.2[k]? = some (pc, .laload, 1, aux)) (hlt : Nat.blt (k + 1) M.2.2.2.2.length = true) (z : ∀ v, ct_Z x M G (k + 1) ls (.inr (.inl v) :: st) h P (F v)) : ct_Z x M G k ls (.inl i :: .inr (.inr (11, a)) :: st) h P ((ct_rdL G h a i).bind F) := by
  intro b hb hp
  obtain ⟨v, h1, h2⟩ := Option.bind_eq_some_iff.mp hb
  have hz := z v b h2 hp
  obtain ⟨p, l, e, R, s, m, args, below, meth, c, A, D, cA, ad, K, n, cells, slots, Q⟩ := x
  obtain ⟨hM, hC, -⟩ := C
  obtain ⟨r1, r2⟩ := ct_row hM hk
  unfold ct_v at hz ⊢
  dsimp only at hz ⊢ r1 r2
  rw [ct_next hM hk hlt] at hz
  rw [r2]
  exact ct_VrdL hC r1 h1 hz
theorem ct_zrdR (C : ct_c x M G d) {pc a cd aux : Nat} {i : Int} {F : Nat → Option α} (hk : M.2.2.2.2[k]? = some (pc, .aaload, 1, aux)) (hlt : Nat.blt (k + 1) M.2.2.2.2.length = true) (hcd : cd = 12 ∨ cd = 13 ∨ cd = 14) (z : ∀ v, ct_Z x M G (k + 1) ls (.inr (.inr (ct_et cd, v)) :: st) h P (F v)) : ct_Z x M G k ls (.inl i :: .inr (.inr (cd, a)) :: st) h P ((ct_rdR G a i).bind F) := by
  intro b hb hp
  obtain ⟨v, h1, h2⟩ := Option.bind_eq_some_iff.mp hb
  have hz := z v b h2 hp
  obtain ⟨p, l, e, R, s, m, args, below, meth, c, A, D, cA, ad, K, n, cells, slots, Q⟩ := x
  obtain ⟨hM, hC, -⟩ := C
  obtain ⟨r1, r2⟩ := ct_row hM hk
  unfold ct_v at hz ⊢
  dsimp only at hz ⊢ r1 r2
  rw [ct_next hM hk hlt] at hz
  rw [r2]
  exact ct_VrdR hC hcd r1 h1 hz
theorem ct_zwt (C : ct_c x M G d) {pc a aux : Nat} {i v : Int} {F : ct_H → Option α} (hk : M.2.2.2.2[k]? = some (pc, .iastore, 1, aux)) (hlt : Nat.blt (k + 1) M.2.2.2.2.length = true) (z : ∀ h', ct_Z x M G (k + 1) ls st h' P (F h')) : ct_Z x M G k ls (.inl v :: .inl i :: .inr (.inr (8, a)) :: st) h P ((ct_wt G h a i v).bind F) := by
  intro b hb hp
  obtain ⟨h', h1, h2⟩ := Option.bind_eq_some_iff.mp hb
  have hz := z h' b h2 hp
  obtain ⟨p, l, e, R, s, m, args, below, meth, c, A, D, cA, ad, K, n, cells, slots, Q⟩ := x
  obtain ⟨hM, hC, -⟩ := C
  obtain ⟨r1, r2⟩ := ct_row hM hk
  unfold ct_v at hz ⊢
  dsimp only at hz ⊢ r1 r2
  rw [ct_next hM hk hlt] at hz
  rw [r2]
  exact ct_Vwt hC r1 h1 hz
theorem ct_zwtB (C : ct_c x M G d) {pc a aux : Nat} {i v : Int} {F : ct_H → Option α} (hk : M.2.2.2.2[k]? = some (pc, .bastore, 1, aux)) (hlt : Nat.blt (k + 1) M.2.2.2.2.length = true) (z : ∀ h', ct_Z x M G (k + 1) ls st h' P (F h')) : ct_Z x M G k ls (.inl v :: .inl i :: .inr (.inr (9, a)) :: st) h P ((ct_wtB G h a i v).bind F) := by
  intro b hb hp
  obtain ⟨h', h1, h2⟩ := Option.bind_eq_some_iff.mp hb
  have hz := z h' b h2 hp
  obtain ⟨p, l, e, R, s, m, args, below, meth, c, A, D, cA, ad, K, n, cells, slots, Q⟩ := x
  obtain ⟨hM, hC, -⟩ := C
  obtain ⟨r1, r2⟩ := ct_row hM hk
  unfold ct_v at hz ⊢
  dsimp only at hz ⊢ r1 r2
  rw [ct_next hM hk hlt] at hz
  rw [r2]
  exact ct_VwtB hC r1 h1 hz
theorem ct_zwtZ (C : ct_c x M G d) {pc a aux : Nat} {i v : Int} {F : ct_H → Option α} (hk : M.2.2.2.2[k]? = some (pc, .bastore, 1, aux)) (hlt : Nat.blt (k + 1) M.2.2.2.2.length = true) (z : ∀ h', ct_Z x M G (k + 1) ls st h' P (F h')) : ct_Z x M G k ls (.inl v :: .inl i :: .inr (.inr (10, a)) :: st) h P ((ct_wtZ G h a i v).bind F) := by
  intro b hb hp
  obtain ⟨h', h1, h2⟩ := Option.bind_eq_some_iff.mp hb
  have hz := z h' b h2 hp
  obtain ⟨p, l, e, R, s, m, args, below, meth, c, A, D, cA, ad, K, n, cells, slots, Q⟩ := x
  obtain ⟨hM, hC, -⟩ := C
  obtain ⟨r1, r2⟩ := ct_row hM hk
  unfold ct_v at hz ⊢
  dsimp only at hz ⊢ r1 r2
  rw [ct_next hM hk hlt] at hz
  rw [r2]
  exact ct_VwtZ hC r1 h1 hz
theorem ct_zwtL (C : ct_c x M G d) {pc a aux : Nat} {i : Int} {v : Int64} {F : ct_H → Option α} (hk : M.2.2.2.2[k]? = some (pc, .lastore, 1, aux)) (hlt : Nat.blt (k + 1) M.2.2.2.2.length = true) (z : ∀ h', ct_Z x M G (k + 1) ls st h' P (F h')) : ct_Z x M G k ls (.inr (.inl v) :: .inl i :: .inr (.inr (11, a)) :: st) h P ((ct_wtL G h a i v).bind F) := by
  intro b hb hp
  obtain ⟨h', h1, h2⟩ := Option.bind_eq_some_iff.mp hb
  have hz := z h' b h2 hp
  obtain ⟨p, l, e, R, s, m, args, below, meth, c, A, D, cA, ad, K, n, cells, slots, Q⟩ := x
  obtain ⟨hM, hC, -⟩ := C
  obtain ⟨r1, r2⟩ := ct_row hM hk
  unfold ct_v at hz ⊢
  dsimp only at hz ⊢ r1 r2
  rw [ct_next hM hk hlt] at hz
  rw [r2]
  exact ct_VwtL hC r1 h1 hz
theorem ct_zdv (C : ct_c x M G d) {pc aux : Nat} {a b : Int} {F : Int → Option α} (hk : M.2.2.2.2[k]? = some (pc, .idiv, 1, aux)) (hlt : Nat.blt (k + 1) M.2.2.2.2.length = true) (z : ∀ v, ct_Z x M G (k + 1) ls (.inl v :: st) h P (F v)) : ct_Z x M G k ls (.inl b :: .inl a :: st) h P ((ct_dv a b).bind F) := by
  intro b hb hp
  obtain ⟨v, h1, h2⟩ := Option.bind_eq_some_iff.mp hb
  have hz := z v b h2 hp
  obtain ⟨p, l, e, R, s, m, args, below, meth, c, A, D, cA, ad, K, n, cells, slots, Q⟩ := x
  obtain ⟨hM, hC, -⟩ := C
  obtain ⟨r1, r2⟩ := ct_row hM hk
  unfold ct_v at hz ⊢
  dsimp only at hz ⊢ r1 r2
  rw [ct_next hM hk hlt] at hz
  rw [r2]
  exact ct_Vdv hC r1 h1 hz
theorem ct_zmd (C : ct_c x M G d) {pc aux : Nat} {a b : Int} {F : Int → Option α} (hk : M.2.2.2.2[k]? = some (pc, .irem, 1, aux)) (hlt : Nat.blt (k + 1) M.2.2.2.2.length = true) (z : ∀ v, ct_Z x M G (k + 1) ls (.inl v :: st) h P (F v)) : ct_Z x M G k ls (.inl b :: .inl a :: st) h P ((ct_md a b).bind F) := by
  intro b hb hp
  obtain ⟨v, h1, h2⟩ := Option.bind_eq_some_iff.mp hb
  have hz := z v b h2 hp
  obtain ⟨p, l, e, R, s, m, args, below, meth, c, A, D, cA, ad, K, n, cells, slots, Q⟩ := x
  obtain ⟨hM, hC, -⟩ := C
  obtain ⟨r1, r2⟩ := ct_row hM hk
  unfold ct_v at hz ⊢
  dsimp only at hz ⊢ r1 r2
  rw [ct_next hM hk hlt] at hz
  rw [r2]
  exact ct_Vmd hC r1 h1 hz
theorem ct_zsplit {b : Prop} {dp : Decidable b} {o1 o2 : Option α} (z1 : b → ct_Z x M G k ls st h P o1) (z2 : ¬ b → ct_Z x M G k ls st h P o2) : ct_Z x M G k ls st h P (@ite _ b dp o1 o2) := by
  by_cases hb : b
  · rw [if_pos hb]; exact z1 hb
  · rw [if_neg hb]; exact z2 hb
/-- a branch on two ints; the condition of the function is the branch's own (zt), or its opposite (zf) -/
theorem ct_zt (C : ct_c x M G d) {pc aux k' : Nat} {a b off : Int} {cn : Jvm.ClassFile.Cond} {q : Prop} {dp : Decidable q} {o1 o2 : Option α} (hq : ct_cmp cn a b ↔ q) (hk : M.2.2.2.2[k]? = some (pc, .if_icmp cn off, 3, aux)) (hlt : Nat.blt (k + 1) M.2.2.2.2.length = true) (ht : (pc : Int) + off = (ct_pc M.2.2.2.2 k' : Int)) (z1 : q → ct_Z x M G k' ls st h P o1) (z2 : ¬ q → ct_Z x M G (k + 1) ls st h P o2) : ct_Z x M G k ls (.inl b :: .inl a :: st) h P (@ite _ q dp o1 o2) := by
  intro r hr hp
  have hz1 : q → ct_v x M G k' ls st h := fun hq' => z1 hq' r (by rw [if_pos hq'] at hr; exact hr) hp
  have hz2 : ¬ q → ct_v x M G (k + 1) ls st h := fun hq' => z2 hq' r (by rw [if_neg hq'] at hr; exact hr) hp
  obtain ⟨p, l, e, R, s, m, args, below, meth, c, A, D, cA, ad, K, n, cells, slots, Q⟩ := x
  obtain ⟨hM, hC, -⟩ := C
  obtain ⟨r1, r2⟩ := ct_row hM hk
  unfold ct_v at hz1 hz2 ⊢
  dsimp only at hz1 hz2 ⊢ r1 r2
  rw [ct_next hM hk hlt] at hz2
  rw [r2]
  exact ct_Vicmp hC r1 ht (fun w => hz1 (hq.mp w)) (fun w => hz2 (fun v => w (hq.mpr v)))
theorem ct_zf (C : ct_c x M G d) {pc aux k' : Nat} {a b off : Int} {cn : Jvm.ClassFile.Cond} {q : Prop} {dp : Decidable q} {o1 o2 : Option α} (hq : ct_cmp cn a b ↔ ¬ q) (hk : M.2.2.2.2[k]? = some (pc, .if_icmp cn off, 3, aux)) (hlt : Nat.blt (k + 1) M.2.2.2.2.length = true) (ht : (pc : Int) + off = (ct_pc M.2.2.2.2 k' : Int)) (z1 : q → ct_Z x M G (k + 1) ls st h P o1) (z2 : ¬ q → ct_Z x M G k' ls st h P o2) : ct_Z x M G k ls (.inl b :: .inl a :: st) h P (@ite _ q dp o1 o2) := by
  intro r hr hp
  have hz1 : q → ct_v x M G (k + 1) ls st h := fun hq' => z1 hq' r (by rw [if_pos hq'] at hr; exact hr) hp
  have hz2 : ¬ q → ct_v x M G k' ls st h := fun hq' => z2 hq' r (by rw [if_neg hq'] at hr; exact hr) hp
  obtain ⟨p, l, e, R, s, m, args, below, meth, c, A, D, cA, ad, K, n, cells, slots, Q⟩ := x
  obtain ⟨hM, hC, -⟩ := C
  obtain ⟨r1, r2⟩ := ct_row hM hk
  unfold ct_v at hz1 hz2 ⊢
  dsimp only at hz1 hz2 ⊢ r1 r2
  rw [ct_next hM hk hlt] at hz1
  rw [r2]
  exact ct_Vicmp hC r1 ht (fun w => hz2 (hq.mp w)) (fun w => hz1 (Classical.byContradiction fun v => w (hq.mpr v)))
theorem ct_zt0 (C : ct_c x M G d) {pc aux k' : Nat} {a off : Int} {cn : Jvm.ClassFile.Cond} {q : Prop} {dp : Decidable q} {o1 o2 : Option α} (hq : ct_cmp cn a 0 ↔ q) (hk : M.2.2.2.2[k]? = some (pc, .ifCond cn off, 3, aux)) (hlt : Nat.blt (k + 1) M.2.2.2.2.length = true) (ht : (pc : Int) + off = (ct_pc M.2.2.2.2 k' : Int)) (z1 : q → ct_Z x M G k' ls st h P o1) (z2 : ¬ q → ct_Z x M G (k + 1) ls st h P o2) : ct_Z x M G k ls (.inl a :: st) h P (@ite _ q dp o1 o2) := by
  intro r hr hp
  have hz1 : q → ct_v x M G k' ls st h := fun hq' => z1 hq' r (by rw [if_pos hq'] at hr; exact hr) hp
  have hz2 : ¬ q → ct_v x M G (k + 1) ls st h := fun hq' => z2 hq' r (by rw [if_neg hq'] at hr; exact hr) hp
  obtain ⟨p, l, e, R, s, m, args, below, meth, c, A, D, cA, ad, K, n, cells, slots, Q⟩ := x
  obtain ⟨hM, hC, -⟩ := C
  obtain ⟨r1, r2⟩ := ct_row hM hk
  unfold ct_v at hz1 hz2 ⊢
  dsimp only at hz1 hz2 ⊢ r1 r2
  rw [ct_next hM hk hlt] at hz2
  rw [r2]
  exact ct_Vcond hC r1 ht (fun w => hz1 (hq.mp w)) (fun w => hz2 (fun v => w (hq.mpr v)))
theorem ct_zf0 (C : ct_c x M G d) {pc aux k' : Nat} {a off : Int} {cn : Jvm.ClassFile.Cond} {q : Prop} {dp : Decidable q} {o1 o2 : Option α} (hq : ct_cmp cn a 0 ↔ ¬ q) (hk : M.2.2.2.2[k]? = some (pc, .ifCond cn off, 3, aux)) (hlt : Nat.blt (k + 1) M.2.2.2.2.length = true) (ht : (pc : Int) + off = (ct_pc M.2.2.2.2 k' : Int)) (z1 : q → ct_Z x M G (k + 1) ls st h P o1) (z2 : ¬ q → ct_Z x M G k' ls st h P o2) : ct_Z x M G k ls (.inl a :: st) h P (@ite _ q dp o1 o2) := by
  intro r hr hp
  have hz1 : q → ct_v x M G (k + 1) ls st h := fun hq' => z1 hq' r (by rw [if_pos hq'] at hr; exact hr) hp
  have hz2 : ¬ q → ct_v x M G k' ls st h := fun hq' => z2 hq' r (by rw [if_neg hq'] at hr; exact hr) hp
  obtain ⟨p, l, e, R, s, m, args, below, meth, c, A, D, cA, ad, K, n, cells, slots, Q⟩ := x
  obtain ⟨hM, hC, -⟩ := C
  obtain ⟨r1, r2⟩ := ct_row hM hk
  unfold ct_v at hz1 hz2 ⊢
  dsimp only at hz1 hz2 ⊢ r1 r2
  rw [ct_next hM hk hlt] at hz1
  rw [r2]
  exact ct_Vcond hC r1 ht (fun w => hz2 (hq.mp w)) (fun w => hz1 (Classical.byContradiction fun v => w (hq.mpr v)))
theorem ct_zgoto (C : ct_c x M G d) {pc aux k' : Nat} {off : Int} (hk : M.2.2.2.2[k]? = some (pc, .goto off, 3, aux)) (ht : (pc : Int) + off = (ct_pc M.2.2.2.2 k' : Int)) (z : ct_Z x M G k' ls st h P o) : ct_Z x M G k ls st h P o := by
  intro r hr hp
  have hz := z r hr hp
  obtain ⟨p, l, e, R, s, m, args, below, meth, c, A, D, cA, ad, K, n, cells, slots, Q⟩ := x
  obtain ⟨hM, hC, -⟩ := C
  obtain ⟨r1, r2⟩ := ct_row hM hk
  unfold ct_v at hz ⊢
  dsimp only at hz ⊢ r1 r2
  rw [r2]
  exact ct_Vgoto hC r1 ht hz
theorem ct_zsw (C : ct_c x M G d) {q : ct_I} {k' : Nat} {a off : Int} (hk : M.2.2.2.2[k]? = some q) (hsw : ct_sw q.2.1 a = some off) (ht : (q.1 : Int) + off = (ct_pc M.2.2.2.2 k' : Int)) (z : ct_Z x M G k' ls st h P o) : ct_Z x M G k ls (.inl a :: st) h P o := by
  intro r hr hp
  have hz := z r hr hp
  obtain ⟨p, l, e, R, s, m, args, below, meth, c, A, D, cA, ad, K, n, cells, slots, Q⟩ := x
  obtain ⟨hM, hC, -⟩ := C
  obtain ⟨r1, r2⟩ := ct_row hM hk
  unfold ct_v at hz ⊢
  dsimp only at hz ⊢ r1 r2
  rw [r2]
  exact ct_Vsw hC r1 hsw ht hz
theorem ct_zV {β : Type} (C : ct_c x M G (d + 1)) {N : ct_M} {pc aux idx nA cc b : Nat} {S : List ct_PV} (as st : List ct_PV) {ρ : β → Option ct_PV × ct_H} {ob : Option β} {F : β → Option α} (hN : ct_MOk N) (hL : ct_LkV M.1.cls idx N nA) (hE : ct_E N d G (ct_args 0 (.inr (.inr (cc, b)) :: as)) h ρ ob) (hk : M.2.2.2.2[k]? = some (pc, .invokevirtual idx, 3, aux)) (hlt : Nat.blt (k + 1) M.2.2.2.2.length = true) (hS : S = as.reverse ++ .inr (.inr (cc, b)) :: st) (hnA : as.length = nA) (hcc : Nat.blt cc 8 = true) (hcn : ct_R cc = N.1.cls) (hlen : Nat.ble (1 + (as.map ct_cat).sum) N.2.2.1 = true) (hrest : Nat.ble (st.map ct_cat).sum 8 = true)
    (z : ∀ r, ct_Z x M G (k + 1) ls ((ρ r).1.toList ++ st) (ρ r).2 P (F r)) : ct_Z x M G k ls S h P (ob.bind F) := by
  intro r hr hp
  obtain ⟨v, h1, h2⟩ := Option.bind_eq_some_iff.mp hr
  have hz := z v r h2 hp
  subst hS
  obtain ⟨p, l, e, R, s, m, args, below, meth, c, A, D, cA, ad, K, n, cells, slots, Q⟩ := x
  obtain ⟨hM, hC, -⟩ := C
  obtain ⟨r1, r2⟩ := ct_row hM hk
  unfold ct_v at hz ⊢
  dsimp only at hz ⊢ r1 r2
  rw [ct_next hM hk hlt] at hz
  rw [r2]
  exact ct_VcallV hC hN r1 hL (hE.toX hN) h1 hnA (by simpa using hcc) hcn (Nat.le_of_ble_eq_true hlen) (Nat.le_of_ble_eq_true hrest) hz
theorem ct_zS {β : Type} (C : ct_c x M G (d + 1)) {N : ct_M} {pc aux idx nA : Nat} {S : List ct_PV} (as st : List ct_PV) {ρ : β → Option ct_PV × ct_H} {ob : Option β} {F : β → Option α} (hN : ct_MOk N) (hL : ct_LkS M.1.cls idx N nA) (hE : ct_E N d G (ct_args 0 as) h ρ ob) (hk : M.2.2.2.2[k]? = some (pc, .invokestatic idx, 3, aux)) (hlt : Nat.blt (k + 1) M.2.2.2.2.length = true) (hS : S = as.reverse ++ st) (hnA : as.length = nA) (hlen : Nat.ble (as.map ct_cat).sum N.2.2.1 = true) (hrest : Nat.ble (st.map ct_cat).sum 8 = true)
    (z : ∀ r, ct_Z x M G (k + 1) ls ((ρ r).1.toList ++ st) (ρ r).2 P (F r)) : ct_Z x M G k ls S h P (ob.bind F) := by
  intro r hr hp
  obtain ⟨v, h1, h2⟩ := Option.bind_eq_some_iff.mp hr
  have hz := z v r h2 hp
  subst hS
  obtain ⟨p, l, e, R, s, m, args, below, meth, c, A, D, cA, ad, K, n, cells, slots, Q⟩ := x
  obtain ⟨hM, hC, -⟩ := C
  obtain ⟨r1, r2⟩ := ct_row hM hk
  unfold ct_v at hz ⊢
  dsimp only at hz ⊢ r1 r2
  rw [ct_next hM hk hlt] at hz
  rw [r2]
  exact ct_VcallS hC hN r1 hL (hE.toX hN) h1 hnA (Nat.le_of_ble_eq_true hlen) (Nat.le_of_ble_eq_true hrest) hz
theorem ct_zret (C : ct_c x M G d) {ρ : α → Option ct_PV × ct_H} {pc aux : Nat} {ins : Instr} {S : List ct_PV} {a : α} (v : Option ct_PV) (hk : M.2.2.2.2[k]? = some (pc, ins, 1, aux)) (hS : S = v.toList) (hρ : ρ a = (v, h))
    (hv : ct_rv v ins M.2.2.2.1) : ct_Z x M G k ls S h (fun a => ct_q x G (ρ a)) (some a) := by
  intro r hr hp
  cases hr
  subst hS
  obtain ⟨p, l, e, R, s, m, args, below, meth, c, A, D, cA, ad, K, n, cells, slots, Q⟩ := x
  obtain ⟨hM, hC, hr, hl⟩ := C
  obtain ⟨r1, r2⟩ := ct_row hM hk
  obtain ⟨q1, q2, q3⟩ := hp
  subst q1; subst q2; subst q3
  unfold ct_v
  dsimp only at r1 r2 ⊢
  rw [r2, hρ]
  exact ct_Vret hC hr hl r1 hv
def ct_bz (a : Int) : Option Int := if a = 0 ∨ a = 1 then some a else none
theorem ct_zbz {r : Int} {F : Int → Option α} (z : (r = 0 ∨ r = 1) → ct_Z x M G k ls st h P (F r)) : ct_Z x M G k ls st h P ((ct_bz r).bind F) := by
  intro b hb hp
  obtain ⟨v, h1, h2⟩ := Option.bind_eq_some_iff.mp hb
  unfold ct_bz at h1
  split at h1
  · rename_i hr
    cases h1
    exact z hr b h2 hp
  · cases h1
theorem ct_zleaf {L : α → ct_L} {S : α → List ct_PV} {Hh : α → ct_H} {a : α} (h1 : L a = ls) (h2 : S a = st) (h3 : Hh a = h) : ct_Z x M G k ls st h (fun a => ct_v x M G k (L a) (S a) (Hh a)) (some a) := by
  intro r hr hp
  cases hr
  subst h1; subst h2; subst h3
  exact hp
theorem ct_zbind {β : Type} {k' : Nat} {L : β → ct_L} {S : β → List ct_PV} {Hh : β → ct_H} {ob : Option β} {F : β → Option α} (z1 : ct_Z x M G k ls st h (fun b => ct_v x M G k' (L b) (S b) (Hh b)) ob) (z2 : ∀ b, ct_Z x M G k' (L b) (S b) (Hh b) P (F b)) : ct_Z x M G k ls st h P (ob.bind F) := by
  intro r hr hp
  obtain ⟨v, h1, h2⟩ := Option.bind_eq_some_iff.mp hr
  exact z1 v h1 (z2 v r h2 hp)
end
end
section
def ct_fw (own : String) (q : Nat × Nat) : Cond := Cond.fieldLink own q.1 (ct_T (q.2 / 64) (q.2 % 64)).1 (ct_T (q.2 / 64) (q.2 % 64)).2.1 (ct_T (q.2 / 64) (q.2 % 64)).2.2.1
def ct_fchk (FL : List (Nat × Nat)) (ins : Instr) (aux : Nat) : Bool := match ins with
  | .getfield idx => FL.contains (idx, aux)
  | .putfield idx => FL.contains (idx, aux) && (decide (ct_rt (aux / 64) (aux % 64) < 98) || !(ct_T (aux / 64) (aux % 64)).2.2.2)
  | _ => true
def ct_chk (FL : List (Nat × Nat)) (bytes : ByteArray) : List ct_I → Bool
  | [] => true
  | q :: t => decide (decode bytes q.1 = .ok (q.2.1, q.2.2.1)) && ((ct_ctl q.2.1 || q.2.2.1 == ct_len q.2.1) && (ct_fchk FL q.2.1 q.2.2.2 && ((match t with | [] => true | r :: _ => r.1 == q.1 + q.2.2.1) && ct_chk FL bytes t)))
def ct_FLok (own : String) (FL : List (Nat × Nat)) : Prop := ∀ q ∈ FL, q.2 / 64 < 8 ∧ q.2 % 64 < ct_N (q.2 / 64) ∧ ct_fw own q ∈ ct_GW
theorem ct_FL_of {own : String} {FL : List (Nat × Nat)} {ps : List Nat} (h1 : FL.all (fun q => decide (q.2 / 64 < 8) && decide (q.2 % 64 < ct_N (q.2 / 64))) = true) (h2 : FL.map (ct_fw own) = ps.filterMap (fun i => lw_tbl[i]?)) (h3 : (FL.map (ct_fw own)).all goodWord = true) : ct_FLok own FL := by
  intro q hq
  have := List.all_eq_true.mp h1 q hq
  simp only [Bool.and_eq_true, decide_eq_true_eq] at this
  exact ⟨this.1, this.2, ct_inW h2 h3 _ (List.mem_map_of_mem hq)⟩
theorem ct_TK_of {own : String} {FL : List (Nat × Nat)} {bytes : ByteArray} (hF : ct_FLok own FL) : ∀ {T : List ct_I}, ct_chk FL bytes T = true → ct_TK own bytes T
  | [], _ => ⟨fun q hq => (nomatch hq), fun k q r hq _ => (nomatch hq)⟩
  | q :: t, h => by
    unfold ct_chk at h
    simp only [Bool.and_eq_true, decide_eq_true_eq, Bool.or_eq_true, beq_iff_eq] at h
    obtain ⟨h1, h2, h3, h4, h5⟩ := h
    have ih := ct_TK_of hF h5
    refine ⟨fun w hw => ?_, fun k a b ha hb => ?_⟩
    · rcases List.mem_cons.mp hw with e | e
      · subst e
        refine ⟨h1, ?_, h2⟩
        unfold ct_fchk at h3
        unfold ct_fok
        split at h3
        · rename_i idx e0
          rw [e0]
          exact hF _ (by simpa using h3)
        · rename_i idx e0
          rw [e0]
          simp only [Bool.and_eq_true, Bool.or_eq_true, decide_eq_true_eq, Bool.not_eq_true', List.contains_iff_mem] at h3
          obtain ⟨f1, f2, f3⟩ := hF _ h3.1
          exact ⟨f1, f2, f3, fun z => h3.2.elim (fun w => absurd z (Nat.not_le_of_lt w)) id⟩
        · rename_i n1 n2
          split
          · rename_i idx e0; exact absurd e0 (n1 idx)
          · rename_i idx e0; exact absurd e0 (n2 idx)
          · trivial
      · exact ih.1 w e
    · cases k with
      | zero =>
        cases t with
        | nil => simp at hb
        | cons r t =>
          simp at ha hb h4
          subst ha; subst hb
          exact h4
      | succ k => exact ih.2 k a b (by simpa using ha) (by simpa using hb)
theorem ct_MOk_of {M : ct_M} {FL : List (Nat × Nat)} (i j : Nat) (hF : ct_FLok M.1.cls FL) (h1 : lw_tbl[i]? = some (Cond.code M.1 M.2.1 M.2.2.1 M.2.2.2.1)) (h2 : lw_tbl[j]? = some (Cond.initialized M.1.cls)) (h3 : ct_chk FL M.2.1 M.2.2.2.2 = true) (h4 : (goodWord (Cond.code M.1 M.2.1 M.2.2.1 M.2.2.2.1) && (goodWord (Cond.initialized M.1.cls) && (Nat.ble M.2.2.1 20 && (plainName M.1.cls && (decide (M.1.cls ≠ "java/lang/invoke/MethodHandle" ∧ M.1.cls ≠ "java/lang/invoke/VarHandle") && decide (ct_pc M.2.2.2.2 0 = 0)))))) = true) : ct_MOk M := by
  simp only [Bool.and_eq_true, decide_eq_true_eq] at h4
  obtain ⟨g1, g2, g3, g4, g5, g6⟩ := h4
  exact ⟨ct_GW_of i h1 g1, ct_GW_of j h2 g2, ct_TK_of hF h3, Nat.le_of_ble_eq_true g3, g4, g5, g6⟩
theorem ct_LkV_of {own : String} {idx nA : Nat} {M : ct_M} (i j k : Nat) (h1 : lw_tbl[i]? = some (Cond.methodLink own idx M.1)) (h2 : lw_tbl[j]? = some (Cond.instanceMethod M.1)) (h3 : lw_tbl[k]? = some (Cond.selects M.1.cls M.1 M.1)) (h4 : (goodWord (Cond.methodLink own idx M.1) && (goodWord (Cond.instanceMethod M.1) && (goodWord (Cond.selects M.1.cls M.1 M.1) && decide ((parseMethodDescriptor M.1.desc).map (fun d => d.parameters.length) = some nA)))) = true) : ct_LkV own idx M nA := by
  simp only [Bool.and_eq_true, decide_eq_true_eq] at h4
  exact ⟨ct_GW_of i h1 h4.1, ct_GW_of j h2 h4.2.1, ct_GW_of k h3 h4.2.2.1, h4.2.2.2⟩
theorem ct_LkS_of {own : String} {idx nA : Nat} {M : ct_M} (i j : Nat) (h1 : lw_tbl[i]? = some (Cond.methodLink own idx M.1)) (h2 : lw_tbl[j]? = some (Cond.static M.1)) (h4 : (goodWord (Cond.methodLink own idx M.1) && (goodWord (Cond.static M.1) && decide ((parseMethodDescriptor M.1.desc).map (fun d => d.parameters.length) = some nA))) = true) : ct_LkS own idx M nA := by
  simp only [Bool.and_eq_true, decide_eq_true_eq] at h4
  exact ⟨ct_GW_of i h1 h4.1, ct_GW_of j h2 h4.2.1, h4.2.2⟩
def fl_X6 : List (Nat × Nat) := [(12, 384), (23, 385), (30, 386), (34, 387), (37, 388), (40, 389), (43, 390), (51, 391), (55, 392), (58, 393), (64, 394), (70, 395), (75, 396), (79, 397), (82, 398), (85, 399), (88, 400), (95, 1), (99, 2), (122, 5), (135, 321), (142, 324), (189, 132), (202, 133), (211, 71), (238, 129), (277, 66), (280, 67), (286, 68), (289, 69), (328, 194), (331, 192), (334, 193), (365, 257), (374, 256)]
set_option maxRecDepth 100000 in
theorem flok_X6 : ct_FLok RX6 fl_X6 := ct_FL_of (ps := [303, 304, 305, 306, 307, 308, 309, 310, 311, 312, 313, 314, 315, 316, 317, 318, 319, 127, 129, 138, 264, 268, 170, 172, 213, 166, 204, 206, 208, 210, 248, 244, 246, 293, 291]) (by decide +kernel) (by decide +kernel) (by decide +kernel)
def fl_X0 : List (Nat × Nat) := [(11, 0), (15, 5), (19, 6), (26, 1), (29, 2), (32, 3), (35, 4)]
set_option maxRecDepth 100000 in
theorem flok_X0 : ct_FLok RX0 fl_X0 := ct_FL_of (ps := [124, 137, 139, 128, 130, 133, 136]) (by decide +kernel) (by decide +kernel) (by decide +kernel)
def fl_X1 : List (Nat × Nat) := [(9, 64), (17, 65), (21, 66), (24, 67), (27, 68), (30, 69), (33, 70), (36, 71), (40, 72), (43, 73), (46, 6), (49, 4), (52, 3), (62, 0)]
set_option maxRecDepth 100000 in
theorem flok_X1 : ct_FLok RX1 fl_X1 := ct_FL_of (ps := [201, 202, 203, 205, 207, 209, 211, 212, 214, 215, 141, 134, 132, 126]) (by decide +kernel) (by decide +kernel) (by decide +kernel)
def fl_X2 : List (Nat × Nat) := [(13, 128), (17, 129), (21, 130), (24, 131), (27, 132), (30, 133), (34, 134), (37, 135), (40, 136), (43, 6), (52, 4), (55, 3), (66, 0)]
set_option maxRecDepth 100000 in
theorem flok_X2 : ct_FLok RX2 fl_X2 := ct_FL_of (ps := [164, 165, 167, 168, 169, 171, 173, 174, 175, 140, 135, 131, 125]) (by decide +kernel) (by decide +kernel) (by decide +kernel)
def fl_X3 : List (Nat × Nat) := [(7, 192), (13, 193), (16, 194)]
set_option maxRecDepth 100000 in
theorem flok_X3 : ct_FLok RX3 fl_X3 := ct_FL_of (ps := [243, 245, 247]) (by decide +kernel) (by decide +kernel) (by decide +kernel)
def fl_X4 : List (Nat × Nat) := [(9, 256), (13, 257), (17, 258)]
set_option maxRecDepth 100000 in
theorem flok_X4 : ct_FLok RX4 fl_X4 := ct_FL_of (ps := [290, 292, 294]) (by decide +kernel) (by decide +kernel) (by decide +kernel)
def fl_X5 : List (Nat × Nat) := [(9, 320), (13, 321), (17, 322), (20, 323), (23, 324), (26, 325)]
set_option maxRecDepth 100000 in
theorem flok_X5 : ct_FLok RX5 fl_X5 := ct_FL_of (ps := [262, 263, 265, 266, 267, 269]) (by decide +kernel) (by decide +kernel) (by decide +kernel)
def fl_L : List (Nat × Nat) := []
set_option maxRecDepth 100000 in
theorem flok_L : ct_FLok RL fl_L := ct_FL_of (ps := []) (by decide +kernel) (by decide +kernel) (by decide +kernel)
def fl_X7 : List (Nat × Nat) := [(9, 448), (15, 449), (18, 451), (22, 452), (26, 454), (29, 455), (32, 458), (36, 459), (39, 460), (42, 461), (45, 464), (48, 465), (51, 468), (54, 469), (57, 470), (60, 471), (63, 473), (66, 474), (69, 476), (72, 477), (75, 478), (78, 480), (81, 481), (86, 482), (89, 484), (92, 485), (97, 486), (112, 450), (125, 453), (140, 456), (157, 457), (242, 462), (245, 463), (275, 467), (288, 466), (389, 472), (404, 475), (414, 479), (420, 483)]
set_option maxRecDepth 100000 in
theorem flok_X7 : ct_FLok RX7 fl_X7 := ct_FL_of (ps := [996, 997, 999, 1000, 1002, 1003, 1006, 1007, 1008, 1009, 1012, 1013, 1016, 1017, 1018, 1019, 1021, 1022, 1024, 1025, 1026, 1028, 1029, 1030, 1032, 1033, 1034, 998, 1001, 1004, 1005, 1010, 1011, 1015, 1014, 1020, 1023, 1027, 1031]) (by decide +kernel) (by decide +kernel) (by decide +kernel)
def fl_J13 : List (Nat × Nat) := []
set_option maxRecDepth 100000 in
theorem flok_J13 : ct_FLok RJ13 fl_J13 := ct_FL_of (ps := []) (by decide +kernel) (by decide +kernel) (by decide +kernel)
def fl_J7 : List (Nat × Nat) := []
set_option maxRecDepth 100000 in
theorem flok_J7 : ct_FLok RJ7 fl_J7 := ct_FL_of (ps := []) (by decide +kernel) (by decide +kernel) (by decide +kernel)
def t_X0_isSize : List ct_I := [(0, .iload_n 0, 1, 0), (1, .iconst 2, 1, 0), (2, .if_icmp .lt 13, 3, 0), (5, .iload_n 0, 1, 0), (6, .bipush 7, 2, 0), (8, .if_icmp .gt 7, 3, 0), (11, .iconst 1, 1, 0), (12, .goto 4, 3, 0), (15, .iconst 0, 1, 0), (16, .ireturn, 1, 0)]
def m_X0_isSize : ct_M := (yX0_isSize, cX0_isSize, 1, (some .boolean), t_X0_isSize)
set_option maxRecDepth 100000 in
theorem ok_X0_isSize : ct_MOk m_X0_isSize := ct_MOk_of 361 76 flok_X0 (by decide +kernel) (by decide +kernel) (by decide +kernel) (by decide +kernel)
def t_X0_layOut : List ct_I := [(0, .aload_n 0, 1, 0), (1, .iload_n 1, 1, 0), (2, .putfield 26, 3, 1), (5, .aload_n 0, 1, 0), (6, .iload_n 2, 1, 0), (7, .putfield 29, 3, 2), (10, .aload_n 0, 1, 0), (11, .iload_n 2, 1, 0), (12, .iconst 2, 1, 0), (13, .iadd, 1, 0), (14, .putfield 32, 3, 3), (17, .aload_n 0, 1, 0), (18, .iload_n 1, 1, 0), (19, .iconst 2, 1, 0), (20, .iadd, 1, 0), (21, .aload_n 0, 1, 0), (22, .getfield 32, 3, 3), (25, .imul, 1, 0), (26, .putfield 35, 3, 4), (29, .aload_n 0, 1, 0), (30, .getfield 11, 3, 0), (33, .iconst (-1), 1, 0), (34, .invokestatic 38, 3, 0), (37, .aload_n 0, 1, 0), (38, .invokevirtual 44, 3, 0), (41, .istore_n 3, 1, 0), (42, .iconst 0, 1, 0), (43, .istore 4, 2, 0), (45, .iload 4, 2, 0), (47, .iload_n 3, 1, 0), (48, .if_icmp .ge 16, 3, 0), (51, .aload_n 0, 1, 0), (52, .iload 4, 2, 0), (54, .iconst 0, 1, 0), (55, .invokevirtual 48, 3, 0), (58, .iinc 4 1, 3, 0), (61, .goto (-16), 3, 0), (64, .return_, 1, 0)]
def m_X0_layOut : ct_M := (yX0_layOut, cX0_layOut, 5, none, t_X0_layOut)
set_option maxRecDepth 100000 in
theorem ok_X0_layOut : ct_MOk m_X0_layOut := ct_MOk_of 108 76 flok_X0 (by decide +kernel) (by decide +kernel) (by decide +kernel) (by decide +kernel)
def t_X0_copyFrom : List ct_I := [(0, .aload_n 0, 1, 0), (1, .aload_n 1, 1, 0), (2, .getfield 26, 3, 1), (5, .aload_n 1, 1, 0), (6, .getfield 29, 3, 2), (9, .invokevirtual 22, 3, 0), (12, .aload_n 1, 1, 0), (13, .getfield 11, 3, 0), (16, .iconst 0, 1, 0), (17, .aload_n 0, 1, 0), (18, .getfield 11, 3, 0), (21, .iconst 0, 1, 0), (22, .bipush 81, 2, 0), (24, .invokestatic 51, 3, 0), (27, .aload_n 0, 1, 0), (28, .aload_n 1, 1, 0), (29, .getfield 15, 3, 5), (32, .invokevirtual 57, 3, 0), (35, .return_, 1, 0)]
def m_X0_copyFrom : ct_M := (yX0_copyFrom, cX0_copyFrom, 2, none, t_X0_copyFrom)
set_option maxRecDepth 100000 in
theorem ok_X0_copyFrom : ct_MOk m_X0_copyFrom := ct_MOk_of 895 76 flok_X0 (by decide +kernel) (by decide +kernel) (by decide +kernel) (by decide +kernel)
def t_X0_putKind : List ct_I := [(0, .aload_n 0, 1, 0), (1, .iload_n 1, 1, 0), (2, .putfield 15, 3, 5), (5, .aload_n 0, 1, 0), (6, .dup, 1, 0), (7, .getfield 19, 3, 6), (10, .iconst 1, 1, 0), (11, .iadd, 1, 0), (12, .putfield 19, 3, 6), (15, .return_, 1, 0)]
def m_X0_putKind : ct_M := (yX0_putKind, cX0_putKind, 2, none, t_X0_putKind)
set_option maxRecDepth 100000 in
theorem ok_X0_putKind : ct_MOk m_X0_putKind := ct_MOk_of 389 76 flok_X0 (by decide +kernel) (by decide +kernel) (by decide +kernel) (by decide +kernel)
def t_X0_putHeight : List ct_I := [(0, .aload_n 0, 1, 0), (1, .getfield 11, 3, 0), (4, .aload_n 0, 1, 0), (5, .iload_n 1, 1, 0), (6, .invokevirtual 61, 3, 0), (9, .iload_n 2, 1, 0), (10, .iastore, 1, 0), (11, .aload_n 0, 1, 0), (12, .dup, 1, 0), (13, .getfield 19, 3, 6), (16, .iconst 1, 1, 0), (17, .iadd, 1, 0), (18, .putfield 19, 3, 6), (21, .return_, 1, 0)]
def m_X0_putHeight : ct_M := (yX0_putHeight, cX0_putHeight, 3, none, t_X0_putHeight)
set_option maxRecDepth 100000 in
theorem ok_X0_putHeight : ct_MOk m_X0_putHeight := ct_MOk_of 119 76 flok_X0 (by decide +kernel) (by decide +kernel) (by decide +kernel) (by decide +kernel)
def t_X0_points : List ct_I := [(0, .aload_n 0, 1, 0), (1, .getfield 26, 3, 1), (4, .aload_n 0, 1, 0), (5, .getfield 29, 3, 2), (8, .imul, 1, 0), (9, .ireturn, 1, 0)]
def m_X0_points : ct_M := (yX0_points, cX0_points, 1, (some .int), t_X0_points)
set_option maxRecDepth 100000 in
theorem ok_X0_points : ct_MOk m_X0_points := ct_MOk_of 115 76 flok_X0 (by decide +kernel) (by decide +kernel) (by decide +kernel) (by decide +kernel)
def t_X0_isPoint : List ct_I := [(0, .iload_n 1, 1, 0), (1, .ifCond .lt 15, 3, 0), (4, .iload_n 1, 1, 0), (5, .aload_n 0, 1, 0), (6, .invokevirtual 44, 3, 0), (9, .if_icmp .ge 7, 3, 0), (12, .iconst 1, 1, 0), (13, .goto 4, 3, 0), (16, .iconst 0, 1, 0), (17, .ireturn, 1, 0)]
def m_X0_isPoint : ct_M := (yX0_isPoint, cX0_isPoint, 2, (some .boolean), t_X0_isPoint)
set_option maxRecDepth 100000 in
theorem ok_X0_isPoint : ct_MOk m_X0_isPoint := ct_MOk_of 370 76 flok_X0 (by decide +kernel) (by decide +kernel) (by decide +kernel) (by decide +kernel)
def t_X0_placeOf : List ct_I := [(0, .aload_n 0, 1, 0), (1, .getfield 32, 3, 3), (4, .iload_n 1, 1, 0), (5, .aload_n 0, 1, 0), (6, .getfield 29, 3, 2), (9, .idiv, 1, 0), (10, .iconst 1, 1, 0), (11, .iadd, 1, 0), (12, .imul, 1, 0), (13, .iload_n 1, 1, 0), (14, .aload_n 0, 1, 0), (15, .getfield 29, 3, 2), (18, .irem, 1, 0), (19, .iadd, 1, 0), (20, .iconst 1, 1, 0), (21, .iadd, 1, 0), (22, .ireturn, 1, 0)]
def m_X0_placeOf : ct_M := (yX0_placeOf, cX0_placeOf, 2, (some .int), t_X0_placeOf)
set_option maxRecDepth 100000 in
theorem ok_X0_placeOf : ct_MOk m_X0_placeOf := ct_MOk_of 123 76 flok_X0 (by decide +kernel) (by decide +kernel) (by decide +kernel) (by decide +kernel)
def t_X0_pointOf : List ct_I := [(0, .aload_n 0, 1, 0), (1, .getfield 29, 3, 2), (4, .iload_n 1, 1, 0), (5, .aload_n 0, 1, 0), (6, .getfield 32, 3, 3), (9, .idiv, 1, 0), (10, .iconst 1, 1, 0), (11, .isub, 1, 0), (12, .imul, 1, 0), (13, .iload_n 1, 1, 0), (14, .aload_n 0, 1, 0), (15, .getfield 32, 3, 3), (18, .irem, 1, 0), (19, .iadd, 1, 0), (20, .iconst 1, 1, 0), (21, .isub, 1, 0), (22, .ireturn, 1, 0)]
def m_X0_pointOf : ct_M := (yX0_pointOf, cX0_pointOf, 2, (some .int), t_X0_pointOf)
set_option maxRecDepth 100000 in
theorem ok_X0_pointOf : ct_MOk m_X0_pointOf := ct_MOk_of 798 76 flok_X0 (by decide +kernel) (by decide +kernel) (by decide +kernel) (by decide +kernel)
def t_X0_heightOf : List ct_I := [(0, .aload_n 0, 1, 0), (1, .getfield 11, 3, 0), (4, .aload_n 0, 1, 0), (5, .iload_n 1, 1, 0), (6, .invokevirtual 61, 3, 0), (9, .iaload, 1, 0), (10, .ireturn, 1, 0)]
def m_X0_heightOf : ct_M := (yX0_heightOf, cX0_heightOf, 2, (some .int), t_X0_heightOf)
set_option maxRecDepth 100000 in
theorem ok_X0_heightOf : ct_MOk m_X0_heightOf := ct_MOk_of 377 76 flok_X0 (by decide +kernel) (by decide +kernel) (by decide +kernel) (by decide +kernel)
def t_X0_greatest : List ct_I := [(0, .iconst (-1), 1, 0), (1, .istore_n 1, 1, 0), (2, .iconst 0, 1, 0), (3, .istore_n 2, 1, 0), (4, .iload_n 2, 1, 0), (5, .aload_n 0, 1, 0), (6, .getfield 35, 3, 4), (9, .if_icmp .ge 20, 3, 0), (12, .iload_n 1, 1, 0), (13, .aload_n 0, 1, 0), (14, .getfield 11, 3, 0), (17, .iload_n 2, 1, 0), (18, .iaload, 1, 0), (19, .invokestatic 65, 3, 0), (22, .istore_n 1, 1, 0), (23, .iinc 2 1, 3, 0), (26, .goto (-22), 3, 0), (29, .iload_n 1, 1, 0), (30, .ireturn, 1, 0)]
def m_X0_greatest : ct_M := (yX0_greatest, cX0_greatest, 3, (some .int), t_X0_greatest)
set_option maxRecDepth 100000 in
theorem ok_X0_greatest : ct_MOk m_X0_greatest := ct_MOk_of 545 76 flok_X0 (by decide +kernel) (by decide +kernel) (by decide +kernel) (by decide +kernel)
def t_X0_firstOf : List ct_I := [(0, .aload_n 0, 1, 0), (1, .invokevirtual 44, 3, 0), (4, .istore_n 2, 1, 0), (5, .iconst 0, 1, 0), (6, .istore_n 3, 1, 0), (7, .iload_n 3, 1, 0), (8, .iload_n 2, 1, 0), (9, .if_icmp .ge 18, 3, 0), (12, .aload_n 0, 1, 0), (13, .iload_n 3, 1, 0), (14, .invokevirtual 71, 3, 0), (17, .iload_n 1, 1, 0), (18, .if_icmp .eq 9, 3, 0), (21, .iinc 3 1, 3, 0), (24, .goto (-17), 3, 0), (27, .iload_n 3, 1, 0), (28, .ireturn, 1, 0)]
def m_X0_firstOf : ct_M := (yX0_firstOf, cX0_firstOf, 4, (some .int), t_X0_firstOf)
set_option maxRecDepth 100000 in
theorem ok_X0_firstOf : ct_MOk m_X0_firstOf := ct_MOk_of 549 76 flok_X0 (by decide +kernel) (by decide +kernel) (by decide +kernel) (by decide +kernel)
def t_X0_together : List ct_I := [(0, .iconst 0, 1, 0), (1, .istore_n 1, 1, 0), (2, .aload_n 0, 1, 0), (3, .invokevirtual 44, 3, 0), (6, .istore_n 2, 1, 0), (7, .iconst 0, 1, 0), (8, .istore_n 3, 1, 0), (9, .iload_n 3, 1, 0), (10, .iload_n 2, 1, 0), (11, .if_icmp .ge 17, 3, 0), (14, .iload_n 1, 1, 0), (15, .aload_n 0, 1, 0), (16, .iload_n 3, 1, 0), (17, .invokevirtual 71, 3, 0), (20, .iadd, 1, 0), (21, .istore_n 1, 1, 0), (22, .iinc 3 1, 3, 0), (25, .goto (-16), 3, 0), (28, .iload_n 1, 1, 0), (29, .ireturn, 1, 0)]
def m_X0_together : ct_M := (yX0_together, cX0_together, 4, (some .int), t_X0_together)
set_option maxRecDepth 100000 in
theorem ok_X0_together : ct_MOk m_X0_together := ct_MOk_of 942 76 flok_X0 (by decide +kernel) (by decide +kernel) (by decide +kernel) (by decide +kernel)
def t_X0_pointsIn : List ct_I := [(0, .iconst 0, 1, 0), (1, .istore_n 2, 1, 0), (2, .iconst 0, 1, 0), (3, .istore_n 3, 1, 0), (4, .iload_n 3, 1, 0), (5, .aload_n 0, 1, 0), (6, .getfield 35, 3, 4), (9, .if_icmp .ge 22, 3, 0), (12, .aload_n 0, 1, 0), (13, .getfield 11, 3, 0), (16, .iload_n 3, 1, 0), (17, .iaload, 1, 0), (18, .iload_n 1, 1, 0), (19, .if_icmp .lt 6, 3, 0), (22, .iinc 2 1, 3, 0), (25, .iinc 3 1, 3, 0), (28, .goto (-24), 3, 0), (31, .iload_n 2, 1, 0), (32, .ireturn, 1, 0)]
def m_X0_pointsIn : ct_M := (yX0_pointsIn, cX0_pointsIn, 4, (some .int), t_X0_pointsIn)
set_option maxRecDepth 100000 in
theorem ok_X0_pointsIn : ct_MOk m_X0_pointsIn := ct_MOk_of 687 76 flok_X0 (by decide +kernel) (by decide +kernel) (by decide +kernel) (by decide +kernel)
def t_X0_turnOver : List ct_I := [(0, .aload_n 0, 1, 0), (1, .invokevirtual 44, 3, 0), (4, .istore_n 1, 1, 0), (5, .iconst 0, 1, 0), (6, .istore_n 2, 1, 0), (7, .iload_n 2, 1, 0), (8, .iload_n 1, 1, 0), (9, .if_icmp .ge 22, 3, 0), (12, .aload_n 0, 1, 0), (13, .iload_n 2, 1, 0), (14, .bipush 99, 2, 0), (16, .aload_n 0, 1, 0), (17, .iload_n 2, 1, 0), (18, .invokevirtual 71, 3, 0), (21, .isub, 1, 0), (22, .invokevirtual 48, 3, 0), (25, .iinc 2 1, 3, 0), (28, .goto (-21), 3, 0), (31, .return_, 1, 0)]
def m_X0_turnOver : ct_M := (yX0_turnOver, cX0_turnOver, 3, none, t_X0_turnOver)
set_option maxRecDepth 100000 in
theorem ok_X0_turnOver : ct_MOk m_X0_turnOver := ct_MOk_of 532 76 flok_X0 (by decide +kernel) (by decide +kernel) (by decide +kernel) (by decide +kernel)
def t_X0_lowerAll : List ct_I := [(0, .aload_n 0, 1, 0), (1, .invokevirtual 44, 3, 0), (4, .istore_n 2, 1, 0), (5, .iconst 0, 1, 0), (6, .istore_n 3, 1, 0), (7, .iload_n 3, 1, 0), (8, .iload_n 2, 1, 0), (9, .if_icmp .ge 25, 3, 0), (12, .aload_n 0, 1, 0), (13, .iload_n 3, 1, 0), (14, .iconst 0, 1, 0), (15, .aload_n 0, 1, 0), (16, .iload_n 3, 1, 0), (17, .invokevirtual 71, 3, 0), (20, .iload_n 1, 1, 0), (21, .isub, 1, 0), (22, .invokestatic 65, 3, 0), (25, .invokevirtual 48, 3, 0), (28, .iinc 3 1, 3, 0), (31, .goto (-24), 3, 0), (34, .return_, 1, 0)]
def m_X0_lowerAll : ct_M := (yX0_lowerAll, cX0_lowerAll, 4, none, t_X0_lowerAll)
set_option maxRecDepth 100000 in
theorem ok_X0_lowerAll : ct_MOk m_X0_lowerAll := ct_MOk_of 906 76 flok_X0 (by decide +kernel) (by decide +kernel) (by decide +kernel) (by decide +kernel)
def t_X0_fillUp : List ct_I := [(0, .aload_n 0, 1, 0), (1, .iload_n 1, 1, 0), (2, .invokevirtual 74, 3, 0), (5, .ifCond .eq 41, 3, 0), (8, .aload_n 0, 1, 0), (9, .iload_n 2, 1, 0), (10, .invokevirtual 74, 3, 0), (13, .ifCond .eq 33, 3, 0), (16, .iload_n 2, 1, 0), (17, .aload_n 0, 1, 0), (18, .getfield 29, 3, 2), (21, .idiv, 1, 0), (22, .iload_n 1, 1, 0), (23, .aload_n 0, 1, 0), (24, .getfield 29, 3, 2), (27, .idiv, 1, 0), (28, .if_icmp .lt 18, 3, 0), (31, .iload_n 2, 1, 0), (32, .aload_n 0, 1, 0), (33, .getfield 29, 3, 2), (36, .irem, 1, 0), (37, .iload_n 1, 1, 0), (38, .aload_n 0, 1, 0), (39, .getfield 29, 3, 2), (42, .irem, 1, 0), (43, .if_icmp .ge 5, 3, 0), (46, .iconst 0, 1, 0), (47, .ireturn, 1, 0), (48, .iload_n 1, 1, 0), (49, .aload_n 0, 1, 0), (50, .getfield 29, 3, 2), (53, .idiv, 1, 0), (54, .istore 4, 2, 0), (56, .iload 4, 2, 0), (58, .iload_n 2, 1, 0), (59, .aload_n 0, 1, 0), (60, .getfield 29, 3, 2), (63, .idiv, 1, 0), (64, .if_icmp .gt 49, 3, 0), (67, .iload_n 1, 1, 0), (68, .aload_n 0, 1, 0), (69, .getfield 29, 3, 2), (72, .irem, 1, 0), (73, .istore 5, 2, 0), (75, .iload 5, 2, 0), (77, .iload_n 2, 1, 0), (78, .aload_n 0, 1, 0), (79, .getfield 29, 3, 2), (82, .irem, 1, 0), (83, .if_icmp .gt 24, 3, 0), (86, .aload_n 0, 1, 0), (87, .iload 4, 2, 0), (89, .aload_n 0, 1, 0), (90, .getfield 29, 3, 2), (93, .imul, 1, 0), (94, .iload 5, 2, 0), (96, .iadd, 1, 0), (97, .iload_n 3, 1, 0), (98, .invokevirtual 48, 3, 0), (101, .iinc 5 1, 3, 0), (104, .goto (-29), 3, 0), (107, .iinc 4 1, 3, 0), (110, .goto (-54), 3, 0), (113, .iconst 1, 1, 0), (114, .ireturn, 1, 0)]
def m_X0_fillUp : ct_M := (yX0_fillUp, cX0_fillUp, 6, (some .boolean), t_X0_fillUp)
set_option maxRecDepth 100000 in
theorem ok_X0_fillUp : ct_MOk m_X0_fillUp := ct_MOk_of 515 76 flok_X0 (by decide +kernel) (by decide +kernel) (by decide +kernel) (by decide +kernel)
def t_X0_heapUp : List ct_I := [(0, .aload_n 0, 1, 0), (1, .iload_n 1, 1, 0), (2, .invokevirtual 74, 3, 0), (5, .ifCond .ne 5, 3, 0), (8, .iconst 0, 1, 0), (9, .ireturn, 1, 0), (10, .aload_n 0, 1, 0), (11, .invokevirtual 44, 3, 0), (14, .istore 4, 2, 0), (16, .iconst 0, 1, 0), (17, .istore 5, 2, 0), (19, .iload 5, 2, 0), (21, .iload 4, 2, 0), (23, .if_icmp .ge 67, 3, 0), (26, .iload 5, 2, 0), (28, .aload_n 0, 1, 0), (29, .getfield 29, 3, 2), (32, .idiv, 1, 0), (33, .iload_n 1, 1, 0), (34, .aload_n 0, 1, 0), (35, .getfield 29, 3, 2), (38, .idiv, 1, 0), (39, .isub, 1, 0), (40, .invokestatic 78, 3, 0), (43, .iload 5, 2, 0), (45, .aload_n 0, 1, 0), (46, .getfield 29, 3, 2), (49, .irem, 1, 0), (50, .iload_n 1, 1, 0), (51, .aload_n 0, 1, 0), (52, .getfield 29, 3, 2), (55, .irem, 1, 0), (56, .isub, 1, 0), (57, .invokestatic 78, 3, 0), (60, .iadd, 1, 0), (61, .istore 6, 2, 0), (63, .aload_n 0, 1, 0), (64, .iload 5, 2, 0), (66, .aload_n 0, 1, 0), (67, .iload 5, 2, 0), (69, .invokevirtual 71, 3, 0), (72, .iload_n 2, 1, 0), (73, .iload_n 3, 1, 0), (74, .iload 6, 2, 0), (76, .imul, 1, 0), (77, .isub, 1, 0), (78, .invokestatic 65, 3, 0), (81, .invokevirtual 48, 3, 0), (84, .iinc 5 1, 3, 0), (87, .goto (-68), 3, 0), (90, .iconst 1, 1, 0), (91, .ireturn, 1, 0)]
def m_X0_heapUp : ct_M := (yX0_heapUp, cX0_heapUp, 7, (some .boolean), t_X0_heapUp)
set_option maxRecDepth 100000 in
theorem ok_X0_heapUp : ct_MOk m_X0_heapUp := ct_MOk_of 520 76 flok_X0 (by decide +kernel) (by decide +kernel) (by decide +kernel) (by decide +kernel)
def t_X0_isEdge : List ct_I := [(0, .iload_n 1, 1, 0), (1, .ifCond .lt 13, 3, 0), (4, .iload_n 1, 1, 0), (5, .iconst 2, 1, 0), (6, .aload_n 0, 1, 0), (7, .getfield 35, 3, 4), (10, .imul, 1, 0), (11, .if_icmp .lt 5, 3, 0), (14, .iconst 0, 1, 0), (15, .ireturn, 1, 0), (16, .iload_n 1, 1, 0), (17, .iconst 2, 1, 0), (18, .idiv, 1, 0), (19, .istore_n 2, 1, 0), (20, .iload_n 1, 1, 0), (21, .iconst 2, 1, 0), (22, .irem, 1, 0), (23, .ifCond .ne 26, 3, 0), (26, .iload_n 2, 1, 0), (27, .aload_n 0, 1, 0), (28, .getfield 32, 3, 3), (31, .irem, 1, 0), (32, .aload_n 0, 1, 0), (33, .getfield 32, 3, 3), (36, .iconst 1, 1, 0), (37, .isub, 1, 0), (38, .if_icmp .ge 7, 3, 0), (41, .iconst 1, 1, 0), (42, .goto 25, 3, 0), (45, .iconst 0, 1, 0), (46, .goto 21, 3, 0), (49, .iload_n 2, 1, 0), (50, .aload_n 0, 1, 0), (51, .getfield 32, 3, 3), (54, .iadd, 1, 0), (55, .aload_n 0, 1, 0), (56, .getfield 35, 3, 4), (59, .if_icmp .ge 7, 3, 0), (62, .iconst 1, 1, 0), (63, .goto 4, 3, 0), (66, .iconst 0, 1, 0), (67, .ireturn, 1, 0)]
def m_X0_isEdge : ct_M := (yX0_isEdge, cX0_isEdge, 3, (some .boolean), t_X0_isEdge)
set_option maxRecDepth 100000 in
theorem ok_X0_isEdge : ct_MOk m_X0_isEdge := ct_MOk_of 719 76 flok_X0 (by decide +kernel) (by decide +kernel) (by decide +kernel) (by decide +kernel)
def t_X0_isSquare : List ct_I := [(0, .iload_n 1, 1, 0), (1, .ifCond .lt 24, 3, 0), (4, .iload_n 1, 1, 0), (5, .aload_n 0, 1, 0), (6, .getfield 26, 3, 1), (9, .iconst 1, 1, 0), (10, .iadd, 1, 0), (11, .aload_n 0, 1, 0), (12, .getfield 29, 3, 2), (15, .iconst 1, 1, 0), (16, .iadd, 1, 0), (17, .imul, 1, 0), (18, .if_icmp .ge 7, 3, 0), (21, .iconst 1, 1, 0), (22, .goto 4, 3, 0), (25, .iconst 0, 1, 0), (26, .ireturn, 1, 0)]
def m_X0_isSquare : ct_M := (yX0_isSquare, cX0_isSquare, 2, (some .boolean), t_X0_isSquare)
set_option maxRecDepth 100000 in
theorem ok_X0_isSquare : ct_MOk m_X0_isSquare := ct_MOk_of 708 76 flok_X0 (by decide +kernel) (by decide +kernel) (by decide +kernel) (by decide +kernel)
def t_X0_cornerOf : List ct_I := [(0, .aload_n 0, 1, 0), (1, .getfield 32, 3, 3), (4, .iload_n 1, 1, 0), (5, .aload_n 0, 1, 0), (6, .getfield 29, 3, 2), (9, .iconst 1, 1, 0), (10, .iadd, 1, 0), (11, .idiv, 1, 0), (12, .imul, 1, 0), (13, .iload_n 1, 1, 0), (14, .aload_n 0, 1, 0), (15, .getfield 29, 3, 2), (18, .iconst 1, 1, 0), (19, .iadd, 1, 0), (20, .irem, 1, 0), (21, .iadd, 1, 0), (22, .ireturn, 1, 0)]
def m_X0_cornerOf : ct_M := (yX0_cornerOf, cX0_cornerOf, 2, (some .int), t_X0_cornerOf)
set_option maxRecDepth 100000 in
theorem ok_X0_cornerOf : ct_MOk m_X0_cornerOf := ct_MOk_of 695 76 flok_X0 (by decide +kernel) (by decide +kernel) (by decide +kernel) (by decide +kernel)
def t_X0_caseOf : List ct_I := [(0, .aload_n 0, 1, 0), (1, .getfield 11, 3, 0), (4, .iload_n 1, 1, 0), (5, .iaload, 1, 0), (6, .iload_n 2, 1, 0), (7, .if_icmp .lt 7, 3, 0), (10, .iconst 1, 1, 0), (11, .goto 4, 3, 0), (14, .iconst 0, 1, 0), (15, .aload_n 0, 1, 0), (16, .getfield 11, 3, 0), (19, .iload_n 1, 1, 0), (20, .iconst 1, 1, 0), (21, .iadd, 1, 0), (22, .iaload, 1, 0), (23, .iload_n 2, 1, 0), (24, .if_icmp .lt 7, 3, 0), (27, .iconst 2, 1, 0), (28, .goto 4, 3, 0), (31, .iconst 0, 1, 0), (32, .iadd, 1, 0), (33, .aload_n 0, 1, 0), (34, .getfield 11, 3, 0), (37, .iload_n 1, 1, 0), (38, .aload_n 0, 1, 0), (39, .getfield 32, 3, 3), (42, .iadd, 1, 0), (43, .iconst 1, 1, 0), (44, .iadd, 1, 0), (45, .iaload, 1, 0), (46, .iload_n 2, 1, 0), (47, .if_icmp .lt 7, 3, 0), (50, .iconst 4, 1, 0), (51, .goto 4, 3, 0), (54, .iconst 0, 1, 0), (55, .iadd, 1, 0), (56, .aload_n 0, 1, 0), (57, .getfield 11, 3, 0), (60, .iload_n 1, 1, 0), (61, .aload_n 0, 1, 0), (62, .getfield 32, 3, 3), (65, .iadd, 1, 0), (66, .iaload, 1, 0), (67, .iload_n 2, 1, 0), (68, .if_icmp .lt 8, 3, 0), (71, .bipush 8, 2, 0), (73, .goto 4, 3, 0), (76, .iconst 0, 1, 0), (77, .iadd, 1, 0), (78, .ireturn, 1, 0)]
def m_X0_caseOf : ct_M := (yX0_caseOf, cX0_caseOf, 3, (some .int), t_X0_caseOf)
set_option maxRecDepth 100000 in
theorem ok_X0_caseOf : ct_MOk m_X0_caseOf := ct_MOk_of 597 76 flok_X0 (by decide +kernel) (by decide +kernel) (by decide +kernel) (by decide +kernel)
def t_X0_isSaddle : List ct_I := [(0, .iload_n 0, 1, 0), (1, .iconst 5, 1, 0), (2, .if_icmp .eq 9, 3, 0), (5, .iload_n 0, 1, 0), (6, .bipush 10, 2, 0), (8, .if_icmp .ne 7, 3, 0), (11, .iconst 1, 1, 0), (12, .goto 4, 3, 0), (15, .iconst 0, 1, 0), (16, .ireturn, 1, 0)]
def m_X0_isSaddle : ct_M := (yX0_isSaddle, cX0_isSaddle, 1, (some .boolean), t_X0_isSaddle)
set_option maxRecDepth 100000 in
theorem ok_X0_isSaddle : ct_MOk m_X0_isSaddle := ct_MOk_of 600 76 flok_X0 (by decide +kernel) (by decide +kernel) (by decide +kernel) (by decide +kernel)
def t_X0_isJoined : List ct_I := [(0, .aload_n 0, 1, 0), (1, .getfield 11, 3, 0), (4, .iload_n 1, 1, 0), (5, .iaload, 1, 0), (6, .iload_n 2, 1, 0), (7, .isub, 1, 0), (8, .istore_n 3, 1, 0), (9, .aload_n 0, 1, 0), (10, .getfield 11, 3, 0), (13, .iload_n 1, 1, 0), (14, .iconst 1, 1, 0), (15, .iadd, 1, 0), (16, .iaload, 1, 0), (17, .iload_n 2, 1, 0), (18, .isub, 1, 0), (19, .istore 4, 2, 0), (21, .aload_n 0, 1, 0), (22, .getfield 11, 3, 0), (25, .iload_n 1, 1, 0), (26, .aload_n 0, 1, 0), (27, .getfield 32, 3, 3), (30, .iadd, 1, 0), (31, .iconst 1, 1, 0), (32, .iadd, 1, 0), (33, .iaload, 1, 0), (34, .iload_n 2, 1, 0), (35, .isub, 1, 0), (36, .istore 5, 2, 0), (38, .aload_n 0, 1, 0), (39, .getfield 11, 3, 0), (42, .iload_n 1, 1, 0), (43, .aload_n 0, 1, 0), (44, .getfield 32, 3, 3), (47, .iadd, 1, 0), (48, .iaload, 1, 0), (49, .iload_n 2, 1, 0), (50, .isub, 1, 0), (51, .istore 6, 2, 0), (53, .aload_n 0, 1, 0), (54, .getfield 15, 3, 5), (57, .tableswitch 121 1 4 #[31, 33, 52, 76], 31, 0), (88, .iconst 0, 1, 0), (89, .ireturn, 1, 0), (90, .iload_n 3, 1, 0), (91, .iload 4, 2, 0), (93, .iadd, 1, 0), (94, .iload 5, 2, 0), (96, .iadd, 1, 0), (97, .iload 6, 2, 0), (99, .iadd, 1, 0), (100, .ifCond .lt 7, 3, 0), (103, .iconst 1, 1, 0), (104, .goto 4, 3, 0), (107, .iconst 0, 1, 0), (108, .ireturn, 1, 0), (109, .iload_n 1, 1, 0), (110, .aload_n 0, 1, 0), (111, .getfield 32, 3, 3), (114, .idiv, 1, 0), (115, .iload_n 1, 1, 0), (116, .aload_n 0, 1, 0), (117, .getfield 32, 3, 3), (120, .irem, 1, 0), (121, .iadd, 1, 0), (122, .iconst 2, 1, 0), (123, .irem, 1, 0), (124, .ifCond .ne 7, 3, 0), (127, .iconst 1, 1, 0), (128, .goto 4, 3, 0), (131, .iconst 0, 1, 0), (132, .ireturn, 1, 0), (133, .iload_n 3, 1, 0), (134, .iload 5, 2, 0), (136, .imul, 1, 0), (137, .istore 7, 2, 0), (139, .iload 4, 2, 0), (141, .iload 6, 2, 0), (143, .imul, 1, 0), (144, .istore 8, 2, 0), (146, .iload_n 3, 1, 0), (147, .ifCond .lt 18, 3, 0), (150, .iload 7, 2, 0), (152, .iload 8, 2, 0), (154, .if_icmp .lt 7, 3, 0), (157, .iconst 1, 1, 0), (158, .goto 19, 3, 0), (161, .iconst 0, 1, 0), (162, .goto 15, 3, 0), (165, .iload 8, 2, 0), (167, .iload 7, 2, 0), (169, .if_icmp .lt 7, 3, 0), (172, .iconst 1, 1, 0), (173, .goto 4, 3, 0), (176, .iconst 0, 1, 0), (177, .ireturn, 1, 0), (178, .iconst 1, 1, 0), (179, .ireturn, 1, 0)]
def m_X0_isJoined : ct_M := (yX0_isJoined, cX0_isJoined, 9, (some .boolean), t_X0_isJoined)
set_option maxRecDepth 100000 in
theorem ok_X0_isJoined : ct_MOk m_X0_isJoined := ct_MOk_of 604 76 flok_X0 (by decide +kernel) (by decide +kernel) (by decide +kernel) (by decide +kernel)
def t_X0_isJoinedSaddle : List ct_I := [(0, .aload_n 0, 1, 0), (1, .iload_n 1, 1, 0), (2, .iload_n 2, 1, 0), (3, .invokevirtual 81, 3, 0), (6, .invokestatic 84, 3, 0), (9, .ifCond .eq 16, 3, 0), (12, .aload_n 0, 1, 0), (13, .iload_n 1, 1, 0), (14, .iload_n 2, 1, 0), (15, .invokevirtual 87, 3, 0), (18, .ifCond .eq 7, 3, 0), (21, .iconst 1, 1, 0), (22, .goto 4, 3, 0), (25, .iconst 0, 1, 0), (26, .ireturn, 1, 0)]
def m_X0_isJoinedSaddle : ct_M := (yX0_isJoinedSaddle, cX0_isJoinedSaddle, 3, (some .boolean), t_X0_isJoinedSaddle)
set_option maxRecDepth 100000 in
theorem ok_X0_isJoinedSaddle : ct_MOk m_X0_isJoinedSaddle := ct_MOk_of 676 76 flok_X0 (by decide +kernel) (by decide +kernel) (by decide +kernel) (by decide +kernel)
def t_X0_saddles : List ct_I := [(0, .iconst 0, 1, 0), (1, .istore_n 3, 1, 0), (2, .aload_n 0, 1, 0), (3, .getfield 26, 3, 1), (6, .iconst 1, 1, 0), (7, .iadd, 1, 0), (8, .aload_n 0, 1, 0), (9, .getfield 29, 3, 2), (12, .iconst 1, 1, 0), (13, .iadd, 1, 0), (14, .imul, 1, 0), (15, .istore 4, 2, 0), (17, .iconst 0, 1, 0), (18, .istore 5, 2, 0), (20, .iload 5, 2, 0), (22, .iload 4, 2, 0), (24, .if_icmp .ge 47, 3, 0), (27, .aload_n 0, 1, 0), (28, .iload 5, 2, 0), (30, .invokevirtual 91, 3, 0), (33, .istore 6, 2, 0), (35, .aload_n 0, 1, 0), (36, .iload 6, 2, 0), (38, .iload_n 1, 1, 0), (39, .invokevirtual 81, 3, 0), (42, .invokestatic 84, 3, 0), (45, .ifCond .eq 20, 3, 0), (48, .iload_n 2, 1, 0), (49, .ifCond .eq 13, 3, 0), (52, .aload_n 0, 1, 0), (53, .iload 6, 2, 0), (55, .iload_n 1, 1, 0), (56, .invokevirtual 87, 3, 0), (59, .ifCond .eq 6, 3, 0), (62, .iinc 3 1, 3, 0), (65, .iinc 5 1, 3, 0), (68, .goto (-48), 3, 0), (71, .iload_n 3, 1, 0), (72, .ireturn, 1, 0)]
def m_X0_saddles : ct_M := (yX0_saddles, cX0_saddles, 7, (some .int), t_X0_saddles)
set_option maxRecDepth 100000 in
theorem ok_X0_saddles : ct_MOk m_X0_saddles := ct_MOk_of 691 76 flok_X0 (by decide +kernel) (by decide +kernel) (by decide +kernel) (by decide +kernel)
def t_X0_volume : List ct_I := [(0, .iconst 0, 1, 0), (1, .istore_n 2, 1, 0), (2, .aload_n 0, 1, 0), (3, .invokevirtual 44, 3, 0), (6, .istore_n 3, 1, 0), (7, .iconst 0, 1, 0), (8, .istore 4, 2, 0), (10, .iload 4, 2, 0), (12, .iload_n 3, 1, 0), (13, .if_icmp .ge 94, 3, 0), (16, .iload 4, 2, 0), (18, .aload_n 0, 1, 0), (19, .getfield 29, 3, 2), (22, .idiv, 1, 0), (23, .istore 5, 2, 0), (25, .iload 4, 2, 0), (27, .aload_n 0, 1, 0), (28, .getfield 29, 3, 2), (31, .irem, 1, 0), (32, .istore 6, 2, 0), (34, .iload 5, 2, 0), (36, .ifCond .le 18, 3, 0), (39, .iload 5, 2, 0), (41, .aload_n 0, 1, 0), (42, .getfield 26, 3, 1), (45, .iconst 1, 1, 0), (46, .isub, 1, 0), (47, .if_icmp .ge 7, 3, 0), (50, .iconst 2, 1, 0), (51, .goto 4, 3, 0), (54, .iconst 1, 1, 0), (55, .istore 7, 2, 0), (57, .iload 6, 2, 0), (59, .ifCond .le 18, 3, 0), (62, .iload 6, 2, 0), (64, .aload_n 0, 1, 0), (65, .getfield 29, 3, 2), (68, .iconst 1, 1, 0), (69, .isub, 1, 0), (70, .if_icmp .ge 7, 3, 0), (73, .iconst 2, 1, 0), (74, .goto 4, 3, 0), (77, .iconst 1, 1, 0), (78, .istore 8, 2, 0), (80, .iload_n 2, 1, 0), (81, .iload 7, 2, 0), (83, .iload 8, 2, 0), (85, .imul, 1, 0), (86, .iconst 0, 1, 0), (87, .aload_n 0, 1, 0), (88, .iload 4, 2, 0), (90, .invokevirtual 71, 3, 0), (93, .iload_n 1, 1, 0), (94, .isub, 1, 0), (95, .invokestatic 65, 3, 0), (98, .imul, 1, 0), (99, .iadd, 1, 0), (100, .istore_n 2, 1, 0), (101, .iinc 4 1, 3, 0), (104, .goto (-94), 3, 0), (107, .iload_n 2, 1, 0), (108, .ireturn, 1, 0)]
def m_X0_volume : ct_M := (yX0_volume, cX0_volume, 9, (some .int), t_X0_volume)
set_option maxRecDepth 100000 in
theorem ok_X0_volume : ct_MOk m_X0_volume := ct_MOk_of 557 76 flok_X0 (by decide +kernel) (by decide +kernel) (by decide +kernel) (by decide +kernel)
def t_X0_isLikeBelow : List ct_I := [(0, .aload_n 0, 1, 0), (1, .getfield 15, 3, 5), (4, .iconst 2, 1, 0), (5, .if_icmp .eq 11, 3, 0), (8, .aload_n 0, 1, 0), (9, .getfield 15, 3, 5), (12, .iconst 4, 1, 0), (13, .if_icmp .ne 5, 3, 0), (16, .iconst 0, 1, 0), (17, .ireturn, 1, 0), (18, .iconst 0, 1, 0), (19, .istore_n 2, 1, 0), (20, .iload_n 2, 1, 0), (21, .aload_n 0, 1, 0), (22, .getfield 35, 3, 4), (25, .if_icmp .ge 23, 3, 0), (28, .aload_n 0, 1, 0), (29, .getfield 11, 3, 0), (32, .iload_n 2, 1, 0), (33, .iaload, 1, 0), (34, .iload_n 1, 1, 0), (35, .iconst 1, 1, 0), (36, .isub, 1, 0), (37, .if_icmp .ne 5, 3, 0), (40, .iconst 0, 1, 0), (41, .ireturn, 1, 0), (42, .iinc 2 1, 3, 0), (45, .goto (-25), 3, 0), (48, .iconst 1, 1, 0), (49, .ireturn, 1, 0)]
def m_X0_isLikeBelow : ct_M := (yX0_isLikeBelow, cX0_isLikeBelow, 3, (some .boolean), t_X0_isLikeBelow)
set_option maxRecDepth 100000 in
theorem ok_X0_isLikeBelow : ct_MOk m_X0_isLikeBelow := ct_MOk_of 568 76 flok_X0 (by decide +kernel) (by decide +kernel) (by decide +kernel) (by decide +kernel)
def t_X1_find : List ct_I := [(0, .aload_n 0, 1, 0), (1, .getfield 40, 3, 72), (4, .iload_n 1, 1, 0), (5, .if_icmp .ne 18, 3, 0), (8, .aload_n 0, 1, 0), (9, .getfield 43, 3, 73), (12, .aload_n 0, 1, 0), (13, .getfield 9, 3, 64), (16, .getfield 46, 3, 6), (19, .if_icmp .ne 4, 3, 0), (22, .return_, 1, 0), (23, .aload_n 0, 1, 0), (24, .iload_n 1, 1, 0), (25, .putfield 40, 3, 72), (28, .aload_n 0, 1, 0), (29, .aload_n 0, 1, 0), (30, .getfield 9, 3, 64), (33, .getfield 46, 3, 6), (36, .putfield 43, 3, 73), (39, .iconst 0, 1, 0), (40, .istore_n 2, 1, 0), (41, .iload_n 2, 1, 0), (42, .aload_n 0, 1, 0), (43, .getfield 9, 3, 64), (46, .getfield 49, 3, 4), (49, .if_icmp .ge 16, 3, 0), (52, .aload_n 0, 1, 0), (53, .getfield 17, 3, 65), (56, .iload_n 2, 1, 0), (57, .iload_n 2, 1, 0), (58, .iastore, 1, 0), (59, .iinc 2 1, 3, 0), (62, .goto (-21), 3, 0), (65, .aload_n 0, 1, 0), (66, .getfield 9, 3, 64), (69, .getfield 49, 3, 4), (72, .aload_n 0, 1, 0), (73, .getfield 9, 3, 64), (76, .getfield 52, 3, 3), (79, .isub, 1, 0), (80, .iconst 1, 1, 0), (81, .isub, 1, 0), (82, .istore_n 2, 1, 0), (83, .iconst 0, 1, 0), (84, .istore_n 3, 1, 0), (85, .iload_n 3, 1, 0), (86, .iload_n 2, 1, 0), (87, .if_icmp .ge 14, 3, 0), (90, .aload_n 0, 1, 0), (91, .iload_n 3, 1, 0), (92, .invokevirtual 55, 3, 0), (95, .iinc 3 1, 3, 0), (98, .goto (-13), 3, 0), (101, .aload_n 0, 1, 0), (102, .invokevirtual 59, 3, 0), (105, .return_, 1, 0)]
def m_X1_find : ct_M := (yX1_find, cX1_find, 4, none, t_X1_find)
set_option maxRecDepth 100000 in
theorem ok_X1_find : ct_MOk m_X1_find := ct_MOk_of 652 79 flok_X1 (by decide +kernel) (by decide +kernel) (by decide +kernel) (by decide +kernel)
def t_X1_isIn : List ct_I := [(0, .aload_n 0, 1, 0), (1, .getfield 9, 3, 64), (4, .getfield 62, 3, 0), (7, .iload_n 1, 1, 0), (8, .iaload, 1, 0), (9, .aload_n 0, 1, 0), (10, .getfield 40, 3, 72), (13, .if_icmp .lt 7, 3, 0), (16, .iconst 1, 1, 0), (17, .goto 4, 3, 0), (20, .iconst 0, 1, 0), (21, .ireturn, 1, 0)]
def m_X1_isIn : ct_M := (yX1_isIn, cX1_isIn, 2, (some .boolean), t_X1_isIn)
set_option maxRecDepth 100000 in
theorem ok_X1_isIn : ct_MOk m_X1_isIn := ct_MOk_of 660 79 flok_X1 (by decide +kernel) (by decide +kernel) (by decide +kernel) (by decide +kernel)
def t_X1_hangTogether : List ct_I := [(0, .iload_n 1, 1, 0), (1, .aload_n 0, 1, 0), (2, .getfield 9, 3, 64), (5, .getfield 52, 3, 3), (8, .iadd, 1, 0), (9, .istore_n 2, 1, 0), (10, .aload_n 0, 1, 0), (11, .iload_n 1, 1, 0), (12, .invokevirtual 65, 3, 0), (15, .ifCond .eq 35, 3, 0), (18, .aload_n 0, 1, 0), (19, .iload_n 1, 1, 0), (20, .iconst 1, 1, 0), (21, .iadd, 1, 0), (22, .invokevirtual 65, 3, 0), (25, .ifCond .eq 11, 3, 0), (28, .aload_n 0, 1, 0), (29, .iload_n 1, 1, 0), (30, .iload_n 1, 1, 0), (31, .iconst 1, 1, 0), (32, .iadd, 1, 0), (33, .invokevirtual 69, 3, 0), (36, .aload_n 0, 1, 0), (37, .iload_n 2, 1, 0), (38, .invokevirtual 65, 3, 0), (41, .ifCond .eq 9, 3, 0), (44, .aload_n 0, 1, 0), (45, .iload_n 1, 1, 0), (46, .iload_n 2, 1, 0), (47, .invokevirtual 69, 3, 0), (50, .aload_n 0, 1, 0), (51, .getfield 9, 3, 64), (54, .iload_n 1, 1, 0), (55, .aload_n 0, 1, 0), (56, .getfield 40, 3, 72), (59, .invokevirtual 73, 3, 0), (62, .ifCond .eq 30, 3, 0), (65, .aload_n 0, 1, 0), (66, .iload_n 1, 1, 0), (67, .invokevirtual 65, 3, 0), (70, .ifCond .eq 14, 3, 0), (73, .aload_n 0, 1, 0), (74, .iload_n 1, 1, 0), (75, .iload_n 2, 1, 0), (76, .iconst 1, 1, 0), (77, .iadd, 1, 0), (78, .invokevirtual 69, 3, 0), (81, .goto 11, 3, 0), (84, .aload_n 0, 1, 0), (85, .iload_n 1, 1, 0), (86, .iconst 1, 1, 0), (87, .iadd, 1, 0), (88, .iload_n 2, 1, 0), (89, .invokevirtual 69, 3, 0), (92, .return_, 1, 0)]
def m_X1_hangTogether : ct_M := (yX1_hangTogether, cX1_hangTogether, 3, none, t_X1_hangTogether)
set_option maxRecDepth 100000 in
theorem ok_X1_hangTogether : ct_MOk m_X1_hangTogether := ct_MOk_of 656 79 flok_X1 (by decide +kernel) (by decide +kernel) (by decide +kernel) (by decide +kernel)
def t_X1_unite : List ct_I := [(0, .aload_n 0, 1, 0), (1, .iload_n 1, 1, 0), (2, .invokevirtual 77, 3, 0), (5, .istore_n 3, 1, 0), (6, .aload_n 0, 1, 0), (7, .iload_n 2, 1, 0), (8, .invokevirtual 77, 3, 0), (11, .istore 4, 2, 0), (13, .aload_n 0, 1, 0), (14, .getfield 17, 3, 65), (17, .iload_n 3, 1, 0), (18, .iload 4, 2, 0), (20, .invokestatic 81, 3, 0), (23, .iload_n 3, 1, 0), (24, .iload 4, 2, 0), (26, .invokestatic 87, 3, 0), (29, .iastore, 1, 0), (30, .return_, 1, 0)]
def m_X1_unite : ct_M := (yX1_unite, cX1_unite, 5, none, t_X1_unite)
set_option maxRecDepth 100000 in
theorem ok_X1_unite : ct_MOk m_X1_unite := ct_MOk_of 664 79 flok_X1 (by decide +kernel) (by decide +kernel) (by decide +kernel) (by decide +kernel)
def t_X1_rootOf : List ct_I := [(0, .iload_n 1, 1, 0), (1, .istore_n 2, 1, 0), (2, .iconst 0, 1, 0), (3, .istore_n 3, 1, 0), (4, .iload_n 3, 1, 0), (5, .aload_n 0, 1, 0), (6, .getfield 17, 3, 65), (9, .arraylength, 1, 0), (10, .if_icmp .ge 26, 3, 0), (13, .aload_n 0, 1, 0), (14, .getfield 17, 3, 65), (17, .iload_n 2, 1, 0), (18, .iaload, 1, 0), (19, .iload_n 2, 1, 0), (20, .if_icmp .eq 16, 3, 0), (23, .aload_n 0, 1, 0), (24, .getfield 17, 3, 65), (27, .iload_n 2, 1, 0), (28, .iaload, 1, 0), (29, .istore_n 2, 1, 0), (30, .iinc 3 1, 3, 0), (33, .goto (-29), 3, 0), (36, .iload_n 2, 1, 0), (37, .ireturn, 1, 0)]
def m_X1_rootOf : ct_M := (yX1_rootOf, cX1_rootOf, 4, (some .int), t_X1_rootOf)
set_option maxRecDepth 100000 in
theorem ok_X1_rootOf : ct_MOk m_X1_rootOf := ct_MOk_of 668 79 flok_X1 (by decide +kernel) (by decide +kernel) (by decide +kernel) (by decide +kernel)
def t_X1_numberLands : List ct_I := [(0, .aload_n 0, 1, 0), (1, .iconst 0, 1, 0), (2, .putfield 36, 3, 71), (5, .iconst 0, 1, 0), (6, .istore_n 1, 1, 0), (7, .iload_n 1, 1, 0), (8, .aload_n 0, 1, 0), (9, .getfield 9, 3, 64), (12, .getfield 49, 3, 4), (15, .if_icmp .ge 148, 3, 0), (18, .aload_n 0, 1, 0), (19, .iload_n 1, 1, 0), (20, .invokevirtual 77, 3, 0), (23, .istore_n 2, 1, 0), (24, .aload_n 0, 1, 0), (25, .iload_n 1, 1, 0), (26, .invokevirtual 65, 3, 0), (29, .ifCond .ne 14, 3, 0), (32, .aload_n 0, 1, 0), (33, .getfield 21, 3, 66), (36, .iload_n 1, 1, 0), (37, .bipush (-5), 2, 0), (39, .iastore, 1, 0), (40, .goto 117, 3, 0), (43, .iload_n 2, 1, 0), (44, .iload_n 1, 1, 0), (45, .if_icmp .ne 64, 3, 0), (48, .aload_n 0, 1, 0), (49, .getfield 21, 3, 66), (52, .iload_n 1, 1, 0), (53, .aload_n 0, 1, 0), (54, .getfield 36, 3, 71), (57, .iastore, 1, 0), (58, .aload_n 0, 1, 0), (59, .getfield 24, 3, 67), (62, .aload_n 0, 1, 0), (63, .getfield 36, 3, 71), (66, .iload_n 1, 1, 0), (67, .iastore, 1, 0), (68, .aload_n 0, 1, 0), (69, .getfield 27, 3, 68), (72, .aload_n 0, 1, 0), (73, .getfield 36, 3, 71), (76, .iconst 1, 1, 0), (77, .iastore, 1, 0), (78, .aload_n 0, 1, 0), (79, .getfield 30, 3, 69), (82, .aload_n 0, 1, 0), (83, .getfield 36, 3, 71), (86, .aload_n 0, 1, 0), (87, .getfield 9, 3, 64), (90, .getfield 62, 3, 0), (93, .iload_n 1, 1, 0), (94, .iaload, 1, 0), (95, .iastore, 1, 0), (96, .aload_n 0, 1, 0), (97, .dup, 1, 0), (98, .getfield 36, 3, 71), (101, .iconst 1, 1, 0), (102, .iadd, 1, 0), (103, .putfield 36, 3, 71), (106, .goto 51, 3, 0), (109, .aload_n 0, 1, 0), (110, .getfield 21, 3, 66), (113, .iload_n 2, 1, 0), (114, .iaload, 1, 0), (115, .istore_n 3, 1, 0), (116, .aload_n 0, 1, 0), (117, .getfield 21, 3, 66), (120, .iload_n 1, 1, 0), (121, .iload_n 3, 1, 0), (122, .iastore, 1, 0), (123, .aload_n 0, 1, 0), (124, .getfield 27, 3, 68), (127, .iload_n 3, 1, 0), (128, .dup2, 1, 0), (129, .iaload, 1, 0), (130, .iconst 1, 1, 0), (131, .iadd, 1, 0), (132, .iastore, 1, 0), (133, .aload_n 0, 1, 0), (134, .getfield 30, 3, 69), (137, .iload_n 3, 1, 0), (138, .aload_n 0, 1, 0), (139, .getfield 30, 3, 69), (142, .iload_n 3, 1, 0), (143, .iaload, 1, 0), (144, .aload_n 0, 1, 0), (145, .getfield 9, 3, 64), (148, .getfield 62, 3, 0), (151, .iload_n 1, 1, 0), (152, .iaload, 1, 0), (153, .invokestatic 81, 3, 0), (156, .iastore, 1, 0), (157, .iinc 1 1, 3, 0), (160, .goto (-153), 3, 0), (163, .return_, 1, 0)]
def m_X1_numberLands : ct_M := (yX1_numberLands, cX1_numberLands, 4, none, t_X1_numberLands)
set_option maxRecDepth 100000 in
theorem ok_X1_numberLands : ct_MOk m_X1_numberLands := ct_MOk_of 683 79 flok_X1 (by decide +kernel) (by decide +kernel) (by decide +kernel) (by decide +kernel)
def t_X1_clearChildren : List ct_I := [(0, .aload_n 0, 1, 0), (1, .getfield 33, 3, 70), (4, .iconst 0, 1, 0), (5, .invokestatic 90, 3, 0), (8, .return_, 1, 0)]
def m_X1_clearChildren : ct_M := (yX1_clearChildren, cX1_clearChildren, 1, none, t_X1_clearChildren)
set_option maxRecDepth 100000 in
theorem ok_X1_clearChildren : ct_MOk m_X1_clearChildren := ct_MOk_of 826 79 flok_X1 (by decide +kernel) (by decide +kernel) (by decide +kernel) (by decide +kernel)
def t_X1_addChild : List ct_I := [(0, .aload_n 0, 1, 0), (1, .getfield 33, 3, 70), (4, .aload_n 0, 1, 0), (5, .getfield 21, 3, 66), (8, .iload_n 1, 1, 0), (9, .iaload, 1, 0), (10, .dup2, 1, 0), (11, .iaload, 1, 0), (12, .iconst 1, 1, 0), (13, .iadd, 1, 0), (14, .iastore, 1, 0), (15, .return_, 1, 0)]
def m_X1_addChild : ct_M := (yX1_addChild, cX1_addChild, 2, none, t_X1_addChild)
set_option maxRecDepth 100000 in
theorem ok_X1_addChild : ct_MOk m_X1_addChild := ct_MOk_of 831 79 flok_X1 (by decide +kernel) (by decide +kernel) (by decide +kernel) (by decide +kernel)
def t_X1_leaves : List ct_I := [(0, .iconst 0, 1, 0), (1, .istore_n 1, 1, 0), (2, .iconst 0, 1, 0), (3, .istore_n 2, 1, 0), (4, .iload_n 2, 1, 0), (5, .aload_n 0, 1, 0), (6, .getfield 36, 3, 71), (9, .if_icmp .ge 21, 3, 0), (12, .aload_n 0, 1, 0), (13, .getfield 33, 3, 70), (16, .iload_n 2, 1, 0), (17, .iaload, 1, 0), (18, .ifCond .ne 6, 3, 0), (21, .iinc 1 1, 3, 0), (24, .iinc 2 1, 3, 0), (27, .goto (-23), 3, 0), (30, .iload_n 1, 1, 0), (31, .ireturn, 1, 0)]
def m_X1_leaves : ct_M := (yX1_leaves, cX1_leaves, 3, (some .int), t_X1_leaves)
set_option maxRecDepth 100000 in
theorem ok_X1_leaves : ct_MOk m_X1_leaves := ct_MOk_of 835 79 flok_X1 (by decide +kernel) (by decide +kernel) (by decide +kernel) (by decide +kernel)
def t_X1_forks : List ct_I := [(0, .iconst 0, 1, 0), (1, .istore_n 1, 1, 0), (2, .iconst 0, 1, 0), (3, .istore_n 2, 1, 0), (4, .iload_n 2, 1, 0), (5, .aload_n 0, 1, 0), (6, .getfield 36, 3, 71), (9, .if_icmp .ge 22, 3, 0), (12, .aload_n 0, 1, 0), (13, .getfield 33, 3, 70), (16, .iload_n 2, 1, 0), (17, .iaload, 1, 0), (18, .iconst 1, 1, 0), (19, .if_icmp .le 6, 3, 0), (22, .iinc 1 1, 3, 0), (25, .iinc 2 1, 3, 0), (28, .goto (-24), 3, 0), (31, .iload_n 1, 1, 0), (32, .ireturn, 1, 0)]
def m_X1_forks : ct_M := (yX1_forks, cX1_forks, 3, (some .int), t_X1_forks)
set_option maxRecDepth 100000 in
theorem ok_X1_forks : ct_MOk m_X1_forks := ct_MOk_of 839 79 flok_X1 (by decide +kernel) (by decide +kernel) (by decide +kernel) (by decide +kernel)
def t_X2_trace : List ct_I := [(0, .aload_n 0, 1, 0), (1, .getfield 34, 3, 134), (4, .iload_n 1, 1, 0), (5, .if_icmp .ne 18, 3, 0), (8, .aload_n 0, 1, 0), (9, .getfield 37, 3, 135), (12, .aload_n 0, 1, 0), (13, .getfield 13, 3, 128), (16, .getfield 43, 3, 6), (19, .if_icmp .ne 4, 3, 0), (22, .return_, 1, 0), (23, .aload_n 0, 1, 0), (24, .iload_n 1, 1, 0), (25, .putfield 34, 3, 134), (28, .aload_n 0, 1, 0), (29, .aload_n 0, 1, 0), (30, .getfield 13, 3, 128), (33, .getfield 43, 3, 6), (36, .putfield 37, 3, 135), (39, .aload_n 0, 1, 0), (40, .iconst 0, 1, 0), (41, .putfield 30, 3, 133), (44, .aload_n 0, 1, 0), (45, .getfield 17, 3, 129), (48, .bipush (-5), 2, 0), (50, .invokestatic 46, 3, 0), (53, .aload_n 0, 1, 0), (54, .getfield 13, 3, 128), (57, .getfield 52, 3, 4), (60, .aload_n 0, 1, 0), (61, .getfield 13, 3, 128), (64, .getfield 55, 3, 3), (67, .isub, 1, 0), (68, .istore_n 2, 1, 0), (69, .iconst 0, 1, 0), (70, .istore_n 3, 1, 0), (71, .iload_n 3, 1, 0), (72, .iload_n 2, 1, 0), (73, .if_icmp .ge 61, 3, 0), (76, .aload_n 0, 1, 0), (77, .iload_n 3, 1, 0), (78, .invokevirtual 58, 3, 0), (81, .aload_n 0, 1, 0), (82, .iload_n 3, 1, 0), (83, .iconst 1, 1, 0), (84, .iadd, 1, 0), (85, .invokevirtual 58, 3, 0), (88, .if_icmp .eq 10, 3, 0), (91, .aload_n 0, 1, 0), (92, .iconst 2, 1, 0), (93, .iload_n 3, 1, 0), (94, .imul, 1, 0), (95, .invokevirtual 62, 3, 0), (98, .aload_n 0, 1, 0), (99, .iload_n 3, 1, 0), (100, .invokevirtual 58, 3, 0), (103, .aload_n 0, 1, 0), (104, .iload_n 3, 1, 0), (105, .aload_n 0, 1, 0), (106, .getfield 13, 3, 128), (109, .getfield 55, 3, 3), (112, .iadd, 1, 0), (113, .invokevirtual 58, 3, 0), (116, .if_icmp .eq 12, 3, 0), (119, .aload_n 0, 1, 0), (120, .iconst 2, 1, 0), (121, .iload_n 3, 1, 0), (122, .imul, 1, 0), (123, .iconst 1, 1, 0), (124, .iadd, 1, 0), (125, .invokevirtual 62, 3, 0), (128, .iinc 3 1, 3, 0), (131, .goto (-60), 3, 0), (134, .return_, 1, 0)]
def m_X2_trace : ct_M := (yX2_trace, cX2_trace, 4, none, t_X2_trace)
set_option maxRecDepth 100000 in
theorem ok_X2_trace : ct_MOk m_X2_trace := ct_MOk_of 572 78 flok_X2 (by decide +kernel) (by decide +kernel) (by decide +kernel) (by decide +kernel)
def t_X2_isIn : List ct_I := [(0, .aload_n 0, 1, 0), (1, .getfield 13, 3, 128), (4, .getfield 66, 3, 0), (7, .iload_n 1, 1, 0), (8, .iaload, 1, 0), (9, .aload_n 0, 1, 0), (10, .getfield 34, 3, 134), (13, .if_icmp .lt 7, 3, 0), (16, .iconst 1, 1, 0), (17, .goto 4, 3, 0), (20, .iconst 0, 1, 0), (21, .ireturn, 1, 0)]
def m_X2_isIn : ct_M := (yX2_isIn, cX2_isIn, 2, (some .boolean), t_X2_isIn)
set_option maxRecDepth 100000 in
theorem ok_X2_isIn : ct_MOk m_X2_isIn := ct_MOk_of 577 78 flok_X2 (by decide +kernel) (by decide +kernel) (by decide +kernel) (by decide +kernel)
def t_X2_follow : List ct_I := [(0, .aload_n 0, 1, 0), (1, .getfield 17, 3, 129), (4, .iload_n 1, 1, 0), (5, .iaload, 1, 0), (6, .bipush (-5), 2, 0), (8, .if_icmp .ne 12, 3, 0), (11, .aload_n 0, 1, 0), (12, .getfield 30, 3, 133), (15, .bipush 40, 2, 0), (17, .if_icmp .lt 4, 3, 0), (20, .return_, 1, 0), (21, .aload_n 0, 1, 0), (22, .getfield 24, 3, 131), (25, .aload_n 0, 1, 0), (26, .getfield 30, 3, 133), (29, .iaload, 1, 0), (30, .istore_n 2, 1, 0), (31, .iload_n 1, 1, 0), (32, .istore_n 3, 1, 0), (33, .iload_n 2, 1, 0), (34, .sipush 162, 3, 0), (37, .if_icmp .ge 43, 3, 0), (40, .aload_n 0, 1, 0), (41, .getfield 17, 3, 129), (44, .iload_n 3, 1, 0), (45, .iaload, 1, 0), (46, .bipush (-5), 2, 0), (48, .if_icmp .ne 32, 3, 0), (51, .aload_n 0, 1, 0), (52, .getfield 17, 3, 129), (55, .iload_n 3, 1, 0), (56, .aload_n 0, 1, 0), (57, .getfield 30, 3, 133), (60, .iastore, 1, 0), (61, .aload_n 0, 1, 0), (62, .getfield 21, 3, 130), (65, .iload_n 2, 1, 0), (66, .iload_n 3, 1, 0), (67, .iastore, 1, 0), (68, .iinc 2 1, 3, 0), (71, .aload_n 0, 1, 0), (72, .iload_n 3, 1, 0), (73, .invokevirtual 69, 3, 0), (76, .istore_n 3, 1, 0), (77, .goto (-44), 3, 0), (80, .aload_n 0, 1, 0), (81, .dup, 1, 0), (82, .getfield 30, 3, 133), (85, .iconst 1, 1, 0), (86, .iadd, 1, 0), (87, .putfield 30, 3, 133), (90, .aload_n 0, 1, 0), (91, .getfield 24, 3, 131), (94, .aload_n 0, 1, 0), (95, .getfield 30, 3, 133), (98, .iload_n 2, 1, 0), (99, .iastore, 1, 0), (100, .return_, 1, 0)]
def m_X2_follow : ct_M := (yX2_follow, cX2_follow, 4, none, t_X2_follow)
set_option maxRecDepth 100000 in
theorem ok_X2_follow : ct_MOk m_X2_follow := ct_MOk_of 581 78 flok_X2 (by decide +kernel) (by decide +kernel) (by decide +kernel) (by decide +kernel)
def t_X2_nextOf : List ct_I := [(0, .aload_n 0, 1, 0), (1, .iload_n 1, 1, 0), (2, .invokevirtual 73, 3, 0), (5, .lookupswitch 70 #[(100, 52), (114, 61), (117, 35)], 35, 0), (40, .aload_n 0, 1, 0), (41, .iload_n 1, 1, 0), (42, .iconst 2, 1, 0), (43, .idiv, 1, 0), (44, .aload_n 0, 1, 0), (45, .getfield 13, 3, 128), (48, .getfield 55, 3, 3), (51, .isub, 1, 0), (52, .iconst 2, 1, 0), (53, .invokevirtual 76, 3, 0), (56, .ireturn, 1, 0), (57, .aload_n 0, 1, 0), (58, .iload_n 1, 1, 0), (59, .iconst 2, 1, 0), (60, .idiv, 1, 0), (61, .iconst 0, 1, 0), (62, .invokevirtual 76, 3, 0), (65, .ireturn, 1, 0), (66, .aload_n 0, 1, 0), (67, .iload_n 1, 1, 0), (68, .iconst 2, 1, 0), (69, .idiv, 1, 0), (70, .iconst 3, 1, 0), (71, .invokevirtual 76, 3, 0), (74, .ireturn, 1, 0), (75, .aload_n 0, 1, 0), (76, .iload_n 1, 1, 0), (77, .iconst 2, 1, 0), (78, .idiv, 1, 0), (79, .iconst 1, 1, 0), (80, .isub, 1, 0), (81, .iconst 1, 1, 0), (82, .invokevirtual 76, 3, 0), (85, .ireturn, 1, 0)]
def m_X2_nextOf : ct_M := (yX2_nextOf, cX2_nextOf, 2, (some .int), t_X2_nextOf)
set_option maxRecDepth 100000 in
theorem ok_X2_nextOf : ct_MOk m_X2_nextOf := ct_MOk_of 585 78 flok_X2 (by decide +kernel) (by decide +kernel) (by decide +kernel) (by decide +kernel)
def t_X2_wayOver : List ct_I := [(0, .aload_n 0, 1, 0), (1, .iload_n 1, 1, 0), (2, .iconst 2, 1, 0), (3, .idiv, 1, 0), (4, .invokevirtual 58, 3, 0), (7, .istore_n 2, 1, 0), (8, .iload_n 1, 1, 0), (9, .iconst 2, 1, 0), (10, .irem, 1, 0), (11, .ifCond .ne 15, 3, 0), (14, .iload_n 2, 1, 0), (15, .ifCond .eq 8, 3, 0), (18, .bipush 117, 2, 0), (20, .goto 5, 3, 0), (23, .bipush 100, 2, 0), (25, .ireturn, 1, 0), (26, .iload_n 2, 1, 0), (27, .ifCond .eq 8, 3, 0), (30, .bipush 114, 2, 0), (32, .goto 5, 3, 0), (35, .bipush 108, 2, 0), (37, .ireturn, 1, 0)]
def m_X2_wayOver : ct_M := (yX2_wayOver, cX2_wayOver, 3, (some .int), t_X2_wayOver)
set_option maxRecDepth 100000 in
theorem ok_X2_wayOver : ct_MOk m_X2_wayOver := ct_MOk_of 589 78 flok_X2 (by decide +kernel) (by decide +kernel) (by decide +kernel) (by decide +kernel)
def t_X2_leave : List ct_I := [(0, .aload_n 0, 1, 0), (1, .getfield 13, 3, 128), (4, .iload_n 1, 1, 0), (5, .aload_n 0, 1, 0), (6, .getfield 34, 3, 134), (9, .invokevirtual 80, 3, 0), (12, .istore_n 3, 1, 0), (13, .iload_n 3, 1, 0), (14, .invokestatic 83, 3, 0), (17, .ifCond .eq 55, 3, 0), (20, .iload_n 3, 1, 0), (21, .iconst 5, 1, 0), (22, .if_icmp .ne 7, 3, 0), (25, .iconst 1, 1, 0), (26, .goto 4, 3, 0), (29, .iconst 0, 1, 0), (30, .aload_n 0, 1, 0), (31, .getfield 13, 3, 128), (34, .iload_n 1, 1, 0), (35, .aload_n 0, 1, 0), (36, .getfield 34, 3, 134), (39, .invokevirtual 86, 3, 0), (42, .if_icmp .ne 7, 3, 0), (45, .iconst 1, 1, 0), (46, .goto 4, 3, 0), (49, .iconst 0, 1, 0), (50, .istore 4, 2, 0), (52, .aload_n 0, 1, 0), (53, .iload_n 1, 1, 0), (54, .iload 4, 2, 0), (56, .ifCond .eq 9, 3, 0), (59, .iload_n 2, 1, 0), (60, .iconst 1, 1, 0), (61, .ixor, 1, 0), (62, .goto 6, 3, 0), (65, .iconst 3, 1, 0), (66, .iload_n 2, 1, 0), (67, .isub, 1, 0), (68, .invokevirtual 90, 3, 0), (71, .ireturn, 1, 0), (72, .iconst 0, 1, 0), (73, .istore 4, 2, 0), (75, .iload 4, 2, 0), (77, .iconst 3, 1, 0), (78, .if_icmp .ge 19, 3, 0), (81, .iload_n 3, 1, 0), (82, .iload 4, 2, 0), (84, .ishr, 1, 0), (85, .iconst 3, 1, 0), (86, .iand, 1, 0), (87, .iconst 1, 1, 0), (88, .if_icmp .eq 9, 3, 0), (91, .iinc 4 1, 3, 0), (94, .goto (-19), 3, 0), (97, .aload_n 0, 1, 0), (98, .iload_n 1, 1, 0), (99, .iload 4, 2, 0), (101, .invokevirtual 90, 3, 0), (104, .ireturn, 1, 0)]
def m_X2_leave : ct_M := (yX2_leave, cX2_leave, 5, (some .int), t_X2_leave)
set_option maxRecDepth 100000 in
theorem ok_X2_leave : ct_MOk m_X2_leave := ct_MOk_of 593 78 flok_X2 (by decide +kernel) (by decide +kernel) (by decide +kernel) (by decide +kernel)
def t_X2_sideOf : List ct_I := [(0, .iload_n 2, 1, 0), (1, .tableswitch 51 0 2 #[27, 31, 39], 27, 0), (28, .iconst 2, 1, 0), (29, .iload_n 1, 1, 0), (30, .imul, 1, 0), (31, .ireturn, 1, 0), (32, .iconst 2, 1, 0), (33, .iload_n 1, 1, 0), (34, .iconst 1, 1, 0), (35, .iadd, 1, 0), (36, .imul, 1, 0), (37, .iconst 1, 1, 0), (38, .iadd, 1, 0), (39, .ireturn, 1, 0), (40, .iconst 2, 1, 0), (41, .iload_n 1, 1, 0), (42, .aload_n 0, 1, 0), (43, .getfield 13, 3, 128), (46, .getfield 55, 3, 3), (49, .iadd, 1, 0), (50, .imul, 1, 0), (51, .ireturn, 1, 0), (52, .iconst 2, 1, 0), (53, .iload_n 1, 1, 0), (54, .imul, 1, 0), (55, .iconst 1, 1, 0), (56, .iadd, 1, 0), (57, .ireturn, 1, 0)]
def m_X2_sideOf : ct_M := (yX2_sideOf, cX2_sideOf, 3, (some .int), t_X2_sideOf)
set_option maxRecDepth 100000 in
theorem ok_X2_sideOf : ct_MOk m_X2_sideOf := ct_MOk_of 608 78 flok_X2 (by decide +kernel) (by decide +kernel) (by decide +kernel) (by decide +kernel)
def t_X2_isLine : List ct_I := [(0, .iload_n 1, 1, 0), (1, .ifCond .lt 15, 3, 0), (4, .iload_n 1, 1, 0), (5, .aload_n 0, 1, 0), (6, .getfield 30, 3, 133), (9, .if_icmp .ge 7, 3, 0), (12, .iconst 1, 1, 0), (13, .goto 4, 3, 0), (16, .iconst 0, 1, 0), (17, .ireturn, 1, 0)]
def m_X2_isLine : ct_M := (yX2_isLine, cX2_isLine, 2, (some .boolean), t_X2_isLine)
set_option maxRecDepth 100000 in
theorem ok_X2_isLine : ct_MOk m_X2_isLine := ct_MOk_of 727 78 flok_X2 (by decide +kernel) (by decide +kernel) (by decide +kernel) (by decide +kernel)
def t_X2_lengthOf : List ct_I := [(0, .aload_n 0, 1, 0), (1, .getfield 24, 3, 131), (4, .iload_n 1, 1, 0), (5, .iconst 1, 1, 0), (6, .iadd, 1, 0), (7, .iaload, 1, 0), (8, .aload_n 0, 1, 0), (9, .getfield 24, 3, 131), (12, .iload_n 1, 1, 0), (13, .iaload, 1, 0), (14, .isub, 1, 0), (15, .ireturn, 1, 0)]
def m_X2_lengthOf : ct_M := (yX2_lengthOf, cX2_lengthOf, 2, (some .int), t_X2_lengthOf)
set_option maxRecDepth 100000 in
theorem ok_X2_lengthOf : ct_MOk m_X2_lengthOf := ct_MOk_of 732 78 flok_X2 (by decide +kernel) (by decide +kernel) (by decide +kernel) (by decide +kernel)
def t_X2_edgeOf : List ct_I := [(0, .aload_n 0, 1, 0), (1, .getfield 21, 3, 130), (4, .aload_n 0, 1, 0), (5, .getfield 24, 3, 131), (8, .iload_n 1, 1, 0), (9, .iaload, 1, 0), (10, .iload_n 2, 1, 0), (11, .iadd, 1, 0), (12, .iaload, 1, 0), (13, .ireturn, 1, 0)]
def m_X2_edgeOf : ct_M := (yX2_edgeOf, cX2_edgeOf, 3, (some .int), t_X2_edgeOf)
set_option maxRecDepth 100000 in
theorem ok_X2_edgeOf : ct_MOk m_X2_edgeOf := ct_MOk_of 747 78 flok_X2 (by decide +kernel) (by decide +kernel) (by decide +kernel) (by decide +kernel)
def t_X2_leastEdge : List ct_I := [(0, .aload_n 0, 1, 0), (1, .getfield 21, 3, 130), (4, .aload_n 0, 1, 0), (5, .getfield 24, 3, 131), (8, .iload_n 1, 1, 0), (9, .iaload, 1, 0), (10, .iaload, 1, 0), (11, .ireturn, 1, 0)]
def m_X2_leastEdge : ct_M := (yX2_leastEdge, cX2_leastEdge, 2, (some .int), t_X2_leastEdge)
set_option maxRecDepth 100000 in
theorem ok_X2_leastEdge : ct_MOk m_X2_leastEdge := ct_MOk_of 637 78 flok_X2 (by decide +kernel) (by decide +kernel) (by decide +kernel) (by decide +kernel)
def t_X2_innerPlace : List ct_I := [(0, .aload_n 0, 1, 0), (1, .iload_n 1, 1, 0), (2, .invokevirtual 93, 3, 0), (5, .istore_n 2, 1, 0), (6, .iload_n 2, 1, 0), (7, .iconst 2, 1, 0), (8, .idiv, 1, 0), (9, .istore_n 3, 1, 0), (10, .aload_n 0, 1, 0), (11, .iload_n 3, 1, 0), (12, .invokevirtual 58, 3, 0), (15, .ifCond .eq 5, 3, 0), (18, .iload_n 3, 1, 0), (19, .ireturn, 1, 0), (20, .iload_n 2, 1, 0), (21, .iconst 2, 1, 0), (22, .irem, 1, 0), (23, .ifCond .ne 9, 3, 0), (26, .iload_n 3, 1, 0), (27, .iconst 1, 1, 0), (28, .iadd, 1, 0), (29, .goto 12, 3, 0), (32, .iload_n 3, 1, 0), (33, .aload_n 0, 1, 0), (34, .getfield 13, 3, 128), (37, .getfield 55, 3, 3), (40, .iadd, 1, 0), (41, .ireturn, 1, 0)]
def m_X2_innerPlace : ct_M := (yX2_innerPlace, cX2_innerPlace, 4, (some .int), t_X2_innerPlace)
set_option maxRecDepth 100000 in
theorem ok_X2_innerPlace : ct_MOk m_X2_innerPlace := ct_MOk_of 806 78 flok_X2 (by decide +kernel) (by decide +kernel) (by decide +kernel) (by decide +kernel)
def t_X2_holdersOf : List ct_I := [(0, .lconst 0, 1, 0), (1, .lstore_n 2, 1, 0), (2, .aload_n 0, 1, 0), (3, .getfield 13, 3, 128), (6, .getfield 55, 3, 3), (9, .iload_n 1, 1, 0), (10, .aload_n 0, 1, 0), (11, .getfield 13, 3, 128), (14, .getfield 55, 3, 3), (17, .idiv, 1, 0), (18, .iconst 1, 1, 0), (19, .iadd, 1, 0), (20, .imul, 1, 0), (21, .iconst 1, 1, 0), (22, .isub, 1, 0), (23, .istore 4, 2, 0), (25, .iload_n 1, 1, 0), (26, .istore 5, 2, 0), (28, .iload 5, 2, 0), (30, .iload 4, 2, 0), (32, .if_icmp .ge 32, 3, 0), (35, .aload_n 0, 1, 0), (36, .getfield 17, 3, 129), (39, .iconst 2, 1, 0), (40, .iload 5, 2, 0), (42, .imul, 1, 0), (43, .iaload, 1, 0), (44, .istore 6, 2, 0), (46, .iload 6, 2, 0), (48, .ifCond .lt 10, 3, 0), (51, .lload_n 2, 1, 0), (52, .lconst 1, 1, 0), (53, .iload 6, 2, 0), (55, .lshl, 1, 0), (56, .lxor, 1, 0), (57, .lstore_n 2, 1, 0), (58, .iinc 5 1, 3, 0), (61, .goto (-33), 3, 0), (64, .lload_n 2, 1, 0), (65, .lreturn, 1, 0)]
def m_X2_holdersOf : ct_M := (yX2_holdersOf, cX2_holdersOf, 7, (some .long), t_X2_holdersOf)
set_option maxRecDepth 100000 in
theorem ok_X2_holdersOf : ct_MOk m_X2_holdersOf := ct_MOk_of 641 78 flok_X2 (by decide +kernel) (by decide +kernel) (by decide +kernel) (by decide +kernel)
def t_X2_isHeld : List ct_I := [(0, .aload_n 0, 1, 0), (1, .iload_n 2, 1, 0), (2, .invokevirtual 96, 3, 0), (5, .iload_n 1, 1, 0), (6, .lshr, 1, 0), (7, .lconst 1, 1, 0), (8, .land, 1, 0), (9, .lconst 1, 1, 0), (10, .lcmp, 1, 0), (11, .ifCond .ne 7, 3, 0), (14, .iconst 1, 1, 0), (15, .goto 4, 3, 0), (18, .iconst 0, 1, 0), (19, .ireturn, 1, 0)]
def m_X2_isHeld : ct_M := (yX2_isHeld, cX2_isHeld, 3, (some .boolean), t_X2_isHeld)
set_option maxRecDepth 100000 in
theorem ok_X2_isHeld : ct_MOk m_X2_isHeld := ct_MOk_of 766 78 flok_X2 (by decide +kernel) (by decide +kernel) (by decide +kernel) (by decide +kernel)
def t_X2_holdersOfLine : List ct_I := [(0, .aload_n 0, 1, 0), (1, .aload_n 0, 1, 0), (2, .iload_n 1, 1, 0), (3, .invokevirtual 93, 3, 0), (6, .iconst 2, 1, 0), (7, .idiv, 1, 0), (8, .invokevirtual 96, 3, 0), (11, .lconst 1, 1, 0), (12, .iload_n 1, 1, 0), (13, .lshl, 1, 0), (14, .ldc2_w 100, 3, 0), (17, .lxor, 1, 0), (18, .land, 1, 0), (19, .lreturn, 1, 0)]
def m_X2_holdersOfLine : ct_M := (yX2_holdersOfLine, cX2_holdersOfLine, 2, (some .long), t_X2_holdersOfLine)
set_option maxRecDepth 100000 in
theorem ok_X2_holdersOfLine : ct_MOk m_X2_holdersOfLine := ct_MOk_of 633 78 flok_X2 (by decide +kernel) (by decide +kernel) (by decide +kernel) (by decide +kernel)
def t_X2_depthOf : List ct_I := [(0, .aload_n 0, 1, 0), (1, .iload_n 1, 1, 0), (2, .invokevirtual 102, 3, 0), (5, .invokestatic 105, 3, 0), (8, .ireturn, 1, 0)]
def m_X2_depthOf : ct_M := (yX2_depthOf, cX2_depthOf, 2, (some .int), t_X2_depthOf)
set_option maxRecDepth 100000 in
theorem ok_X2_depthOf : ct_MOk m_X2_depthOf := ct_MOk_of 629 78 flok_X2 (by decide +kernel) (by decide +kernel) (by decide +kernel) (by decide +kernel)
def t_X2_isOuter : List ct_I := [(0, .aload_n 0, 1, 0), (1, .iload_n 1, 1, 0), (2, .invokevirtual 111, 3, 0), (5, .iconst 2, 1, 0), (6, .irem, 1, 0), (7, .ifCond .ne 7, 3, 0), (10, .iconst 1, 1, 0), (11, .goto 4, 3, 0), (14, .iconst 0, 1, 0), (15, .ireturn, 1, 0)]
def m_X2_isOuter : ct_M := (yX2_isOuter, cX2_isOuter, 2, (some .boolean), t_X2_isOuter)
set_option maxRecDepth 100000 in
theorem ok_X2_isOuter : ct_MOk m_X2_isOuter := ct_MOk_of 625 78 flok_X2 (by decide +kernel) (by decide +kernel) (by decide +kernel) (by decide +kernel)
def t_X2_parentOf : List ct_I := [(0, .aload_n 0, 1, 0), (1, .iload_n 1, 1, 0), (2, .invokevirtual 102, 3, 0), (5, .lstore_n 2, 1, 0), (6, .bipush (-5), 2, 0), (8, .istore 4, 2, 0), (10, .iconst (-1), 1, 0), (11, .istore 5, 2, 0), (13, .iconst 0, 1, 0), (14, .istore 6, 2, 0), (16, .iload 6, 2, 0), (18, .aload_n 0, 1, 0), (19, .getfield 30, 3, 133), (22, .if_icmp .ge 43, 3, 0), (25, .lload_n 2, 1, 0), (26, .iload 6, 2, 0), (28, .lshr, 1, 0), (29, .lconst 1, 1, 0), (30, .land, 1, 0), (31, .lconst 1, 1, 0), (32, .lcmp, 1, 0), (33, .ifCond .ne 26, 3, 0), (36, .aload_n 0, 1, 0), (37, .iload 6, 2, 0), (39, .invokevirtual 111, 3, 0), (42, .iload 5, 2, 0), (44, .if_icmp .le 15, 3, 0), (47, .iload 6, 2, 0), (49, .istore 4, 2, 0), (51, .aload_n 0, 1, 0), (52, .iload 6, 2, 0), (54, .invokevirtual 111, 3, 0), (57, .istore 5, 2, 0), (59, .iinc 6 1, 3, 0), (62, .goto (-46), 3, 0), (65, .iload 4, 2, 0), (67, .ireturn, 1, 0)]
def m_X2_parentOf : ct_M := (yX2_parentOf, cX2_parentOf, 7, (some .int), t_X2_parentOf)
set_option maxRecDepth 100000 in
theorem ok_X2_parentOf : ct_MOk m_X2_parentOf := ct_MOk_of 737 78 flok_X2 (by decide +kernel) (by decide +kernel) (by decide +kernel) (by decide +kernel)
def t_X2_areaOf : List ct_I := [(0, .iconst 0, 1, 0), (1, .istore_n 2, 1, 0), (2, .aload_n 0, 1, 0), (3, .iload_n 1, 1, 0), (4, .invokevirtual 114, 3, 0), (7, .istore_n 3, 1, 0), (8, .iconst 0, 1, 0), (9, .istore 4, 2, 0), (11, .iload 4, 2, 0), (13, .iload_n 3, 1, 0), (14, .if_icmp .ge 75, 3, 0), (17, .aload_n 0, 1, 0), (18, .iload_n 1, 1, 0), (19, .iload 4, 2, 0), (21, .invokevirtual 117, 3, 0), (24, .istore 5, 2, 0), (26, .iload 4, 2, 0), (28, .iconst 1, 1, 0), (29, .iadd, 1, 0), (30, .iload_n 3, 1, 0), (31, .if_icmp .ge 15, 3, 0), (34, .aload_n 0, 1, 0), (35, .iload_n 1, 1, 0), (36, .iload 4, 2, 0), (38, .iconst 1, 1, 0), (39, .iadd, 1, 0), (40, .invokevirtual 117, 3, 0), (43, .goto 8, 3, 0), (46, .aload_n 0, 1, 0), (47, .iload_n 1, 1, 0), (48, .invokevirtual 93, 3, 0), (51, .istore 6, 2, 0), (53, .iload_n 2, 1, 0), (54, .aload_n 0, 1, 0), (55, .iload 5, 2, 0), (57, .invokevirtual 120, 3, 0), (60, .aload_n 0, 1, 0), (61, .iload 6, 2, 0), (63, .invokevirtual 123, 3, 0), (66, .imul, 1, 0), (67, .aload_n 0, 1, 0), (68, .iload 5, 2, 0), (70, .invokevirtual 123, 3, 0), (73, .aload_n 0, 1, 0), (74, .iload 6, 2, 0), (76, .invokevirtual 120, 3, 0), (79, .imul, 1, 0), (80, .isub, 1, 0), (81, .iadd, 1, 0), (82, .istore_n 2, 1, 0), (83, .iinc 4 1, 3, 0), (86, .goto (-75), 3, 0), (89, .iload_n 2, 1, 0), (90, .invokestatic 126, 3, 0), (93, .ireturn, 1, 0)]
def m_X2_areaOf : ct_M := (yX2_areaOf, cX2_areaOf, 7, (some .int), t_X2_areaOf)
set_option maxRecDepth 100000 in
theorem ok_X2_areaOf : ct_MOk m_X2_areaOf := ct_MOk_of 742 78 flok_X2 (by decide +kernel) (by decide +kernel) (by decide +kernel) (by decide +kernel)
def t_X2_acrossOf : List ct_I := [(0, .iconst 2, 1, 0), (1, .iload_n 1, 1, 0), (2, .iconst 2, 1, 0), (3, .idiv, 1, 0), (4, .aload_n 0, 1, 0), (5, .getfield 13, 3, 128), (8, .getfield 55, 3, 3), (11, .irem, 1, 0), (12, .iconst 1, 1, 0), (13, .isub, 1, 0), (14, .imul, 1, 0), (15, .iload_n 1, 1, 0), (16, .iconst 2, 1, 0), (17, .irem, 1, 0), (18, .ifCond .ne 7, 3, 0), (21, .iconst 1, 1, 0), (22, .goto 4, 3, 0), (25, .iconst 0, 1, 0), (26, .iadd, 1, 0), (27, .ireturn, 1, 0)]
def m_X2_acrossOf : ct_M := (yX2_acrossOf, cX2_acrossOf, 2, (some .int), t_X2_acrossOf)
set_option maxRecDepth 100000 in
theorem ok_X2_acrossOf : ct_MOk m_X2_acrossOf := ct_MOk_of 751 78 flok_X2 (by decide +kernel) (by decide +kernel) (by decide +kernel) (by decide +kernel)
def t_X2_downOf : List ct_I := [(0, .iconst 2, 1, 0), (1, .iload_n 1, 1, 0), (2, .iconst 2, 1, 0), (3, .idiv, 1, 0), (4, .aload_n 0, 1, 0), (5, .getfield 13, 3, 128), (8, .getfield 55, 3, 3), (11, .idiv, 1, 0), (12, .iconst 1, 1, 0), (13, .isub, 1, 0), (14, .imul, 1, 0), (15, .iload_n 1, 1, 0), (16, .iconst 2, 1, 0), (17, .irem, 1, 0), (18, .iadd, 1, 0), (19, .ireturn, 1, 0)]
def m_X2_downOf : ct_M := (yX2_downOf, cX2_downOf, 2, (some .int), t_X2_downOf)
set_option maxRecDepth 100000 in
theorem ok_X2_downOf : ct_MOk m_X2_downOf := ct_MOk_of 755 78 flok_X2 (by decide +kernel) (by decide +kernel) (by decide +kernel) (by decide +kernel)
def t_X2_pointsHeld : List ct_I := [(0, .iconst 0, 1, 0), (1, .istore_n 2, 1, 0), (2, .aload_n 0, 1, 0), (3, .getfield 13, 3, 128), (6, .invokevirtual 131, 3, 0), (9, .istore_n 3, 1, 0), (10, .iconst 0, 1, 0), (11, .istore 4, 2, 0), (13, .iload 4, 2, 0), (15, .iload_n 3, 1, 0), (16, .if_icmp .ge 29, 3, 0), (19, .aload_n 0, 1, 0), (20, .iload_n 1, 1, 0), (21, .aload_n 0, 1, 0), (22, .getfield 13, 3, 128), (25, .iload 4, 2, 0), (27, .invokevirtual 135, 3, 0), (30, .invokevirtual 138, 3, 0), (33, .ifCond .eq 6, 3, 0), (36, .iinc 2 1, 3, 0), (39, .iinc 4 1, 3, 0), (42, .goto (-29), 3, 0), (45, .iload_n 2, 1, 0), (46, .ireturn, 1, 0)]
def m_X2_pointsHeld : ct_M := (yX2_pointsHeld, cX2_pointsHeld, 5, (some .int), t_X2_pointsHeld)
set_option maxRecDepth 100000 in
theorem ok_X2_pointsHeld : ct_MOk m_X2_pointsHeld := ct_MOk_of 760 78 flok_X2 (by decide +kernel) (by decide +kernel) (by decide +kernel) (by decide +kernel)
def t_X2_outerOnes : List ct_I := [(0, .iconst 0, 1, 0), (1, .istore_n 1, 1, 0), (2, .iconst 0, 1, 0), (3, .istore_n 2, 1, 0), (4, .iload_n 2, 1, 0), (5, .aload_n 0, 1, 0), (6, .getfield 30, 3, 133), (9, .if_icmp .ge 20, 3, 0), (12, .aload_n 0, 1, 0), (13, .iload_n 2, 1, 0), (14, .invokevirtual 141, 3, 0), (17, .ifCond .eq 6, 3, 0), (20, .iinc 1 1, 3, 0), (23, .iinc 2 1, 3, 0), (26, .goto (-22), 3, 0), (29, .iload_n 1, 1, 0), (30, .ireturn, 1, 0)]
def m_X2_outerOnes : ct_M := (yX2_outerOnes, cX2_outerOnes, 3, (some .int), t_X2_outerOnes)
set_option maxRecDepth 100000 in
theorem ok_X2_outerOnes : ct_MOk m_X2_outerOnes := ct_MOk_of 621 78 flok_X2 (by decide +kernel) (by decide +kernel) (by decide +kernel) (by decide +kernel)
def t_X2_greatestDepth : List ct_I := [(0, .bipush (-5), 2, 0), (2, .istore_n 1, 1, 0), (3, .iconst 0, 1, 0), (4, .istore_n 2, 1, 0), (5, .iload_n 2, 1, 0), (6, .aload_n 0, 1, 0), (7, .getfield 30, 3, 133), (10, .if_icmp .ge 19, 3, 0), (13, .iload_n 1, 1, 0), (14, .aload_n 0, 1, 0), (15, .iload_n 2, 1, 0), (16, .invokevirtual 111, 3, 0), (19, .invokestatic 144, 3, 0), (22, .istore_n 1, 1, 0), (23, .iinc 2 1, 3, 0), (26, .goto (-21), 3, 0), (29, .iload_n 1, 1, 0), (30, .ireturn, 1, 0)]
def m_X2_greatestDepth : ct_M := (yX2_greatestDepth, cX2_greatestDepth, 3, (some .int), t_X2_greatestDepth)
set_option maxRecDepth 100000 in
theorem ok_X2_greatestDepth : ct_MOk m_X2_greatestDepth := ct_MOk_of 699 78 flok_X2 (by decide +kernel) (by decide +kernel) (by decide +kernel) (by decide +kernel)
def t_X2_countLevels : List ct_I := [(0, .aload_n 0, 1, 0), (1, .getfield 40, 3, 136), (4, .aload_n 0, 1, 0), (5, .getfield 13, 3, 128), (8, .getfield 43, 3, 6), (11, .if_icmp .ne 4, 3, 0), (14, .return_, 1, 0), (15, .aload_n 0, 1, 0), (16, .aload_n 0, 1, 0), (17, .getfield 13, 3, 128), (20, .getfield 43, 3, 6), (23, .putfield 40, 3, 136), (26, .iconst 0, 1, 0), (27, .istore_n 1, 1, 0), (28, .iload_n 1, 1, 0), (29, .bipush 100, 2, 0), (31, .if_icmp .ge 67, 3, 0), (34, .iload_n 1, 1, 0), (35, .ifCond .le 42, 3, 0), (38, .aload_n 0, 1, 0), (39, .getfield 27, 3, 132), (42, .iload_n 1, 1, 0), (43, .iconst 1, 1, 0), (44, .isub, 1, 0), (45, .iaload, 1, 0), (46, .ifCond .eq 14, 3, 0), (49, .aload_n 0, 1, 0), (50, .getfield 13, 3, 128), (53, .iload_n 1, 1, 0), (54, .invokevirtual 147, 3, 0), (57, .ifCond .eq 20, 3, 0), (60, .aload_n 0, 1, 0), (61, .getfield 27, 3, 132), (64, .iload_n 1, 1, 0), (65, .aload_n 0, 1, 0), (66, .getfield 27, 3, 132), (69, .iload_n 1, 1, 0), (70, .iconst 1, 1, 0), (71, .isub, 1, 0), (72, .iaload, 1, 0), (73, .iastore, 1, 0), (74, .goto 18, 3, 0), (77, .aload_n 0, 1, 0), (78, .iload_n 1, 1, 0), (79, .invokevirtual 150, 3, 0), (82, .aload_n 0, 1, 0), (83, .getfield 27, 3, 132), (86, .iload_n 1, 1, 0), (87, .aload_n 0, 1, 0), (88, .getfield 30, 3, 133), (91, .iastore, 1, 0), (92, .iinc 1 1, 3, 0), (95, .goto (-67), 3, 0), (98, .return_, 1, 0)]
def m_X2_countLevels : ct_M := (yX2_countLevels, cX2_countLevels, 2, none, t_X2_countLevels)
set_option maxRecDepth 100000 in
theorem ok_X2_countLevels : ct_MOk m_X2_countLevels := ct_MOk_of 564 78 flok_X2 (by decide +kernel) (by decide +kernel) (by decide +kernel) (by decide +kernel)
def t_X2_busiest : List ct_I := [(0, .iconst 0, 1, 0), (1, .istore_n 1, 1, 0), (2, .iconst 1, 1, 0), (3, .istore_n 2, 1, 0), (4, .iload_n 2, 1, 0), (5, .bipush 100, 2, 0), (7, .if_icmp .ge 26, 3, 0), (10, .aload_n 0, 1, 0), (11, .getfield 27, 3, 132), (14, .iload_n 2, 1, 0), (15, .iaload, 1, 0), (16, .aload_n 0, 1, 0), (17, .getfield 27, 3, 132), (20, .iload_n 1, 1, 0), (21, .iaload, 1, 0), (22, .if_icmp .le 5, 3, 0), (25, .iload_n 2, 1, 0), (26, .istore_n 1, 1, 0), (27, .iinc 2 1, 3, 0), (30, .goto (-26), 3, 0), (33, .iload_n 1, 1, 0), (34, .ireturn, 1, 0)]
def m_X2_busiest : ct_M := (yX2_busiest, cX2_busiest, 3, (some .int), t_X2_busiest)
set_option maxRecDepth 100000 in
theorem ok_X2_busiest : ct_MOk m_X2_busiest := ct_MOk_of 612 78 flok_X2 (by decide +kernel) (by decide +kernel) (by decide +kernel) (by decide +kernel)
def t_X3_isFull : List ct_I := [(0, .aload_n 0, 1, 0), (1, .getfield 16, 3, 194), (4, .aload_n 0, 1, 0), (5, .getfield 7, 3, 192), (8, .arraylength, 1, 0), (9, .if_icmp .lt 7, 3, 0), (12, .iconst 1, 1, 0), (13, .goto 4, 3, 0), (16, .iconst 0, 1, 0), (17, .ireturn, 1, 0)]
def m_X3_isFull : ct_M := (yX3_isFull, cX3_isFull, 1, (some .boolean), t_X3_isFull)
set_option maxRecDepth 100000 in
theorem ok_X3_isFull : ct_MOk m_X3_isFull := ct_MOk_of 856 80 flok_X3 (by decide +kernel) (by decide +kernel) (by decide +kernel) (by decide +kernel)
def t_X3_append : List ct_I := [(0, .aload_n 0, 1, 0), (1, .getfield 7, 3, 192), (4, .aload_n 0, 1, 0), (5, .getfield 16, 3, 194), (8, .iload_n 1, 1, 0), (9, .iastore, 1, 0), (10, .aload_n 0, 1, 0), (11, .getfield 13, 3, 193), (14, .aload_n 0, 1, 0), (15, .getfield 16, 3, 194), (18, .iload_n 2, 1, 0), (19, .iastore, 1, 0), (20, .aload_n 0, 1, 0), (21, .dup, 1, 0), (22, .getfield 16, 3, 194), (25, .iconst 1, 1, 0), (26, .iadd, 1, 0), (27, .putfield 16, 3, 194), (30, .aload_n 0, 1, 0), (31, .getfield 16, 3, 194), (34, .ireturn, 1, 0)]
def m_X3_append : ct_M := (yX3_append, cX3_append, 3, (some .int), t_X3_append)
set_option maxRecDepth 100000 in
theorem ok_X3_append : ct_MOk m_X3_append := ct_MOk_of 860 80 flok_X3 (by decide +kernel) (by decide +kernel) (by decide +kernel) (by decide +kernel)
def t_X3_clear : List ct_I := [(0, .aload_n 0, 1, 0), (1, .iconst 0, 1, 0), (2, .putfield 16, 3, 194), (5, .aload_n 0, 1, 0), (6, .getfield 16, 3, 194), (9, .ireturn, 1, 0)]
def m_X3_clear : ct_M := (yX3_clear, cX3_clear, 1, (some .int), t_X3_clear)
set_option maxRecDepth 100000 in
theorem ok_X3_clear : ct_MOk m_X3_clear := ct_MOk_of 852 80 flok_X3 (by decide +kernel) (by decide +kernel) (by decide +kernel) (by decide +kernel)
def t_X3_copyFrom : List ct_I := [(0, .aload_n 0, 1, 0), (1, .aload_n 1, 1, 0), (2, .getfield 16, 3, 194), (5, .putfield 16, 3, 194), (8, .iconst 0, 1, 0), (9, .istore_n 2, 1, 0), (10, .iload_n 2, 1, 0), (11, .aload_n 0, 1, 0), (12, .getfield 16, 3, 194), (15, .if_icmp .ge 33, 3, 0), (18, .aload_n 0, 1, 0), (19, .getfield 7, 3, 192), (22, .iload_n 2, 1, 0), (23, .aload_n 1, 1, 0), (24, .getfield 7, 3, 192), (27, .iload_n 2, 1, 0), (28, .iaload, 1, 0), (29, .iastore, 1, 0), (30, .aload_n 0, 1, 0), (31, .getfield 13, 3, 193), (34, .iload_n 2, 1, 0), (35, .aload_n 1, 1, 0), (36, .getfield 13, 3, 193), (39, .iload_n 2, 1, 0), (40, .iaload, 1, 0), (41, .iastore, 1, 0), (42, .iinc 2 1, 3, 0), (45, .goto (-35), 3, 0), (48, .return_, 1, 0)]
def m_X3_copyFrom : ct_M := (yX3_copyFrom, cX3_copyFrom, 3, none, t_X3_copyFrom)
set_option maxRecDepth 100000 in
theorem ok_X3_copyFrom : ct_MOk m_X3_copyFrom := ct_MOk_of 938 80 flok_X3 (by decide +kernel) (by decide +kernel) (by decide +kernel) (by decide +kernel)
def t_X4_isSort : List ct_I := [(0, .iload_n 0, 1, 0), (1, .ifCond .lt 12, 3, 0), (4, .iload_n 0, 1, 0), (5, .iconst 4, 1, 0), (6, .if_icmp .gt 7, 3, 0), (9, .iconst 1, 1, 0), (10, .goto 4, 3, 0), (13, .iconst 0, 1, 0), (14, .ireturn, 1, 0)]
def m_X4_isSort : ct_M := (yX4_isSort, cX4_isSort, 1, (some .boolean), t_X4_isSort)
set_option maxRecDepth 100000 in
theorem ok_X4_isSort : ct_MOk m_X4_isSort := ct_MOk_of 964 82 flok_X4 (by decide +kernel) (by decide +kernel) (by decide +kernel) (by decide +kernel)
def t_X4_become : List ct_I := [(0, .aload_n 0, 1, 0), (1, .iload_n 1, 1, 0), (2, .putfield 13, 3, 257), (5, .aload_n 0, 1, 0), (6, .iload_n 2, 1, 0), (7, .putfield 17, 3, 258), (10, .aload_n 0, 1, 0), (11, .getfield 9, 3, 256), (14, .lconst 0, 1, 0), (15, .invokestatic 20, 3, 0), (18, .return_, 1, 0)]
def m_X4_become : ct_M := (yX4_become, cX4_become, 3, none, t_X4_become)
set_option maxRecDepth 100000 in
theorem ok_X4_become : ct_MOk m_X4_become := ct_MOk_of 958 82 flok_X4 (by decide +kernel) (by decide +kernel) (by decide +kernel) (by decide +kernel)
def t_X4_isEmpty : List ct_I := [(0, .aload_n 0, 1, 0), (1, .getfield 13, 3, 257), (4, .iconst (-1), 1, 0), (5, .if_icmp .ne 7, 3, 0), (8, .iconst 1, 1, 0), (9, .goto 4, 3, 0), (12, .iconst 0, 1, 0), (13, .ireturn, 1, 0)]
def m_X4_isEmpty : ct_M := (yX4_isEmpty, cX4_isEmpty, 1, (some .boolean), t_X4_isEmpty)
set_option maxRecDepth 100000 in
theorem ok_X4_isEmpty : ct_MOk m_X4_isEmpty := ct_MOk_of 925 82 flok_X4 (by decide +kernel) (by decide +kernel) (by decide +kernel) (by decide +kernel)
def t_X4_isPlace : List ct_I := [(0, .iload_n 1, 1, 0), (1, .ifCond .lt 15, 3, 0), (4, .iload_n 1, 1, 0), (5, .aload_n 0, 1, 0), (6, .getfield 17, 3, 258), (9, .if_icmp .ge 7, 3, 0), (12, .iconst 1, 1, 0), (13, .goto 4, 3, 0), (16, .iconst 0, 1, 0), (17, .ireturn, 1, 0)]
def m_X4_isPlace : ct_M := (yX4_isPlace, cX4_isPlace, 2, (some .boolean), t_X4_isPlace)
set_option maxRecDepth 100000 in
theorem ok_X4_isPlace : ct_MOk m_X4_isPlace := ct_MOk_of 929 82 flok_X4 (by decide +kernel) (by decide +kernel) (by decide +kernel) (by decide +kernel)
def t_X4_isStretch : List ct_I := [(0, .iload_n 1, 1, 0), (1, .ifCond .lt 29, 3, 0), (4, .iload_n 2, 1, 0), (5, .ifCond .lt 25, 3, 0), (8, .iload_n 1, 1, 0), (9, .aload_n 0, 1, 0), (10, .getfield 17, 3, 258), (13, .if_icmp .gt 17, 3, 0), (16, .iload_n 2, 1, 0), (17, .aload_n 0, 1, 0), (18, .getfield 17, 3, 258), (21, .iload_n 1, 1, 0), (22, .isub, 1, 0), (23, .if_icmp .gt 7, 3, 0), (26, .iconst 1, 1, 0), (27, .goto 4, 3, 0), (30, .iconst 0, 1, 0), (31, .ireturn, 1, 0)]
def m_X4_isStretch : ct_M := (yX4_isStretch, cX4_isStretch, 3, (some .boolean), t_X4_isStretch)
set_option maxRecDepth 100000 in
theorem ok_X4_isStretch : ct_MOk m_X4_isStretch := ct_MOk_of 984 82 flok_X4 (by decide +kernel) (by decide +kernel) (by decide +kernel) (by decide +kernel)
def t_X4_put : List ct_I := [(0, .aload_n 0, 1, 0), (1, .getfield 13, 3, 257), (4, .tableswitch 94 0 4 #[36, 49, 62, 94, 74], 36, 0), (40, .aload_n 0, 1, 0), (41, .getfield 9, 3, 256), (44, .iload_n 1, 1, 0), (45, .lload_n 2, 1, 0), (46, .l2i, 1, 0), (47, .i2b, 1, 0), (48, .i2l, 1, 0), (49, .lastore, 1, 0), (50, .goto 55, 3, 0), (53, .aload_n 0, 1, 0), (54, .getfield 9, 3, 256), (57, .iload_n 1, 1, 0), (58, .lload_n 2, 1, 0), (59, .l2i, 1, 0), (60, .i2s, 1, 0), (61, .i2l, 1, 0), (62, .lastore, 1, 0), (63, .goto 42, 3, 0), (66, .aload_n 0, 1, 0), (67, .getfield 9, 3, 256), (70, .iload_n 1, 1, 0), (71, .lload_n 2, 1, 0), (72, .l2i, 1, 0), (73, .i2l, 1, 0), (74, .lastore, 1, 0), (75, .goto 30, 3, 0), (78, .aload_n 0, 1, 0), (79, .getfield 9, 3, 256), (82, .iload_n 1, 1, 0), (83, .lload_n 2, 1, 0), (84, .lconst 0, 1, 0), (85, .lcmp, 1, 0), (86, .ifCond .eq 7, 3, 0), (89, .lconst 1, 1, 0), (90, .goto 4, 3, 0), (93, .lconst 0, 1, 0), (94, .lastore, 1, 0), (95, .goto 10, 3, 0), (98, .aload_n 0, 1, 0), (99, .getfield 9, 3, 256), (102, .iload_n 1, 1, 0), (103, .lload_n 2, 1, 0), (104, .lastore, 1, 0), (105, .return_, 1, 0)]
def m_X4_put : ct_M := (yX4_put, cX4_put, 4, none, t_X4_put)
set_option maxRecDepth 100000 in
theorem ok_X4_put : ct_MOk m_X4_put := ct_MOk_of 972 82 flok_X4 (by decide +kernel) (by decide +kernel) (by decide +kernel) (by decide +kernel)
def t_X5_isFull : List ct_I := [(0, .aload_n 0, 1, 0), (1, .getfield 13, 3, 321), (4, .bipush 100, 2, 0), (6, .if_icmp .lt 7, 3, 0), (9, .iconst 1, 1, 0), (10, .goto 4, 3, 0), (13, .iconst 0, 1, 0), (14, .ireturn, 1, 0)]
def m_X5_isFull : ct_M := (yX5_isFull, cX5_isFull, 1, (some .boolean), t_X5_isFull)
set_option maxRecDepth 100000 in
theorem ok_X5_isFull : ct_MOk m_X5_isFull := ct_MOk_of 397 81 flok_X5 (by decide +kernel) (by decide +kernel) (by decide +kernel) (by decide +kernel)
def t_X5_append : List ct_I := [(0, .aload_n 0, 1, 0), (1, .getfield 9, 3, 320), (4, .aload_n 0, 1, 0), (5, .getfield 13, 3, 321), (8, .iload_n 1, 1, 0), (9, .iastore, 1, 0), (10, .aload_n 0, 1, 0), (11, .dup, 1, 0), (12, .getfield 13, 3, 321), (15, .iconst 1, 1, 0), (16, .iadd, 1, 0), (17, .putfield 13, 3, 321), (20, .return_, 1, 0)]
def m_X5_append : ct_M := (yX5_append, cX5_append, 2, none, t_X5_append)
set_option maxRecDepth 100000 in
theorem ok_X5_append : ct_MOk m_X5_append := ct_MOk_of 401 81 flok_X5 (by decide +kernel) (by decide +kernel) (by decide +kernel) (by decide +kernel)
def t_X5_wordOf : List ct_I := [(0, .aload_n 0, 1, 0), (1, .getfield 17, 3, 322), (4, .iload_n 1, 1, 0), (5, .iaload, 1, 0), (6, .ireturn, 1, 0)]
def m_X5_wordOf : ct_M := (yX5_wordOf, cX5_wordOf, 2, (some .int), t_X5_wordOf)
set_option maxRecDepth 100000 in
theorem ok_X5_wordOf : ct_MOk m_X5_wordOf := ct_MOk_of 509 81 flok_X5 (by decide +kernel) (by decide +kernel) (by decide +kernel) (by decide +kernel)
def t_X5_numberOf : List ct_I := [(0, .aload_n 0, 1, 0), (1, .getfield 20, 3, 323), (4, .iload_n 1, 1, 0), (5, .iconst 3, 1, 0), (6, .imul, 1, 0), (7, .iload_n 2, 1, 0), (8, .iadd, 1, 0), (9, .iaload, 1, 0), (10, .ireturn, 1, 0)]
def m_X5_numberOf : ct_M := (yX5_numberOf, cX5_numberOf, 3, (some .int), t_X5_numberOf)
set_option maxRecDepth 100000 in
theorem ok_X5_numberOf : ct_MOk m_X5_numberOf := ct_MOk_of 505 81 flok_X5 (by decide +kernel) (by decide +kernel) (by decide +kernel) (by decide +kernel)
def t_X5_parse : List ct_I := [(0, .aload_n 0, 1, 0), (1, .iconst 0, 1, 0), (2, .putfield 26, 3, 325), (5, .aload_n 0, 1, 0), (6, .iconst 0, 1, 0), (7, .putfield 23, 3, 324), (10, .iconst 1, 1, 0), (11, .istore_n 1, 1, 0), (12, .iload_n 1, 1, 0), (13, .ifCond .eq 61, 3, 0), (16, .aload_n 0, 1, 0), (17, .getfield 23, 3, 324), (20, .bipush 12, 2, 0), (22, .if_icmp .ge 52, 3, 0), (25, .aload_n 0, 1, 0), (26, .invokevirtual 29, 3, 0), (29, .ifCond .ne 8, 3, 0), (32, .aload_n 0, 1, 0), (33, .getfield 26, 3, 325), (36, .ireturn, 1, 0), (37, .aload_n 0, 1, 0), (38, .dup, 1, 0), (39, .getfield 23, 3, 324), (42, .iconst 1, 1, 0), (43, .iadd, 1, 0), (44, .putfield 23, 3, 324), (47, .aload_n 0, 1, 0), (48, .getfield 23, 3, 324), (51, .bipush 12, 2, 0), (53, .if_icmp .ge 16, 3, 0), (56, .aload_n 0, 1, 0), (57, .bipush 59, 2, 0), (59, .invokevirtual 33, 3, 0), (62, .ifCond .eq 7, 3, 0), (65, .iconst 1, 1, 0), (66, .goto 4, 3, 0), (69, .iconst 0, 1, 0), (70, .istore_n 1, 1, 0), (71, .goto (-59), 3, 0), (74, .aload_n 0, 1, 0), (75, .getfield 26, 3, 325), (78, .aload_n 0, 1, 0), (79, .getfield 13, 3, 321), (82, .if_icmp .ne 7, 3, 0), (85, .iconst (-1), 1, 0), (86, .goto 7, 3, 0), (89, .aload_n 0, 1, 0), (90, .getfield 26, 3, 325), (93, .ireturn, 1, 0)]
def m_X5_parse : ct_M := (yX5_parse, cX5_parse, 2, (some .int), t_X5_parse)
set_option maxRecDepth 100000 in
theorem ok_X5_parse : ct_MOk m_X5_parse := ct_MOk_of 409 81 flok_X5 (by decide +kernel) (by decide +kernel) (by decide +kernel) (by decide +kernel)
def t_X5_readClause : List ct_I := [(0, .aload_n 0, 1, 0), (1, .getfield 26, 3, 325), (4, .aload_n 0, 1, 0), (5, .getfield 13, 3, 321), (8, .if_icmp .ge 15, 3, 0), (11, .aload_n 0, 1, 0), (12, .getfield 9, 3, 320), (15, .aload_n 0, 1, 0), (16, .getfield 26, 3, 325), (19, .iaload, 1, 0), (20, .goto 4, 3, 0), (23, .iconst 0, 1, 0), (24, .invokestatic 37, 3, 0), (27, .istore_n 1, 1, 0), (28, .iload_n 1, 1, 0), (29, .invokestatic 41, 3, 0), (32, .astore_n 2, 1, 0), (33, .aload_n 2, 1, 0), (34, .invokevirtual 45, 3, 0), (37, .ifCond .eq 5, 3, 0), (40, .iconst 0, 1, 0), (41, .ireturn, 1, 0), (42, .iconst 0, 1, 0), (43, .istore_n 3, 1, 0), (44, .iload_n 3, 1, 0), (45, .aload_n 2, 1, 0), (46, .invokevirtual 50, 3, 0), (49, .if_icmp .ge 23, 3, 0), (52, .aload_n 0, 1, 0), (53, .aload_n 2, 1, 0), (54, .iload_n 3, 1, 0), (55, .invokevirtual 53, 3, 0), (58, .invokevirtual 33, 3, 0), (61, .ifCond .ne 5, 3, 0), (64, .iconst 0, 1, 0), (65, .ireturn, 1, 0), (66, .iinc 3 1, 3, 0), (69, .goto (-25), 3, 0), (72, .aload_n 0, 1, 0), (73, .getfield 17, 3, 322), (76, .aload_n 0, 1, 0), (77, .getfield 23, 3, 324), (80, .iload_n 1, 1, 0), (81, .iastore, 1, 0), (82, .iconst 0, 1, 0), (83, .istore_n 3, 1, 0), (84, .iload_n 3, 1, 0), (85, .iload_n 1, 1, 0), (86, .invokestatic 57, 3, 0), (89, .if_icmp .ge 35, 3, 0), (92, .aload_n 0, 1, 0), (93, .bipush 32, 2, 0), (95, .invokevirtual 33, 3, 0), (98, .ifCond .eq 18, 3, 0), (101, .aload_n 0, 1, 0), (102, .aload_n 0, 1, 0), (103, .getfield 23, 3, 324), (106, .iconst 3, 1, 0), (107, .imul, 1, 0), (108, .iload_n 3, 1, 0), (109, .iadd, 1, 0), (110, .invokevirtual 60, 3, 0), (113, .ifCond .ne 5, 3, 0), (116, .iconst 0, 1, 0), (117, .ireturn, 1, 0), (118, .iinc 3 1, 3, 0), (121, .goto (-37), 3, 0), (124, .iconst 1, 1, 0), (125, .ireturn, 1, 0)]
def m_X5_readClause : ct_M := (yX5_readClause, cX5_readClause, 4, (some .boolean), t_X5_readClause)
set_option maxRecDepth 100000 in
theorem ok_X5_readClause : ct_MOk m_X5_readClause := ct_MOk_of 413 81 flok_X5 (by decide +kernel) (by decide +kernel) (by decide +kernel) (by decide +kernel)
def t_X5_readNumber : List ct_I := [(0, .aload_n 0, 1, 0), (1, .invokevirtual 63, 3, 0), (4, .ifCond .ne 5, 3, 0), (7, .iconst 0, 1, 0), (8, .ireturn, 1, 0), (9, .aload_n 0, 1, 0), (10, .invokevirtual 66, 3, 0), (13, .istore_n 2, 1, 0), (14, .aload_n 0, 1, 0), (15, .invokevirtual 63, 3, 0), (18, .ifCond .eq 13, 3, 0), (21, .bipush 10, 2, 0), (23, .iload_n 2, 1, 0), (24, .imul, 1, 0), (25, .aload_n 0, 1, 0), (26, .invokevirtual 66, 3, 0), (29, .iadd, 1, 0), (30, .istore_n 2, 1, 0), (31, .aload_n 0, 1, 0), (32, .getfield 20, 3, 323), (35, .iload_n 1, 1, 0), (36, .iload_n 2, 1, 0), (37, .iastore, 1, 0), (38, .iconst 1, 1, 0), (39, .ireturn, 1, 0)]
def m_X5_readNumber : ct_M := (yX5_readNumber, cX5_readNumber, 3, (some .boolean), t_X5_readNumber)
set_option maxRecDepth 100000 in
theorem ok_X5_readNumber : ct_MOk m_X5_readNumber := ct_MOk_of 489 81 flok_X5 (by decide +kernel) (by decide +kernel) (by decide +kernel) (by decide +kernel)
def t_X5_take : List ct_I := [(0, .aload_n 0, 1, 0), (1, .getfield 26, 3, 325), (4, .aload_n 0, 1, 0), (5, .getfield 13, 3, 321), (8, .if_icmp .ge 16, 3, 0), (11, .aload_n 0, 1, 0), (12, .getfield 9, 3, 320), (15, .aload_n 0, 1, 0), (16, .getfield 26, 3, 325), (19, .iaload, 1, 0), (20, .iload_n 1, 1, 0), (21, .if_icmp .eq 5, 3, 0), (24, .iconst 0, 1, 0), (25, .ireturn, 1, 0), (26, .aload_n 0, 1, 0), (27, .dup, 1, 0), (28, .getfield 26, 3, 325), (31, .iconst 1, 1, 0), (32, .iadd, 1, 0), (33, .putfield 26, 3, 325), (36, .iconst 1, 1, 0), (37, .ireturn, 1, 0)]
def m_X5_take : ct_M := (yX5_take, cX5_take, 2, (some .boolean), t_X5_take)
set_option maxRecDepth 100000 in
theorem ok_X5_take : ct_MOk m_X5_take := ct_MOk_of 482 81 flok_X5 (by decide +kernel) (by decide +kernel) (by decide +kernel) (by decide +kernel)
def t_X5_isDigit : List ct_I := [(0, .aload_n 0, 1, 0), (1, .getfield 26, 3, 325), (4, .aload_n 0, 1, 0), (5, .getfield 13, 3, 321), (8, .if_icmp .ge 35, 3, 0), (11, .aload_n 0, 1, 0), (12, .getfield 9, 3, 320), (15, .aload_n 0, 1, 0), (16, .getfield 26, 3, 325), (19, .iaload, 1, 0), (20, .bipush 48, 2, 0), (22, .if_icmp .lt 21, 3, 0), (25, .aload_n 0, 1, 0), (26, .getfield 9, 3, 320), (29, .aload_n 0, 1, 0), (30, .getfield 26, 3, 325), (33, .iaload, 1, 0), (34, .bipush 57, 2, 0), (36, .if_icmp .gt 7, 3, 0), (39, .iconst 1, 1, 0), (40, .goto 4, 3, 0), (43, .iconst 0, 1, 0), (44, .ireturn, 1, 0)]
def m_X5_isDigit : ct_M := (yX5_isDigit, cX5_isDigit, 1, (some .boolean), t_X5_isDigit)
set_option maxRecDepth 100000 in
theorem ok_X5_isDigit : ct_MOk m_X5_isDigit := ct_MOk_of 493 81 flok_X5 (by decide +kernel) (by decide +kernel) (by decide +kernel) (by decide +kernel)
def t_X5_takeDigit : List ct_I := [(0, .aload_n 0, 1, 0), (1, .getfield 9, 3, 320), (4, .aload_n 0, 1, 0), (5, .getfield 26, 3, 325), (8, .iaload, 1, 0), (9, .bipush 48, 2, 0), (11, .isub, 1, 0), (12, .istore_n 1, 1, 0), (13, .aload_n 0, 1, 0), (14, .dup, 1, 0), (15, .getfield 26, 3, 325), (18, .iconst 1, 1, 0), (19, .iadd, 1, 0), (20, .putfield 26, 3, 325), (23, .iload_n 1, 1, 0), (24, .ireturn, 1, 0)]
def m_X5_takeDigit : ct_M := (yX5_takeDigit, cX5_takeDigit, 2, (some .int), t_X5_takeDigit)
set_option maxRecDepth 100000 in
theorem ok_X5_takeDigit : ct_MOk m_X5_takeDigit := ct_MOk_of 497 81 flok_X5 (by decide +kernel) (by decide +kernel) (by decide +kernel) (by decide +kernel)
def t_X5_wordFrom : List ct_I := [(0, .iload_n 0, 1, 0), (1, .tableswitch 87 102 116 #[79, 87, 81, 87, 87, 87, 87, 87, 87, 87, 77, 87, 83, 75, 85], 75, 0), (76, .iconst 0, 1, 0), (77, .ireturn, 1, 0), (78, .iconst 1, 1, 0), (79, .ireturn, 1, 0), (80, .iconst 2, 1, 0), (81, .ireturn, 1, 0), (82, .iconst 3, 1, 0), (83, .ireturn, 1, 0), (84, .iconst 4, 1, 0), (85, .ireturn, 1, 0), (86, .iconst 5, 1, 0), (87, .ireturn, 1, 0), (88, .iconst (-1), 1, 0), (89, .ireturn, 1, 0)]
def m_X5_wordFrom : ct_M := (yX5_wordFrom, cX5_wordFrom, 1, (some .int), t_X5_wordFrom)
set_option maxRecDepth 100000 in
theorem ok_X5_wordFrom : ct_MOk m_X5_wordFrom := ct_MOk_of 416 81 flok_X5 (by decide +kernel) (by decide +kernel) (by decide +kernel) (by decide +kernel)
def t_X5_lettersOf : List ct_I := [(0, .iload_n 0, 1, 0), (1, .tableswitch 57 0 5 #[39, 42, 45, 48, 51, 54], 39, 0), (40, .ldc 69, 2, 0), (42, .areturn, 1, 0), (43, .ldc 71, 2, 0), (45, .areturn, 1, 0), (46, .ldc 73, 2, 0), (48, .areturn, 1, 0), (49, .ldc 75, 2, 0), (51, .areturn, 1, 0), (52, .ldc 77, 2, 0), (54, .areturn, 1, 0), (55, .ldc 79, 2, 0), (57, .areturn, 1, 0), (58, .ldc 81, 2, 0), (60, .areturn, 1, 0)]
def m_X5_lettersOf : ct_M := (yX5_lettersOf, cX5_lettersOf, 1, (some (.object "java/lang/String")), t_X5_lettersOf)
set_option maxRecDepth 100000 in
theorem ok_X5_lettersOf : ct_MOk m_X5_lettersOf := ct_MOk_of 419 81 flok_X5 (by decide +kernel) (by decide +kernel) (by decide +kernel) (by decide +kernel)
def t_X5_numbersOf : List ct_I := [(0, .iload_n 0, 1, 0), (1, .tableswitch 41 0 4 #[35, 35, 37, 37, 39], 35, 0), (36, .iconst 2, 1, 0), (37, .ireturn, 1, 0), (38, .iconst 3, 1, 0), (39, .ireturn, 1, 0), (40, .iconst 1, 1, 0), (41, .ireturn, 1, 0), (42, .iconst 0, 1, 0), (43, .ireturn, 1, 0)]
def m_X5_numbersOf : ct_M := (yX5_numbersOf, cX5_numbersOf, 1, (some .int), t_X5_numbersOf)
set_option maxRecDepth 100000 in
theorem ok_X5_numbersOf : ct_MOk m_X5_numbersOf := ct_MOk_of 485 81 flok_X5 (by decide +kernel) (by decide +kernel) (by decide +kernel) (by decide +kernel)
def t_J13_bitCount_95d88 : List ct_I := [(0, .lload_n 0, 1, 0), (1, .lload_n 0, 1, 0), (2, .iconst 1, 1, 0), (3, .lushr, 1, 0), (4, .ldc2_w 314, 3, 0), (7, .land, 1, 0), (8, .lsub, 1, 0), (9, .lstore_n 0, 1, 0), (10, .lload_n 0, 1, 0), (11, .ldc2_w 316, 3, 0), (14, .land, 1, 0), (15, .lload_n 0, 1, 0), (16, .iconst 2, 1, 0), (17, .lushr, 1, 0), (18, .ldc2_w 316, 3, 0), (21, .land, 1, 0), (22, .ladd, 1, 0), (23, .lstore_n 0, 1, 0), (24, .lload_n 0, 1, 0), (25, .lload_n 0, 1, 0), (26, .iconst 4, 1, 0), (27, .lushr, 1, 0), (28, .ladd, 1, 0), (29, .ldc2_w 318, 3, 0), (32, .land, 1, 0), (33, .lstore_n 0, 1, 0), (34, .lload_n 0, 1, 0), (35, .lload_n 0, 1, 0), (36, .bipush 8, 2, 0), (38, .lushr, 1, 0), (39, .ladd, 1, 0), (40, .lstore_n 0, 1, 0), (41, .lload_n 0, 1, 0), (42, .lload_n 0, 1, 0), (43, .bipush 16, 2, 0), (45, .lushr, 1, 0), (46, .ladd, 1, 0), (47, .lstore_n 0, 1, 0), (48, .lload_n 0, 1, 0), (49, .lload_n 0, 1, 0), (50, .bipush 32, 2, 0), (52, .lushr, 1, 0), (53, .ladd, 1, 0), (54, .lstore_n 0, 1, 0), (55, .lload_n 0, 1, 0), (56, .l2i, 1, 0), (57, .bipush 127, 2, 0), (59, .iand, 1, 0), (60, .ireturn, 1, 0)]
def m_J13_bitCount_95d88 : ct_M := (yJ13_bitCount_95d88, cJ13_bitCount_95d88, 2, (some .int), t_J13_bitCount_95d88)
set_option maxRecDepth 100000 in
theorem ok_J13_bitCount_95d88 : ct_MOk m_J13_bitCount_95d88 := ct_MOk_of 645 89 flok_J13 (by decide +kernel) (by decide +kernel) (by decide +kernel) (by decide +kernel)
def t_J7_fill_d0a16 : List ct_I := [(0, .iconst 0, 1, 0), (1, .istore_n 3, 1, 0), (2, .aload_n 0, 1, 0), (3, .arraylength, 1, 0), (4, .istore 4, 2, 0), (6, .iload_n 3, 1, 0), (7, .iload 4, 2, 0), (9, .if_icmp .ge 13, 3, 0), (12, .aload_n 0, 1, 0), (13, .iload_n 3, 1, 0), (14, .lload_n 1, 1, 0), (15, .lastore, 1, 0), (16, .iinc 3 1, 3, 0), (19, .goto (-13), 3, 0), (22, .return_, 1, 0)]
def m_J7_fill_d0a16 : ct_M := (yJ7_fill_d0a16, cJ7_fill_d0a16, 5, none, t_J7_fill_d0a16)
set_option maxRecDepth 100000 in
theorem ok_J7_fill_d0a16 : ct_MOk m_J7_fill_d0a16 := ct_MOk_of 961 77 flok_J7 (by decide +kernel) (by decide +kernel) (by decide +kernel) (by decide +kernel)
def t_J7_fill_53178 : List ct_I := [(0, .iconst 0, 1, 0), (1, .istore_n 2, 1, 0), (2, .aload_n 0, 1, 0), (3, .arraylength, 1, 0), (4, .istore_n 3, 1, 0), (5, .iload_n 2, 1, 0), (6, .iload_n 3, 1, 0), (7, .if_icmp .ge 13, 3, 0), (10, .aload_n 0, 1, 0), (11, .iload_n 2, 1, 0), (12, .iload_n 1, 1, 0), (13, .iastore, 1, 0), (14, .iinc 2 1, 3, 0), (17, .goto (-12), 3, 0), (20, .return_, 1, 0)]
def m_J7_fill_53178 : ct_M := (yJ7_fill_53178, cJ7_fill_53178, 4, none, t_J7_fill_53178)
set_option maxRecDepth 100000 in
theorem ok_J7_fill_53178 : ct_MOk m_J7_fill_53178 := ct_MOk_of 111 77 flok_J7 (by decide +kernel) (by decide +kernel) (by decide +kernel) (by decide +kernel)
end
section
def t_X6_size : List ct_I := [(0, .iload_n 1, 1, 0), (1, .invokestatic 91, 3, 0), (4, .ifCond .eq 10, 3, 0), (7, .iload_n 2, 1, 0), (8, .invokestatic 91, 3, 0), (11, .ifCond .ne 6, 3, 0), (14, .bipush (-2), 2, 0), (16, .ireturn, 1, 0), (17, .bipush 10, 2, 0), (19, .aload_n 0, 1, 0), (20, .getfield 12, 3, 384), (23, .getfield 95, 3, 1), (26, .imul, 1, 0), (27, .aload_n 0, 1, 0), (28, .getfield 12, 3, 384), (31, .getfield 99, 3, 2), (34, .iadd, 1, 0), (35, .istore_n 3, 1, 0), (36, .aload_n 0, 1, 0), (37, .getfield 12, 3, 384), (40, .iload_n 1, 1, 0), (41, .iload_n 2, 1, 0), (42, .invokevirtual 102, 3, 0), (45, .iload_n 3, 1, 0), (46, .ireturn, 1, 0)]
def m_X6_size : ct_M := (yX6_size, cX6_size, 4, (some .int), t_X6_size)
set_option maxRecDepth 100000 in
theorem ok_X6_size : ct_MOk m_X6_size := ct_MOk_of 358 75 flok_X6 (by decide +kernel) (by decide +kernel) (by decide +kernel) (by decide +kernel)
def t_X6_height : List ct_I := [(0, .aload_n 0, 1, 0), (1, .getfield 12, 3, 384), (4, .iload_n 1, 1, 0), (5, .invokevirtual 106, 3, 0), (8, .ifCond .ne 5, 3, 0), (11, .iconst (-1), 1, 0), (12, .ireturn, 1, 0), (13, .iload_n 2, 1, 0), (14, .invokestatic 109, 3, 0), (17, .ifCond .ne 6, 3, 0), (20, .bipush (-2), 2, 0), (22, .ireturn, 1, 0), (23, .aload_n 0, 1, 0), (24, .getfield 12, 3, 384), (27, .iload_n 1, 1, 0), (28, .invokevirtual 112, 3, 0), (31, .istore_n 3, 1, 0), (32, .aload_n 0, 1, 0), (33, .getfield 12, 3, 384), (36, .iload_n 1, 1, 0), (37, .iload_n 2, 1, 0), (38, .invokevirtual 116, 3, 0), (41, .iload_n 3, 1, 0), (42, .ireturn, 1, 0)]
def m_X6_height : ct_M := (yX6_height, cX6_height, 4, (some .int), t_X6_height)
set_option maxRecDepth 100000 in
theorem ok_X6_height : ct_MOk m_X6_height := ct_MOk_of 366 75 flok_X6 (by decide +kernel) (by decide +kernel) (by decide +kernel) (by decide +kernel)
def t_X6_rule : List ct_I := [(0, .iload_n 1, 1, 0), (1, .invokestatic 119, 3, 0), (4, .ifCond .ne 5, 3, 0), (7, .iconst (-1), 1, 0), (8, .ireturn, 1, 0), (9, .aload_n 0, 1, 0), (10, .getfield 12, 3, 384), (13, .getfield 122, 3, 5), (16, .istore_n 2, 1, 0), (17, .aload_n 0, 1, 0), (18, .getfield 12, 3, 384), (21, .iload_n 1, 1, 0), (22, .invokevirtual 125, 3, 0), (25, .iload_n 2, 1, 0), (26, .ireturn, 1, 0)]
def m_X6_rule : ct_M := (yX6_rule, cX6_rule, 3, (some .int), t_X6_rule)
set_option maxRecDepth 100000 in
theorem ok_X6_rule : ct_MOk m_X6_rule := ct_MOk_of 382 75 flok_X6 (by decide +kernel) (by decide +kernel) (by decide +kernel) (by decide +kernel)
def t_X6_feed : List ct_I := [(0, .iload_n 1, 1, 0), (1, .ifCond .lt 9, 3, 0), (4, .iload_n 1, 1, 0), (5, .bipush 127, 2, 0), (7, .if_icmp .le 6, 3, 0), (10, .bipush (-2), 2, 0), (12, .ireturn, 1, 0), (13, .aload_n 0, 1, 0), (14, .getfield 64, 3, 394), (17, .invokevirtual 128, 3, 0), (20, .ifCond .eq 6, 3, 0), (23, .bipush (-4), 2, 0), (25, .ireturn, 1, 0), (26, .aload_n 0, 1, 0), (27, .getfield 64, 3, 394), (30, .iload_n 1, 1, 0), (31, .invokevirtual 132, 3, 0), (34, .aload_n 0, 1, 0), (35, .getfield 64, 3, 394), (38, .getfield 135, 3, 321), (41, .ireturn, 1, 0)]
def m_X6_feed : ct_M := (yX6_feed, cX6_feed, 2, (some .int), t_X6_feed)
set_option maxRecDepth 100000 in
theorem ok_X6_feed : ct_MOk m_X6_feed := ct_MOk_of 393 75 flok_X6 (by decide +kernel) (by decide +kernel) (by decide +kernel) (by decide +kernel)
def t_X6_read : List ct_I := [(0, .aload_n 0, 1, 0), (1, .getfield 64, 3, 394), (4, .invokevirtual 138, 3, 0), (7, .istore_n 1, 1, 0), (8, .aload_n 0, 1, 0), (9, .getfield 64, 3, 394), (12, .iconst 0, 1, 0), (13, .putfield 135, 3, 321), (16, .iload_n 1, 1, 0), (17, .iconst (-1), 1, 0), (18, .if_icmp .eq 8, 3, 0), (21, .bipush (-10), 2, 0), (23, .iload_n 1, 1, 0), (24, .isub, 1, 0), (25, .ireturn, 1, 0), (26, .iconst 0, 1, 0), (27, .istore_n 2, 1, 0), (28, .iconst 0, 1, 0), (29, .istore_n 3, 1, 0), (30, .iload_n 3, 1, 0), (31, .aload_n 0, 1, 0), (32, .getfield 64, 3, 394), (35, .getfield 142, 3, 324), (38, .if_icmp .ge 20, 3, 0), (41, .aload_n 0, 1, 0), (42, .iload_n 3, 1, 0), (43, .invokevirtual 145, 3, 0), (46, .ifCond .eq 6, 3, 0), (49, .iinc 2 1, 3, 0), (52, .iinc 3 1, 3, 0), (55, .goto (-25), 3, 0), (58, .iload_n 2, 1, 0), (59, .ireturn, 1, 0)]
def m_X6_read : ct_M := (yX6_read, cX6_read, 4, (some .int), t_X6_read)
set_option maxRecDepth 100000 in
theorem ok_X6_read : ct_MOk m_X6_read := ct_MOk_of 405 75 flok_X6 (by decide +kernel) (by decide +kernel) (by decide +kernel) (by decide +kernel)
def t_X6_perform : List ct_I := [(0, .aload_n 0, 1, 0), (1, .getfield 64, 3, 394), (4, .iload_n 1, 1, 0), (5, .iconst 0, 1, 0), (6, .invokevirtual 148, 3, 0), (9, .istore_n 2, 1, 0), (10, .aload_n 0, 1, 0), (11, .getfield 64, 3, 394), (14, .iload_n 1, 1, 0), (15, .iconst 1, 1, 0), (16, .invokevirtual 148, 3, 0), (19, .istore_n 3, 1, 0), (20, .aload_n 0, 1, 0), (21, .getfield 64, 3, 394), (24, .iload_n 1, 1, 0), (25, .iconst 2, 1, 0), (26, .invokevirtual 148, 3, 0), (29, .istore 4, 2, 0), (31, .aload_n 0, 1, 0), (32, .getfield 64, 3, 394), (35, .iload_n 1, 1, 0), (36, .invokevirtual 152, 3, 0), (39, .tableswitch 101 0 4 #[33, 48, 63, 75, 87], 33, 0), (72, .aload_n 0, 1, 0), (73, .iload_n 2, 1, 0), (74, .iload_n 3, 1, 0), (75, .invokevirtual 155, 3, 0), (78, .ifCond .lt 7, 3, 0), (81, .iconst 1, 1, 0), (82, .goto 4, 3, 0), (85, .iconst 0, 1, 0), (86, .ireturn, 1, 0), (87, .aload_n 0, 1, 0), (88, .iload_n 2, 1, 0), (89, .iload_n 3, 1, 0), (90, .invokevirtual 158, 3, 0), (93, .ifCond .lt 7, 3, 0), (96, .iconst 1, 1, 0), (97, .goto 4, 3, 0), (100, .iconst 0, 1, 0), (101, .ireturn, 1, 0), (102, .aload_n 0, 1, 0), (103, .getfield 12, 3, 384), (106, .iload_n 2, 1, 0), (107, .iload_n 3, 1, 0), (108, .iload 4, 2, 0), (110, .invokevirtual 161, 3, 0), (113, .ireturn, 1, 0), (114, .aload_n 0, 1, 0), (115, .getfield 12, 3, 384), (118, .iload_n 2, 1, 0), (119, .iload_n 3, 1, 0), (120, .iload 4, 2, 0), (122, .invokevirtual 165, 3, 0), (125, .ireturn, 1, 0), (126, .aload_n 0, 1, 0), (127, .iload_n 2, 1, 0), (128, .invokevirtual 168, 3, 0), (131, .ifCond .lt 7, 3, 0), (134, .iconst 1, 1, 0), (135, .goto 4, 3, 0), (138, .iconst 0, 1, 0), (139, .ireturn, 1, 0), (140, .aload_n 0, 1, 0), (141, .getfield 12, 3, 384), (144, .invokevirtual 171, 3, 0), (147, .iconst 1, 1, 0), (148, .ireturn, 1, 0)]
def m_X6_perform : ct_M := (yX6_perform, cX6_perform, 5, (some .boolean), t_X6_perform)
set_option maxRecDepth 100000 in
theorem ok_X6_perform : ct_MOk m_X6_perform := ct_MOk_of 501 75 flok_X6 (by decide +kernel) (by decide +kernel) (by decide +kernel) (by decide +kernel)
def t_X6_of : List ct_I := [(0, .aload_n 0, 1, 0), (1, .getfield 12, 3, 384), (4, .iload_n 1, 1, 0), (5, .invokevirtual 106, 3, 0), (8, .ifCond .eq 14, 3, 0), (11, .aload_n 0, 1, 0), (12, .getfield 12, 3, 384), (15, .iload_n 1, 1, 0), (16, .invokevirtual 112, 3, 0), (19, .goto 4, 3, 0), (22, .iconst (-1), 1, 0), (23, .ireturn, 1, 0)]
def m_X6_of : ct_M := (yX6_of, cX6_of, 2, (some .int), t_X6_of)
set_option maxRecDepth 100000 in
theorem ok_X6_of : ct_MOk m_X6_of := ct_MOk_of 537 75 flok_X6 (by decide +kernel) (by decide +kernel) (by decide +kernel) (by decide +kernel)
def t_X6_told : List ct_I := [(0, .iload_n 1, 1, 0), (1, .tableswitch 137 0 7 #[47, 55, 63, 71, 79, 94, 99, 114], 47, 0), (48, .aload_n 0, 1, 0), (49, .getfield 12, 3, 384), (52, .getfield 95, 3, 1), (55, .ireturn, 1, 0), (56, .aload_n 0, 1, 0), (57, .getfield 12, 3, 384), (60, .getfield 99, 3, 2), (63, .ireturn, 1, 0), (64, .aload_n 0, 1, 0), (65, .getfield 12, 3, 384), (68, .getfield 122, 3, 5), (71, .ireturn, 1, 0), (72, .aload_n 0, 1, 0), (73, .getfield 12, 3, 384), (76, .invokevirtual 174, 3, 0), (79, .ireturn, 1, 0), (80, .aload_n 0, 1, 0), (81, .getfield 12, 3, 384), (84, .aload_n 0, 1, 0), (85, .getfield 12, 3, 384), (88, .invokevirtual 174, 3, 0), (91, .invokevirtual 177, 3, 0), (94, .ireturn, 1, 0), (95, .aload_n 0, 1, 0), (96, .invokevirtual 180, 3, 0), (99, .ireturn, 1, 0), (100, .aload_n 0, 1, 0), (101, .getfield 23, 3, 385), (104, .invokevirtual 183, 3, 0), (107, .aload_n 0, 1, 0), (108, .getfield 23, 3, 385), (111, .invokevirtual 186, 3, 0), (114, .ireturn, 1, 0), (115, .aload_n 0, 1, 0), (116, .getfield 23, 3, 385), (119, .invokevirtual 183, 3, 0), (122, .aload_n 0, 1, 0), (123, .getfield 23, 3, 385), (126, .getfield 189, 3, 132), (129, .aload_n 0, 1, 0), (130, .getfield 23, 3, 385), (133, .invokevirtual 186, 3, 0), (136, .iaload, 1, 0), (137, .ireturn, 1, 0), (138, .iconst (-1), 1, 0), (139, .ireturn, 1, 0)]
def m_X6_told : ct_M := (yX6_told, cX6_told, 2, (some .int), t_X6_told)
set_option maxRecDepth 100000 in
theorem ok_X6_told : ct_MOk m_X6_told := ct_MOk_of 541 75 flok_X6 (by decide +kernel) (by decide +kernel) (by decide +kernel) (by decide +kernel)
def t_X6_halfLevel : List ct_I := [(0, .aload_n 0, 1, 0), (1, .getfield 12, 3, 384), (4, .iconst 0, 1, 0), (5, .invokevirtual 193, 3, 0), (8, .istore_n 1, 1, 0), (9, .iconst 0, 1, 0), (10, .istore_n 2, 1, 0), (11, .bipush 64, 2, 0), (13, .istore_n 3, 1, 0), (14, .iload_n 3, 1, 0), (15, .ifCond .le 39, 3, 0), (18, .iload_n 2, 1, 0), (19, .iload_n 3, 1, 0), (20, .iadd, 1, 0), (21, .invokestatic 196, 3, 0), (24, .ifCond .eq 23, 3, 0), (27, .iconst 2, 1, 0), (28, .aload_n 0, 1, 0), (29, .getfield 12, 3, 384), (32, .iload_n 2, 1, 0), (33, .iload_n 3, 1, 0), (34, .iadd, 1, 0), (35, .invokevirtual 193, 3, 0), (38, .imul, 1, 0), (39, .iload_n 1, 1, 0), (40, .if_icmp .lt 7, 3, 0), (43, .iload_n 2, 1, 0), (44, .iload_n 3, 1, 0), (45, .iadd, 1, 0), (46, .istore_n 2, 1, 0), (47, .iload_n 3, 1, 0), (48, .iconst 2, 1, 0), (49, .idiv, 1, 0), (50, .istore_n 3, 1, 0), (51, .goto (-37), 3, 0), (54, .iload_n 2, 1, 0), (55, .ireturn, 1, 0)]
def m_X6_halfLevel : ct_M := (yX6_halfLevel, cX6_halfLevel, 4, (some .int), t_X6_halfLevel)
set_option maxRecDepth 100000 in
theorem ok_X6_halfLevel : ct_MOk m_X6_halfLevel := ct_MOk_of 553 75 flok_X6 (by decide +kernel) (by decide +kernel) (by decide +kernel) (by decide +kernel)
def t_X6_at : List ct_I := [(0, .iload_n 1, 1, 0), (1, .invokestatic 196, 3, 0), (4, .ifCond .ne 6, 3, 0), (7, .bipush (-2), 2, 0), (9, .ireturn, 1, 0), (10, .iload_n 2, 1, 0), (11, .tableswitch 147 0 7 #[45, 61, 77, 93, 102, 112, 122, 131], 45, 0), (56, .aload_n 0, 1, 0), (57, .getfield 23, 3, 385), (60, .iload_n 1, 1, 0), (61, .invokevirtual 199, 3, 0), (64, .aload_n 0, 1, 0), (65, .getfield 23, 3, 385), (68, .getfield 202, 3, 133), (71, .ireturn, 1, 0), (72, .aload_n 0, 1, 0), (73, .getfield 23, 3, 385), (76, .iload_n 1, 1, 0), (77, .invokevirtual 199, 3, 0), (80, .aload_n 0, 1, 0), (81, .getfield 23, 3, 385), (84, .invokevirtual 205, 3, 0), (87, .ireturn, 1, 0), (88, .aload_n 0, 1, 0), (89, .getfield 30, 3, 386), (92, .iload_n 1, 1, 0), (93, .invokevirtual 208, 3, 0), (96, .aload_n 0, 1, 0), (97, .getfield 30, 3, 386), (100, .getfield 211, 3, 71), (103, .ireturn, 1, 0), (104, .aload_n 0, 1, 0), (105, .getfield 12, 3, 384), (108, .iload_n 1, 1, 0), (109, .invokevirtual 212, 3, 0), (112, .ireturn, 1, 0), (113, .aload_n 0, 1, 0), (114, .getfield 12, 3, 384), (117, .iload_n 1, 1, 0), (118, .iconst 0, 1, 0), (119, .invokevirtual 215, 3, 0), (122, .ireturn, 1, 0), (123, .aload_n 0, 1, 0), (124, .getfield 12, 3, 384), (127, .iload_n 1, 1, 0), (128, .iconst 1, 1, 0), (129, .invokevirtual 215, 3, 0), (132, .ireturn, 1, 0), (133, .aload_n 0, 1, 0), (134, .getfield 12, 3, 384), (137, .iload_n 1, 1, 0), (138, .invokevirtual 193, 3, 0), (141, .ireturn, 1, 0), (142, .aload_n 0, 1, 0), (143, .getfield 23, 3, 385), (146, .iload_n 1, 1, 0), (147, .invokevirtual 199, 3, 0), (150, .aload_n 0, 1, 0), (151, .getfield 23, 3, 385), (154, .invokevirtual 219, 3, 0), (157, .ireturn, 1, 0), (158, .iconst (-1), 1, 0), (159, .ireturn, 1, 0)]
def m_X6_at : ct_M := (yX6_at, cX6_at, 3, (some .int), t_X6_at)
set_option maxRecDepth 100000 in
theorem ok_X6_at : ct_MOk m_X6_at := ct_MOk_of 616 75 flok_X6 (by decide +kernel) (by decide +kernel) (by decide +kernel) (by decide +kernel)
def t_X6_square : List ct_I := [(0, .iload_n 1, 1, 0), (1, .invokestatic 196, 3, 0), (4, .ifCond .ne 6, 3, 0), (7, .bipush (-2), 2, 0), (9, .ireturn, 1, 0), (10, .aload_n 0, 1, 0), (11, .getfield 12, 3, 384), (14, .iload_n 2, 1, 0), (15, .invokevirtual 222, 3, 0), (18, .ifCond .eq 12, 3, 0), (21, .iload_n 3, 1, 0), (22, .ifCond .lt 8, 3, 0), (25, .iload_n 3, 1, 0), (26, .iconst 1, 1, 0), (27, .if_icmp .le 5, 3, 0), (30, .iconst (-1), 1, 0), (31, .ireturn, 1, 0), (32, .aload_n 0, 1, 0), (33, .getfield 12, 3, 384), (36, .iload_n 2, 1, 0), (37, .invokevirtual 225, 3, 0), (40, .istore 4, 2, 0), (42, .iload_n 3, 1, 0), (43, .ifCond .ne 14, 3, 0), (46, .aload_n 0, 1, 0), (47, .getfield 12, 3, 384), (50, .iload 4, 2, 0), (52, .iload_n 1, 1, 0), (53, .invokevirtual 228, 3, 0), (56, .ireturn, 1, 0), (57, .aload_n 0, 1, 0), (58, .getfield 12, 3, 384), (61, .iload 4, 2, 0), (63, .iload_n 1, 1, 0), (64, .invokevirtual 231, 3, 0), (67, .ifCond .eq 7, 3, 0), (70, .iconst 1, 1, 0), (71, .goto 4, 3, 0), (74, .iconst 0, 1, 0), (75, .ireturn, 1, 0)]
def m_X6_square : ct_M := (yX6_square, cX6_square, 5, (some .int), t_X6_square)
set_option maxRecDepth 100000 in
theorem ok_X6_square : ct_MOk m_X6_square := ct_MOk_of 704 75 flok_X6 (by decide +kernel) (by decide +kernel) (by decide +kernel) (by decide +kernel)
def t_X6_edge : List ct_I := [(0, .iload_n 1, 1, 0), (1, .invokestatic 196, 3, 0), (4, .ifCond .ne 6, 3, 0), (7, .bipush (-2), 2, 0), (9, .ireturn, 1, 0), (10, .aload_n 0, 1, 0), (11, .getfield 12, 3, 384), (14, .iload_n 2, 1, 0), (15, .invokevirtual 235, 3, 0), (18, .ifCond .ne 5, 3, 0), (21, .iconst (-1), 1, 0), (22, .ireturn, 1, 0), (23, .aload_n 0, 1, 0), (24, .getfield 23, 3, 385), (27, .iload_n 1, 1, 0), (28, .invokevirtual 199, 3, 0), (31, .aload_n 0, 1, 0), (32, .getfield 23, 3, 385), (35, .getfield 238, 3, 129), (38, .iload_n 2, 1, 0), (39, .iaload, 1, 0), (40, .ireturn, 1, 0)]
def m_X6_edge : ct_M := (yX6_edge, cX6_edge, 3, (some .int), t_X6_edge)
set_option maxRecDepth 100000 in
theorem ok_X6_edge : ct_MOk m_X6_edge := ct_MOk_of 715 75 flok_X6 (by decide +kernel) (by decide +kernel) (by decide +kernel) (by decide +kernel)
def t_X6_line : List ct_I := [(0, .iload_n 1, 1, 0), (1, .invokestatic 196, 3, 0), (4, .ifCond .ne 6, 3, 0), (7, .bipush (-2), 2, 0), (9, .ireturn, 1, 0), (10, .aload_n 0, 1, 0), (11, .getfield 23, 3, 385), (14, .iload_n 1, 1, 0), (15, .invokevirtual 199, 3, 0), (18, .aload_n 0, 1, 0), (19, .getfield 23, 3, 385), (22, .iload_n 2, 1, 0), (23, .invokevirtual 241, 3, 0), (26, .ifCond .ne 5, 3, 0), (29, .iconst (-1), 1, 0), (30, .ireturn, 1, 0), (31, .iload_n 3, 1, 0), (32, .tableswitch 115 0 6 #[44, 53, 62, 71, 80, 97, 106], 44, 0), (76, .aload_n 0, 1, 0), (77, .getfield 23, 3, 385), (80, .iload_n 2, 1, 0), (81, .invokevirtual 244, 3, 0), (84, .ireturn, 1, 0), (85, .aload_n 0, 1, 0), (86, .getfield 23, 3, 385), (89, .iload_n 2, 1, 0), (90, .invokevirtual 247, 3, 0), (93, .ireturn, 1, 0), (94, .aload_n 0, 1, 0), (95, .getfield 23, 3, 385), (98, .iload_n 2, 1, 0), (99, .invokevirtual 250, 3, 0), (102, .ireturn, 1, 0), (103, .aload_n 0, 1, 0), (104, .getfield 23, 3, 385), (107, .iload_n 2, 1, 0), (108, .invokevirtual 253, 3, 0), (111, .ireturn, 1, 0), (112, .aload_n 0, 1, 0), (113, .getfield 23, 3, 385), (116, .iload_n 2, 1, 0), (117, .invokevirtual 256, 3, 0), (120, .ifCond .eq 7, 3, 0), (123, .iconst 1, 1, 0), (124, .goto 4, 3, 0), (127, .iconst 0, 1, 0), (128, .ireturn, 1, 0), (129, .aload_n 0, 1, 0), (130, .getfield 23, 3, 385), (133, .iload_n 2, 1, 0), (134, .invokevirtual 259, 3, 0), (137, .ireturn, 1, 0), (138, .aload_n 0, 1, 0), (139, .getfield 23, 3, 385), (142, .iload_n 2, 1, 0), (143, .invokevirtual 262, 3, 0), (146, .ireturn, 1, 0), (147, .iconst (-1), 1, 0), (148, .ireturn, 1, 0)]
def m_X6_line : ct_M := (yX6_line, cX6_line, 4, (some .int), t_X6_line)
set_option maxRecDepth 100000 in
theorem ok_X6_line : ct_MOk m_X6_line := ct_MOk_of 723 75 flok_X6 (by decide +kernel) (by decide +kernel) (by decide +kernel) (by decide +kernel)
def t_X6_goes : List ct_I := [(0, .iload_n 1, 1, 0), (1, .invokestatic 196, 3, 0), (4, .ifCond .ne 6, 3, 0), (7, .bipush (-2), 2, 0), (9, .ireturn, 1, 0), (10, .aload_n 0, 1, 0), (11, .getfield 23, 3, 385), (14, .iload_n 1, 1, 0), (15, .invokevirtual 199, 3, 0), (18, .aload_n 0, 1, 0), (19, .getfield 23, 3, 385), (22, .iload_n 2, 1, 0), (23, .invokevirtual 241, 3, 0), (26, .ifCond .eq 7, 3, 0), (29, .iload_n 3, 1, 0), (30, .ifCond .ge 5, 3, 0), (33, .iconst (-1), 1, 0), (34, .ireturn, 1, 0), (35, .iload_n 3, 1, 0), (36, .aload_n 0, 1, 0), (37, .getfield 23, 3, 385), (40, .iload_n 2, 1, 0), (41, .invokevirtual 247, 3, 0), (44, .if_icmp .ge 15, 3, 0), (47, .aload_n 0, 1, 0), (48, .getfield 23, 3, 385), (51, .iload_n 2, 1, 0), (52, .iload_n 3, 1, 0), (53, .invokevirtual 265, 3, 0), (56, .goto 5, 3, 0), (59, .bipush (-5), 2, 0), (61, .ireturn, 1, 0)]
def m_X6_goes : ct_M := (yX6_goes, cX6_goes, 4, (some .int), t_X6_goes)
set_option maxRecDepth 100000 in
theorem ok_X6_goes : ct_MOk m_X6_goes := ct_MOk_of 770 75 flok_X6 (by decide +kernel) (by decide +kernel) (by decide +kernel) (by decide +kernel)
def t_X6_holds : List ct_I := [(0, .iload_n 1, 1, 0), (1, .invokestatic 196, 3, 0), (4, .ifCond .ne 6, 3, 0), (7, .bipush (-2), 2, 0), (9, .ireturn, 1, 0), (10, .aload_n 0, 1, 0), (11, .getfield 23, 3, 385), (14, .iload_n 1, 1, 0), (15, .invokevirtual 199, 3, 0), (18, .aload_n 0, 1, 0), (19, .getfield 23, 3, 385), (22, .iload_n 2, 1, 0), (23, .invokevirtual 241, 3, 0), (26, .ifCond .eq 14, 3, 0), (29, .aload_n 0, 1, 0), (30, .getfield 12, 3, 384), (33, .iload_n 3, 1, 0), (34, .invokevirtual 106, 3, 0), (37, .ifCond .ne 5, 3, 0), (40, .iconst (-1), 1, 0), (41, .ireturn, 1, 0), (42, .aload_n 0, 1, 0), (43, .getfield 23, 3, 385), (46, .iload_n 2, 1, 0), (47, .aload_n 0, 1, 0), (48, .getfield 12, 3, 384), (51, .iload_n 3, 1, 0), (52, .invokevirtual 268, 3, 0), (55, .invokevirtual 271, 3, 0), (58, .ifCond .eq 7, 3, 0), (61, .iconst 1, 1, 0), (62, .goto 4, 3, 0), (65, .iconst 0, 1, 0), (66, .ireturn, 1, 0)]
def m_X6_holds : ct_M := (yX6_holds, cX6_holds, 4, (some .int), t_X6_holds)
set_option maxRecDepth 100000 in
theorem ok_X6_holds : ct_MOk m_X6_holds := ct_MOk_of 775 75 flok_X6 (by decide +kernel) (by decide +kernel) (by decide +kernel) (by decide +kernel)
def t_X6_ways : List ct_I := [(0, .iload_n 1, 1, 0), (1, .invokestatic 196, 3, 0), (4, .ifCond .ne 6, 3, 0), (7, .bipush (-2), 2, 0), (9, .ireturn, 1, 0), (10, .aload_n 0, 1, 0), (11, .getfield 23, 3, 385), (14, .iload_n 1, 1, 0), (15, .invokevirtual 199, 3, 0), (18, .aload_n 0, 1, 0), (19, .getfield 23, 3, 385), (22, .iload_n 2, 1, 0), (23, .invokevirtual 241, 3, 0), (26, .ifCond .eq 7, 3, 0), (29, .iload_n 3, 1, 0), (30, .ifCond .ge 5, 3, 0), (33, .iconst (-1), 1, 0), (34, .ireturn, 1, 0), (35, .iload_n 3, 1, 0), (36, .aload_n 0, 1, 0), (37, .getfield 23, 3, 385), (40, .iload_n 2, 1, 0), (41, .invokevirtual 247, 3, 0), (44, .if_icmp .ge 22, 3, 0), (47, .aload_n 0, 1, 0), (48, .getfield 23, 3, 385), (51, .aload_n 0, 1, 0), (52, .getfield 23, 3, 385), (55, .iload_n 2, 1, 0), (56, .iload_n 3, 1, 0), (57, .invokevirtual 265, 3, 0), (60, .invokevirtual 274, 3, 0), (63, .goto 5, 3, 0), (66, .bipush (-5), 2, 0), (68, .ireturn, 1, 0)]
def m_X6_ways : ct_M := (yX6_ways, cX6_ways, 4, (some .int), t_X6_ways)
set_option maxRecDepth 100000 in
theorem ok_X6_ways : ct_MOk m_X6_ways := ct_MOk_of 781 75 flok_X6 (by decide +kernel) (by decide +kernel) (by decide +kernel) (by decide +kernel)
def t_X6_picture : List ct_I := [(0, .iload_n 1, 1, 0), (1, .invokestatic 196, 3, 0), (4, .ifCond .ne 6, 3, 0), (7, .bipush (-2), 2, 0), (9, .ireturn, 1, 0), (10, .iload_n 2, 1, 0), (11, .ifCond .ge 5, 3, 0), (14, .iconst (-1), 1, 0), (15, .ireturn, 1, 0), (16, .aload_n 0, 1, 0), (17, .getfield 12, 3, 384), (20, .getfield 99, 3, 2), (23, .iconst 1, 1, 0), (24, .iadd, 1, 0), (25, .istore_n 3, 1, 0), (26, .iload_n 2, 1, 0), (27, .iload_n 3, 1, 0), (28, .idiv, 1, 0), (29, .istore 4, 2, 0), (31, .iload_n 2, 1, 0), (32, .iload_n 3, 1, 0), (33, .irem, 1, 0), (34, .istore 5, 2, 0), (36, .iload 4, 2, 0), (38, .aload_n 0, 1, 0), (39, .getfield 12, 3, 384), (42, .getfield 95, 3, 1), (45, .if_icmp .ge 29, 3, 0), (48, .iload 4, 2, 0), (50, .aload_n 0, 1, 0), (51, .getfield 12, 3, 384), (54, .getfield 95, 3, 1), (57, .iconst 1, 1, 0), (58, .isub, 1, 0), (59, .if_icmp .ne 18, 3, 0), (62, .iload 5, 2, 0), (64, .aload_n 0, 1, 0), (65, .getfield 12, 3, 384), (68, .getfield 99, 3, 2), (71, .if_icmp .ne 6, 3, 0), (74, .bipush (-5), 2, 0), (76, .ireturn, 1, 0), (77, .iload 5, 2, 0), (79, .aload_n 0, 1, 0), (80, .getfield 12, 3, 384), (83, .getfield 99, 3, 2), (86, .if_icmp .ne 6, 3, 0), (89, .bipush 47, 2, 0), (91, .ireturn, 1, 0), (92, .aload_n 0, 1, 0), (93, .getfield 12, 3, 384), (96, .iload 4, 2, 0), (98, .aload_n 0, 1, 0), (99, .getfield 12, 3, 384), (102, .getfield 99, 3, 2), (105, .imul, 1, 0), (106, .iload 5, 2, 0), (108, .iadd, 1, 0), (109, .invokevirtual 112, 3, 0), (112, .iload_n 1, 1, 0), (113, .if_icmp .lt 8, 3, 0), (116, .bipush 35, 2, 0), (118, .goto 5, 3, 0), (121, .bipush 46, 2, 0), (123, .ireturn, 1, 0)]
def m_X6_picture : ct_M := (yX6_picture, cX6_picture, 6, (some .int), t_X6_picture)
set_option maxRecDepth 100000 in
theorem ok_X6_picture : ct_MOk m_X6_picture := ct_MOk_of 786 75 flok_X6 (by decide +kernel) (by decide +kernel) (by decide +kernel) (by decide +kernel)
def t_X6_land : List ct_I := [(0, .iload_n 1, 1, 0), (1, .invokestatic 196, 3, 0), (4, .ifCond .ne 6, 3, 0), (7, .bipush (-2), 2, 0), (9, .ireturn, 1, 0), (10, .aload_n 0, 1, 0), (11, .getfield 12, 3, 384), (14, .iload_n 2, 1, 0), (15, .invokevirtual 106, 3, 0), (18, .ifCond .ne 5, 3, 0), (21, .iconst (-1), 1, 0), (22, .ireturn, 1, 0), (23, .aload_n 0, 1, 0), (24, .getfield 30, 3, 386), (27, .iload_n 1, 1, 0), (28, .invokevirtual 208, 3, 0), (31, .aload_n 0, 1, 0), (32, .getfield 30, 3, 386), (35, .getfield 277, 3, 66), (38, .aload_n 0, 1, 0), (39, .getfield 12, 3, 384), (42, .iload_n 2, 1, 0), (43, .invokevirtual 268, 3, 0), (46, .iaload, 1, 0), (47, .ireturn, 1, 0)]
def m_X6_land : ct_M := (yX6_land, cX6_land, 3, (some .int), t_X6_land)
set_option maxRecDepth 100000 in
theorem ok_X6_land : ct_MOk m_X6_land := ct_MOk_of 790 75 flok_X6 (by decide +kernel) (by decide +kernel) (by decide +kernel) (by decide +kernel)
def t_X6_landOf : List ct_I := [(0, .iload_n 1, 1, 0), (1, .invokestatic 196, 3, 0), (4, .ifCond .ne 6, 3, 0), (7, .bipush (-2), 2, 0), (9, .ireturn, 1, 0), (10, .aload_n 0, 1, 0), (11, .getfield 30, 3, 386), (14, .iload_n 1, 1, 0), (15, .invokevirtual 208, 3, 0), (18, .iload_n 2, 1, 0), (19, .ifCond .lt 14, 3, 0), (22, .iload_n 2, 1, 0), (23, .aload_n 0, 1, 0), (24, .getfield 30, 3, 386), (27, .getfield 211, 3, 71), (30, .if_icmp .lt 5, 3, 0), (33, .iconst (-1), 1, 0), (34, .ireturn, 1, 0), (35, .iload_n 3, 1, 0), (36, .tableswitch 76 0 3 #[32, 49, 59, 69], 32, 0), (68, .aload_n 0, 1, 0), (69, .getfield 12, 3, 384), (72, .aload_n 0, 1, 0), (73, .getfield 30, 3, 386), (76, .getfield 280, 3, 67), (79, .iload_n 2, 1, 0), (80, .iaload, 1, 0), (81, .invokevirtual 283, 3, 0), (84, .ireturn, 1, 0), (85, .aload_n 0, 1, 0), (86, .getfield 30, 3, 386), (89, .getfield 286, 3, 68), (92, .iload_n 2, 1, 0), (93, .iaload, 1, 0), (94, .ireturn, 1, 0), (95, .aload_n 0, 1, 0), (96, .getfield 30, 3, 386), (99, .getfield 289, 3, 69), (102, .iload_n 2, 1, 0), (103, .iaload, 1, 0), (104, .ireturn, 1, 0), (105, .aload_n 0, 1, 0), (106, .iload_n 1, 1, 0), (107, .iload_n 2, 1, 0), (108, .invokevirtual 292, 3, 0), (111, .ireturn, 1, 0), (112, .iconst (-1), 1, 0), (113, .ireturn, 1, 0)]
def m_X6_landOf : ct_M := (yX6_landOf, cX6_landOf, 4, (some .int), t_X6_landOf)
set_option maxRecDepth 100000 in
theorem ok_X6_landOf : ct_MOk m_X6_landOf := ct_MOk_of 794 75 flok_X6 (by decide +kernel) (by decide +kernel) (by decide +kernel) (by decide +kernel)
def t_X6_holesOf : List ct_I := [(0, .aload_n 0, 1, 0), (1, .getfield 23, 3, 385), (4, .iload_n 1, 1, 0), (5, .invokevirtual 199, 3, 0), (8, .iconst 0, 1, 0), (9, .istore_n 3, 1, 0), (10, .iconst 0, 1, 0), (11, .istore 4, 2, 0), (13, .iload 4, 2, 0), (15, .aload_n 0, 1, 0), (16, .getfield 23, 3, 385), (19, .getfield 202, 3, 133), (22, .if_icmp .ge 45, 3, 0), (25, .aload_n 0, 1, 0), (26, .getfield 23, 3, 385), (29, .iload 4, 2, 0), (31, .invokevirtual 256, 3, 0), (34, .ifCond .ne 27, 3, 0), (37, .aload_n 0, 1, 0), (38, .getfield 30, 3, 386), (41, .getfield 277, 3, 66), (44, .aload_n 0, 1, 0), (45, .getfield 23, 3, 385), (48, .iload 4, 2, 0), (50, .invokevirtual 295, 3, 0), (53, .iaload, 1, 0), (54, .iload_n 2, 1, 0), (55, .if_icmp .ne 6, 3, 0), (58, .iinc 3 1, 3, 0), (61, .iinc 4 1, 3, 0), (64, .goto (-51), 3, 0), (67, .iload_n 3, 1, 0), (68, .ireturn, 1, 0)]
def m_X6_holesOf : ct_M := (yX6_holesOf, cX6_holesOf, 5, (some .int), t_X6_holesOf)
set_option maxRecDepth 100000 in
theorem ok_X6_holesOf : ct_MOk m_X6_holesOf := ct_MOk_of 802 75 flok_X6 (by decide +kernel) (by decide +kernel) (by decide +kernel) (by decide +kernel)
def t_X6_pass : List ct_I := [(0, .aload_n 0, 1, 0), (1, .getfield 12, 3, 384), (4, .iload_n 1, 1, 0), (5, .invokevirtual 106, 3, 0), (8, .ifCond .eq 14, 3, 0), (11, .aload_n 0, 1, 0), (12, .getfield 12, 3, 384), (15, .iload_n 2, 1, 0), (16, .invokevirtual 106, 3, 0), (19, .ifCond .ne 5, 3, 0), (22, .iconst (-1), 1, 0), (23, .ireturn, 1, 0), (24, .aload_n 0, 1, 0), (25, .getfield 12, 3, 384), (28, .iload_n 1, 1, 0), (29, .invokevirtual 112, 3, 0), (32, .aload_n 0, 1, 0), (33, .getfield 12, 3, 384), (36, .iload_n 2, 1, 0), (37, .invokevirtual 112, 3, 0), (40, .invokestatic 298, 3, 0), (43, .istore_n 3, 1, 0), (44, .aload_n 0, 1, 0), (45, .getfield 12, 3, 384), (48, .iload_n 1, 1, 0), (49, .invokevirtual 268, 3, 0), (52, .istore 4, 2, 0), (54, .aload_n 0, 1, 0), (55, .getfield 12, 3, 384), (58, .iload_n 2, 1, 0), (59, .invokevirtual 268, 3, 0), (62, .istore 5, 2, 0), (64, .iconst 0, 1, 0), (65, .istore 6, 2, 0), (67, .bipush 64, 2, 0), (69, .istore 7, 2, 0), (71, .iload 7, 2, 0), (73, .ifCond .le 63, 3, 0), (76, .iload 6, 2, 0), (78, .iload 7, 2, 0), (80, .iadd, 1, 0), (81, .iload_n 3, 1, 0), (82, .if_icmp .gt 45, 3, 0), (85, .aload_n 0, 1, 0), (86, .getfield 30, 3, 386), (89, .iload 6, 2, 0), (91, .iload 7, 2, 0), (93, .iadd, 1, 0), (94, .invokevirtual 208, 3, 0), (97, .aload_n 0, 1, 0), (98, .getfield 30, 3, 386), (101, .getfield 277, 3, 66), (104, .iload 4, 2, 0), (106, .iaload, 1, 0), (107, .aload_n 0, 1, 0), (108, .getfield 30, 3, 386), (111, .getfield 277, 3, 66), (114, .iload 5, 2, 0), (116, .iaload, 1, 0), (117, .if_icmp .ne 10, 3, 0), (120, .iload 6, 2, 0), (122, .iload 7, 2, 0), (124, .iadd, 1, 0), (125, .istore 6, 2, 0), (127, .iload 7, 2, 0), (129, .iconst 2, 1, 0), (130, .idiv, 1, 0), (131, .istore 7, 2, 0), (133, .goto (-62), 3, 0), (136, .iload 6, 2, 0), (138, .ireturn, 1, 0)]
def m_X6_pass : ct_M := (yX6_pass, cX6_pass, 8, (some .int), t_X6_pass)
set_option maxRecDepth 100000 in
theorem ok_X6_pass : ct_MOk m_X6_pass := ct_MOk_of 810 75 flok_X6 (by decide +kernel) (by decide +kernel) (by decide +kernel) (by decide +kernel)
def t_X6_stands : List ct_I := [(0, .aload_n 0, 1, 0), (1, .getfield 12, 3, 384), (4, .iload_n 1, 1, 0), (5, .invokevirtual 106, 3, 0), (8, .ifCond .ne 5, 3, 0), (11, .iconst (-1), 1, 0), (12, .ireturn, 1, 0), (13, .aload_n 0, 1, 0), (14, .getfield 12, 3, 384), (17, .iload_n 1, 1, 0), (18, .invokevirtual 112, 3, 0), (21, .istore_n 2, 1, 0), (22, .iload_n 2, 1, 0), (23, .aload_n 0, 1, 0), (24, .getfield 12, 3, 384), (27, .invokevirtual 174, 3, 0), (30, .if_icmp .ne 5, 3, 0), (33, .iload_n 2, 1, 0), (34, .ireturn, 1, 0), (35, .aload_n 0, 1, 0), (36, .getfield 12, 3, 384), (39, .iload_n 1, 1, 0), (40, .invokevirtual 268, 3, 0), (43, .istore_n 3, 1, 0), (44, .iconst 0, 1, 0), (45, .istore 4, 2, 0), (47, .bipush 64, 2, 0), (49, .istore 5, 2, 0), (51, .iload 5, 2, 0), (53, .ifCond .le 61, 3, 0), (56, .iload 4, 2, 0), (58, .iload 5, 2, 0), (60, .iadd, 1, 0), (61, .iload_n 2, 1, 0), (62, .if_icmp .gt 43, 3, 0), (65, .aload_n 0, 1, 0), (66, .getfield 30, 3, 386), (69, .iload 4, 2, 0), (71, .iload 5, 2, 0), (73, .iadd, 1, 0), (74, .invokevirtual 208, 3, 0), (77, .aload_n 0, 1, 0), (78, .getfield 30, 3, 386), (81, .getfield 289, 3, 69), (84, .aload_n 0, 1, 0), (85, .getfield 30, 3, 386), (88, .getfield 277, 3, 66), (91, .iload_n 3, 1, 0), (92, .iaload, 1, 0), (93, .iaload, 1, 0), (94, .iload_n 2, 1, 0), (95, .if_icmp .le 10, 3, 0), (98, .iload 4, 2, 0), (100, .iload 5, 2, 0), (102, .iadd, 1, 0), (103, .istore 4, 2, 0), (105, .iload 5, 2, 0), (107, .iconst 2, 1, 0), (108, .idiv, 1, 0), (109, .istore 5, 2, 0), (111, .goto (-60), 3, 0), (114, .iload_n 2, 1, 0), (115, .iload 4, 2, 0), (117, .isub, 1, 0), (118, .ireturn, 1, 0)]
def m_X6_stands : ct_M := (yX6_stands, cX6_stands, 6, (some .int), t_X6_stands)
set_option maxRecDepth 100000 in
theorem ok_X6_stands : ct_MOk m_X6_stands := ct_MOk_of 815 75 flok_X6 (by decide +kernel) (by decide +kernel) (by decide +kernel) (by decide +kernel)
def t_X6_tree : List ct_I := [(0, .iload_n 1, 1, 0), (1, .iconst 1, 1, 0), (2, .if_icmp .lt 9, 3, 0), (5, .iload_n 1, 1, 0), (6, .bipush 50, 2, 0), (8, .if_icmp .le 6, 3, 0), (11, .bipush (-2), 2, 0), (13, .ireturn, 1, 0), (14, .iload_n 2, 1, 0), (15, .ifCond .lt 8, 3, 0), (18, .iload_n 2, 1, 0), (19, .iconst 2, 1, 0), (20, .if_icmp .le 5, 3, 0), (23, .iconst (-1), 1, 0), (24, .ireturn, 1, 0), (25, .iconst 0, 1, 0), (26, .istore_n 3, 1, 0), (27, .aload_n 0, 1, 0), (28, .getfield 30, 3, 386), (31, .astore 4, 2, 0), (33, .aload_n 0, 1, 0), (34, .getfield 34, 3, 387), (37, .astore 5, 2, 0), (39, .aload 4, 2, 0), (41, .iconst 0, 1, 0), (42, .invokevirtual 208, 3, 0), (45, .iconst 0, 1, 0), (46, .istore 6, 2, 0), (48, .iload 6, 2, 0), (50, .bipush 100, 2, 0), (52, .if_icmp .ge 76, 3, 0), (55, .aload 4, 2, 0), (57, .getfield 211, 3, 71), (60, .ifCond .le 68, 3, 0), (63, .aload 4, 2, 0), (65, .aload 5, 2, 0), (67, .iload 6, 2, 0), (69, .iload_n 1, 1, 0), (70, .iadd, 1, 0), (71, .invokestatic 303, 3, 0), (74, .iload_n 3, 1, 0), (75, .iload_n 2, 1, 0), (76, .ifCond .ne 11, 3, 0), (79, .aload 4, 2, 0), (81, .getfield 211, 3, 71), (84, .goto 21, 3, 0), (87, .iload_n 2, 1, 0), (88, .iconst 1, 1, 0), (89, .if_icmp .ne 11, 3, 0), (92, .aload 4, 2, 0), (94, .invokevirtual 307, 3, 0), (97, .goto 8, 3, 0), (100, .aload 4, 2, 0), (102, .invokevirtual 310, 3, 0), (105, .iadd, 1, 0), (106, .istore_n 3, 1, 0), (107, .aload 4, 2, 0), (109, .astore 7, 2, 0), (111, .aload 5, 2, 0), (113, .astore 4, 2, 0), (115, .aload 7, 2, 0), (117, .astore 5, 2, 0), (119, .iload 6, 2, 0), (121, .iload_n 1, 1, 0), (122, .iadd, 1, 0), (123, .istore 6, 2, 0), (125, .goto (-77), 3, 0), (128, .iload_n 3, 1, 0), (129, .ireturn, 1, 0)]
def m_X6_tree : ct_M := (yX6_tree, cX6_tree, 8, (some .int), t_X6_tree)
set_option maxRecDepth 100000 in
theorem ok_X6_tree : ct_MOk m_X6_tree := ct_MOk_of 819 75 flok_X6 (by decide +kernel) (by decide +kernel) (by decide +kernel) (by decide +kernel)
def t_X6_countChildren : List ct_I := [(0, .aload_n 0, 1, 0), (1, .invokevirtual 313, 3, 0), (4, .iload_n 2, 1, 0), (5, .bipush 100, 2, 0), (7, .if_icmp .ge 34, 3, 0), (10, .aload_n 1, 1, 0), (11, .iload_n 2, 1, 0), (12, .invokevirtual 208, 3, 0), (15, .iconst 0, 1, 0), (16, .istore_n 3, 1, 0), (17, .iload_n 3, 1, 0), (18, .aload_n 1, 1, 0), (19, .getfield 211, 3, 71), (22, .if_icmp .ge 19, 3, 0), (25, .aload_n 0, 1, 0), (26, .aload_n 1, 1, 0), (27, .getfield 280, 3, 67), (30, .iload_n 3, 1, 0), (31, .iaload, 1, 0), (32, .invokevirtual 316, 3, 0), (35, .iinc 3 1, 3, 0), (38, .goto (-21), 3, 0), (41, .return_, 1, 0)]
def m_X6_countChildren : ct_M := (yX6_countChildren, cX6_countChildren, 4, none, t_X6_countChildren)
set_option maxRecDepth 100000 in
theorem ok_X6_countChildren : ct_MOk m_X6_countChildren := ct_MOk_of 822 75 flok_X6 (by decide +kernel) (by decide +kernel) (by decide +kernel) (by decide +kernel)
def t_X6_between : List ct_I := [(0, .iload_n 1, 1, 0), (1, .invokestatic 196, 3, 0), (4, .ifCond .eq 10, 3, 0), (7, .iload_n 2, 1, 0), (8, .invokestatic 196, 3, 0), (11, .ifCond .ne 6, 3, 0), (14, .bipush (-2), 2, 0), (16, .ireturn, 1, 0), (17, .aload_n 0, 1, 0), (18, .getfield 12, 3, 384), (21, .iload_n 1, 1, 0), (22, .iload_n 2, 1, 0), (23, .invokestatic 298, 3, 0), (26, .invokevirtual 193, 3, 0), (29, .aload_n 0, 1, 0), (30, .getfield 12, 3, 384), (33, .iload_n 1, 1, 0), (34, .iload_n 2, 1, 0), (35, .invokestatic 319, 3, 0), (38, .invokevirtual 193, 3, 0), (41, .isub, 1, 0), (42, .ireturn, 1, 0)]
def m_X6_between : ct_M := (yX6_between, cX6_between, 3, (some .int), t_X6_between)
set_option maxRecDepth 100000 in
theorem ok_X6_between : ct_MOk m_X6_between := ct_MOk_of 843 75 flok_X6 (by decide +kernel) (by decide +kernel) (by decide +kernel) (by decide +kernel)
def t_X6_see : List ct_I := [(0, .iload_n 1, 1, 0), (1, .iconst (-1), 1, 0), (2, .if_icmp .ne 11, 3, 0), (5, .aload_n 0, 1, 0), (6, .getfield 51, 3, 391), (9, .invokevirtual 322, 3, 0), (12, .ireturn, 1, 0), (13, .aload_n 0, 1, 0), (14, .getfield 12, 3, 384), (17, .iload_n 1, 1, 0), (18, .invokevirtual 106, 3, 0), (21, .ifCond .ne 5, 3, 0), (24, .iconst (-1), 1, 0), (25, .ireturn, 1, 0), (26, .iload_n 2, 1, 0), (27, .ifCond .lt 8, 3, 0), (30, .iload_n 2, 1, 0), (31, .iconst 1, 1, 0), (32, .if_icmp .le 6, 3, 0), (35, .bipush (-2), 2, 0), (37, .ireturn, 1, 0), (38, .aload_n 0, 1, 0), (39, .getfield 51, 3, 391), (42, .invokevirtual 325, 3, 0), (45, .ifCond .eq 8, 3, 0), (48, .bipush (-4), 2, 0), (50, .goto 12, 3, 0), (53, .aload_n 0, 1, 0), (54, .getfield 51, 3, 391), (57, .iload_n 1, 1, 0), (58, .iload_n 2, 1, 0), (59, .invokevirtual 326, 3, 0), (62, .ireturn, 1, 0)]
def m_X6_see : ct_M := (yX6_see, cX6_see, 3, (some .int), t_X6_see)
set_option maxRecDepth 100000 in
theorem ok_X6_see : ct_MOk m_X6_see := ct_MOk_of 848 75 flok_X6 (by decide +kernel) (by decide +kernel) (by decide +kernel) (by decide +kernel)
def t_X6_fits : List ct_I := [(0, .iload_n 1, 1, 0), (1, .ifCond .lt 8, 3, 0), (4, .iload_n 1, 1, 0), (5, .iconst 1, 1, 0), (6, .if_icmp .le 5, 3, 0), (9, .iconst (-1), 1, 0), (10, .ireturn, 1, 0), (11, .iconst 0, 1, 0), (12, .istore_n 2, 1, 0), (13, .bipush 99, 2, 0), (15, .istore_n 3, 1, 0), (16, .iconst 0, 1, 0), (17, .istore 4, 2, 0), (19, .iload 4, 2, 0), (21, .aload_n 0, 1, 0), (22, .getfield 51, 3, 391), (25, .getfield 328, 3, 194), (28, .if_icmp .ge 97, 3, 0), (31, .aload_n 0, 1, 0), (32, .getfield 12, 3, 384), (35, .aload_n 0, 1, 0), (36, .getfield 51, 3, 391), (39, .getfield 331, 3, 192), (42, .iload 4, 2, 0), (44, .iaload, 1, 0), (45, .invokevirtual 106, 3, 0), (48, .ifCond .ne 8, 3, 0), (51, .iconst (-1), 1, 0), (52, .istore_n 3, 1, 0), (53, .goto 66, 3, 0), (56, .aload_n 0, 1, 0), (57, .getfield 51, 3, 391), (60, .getfield 334, 3, 193), (63, .iload 4, 2, 0), (65, .iaload, 1, 0), (66, .iconst 1, 1, 0), (67, .if_icmp .ne 28, 3, 0), (70, .iload_n 3, 1, 0), (71, .aload_n 0, 1, 0), (72, .getfield 12, 3, 384), (75, .aload_n 0, 1, 0), (76, .getfield 51, 3, 391), (79, .getfield 331, 3, 192), (82, .iload 4, 2, 0), (84, .iaload, 1, 0), (85, .invokevirtual 112, 3, 0), (88, .invokestatic 298, 3, 0), (91, .istore_n 3, 1, 0), (92, .goto 27, 3, 0), (95, .iload_n 2, 1, 0), (96, .aload_n 0, 1, 0), (97, .getfield 12, 3, 384), (100, .aload_n 0, 1, 0), (101, .getfield 51, 3, 391), (104, .getfield 331, 3, 192), (107, .iload 4, 2, 0), (109, .iaload, 1, 0), (110, .invokevirtual 112, 3, 0), (113, .iconst 1, 1, 0), (114, .iadd, 1, 0), (115, .invokestatic 319, 3, 0), (118, .istore_n 2, 1, 0), (119, .iinc 4 1, 3, 0), (122, .goto (-103), 3, 0), (125, .iload_n 1, 1, 0), (126, .ifCond .ne 13, 3, 0), (129, .iconst 0, 1, 0), (130, .iload_n 3, 1, 0), (131, .iload_n 2, 1, 0), (132, .isub, 1, 0), (133, .iconst 1, 1, 0), (134, .iadd, 1, 0), (135, .invokestatic 319, 3, 0), (138, .ireturn, 1, 0), (139, .iload_n 2, 1, 0), (140, .iload_n 3, 1, 0), (141, .if_icmp .gt 7, 3, 0), (144, .iload_n 2, 1, 0), (145, .goto 5, 3, 0), (148, .bipush (-5), 2, 0), (150, .ireturn, 1, 0)]
def m_X6_fits : ct_M := (yX6_fits, cX6_fits, 5, (some .int), t_X6_fits)
set_option maxRecDepth 100000 in
theorem ok_X6_fits : ct_MOk m_X6_fits := ct_MOk_of 864 75 flok_X6 (by decide +kernel) (by decide +kernel) (by decide +kernel) (by decide +kernel)
def t_X6_odds : List ct_I := [(0, .aload_n 0, 1, 0), (1, .getfield 12, 3, 384), (4, .iload_n 1, 1, 0), (5, .invokevirtual 106, 3, 0), (8, .ifCond .eq 10, 3, 0), (11, .iload_n 2, 1, 0), (12, .invokestatic 337, 3, 0), (15, .ifCond .ne 7, 3, 0), (18, .ldc2_w 340, 3, 0), (21, .lreturn, 1, 0), (22, .aload_n 0, 1, 0), (23, .getfield 12, 3, 384), (26, .iload_n 1, 1, 0), (27, .invokevirtual 112, 3, 0), (30, .iconst 1, 1, 0), (31, .iadd, 1, 0), (32, .iload_n 2, 1, 0), (33, .invokestatic 342, 3, 0), (36, .lreturn, 1, 0)]
def m_X6_odds : ct_M := (yX6_odds, cX6_odds, 3, (some .long), t_X6_odds)
set_option maxRecDepth 100000 in
theorem ok_X6_odds : ct_MOk m_X6_odds := ct_MOk_of 868 75 flok_X6 (by decide +kernel) (by decide +kernel) (by decide +kernel) (by decide +kernel)
def t_X6_mean : List ct_I := [(0, .iload_n 1, 1, 0), (1, .invokestatic 337, 3, 0), (4, .ifCond .ne 7, 3, 0), (7, .ldc2_w 340, 3, 0), (10, .lreturn, 1, 0), (11, .aload_n 0, 1, 0), (12, .getfield 23, 3, 385), (15, .invokevirtual 183, 3, 0), (18, .iconst 0, 1, 0), (19, .istore_n 2, 1, 0), (20, .iconst 0, 1, 0), (21, .istore_n 3, 1, 0), (22, .iload_n 3, 1, 0), (23, .bipush 100, 2, 0), (25, .if_icmp .ge 21, 3, 0), (28, .iload_n 2, 1, 0), (29, .aload_n 0, 1, 0), (30, .getfield 23, 3, 385), (33, .getfield 189, 3, 132), (36, .iload_n 3, 1, 0), (37, .iaload, 1, 0), (38, .iadd, 1, 0), (39, .istore_n 2, 1, 0), (40, .iinc 3 1, 3, 0), (43, .goto (-21), 3, 0), (46, .iload_n 2, 1, 0), (47, .iload_n 1, 1, 0), (48, .invokestatic 342, 3, 0), (51, .lreturn, 1, 0)]
def m_X6_mean : ct_M := (yX6_mean, cX6_mean, 4, (some .long), t_X6_mean)
set_option maxRecDepth 100000 in
theorem ok_X6_mean : ct_MOk m_X6_mean := ct_MOk_of 879 75 flok_X6 (by decide +kernel) (by decide +kernel) (by decide +kernel) (by decide +kernel)
def t_X6_isPart : List ct_I := [(0, .iload_n 0, 1, 0), (1, .ifCond .eq 8, 3, 0), (4, .iload_n 0, 1, 0), (5, .iconst 1, 1, 0), (6, .if_icmp .ne 7, 3, 0), (9, .iconst 1, 1, 0), (10, .goto 4, 3, 0), (13, .iconst 0, 1, 0), (14, .ireturn, 1, 0)]
def m_X6_isPart : ct_M := (yX6_isPart, cX6_isPart, 1, (some .boolean), t_X6_isPart)
set_option maxRecDepth 100000 in
theorem ok_X6_isPart : ct_MOk m_X6_isPart := ct_MOk_of 871 75 flok_X6 (by decide +kernel) (by decide +kernel) (by decide +kernel) (by decide +kernel)
def t_X6_hundredths : List ct_I := [(0, .bipush 100, 2, 0), (2, .istore_n 2, 1, 0), (3, .iload_n 2, 1, 0), (4, .iconst 1, 1, 0), (5, .if_icmp .le 22, 3, 0), (8, .iload_n 0, 1, 0), (9, .iload_n 2, 1, 0), (10, .irem, 1, 0), (11, .ifCond .ne 10, 3, 0), (14, .bipush 100, 2, 0), (16, .iload_n 2, 1, 0), (17, .irem, 1, 0), (18, .ifCond .eq 9, 3, 0), (21, .iinc 2 (-1), 3, 0), (24, .goto (-21), 3, 0), (27, .iload_n 1, 1, 0), (28, .ifCond .ne 10, 3, 0), (31, .iload_n 0, 1, 0), (32, .iload_n 2, 1, 0), (33, .idiv, 1, 0), (34, .i2l, 1, 0), (35, .goto 8, 3, 0), (38, .bipush 100, 2, 0), (40, .iload_n 2, 1, 0), (41, .idiv, 1, 0), (42, .i2l, 1, 0), (43, .lreturn, 1, 0)]
def m_X6_hundredths : ct_M := (yX6_hundredths, cX6_hundredths, 3, (some .long), t_X6_hundredths)
set_option maxRecDepth 100000 in
theorem ok_X6_hundredths : ct_MOk m_X6_hundredths := ct_MOk_of 875 75 flok_X6 (by decide +kernel) (by decide +kernel) (by decide +kernel) (by decide +kernel)
def t_X6_event : List ct_I := [(0, .iload_n 1, 1, 0), (1, .iconst (-1), 1, 0), (2, .if_icmp .ne 11, 3, 0), (5, .aload_n 0, 1, 0), (6, .getfield 55, 3, 392), (9, .invokevirtual 322, 3, 0), (12, .ireturn, 1, 0), (13, .iload_n 1, 1, 0), (14, .ifCond .eq 8, 3, 0), (17, .iload_n 1, 1, 0), (18, .iconst 1, 1, 0), (19, .if_icmp .ne 7, 3, 0), (22, .iconst 1, 1, 0), (23, .goto 4, 3, 0), (26, .iconst 0, 1, 0), (27, .istore_n 3, 1, 0), (28, .iload_n 1, 1, 0), (29, .ifCond .lt 23, 3, 0), (32, .iload_n 1, 1, 0), (33, .iconst 4, 1, 0), (34, .if_icmp .gt 18, 3, 0), (37, .iload_n 3, 1, 0), (38, .ifCond .eq 16, 3, 0), (41, .aload_n 0, 1, 0), (42, .getfield 12, 3, 384), (45, .iload_n 2, 1, 0), (46, .invokevirtual 106, 3, 0), (49, .ifCond .ne 5, 3, 0), (52, .iconst (-1), 1, 0), (53, .ireturn, 1, 0), (54, .iload_n 1, 1, 0), (55, .iconst 2, 1, 0), (56, .if_icmp .ne 10, 3, 0), (59, .iload_n 2, 1, 0), (60, .invokestatic 109, 3, 0), (63, .ifCond .eq 24, 3, 0), (66, .iload_n 1, 1, 0), (67, .iconst 3, 1, 0), (68, .if_icmp .ne 10, 3, 0), (71, .iload_n 2, 1, 0), (72, .invokestatic 119, 3, 0), (75, .ifCond .eq 12, 3, 0), (78, .iload_n 1, 1, 0), (79, .iconst 4, 1, 0), (80, .if_icmp .ne 10, 3, 0), (83, .iload_n 2, 1, 0), (84, .ifCond .eq 6, 3, 0), (87, .bipush (-2), 2, 0), (89, .ireturn, 1, 0), (90, .aload_n 0, 1, 0), (91, .getfield 55, 3, 392), (94, .invokevirtual 325, 3, 0), (97, .ifCond .eq 8, 3, 0), (100, .bipush (-4), 2, 0), (102, .goto 12, 3, 0), (105, .aload_n 0, 1, 0), (106, .getfield 55, 3, 392), (109, .iload_n 1, 1, 0), (110, .iload_n 2, 1, 0), (111, .invokevirtual 326, 3, 0), (114, .ireturn, 1, 0)]
def m_X6_event : ct_M := (yX6_event, cX6_event, 4, (some .int), t_X6_event)
set_option maxRecDepth 100000 in
theorem ok_X6_event : ct_MOk m_X6_event := ct_MOk_of 883 75 flok_X6 (by decide +kernel) (by decide +kernel) (by decide +kernel) (by decide +kernel)
def t_X6_after : List ct_I := [(0, .iload_n 1, 1, 0), (1, .invokestatic 196, 3, 0), (4, .ifCond .ne 6, 3, 0), (7, .bipush (-2), 2, 0), (9, .ireturn, 1, 0), (10, .iload_n 2, 1, 0), (11, .ifCond .lt 8, 3, 0), (14, .iload_n 2, 1, 0), (15, .iconst 2, 1, 0), (16, .if_icmp .le 5, 3, 0), (19, .iconst (-1), 1, 0), (20, .ireturn, 1, 0), (21, .aload_n 0, 1, 0), (22, .invokevirtual 346, 3, 0), (25, .iload_n 2, 1, 0), (26, .ifCond .ne 19, 3, 0), (29, .aload_n 0, 1, 0), (30, .getfield 40, 3, 389), (33, .iload_n 1, 1, 0), (34, .invokevirtual 199, 3, 0), (37, .aload_n 0, 1, 0), (38, .getfield 40, 3, 389), (41, .getfield 202, 3, 133), (44, .ireturn, 1, 0), (45, .iload_n 2, 1, 0), (46, .iconst 1, 1, 0), (47, .if_icmp .ne 19, 3, 0), (50, .aload_n 0, 1, 0), (51, .getfield 43, 3, 390), (54, .iload_n 1, 1, 0), (55, .invokevirtual 208, 3, 0), (58, .aload_n 0, 1, 0), (59, .getfield 43, 3, 390), (62, .getfield 211, 3, 71), (65, .ireturn, 1, 0), (66, .aload_n 0, 1, 0), (67, .getfield 37, 3, 388), (70, .iload_n 1, 1, 0), (71, .invokevirtual 193, 3, 0), (74, .ireturn, 1, 0)]
def m_X6_after : ct_M := (yX6_after, cX6_after, 3, (some .int), t_X6_after)
set_option maxRecDepth 100000 in
theorem ok_X6_after : ct_MOk m_X6_after := ct_MOk_of 887 75 flok_X6 (by decide +kernel) (by decide +kernel) (by decide +kernel) (by decide +kernel)
def t_X6_tryEvents : List ct_I := [(0, .aload_n 0, 1, 0), (1, .getfield 37, 3, 388), (4, .aload_n 0, 1, 0), (5, .getfield 12, 3, 384), (8, .invokevirtual 349, 3, 0), (11, .iconst 0, 1, 0), (12, .istore_n 1, 1, 0), (13, .iload_n 1, 1, 0), (14, .aload_n 0, 1, 0), (15, .getfield 55, 3, 392), (18, .getfield 328, 3, 194), (21, .if_icmp .ge 34, 3, 0), (24, .aload_n 0, 1, 0), (25, .getfield 37, 3, 388), (28, .aload_n 0, 1, 0), (29, .getfield 55, 3, 392), (32, .getfield 331, 3, 192), (35, .iload_n 1, 1, 0), (36, .iaload, 1, 0), (37, .aload_n 0, 1, 0), (38, .getfield 55, 3, 392), (41, .getfield 334, 3, 193), (44, .iload_n 1, 1, 0), (45, .iaload, 1, 0), (46, .invokestatic 352, 3, 0), (49, .iinc 1 1, 3, 0), (52, .goto (-39), 3, 0), (55, .return_, 1, 0)]
def m_X6_tryEvents : ct_M := (yX6_tryEvents, cX6_tryEvents, 2, none, t_X6_tryEvents)
set_option maxRecDepth 100000 in
theorem ok_X6_tryEvents : ct_MOk m_X6_tryEvents := ct_MOk_of 891 75 flok_X6 (by decide +kernel) (by decide +kernel) (by decide +kernel) (by decide +kernel)
def t_X6_happen : List ct_I := [(0, .iload_n 1, 1, 0), (1, .tableswitch 93 0 3 #[31, 60, 77, 85], 31, 0), (32, .aload_n 0, 1, 0), (33, .iload_n 2, 1, 0), (34, .invokevirtual 106, 3, 0), (37, .ifCond .eq 61, 3, 0), (40, .aload_n 0, 1, 0), (41, .iload_n 2, 1, 0), (42, .bipush 99, 2, 0), (44, .aload_n 0, 1, 0), (45, .iload_n 2, 1, 0), (46, .invokevirtual 112, 3, 0), (49, .bipush 10, 2, 0), (51, .iadd, 1, 0), (52, .invokestatic 298, 3, 0), (55, .invokevirtual 116, 3, 0), (58, .goto 40, 3, 0), (61, .aload_n 0, 1, 0), (62, .iload_n 2, 1, 0), (63, .invokevirtual 106, 3, 0), (66, .ifCond .eq 32, 3, 0), (69, .aload_n 0, 1, 0), (70, .iload_n 2, 1, 0), (71, .iconst 0, 1, 0), (72, .invokevirtual 116, 3, 0), (75, .goto 23, 3, 0), (78, .aload_n 0, 1, 0), (79, .iload_n 2, 1, 0), (80, .invokevirtual 356, 3, 0), (83, .goto 15, 3, 0), (86, .aload_n 0, 1, 0), (87, .iload_n 2, 1, 0), (88, .invokevirtual 125, 3, 0), (91, .goto 7, 3, 0), (94, .aload_n 0, 1, 0), (95, .invokevirtual 171, 3, 0), (98, .return_, 1, 0)]
def m_X6_happen : ct_M := (yX6_happen, cX6_happen, 3, none, t_X6_happen)
set_option maxRecDepth 100000 in
theorem ok_X6_happen : ct_MOk m_X6_happen := ct_MOk_of 902 75 flok_X6 (by decide +kernel) (by decide +kernel) (by decide +kernel) (by decide +kernel)
def t_X6_book : List ct_I := [(0, .iload_n 1, 1, 0), (1, .iconst (-1), 1, 0), (2, .if_icmp .ne 11, 3, 0), (5, .aload_n 0, 1, 0), (6, .getfield 58, 3, 393), (9, .invokevirtual 322, 3, 0), (12, .ireturn, 1, 0), (13, .aload_n 0, 1, 0), (14, .getfield 12, 3, 384), (17, .iload_n 1, 1, 0), (18, .invokevirtual 106, 3, 0), (21, .ifCond .ne 5, 3, 0), (24, .iconst (-1), 1, 0), (25, .ireturn, 1, 0), (26, .iload_n 2, 1, 0), (27, .invokestatic 109, 3, 0), (30, .ifCond .ne 6, 3, 0), (33, .bipush (-2), 2, 0), (35, .ireturn, 1, 0), (36, .aload_n 0, 1, 0), (37, .getfield 58, 3, 393), (40, .invokevirtual 325, 3, 0), (43, .ifCond .eq 8, 3, 0), (46, .bipush (-4), 2, 0), (48, .goto 12, 3, 0), (51, .aload_n 0, 1, 0), (52, .getfield 58, 3, 393), (55, .iload_n 1, 1, 0), (56, .iload_n 2, 1, 0), (57, .invokevirtual 326, 3, 0), (60, .ireturn, 1, 0)]
def m_X6_book : ct_M := (yX6_book, cX6_book, 3, (some .int), t_X6_book)
set_option maxRecDepth 100000 in
theorem ok_X6_book : ct_MOk m_X6_book := ct_MOk_of 910 75 flok_X6 (by decide +kernel) (by decide +kernel) (by decide +kernel) (by decide +kernel)
def t_X6_looked : List ct_I := [(0, .iconst 0, 1, 0), (1, .istore_n 1, 1, 0), (2, .iload_n 1, 1, 0), (3, .aload_n 0, 1, 0), (4, .getfield 58, 3, 393), (7, .getfield 328, 3, 194), (10, .if_icmp .ge 52, 3, 0), (13, .aload_n 0, 1, 0), (14, .getfield 58, 3, 393), (17, .getfield 331, 3, 192), (20, .iload_n 1, 1, 0), (21, .iaload, 1, 0), (22, .istore_n 2, 1, 0), (23, .aload_n 0, 1, 0), (24, .getfield 12, 3, 384), (27, .iload_n 2, 1, 0), (28, .invokevirtual 106, 3, 0), (31, .ifCond .eq 23, 3, 0), (34, .aload_n 0, 1, 0), (35, .getfield 12, 3, 384), (38, .iload_n 2, 1, 0), (39, .invokevirtual 112, 3, 0), (42, .aload_n 0, 1, 0), (43, .getfield 58, 3, 393), (46, .getfield 334, 3, 193), (49, .iload_n 1, 1, 0), (50, .iaload, 1, 0), (51, .if_icmp .eq 5, 3, 0), (54, .iload_n 1, 1, 0), (55, .ireturn, 1, 0), (56, .iinc 1 1, 3, 0), (59, .goto (-57), 3, 0), (62, .bipush (-5), 2, 0), (64, .ireturn, 1, 0)]
def m_X6_looked : ct_M := (yX6_looked, cX6_looked, 3, (some .int), t_X6_looked)
set_option maxRecDepth 100000 in
theorem ok_X6_looked : ct_MOk m_X6_looked := ct_MOk_of 914 75 flok_X6 (by decide +kernel) (by decide +kernel) (by decide +kernel) (by decide +kernel)
def t_X6_judge : List ct_I := [(0, .iload_n 1, 1, 0), (1, .invokestatic 359, 3, 0), (4, .ifCond .ne 5, 3, 0), (7, .iconst (-1), 1, 0), (8, .ireturn, 1, 0), (9, .aload_n 0, 1, 0), (10, .getfield 70, 3, 395), (13, .iload_n 1, 1, 0), (14, .aaload, 1, 0), (15, .astore_n 3, 1, 0), (16, .aload_n 3, 1, 0), (17, .invokevirtual 362, 3, 0), (20, .ifCond .eq 6, 3, 0), (23, .bipush 100, 2, 0), (25, .ireturn, 1, 0), (26, .aload_n 3, 1, 0), (27, .getfield 365, 3, 257), (30, .ifCond .eq 6, 3, 0), (33, .bipush (-12), 2, 0), (35, .ireturn, 1, 0), (36, .aload_n 3, 1, 0), (37, .iload_n 2, 1, 0), (38, .invokevirtual 368, 3, 0), (41, .ifCond .ne 6, 3, 0), (44, .bipush 100, 2, 0), (46, .ireturn, 1, 0), (47, .aload_n 0, 1, 0), (48, .getfield 12, 3, 384), (51, .invokevirtual 371, 3, 0), (54, .istore 4, 2, 0), (56, .iconst 0, 1, 0), (57, .istore 5, 2, 0), (59, .iload 5, 2, 0), (61, .iload 4, 2, 0), (63, .if_icmp .ge 52, 3, 0), (66, .aload_n 3, 1, 0), (67, .iload_n 2, 1, 0), (68, .iload 5, 2, 0), (70, .iadd, 1, 0), (71, .invokevirtual 368, 3, 0), (74, .ifCond .ne 9, 3, 0), (77, .bipush 100, 2, 0), (79, .iload 5, 2, 0), (81, .iadd, 1, 0), (82, .ireturn, 1, 0), (83, .aload_n 3, 1, 0), (84, .getfield 374, 3, 256), (87, .iload_n 2, 1, 0), (88, .iload 5, 2, 0), (90, .iadd, 1, 0), (91, .laload, 1, 0), (92, .aload_n 0, 1, 0), (93, .getfield 12, 3, 384), (96, .iload 5, 2, 0), (98, .invokevirtual 112, 3, 0), (101, .i2l, 1, 0), (102, .lcmp, 1, 0), (103, .ifCond .eq 6, 3, 0), (106, .iload 5, 2, 0), (108, .ireturn, 1, 0), (109, .iinc 5 1, 3, 0), (112, .goto (-53), 3, 0), (115, .bipush (-5), 2, 0), (117, .ireturn, 1, 0)]
def m_X6_judge : ct_M := (yX6_judge, cX6_judge, 6, (some .int), t_X6_judge)
set_option maxRecDepth 100000 in
theorem ok_X6_judge : ct_MOk m_X6_judge := ct_MOk_of 918 75 flok_X6 (by decide +kernel) (by decide +kernel) (by decide +kernel) (by decide +kernel)
def t_X6_image : List ct_I := [(0, .aload_n 0, 1, 0), (1, .getfield 79, 3, 397), (4, .aload_n 0, 1, 0), (5, .getfield 12, 3, 384), (8, .invokevirtual 349, 3, 0), (11, .aload_n 0, 1, 0), (12, .getfield 82, 3, 398), (15, .aload_n 0, 1, 0), (16, .getfield 51, 3, 391), (19, .invokevirtual 378, 3, 0), (22, .aload_n 0, 1, 0), (23, .getfield 85, 3, 399), (26, .aload_n 0, 1, 0), (27, .getfield 55, 3, 392), (30, .invokevirtual 378, 3, 0), (33, .aload_n 0, 1, 0), (34, .getfield 88, 3, 400), (37, .aload_n 0, 1, 0), (38, .getfield 58, 3, 393), (41, .invokevirtual 378, 3, 0), (44, .aload_n 0, 1, 0), (45, .iconst 1, 1, 0), (46, .putfield 75, 3, 396), (49, .aload_n 0, 1, 0), (50, .getfield 12, 3, 384), (53, .invokevirtual 381, 3, 0), (56, .ireturn, 1, 0)]
def m_X6_image : ct_M := (yX6_image, cX6_image, 1, (some .int), t_X6_image)
set_option maxRecDepth 100000 in
theorem ok_X6_image : ct_MOk m_X6_image := ct_MOk_of 934 75 flok_X6 (by decide +kernel) (by decide +kernel) (by decide +kernel) (by decide +kernel)
def t_X6_undo : List ct_I := [(0, .aload_n 0, 1, 0), (1, .getfield 75, 3, 396), (4, .ifCond .ne 6, 3, 0), (7, .bipush (-3), 2, 0), (9, .ireturn, 1, 0), (10, .aload_n 0, 1, 0), (11, .getfield 12, 3, 384), (14, .aload_n 0, 1, 0), (15, .getfield 79, 3, 397), (18, .invokevirtual 349, 3, 0), (21, .aload_n 0, 1, 0), (22, .getfield 51, 3, 391), (25, .aload_n 0, 1, 0), (26, .getfield 82, 3, 398), (29, .invokevirtual 378, 3, 0), (32, .aload_n 0, 1, 0), (33, .getfield 55, 3, 392), (36, .aload_n 0, 1, 0), (37, .getfield 85, 3, 399), (40, .invokevirtual 378, 3, 0), (43, .aload_n 0, 1, 0), (44, .getfield 58, 3, 393), (47, .aload_n 0, 1, 0), (48, .getfield 88, 3, 400), (51, .invokevirtual 378, 3, 0), (54, .aload_n 0, 1, 0), (55, .getfield 12, 3, 384), (58, .invokevirtual 381, 3, 0), (61, .ireturn, 1, 0)]
def m_X6_undo : ct_M := (yX6_undo, cX6_undo, 1, (some .int), t_X6_undo)
set_option maxRecDepth 100000 in
theorem ok_X6_undo : ct_MOk m_X6_undo := ct_MOk_of 946 75 flok_X6 (by decide +kernel) (by decide +kernel) (by decide +kernel) (by decide +kernel)
def t_X6_count : List ct_I := [(0, .iload_n 1, 1, 0), (1, .tableswitch 63 0 3 #[31, 39, 47, 55], 31, 0), (32, .aload_n 0, 1, 0), (33, .getfield 51, 3, 391), (36, .getfield 328, 3, 194), (39, .ireturn, 1, 0), (40, .aload_n 0, 1, 0), (41, .getfield 55, 3, 392), (44, .getfield 328, 3, 194), (47, .ireturn, 1, 0), (48, .aload_n 0, 1, 0), (49, .getfield 58, 3, 393), (52, .getfield 328, 3, 194), (55, .ireturn, 1, 0), (56, .aload_n 0, 1, 0), (57, .getfield 64, 3, 394), (60, .getfield 135, 3, 321), (63, .ireturn, 1, 0), (64, .bipush (-2), 2, 0), (66, .ireturn, 1, 0)]
def m_X6_count : ct_M := (yX6_count, cX6_count, 2, (some .int), t_X6_count)
set_option maxRecDepth 100000 in
theorem ok_X6_count : ct_MOk m_X6_count := ct_MOk_of 950 75 flok_X6 (by decide +kernel) (by decide +kernel) (by decide +kernel) (by decide +kernel)
def t_X6_tape : List ct_I := [(0, .iload_n 1, 1, 0), (1, .invokestatic 359, 3, 0), (4, .ifCond .ne 5, 3, 0), (7, .iconst (-1), 1, 0), (8, .ireturn, 1, 0), (9, .iload_n 2, 1, 0), (10, .iconst (-1), 1, 0), (11, .if_icmp .ne 16, 3, 0), (14, .aload_n 0, 1, 0), (15, .getfield 70, 3, 395), (18, .iload_n 1, 1, 0), (19, .aaload, 1, 0), (20, .iconst (-1), 1, 0), (21, .iconst 0, 1, 0), (22, .invokevirtual 384, 3, 0), (25, .iconst 1, 1, 0), (26, .ireturn, 1, 0), (27, .iload_n 2, 1, 0), (28, .invokestatic 387, 3, 0), (31, .ifCond .eq 9, 3, 0), (34, .iload_n 3, 1, 0), (35, .bipush 60, 2, 0), (37, .if_icmp .le 6, 3, 0), (40, .bipush (-2), 2, 0), (42, .ireturn, 1, 0), (43, .iload_n 3, 1, 0), (44, .ifCond .ge 6, 3, 0), (47, .bipush (-14), 2, 0), (49, .ireturn, 1, 0), (50, .aload_n 0, 1, 0), (51, .getfield 70, 3, 395), (54, .iload_n 1, 1, 0), (55, .aaload, 1, 0), (56, .iload_n 2, 1, 0), (57, .iload_n 3, 1, 0), (58, .invokevirtual 384, 3, 0), (61, .iconst 1, 1, 0), (62, .ireturn, 1, 0)]
def m_X6_tape : ct_M := (yX6_tape, cX6_tape, 4, (some .int), t_X6_tape)
set_option maxRecDepth 100000 in
theorem ok_X6_tape : ct_MOk m_X6_tape := ct_MOk_of 954 75 flok_X6 (by decide +kernel) (by decide +kernel) (by decide +kernel) (by decide +kernel)
def t_X6_item : List ct_I := [(0, .iload_n 1, 1, 0), (1, .invokestatic 359, 3, 0), (4, .ifCond .ne 5, 3, 0), (7, .iconst (-1), 1, 0), (8, .ireturn, 1, 0), (9, .aload_n 0, 1, 0), (10, .getfield 70, 3, 395), (13, .iload_n 1, 1, 0), (14, .aaload, 1, 0), (15, .invokevirtual 362, 3, 0), (18, .ifCond .eq 6, 3, 0), (21, .bipush (-11), 2, 0), (23, .ireturn, 1, 0), (24, .aload_n 0, 1, 0), (25, .getfield 70, 3, 395), (28, .iload_n 1, 1, 0), (29, .aaload, 1, 0), (30, .iload_n 2, 1, 0), (31, .invokevirtual 368, 3, 0), (34, .ifCond .ne 6, 3, 0), (37, .bipush (-13), 2, 0), (39, .ireturn, 1, 0), (40, .aload_n 0, 1, 0), (41, .getfield 70, 3, 395), (44, .iload_n 1, 1, 0), (45, .aaload, 1, 0), (46, .iload_n 2, 1, 0), (47, .lload_n 3, 1, 0), (48, .invokevirtual 390, 3, 0), (51, .iconst 1, 1, 0), (52, .ireturn, 1, 0)]
def m_X6_item : ct_M := (yX6_item, cX6_item, 5, (some .int), t_X6_item)
set_option maxRecDepth 100000 in
theorem ok_X6_item : ct_MOk m_X6_item := ct_MOk_of 968 75 flok_X6 (by decide +kernel) (by decide +kernel) (by decide +kernel) (by decide +kernel)
def t_X6_peek : List ct_I := [(0, .iload_n 1, 1, 0), (1, .invokestatic 359, 3, 0), (4, .ifCond .eq 16, 3, 0), (7, .aload_n 0, 1, 0), (8, .getfield 70, 3, 395), (11, .iload_n 1, 1, 0), (12, .aaload, 1, 0), (13, .iload_n 2, 1, 0), (14, .invokevirtual 368, 3, 0), (17, .ifCond .ne 7, 3, 0), (20, .ldc2_w 340, 3, 0), (23, .lreturn, 1, 0), (24, .aload_n 0, 1, 0), (25, .getfield 70, 3, 395), (28, .iload_n 1, 1, 0), (29, .aaload, 1, 0), (30, .getfield 374, 3, 256), (33, .iload_n 2, 1, 0), (34, .laload, 1, 0), (35, .lreturn, 1, 0)]
def m_X6_peek : ct_M := (yX6_peek, cX6_peek, 3, (some .long), t_X6_peek)
set_option maxRecDepth 100000 in
theorem ok_X6_peek : ct_MOk m_X6_peek := ct_MOk_of 976 75 flok_X6 (by decide +kernel) (by decide +kernel) (by decide +kernel) (by decide +kernel)
def t_X6_shift : List ct_I := [(0, .iload_n 1, 1, 0), (1, .invokestatic 359, 3, 0), (4, .ifCond .eq 10, 3, 0), (7, .iload_n 3, 1, 0), (8, .invokestatic 359, 3, 0), (11, .ifCond .ne 5, 3, 0), (14, .iconst (-1), 1, 0), (15, .ireturn, 1, 0), (16, .aload_n 0, 1, 0), (17, .getfield 70, 3, 395), (20, .iload_n 1, 1, 0), (21, .aaload, 1, 0), (22, .astore 6, 2, 0), (24, .aload_n 0, 1, 0), (25, .getfield 70, 3, 395), (28, .iload_n 3, 1, 0), (29, .aaload, 1, 0), (30, .astore 7, 2, 0), (32, .aload 6, 2, 0), (34, .invokevirtual 362, 3, 0), (37, .ifCond .ne 11, 3, 0), (40, .aload 7, 2, 0), (42, .invokevirtual 362, 3, 0), (45, .ifCond .eq 6, 3, 0), (48, .bipush (-11), 2, 0), (50, .ireturn, 1, 0), (51, .aload 6, 2, 0), (53, .getfield 365, 3, 257), (56, .aload 7, 2, 0), (58, .getfield 365, 3, 257), (61, .if_icmp .eq 6, 3, 0), (64, .bipush (-12), 2, 0), (66, .ireturn, 1, 0), (67, .aload 6, 2, 0), (69, .iload_n 2, 1, 0), (70, .iload 5, 2, 0), (72, .invokevirtual 394, 3, 0), (75, .ifCond .eq 15, 3, 0), (78, .aload 7, 2, 0), (80, .iload 4, 2, 0), (82, .iload 5, 2, 0), (84, .invokevirtual 394, 3, 0), (87, .ifCond .ne 6, 3, 0), (90, .bipush (-13), 2, 0), (92, .ireturn, 1, 0), (93, .aload 6, 2, 0), (95, .getfield 374, 3, 256), (98, .iload_n 2, 1, 0), (99, .aload 7, 2, 0), (101, .getfield 374, 3, 256), (104, .iload 4, 2, 0), (106, .iload 5, 2, 0), (108, .invokestatic 397, 3, 0), (111, .iload 5, 2, 0), (113, .ireturn, 1, 0)]
def m_X6_shift : ct_M := (yX6_shift, cX6_shift, 8, (some .int), t_X6_shift)
set_option maxRecDepth 100000 in
theorem ok_X6_shift : ct_MOk m_X6_shift := ct_MOk_of 980 75 flok_X6 (by decide +kernel) (by decide +kernel) (by decide +kernel) (by decide +kernel)
def t_X6_isLevel : List ct_I := [(0, .iload_n 0, 1, 0), (1, .ifCond .lt 13, 3, 0), (4, .iload_n 0, 1, 0), (5, .bipush 100, 2, 0), (7, .if_icmp .ge 7, 3, 0), (10, .iconst 1, 1, 0), (11, .goto 4, 3, 0), (14, .iconst 0, 1, 0), (15, .ireturn, 1, 0)]
def m_X6_isLevel : ct_M := (yX6_isLevel, cX6_isLevel, 1, (some .boolean), t_X6_isLevel)
set_option maxRecDepth 100000 in
theorem ok_X6_isLevel : ct_MOk m_X6_isLevel := ct_MOk_of 560 75 flok_X6 (by decide +kernel) (by decide +kernel) (by decide +kernel) (by decide +kernel)
def t_X6_isHeight : List ct_I := [(0, .iload_n 0, 1, 0), (1, .ifCond .lt 13, 3, 0), (4, .iload_n 0, 1, 0), (5, .bipush 99, 2, 0), (7, .if_icmp .gt 7, 3, 0), (10, .iconst 1, 1, 0), (11, .goto 4, 3, 0), (14, .iconst 0, 1, 0), (15, .ireturn, 1, 0)]
def m_X6_isHeight : ct_M := (yX6_isHeight, cX6_isHeight, 1, (some .boolean), t_X6_isHeight)
set_option maxRecDepth 100000 in
theorem ok_X6_isHeight : ct_MOk m_X6_isHeight := ct_MOk_of 373 75 flok_X6 (by decide +kernel) (by decide +kernel) (by decide +kernel) (by decide +kernel)
def t_X6_isKind : List ct_I := [(0, .iload_n 0, 1, 0), (1, .ifCond .lt 12, 3, 0), (4, .iload_n 0, 1, 0), (5, .iconst 5, 1, 0), (6, .if_icmp .ge 7, 3, 0), (9, .iconst 1, 1, 0), (10, .goto 4, 3, 0), (13, .iconst 0, 1, 0), (14, .ireturn, 1, 0)]
def m_X6_isKind : ct_M := (yX6_isKind, cX6_isKind, 1, (some .boolean), t_X6_isKind)
set_option maxRecDepth 100000 in
theorem ok_X6_isKind : ct_MOk m_X6_isKind := ct_MOk_of 385 75 flok_X6 (by decide +kernel) (by decide +kernel) (by decide +kernel) (by decide +kernel)
def t_X6_isTape : List ct_I := [(0, .iload_n 0, 1, 0), (1, .ifCond .lt 13, 3, 0), (4, .iload_n 0, 1, 0), (5, .bipush 6, 2, 0), (7, .if_icmp .ge 7, 3, 0), (10, .iconst 1, 1, 0), (11, .goto 4, 3, 0), (14, .iconst 0, 1, 0), (15, .ireturn, 1, 0)]
def m_X6_isTape : ct_M := (yX6_isTape, cX6_isTape, 1, (some .boolean), t_X6_isTape)
set_option maxRecDepth 100000 in
theorem ok_X6_isTape : ct_MOk m_X6_isTape := ct_MOk_of 921 75 flok_X6 (by decide +kernel) (by decide +kernel) (by decide +kernel) (by decide +kernel)
end
section
def t_X7_in : List ct_I := [(0, .iload_n 0, 1, 0), (1, .iload_n 1, 1, 0), (2, .if_icmp .lt 12, 3, 0), (5, .iload_n 0, 1, 0), (6, .iload_n 2, 1, 0), (7, .if_icmp .gt 7, 3, 0), (10, .iconst 1, 1, 0), (11, .goto 4, 3, 0), (14, .iconst 0, 1, 0), (15, .ireturn, 1, 0)]
def m_X7_in : ct_M := (yX7_in, cX7_in, 3, (some .boolean), t_X7_in)
set_option maxRecDepth 100000 in
theorem ok_X7_in : ct_MOk m_X7_in := ct_MOk_of 1121 83 flok_X7 (by decide +kernel) (by decide +kernel) (by decide +kernel) (by decide +kernel)
def t_X7_isLevel : List ct_I := [(0, .iload_n 0, 1, 0), (1, .iconst 0, 1, 0), (2, .bipush 99, 2, 0), (4, .invokestatic 100, 3, 0), (7, .ireturn, 1, 0)]
def m_X7_isLevel : ct_M := (yX7_isLevel, cX7_isLevel, 1, (some .boolean), t_X7_isLevel)
set_option maxRecDepth 100000 in
theorem ok_X7_isLevel : ct_MOk m_X7_isLevel := ct_MOk_of 1306 83 flok_X7 (by decide +kernel) (by decide +kernel) (by decide +kernel) (by decide +kernel)
def t_X7_points : List ct_I := [(0, .aload_n 0, 1, 0), (1, .getfield 9, 3, 448), (4, .aload_n 0, 1, 0), (5, .getfield 15, 3, 449), (8, .imul, 1, 0), (9, .ireturn, 1, 0)]
def m_X7_points : ct_M := (yX7_points, cX7_points, 1, (some .int), t_X7_points)
set_option maxRecDepth 100000 in
theorem ok_X7_points : ct_MOk m_X7_points := ct_MOk_of 1133 83 flok_X7 (by decide +kernel) (by decide +kernel) (by decide +kernel) (by decide +kernel)
def t_X7_isPoint : List ct_I := [(0, .iload_n 1, 1, 0), (1, .iconst 0, 1, 0), (2, .aload_n 0, 1, 0), (3, .invokevirtual 104, 3, 0), (6, .iconst 1, 1, 0), (7, .isub, 1, 0), (8, .invokestatic 100, 3, 0), (11, .ireturn, 1, 0)]
def m_X7_isPoint : ct_M := (yX7_isPoint, cX7_isPoint, 2, (some .boolean), t_X7_isPoint)
set_option maxRecDepth 100000 in
theorem ok_X7_isPoint : ct_MOk m_X7_isPoint := ct_MOk_of 1129 83 flok_X7 (by decide +kernel) (by decide +kernel) (by decide +kernel) (by decide +kernel)
def t_X7_size : List ct_I := [(0, .iload_n 1, 1, 0), (1, .iconst 2, 1, 0), (2, .bipush 7, 2, 0), (4, .invokestatic 100, 3, 0), (7, .ifCond .eq 13, 3, 0), (10, .iload_n 2, 1, 0), (11, .iconst 2, 1, 0), (12, .bipush 7, 2, 0), (14, .invokestatic 100, 3, 0), (17, .ifCond .ne 6, 3, 0), (20, .bipush (-2), 2, 0), (22, .ireturn, 1, 0), (23, .bipush 10, 2, 0), (25, .aload_n 0, 1, 0), (26, .getfield 9, 3, 448), (29, .imul, 1, 0), (30, .aload_n 0, 1, 0), (31, .getfield 15, 3, 449), (34, .iadd, 1, 0), (35, .istore_n 3, 1, 0), (36, .aload_n 0, 1, 0), (37, .iload_n 1, 1, 0), (38, .putfield 9, 3, 448), (41, .aload_n 0, 1, 0), (42, .iload_n 2, 1, 0), (43, .putfield 15, 3, 449), (46, .iconst 0, 1, 0), (47, .istore 4, 2, 0), (49, .iload 4, 2, 0), (51, .bipush 49, 2, 0), (53, .if_icmp .ge 17, 3, 0), (56, .aload_n 0, 1, 0), (57, .getfield 18, 3, 451), (60, .iload 4, 2, 0), (62, .iconst 0, 1, 0), (63, .iastore, 1, 0), (64, .iinc 4 1, 3, 0), (67, .goto (-18), 3, 0), (70, .iload_n 3, 1, 0), (71, .ireturn, 1, 0)]
def m_X7_size : ct_M := (yX7_size, cX7_size, 5, (some .int), t_X7_size)
set_option maxRecDepth 100000 in
theorem ok_X7_size : ct_MOk m_X7_size := ct_MOk_of 1118 83 flok_X7 (by decide +kernel) (by decide +kernel) (by decide +kernel) (by decide +kernel)
def t_X7_height : List ct_I := [(0, .aload_n 0, 1, 0), (1, .iload_n 1, 1, 0), (2, .invokevirtual 108, 3, 0), (5, .ifCond .ne 5, 3, 0), (8, .iconst (-1), 1, 0), (9, .ireturn, 1, 0), (10, .iload_n 2, 1, 0), (11, .iconst 0, 1, 0), (12, .bipush 99, 2, 0), (14, .invokestatic 100, 3, 0), (17, .ifCond .ne 6, 3, 0), (20, .bipush (-2), 2, 0), (22, .ireturn, 1, 0), (23, .aload_n 0, 1, 0), (24, .getfield 18, 3, 451), (27, .iload_n 1, 1, 0), (28, .iaload, 1, 0), (29, .istore_n 3, 1, 0), (30, .aload_n 0, 1, 0), (31, .getfield 18, 3, 451), (34, .iload_n 1, 1, 0), (35, .iload_n 2, 1, 0), (36, .iastore, 1, 0), (37, .iload_n 3, 1, 0), (38, .ireturn, 1, 0)]
def m_X7_height : ct_M := (yX7_height, cX7_height, 4, (some .int), t_X7_height)
set_option maxRecDepth 100000 in
theorem ok_X7_height : ct_MOk m_X7_height := ct_MOk_of 1125 83 flok_X7 (by decide +kernel) (by decide +kernel) (by decide +kernel) (by decide +kernel)
def t_X7_rule : List ct_I := [(0, .iload_n 1, 1, 0), (1, .iconst 0, 1, 0), (2, .iconst 4, 1, 0), (3, .invokestatic 100, 3, 0), (6, .ifCond .ne 5, 3, 0), (9, .iconst (-1), 1, 0), (10, .ireturn, 1, 0), (11, .aload_n 0, 1, 0), (12, .getfield 112, 3, 450), (15, .istore_n 2, 1, 0), (16, .aload_n 0, 1, 0), (17, .iload_n 1, 1, 0), (18, .putfield 112, 3, 450), (21, .iload_n 2, 1, 0), (22, .ireturn, 1, 0)]
def m_X7_rule : ct_M := (yX7_rule, cX7_rule, 3, (some .int), t_X7_rule)
set_option maxRecDepth 100000 in
theorem ok_X7_rule : ct_MOk m_X7_rule := ct_MOk_of 1137 83 flok_X7 (by decide +kernel) (by decide +kernel) (by decide +kernel) (by decide +kernel)
def t_X7_fill : List ct_I := [(0, .aload_n 0, 1, 0), (1, .iload_n 1, 1, 0), (2, .invokevirtual 108, 3, 0), (5, .ifCond .eq 11, 3, 0), (8, .aload_n 0, 1, 0), (9, .iload_n 2, 1, 0), (10, .invokevirtual 108, 3, 0), (13, .ifCond .ne 5, 3, 0), (16, .iconst (-1), 1, 0), (17, .ireturn, 1, 0), (18, .iload_n 1, 1, 0), (19, .aload_n 0, 1, 0), (20, .getfield 15, 3, 449), (23, .idiv, 1, 0), (24, .istore 4, 2, 0), (26, .iload_n 1, 1, 0), (27, .aload_n 0, 1, 0), (28, .getfield 15, 3, 449), (31, .irem, 1, 0), (32, .istore 5, 2, 0), (34, .iload_n 2, 1, 0), (35, .aload_n 0, 1, 0), (36, .getfield 15, 3, 449), (39, .idiv, 1, 0), (40, .iload 4, 2, 0), (42, .if_icmp .lt 14, 3, 0), (45, .iload_n 2, 1, 0), (46, .aload_n 0, 1, 0), (47, .getfield 15, 3, 449), (50, .irem, 1, 0), (51, .iload 5, 2, 0), (53, .if_icmp .ge 6, 3, 0), (56, .bipush (-2), 2, 0), (58, .ireturn, 1, 0), (59, .iload 4, 2, 0), (61, .istore 6, 2, 0), (63, .iload 6, 2, 0), (65, .iload_n 2, 1, 0), (66, .aload_n 0, 1, 0), (67, .getfield 15, 3, 449), (70, .idiv, 1, 0), (71, .if_icmp .gt 46, 3, 0), (74, .iload 5, 2, 0), (76, .istore 7, 2, 0), (78, .iload 7, 2, 0), (80, .iload_n 2, 1, 0), (81, .aload_n 0, 1, 0), (82, .getfield 15, 3, 449), (85, .irem, 1, 0), (86, .if_icmp .gt 25, 3, 0), (89, .aload_n 0, 1, 0), (90, .getfield 18, 3, 451), (93, .iload 6, 2, 0), (95, .aload_n 0, 1, 0), (96, .getfield 15, 3, 449), (99, .imul, 1, 0), (100, .iload 7, 2, 0), (102, .iadd, 1, 0), (103, .iload_n 3, 1, 0), (104, .iastore, 1, 0), (105, .iinc 7 1, 3, 0), (108, .goto (-30), 3, 0), (111, .iinc 6 1, 3, 0), (114, .goto (-51), 3, 0), (117, .iconst 1, 1, 0), (118, .ireturn, 1, 0)]
def m_X7_fill : ct_M := (yX7_fill, cX7_fill, 8, (some .int), t_X7_fill)
set_option maxRecDepth 100000 in
theorem ok_X7_fill : ct_MOk m_X7_fill := ct_MOk_of 1193 83 flok_X7 (by decide +kernel) (by decide +kernel) (by decide +kernel) (by decide +kernel)
def t_X7_hill : List ct_I := [(0, .aload_n 0, 1, 0), (1, .iload_n 1, 1, 0), (2, .invokevirtual 108, 3, 0), (5, .ifCond .ne 5, 3, 0), (8, .iconst (-1), 1, 0), (9, .ireturn, 1, 0), (10, .iconst 0, 1, 0), (11, .istore 4, 2, 0), (13, .iload 4, 2, 0), (15, .aload_n 0, 1, 0), (16, .invokevirtual 104, 3, 0), (19, .if_icmp .ge 69, 3, 0), (22, .iload 4, 2, 0), (24, .aload_n 0, 1, 0), (25, .getfield 15, 3, 449), (28, .idiv, 1, 0), (29, .iload_n 1, 1, 0), (30, .aload_n 0, 1, 0), (31, .getfield 15, 3, 449), (34, .idiv, 1, 0), (35, .isub, 1, 0), (36, .invokestatic 115, 3, 0), (39, .iload 4, 2, 0), (41, .aload_n 0, 1, 0), (42, .getfield 15, 3, 449), (45, .irem, 1, 0), (46, .iload_n 1, 1, 0), (47, .aload_n 0, 1, 0), (48, .getfield 15, 3, 449), (51, .irem, 1, 0), (52, .isub, 1, 0), (53, .invokestatic 115, 3, 0), (56, .iadd, 1, 0), (57, .istore 5, 2, 0), (59, .aload_n 0, 1, 0), (60, .getfield 18, 3, 451), (63, .iload 4, 2, 0), (65, .aload_n 0, 1, 0), (66, .getfield 18, 3, 451), (69, .iload 4, 2, 0), (71, .iaload, 1, 0), (72, .iload_n 2, 1, 0), (73, .iload_n 3, 1, 0), (74, .iload 5, 2, 0), (76, .imul, 1, 0), (77, .isub, 1, 0), (78, .invokestatic 121, 3, 0), (81, .iastore, 1, 0), (82, .iinc 4 1, 3, 0), (85, .goto (-72), 3, 0), (88, .iconst 1, 1, 0), (89, .ireturn, 1, 0)]
def m_X7_hill : ct_M := (yX7_hill, cX7_hill, 6, (some .int), t_X7_hill)
set_option maxRecDepth 100000 in
theorem ok_X7_hill : ct_MOk m_X7_hill := ct_MOk_of 1197 83 flok_X7 (by decide +kernel) (by decide +kernel) (by decide +kernel) (by decide +kernel)
def t_X7_turn : List ct_I := [(0, .iconst 0, 1, 0), (1, .istore_n 1, 1, 0), (2, .iload_n 1, 1, 0), (3, .aload_n 0, 1, 0), (4, .invokevirtual 104, 3, 0), (7, .if_icmp .ge 24, 3, 0), (10, .aload_n 0, 1, 0), (11, .getfield 18, 3, 451), (14, .iload_n 1, 1, 0), (15, .bipush 99, 2, 0), (17, .aload_n 0, 1, 0), (18, .getfield 18, 3, 451), (21, .iload_n 1, 1, 0), (22, .iaload, 1, 0), (23, .isub, 1, 0), (24, .iastore, 1, 0), (25, .iinc 1 1, 3, 0), (28, .goto (-26), 3, 0), (31, .iconst 1, 1, 0), (32, .ireturn, 1, 0)]
def m_X7_turn : ct_M := (yX7_turn, cX7_turn, 2, (some .int), t_X7_turn)
set_option maxRecDepth 100000 in
theorem ok_X7_turn : ct_MOk m_X7_turn := ct_MOk_of 1204 83 flok_X7 (by decide +kernel) (by decide +kernel) (by decide +kernel) (by decide +kernel)
def t_X7_feed : List ct_I := [(0, .iload_n 1, 1, 0), (1, .iconst 0, 1, 0), (2, .bipush 127, 2, 0), (4, .invokestatic 100, 3, 0), (7, .ifCond .ne 6, 3, 0), (10, .bipush (-2), 2, 0), (12, .ireturn, 1, 0), (13, .aload_n 0, 1, 0), (14, .getfield 125, 3, 453), (17, .bipush 100, 2, 0), (19, .if_icmp .ne 6, 3, 0), (22, .bipush (-4), 2, 0), (24, .ireturn, 1, 0), (25, .aload_n 0, 1, 0), (26, .getfield 22, 3, 452), (29, .aload_n 0, 1, 0), (30, .getfield 125, 3, 453), (33, .iload_n 1, 1, 0), (34, .i2b, 1, 0), (35, .bastore, 1, 0), (36, .aload_n 0, 1, 0), (37, .dup, 1, 0), (38, .getfield 125, 3, 453), (41, .iconst 1, 1, 0), (42, .iadd, 1, 0), (43, .putfield 125, 3, 453), (46, .aload_n 0, 1, 0), (47, .getfield 125, 3, 453), (50, .ireturn, 1, 0)]
def m_X7_feed : ct_M := (yX7_feed, cX7_feed, 2, (some .int), t_X7_feed)
set_option maxRecDepth 100000 in
theorem ok_X7_feed : ct_MOk m_X7_feed := ct_MOk_of 1141 83 flok_X7 (by decide +kernel) (by decide +kernel) (by decide +kernel) (by decide +kernel)
def t_X7_wordOf : List ct_I := [(0, .iload_n 0, 1, 0), (1, .tableswitch 50 0 4 #[35, 38, 41, 44, 47], 35, 0), (36, .ldc 128, 2, 0), (38, .areturn, 1, 0), (39, .ldc 130, 2, 0), (41, .areturn, 1, 0), (42, .ldc 132, 2, 0), (44, .areturn, 1, 0), (45, .ldc 134, 2, 0), (47, .areturn, 1, 0), (48, .ldc 136, 2, 0), (50, .areturn, 1, 0), (51, .ldc 138, 2, 0), (53, .areturn, 1, 0)]
def m_X7_wordOf : ct_M := (yX7_wordOf, cX7_wordOf, 1, (some (.object "java/lang/String")), t_X7_wordOf)
set_option maxRecDepth 100000 in
theorem ok_X7_wordOf : ct_MOk m_X7_wordOf := ct_MOk_of 1160 83 flok_X7 (by decide +kernel) (by decide +kernel) (by decide +kernel) (by decide +kernel)
def t_X7_manyOf : List ct_I := [(0, .iload_n 0, 1, 0), (1, .iconst 5, 1, 0), (2, .if_icmp .ne 7, 3, 0), (5, .iconst 0, 1, 0), (6, .goto 22, 3, 0), (9, .iload_n 0, 1, 0), (10, .iconst 4, 1, 0), (11, .if_icmp .ne 7, 3, 0), (14, .iconst 1, 1, 0), (15, .goto 13, 3, 0), (18, .iload_n 0, 1, 0), (19, .iconst 2, 1, 0), (20, .if_icmp .ge 7, 3, 0), (23, .iconst 2, 1, 0), (24, .goto 4, 3, 0), (27, .iconst 3, 1, 0), (28, .ireturn, 1, 0)]
def m_X7_manyOf : ct_M := (yX7_manyOf, cX7_manyOf, 1, (some .int), t_X7_manyOf)
set_option maxRecDepth 100000 in
theorem ok_X7_manyOf : ct_MOk m_X7_manyOf := ct_MOk_of 1175 83 flok_X7 (by decide +kernel) (by decide +kernel) (by decide +kernel) (by decide +kernel)
def t_X7_isAt : List ct_I := [(0, .aload_n 0, 1, 0), (1, .getfield 140, 3, 456), (4, .aload_n 0, 1, 0), (5, .getfield 125, 3, 453), (8, .if_icmp .ge 20, 3, 0), (11, .aload_n 0, 1, 0), (12, .getfield 22, 3, 452), (15, .aload_n 0, 1, 0), (16, .getfield 140, 3, 456), (19, .baload, 1, 0), (20, .iload_n 1, 1, 0), (21, .if_icmp .ne 7, 3, 0), (24, .iconst 1, 1, 0), (25, .goto 4, 3, 0), (28, .iconst 0, 1, 0), (29, .ireturn, 1, 0)]
def m_X7_isAt : ct_M := (yX7_isAt, cX7_isAt, 2, (some .boolean), t_X7_isAt)
set_option maxRecDepth 100000 in
theorem ok_X7_isAt : ct_MOk m_X7_isAt := ct_MOk_of 1171 83 flok_X7 (by decide +kernel) (by decide +kernel) (by decide +kernel) (by decide +kernel)
def t_X7_isDigit : List ct_I := [(0, .aload_n 0, 1, 0), (1, .getfield 140, 3, 456), (4, .aload_n 0, 1, 0), (5, .getfield 125, 3, 453), (8, .if_icmp .ge 26, 3, 0), (11, .aload_n 0, 1, 0), (12, .getfield 22, 3, 452), (15, .aload_n 0, 1, 0), (16, .getfield 140, 3, 456), (19, .baload, 1, 0), (20, .bipush 48, 2, 0), (22, .bipush 57, 2, 0), (24, .invokestatic 100, 3, 0), (27, .ifCond .eq 7, 3, 0), (30, .iconst 1, 1, 0), (31, .goto 4, 3, 0), (34, .iconst 0, 1, 0), (35, .ireturn, 1, 0)]
def m_X7_isDigit : ct_M := (yX7_isDigit, cX7_isDigit, 1, (some .boolean), t_X7_isDigit)
set_option maxRecDepth 100000 in
theorem ok_X7_isDigit : ct_MOk m_X7_isDigit := ct_MOk_of 1183 83 flok_X7 (by decide +kernel) (by decide +kernel) (by decide +kernel) (by decide +kernel)
def t_X7_takesWord : List ct_I := [(0, .iconst 0, 1, 0), (1, .istore_n 1, 1, 0), (2, .iload_n 1, 1, 0), (3, .bipush 6, 2, 0), (5, .if_icmp .ge 24, 3, 0), (8, .aload_n 0, 1, 0), (9, .iload_n 1, 1, 0), (10, .invokestatic 143, 3, 0), (13, .iconst 0, 1, 0), (14, .invokevirtual 147, 3, 0), (17, .invokevirtual 153, 3, 0), (20, .ifCond .ne 9, 3, 0), (23, .iinc 1 1, 3, 0), (26, .goto (-24), 3, 0), (29, .iload_n 1, 1, 0), (30, .bipush 6, 2, 0), (32, .if_icmp .ne 5, 3, 0), (35, .iconst 0, 1, 0), (36, .ireturn, 1, 0), (37, .aload_n 0, 1, 0), (38, .getfield 26, 3, 454), (41, .aload_n 0, 1, 0), (42, .getfield 157, 3, 457), (45, .iload_n 1, 1, 0), (46, .iastore, 1, 0), (47, .iconst 0, 1, 0), (48, .istore_n 2, 1, 0), (49, .iload_n 2, 1, 0), (50, .iload_n 1, 1, 0), (51, .invokestatic 143, 3, 0), (54, .invokevirtual 160, 3, 0), (57, .if_icmp .ge 36, 3, 0), (60, .aload_n 0, 1, 0), (61, .iload_n 1, 1, 0), (62, .invokestatic 143, 3, 0), (65, .iload_n 2, 1, 0), (66, .invokevirtual 147, 3, 0), (69, .invokevirtual 153, 3, 0), (72, .ifCond .ne 5, 3, 0), (75, .iconst 0, 1, 0), (76, .ireturn, 1, 0), (77, .aload_n 0, 1, 0), (78, .dup, 1, 0), (79, .getfield 140, 3, 456), (82, .iconst 1, 1, 0), (83, .iadd, 1, 0), (84, .putfield 140, 3, 456), (87, .iinc 2 1, 3, 0), (90, .goto (-41), 3, 0), (93, .iconst 1, 1, 0), (94, .ireturn, 1, 0)]
def m_X7_takesWord : ct_M := (yX7_takesWord, cX7_takesWord, 3, (some .boolean), t_X7_takesWord)
set_option maxRecDepth 100000 in
theorem ok_X7_takesWord : ct_MOk m_X7_takesWord := ct_MOk_of 1157 83 flok_X7 (by decide +kernel) (by decide +kernel) (by decide +kernel) (by decide +kernel)
def t_X7_takesNumber : List ct_I := [(0, .aload_n 0, 1, 0), (1, .bipush 32, 2, 0), (3, .invokevirtual 153, 3, 0), (6, .ifCond .ne 5, 3, 0), (9, .iconst 0, 1, 0), (10, .ireturn, 1, 0), (11, .aload_n 0, 1, 0), (12, .dup, 1, 0), (13, .getfield 140, 3, 456), (16, .iconst 1, 1, 0), (17, .iadd, 1, 0), (18, .putfield 140, 3, 456), (21, .aload_n 0, 1, 0), (22, .invokevirtual 163, 3, 0), (25, .ifCond .ne 5, 3, 0), (28, .iconst 0, 1, 0), (29, .ireturn, 1, 0), (30, .aload_n 0, 1, 0), (31, .getfield 22, 3, 452), (34, .aload_n 0, 1, 0), (35, .getfield 140, 3, 456), (38, .baload, 1, 0), (39, .bipush 48, 2, 0), (41, .isub, 1, 0), (42, .istore_n 2, 1, 0), (43, .aload_n 0, 1, 0), (44, .dup, 1, 0), (45, .getfield 140, 3, 456), (48, .iconst 1, 1, 0), (49, .iadd, 1, 0), (50, .putfield 140, 3, 456), (53, .aload_n 0, 1, 0), (54, .invokevirtual 163, 3, 0), (57, .ifCond .eq 31, 3, 0), (60, .bipush 10, 2, 0), (62, .iload_n 2, 1, 0), (63, .imul, 1, 0), (64, .aload_n 0, 1, 0), (65, .getfield 22, 3, 452), (68, .aload_n 0, 1, 0), (69, .getfield 140, 3, 456), (72, .baload, 1, 0), (73, .iadd, 1, 0), (74, .bipush 48, 2, 0), (76, .isub, 1, 0), (77, .istore_n 2, 1, 0), (78, .aload_n 0, 1, 0), (79, .dup, 1, 0), (80, .getfield 140, 3, 456), (83, .iconst 1, 1, 0), (84, .iadd, 1, 0), (85, .putfield 140, 3, 456), (88, .aload_n 0, 1, 0), (89, .getfield 29, 3, 455), (92, .iconst 3, 1, 0), (93, .aload_n 0, 1, 0), (94, .getfield 157, 3, 457), (97, .imul, 1, 0), (98, .iload_n 1, 1, 0), (99, .iadd, 1, 0), (100, .iload_n 2, 1, 0), (101, .iastore, 1, 0), (102, .iconst 1, 1, 0), (103, .ireturn, 1, 0)]
def m_X7_takesNumber : ct_M := (yX7_takesNumber, cX7_takesNumber, 3, (some .boolean), t_X7_takesNumber)
set_option maxRecDepth 100000 in
theorem ok_X7_takesNumber : ct_MOk m_X7_takesNumber := ct_MOk_of 1179 83 flok_X7 (by decide +kernel) (by decide +kernel) (by decide +kernel) (by decide +kernel)
def t_X7_takesClause : List ct_I := [(0, .aload_n 0, 1, 0), (1, .invokevirtual 167, 3, 0), (4, .ifCond .ne 5, 3, 0), (7, .iconst 0, 1, 0), (8, .ireturn, 1, 0), (9, .iconst 0, 1, 0), (10, .istore_n 1, 1, 0), (11, .iload_n 1, 1, 0), (12, .aload_n 0, 1, 0), (13, .getfield 26, 3, 454), (16, .aload_n 0, 1, 0), (17, .getfield 157, 3, 457), (20, .iaload, 1, 0), (21, .invokestatic 170, 3, 0), (24, .if_icmp .ge 19, 3, 0), (27, .aload_n 0, 1, 0), (28, .iload_n 1, 1, 0), (29, .invokevirtual 173, 3, 0), (32, .ifCond .ne 5, 3, 0), (35, .iconst 0, 1, 0), (36, .ireturn, 1, 0), (37, .iinc 1 1, 3, 0), (40, .goto (-29), 3, 0), (43, .aload_n 0, 1, 0), (44, .dup, 1, 0), (45, .getfield 157, 3, 457), (48, .iconst 1, 1, 0), (49, .iadd, 1, 0), (50, .putfield 157, 3, 457), (53, .iconst 1, 1, 0), (54, .ireturn, 1, 0)]
def m_X7_takesClause : ct_M := (yX7_takesClause, cX7_takesClause, 2, (some .boolean), t_X7_takesClause)
set_option maxRecDepth 100000 in
theorem ok_X7_takesClause : ct_MOk m_X7_takesClause := ct_MOk_of 1153 83 flok_X7 (by decide +kernel) (by decide +kernel) (by decide +kernel) (by decide +kernel)
def t_X7_takesAll : List ct_I := [(0, .aload_n 0, 1, 0), (1, .iconst 0, 1, 0), (2, .putfield 140, 3, 456), (5, .aload_n 0, 1, 0), (6, .iconst 0, 1, 0), (7, .putfield 157, 3, 457), (10, .aload_n 0, 1, 0), (11, .invokevirtual 176, 3, 0), (14, .ifCond .ne 5, 3, 0), (17, .iconst 0, 1, 0), (18, .ireturn, 1, 0), (19, .aload_n 0, 1, 0), (20, .getfield 140, 3, 456), (23, .aload_n 0, 1, 0), (24, .getfield 125, 3, 453), (27, .if_icmp .ge 42, 3, 0), (30, .aload_n 0, 1, 0), (31, .getfield 157, 3, 457), (34, .bipush 12, 2, 0), (36, .if_icmp .eq 12, 3, 0), (39, .aload_n 0, 1, 0), (40, .bipush 59, 2, 0), (42, .invokevirtual 153, 3, 0), (45, .ifCond .ne 5, 3, 0), (48, .iconst 0, 1, 0), (49, .ireturn, 1, 0), (50, .aload_n 0, 1, 0), (51, .dup, 1, 0), (52, .getfield 140, 3, 456), (55, .iconst 1, 1, 0), (56, .iadd, 1, 0), (57, .putfield 140, 3, 456), (60, .aload_n 0, 1, 0), (61, .invokevirtual 176, 3, 0), (64, .ifCond .ne (-45), 3, 0), (67, .iconst 0, 1, 0), (68, .ireturn, 1, 0), (69, .iconst 1, 1, 0), (70, .ireturn, 1, 0)]
def m_X7_takesAll : ct_M := (yX7_takesAll, cX7_takesAll, 1, (some .boolean), t_X7_takesAll)
set_option maxRecDepth 100000 in
theorem ok_X7_takesAll : ct_MOk m_X7_takesAll := ct_MOk_of 1149 83 flok_X7 (by decide +kernel) (by decide +kernel) (by decide +kernel) (by decide +kernel)
def t_X7_done : List ct_I := [(0, .aload_n 0, 1, 0), (1, .getfield 29, 3, 455), (4, .iconst 3, 1, 0), (5, .iload_n 1, 1, 0), (6, .imul, 1, 0), (7, .iaload, 1, 0), (8, .istore_n 2, 1, 0), (9, .aload_n 0, 1, 0), (10, .getfield 29, 3, 455), (13, .iconst 3, 1, 0), (14, .iload_n 1, 1, 0), (15, .imul, 1, 0), (16, .iconst 1, 1, 0), (17, .iadd, 1, 0), (18, .iaload, 1, 0), (19, .istore_n 3, 1, 0), (20, .aload_n 0, 1, 0), (21, .getfield 29, 3, 455), (24, .iconst 3, 1, 0), (25, .iload_n 1, 1, 0), (26, .imul, 1, 0), (27, .iconst 2, 1, 0), (28, .iadd, 1, 0), (29, .iaload, 1, 0), (30, .istore 4, 2, 0), (32, .aload_n 0, 1, 0), (33, .getfield 26, 3, 454), (36, .iload_n 1, 1, 0), (37, .iaload, 1, 0), (38, .tableswitch 72 0 4 #[34, 41, 48, 57, 66], 34, 0), (72, .aload_n 0, 1, 0), (73, .iload_n 2, 1, 0), (74, .iload_n 3, 1, 0), (75, .invokevirtual 179, 3, 0), (78, .ireturn, 1, 0), (79, .aload_n 0, 1, 0), (80, .iload_n 2, 1, 0), (81, .iload_n 3, 1, 0), (82, .invokevirtual 181, 3, 0), (85, .ireturn, 1, 0), (86, .aload_n 0, 1, 0), (87, .iload_n 2, 1, 0), (88, .iload_n 3, 1, 0), (89, .iload 4, 2, 0), (91, .invokevirtual 184, 3, 0), (94, .ireturn, 1, 0), (95, .aload_n 0, 1, 0), (96, .iload_n 2, 1, 0), (97, .iload_n 3, 1, 0), (98, .iload 4, 2, 0), (100, .invokevirtual 187, 3, 0), (103, .ireturn, 1, 0), (104, .aload_n 0, 1, 0), (105, .iload_n 2, 1, 0), (106, .invokevirtual 189, 3, 0), (109, .ireturn, 1, 0), (110, .aload_n 0, 1, 0), (111, .invokevirtual 191, 3, 0), (114, .ireturn, 1, 0)]
def m_X7_done : ct_M := (yX7_done, cX7_done, 5, (some .int), t_X7_done)
set_option maxRecDepth 100000 in
theorem ok_X7_done : ct_MOk m_X7_done := ct_MOk_of 1187 83 flok_X7 (by decide +kernel) (by decide +kernel) (by decide +kernel) (by decide +kernel)
def t_X7_read : List ct_I := [(0, .aload_n 0, 1, 0), (1, .invokevirtual 193, 3, 0), (4, .istore_n 1, 1, 0), (5, .aload_n 0, 1, 0), (6, .iconst 0, 1, 0), (7, .putfield 125, 3, 453), (10, .iload_n 1, 1, 0), (11, .ifCond .ne 11, 3, 0), (14, .bipush (-10), 2, 0), (16, .aload_n 0, 1, 0), (17, .getfield 140, 3, 456), (20, .isub, 1, 0), (21, .ireturn, 1, 0), (22, .iconst 0, 1, 0), (23, .istore_n 2, 1, 0), (24, .iconst 0, 1, 0), (25, .istore_n 3, 1, 0), (26, .iload_n 3, 1, 0), (27, .aload_n 0, 1, 0), (28, .getfield 157, 3, 457), (31, .if_icmp .ge 20, 3, 0), (34, .aload_n 0, 1, 0), (35, .iload_n 3, 1, 0), (36, .invokevirtual 196, 3, 0), (39, .ifCond .lt 6, 3, 0), (42, .iinc 2 1, 3, 0), (45, .iinc 3 1, 3, 0), (48, .goto (-22), 3, 0), (51, .iload_n 2, 1, 0), (52, .ireturn, 1, 0)]
def m_X7_read : ct_M := (yX7_read, cX7_read, 4, (some .int), t_X7_read)
set_option maxRecDepth 100000 in
theorem ok_X7_read : ct_MOk m_X7_read := ct_MOk_of 1145 83 flok_X7 (by decide +kernel) (by decide +kernel) (by decide +kernel) (by decide +kernel)
def t_X7_row : List ct_I := [(0, .iload_n 1, 1, 0), (1, .aload_n 0, 1, 0), (2, .getfield 15, 3, 449), (5, .iconst 2, 1, 0), (6, .iadd, 1, 0), (7, .idiv, 1, 0), (8, .iconst 1, 1, 0), (9, .isub, 1, 0), (10, .ireturn, 1, 0)]
def m_X7_row : ct_M := (yX7_row, cX7_row, 2, (some .int), t_X7_row)
set_option maxRecDepth 100000 in
theorem ok_X7_row : ct_MOk m_X7_row := ct_MOk_of 1256 83 flok_X7 (by decide +kernel) (by decide +kernel) (by decide +kernel) (by decide +kernel)
def t_X7_column : List ct_I := [(0, .iload_n 1, 1, 0), (1, .aload_n 0, 1, 0), (2, .getfield 15, 3, 449), (5, .iconst 2, 1, 0), (6, .iadd, 1, 0), (7, .irem, 1, 0), (8, .iconst 1, 1, 0), (9, .isub, 1, 0), (10, .ireturn, 1, 0)]
def m_X7_column : ct_M := (yX7_column, cX7_column, 2, (some .int), t_X7_column)
set_option maxRecDepth 100000 in
theorem ok_X7_column : ct_MOk m_X7_column := ct_MOk_of 1252 83 flok_X7 (by decide +kernel) (by decide +kernel) (by decide +kernel) (by decide +kernel)
def t_X7_places : List ct_I := [(0, .aload_n 0, 1, 0), (1, .getfield 15, 3, 449), (4, .iconst 2, 1, 0), (5, .iadd, 1, 0), (6, .aload_n 0, 1, 0), (7, .getfield 9, 3, 448), (10, .iconst 2, 1, 0), (11, .iadd, 1, 0), (12, .imul, 1, 0), (13, .ireturn, 1, 0)]
def m_X7_places : ct_M := (yX7_places, cX7_places, 1, (some .int), t_X7_places)
set_option maxRecDepth 100000 in
theorem ok_X7_places : ct_MOk m_X7_places := ct_MOk_of 1248 83 flok_X7 (by decide +kernel) (by decide +kernel) (by decide +kernel) (by decide +kernel)
def t_X7_placeOf : List ct_I := [(0, .aload_n 0, 1, 0), (1, .getfield 15, 3, 449), (4, .iconst 2, 1, 0), (5, .iadd, 1, 0), (6, .iload_n 1, 1, 0), (7, .aload_n 0, 1, 0), (8, .getfield 15, 3, 449), (11, .idiv, 1, 0), (12, .iconst 1, 1, 0), (13, .iadd, 1, 0), (14, .imul, 1, 0), (15, .iload_n 1, 1, 0), (16, .aload_n 0, 1, 0), (17, .getfield 15, 3, 449), (20, .irem, 1, 0), (21, .iadd, 1, 0), (22, .iconst 1, 1, 0), (23, .iadd, 1, 0), (24, .ireturn, 1, 0)]
def m_X7_placeOf : ct_M := (yX7_placeOf, cX7_placeOf, 2, (some .int), t_X7_placeOf)
set_option maxRecDepth 100000 in
theorem ok_X7_placeOf : ct_MOk m_X7_placeOf := ct_MOk_of 1407 83 flok_X7 (by decide +kernel) (by decide +kernel) (by decide +kernel) (by decide +kernel)
def t_X7_heightAt : List ct_I := [(0, .aload_n 0, 1, 0), (1, .iload_n 1, 1, 0), (2, .invokevirtual 199, 3, 0), (5, .istore_n 2, 1, 0), (6, .aload_n 0, 1, 0), (7, .iload_n 1, 1, 0), (8, .invokevirtual 202, 3, 0), (11, .istore_n 3, 1, 0), (12, .iload_n 2, 1, 0), (13, .iconst 0, 1, 0), (14, .aload_n 0, 1, 0), (15, .getfield 9, 3, 448), (18, .iconst 1, 1, 0), (19, .isub, 1, 0), (20, .invokestatic 100, 3, 0), (23, .ifCond .eq 33, 3, 0), (26, .iload_n 3, 1, 0), (27, .iconst 0, 1, 0), (28, .aload_n 0, 1, 0), (29, .getfield 15, 3, 449), (32, .iconst 1, 1, 0), (33, .isub, 1, 0), (34, .invokestatic 100, 3, 0), (37, .ifCond .eq 19, 3, 0), (40, .aload_n 0, 1, 0), (41, .getfield 18, 3, 451), (44, .iload_n 2, 1, 0), (45, .aload_n 0, 1, 0), (46, .getfield 15, 3, 449), (49, .imul, 1, 0), (50, .iload_n 3, 1, 0), (51, .iadd, 1, 0), (52, .iaload, 1, 0), (53, .goto 4, 3, 0), (56, .iconst (-1), 1, 0), (57, .ireturn, 1, 0)]
def m_X7_heightAt : ct_M := (yX7_heightAt, cX7_heightAt, 4, (some .int), t_X7_heightAt)
set_option maxRecDepth 100000 in
theorem ok_X7_heightAt : ct_MOk m_X7_heightAt := ct_MOk_of 1260 83 flok_X7 (by decide +kernel) (by decide +kernel) (by decide +kernel) (by decide +kernel)
def t_X7_otherOf : List ct_I := [(0, .iload_n 1, 1, 0), (1, .iconst 2, 1, 0), (2, .idiv, 1, 0), (3, .iload_n 1, 1, 0), (4, .iconst 2, 1, 0), (5, .irem, 1, 0), (6, .ifCond .ne 7, 3, 0), (9, .iconst 1, 1, 0), (10, .goto 9, 3, 0), (13, .aload_n 0, 1, 0), (14, .getfield 15, 3, 449), (17, .iconst 2, 1, 0), (18, .iadd, 1, 0), (19, .iadd, 1, 0), (20, .ireturn, 1, 0)]
def m_X7_otherOf : ct_M := (yX7_otherOf, cX7_otherOf, 2, (some .int), t_X7_otherOf)
set_option maxRecDepth 100000 in
theorem ok_X7_otherOf : ct_MOk m_X7_otherOf := ct_MOk_of 1264 83 flok_X7 (by decide +kernel) (by decide +kernel) (by decide +kernel) (by decide +kernel)
def t_X7_isEdge : List ct_I := [(0, .iload_n 1, 1, 0), (1, .ifCond .lt 13, 3, 0), (4, .iload_n 1, 1, 0), (5, .iconst 2, 1, 0), (6, .idiv, 1, 0), (7, .aload_n 0, 1, 0), (8, .invokevirtual 205, 3, 0), (11, .if_icmp .lt 5, 3, 0), (14, .iconst 0, 1, 0), (15, .ireturn, 1, 0), (16, .iload_n 1, 1, 0), (17, .iconst 2, 1, 0), (18, .irem, 1, 0), (19, .ifCond .ne 25, 3, 0), (22, .aload_n 0, 1, 0), (23, .iload_n 1, 1, 0), (24, .iconst 2, 1, 0), (25, .idiv, 1, 0), (26, .invokevirtual 202, 3, 0), (29, .aload_n 0, 1, 0), (30, .getfield 15, 3, 449), (33, .if_icmp .ge 7, 3, 0), (36, .iconst 1, 1, 0), (37, .goto 26, 3, 0), (40, .iconst 0, 1, 0), (41, .goto 22, 3, 0), (44, .aload_n 0, 1, 0), (45, .iload_n 1, 1, 0), (46, .iconst 2, 1, 0), (47, .idiv, 1, 0), (48, .invokevirtual 199, 3, 0), (51, .aload_n 0, 1, 0), (52, .getfield 9, 3, 448), (55, .if_icmp .ge 7, 3, 0), (58, .iconst 1, 1, 0), (59, .goto 4, 3, 0), (62, .iconst 0, 1, 0), (63, .ireturn, 1, 0)]
def m_X7_isEdge : ct_M := (yX7_isEdge, cX7_isEdge, 2, (some .boolean), t_X7_isEdge)
set_option maxRecDepth 100000 in
theorem ok_X7_isEdge : ct_MOk m_X7_isEdge := ct_MOk_of 1244 83 flok_X7 (by decide +kernel) (by decide +kernel) (by decide +kernel) (by decide +kernel)
def t_X7_squares : List ct_I := [(0, .aload_n 0, 1, 0), (1, .getfield 15, 3, 449), (4, .iconst 1, 1, 0), (5, .iadd, 1, 0), (6, .aload_n 0, 1, 0), (7, .getfield 9, 3, 448), (10, .iconst 1, 1, 0), (11, .iadd, 1, 0), (12, .imul, 1, 0), (13, .ireturn, 1, 0)]
def m_X7_squares : ct_M := (yX7_squares, cX7_squares, 1, (some .int), t_X7_squares)
set_option maxRecDepth 100000 in
theorem ok_X7_squares : ct_MOk m_X7_squares := ct_MOk_of 1359 83 flok_X7 (by decide +kernel) (by decide +kernel) (by decide +kernel) (by decide +kernel)
def t_X7_cornerOf : List ct_I := [(0, .aload_n 0, 1, 0), (1, .getfield 15, 3, 449), (4, .iconst 2, 1, 0), (5, .iadd, 1, 0), (6, .iload_n 1, 1, 0), (7, .aload_n 0, 1, 0), (8, .getfield 15, 3, 449), (11, .iconst 1, 1, 0), (12, .iadd, 1, 0), (13, .idiv, 1, 0), (14, .imul, 1, 0), (15, .iload_n 1, 1, 0), (16, .aload_n 0, 1, 0), (17, .getfield 15, 3, 449), (20, .iconst 1, 1, 0), (21, .iadd, 1, 0), (22, .irem, 1, 0), (23, .iadd, 1, 0), (24, .ireturn, 1, 0)]
def m_X7_cornerOf : ct_M := (yX7_cornerOf, cX7_cornerOf, 2, (some .int), t_X7_cornerOf)
set_option maxRecDepth 100000 in
theorem ok_X7_cornerOf : ct_MOk m_X7_cornerOf := ct_MOk_of 1284 83 flok_X7 (by decide +kernel) (by decide +kernel) (by decide +kernel) (by decide +kernel)
def t_X7_cornerAt : List ct_I := [(0, .aload_n 0, 1, 0), (1, .iload_n 1, 1, 0), (2, .invokevirtual 208, 3, 0), (5, .istore_n 3, 1, 0), (6, .iload_n 2, 1, 0), (7, .ifCond .ne 7, 3, 0), (10, .iload_n 3, 1, 0), (11, .goto 38, 3, 0), (14, .iload_n 2, 1, 0), (15, .iconst 1, 1, 0), (16, .if_icmp .ne 9, 3, 0), (19, .iload_n 3, 1, 0), (20, .iconst 1, 1, 0), (21, .iadd, 1, 0), (22, .goto 27, 3, 0), (25, .iload_n 2, 1, 0), (26, .iconst 2, 1, 0), (27, .if_icmp .ne 14, 3, 0), (30, .iload_n 3, 1, 0), (31, .aload_n 0, 1, 0), (32, .getfield 15, 3, 449), (35, .iadd, 1, 0), (36, .iconst 3, 1, 0), (37, .iadd, 1, 0), (38, .goto 11, 3, 0), (41, .iload_n 3, 1, 0), (42, .aload_n 0, 1, 0), (43, .getfield 15, 3, 449), (46, .iadd, 1, 0), (47, .iconst 2, 1, 0), (48, .iadd, 1, 0), (49, .ireturn, 1, 0)]
def m_X7_cornerAt : ct_M := (yX7_cornerAt, cX7_cornerAt, 4, (some .int), t_X7_cornerAt)
set_option maxRecDepth 100000 in
theorem ok_X7_cornerAt : ct_MOk m_X7_cornerAt := ct_MOk_of 1292 83 flok_X7 (by decide +kernel) (by decide +kernel) (by decide +kernel) (by decide +kernel)
def t_X7_caseOf : List ct_I := [(0, .iconst 0, 1, 0), (1, .istore_n 3, 1, 0), (2, .iconst 0, 1, 0), (3, .istore 4, 2, 0), (5, .iload 4, 2, 0), (7, .iconst 4, 1, 0), (8, .if_icmp .ge 31, 3, 0), (11, .aload_n 0, 1, 0), (12, .aload_n 0, 1, 0), (13, .iload_n 2, 1, 0), (14, .iload 4, 2, 0), (16, .invokevirtual 211, 3, 0), (19, .invokevirtual 214, 3, 0), (22, .iload_n 1, 1, 0), (23, .if_icmp .lt 10, 3, 0), (26, .iload_n 3, 1, 0), (27, .iconst 1, 1, 0), (28, .iload 4, 2, 0), (30, .ishl, 1, 0), (31, .ior, 1, 0), (32, .istore_n 3, 1, 0), (33, .iinc 4 1, 3, 0), (36, .goto (-31), 3, 0), (39, .iload_n 3, 1, 0), (40, .ireturn, 1, 0)]
def m_X7_caseOf : ct_M := (yX7_caseOf, cX7_caseOf, 5, (some .int), t_X7_caseOf)
set_option maxRecDepth 100000 in
theorem ok_X7_caseOf : ct_MOk m_X7_caseOf := ct_MOk_of 1288 83 flok_X7 (by decide +kernel) (by decide +kernel) (by decide +kernel) (by decide +kernel)
def t_X7_isSaddle : List ct_I := [(0, .iload_n 0, 1, 0), (1, .iconst 5, 1, 0), (2, .if_icmp .eq 9, 3, 0), (5, .iload_n 0, 1, 0), (6, .bipush 10, 2, 0), (8, .if_icmp .ne 7, 3, 0), (11, .iconst 1, 1, 0), (12, .goto 4, 3, 0), (15, .iconst 0, 1, 0), (16, .ireturn, 1, 0)]
def m_X7_isSaddle : ct_M := (yX7_isSaddle, cX7_isSaddle, 1, (some .boolean), t_X7_isSaddle)
set_option maxRecDepth 100000 in
theorem ok_X7_isSaddle : ct_MOk m_X7_isSaddle := ct_MOk_of 1295 83 flok_X7 (by decide +kernel) (by decide +kernel) (by decide +kernel) (by decide +kernel)
def t_X7_isJoined : List ct_I := [(0, .aload_n 0, 1, 0), (1, .iload_n 1, 1, 0), (2, .iload_n 2, 1, 0), (3, .invokevirtual 217, 3, 0), (6, .istore_n 3, 1, 0), (7, .iload_n 3, 1, 0), (8, .invokestatic 220, 3, 0), (11, .ifCond .ne 5, 3, 0), (14, .iconst 0, 1, 0), (15, .ireturn, 1, 0), (16, .aload_n 0, 1, 0), (17, .aload_n 0, 1, 0), (18, .iload_n 2, 1, 0), (19, .iconst 0, 1, 0), (20, .invokevirtual 211, 3, 0), (23, .invokevirtual 214, 3, 0), (26, .istore 4, 2, 0), (28, .aload_n 0, 1, 0), (29, .aload_n 0, 1, 0), (30, .iload_n 2, 1, 0), (31, .iconst 1, 1, 0), (32, .invokevirtual 211, 3, 0), (35, .invokevirtual 214, 3, 0), (38, .istore 5, 2, 0), (40, .aload_n 0, 1, 0), (41, .aload_n 0, 1, 0), (42, .iload_n 2, 1, 0), (43, .iconst 2, 1, 0), (44, .invokevirtual 211, 3, 0), (47, .invokevirtual 214, 3, 0), (50, .istore 6, 2, 0), (52, .aload_n 0, 1, 0), (53, .aload_n 0, 1, 0), (54, .iload_n 2, 1, 0), (55, .iconst 3, 1, 0), (56, .invokevirtual 211, 3, 0), (59, .invokevirtual 214, 3, 0), (62, .istore 7, 2, 0), (64, .iload 4, 2, 0), (66, .iload_n 1, 1, 0), (67, .isub, 1, 0), (68, .iload 6, 2, 0), (70, .iload_n 1, 1, 0), (71, .isub, 1, 0), (72, .imul, 1, 0), (73, .istore 8, 2, 0), (75, .iload 5, 2, 0), (77, .iload_n 1, 1, 0), (78, .isub, 1, 0), (79, .iload 7, 2, 0), (81, .iload_n 1, 1, 0), (82, .isub, 1, 0), (83, .imul, 1, 0), (84, .istore 9, 2, 0), (86, .aload_n 0, 1, 0), (87, .getfield 112, 3, 450), (90, .tableswitch 85 0 3 #[30, 32, 34, 57], 30, 0), (120, .iconst 1, 1, 0), (121, .ireturn, 1, 0), (122, .iconst 0, 1, 0), (123, .ireturn, 1, 0), (124, .iload 4, 2, 0), (126, .iload 5, 2, 0), (128, .iadd, 1, 0), (129, .iload 6, 2, 0), (131, .iadd, 1, 0), (132, .iload 7, 2, 0), (134, .iadd, 1, 0), (135, .iconst 4, 1, 0), (136, .iload_n 1, 1, 0), (137, .imul, 1, 0), (138, .if_icmp .lt 7, 3, 0), (141, .iconst 1, 1, 0), (142, .goto 4, 3, 0), (145, .iconst 0, 1, 0), (146, .ireturn, 1, 0), (147, .iload_n 2, 1, 0), (148, .aload_n 0, 1, 0), (149, .getfield 15, 3, 449), (152, .iconst 1, 1, 0), (153, .iadd, 1, 0), (154, .idiv, 1, 0), (155, .iload_n 2, 1, 0), (156, .aload_n 0, 1, 0), (157, .getfield 15, 3, 449), (160, .iconst 1, 1, 0), (161, .iadd, 1, 0), (162, .irem, 1, 0), (163, .iadd, 1, 0), (164, .iconst 2, 1, 0), (165, .irem, 1, 0), (166, .ifCond .ne 7, 3, 0), (169, .iconst 1, 1, 0), (170, .goto 4, 3, 0), (173, .iconst 0, 1, 0), (174, .ireturn, 1, 0), (175, .iload_n 3, 1, 0), (176, .iconst 5, 1, 0), (177, .if_icmp .ne 18, 3, 0), (180, .iload 8, 2, 0), (182, .iload 9, 2, 0), (184, .if_icmp .lt 7, 3, 0), (187, .iconst 1, 1, 0), (188, .goto 19, 3, 0), (191, .iconst 0, 1, 0), (192, .goto 15, 3, 0), (195, .iload 9, 2, 0), (197, .iload 8, 2, 0), (199, .if_icmp .lt 7, 3, 0), (202, .iconst 1, 1, 0), (203, .goto 4, 3, 0), (206, .iconst 0, 1, 0), (207, .ireturn, 1, 0)]
def m_X7_isJoined : ct_M := (yX7_isJoined, cX7_isJoined, 10, (some .boolean), t_X7_isJoined)
set_option maxRecDepth 100000 in
theorem ok_X7_isJoined : ct_MOk m_X7_isJoined := ct_MOk_of 1299 83 flok_X7 (by decide +kernel) (by decide +kernel) (by decide +kernel) (by decide +kernel)
def t_X7_isBack : List ct_I := [(0, .aload_n 0, 1, 0), (1, .iload_n 2, 1, 0), (2, .iconst 2, 1, 0), (3, .idiv, 1, 0), (4, .invokevirtual 214, 3, 0), (7, .iload_n 1, 1, 0), (8, .if_icmp .lt 7, 3, 0), (11, .iconst 1, 1, 0), (12, .goto 4, 3, 0), (15, .iconst 0, 1, 0), (16, .istore_n 3, 1, 0), (17, .iload_n 2, 1, 0), (18, .iconst 2, 1, 0), (19, .irem, 1, 0), (20, .ifCond .ne 7, 3, 0), (23, .iload_n 3, 1, 0), (24, .goto 12, 3, 0), (27, .iload_n 3, 1, 0), (28, .ifCond .ne 7, 3, 0), (31, .iconst 1, 1, 0), (32, .goto 4, 3, 0), (35, .iconst 0, 1, 0), (36, .ireturn, 1, 0)]
def m_X7_isBack : ct_M := (yX7_isBack, cX7_isBack, 4, (some .boolean), t_X7_isBack)
set_option maxRecDepth 100000 in
theorem ok_X7_isBack : ct_MOk m_X7_isBack := ct_MOk_of 1276 83 flok_X7 (by decide +kernel) (by decide +kernel) (by decide +kernel) (by decide +kernel)
def t_X7_signOf : List ct_I := [(0, .aload_n 0, 1, 0), (1, .iload_n 1, 1, 0), (2, .iload_n 2, 1, 0), (3, .invokevirtual 223, 3, 0), (6, .istore_n 3, 1, 0), (7, .iload_n 2, 1, 0), (8, .iconst 2, 1, 0), (9, .irem, 1, 0), (10, .ifCond .ne 17, 3, 0), (13, .iload_n 3, 1, 0), (14, .ifCond .eq 8, 3, 0), (17, .bipush 117, 2, 0), (19, .goto 19, 3, 0), (22, .bipush 100, 2, 0), (24, .goto 14, 3, 0), (27, .iload_n 3, 1, 0), (28, .ifCond .eq 8, 3, 0), (31, .bipush 108, 2, 0), (33, .goto 5, 3, 0), (36, .bipush 114, 2, 0), (38, .ireturn, 1, 0)]
def m_X7_signOf : ct_M := (yX7_signOf, cX7_signOf, 4, (some .int), t_X7_signOf)
set_option maxRecDepth 100000 in
theorem ok_X7_signOf : ct_MOk m_X7_signOf := ct_MOk_of 1423 83 flok_X7 (by decide +kernel) (by decide +kernel) (by decide +kernel) (by decide +kernel)
def t_X7_leadsTo : List ct_I := [(0, .aload_n 0, 1, 0), (1, .iload_n 2, 1, 0), (2, .iconst 2, 1, 0), (3, .idiv, 1, 0), (4, .invokevirtual 199, 3, 0), (7, .iconst 1, 1, 0), (8, .iadd, 1, 0), (9, .istore_n 3, 1, 0), (10, .aload_n 0, 1, 0), (11, .iload_n 2, 1, 0), (12, .iconst 2, 1, 0), (13, .idiv, 1, 0), (14, .invokevirtual 202, 3, 0), (17, .iconst 1, 1, 0), (18, .iadd, 1, 0), (19, .istore 4, 2, 0), (21, .iload_n 2, 1, 0), (22, .iconst 2, 1, 0), (23, .irem, 1, 0), (24, .ifCond .ne 30, 3, 0), (27, .aload_n 0, 1, 0), (28, .getfield 15, 3, 449), (31, .iconst 1, 1, 0), (32, .iadd, 1, 0), (33, .aload_n 0, 1, 0), (34, .iload_n 1, 1, 0), (35, .iload_n 2, 1, 0), (36, .invokevirtual 223, 3, 0), (39, .ifCond .eq 9, 3, 0), (42, .iload_n 3, 1, 0), (43, .iconst 1, 1, 0), (44, .isub, 1, 0), (45, .goto 4, 3, 0), (48, .iload_n 3, 1, 0), (49, .imul, 1, 0), (50, .iload 4, 2, 0), (52, .iadd, 1, 0), (53, .ireturn, 1, 0), (54, .aload_n 0, 1, 0), (55, .getfield 15, 3, 449), (58, .iconst 1, 1, 0), (59, .iadd, 1, 0), (60, .iload_n 3, 1, 0), (61, .imul, 1, 0), (62, .aload_n 0, 1, 0), (63, .iload_n 1, 1, 0), (64, .iload_n 2, 1, 0), (65, .invokevirtual 223, 3, 0), (68, .ifCond .eq 10, 3, 0), (71, .iload 4, 2, 0), (73, .iconst 1, 1, 0), (74, .isub, 1, 0), (75, .goto 5, 3, 0), (78, .iload 4, 2, 0), (80, .iadd, 1, 0), (81, .ireturn, 1, 0)]
def m_X7_leadsTo : ct_M := (yX7_leadsTo, cX7_leadsTo, 5, (some .int), t_X7_leadsTo)
set_option maxRecDepth 100000 in
theorem ok_X7_leadsTo : ct_MOk m_X7_leadsTo := ct_MOk_of 1272 83 flok_X7 (by decide +kernel) (by decide +kernel) (by decide +kernel) (by decide +kernel)
def t_X7_edgeAt : List ct_I := [(0, .aload_n 0, 1, 0), (1, .iload_n 1, 1, 0), (2, .invokevirtual 208, 3, 0), (5, .istore_n 3, 1, 0), (6, .iload_n 2, 1, 0), (7, .ifCond .ne 9, 3, 0), (10, .iconst 2, 1, 0), (11, .iload_n 3, 1, 0), (12, .imul, 1, 0), (13, .goto 39, 3, 0), (16, .iload_n 2, 1, 0), (17, .iconst 1, 1, 0), (18, .if_icmp .ne 11, 3, 0), (21, .iconst 2, 1, 0), (22, .iload_n 3, 1, 0), (23, .imul, 1, 0), (24, .iconst 3, 1, 0), (25, .iadd, 1, 0), (26, .goto 26, 3, 0), (29, .iload_n 2, 1, 0), (30, .iconst 2, 1, 0), (31, .if_icmp .ne 16, 3, 0), (34, .iconst 2, 1, 0), (35, .iload_n 3, 1, 0), (36, .aload_n 0, 1, 0), (37, .getfield 15, 3, 449), (40, .iadd, 1, 0), (41, .iconst 2, 1, 0), (42, .iadd, 1, 0), (43, .imul, 1, 0), (44, .goto 8, 3, 0), (47, .iconst 2, 1, 0), (48, .iload_n 3, 1, 0), (49, .imul, 1, 0), (50, .iconst 1, 1, 0), (51, .iadd, 1, 0), (52, .ireturn, 1, 0)]
def m_X7_edgeAt : ct_M := (yX7_edgeAt, cX7_edgeAt, 4, (some .int), t_X7_edgeAt)
set_option maxRecDepth 100000 in
theorem ok_X7_edgeAt : ct_MOk m_X7_edgeAt := ct_MOk_of 1280 83 flok_X7 (by decide +kernel) (by decide +kernel) (by decide +kernel) (by decide +kernel)
def t_X7_behind : List ct_I := [(0, .aload_n 0, 1, 0), (1, .iload_n 1, 1, 0), (2, .iload_n 2, 1, 0), (3, .invokevirtual 227, 3, 0), (6, .istore_n 3, 1, 0), (7, .iconst 0, 1, 0), (8, .istore 4, 2, 0), (10, .aload_n 0, 1, 0), (11, .iload_n 3, 1, 0), (12, .iload 4, 2, 0), (14, .invokevirtual 230, 3, 0), (17, .iload_n 2, 1, 0), (18, .if_icmp .eq 9, 3, 0), (21, .iinc 4 1, 3, 0), (24, .goto (-14), 3, 0), (27, .aload_n 0, 1, 0), (28, .iload_n 1, 1, 0), (29, .iload_n 3, 1, 0), (30, .invokevirtual 217, 3, 0), (33, .istore 5, 2, 0), (35, .iload 5, 2, 0), (37, .invokestatic 220, 3, 0), (40, .ifCond .eq 53, 3, 0), (43, .iload 5, 2, 0), (45, .bipush 10, 2, 0), (47, .if_icmp .ne 7, 3, 0), (50, .iconst 1, 1, 0), (51, .goto 4, 3, 0), (54, .iconst 0, 1, 0), (55, .aload_n 0, 1, 0), (56, .iload_n 1, 1, 0), (57, .iload_n 3, 1, 0), (58, .invokevirtual 233, 3, 0), (61, .if_icmp .ne 7, 3, 0), (64, .iconst 1, 1, 0), (65, .goto 4, 3, 0), (68, .iconst 0, 1, 0), (69, .istore 6, 2, 0), (71, .aload_n 0, 1, 0), (72, .iload_n 3, 1, 0), (73, .iload 6, 2, 0), (75, .ifCond .eq 10, 3, 0), (78, .iconst 3, 1, 0), (79, .iload 4, 2, 0), (81, .isub, 1, 0), (82, .goto 7, 3, 0), (85, .iload 4, 2, 0), (87, .iconst 1, 1, 0), (88, .ixor, 1, 0), (89, .invokevirtual 230, 3, 0), (92, .ireturn, 1, 0), (93, .iconst 0, 1, 0), (94, .istore 6, 2, 0), (96, .iload 6, 2, 0), (98, .iload 4, 2, 0), (100, .if_icmp .eq 18, 3, 0), (103, .aload_n 0, 1, 0), (104, .getfield 32, 3, 458), (107, .aload_n 0, 1, 0), (108, .iload_n 3, 1, 0), (109, .iload 6, 2, 0), (111, .invokevirtual 230, 3, 0), (114, .baload, 1, 0), (115, .ifCond .ne 9, 3, 0), (118, .iinc 6 1, 3, 0), (121, .goto (-25), 3, 0), (124, .aload_n 0, 1, 0), (125, .iload_n 3, 1, 0), (126, .iload 6, 2, 0), (128, .invokevirtual 230, 3, 0), (131, .ireturn, 1, 0)]
def m_X7_behind : ct_M := (yX7_behind, cX7_behind, 7, (some .int), t_X7_behind)
set_option maxRecDepth 100000 in
theorem ok_X7_behind : ct_MOk m_X7_behind := ct_MOk_of 1268 83 flok_X7 (by decide +kernel) (by decide +kernel) (by decide +kernel) (by decide +kernel)
def t_X7_layLines : List ct_I := [(0, .iconst 0, 1, 0), (1, .istore_n 2, 1, 0), (2, .iload_n 2, 1, 0), (3, .sipush 162, 3, 0), (6, .if_icmp .ge 73, 3, 0), (9, .aload_n 0, 1, 0), (10, .getfield 32, 3, 458), (13, .iload_n 2, 1, 0), (14, .aload_n 0, 1, 0), (15, .iload_n 2, 1, 0), (16, .invokevirtual 236, 3, 0), (19, .ifCond .eq 44, 3, 0), (22, .aload_n 0, 1, 0), (23, .iload_n 2, 1, 0), (24, .iconst 2, 1, 0), (25, .idiv, 1, 0), (26, .invokevirtual 214, 3, 0), (29, .iload_n 1, 1, 0), (30, .if_icmp .lt 7, 3, 0), (33, .iconst 1, 1, 0), (34, .goto 4, 3, 0), (37, .iconst 0, 1, 0), (38, .aload_n 0, 1, 0), (39, .aload_n 0, 1, 0), (40, .iload_n 2, 1, 0), (41, .invokevirtual 239, 3, 0), (44, .invokevirtual 214, 3, 0), (47, .iload_n 1, 1, 0), (48, .if_icmp .lt 7, 3, 0), (51, .iconst 1, 1, 0), (52, .goto 4, 3, 0), (55, .iconst 0, 1, 0), (56, .if_icmp .eq 7, 3, 0), (59, .iconst 1, 1, 0), (60, .goto 4, 3, 0), (63, .iconst 0, 1, 0), (64, .bastore, 1, 0), (65, .aload_n 0, 1, 0), (66, .getfield 36, 3, 459), (69, .iload_n 2, 1, 0), (70, .bipush (-5), 2, 0), (72, .iastore, 1, 0), (73, .iinc 2 1, 3, 0), (76, .goto (-74), 3, 0), (79, .aload_n 0, 1, 0), (80, .iconst 0, 1, 0), (81, .putfield 242, 3, 462), (84, .aload_n 0, 1, 0), (85, .iconst 0, 1, 0), (86, .putfield 245, 3, 463), (89, .iconst 0, 1, 0), (90, .istore_n 2, 1, 0), (91, .iload_n 2, 1, 0), (92, .sipush 162, 3, 0), (95, .if_icmp .ge 108, 3, 0), (98, .aload_n 0, 1, 0), (99, .getfield 32, 3, 458), (102, .iload_n 2, 1, 0), (103, .baload, 1, 0), (104, .ifCond .eq 93, 3, 0), (107, .aload_n 0, 1, 0), (108, .getfield 36, 3, 459), (111, .iload_n 2, 1, 0), (112, .iaload, 1, 0), (113, .bipush (-5), 2, 0), (115, .if_icmp .eq 6, 3, 0), (118, .goto 79, 3, 0), (121, .aload_n 0, 1, 0), (122, .getfield 42, 3, 461), (125, .aload_n 0, 1, 0), (126, .getfield 242, 3, 462), (129, .aload_n 0, 1, 0), (130, .getfield 245, 3, 463), (133, .iastore, 1, 0), (134, .iload_n 2, 1, 0), (135, .istore_n 3, 1, 0), (136, .aload_n 0, 1, 0), (137, .getfield 36, 3, 459), (140, .iload_n 3, 1, 0), (141, .iaload, 1, 0), (142, .bipush (-5), 2, 0), (144, .if_icmp .ne 43, 3, 0), (147, .aload_n 0, 1, 0), (148, .getfield 36, 3, 459), (151, .iload_n 3, 1, 0), (152, .aload_n 0, 1, 0), (153, .getfield 242, 3, 462), (156, .iastore, 1, 0), (157, .aload_n 0, 1, 0), (158, .getfield 39, 3, 460), (161, .aload_n 0, 1, 0), (162, .getfield 245, 3, 463), (165, .iload_n 3, 1, 0), (166, .iastore, 1, 0), (167, .aload_n 0, 1, 0), (168, .dup, 1, 0), (169, .getfield 245, 3, 463), (172, .iconst 1, 1, 0), (173, .iadd, 1, 0), (174, .putfield 245, 3, 463), (177, .aload_n 0, 1, 0), (178, .iload_n 1, 1, 0), (179, .iload_n 3, 1, 0), (180, .invokevirtual 248, 3, 0), (183, .istore_n 3, 1, 0), (184, .goto (-48), 3, 0), (187, .aload_n 0, 1, 0), (188, .dup, 1, 0), (189, .getfield 242, 3, 462), (192, .iconst 1, 1, 0), (193, .iadd, 1, 0), (194, .putfield 242, 3, 462), (197, .iinc 2 1, 3, 0), (200, .goto (-109), 3, 0), (203, .aload_n 0, 1, 0), (204, .getfield 42, 3, 461), (207, .aload_n 0, 1, 0), (208, .getfield 242, 3, 462), (211, .aload_n 0, 1, 0), (212, .getfield 245, 3, 463), (215, .iastore, 1, 0), (216, .return_, 1, 0)]
def m_X7_layLines : ct_M := (yX7_layLines, cX7_layLines, 4, none, t_X7_layLines)
set_option maxRecDepth 100000 in
theorem ok_X7_layLines : ct_MOk m_X7_layLines := ct_MOk_of 1240 83 flok_X7 (by decide +kernel) (by decide +kernel) (by decide +kernel) (by decide +kernel)
def t_X7_crossings : List ct_I := [(0, .iconst 0, 1, 0), (1, .istore_n 3, 1, 0), (2, .aload_n 0, 1, 0), (3, .getfield 42, 3, 461), (6, .iload_n 1, 1, 0), (7, .iaload, 1, 0), (8, .istore 4, 2, 0), (10, .iload 4, 2, 0), (12, .aload_n 0, 1, 0), (13, .getfield 42, 3, 461), (16, .iload_n 1, 1, 0), (17, .iconst 1, 1, 0), (18, .iadd, 1, 0), (19, .iaload, 1, 0), (20, .if_icmp .ge 55, 3, 0), (23, .aload_n 0, 1, 0), (24, .getfield 39, 3, 460), (27, .iload 4, 2, 0), (29, .iaload, 1, 0), (30, .iconst 2, 1, 0), (31, .idiv, 1, 0), (32, .istore 5, 2, 0), (34, .aload_n 0, 1, 0), (35, .getfield 39, 3, 460), (38, .iload 4, 2, 0), (40, .iaload, 1, 0), (41, .iconst 2, 1, 0), (42, .irem, 1, 0), (43, .ifCond .ne 26, 3, 0), (46, .aload_n 0, 1, 0), (47, .iload 5, 2, 0), (49, .invokevirtual 199, 3, 0), (52, .aload_n 0, 1, 0), (53, .iload_n 2, 1, 0), (54, .invokevirtual 199, 3, 0), (57, .if_icmp .ne 12, 3, 0), (60, .iload 5, 2, 0), (62, .iload_n 2, 1, 0), (63, .if_icmp .lt 6, 3, 0), (66, .iinc 3 1, 3, 0), (69, .iinc 4 1, 3, 0), (72, .goto (-62), 3, 0), (75, .iload_n 3, 1, 0), (76, .ireturn, 1, 0)]
def m_X7_crossings : ct_M := (yX7_crossings, cX7_crossings, 6, (some .int), t_X7_crossings)
set_option maxRecDepth 100000 in
theorem ok_X7_crossings : ct_MOk m_X7_crossings := ct_MOk_of 1347 83 flok_X7 (by decide +kernel) (by decide +kernel) (by decide +kernel) (by decide +kernel)
def t_X7_isHeld : List ct_I := [(0, .aload_n 0, 1, 0), (1, .iload_n 1, 1, 0), (2, .iload_n 2, 1, 0), (3, .invokevirtual 251, 3, 0), (6, .iconst 2, 1, 0), (7, .irem, 1, 0), (8, .iconst 1, 1, 0), (9, .if_icmp .ne 7, 3, 0), (12, .iconst 1, 1, 0), (13, .goto 4, 3, 0), (16, .iconst 0, 1, 0), (17, .ireturn, 1, 0)]
def m_X7_isHeld : ct_M := (yX7_isHeld, cX7_isHeld, 3, (some .boolean), t_X7_isHeld)
set_option maxRecDepth 100000 in
theorem ok_X7_isHeld : ct_MOk m_X7_isHeld := ct_MOk_of 1343 83 flok_X7 (by decide +kernel) (by decide +kernel) (by decide +kernel) (by decide +kernel)
def t_X7_isHeldLine : List ct_I := [(0, .iload_n 1, 1, 0), (1, .iload_n 2, 1, 0), (2, .if_icmp .eq 28, 3, 0), (5, .aload_n 0, 1, 0), (6, .iload_n 1, 1, 0), (7, .aload_n 0, 1, 0), (8, .getfield 39, 3, 460), (11, .aload_n 0, 1, 0), (12, .getfield 42, 3, 461), (15, .iload_n 2, 1, 0), (16, .iaload, 1, 0), (17, .iaload, 1, 0), (18, .iconst 2, 1, 0), (19, .idiv, 1, 0), (20, .invokevirtual 254, 3, 0), (23, .ifCond .eq 7, 3, 0), (26, .iconst 1, 1, 0), (27, .goto 4, 3, 0), (30, .iconst 0, 1, 0), (31, .ireturn, 1, 0)]
def m_X7_isHeldLine : ct_M := (yX7_isHeldLine, cX7_isHeldLine, 3, (some .boolean), t_X7_isHeldLine)
set_option maxRecDepth 100000 in
theorem ok_X7_isHeldLine : ct_MOk m_X7_isHeldLine := ct_MOk_of 1339 83 flok_X7 (by decide +kernel) (by decide +kernel) (by decide +kernel) (by decide +kernel)
def t_X7_depthOf : List ct_I := [(0, .iconst 0, 1, 0), (1, .istore_n 2, 1, 0), (2, .iconst 0, 1, 0), (3, .istore_n 3, 1, 0), (4, .iload_n 3, 1, 0), (5, .aload_n 0, 1, 0), (6, .getfield 242, 3, 462), (9, .if_icmp .ge 21, 3, 0), (12, .aload_n 0, 1, 0), (13, .iload_n 3, 1, 0), (14, .iload_n 1, 1, 0), (15, .invokevirtual 257, 3, 0), (18, .ifCond .eq 6, 3, 0), (21, .iinc 2 1, 3, 0), (24, .iinc 3 1, 3, 0), (27, .goto (-23), 3, 0), (30, .iload_n 2, 1, 0), (31, .ireturn, 1, 0)]
def m_X7_depthOf : ct_M := (yX7_depthOf, cX7_depthOf, 4, (some .int), t_X7_depthOf)
set_option maxRecDepth 100000 in
theorem ok_X7_depthOf : ct_MOk m_X7_depthOf := ct_MOk_of 1335 83 flok_X7 (by decide +kernel) (by decide +kernel) (by decide +kernel) (by decide +kernel)
def t_X7_isOuter : List ct_I := [(0, .aload_n 0, 1, 0), (1, .iload_n 1, 1, 0), (2, .invokevirtual 260, 3, 0), (5, .iconst 2, 1, 0), (6, .irem, 1, 0), (7, .ifCond .ne 7, 3, 0), (10, .iconst 1, 1, 0), (11, .goto 4, 3, 0), (14, .iconst 0, 1, 0), (15, .ireturn, 1, 0)]
def m_X7_isOuter : ct_M := (yX7_isOuter, cX7_isOuter, 2, (some .boolean), t_X7_isOuter)
set_option maxRecDepth 100000 in
theorem ok_X7_isOuter : ct_MOk m_X7_isOuter := ct_MOk_of 1331 83 flok_X7 (by decide +kernel) (by decide +kernel) (by decide +kernel) (by decide +kernel)
def t_X7_parentOf : List ct_I := [(0, .bipush (-5), 2, 0), (2, .istore_n 2, 1, 0), (3, .iconst (-1), 1, 0), (4, .istore_n 3, 1, 0), (5, .iconst 0, 1, 0), (6, .istore 4, 2, 0), (8, .iload 4, 2, 0), (10, .aload_n 0, 1, 0), (11, .getfield 242, 3, 462), (14, .if_icmp .ge 42, 3, 0), (17, .aload_n 0, 1, 0), (18, .iload 4, 2, 0), (20, .iload_n 1, 1, 0), (21, .invokevirtual 257, 3, 0), (24, .ifCond .eq 26, 3, 0), (27, .aload_n 0, 1, 0), (28, .iload 4, 2, 0), (30, .invokevirtual 260, 3, 0), (33, .iload_n 3, 1, 0), (34, .if_icmp .gt 6, 3, 0), (37, .goto 13, 3, 0), (40, .aload_n 0, 1, 0), (41, .iload 4, 2, 0), (43, .invokevirtual 260, 3, 0), (46, .istore_n 3, 1, 0), (47, .iload 4, 2, 0), (49, .istore_n 2, 1, 0), (50, .iinc 4 1, 3, 0), (53, .goto (-45), 3, 0), (56, .iload_n 2, 1, 0), (57, .ireturn, 1, 0)]
def m_X7_parentOf : ct_M := (yX7_parentOf, cX7_parentOf, 5, (some .int), t_X7_parentOf)
set_option maxRecDepth 100000 in
theorem ok_X7_parentOf : ct_MOk m_X7_parentOf := ct_MOk_of 1387 83 flok_X7 (by decide +kernel) (by decide +kernel) (by decide +kernel) (by decide +kernel)
def t_X7_lengthOf : List ct_I := [(0, .aload_n 0, 1, 0), (1, .getfield 42, 3, 461), (4, .iload_n 1, 1, 0), (5, .iconst 1, 1, 0), (6, .iadd, 1, 0), (7, .iaload, 1, 0), (8, .aload_n 0, 1, 0), (9, .getfield 42, 3, 461), (12, .iload_n 1, 1, 0), (13, .iaload, 1, 0), (14, .isub, 1, 0), (15, .ireturn, 1, 0)]
def m_X7_lengthOf : ct_M := (yX7_lengthOf, cX7_lengthOf, 2, (some .int), t_X7_lengthOf)
set_option maxRecDepth 100000 in
theorem ok_X7_lengthOf : ct_MOk m_X7_lengthOf := ct_MOk_of 1383 83 flok_X7 (by decide +kernel) (by decide +kernel) (by decide +kernel) (by decide +kernel)
def t_X7_across : List ct_I := [(0, .iconst 2, 1, 0), (1, .aload_n 0, 1, 0), (2, .iload_n 1, 1, 0), (3, .iconst 2, 1, 0), (4, .idiv, 1, 0), (5, .invokevirtual 202, 3, 0), (8, .imul, 1, 0), (9, .iload_n 1, 1, 0), (10, .iconst 2, 1, 0), (11, .irem, 1, 0), (12, .ifCond .ne 7, 3, 0), (15, .iconst 1, 1, 0), (16, .goto 4, 3, 0), (19, .iconst 0, 1, 0), (20, .iadd, 1, 0), (21, .ireturn, 1, 0)]
def m_X7_across : ct_M := (yX7_across, cX7_across, 2, (some .int), t_X7_across)
set_option maxRecDepth 100000 in
theorem ok_X7_across : ct_MOk m_X7_across := ct_MOk_of 1395 83 flok_X7 (by decide +kernel) (by decide +kernel) (by decide +kernel) (by decide +kernel)
def t_X7_down : List ct_I := [(0, .iconst 2, 1, 0), (1, .aload_n 0, 1, 0), (2, .iload_n 1, 1, 0), (3, .iconst 2, 1, 0), (4, .idiv, 1, 0), (5, .invokevirtual 199, 3, 0), (8, .imul, 1, 0), (9, .iload_n 1, 1, 0), (10, .iconst 2, 1, 0), (11, .irem, 1, 0), (12, .iadd, 1, 0), (13, .ireturn, 1, 0)]
def m_X7_down : ct_M := (yX7_down, cX7_down, 2, (some .int), t_X7_down)
set_option maxRecDepth 100000 in
theorem ok_X7_down : ct_MOk m_X7_down := ct_MOk_of 1399 83 flok_X7 (by decide +kernel) (by decide +kernel) (by decide +kernel) (by decide +kernel)
def t_X7_areaOf : List ct_I := [(0, .iconst 0, 1, 0), (1, .istore_n 2, 1, 0), (2, .aload_n 0, 1, 0), (3, .getfield 42, 3, 461), (6, .iload_n 1, 1, 0), (7, .iaload, 1, 0), (8, .istore_n 3, 1, 0), (9, .iload_n 3, 1, 0), (10, .aload_n 0, 1, 0), (11, .getfield 42, 3, 461), (14, .iload_n 1, 1, 0), (15, .iconst 1, 1, 0), (16, .iadd, 1, 0), (17, .iaload, 1, 0), (18, .if_icmp .ge 80, 3, 0), (21, .aload_n 0, 1, 0), (22, .getfield 39, 3, 460), (25, .iload_n 3, 1, 0), (26, .iaload, 1, 0), (27, .istore 4, 2, 0), (29, .aload_n 0, 1, 0), (30, .getfield 39, 3, 460), (33, .iload_n 3, 1, 0), (34, .iconst 1, 1, 0), (35, .iadd, 1, 0), (36, .aload_n 0, 1, 0), (37, .getfield 42, 3, 461), (40, .iload_n 1, 1, 0), (41, .iconst 1, 1, 0), (42, .iadd, 1, 0), (43, .iaload, 1, 0), (44, .if_icmp .ge 9, 3, 0), (47, .iload_n 3, 1, 0), (48, .iconst 1, 1, 0), (49, .iadd, 1, 0), (50, .goto 9, 3, 0), (53, .aload_n 0, 1, 0), (54, .getfield 42, 3, 461), (57, .iload_n 1, 1, 0), (58, .iaload, 1, 0), (59, .iaload, 1, 0), (60, .istore 5, 2, 0), (62, .iload_n 2, 1, 0), (63, .aload_n 0, 1, 0), (64, .iload 4, 2, 0), (66, .invokevirtual 263, 3, 0), (69, .aload_n 0, 1, 0), (70, .iload 5, 2, 0), (72, .invokevirtual 266, 3, 0), (75, .imul, 1, 0), (76, .aload_n 0, 1, 0), (77, .iload 4, 2, 0), (79, .invokevirtual 266, 3, 0), (82, .aload_n 0, 1, 0), (83, .iload 5, 2, 0), (85, .invokevirtual 263, 3, 0), (88, .imul, 1, 0), (89, .isub, 1, 0), (90, .iadd, 1, 0), (91, .istore_n 2, 1, 0), (92, .iinc 3 1, 3, 0), (95, .goto (-86), 3, 0), (98, .iload_n 2, 1, 0), (99, .invokestatic 115, 3, 0), (102, .ireturn, 1, 0)]
def m_X7_areaOf : ct_M := (yX7_areaOf, cX7_areaOf, 6, (some .int), t_X7_areaOf)
set_option maxRecDepth 100000 in
theorem ok_X7_areaOf : ct_MOk m_X7_areaOf := ct_MOk_of 1391 83 flok_X7 (by decide +kernel) (by decide +kernel) (by decide +kernel) (by decide +kernel)
def t_X7_heldOf : List ct_I := [(0, .iconst 0, 1, 0), (1, .istore_n 2, 1, 0), (2, .iconst 0, 1, 0), (3, .istore_n 3, 1, 0), (4, .iload_n 3, 1, 0), (5, .aload_n 0, 1, 0), (6, .invokevirtual 104, 3, 0), (9, .if_icmp .ge 25, 3, 0), (12, .aload_n 0, 1, 0), (13, .iload_n 1, 1, 0), (14, .aload_n 0, 1, 0), (15, .iload_n 3, 1, 0), (16, .invokevirtual 269, 3, 0), (19, .invokevirtual 254, 3, 0), (22, .ifCond .eq 6, 3, 0), (25, .iinc 2 1, 3, 0), (28, .iinc 3 1, 3, 0), (31, .goto (-27), 3, 0), (34, .iload_n 2, 1, 0), (35, .ireturn, 1, 0)]
def m_X7_heldOf : ct_M := (yX7_heldOf, cX7_heldOf, 4, (some .int), t_X7_heldOf)
set_option maxRecDepth 100000 in
theorem ok_X7_heldOf : ct_MOk m_X7_heldOf := ct_MOk_of 1403 83 flok_X7 (by decide +kernel) (by decide +kernel) (by decide +kernel) (by decide +kernel)
def t_X7_outers : List ct_I := [(0, .iconst 0, 1, 0), (1, .istore_n 1, 1, 0), (2, .iconst 0, 1, 0), (3, .istore_n 2, 1, 0), (4, .iload_n 2, 1, 0), (5, .aload_n 0, 1, 0), (6, .getfield 242, 3, 462), (9, .if_icmp .ge 20, 3, 0), (12, .aload_n 0, 1, 0), (13, .iload_n 2, 1, 0), (14, .invokevirtual 272, 3, 0), (17, .ifCond .eq 6, 3, 0), (20, .iinc 1 1, 3, 0), (23, .iinc 2 1, 3, 0), (26, .goto (-22), 3, 0), (29, .iload_n 1, 1, 0), (30, .ireturn, 1, 0)]
def m_X7_outers : ct_M := (yX7_outers, cX7_outers, 3, (some .int), t_X7_outers)
set_option maxRecDepth 100000 in
theorem ok_X7_outers : ct_MOk m_X7_outers := ct_MOk_of 1327 83 flok_X7 (by decide +kernel) (by decide +kernel) (by decide +kernel) (by decide +kernel)
def t_X7_deepest : List ct_I := [(0, .bipush (-5), 2, 0), (2, .istore_n 1, 1, 0), (3, .iconst 0, 1, 0), (4, .istore_n 2, 1, 0), (5, .iload_n 2, 1, 0), (6, .aload_n 0, 1, 0), (7, .getfield 242, 3, 462), (10, .if_icmp .ge 19, 3, 0), (13, .iload_n 1, 1, 0), (14, .aload_n 0, 1, 0), (15, .iload_n 2, 1, 0), (16, .invokevirtual 260, 3, 0), (19, .invokestatic 121, 3, 0), (22, .istore_n 1, 1, 0), (23, .iinc 2 1, 3, 0), (26, .goto (-21), 3, 0), (29, .iload_n 1, 1, 0), (30, .ireturn, 1, 0)]
def m_X7_deepest : ct_M := (yX7_deepest, cX7_deepest, 3, (some .int), t_X7_deepest)
set_option maxRecDepth 100000 in
theorem ok_X7_deepest : ct_MOk m_X7_deepest := ct_MOk_of 1363 83 flok_X7 (by decide +kernel) (by decide +kernel) (by decide +kernel) (by decide +kernel)
def t_X7_visit : List ct_I := [(0, .aload_n 0, 1, 0), (1, .getfield 18, 3, 451), (4, .iload_n 2, 1, 0), (5, .iaload, 1, 0), (6, .iload_n 1, 1, 0), (7, .if_icmp .lt 14, 3, 0), (10, .aload_n 0, 1, 0), (11, .getfield 45, 3, 464), (14, .iload_n 2, 1, 0), (15, .iaload, 1, 0), (16, .bipush (-5), 2, 0), (18, .if_icmp .eq 4, 3, 0), (21, .return_, 1, 0), (22, .aload_n 0, 1, 0), (23, .getfield 45, 3, 464), (26, .iload_n 2, 1, 0), (27, .iload_n 3, 1, 0), (28, .iastore, 1, 0), (29, .aload_n 0, 1, 0), (30, .getfield 48, 3, 465), (33, .aload_n 0, 1, 0), (34, .getfield 275, 3, 467), (37, .iload_n 2, 1, 0), (38, .iastore, 1, 0), (39, .aload_n 0, 1, 0), (40, .dup, 1, 0), (41, .getfield 275, 3, 467), (44, .iconst 1, 1, 0), (45, .iadd, 1, 0), (46, .putfield 275, 3, 467), (49, .return_, 1, 0)]
def m_X7_visit : ct_M := (yX7_visit, cX7_visit, 4, none, t_X7_visit)
set_option maxRecDepth 100000 in
theorem ok_X7_visit : ct_MOk m_X7_visit := ct_MOk_of 1314 83 flok_X7 (by decide +kernel) (by decide +kernel) (by decide +kernel) (by decide +kernel)
def t_X7_squareOf : List ct_I := [(0, .aload_n 0, 1, 0), (1, .getfield 15, 3, 449), (4, .iconst 1, 1, 0), (5, .iadd, 1, 0), (6, .iload_n 1, 1, 0), (7, .iconst 1, 1, 0), (8, .iadd, 1, 0), (9, .imul, 1, 0), (10, .iload_n 2, 1, 0), (11, .iadd, 1, 0), (12, .iconst 1, 1, 0), (13, .iadd, 1, 0), (14, .ireturn, 1, 0)]
def m_X7_squareOf : ct_M := (yX7_squareOf, cX7_squareOf, 3, (some .int), t_X7_squareOf)
set_option maxRecDepth 100000 in
theorem ok_X7_squareOf : ct_MOk m_X7_squareOf := ct_MOk_of 1323 83 flok_X7 (by decide +kernel) (by decide +kernel) (by decide +kernel) (by decide +kernel)
def t_X7_spreads : List ct_I := [(0, .iload_n 2, 1, 0), (1, .aload_n 0, 1, 0), (2, .getfield 15, 3, 449), (5, .idiv, 1, 0), (6, .istore 4, 2, 0), (8, .iload_n 2, 1, 0), (9, .aload_n 0, 1, 0), (10, .getfield 15, 3, 449), (13, .irem, 1, 0), (14, .istore 5, 2, 0), (16, .iload 4, 2, 0), (18, .iconst 1, 1, 0), (19, .isub, 1, 0), (20, .istore 6, 2, 0), (22, .iload 6, 2, 0), (24, .iload 4, 2, 0), (26, .iconst 1, 1, 0), (27, .iadd, 1, 0), (28, .if_icmp .gt 131, 3, 0), (31, .iload 5, 2, 0), (33, .iconst 1, 1, 0), (34, .isub, 1, 0), (35, .istore 7, 2, 0), (37, .iload 7, 2, 0), (39, .iload 5, 2, 0), (41, .iconst 1, 1, 0), (42, .iadd, 1, 0), (43, .if_icmp .gt 110, 3, 0), (46, .iload 6, 2, 0), (48, .iconst 0, 1, 0), (49, .aload_n 0, 1, 0), (50, .getfield 9, 3, 448), (53, .iconst 1, 1, 0), (54, .isub, 1, 0), (55, .invokestatic 100, 3, 0), (58, .ifCond .eq 89, 3, 0), (61, .iload 7, 2, 0), (63, .iconst 0, 1, 0), (64, .aload_n 0, 1, 0), (65, .getfield 15, 3, 449), (68, .iconst 1, 1, 0), (69, .isub, 1, 0), (70, .invokestatic 100, 3, 0), (73, .ifCond .ne 6, 3, 0), (76, .goto 71, 3, 0), (79, .iload 6, 2, 0), (81, .iload 4, 2, 0), (83, .if_icmp .eq 10, 3, 0), (86, .iload 7, 2, 0), (88, .iload 5, 2, 0), (90, .if_icmp .ne 7, 3, 0), (93, .iconst 1, 1, 0), (94, .goto 4, 3, 0), (97, .iconst 0, 1, 0), (98, .istore 8, 2, 0), (100, .iload 8, 2, 0), (102, .ifCond .ne 29, 3, 0), (105, .aload_n 0, 1, 0), (106, .iload_n 1, 1, 0), (107, .aload_n 0, 1, 0), (108, .iload 6, 2, 0), (110, .iload 4, 2, 0), (112, .invokestatic 278, 3, 0), (115, .iload 7, 2, 0), (117, .iload 5, 2, 0), (119, .invokestatic 278, 3, 0), (122, .invokevirtual 281, 3, 0), (125, .invokevirtual 233, 3, 0), (128, .ifCond .eq 19, 3, 0), (131, .aload_n 0, 1, 0), (132, .iload_n 1, 1, 0), (133, .iload 6, 2, 0), (135, .aload_n 0, 1, 0), (136, .getfield 15, 3, 449), (139, .imul, 1, 0), (140, .iload 7, 2, 0), (142, .iadd, 1, 0), (143, .iload_n 3, 1, 0), (144, .invokevirtual 284, 3, 0), (147, .iinc 7 1, 3, 0), (150, .goto (-113), 3, 0), (153, .iinc 6 1, 3, 0), (156, .goto (-134), 3, 0), (159, .return_, 1, 0)]
def m_X7_spreads : ct_M := (yX7_spreads, cX7_spreads, 9, none, t_X7_spreads)
set_option maxRecDepth 100000 in
theorem ok_X7_spreads : ct_MOk m_X7_spreads := ct_MOk_of 1318 83 flok_X7 (by decide +kernel) (by decide +kernel) (by decide +kernel) (by decide +kernel)
def t_X7_layLands : List ct_I := [(0, .iconst 0, 1, 0), (1, .istore_n 2, 1, 0), (2, .iload_n 2, 1, 0), (3, .bipush 49, 2, 0), (5, .if_icmp .ge 17, 3, 0), (8, .aload_n 0, 1, 0), (9, .getfield 45, 3, 464), (12, .iload_n 2, 1, 0), (13, .bipush (-5), 2, 0), (15, .iastore, 1, 0), (16, .iinc 2 1, 3, 0), (19, .goto (-17), 3, 0), (22, .aload_n 0, 1, 0), (23, .iconst 0, 1, 0), (24, .putfield 288, 3, 466), (27, .iconst 0, 1, 0), (28, .istore_n 2, 1, 0), (29, .iload_n 2, 1, 0), (30, .aload_n 0, 1, 0), (31, .invokevirtual 104, 3, 0), (34, .if_icmp .ge 96, 3, 0), (37, .aload_n 0, 1, 0), (38, .getfield 18, 3, 451), (41, .iload_n 2, 1, 0), (42, .iaload, 1, 0), (43, .iload_n 1, 1, 0), (44, .if_icmp .lt 80, 3, 0), (47, .aload_n 0, 1, 0), (48, .getfield 45, 3, 464), (51, .iload_n 2, 1, 0), (52, .iaload, 1, 0), (53, .bipush (-5), 2, 0), (55, .if_icmp .eq 6, 3, 0), (58, .goto 66, 3, 0), (61, .aload_n 0, 1, 0), (62, .iconst 0, 1, 0), (63, .putfield 275, 3, 467), (66, .aload_n 0, 1, 0), (67, .iload_n 1, 1, 0), (68, .iload_n 2, 1, 0), (69, .aload_n 0, 1, 0), (70, .getfield 288, 3, 466), (73, .invokevirtual 284, 3, 0), (76, .aload_n 0, 1, 0), (77, .getfield 275, 3, 467), (80, .ifCond .le 34, 3, 0), (83, .aload_n 0, 1, 0), (84, .dup, 1, 0), (85, .getfield 275, 3, 467), (88, .iconst 1, 1, 0), (89, .isub, 1, 0), (90, .putfield 275, 3, 467), (93, .aload_n 0, 1, 0), (94, .iload_n 1, 1, 0), (95, .aload_n 0, 1, 0), (96, .getfield 48, 3, 465), (99, .aload_n 0, 1, 0), (100, .getfield 275, 3, 467), (103, .iaload, 1, 0), (104, .aload_n 0, 1, 0), (105, .getfield 288, 3, 466), (108, .invokevirtual 291, 3, 0), (111, .goto (-35), 3, 0), (114, .aload_n 0, 1, 0), (115, .dup, 1, 0), (116, .getfield 288, 3, 466), (119, .iconst 1, 1, 0), (120, .iadd, 1, 0), (121, .putfield 288, 3, 466), (124, .iinc 2 1, 3, 0), (127, .goto (-98), 3, 0), (130, .return_, 1, 0)]
def m_X7_layLands : ct_M := (yX7_layLands, cX7_layLands, 3, none, t_X7_layLands)
set_option maxRecDepth 100000 in
theorem ok_X7_layLands : ct_MOk m_X7_layLands := ct_MOk_of 1310 83 flok_X7 (by decide +kernel) (by decide +kernel) (by decide +kernel) (by decide +kernel)
def t_X7_leastOf : List ct_I := [(0, .iconst 0, 1, 0), (1, .istore_n 2, 1, 0), (2, .aload_n 0, 1, 0), (3, .getfield 45, 3, 464), (6, .iload_n 2, 1, 0), (7, .iaload, 1, 0), (8, .iload_n 1, 1, 0), (9, .if_icmp .eq 9, 3, 0), (12, .iinc 2 1, 3, 0), (15, .goto (-13), 3, 0), (18, .iload_n 2, 1, 0), (19, .ireturn, 1, 0)]
def m_X7_leastOf : ct_M := (yX7_leastOf, cX7_leastOf, 3, (some .int), t_X7_leastOf)
set_option maxRecDepth 100000 in
theorem ok_X7_leastOf : ct_MOk m_X7_leastOf := ct_MOk_of 1439 83 flok_X7 (by decide +kernel) (by decide +kernel) (by decide +kernel) (by decide +kernel)
def t_X7_sizeOf : List ct_I := [(0, .iconst 0, 1, 0), (1, .istore_n 2, 1, 0), (2, .iconst 0, 1, 0), (3, .istore_n 3, 1, 0), (4, .iload_n 3, 1, 0), (5, .aload_n 0, 1, 0), (6, .invokevirtual 104, 3, 0), (9, .if_icmp .ge 22, 3, 0), (12, .aload_n 0, 1, 0), (13, .getfield 45, 3, 464), (16, .iload_n 3, 1, 0), (17, .iaload, 1, 0), (18, .iload_n 1, 1, 0), (19, .if_icmp .ne 6, 3, 0), (22, .iinc 2 1, 3, 0), (25, .iinc 3 1, 3, 0), (28, .goto (-24), 3, 0), (31, .iload_n 2, 1, 0), (32, .ireturn, 1, 0)]
def m_X7_sizeOf : ct_M := (yX7_sizeOf, cX7_sizeOf, 4, (some .int), t_X7_sizeOf)
set_option maxRecDepth 100000 in
theorem ok_X7_sizeOf : ct_MOk m_X7_sizeOf := ct_MOk_of 1443 83 flok_X7 (by decide +kernel) (by decide +kernel) (by decide +kernel) (by decide +kernel)
def t_X7_topOf : List ct_I := [(0, .iconst 0, 1, 0), (1, .istore_n 2, 1, 0), (2, .iconst 0, 1, 0), (3, .istore_n 3, 1, 0), (4, .iload_n 3, 1, 0), (5, .aload_n 0, 1, 0), (6, .invokevirtual 104, 3, 0), (9, .if_icmp .ge 30, 3, 0), (12, .aload_n 0, 1, 0), (13, .getfield 45, 3, 464), (16, .iload_n 3, 1, 0), (17, .iaload, 1, 0), (18, .iload_n 1, 1, 0), (19, .if_icmp .ne 14, 3, 0), (22, .iload_n 2, 1, 0), (23, .aload_n 0, 1, 0), (24, .getfield 18, 3, 451), (27, .iload_n 3, 1, 0), (28, .iaload, 1, 0), (29, .invokestatic 121, 3, 0), (32, .istore_n 2, 1, 0), (33, .iinc 3 1, 3, 0), (36, .goto (-32), 3, 0), (39, .iload_n 2, 1, 0), (40, .ireturn, 1, 0)]
def m_X7_topOf : ct_M := (yX7_topOf, cX7_topOf, 4, (some .int), t_X7_topOf)
set_option maxRecDepth 100000 in
theorem ok_X7_topOf : ct_MOk m_X7_topOf := ct_MOk_of 1447 83 flok_X7 (by decide +kernel) (by decide +kernel) (by decide +kernel) (by decide +kernel)
def t_X7_landAt : List ct_I := [(0, .aload_n 0, 1, 0), (1, .iload_n 1, 1, 0), (2, .invokevirtual 199, 3, 0), (5, .istore_n 2, 1, 0), (6, .aload_n 0, 1, 0), (7, .iload_n 1, 1, 0), (8, .invokevirtual 202, 3, 0), (11, .istore_n 3, 1, 0), (12, .iload_n 2, 1, 0), (13, .iconst 0, 1, 0), (14, .aload_n 0, 1, 0), (15, .getfield 9, 3, 448), (18, .iconst 1, 1, 0), (19, .isub, 1, 0), (20, .invokestatic 100, 3, 0), (23, .ifCond .eq 33, 3, 0), (26, .iload_n 3, 1, 0), (27, .iconst 0, 1, 0), (28, .aload_n 0, 1, 0), (29, .getfield 15, 3, 449), (32, .iconst 1, 1, 0), (33, .isub, 1, 0), (34, .invokestatic 100, 3, 0), (37, .ifCond .eq 19, 3, 0), (40, .aload_n 0, 1, 0), (41, .getfield 45, 3, 464), (44, .iload_n 2, 1, 0), (45, .aload_n 0, 1, 0), (46, .getfield 15, 3, 449), (49, .imul, 1, 0), (50, .iload_n 3, 1, 0), (51, .iadd, 1, 0), (52, .iaload, 1, 0), (53, .goto 5, 3, 0), (56, .bipush (-5), 2, 0), (58, .ireturn, 1, 0)]
def m_X7_landAt : ct_M := (yX7_landAt, cX7_landAt, 4, (some .int), t_X7_landAt)
set_option maxRecDepth 100000 in
theorem ok_X7_landAt : ct_MOk m_X7_landAt := ct_MOk_of 1459 83 flok_X7 (by decide +kernel) (by decide +kernel) (by decide +kernel) (by decide +kernel)
def t_X7_isAtLand : List ct_I := [(0, .aload_n 0, 1, 0), (1, .getfield 42, 3, 461), (4, .iload_n 1, 1, 0), (5, .iaload, 1, 0), (6, .istore_n 3, 1, 0), (7, .iload_n 3, 1, 0), (8, .aload_n 0, 1, 0), (9, .getfield 42, 3, 461), (12, .iload_n 1, 1, 0), (13, .iconst 1, 1, 0), (14, .iadd, 1, 0), (15, .iaload, 1, 0), (16, .if_icmp .ge 45, 3, 0), (19, .aload_n 0, 1, 0), (20, .aload_n 0, 1, 0), (21, .getfield 39, 3, 460), (24, .iload_n 3, 1, 0), (25, .iaload, 1, 0), (26, .iconst 2, 1, 0), (27, .idiv, 1, 0), (28, .invokevirtual 294, 3, 0), (31, .iload_n 2, 1, 0), (32, .if_icmp .eq 21, 3, 0), (35, .aload_n 0, 1, 0), (36, .aload_n 0, 1, 0), (37, .aload_n 0, 1, 0), (38, .getfield 39, 3, 460), (41, .iload_n 3, 1, 0), (42, .iaload, 1, 0), (43, .invokevirtual 239, 3, 0), (46, .invokevirtual 294, 3, 0), (49, .iload_n 2, 1, 0), (50, .if_icmp .ne 5, 3, 0), (53, .iconst 1, 1, 0), (54, .ireturn, 1, 0), (55, .iinc 3 1, 3, 0), (58, .goto (-51), 3, 0), (61, .iconst 0, 1, 0), (62, .ireturn, 1, 0)]
def m_X7_isAtLand : ct_M := (yX7_isAtLand, cX7_isAtLand, 4, (some .boolean), t_X7_isAtLand)
set_option maxRecDepth 100000 in
theorem ok_X7_isAtLand : ct_MOk m_X7_isAtLand := ct_MOk_of 1455 83 flok_X7 (by decide +kernel) (by decide +kernel) (by decide +kernel) (by decide +kernel)
def t_X7_holesOf : List ct_I := [(0, .iconst 0, 1, 0), (1, .istore_n 2, 1, 0), (2, .iconst 0, 1, 0), (3, .istore_n 3, 1, 0), (4, .iload_n 3, 1, 0), (5, .aload_n 0, 1, 0), (6, .getfield 242, 3, 462), (9, .if_icmp .ge 29, 3, 0), (12, .aload_n 0, 1, 0), (13, .iload_n 3, 1, 0), (14, .invokevirtual 272, 3, 0), (17, .ifCond .ne 15, 3, 0), (20, .aload_n 0, 1, 0), (21, .iload_n 3, 1, 0), (22, .iload_n 1, 1, 0), (23, .invokevirtual 297, 3, 0), (26, .ifCond .eq 6, 3, 0), (29, .iinc 2 1, 3, 0), (32, .iinc 3 1, 3, 0), (35, .goto (-31), 3, 0), (38, .iload_n 2, 1, 0), (39, .ireturn, 1, 0)]
def m_X7_holesOf : ct_M := (yX7_holesOf, cX7_holesOf, 4, (some .int), t_X7_holesOf)
set_option maxRecDepth 100000 in
theorem ok_X7_holesOf : ct_MOk m_X7_holesOf := ct_MOk_of 1451 83 flok_X7 (by decide +kernel) (by decide +kernel) (by decide +kernel) (by decide +kernel)
def t_X7_above : List ct_I := [(0, .iconst 0, 1, 0), (1, .aload_n 0, 1, 0), (2, .getfield 18, 3, 451), (5, .iload_n 2, 1, 0), (6, .iaload, 1, 0), (7, .iload_n 1, 1, 0), (8, .isub, 1, 0), (9, .invokestatic 121, 3, 0), (12, .ireturn, 1, 0)]
def m_X7_above : ct_M := (yX7_above, cX7_above, 3, (some .int), t_X7_above)
set_option maxRecDepth 100000 in
theorem ok_X7_above : ct_MOk m_X7_above := ct_MOk_of 1228 83 flok_X7 (by decide +kernel) (by decide +kernel) (by decide +kernel) (by decide +kernel)
def t_X7_volume : List ct_I := [(0, .iconst 0, 1, 0), (1, .istore_n 2, 1, 0), (2, .iconst 0, 1, 0), (3, .istore_n 3, 1, 0), (4, .iload_n 3, 1, 0), (5, .iconst 1, 1, 0), (6, .iadd, 1, 0), (7, .aload_n 0, 1, 0), (8, .getfield 9, 3, 448), (11, .if_icmp .ge 88, 3, 0), (14, .iconst 0, 1, 0), (15, .istore 4, 2, 0), (17, .iload 4, 2, 0), (19, .iconst 1, 1, 0), (20, .iadd, 1, 0), (21, .aload_n 0, 1, 0), (22, .getfield 15, 3, 449), (25, .if_icmp .ge 68, 3, 0), (28, .iload_n 3, 1, 0), (29, .aload_n 0, 1, 0), (30, .getfield 15, 3, 449), (33, .imul, 1, 0), (34, .iload 4, 2, 0), (36, .iadd, 1, 0), (37, .istore 5, 2, 0), (39, .iload_n 2, 1, 0), (40, .aload_n 0, 1, 0), (41, .iload_n 1, 1, 0), (42, .iload 5, 2, 0), (44, .invokevirtual 300, 3, 0), (47, .aload_n 0, 1, 0), (48, .iload_n 1, 1, 0), (49, .iload 5, 2, 0), (51, .iconst 1, 1, 0), (52, .iadd, 1, 0), (53, .invokevirtual 300, 3, 0), (56, .iadd, 1, 0), (57, .aload_n 0, 1, 0), (58, .iload_n 1, 1, 0), (59, .iload 5, 2, 0), (61, .aload_n 0, 1, 0), (62, .getfield 15, 3, 449), (65, .iadd, 1, 0), (66, .invokevirtual 300, 3, 0), (69, .iadd, 1, 0), (70, .aload_n 0, 1, 0), (71, .iload_n 1, 1, 0), (72, .iload 5, 2, 0), (74, .aload_n 0, 1, 0), (75, .getfield 15, 3, 449), (78, .iadd, 1, 0), (79, .iconst 1, 1, 0), (80, .iadd, 1, 0), (81, .invokevirtual 300, 3, 0), (84, .iadd, 1, 0), (85, .iadd, 1, 0), (86, .istore_n 2, 1, 0), (87, .iinc 4 1, 3, 0), (90, .goto (-73), 3, 0), (93, .iinc 3 1, 3, 0), (96, .goto (-92), 3, 0), (99, .iload_n 2, 1, 0), (100, .ireturn, 1, 0)]
def m_X7_volume : ct_M := (yX7_volume, cX7_volume, 6, (some .int), t_X7_volume)
set_option maxRecDepth 100000 in
theorem ok_X7_volume : ct_MOk m_X7_volume := ct_MOk_of 1224 83 flok_X7 (by decide +kernel) (by decide +kernel) (by decide +kernel) (by decide +kernel)
def t_X7_of : List ct_I := [(0, .aload_n 0, 1, 0), (1, .iload_n 1, 1, 0), (2, .invokevirtual 108, 3, 0), (5, .ifCond .eq 12, 3, 0), (8, .aload_n 0, 1, 0), (9, .getfield 18, 3, 451), (12, .iload_n 1, 1, 0), (13, .iaload, 1, 0), (14, .goto 4, 3, 0), (17, .iconst (-1), 1, 0), (18, .ireturn, 1, 0)]
def m_X7_of : ct_M := (yX7_of, cX7_of, 2, (some .int), t_X7_of)
set_option maxRecDepth 100000 in
theorem ok_X7_of : ct_MOk m_X7_of := ct_MOk_of 1208 83 flok_X7 (by decide +kernel) (by decide +kernel) (by decide +kernel) (by decide +kernel)
def t_X7_top : List ct_I := [(0, .iconst 0, 1, 0), (1, .istore_n 1, 1, 0), (2, .iconst 0, 1, 0), (3, .istore_n 2, 1, 0), (4, .iload_n 2, 1, 0), (5, .aload_n 0, 1, 0), (6, .invokevirtual 104, 3, 0), (9, .if_icmp .ge 26, 3, 0), (12, .aload_n 0, 1, 0), (13, .getfield 18, 3, 451), (16, .iload_n 2, 1, 0), (17, .iaload, 1, 0), (18, .aload_n 0, 1, 0), (19, .getfield 18, 3, 451), (22, .iload_n 1, 1, 0), (23, .iaload, 1, 0), (24, .if_icmp .le 5, 3, 0), (27, .iload_n 2, 1, 0), (28, .istore_n 1, 1, 0), (29, .iinc 2 1, 3, 0), (32, .goto (-28), 3, 0), (35, .iload_n 1, 1, 0), (36, .ireturn, 1, 0)]
def m_X7_top : ct_M := (yX7_top, cX7_top, 3, (some .int), t_X7_top)
set_option maxRecDepth 100000 in
theorem ok_X7_top : ct_MOk m_X7_top := ct_MOk_of 1216 83 flok_X7 (by decide +kernel) (by decide +kernel) (by decide +kernel) (by decide +kernel)
def t_X7_half : List ct_I := [(0, .aload_n 0, 1, 0), (1, .iconst 0, 1, 0), (2, .invokevirtual 303, 3, 0), (5, .istore_n 1, 1, 0), (6, .bipush 99, 2, 0), (8, .istore_n 2, 1, 0), (9, .iconst 2, 1, 0), (10, .aload_n 0, 1, 0), (11, .iload_n 2, 1, 0), (12, .invokevirtual 303, 3, 0), (15, .imul, 1, 0), (16, .iload_n 1, 1, 0), (17, .if_icmp .ge 9, 3, 0), (20, .iinc 2 (-1), 3, 0), (23, .goto (-14), 3, 0), (26, .iload_n 2, 1, 0), (27, .ireturn, 1, 0)]
def m_X7_half : ct_M := (yX7_half, cX7_half, 3, (some .int), t_X7_half)
set_option maxRecDepth 100000 in
theorem ok_X7_half : ct_MOk m_X7_half := ct_MOk_of 1220 83 flok_X7 (by decide +kernel) (by decide +kernel) (by decide +kernel) (by decide +kernel)
def t_X7_linesAt : List ct_I := [(0, .aload_n 0, 1, 0), (1, .iload_n 1, 1, 0), (2, .invokevirtual 306, 3, 0), (5, .aload_n 0, 1, 0), (6, .getfield 242, 3, 462), (9, .ireturn, 1, 0)]
def m_X7_linesAt : ct_M := (yX7_linesAt, cX7_linesAt, 2, (some .int), t_X7_linesAt)
set_option maxRecDepth 100000 in
theorem ok_X7_linesAt : ct_MOk m_X7_linesAt := ct_MOk_of 1236 83 flok_X7 (by decide +kernel) (by decide +kernel) (by decide +kernel) (by decide +kernel)
def t_X7_busy : List ct_I := [(0, .iconst 0, 1, 0), (1, .istore_n 1, 1, 0), (2, .aload_n 0, 1, 0), (3, .iconst 0, 1, 0), (4, .invokevirtual 310, 3, 0), (7, .istore_n 2, 1, 0), (8, .iconst 1, 1, 0), (9, .istore_n 3, 1, 0), (10, .iload_n 3, 1, 0), (11, .bipush 100, 2, 0), (13, .if_icmp .ge 30, 3, 0), (16, .aload_n 0, 1, 0), (17, .iload_n 3, 1, 0), (18, .invokevirtual 310, 3, 0), (21, .istore 4, 2, 0), (23, .iload 4, 2, 0), (25, .iload_n 2, 1, 0), (26, .if_icmp .gt 6, 3, 0), (29, .goto 8, 3, 0), (32, .iload 4, 2, 0), (34, .istore_n 2, 1, 0), (35, .iload_n 3, 1, 0), (36, .istore_n 1, 1, 0), (37, .iinc 3 1, 3, 0), (40, .goto (-30), 3, 0), (43, .iload_n 1, 1, 0), (44, .ireturn, 1, 0)]
def m_X7_busy : ct_M := (yX7_busy, cX7_busy, 5, (some .int), t_X7_busy)
set_option maxRecDepth 100000 in
theorem ok_X7_busy : ct_MOk m_X7_busy := ct_MOk_of 1232 83 flok_X7 (by decide +kernel) (by decide +kernel) (by decide +kernel) (by decide +kernel)
def t_X7_told : List ct_I := [(0, .iload_n 1, 1, 0), (1, .tableswitch 96 0 7 #[47, 52, 57, 62, 72, 77, 82, 87], 47, 0), (48, .aload_n 0, 1, 0), (49, .getfield 9, 3, 448), (52, .ireturn, 1, 0), (53, .aload_n 0, 1, 0), (54, .getfield 15, 3, 449), (57, .ireturn, 1, 0), (58, .aload_n 0, 1, 0), (59, .getfield 112, 3, 450), (62, .ireturn, 1, 0), (63, .aload_n 0, 1, 0), (64, .getfield 18, 3, 451), (67, .aload_n 0, 1, 0), (68, .invokevirtual 313, 3, 0), (71, .iaload, 1, 0), (72, .ireturn, 1, 0), (73, .aload_n 0, 1, 0), (74, .invokevirtual 313, 3, 0), (77, .ireturn, 1, 0), (78, .aload_n 0, 1, 0), (79, .invokevirtual 316, 3, 0), (82, .ireturn, 1, 0), (83, .aload_n 0, 1, 0), (84, .invokevirtual 319, 3, 0), (87, .ireturn, 1, 0), (88, .aload_n 0, 1, 0), (89, .aload_n 0, 1, 0), (90, .invokevirtual 319, 3, 0), (93, .invokevirtual 310, 3, 0), (96, .ireturn, 1, 0), (97, .iconst (-1), 1, 0), (98, .ireturn, 1, 0)]
def m_X7_told : ct_M := (yX7_told, cX7_told, 2, (some .int), t_X7_told)
set_option maxRecDepth 100000 in
theorem ok_X7_told : ct_MOk m_X7_told := ct_MOk_of 1212 83 flok_X7 (by decide +kernel) (by decide +kernel) (by decide +kernel) (by decide +kernel)
def t_X7_pointsIn : List ct_I := [(0, .iconst 0, 1, 0), (1, .istore_n 2, 1, 0), (2, .iconst 0, 1, 0), (3, .istore_n 3, 1, 0), (4, .iload_n 3, 1, 0), (5, .aload_n 0, 1, 0), (6, .invokevirtual 104, 3, 0), (9, .if_icmp .ge 22, 3, 0), (12, .aload_n 0, 1, 0), (13, .getfield 18, 3, 451), (16, .iload_n 3, 1, 0), (17, .iaload, 1, 0), (18, .iload_n 1, 1, 0), (19, .if_icmp .lt 6, 3, 0), (22, .iinc 2 1, 3, 0), (25, .iinc 3 1, 3, 0), (28, .goto (-24), 3, 0), (31, .iload_n 2, 1, 0), (32, .ireturn, 1, 0)]
def m_X7_pointsIn : ct_M := (yX7_pointsIn, cX7_pointsIn, 4, (some .int), t_X7_pointsIn)
set_option maxRecDepth 100000 in
theorem ok_X7_pointsIn : ct_MOk m_X7_pointsIn := ct_MOk_of 1351 83 flok_X7 (by decide +kernel) (by decide +kernel) (by decide +kernel) (by decide +kernel)
def t_X7_saddles : List ct_I := [(0, .iconst 0, 1, 0), (1, .istore_n 3, 1, 0), (2, .iconst 0, 1, 0), (3, .istore 4, 2, 0), (5, .iload 4, 2, 0), (7, .aload_n 0, 1, 0), (8, .invokevirtual 322, 3, 0), (11, .if_icmp .ge 42, 3, 0), (14, .iload_n 2, 1, 0), (15, .ifCond .eq 16, 3, 0), (18, .aload_n 0, 1, 0), (19, .iload_n 1, 1, 0), (20, .iload 4, 2, 0), (22, .invokevirtual 233, 3, 0), (25, .ifCond .eq 22, 3, 0), (28, .goto 16, 3, 0), (31, .aload_n 0, 1, 0), (32, .iload_n 1, 1, 0), (33, .iload 4, 2, 0), (35, .invokevirtual 217, 3, 0), (38, .invokestatic 220, 3, 0), (41, .ifCond .eq 6, 3, 0), (44, .iinc 3 1, 3, 0), (47, .iinc 4 1, 3, 0), (50, .goto (-45), 3, 0), (53, .iload_n 3, 1, 0), (54, .ireturn, 1, 0)]
def m_X7_saddles : ct_M := (yX7_saddles, cX7_saddles, 5, (some .int), t_X7_saddles)
set_option maxRecDepth 100000 in
theorem ok_X7_saddles : ct_MOk m_X7_saddles := ct_MOk_of 1355 83 flok_X7 (by decide +kernel) (by decide +kernel) (by decide +kernel) (by decide +kernel)
def t_X7_at : List ct_I := [(0, .iload_n 1, 1, 0), (1, .invokestatic 325, 3, 0), (4, .ifCond .ne 6, 3, 0), (7, .bipush (-2), 2, 0), (9, .ireturn, 1, 0), (10, .iload_n 2, 1, 0), (11, .iconst 0, 1, 0), (12, .bipush 7, 2, 0), (14, .invokestatic 100, 3, 0), (17, .ifCond .ne 5, 3, 0), (20, .iconst (-1), 1, 0), (21, .ireturn, 1, 0), (22, .aload_n 0, 1, 0), (23, .iload_n 1, 1, 0), (24, .invokevirtual 306, 3, 0), (27, .aload_n 0, 1, 0), (28, .iload_n 1, 1, 0), (29, .invokevirtual 328, 3, 0), (32, .iload_n 2, 1, 0), (33, .tableswitch 84 0 6 #[43, 48, 53, 58, 64, 71, 78], 43, 0), (76, .aload_n 0, 1, 0), (77, .getfield 242, 3, 462), (80, .ireturn, 1, 0), (81, .aload_n 0, 1, 0), (82, .invokevirtual 331, 3, 0), (85, .ireturn, 1, 0), (86, .aload_n 0, 1, 0), (87, .getfield 288, 3, 466), (90, .ireturn, 1, 0), (91, .aload_n 0, 1, 0), (92, .iload_n 1, 1, 0), (93, .invokevirtual 334, 3, 0), (96, .ireturn, 1, 0), (97, .aload_n 0, 1, 0), (98, .iload_n 1, 1, 0), (99, .iconst 0, 1, 0), (100, .invokevirtual 337, 3, 0), (103, .ireturn, 1, 0), (104, .aload_n 0, 1, 0), (105, .iload_n 1, 1, 0), (106, .iconst 1, 1, 0), (107, .invokevirtual 337, 3, 0), (110, .ireturn, 1, 0), (111, .aload_n 0, 1, 0), (112, .iload_n 1, 1, 0), (113, .invokevirtual 303, 3, 0), (116, .ireturn, 1, 0), (117, .aload_n 0, 1, 0), (118, .invokevirtual 341, 3, 0), (121, .ireturn, 1, 0)]
def m_X7_at : ct_M := (yX7_at, cX7_at, 3, (some .int), t_X7_at)
set_option maxRecDepth 100000 in
theorem ok_X7_at : ct_MOk m_X7_at := ct_MOk_of 1303 83 flok_X7 (by decide +kernel) (by decide +kernel) (by decide +kernel) (by decide +kernel)
def t_X7_square : List ct_I := [(0, .iload_n 1, 1, 0), (1, .invokestatic 325, 3, 0), (4, .ifCond .ne 6, 3, 0), (7, .bipush (-2), 2, 0), (9, .ireturn, 1, 0), (10, .iload_n 2, 1, 0), (11, .iconst 0, 1, 0), (12, .aload_n 0, 1, 0), (13, .invokevirtual 322, 3, 0), (16, .iconst 1, 1, 0), (17, .isub, 1, 0), (18, .invokestatic 100, 3, 0), (21, .ifCond .eq 12, 3, 0), (24, .iload_n 3, 1, 0), (25, .iconst 0, 1, 0), (26, .iconst 1, 1, 0), (27, .invokestatic 100, 3, 0), (30, .ifCond .ne 5, 3, 0), (33, .iconst (-1), 1, 0), (34, .ireturn, 1, 0), (35, .iload_n 3, 1, 0), (36, .ifCond .ne 12, 3, 0), (39, .aload_n 0, 1, 0), (40, .iload_n 1, 1, 0), (41, .iload_n 2, 1, 0), (42, .invokevirtual 217, 3, 0), (45, .goto 17, 3, 0), (48, .aload_n 0, 1, 0), (49, .iload_n 1, 1, 0), (50, .iload_n 2, 1, 0), (51, .invokevirtual 233, 3, 0), (54, .ifCond .eq 7, 3, 0), (57, .iconst 1, 1, 0), (58, .goto 4, 3, 0), (61, .iconst 0, 1, 0), (62, .ireturn, 1, 0)]
def m_X7_square : ct_M := (yX7_square, cX7_square, 4, (some .int), t_X7_square)
set_option maxRecDepth 100000 in
theorem ok_X7_square : ct_MOk m_X7_square := ct_MOk_of 1367 83 flok_X7 (by decide +kernel) (by decide +kernel) (by decide +kernel) (by decide +kernel)
def t_X7_edge : List ct_I := [(0, .iload_n 1, 1, 0), (1, .invokestatic 325, 3, 0), (4, .ifCond .ne 6, 3, 0), (7, .bipush (-2), 2, 0), (9, .ireturn, 1, 0), (10, .aload_n 0, 1, 0), (11, .iload_n 2, 1, 0), (12, .invokevirtual 236, 3, 0), (15, .ifCond .ne 5, 3, 0), (18, .iconst (-1), 1, 0), (19, .ireturn, 1, 0), (20, .aload_n 0, 1, 0), (21, .iload_n 1, 1, 0), (22, .invokevirtual 306, 3, 0), (25, .aload_n 0, 1, 0), (26, .getfield 36, 3, 459), (29, .iload_n 2, 1, 0), (30, .iaload, 1, 0), (31, .ireturn, 1, 0)]
def m_X7_edge : ct_M := (yX7_edge, cX7_edge, 3, (some .int), t_X7_edge)
set_option maxRecDepth 100000 in
theorem ok_X7_edge : ct_MOk m_X7_edge := ct_MOk_of 1371 83 flok_X7 (by decide +kernel) (by decide +kernel) (by decide +kernel) (by decide +kernel)
def t_X7_asked : List ct_I := [(0, .iload_n 1, 1, 0), (1, .invokestatic 325, 3, 0), (4, .ifCond .ne 6, 3, 0), (7, .bipush (-2), 2, 0), (9, .ireturn, 1, 0), (10, .aload_n 0, 1, 0), (11, .iload_n 1, 1, 0), (12, .invokevirtual 306, 3, 0), (15, .iload_n 2, 1, 0), (16, .iconst 0, 1, 0), (17, .aload_n 0, 1, 0), (18, .getfield 242, 3, 462), (21, .iconst 1, 1, 0), (22, .isub, 1, 0), (23, .invokestatic 100, 3, 0), (26, .ifCond .eq 7, 3, 0), (29, .iconst 0, 1, 0), (30, .goto 4, 3, 0), (33, .iconst (-1), 1, 0), (34, .ireturn, 1, 0)]
def m_X7_asked : ct_M := (yX7_asked, cX7_asked, 3, (some .int), t_X7_asked)
set_option maxRecDepth 100000 in
theorem ok_X7_asked : ct_MOk m_X7_asked := ct_MOk_of 1379 83 flok_X7 (by decide +kernel) (by decide +kernel) (by decide +kernel) (by decide +kernel)
def t_X7_line : List ct_I := [(0, .aload_n 0, 1, 0), (1, .iload_n 1, 1, 0), (2, .iload_n 2, 1, 0), (3, .invokevirtual 344, 3, 0), (6, .istore 4, 2, 0), (8, .iload 4, 2, 0), (10, .ifCond .eq 6, 3, 0), (13, .iload 4, 2, 0), (15, .ireturn, 1, 0), (16, .iload_n 3, 1, 0), (17, .tableswitch 99 0 6 #[43, 55, 61, 67, 73, 87, 93], 43, 0), (60, .aload_n 0, 1, 0), (61, .getfield 39, 3, 460), (64, .aload_n 0, 1, 0), (65, .getfield 42, 3, 461), (68, .iload_n 2, 1, 0), (69, .iaload, 1, 0), (70, .iaload, 1, 0), (71, .ireturn, 1, 0), (72, .aload_n 0, 1, 0), (73, .iload_n 2, 1, 0), (74, .invokevirtual 347, 3, 0), (77, .ireturn, 1, 0), (78, .aload_n 0, 1, 0), (79, .iload_n 2, 1, 0), (80, .invokevirtual 260, 3, 0), (83, .ireturn, 1, 0), (84, .aload_n 0, 1, 0), (85, .iload_n 2, 1, 0), (86, .invokevirtual 350, 3, 0), (89, .ireturn, 1, 0), (90, .aload_n 0, 1, 0), (91, .iload_n 2, 1, 0), (92, .invokevirtual 272, 3, 0), (95, .ifCond .eq 7, 3, 0), (98, .iconst 1, 1, 0), (99, .goto 4, 3, 0), (102, .iconst 0, 1, 0), (103, .ireturn, 1, 0), (104, .aload_n 0, 1, 0), (105, .iload_n 2, 1, 0), (106, .invokevirtual 353, 3, 0), (109, .ireturn, 1, 0), (110, .aload_n 0, 1, 0), (111, .iload_n 2, 1, 0), (112, .invokevirtual 356, 3, 0), (115, .ireturn, 1, 0), (116, .iconst (-1), 1, 0), (117, .ireturn, 1, 0)]
def m_X7_line : ct_M := (yX7_line, cX7_line, 5, (some .int), t_X7_line)
set_option maxRecDepth 100000 in
theorem ok_X7_line : ct_MOk m_X7_line := ct_MOk_of 1375 83 flok_X7 (by decide +kernel) (by decide +kernel) (by decide +kernel) (by decide +kernel)
def t_X7_goes : List ct_I := [(0, .aload_n 0, 1, 0), (1, .iload_n 1, 1, 0), (2, .iload_n 2, 1, 0), (3, .invokevirtual 344, 3, 0), (6, .istore 4, 2, 0), (8, .iload 4, 2, 0), (10, .ifCond .eq 6, 3, 0), (13, .iload 4, 2, 0), (15, .ireturn, 1, 0), (16, .iload_n 3, 1, 0), (17, .ifCond .ge 5, 3, 0), (20, .iconst (-1), 1, 0), (21, .ireturn, 1, 0), (22, .iload_n 3, 1, 0), (23, .aload_n 0, 1, 0), (24, .iload_n 2, 1, 0), (25, .invokevirtual 347, 3, 0), (28, .if_icmp .ge 19, 3, 0), (31, .aload_n 0, 1, 0), (32, .getfield 39, 3, 460), (35, .aload_n 0, 1, 0), (36, .getfield 42, 3, 461), (39, .iload_n 2, 1, 0), (40, .iaload, 1, 0), (41, .iload_n 3, 1, 0), (42, .iadd, 1, 0), (43, .iaload, 1, 0), (44, .goto 5, 3, 0), (47, .bipush (-5), 2, 0), (49, .ireturn, 1, 0)]
def m_X7_goes : ct_M := (yX7_goes, cX7_goes, 5, (some .int), t_X7_goes)
set_option maxRecDepth 100000 in
theorem ok_X7_goes : ct_MOk m_X7_goes := ct_MOk_of 1411 83 flok_X7 (by decide +kernel) (by decide +kernel) (by decide +kernel) (by decide +kernel)
def t_X7_holds : List ct_I := [(0, .aload_n 0, 1, 0), (1, .iload_n 1, 1, 0), (2, .iload_n 2, 1, 0), (3, .invokevirtual 344, 3, 0), (6, .istore 4, 2, 0), (8, .iload 4, 2, 0), (10, .ifCond .eq 6, 3, 0), (13, .iload 4, 2, 0), (15, .ireturn, 1, 0), (16, .aload_n 0, 1, 0), (17, .iload_n 3, 1, 0), (18, .invokevirtual 108, 3, 0), (21, .ifCond .ne 5, 3, 0), (24, .iconst (-1), 1, 0), (25, .ireturn, 1, 0), (26, .aload_n 0, 1, 0), (27, .iload_n 2, 1, 0), (28, .aload_n 0, 1, 0), (29, .iload_n 3, 1, 0), (30, .invokevirtual 269, 3, 0), (33, .invokevirtual 254, 3, 0), (36, .ifCond .eq 7, 3, 0), (39, .iconst 1, 1, 0), (40, .goto 4, 3, 0), (43, .iconst 0, 1, 0), (44, .ireturn, 1, 0)]
def m_X7_holds : ct_M := (yX7_holds, cX7_holds, 5, (some .int), t_X7_holds)
set_option maxRecDepth 100000 in
theorem ok_X7_holds : ct_MOk m_X7_holds := ct_MOk_of 1415 83 flok_X7 (by decide +kernel) (by decide +kernel) (by decide +kernel) (by decide +kernel)
def t_X7_ways : List ct_I := [(0, .aload_n 0, 1, 0), (1, .iload_n 1, 1, 0), (2, .iload_n 2, 1, 0), (3, .invokevirtual 344, 3, 0), (6, .istore 4, 2, 0), (8, .iload 4, 2, 0), (10, .ifCond .eq 6, 3, 0), (13, .iload 4, 2, 0), (15, .ireturn, 1, 0), (16, .iload_n 3, 1, 0), (17, .ifCond .ge 5, 3, 0), (20, .iconst (-1), 1, 0), (21, .ireturn, 1, 0), (22, .iload_n 3, 1, 0), (23, .aload_n 0, 1, 0), (24, .iload_n 2, 1, 0), (25, .invokevirtual 347, 3, 0), (28, .if_icmp .ge 24, 3, 0), (31, .aload_n 0, 1, 0), (32, .iload_n 1, 1, 0), (33, .aload_n 0, 1, 0), (34, .getfield 39, 3, 460), (37, .aload_n 0, 1, 0), (38, .getfield 42, 3, 461), (41, .iload_n 2, 1, 0), (42, .iaload, 1, 0), (43, .iload_n 3, 1, 0), (44, .iadd, 1, 0), (45, .iaload, 1, 0), (46, .invokevirtual 359, 3, 0), (49, .goto 5, 3, 0), (52, .bipush (-5), 2, 0), (54, .ireturn, 1, 0)]
def m_X7_ways : ct_M := (yX7_ways, cX7_ways, 5, (some .int), t_X7_ways)
set_option maxRecDepth 100000 in
theorem ok_X7_ways : ct_MOk m_X7_ways := ct_MOk_of 1419 83 flok_X7 (by decide +kernel) (by decide +kernel) (by decide +kernel) (by decide +kernel)
def t_X7_picture : List ct_I := [(0, .iload_n 1, 1, 0), (1, .invokestatic 325, 3, 0), (4, .ifCond .ne 6, 3, 0), (7, .bipush (-2), 2, 0), (9, .ireturn, 1, 0), (10, .iload_n 2, 1, 0), (11, .ifCond .ge 5, 3, 0), (14, .iconst (-1), 1, 0), (15, .ireturn, 1, 0), (16, .iload_n 2, 1, 0), (17, .aload_n 0, 1, 0), (18, .getfield 9, 3, 448), (21, .aload_n 0, 1, 0), (22, .getfield 15, 3, 449), (25, .imul, 1, 0), (26, .aload_n 0, 1, 0), (27, .getfield 9, 3, 448), (30, .iadd, 1, 0), (31, .iconst 1, 1, 0), (32, .isub, 1, 0), (33, .if_icmp .lt 6, 3, 0), (36, .bipush (-5), 2, 0), (38, .ireturn, 1, 0), (39, .iload_n 2, 1, 0), (40, .aload_n 0, 1, 0), (41, .getfield 15, 3, 449), (44, .iconst 1, 1, 0), (45, .iadd, 1, 0), (46, .idiv, 1, 0), (47, .istore_n 3, 1, 0), (48, .iload_n 2, 1, 0), (49, .aload_n 0, 1, 0), (50, .getfield 15, 3, 449), (53, .iconst 1, 1, 0), (54, .iadd, 1, 0), (55, .irem, 1, 0), (56, .istore 4, 2, 0), (58, .iload 4, 2, 0), (60, .aload_n 0, 1, 0), (61, .getfield 15, 3, 449), (64, .if_icmp .ne 6, 3, 0), (67, .bipush 47, 2, 0), (69, .ireturn, 1, 0), (70, .aload_n 0, 1, 0), (71, .getfield 18, 3, 451), (74, .iload_n 3, 1, 0), (75, .aload_n 0, 1, 0), (76, .getfield 15, 3, 449), (79, .imul, 1, 0), (80, .iload 4, 2, 0), (82, .iadd, 1, 0), (83, .iaload, 1, 0), (84, .iload_n 1, 1, 0), (85, .if_icmp .lt 8, 3, 0), (88, .bipush 35, 2, 0), (90, .goto 5, 3, 0), (93, .bipush 46, 2, 0), (95, .ireturn, 1, 0)]
def m_X7_picture : ct_M := (yX7_picture, cX7_picture, 5, (some .int), t_X7_picture)
set_option maxRecDepth 100000 in
theorem ok_X7_picture : ct_MOk m_X7_picture := ct_MOk_of 1427 83 flok_X7 (by decide +kernel) (by decide +kernel) (by decide +kernel) (by decide +kernel)
def t_X7_land : List ct_I := [(0, .iload_n 1, 1, 0), (1, .invokestatic 325, 3, 0), (4, .ifCond .ne 6, 3, 0), (7, .bipush (-2), 2, 0), (9, .ireturn, 1, 0), (10, .aload_n 0, 1, 0), (11, .iload_n 2, 1, 0), (12, .invokevirtual 108, 3, 0), (15, .ifCond .ne 5, 3, 0), (18, .iconst (-1), 1, 0), (19, .ireturn, 1, 0), (20, .aload_n 0, 1, 0), (21, .iload_n 1, 1, 0), (22, .invokevirtual 328, 3, 0), (25, .aload_n 0, 1, 0), (26, .getfield 45, 3, 464), (29, .iload_n 2, 1, 0), (30, .iaload, 1, 0), (31, .ireturn, 1, 0)]
def m_X7_land : ct_M := (yX7_land, cX7_land, 3, (some .int), t_X7_land)
set_option maxRecDepth 100000 in
theorem ok_X7_land : ct_MOk m_X7_land := ct_MOk_of 1431 83 flok_X7 (by decide +kernel) (by decide +kernel) (by decide +kernel) (by decide +kernel)
def t_X7_landOf : List ct_I := [(0, .iload_n 1, 1, 0), (1, .invokestatic 325, 3, 0), (4, .ifCond .ne 6, 3, 0), (7, .bipush (-2), 2, 0), (9, .ireturn, 1, 0), (10, .aload_n 0, 1, 0), (11, .iload_n 1, 1, 0), (12, .invokevirtual 328, 3, 0), (15, .iload_n 2, 1, 0), (16, .iconst 0, 1, 0), (17, .aload_n 0, 1, 0), (18, .getfield 288, 3, 466), (21, .iconst 1, 1, 0), (22, .isub, 1, 0), (23, .invokestatic 100, 3, 0), (26, .ifCond .eq 12, 3, 0), (29, .iload_n 3, 1, 0), (30, .iconst 0, 1, 0), (31, .iconst 3, 1, 0), (32, .invokestatic 100, 3, 0), (35, .ifCond .ne 5, 3, 0), (38, .iconst (-1), 1, 0), (39, .ireturn, 1, 0), (40, .aload_n 0, 1, 0), (41, .iload_n 1, 1, 0), (42, .invokevirtual 306, 3, 0), (45, .iload_n 3, 1, 0), (46, .ifCond .ne 11, 3, 0), (49, .aload_n 0, 1, 0), (50, .iload_n 2, 1, 0), (51, .invokevirtual 362, 3, 0), (54, .goto 34, 3, 0), (57, .iload_n 3, 1, 0), (58, .iconst 1, 1, 0), (59, .if_icmp .ne 11, 3, 0), (62, .aload_n 0, 1, 0), (63, .iload_n 2, 1, 0), (64, .invokevirtual 365, 3, 0), (67, .goto 21, 3, 0), (70, .iload_n 3, 1, 0), (71, .iconst 2, 1, 0), (72, .if_icmp .ne 11, 3, 0), (75, .aload_n 0, 1, 0), (76, .iload_n 2, 1, 0), (77, .invokevirtual 368, 3, 0), (80, .goto 8, 3, 0), (83, .aload_n 0, 1, 0), (84, .iload_n 2, 1, 0), (85, .invokevirtual 371, 3, 0), (88, .ireturn, 1, 0)]
def m_X7_landOf : ct_M := (yX7_landOf, cX7_landOf, 4, (some .int), t_X7_landOf)
set_option maxRecDepth 100000 in
theorem ok_X7_landOf : ct_MOk m_X7_landOf := ct_MOk_of 1435 83 flok_X7 (by decide +kernel) (by decide +kernel) (by decide +kernel) (by decide +kernel)
def t_X7_pass : List ct_I := [(0, .aload_n 0, 1, 0), (1, .iload_n 1, 1, 0), (2, .invokevirtual 108, 3, 0), (5, .ifCond .eq 11, 3, 0), (8, .aload_n 0, 1, 0), (9, .iload_n 2, 1, 0), (10, .invokevirtual 108, 3, 0), (13, .ifCond .ne 5, 3, 0), (16, .iconst (-1), 1, 0), (17, .ireturn, 1, 0), (18, .iload_n 1, 1, 0), (19, .iload_n 2, 1, 0), (20, .if_icmp .ne 10, 3, 0), (23, .aload_n 0, 1, 0), (24, .getfield 18, 3, 451), (27, .iload_n 1, 1, 0), (28, .iaload, 1, 0), (29, .ireturn, 1, 0), (30, .aload_n 0, 1, 0), (31, .getfield 18, 3, 451), (34, .iload_n 1, 1, 0), (35, .iaload, 1, 0), (36, .aload_n 0, 1, 0), (37, .getfield 18, 3, 451), (40, .iload_n 2, 1, 0), (41, .iaload, 1, 0), (42, .invokestatic 278, 3, 0), (45, .istore_n 3, 1, 0), (46, .aload_n 0, 1, 0), (47, .iload_n 3, 1, 0), (48, .invokevirtual 328, 3, 0), (51, .aload_n 0, 1, 0), (52, .getfield 45, 3, 464), (55, .iload_n 1, 1, 0), (56, .iaload, 1, 0), (57, .aload_n 0, 1, 0), (58, .getfield 45, 3, 464), (61, .iload_n 2, 1, 0), (62, .iaload, 1, 0), (63, .if_icmp .eq 14, 3, 0), (66, .iinc 3 (-1), 3, 0), (69, .aload_n 0, 1, 0), (70, .iload_n 3, 1, 0), (71, .invokevirtual 328, 3, 0), (74, .goto (-23), 3, 0), (77, .iload_n 3, 1, 0), (78, .ireturn, 1, 0)]
def m_X7_pass : ct_M := (yX7_pass, cX7_pass, 4, (some .int), t_X7_pass)
set_option maxRecDepth 100000 in
theorem ok_X7_pass : ct_MOk m_X7_pass := ct_MOk_of 1463 83 flok_X7 (by decide +kernel) (by decide +kernel) (by decide +kernel) (by decide +kernel)
def t_X7_isWithHigher : List ct_I := [(0, .iconst 0, 1, 0), (1, .istore_n 2, 1, 0), (2, .iload_n 2, 1, 0), (3, .aload_n 0, 1, 0), (4, .invokevirtual 104, 3, 0), (7, .if_icmp .ge 41, 3, 0), (10, .aload_n 0, 1, 0), (11, .getfield 45, 3, 464), (14, .iload_n 2, 1, 0), (15, .iaload, 1, 0), (16, .aload_n 0, 1, 0), (17, .getfield 45, 3, 464), (20, .iload_n 1, 1, 0), (21, .iaload, 1, 0), (22, .if_icmp .ne 20, 3, 0), (25, .aload_n 0, 1, 0), (26, .getfield 18, 3, 451), (29, .iload_n 2, 1, 0), (30, .iaload, 1, 0), (31, .aload_n 0, 1, 0), (32, .getfield 18, 3, 451), (35, .iload_n 1, 1, 0), (36, .iaload, 1, 0), (37, .if_icmp .le 5, 3, 0), (40, .iconst 1, 1, 0), (41, .ireturn, 1, 0), (42, .iinc 2 1, 3, 0), (45, .goto (-43), 3, 0), (48, .iconst 0, 1, 0), (49, .ireturn, 1, 0)]
def m_X7_isWithHigher : ct_M := (yX7_isWithHigher, cX7_isWithHigher, 3, (some .boolean), t_X7_isWithHigher)
set_option maxRecDepth 100000 in
theorem ok_X7_isWithHigher : ct_MOk m_X7_isWithHigher := ct_MOk_of 1471 83 flok_X7 (by decide +kernel) (by decide +kernel) (by decide +kernel) (by decide +kernel)
def t_X7_stands : List ct_I := [(0, .aload_n 0, 1, 0), (1, .iload_n 1, 1, 0), (2, .invokevirtual 108, 3, 0), (5, .ifCond .ne 5, 3, 0), (8, .iconst (-1), 1, 0), (9, .ireturn, 1, 0), (10, .aload_n 0, 1, 0), (11, .getfield 18, 3, 451), (14, .iload_n 1, 1, 0), (15, .iaload, 1, 0), (16, .istore_n 2, 1, 0), (17, .iload_n 2, 1, 0), (18, .ifCond .lt 31, 3, 0), (21, .aload_n 0, 1, 0), (22, .iload_n 2, 1, 0), (23, .invokevirtual 328, 3, 0), (26, .aload_n 0, 1, 0), (27, .iload_n 1, 1, 0), (28, .invokevirtual 374, 3, 0), (31, .ifCond .eq 12, 3, 0), (34, .aload_n 0, 1, 0), (35, .getfield 18, 3, 451), (38, .iload_n 1, 1, 0), (39, .iaload, 1, 0), (40, .iload_n 2, 1, 0), (41, .isub, 1, 0), (42, .ireturn, 1, 0), (43, .iinc 2 (-1), 3, 0), (46, .goto (-29), 3, 0), (49, .aload_n 0, 1, 0), (50, .getfield 18, 3, 451), (53, .iload_n 1, 1, 0), (54, .iaload, 1, 0), (55, .ireturn, 1, 0)]
def m_X7_stands : ct_M := (yX7_stands, cX7_stands, 3, (some .int), t_X7_stands)
set_option maxRecDepth 100000 in
theorem ok_X7_stands : ct_MOk m_X7_stands := ct_MOk_of 1467 83 flok_X7 (by decide +kernel) (by decide +kernel) (by decide +kernel) (by decide +kernel)
def t_X7_leavesOf : List ct_I := [(0, .iconst 0, 1, 0), (1, .istore_n 2, 1, 0), (2, .iconst 0, 1, 0), (3, .istore_n 3, 1, 0), (4, .iload_n 3, 1, 0), (5, .iload_n 1, 1, 0), (6, .if_icmp .ge 21, 3, 0), (9, .aload_n 0, 1, 0), (10, .getfield 54, 3, 469), (13, .iload_n 3, 1, 0), (14, .iaload, 1, 0), (15, .ifCond .ne 6, 3, 0), (18, .iinc 2 1, 3, 0), (21, .iinc 3 1, 3, 0), (24, .goto (-20), 3, 0), (27, .iload_n 2, 1, 0), (28, .ireturn, 1, 0)]
def m_X7_leavesOf : ct_M := (yX7_leavesOf, cX7_leavesOf, 4, (some .int), t_X7_leavesOf)
set_option maxRecDepth 100000 in
theorem ok_X7_leavesOf : ct_MOk m_X7_leavesOf := ct_MOk_of 1479 83 flok_X7 (by decide +kernel) (by decide +kernel) (by decide +kernel) (by decide +kernel)
def t_X7_forksOf : List ct_I := [(0, .iconst 0, 1, 0), (1, .istore_n 2, 1, 0), (2, .iconst 0, 1, 0), (3, .istore_n 3, 1, 0), (4, .iload_n 3, 1, 0), (5, .iload_n 1, 1, 0), (6, .if_icmp .ge 22, 3, 0), (9, .aload_n 0, 1, 0), (10, .getfield 54, 3, 469), (13, .iload_n 3, 1, 0), (14, .iaload, 1, 0), (15, .iconst 1, 1, 0), (16, .if_icmp .le 6, 3, 0), (19, .iinc 2 1, 3, 0), (22, .iinc 3 1, 3, 0), (25, .goto (-21), 3, 0), (28, .iload_n 2, 1, 0), (29, .ireturn, 1, 0)]
def m_X7_forksOf : ct_M := (yX7_forksOf, cX7_forksOf, 4, (some .int), t_X7_forksOf)
set_option maxRecDepth 100000 in
theorem ok_X7_forksOf : ct_MOk m_X7_forksOf := ct_MOk_of 1483 83 flok_X7 (by decide +kernel) (by decide +kernel) (by decide +kernel) (by decide +kernel)
def t_X7_tree : List ct_I := [(0, .iload_n 1, 1, 0), (1, .iconst 1, 1, 0), (2, .bipush 50, 2, 0), (4, .invokestatic 100, 3, 0), (7, .ifCond .ne 6, 3, 0), (10, .bipush (-2), 2, 0), (12, .ireturn, 1, 0), (13, .iload_n 2, 1, 0), (14, .iconst 0, 1, 0), (15, .iconst 2, 1, 0), (16, .invokestatic 100, 3, 0), (19, .ifCond .ne 5, 3, 0), (22, .iconst (-1), 1, 0), (23, .ireturn, 1, 0), (24, .iconst 0, 1, 0), (25, .istore_n 3, 1, 0), (26, .iconst 0, 1, 0), (27, .istore 4, 2, 0), (29, .iconst 0, 1, 0), (30, .istore 5, 2, 0), (32, .iconst 0, 1, 0), (33, .istore 6, 2, 0), (35, .iconst 0, 1, 0), (36, .istore 7, 2, 0), (38, .iload 7, 2, 0), (40, .bipush 99, 2, 0), (42, .if_icmp .gt 135, 3, 0), (45, .aload_n 0, 1, 0), (46, .iload 7, 2, 0), (48, .invokevirtual 328, 3, 0), (51, .iconst 0, 1, 0), (52, .istore 8, 2, 0), (54, .iload 8, 2, 0), (56, .iload 6, 2, 0), (58, .if_icmp .ge 17, 3, 0), (61, .aload_n 0, 1, 0), (62, .getfield 54, 3, 469), (65, .iload 8, 2, 0), (67, .iconst 0, 1, 0), (68, .iastore, 1, 0), (69, .iinc 8 1, 3, 0), (72, .goto (-18), 3, 0), (75, .iconst 0, 1, 0), (76, .istore 8, 2, 0), (78, .iload 8, 2, 0), (80, .aload_n 0, 1, 0), (81, .getfield 288, 3, 466), (84, .if_icmp .ge 34, 3, 0), (87, .iload 7, 2, 0), (89, .ifCond .le 29, 3, 0), (92, .aload_n 0, 1, 0), (93, .getfield 54, 3, 469), (96, .aload_n 0, 1, 0), (97, .getfield 51, 3, 468), (100, .aload_n 0, 1, 0), (101, .iload 8, 2, 0), (103, .invokevirtual 362, 3, 0), (106, .iaload, 1, 0), (107, .dup2, 1, 0), (108, .iaload, 1, 0), (109, .iconst 1, 1, 0), (110, .iadd, 1, 0), (111, .iastore, 1, 0), (112, .iinc 8 1, 3, 0), (115, .goto (-37), 3, 0), (118, .iload 4, 2, 0), (120, .aload_n 0, 1, 0), (121, .iload 6, 2, 0), (123, .invokevirtual 377, 3, 0), (126, .iadd, 1, 0), (127, .istore 4, 2, 0), (129, .iload 5, 2, 0), (131, .aload_n 0, 1, 0), (132, .iload 6, 2, 0), (134, .invokevirtual 380, 3, 0), (137, .iadd, 1, 0), (138, .istore 5, 2, 0), (140, .iload_n 3, 1, 0), (141, .aload_n 0, 1, 0), (142, .getfield 288, 3, 466), (145, .iadd, 1, 0), (146, .istore_n 3, 1, 0), (147, .aload_n 0, 1, 0), (148, .getfield 288, 3, 466), (151, .istore 6, 2, 0), (153, .aload_n 0, 1, 0), (154, .getfield 45, 3, 464), (157, .iconst 0, 1, 0), (158, .aload_n 0, 1, 0), (159, .getfield 51, 3, 468), (162, .iconst 0, 1, 0), (163, .bipush 49, 2, 0), (165, .invokestatic 383, 3, 0), (168, .iload 7, 2, 0), (170, .iload_n 1, 1, 0), (171, .iadd, 1, 0), (172, .istore 7, 2, 0), (174, .goto (-136), 3, 0), (177, .iload_n 2, 1, 0), (178, .ifCond .ne 7, 3, 0), (181, .iload_n 3, 1, 0), (182, .goto 18, 3, 0), (185, .iload_n 2, 1, 0), (186, .iconst 1, 1, 0), (187, .if_icmp .ne 11, 3, 0), (190, .iload 4, 2, 0), (192, .iload 6, 2, 0), (194, .iadd, 1, 0), (195, .goto 5, 3, 0), (198, .iload 5, 2, 0), (200, .ireturn, 1, 0)]
def m_X7_tree : ct_M := (yX7_tree, cX7_tree, 9, (some .int), t_X7_tree)
set_option maxRecDepth 100000 in
theorem ok_X7_tree : ct_MOk m_X7_tree := ct_MOk_of 1475 83 flok_X7 (by decide +kernel) (by decide +kernel) (by decide +kernel) (by decide +kernel)
def t_X7_between : List ct_I := [(0, .iload_n 1, 1, 0), (1, .invokestatic 325, 3, 0), (4, .ifCond .eq 10, 3, 0), (7, .iload_n 2, 1, 0), (8, .invokestatic 325, 3, 0), (11, .ifCond .ne 6, 3, 0), (14, .bipush (-2), 2, 0), (16, .ireturn, 1, 0), (17, .aload_n 0, 1, 0), (18, .iload_n 1, 1, 0), (19, .iload_n 2, 1, 0), (20, .invokestatic 278, 3, 0), (23, .invokevirtual 303, 3, 0), (26, .aload_n 0, 1, 0), (27, .iload_n 1, 1, 0), (28, .iload_n 2, 1, 0), (29, .invokestatic 121, 3, 0), (32, .invokevirtual 303, 3, 0), (35, .isub, 1, 0), (36, .ireturn, 1, 0)]
def m_X7_between : ct_M := (yX7_between, cX7_between, 3, (some .int), t_X7_between)
set_option maxRecDepth 100000 in
theorem ok_X7_between : ct_MOk m_X7_between := ct_MOk_of 1488 83 flok_X7 (by decide +kernel) (by decide +kernel) (by decide +kernel) (by decide +kernel)
def t_X7_see : List ct_I := [(0, .iload_n 1, 1, 0), (1, .iconst (-1), 1, 0), (2, .if_icmp .ne 10, 3, 0), (5, .aload_n 0, 1, 0), (6, .iconst 0, 1, 0), (7, .putfield 389, 3, 472), (10, .iconst 0, 1, 0), (11, .ireturn, 1, 0), (12, .aload_n 0, 1, 0), (13, .iload_n 1, 1, 0), (14, .invokevirtual 108, 3, 0), (17, .ifCond .ne 5, 3, 0), (20, .iconst (-1), 1, 0), (21, .ireturn, 1, 0), (22, .iload_n 2, 1, 0), (23, .iconst 0, 1, 0), (24, .iconst 1, 1, 0), (25, .invokestatic 100, 3, 0), (28, .ifCond .ne 6, 3, 0), (31, .bipush (-2), 2, 0), (33, .ireturn, 1, 0), (34, .aload_n 0, 1, 0), (35, .getfield 389, 3, 472), (38, .bipush 6, 2, 0), (40, .if_icmp .ne 6, 3, 0), (43, .bipush (-4), 2, 0), (45, .ireturn, 1, 0), (46, .aload_n 0, 1, 0), (47, .getfield 57, 3, 470), (50, .aload_n 0, 1, 0), (51, .getfield 389, 3, 472), (54, .iload_n 1, 1, 0), (55, .iastore, 1, 0), (56, .aload_n 0, 1, 0), (57, .getfield 60, 3, 471), (60, .aload_n 0, 1, 0), (61, .getfield 389, 3, 472), (64, .iload_n 2, 1, 0), (65, .iastore, 1, 0), (66, .aload_n 0, 1, 0), (67, .dup, 1, 0), (68, .getfield 389, 3, 472), (71, .iconst 1, 1, 0), (72, .iadd, 1, 0), (73, .putfield 389, 3, 472), (76, .aload_n 0, 1, 0), (77, .getfield 389, 3, 472), (80, .ireturn, 1, 0)]
def m_X7_see : ct_M := (yX7_see, cX7_see, 3, (some .int), t_X7_see)
set_option maxRecDepth 100000 in
theorem ok_X7_see : ct_MOk m_X7_see := ct_MOk_of 1492 83 flok_X7 (by decide +kernel) (by decide +kernel) (by decide +kernel) (by decide +kernel)
def t_X7_isSo : List ct_I := [(0, .iconst 0, 1, 0), (1, .istore_n 2, 1, 0), (2, .iload_n 2, 1, 0), (3, .aload_n 0, 1, 0), (4, .getfield 389, 3, 472), (7, .if_icmp .ge 59, 3, 0), (10, .aload_n 0, 1, 0), (11, .getfield 57, 3, 470), (14, .iload_n 2, 1, 0), (15, .iaload, 1, 0), (16, .istore_n 3, 1, 0), (17, .aload_n 0, 1, 0), (18, .iload_n 3, 1, 0), (19, .invokevirtual 108, 3, 0), (22, .ifCond .eq 36, 3, 0), (25, .aload_n 0, 1, 0), (26, .getfield 18, 3, 451), (29, .iload_n 3, 1, 0), (30, .iaload, 1, 0), (31, .iload_n 1, 1, 0), (32, .if_icmp .lt 7, 3, 0), (35, .iconst 1, 1, 0), (36, .goto 4, 3, 0), (39, .iconst 0, 1, 0), (40, .aload_n 0, 1, 0), (41, .getfield 60, 3, 471), (44, .iload_n 2, 1, 0), (45, .iaload, 1, 0), (46, .iconst 1, 1, 0), (47, .if_icmp .ne 7, 3, 0), (50, .iconst 1, 1, 0), (51, .goto 4, 3, 0), (54, .iconst 0, 1, 0), (55, .if_icmp .eq 5, 3, 0), (58, .iconst 0, 1, 0), (59, .ireturn, 1, 0), (60, .iinc 2 1, 3, 0), (63, .goto (-61), 3, 0), (66, .iconst 1, 1, 0), (67, .ireturn, 1, 0)]
def m_X7_isSo : ct_M := (yX7_isSo, cX7_isSo, 4, (some .boolean), t_X7_isSo)
set_option maxRecDepth 100000 in
theorem ok_X7_isSo : ct_MOk m_X7_isSo := ct_MOk_of 1500 83 flok_X7 (by decide +kernel) (by decide +kernel) (by decide +kernel) (by decide +kernel)
def t_X7_fits : List ct_I := [(0, .iload_n 1, 1, 0), (1, .iconst 0, 1, 0), (2, .iconst 1, 1, 0), (3, .invokestatic 100, 3, 0), (6, .ifCond .ne 5, 3, 0), (9, .iconst (-1), 1, 0), (10, .ireturn, 1, 0), (11, .iconst 0, 1, 0), (12, .istore_n 2, 1, 0), (13, .bipush (-5), 2, 0), (15, .istore_n 3, 1, 0), (16, .bipush 99, 2, 0), (18, .istore 4, 2, 0), (20, .iload 4, 2, 0), (22, .ifCond .lt 27, 3, 0), (25, .aload_n 0, 1, 0), (26, .iload 4, 2, 0), (28, .invokevirtual 392, 3, 0), (31, .ifCond .ne 6, 3, 0), (34, .goto 9, 3, 0), (37, .iinc 2 1, 3, 0), (40, .iload 4, 2, 0), (42, .istore_n 3, 1, 0), (43, .iinc 4 (-1), 3, 0), (46, .goto (-26), 3, 0), (49, .iload_n 1, 1, 0), (50, .ifCond .ne 7, 3, 0), (53, .iload_n 2, 1, 0), (54, .goto 4, 3, 0), (57, .iload_n 3, 1, 0), (58, .ireturn, 1, 0)]
def m_X7_fits : ct_M := (yX7_fits, cX7_fits, 5, (some .int), t_X7_fits)
set_option maxRecDepth 100000 in
theorem ok_X7_fits : ct_MOk m_X7_fits := ct_MOk_of 1496 83 flok_X7 (by decide +kernel) (by decide +kernel) (by decide +kernel) (by decide +kernel)
def t_X7_common : List ct_I := [(0, .iload_n 1, 1, 0), (1, .ifCond .ne 7, 3, 0), (4, .iload_n 0, 1, 0), (5, .goto 10, 3, 0), (8, .iload_n 1, 1, 0), (9, .iload_n 0, 1, 0), (10, .iload_n 1, 1, 0), (11, .irem, 1, 0), (12, .invokestatic 395, 3, 0), (15, .ireturn, 1, 0)]
def m_X7_common : ct_M := (yX7_common, cX7_common, 2, (some .int), t_X7_common)
set_option maxRecDepth 100000 in
theorem ok_X7_common : ct_MOk m_X7_common := ct_MOk_of 1511 83 flok_X7 (by decide +kernel) (by decide +kernel) (by decide +kernel) (by decide +kernel)
def t_X7_lowest : List ct_I := [(0, .iload_n 0, 1, 0), (1, .iload_n 1, 1, 0), (2, .invokestatic 395, 3, 0), (5, .istore_n 3, 1, 0), (6, .iload_n 2, 1, 0), (7, .ifCond .ne 10, 3, 0), (10, .iload_n 0, 1, 0), (11, .iload_n 3, 1, 0), (12, .idiv, 1, 0), (13, .i2l, 1, 0), (14, .goto 7, 3, 0), (17, .iload_n 1, 1, 0), (18, .iload_n 3, 1, 0), (19, .idiv, 1, 0), (20, .i2l, 1, 0), (21, .lreturn, 1, 0)]
def m_X7_lowest : ct_M := (yX7_lowest, cX7_lowest, 4, (some .long), t_X7_lowest)
set_option maxRecDepth 100000 in
theorem ok_X7_lowest : ct_MOk m_X7_lowest := ct_MOk_of 1508 83 flok_X7 (by decide +kernel) (by decide +kernel) (by decide +kernel) (by decide +kernel)
def t_X7_odds : List ct_I := [(0, .aload_n 0, 1, 0), (1, .iload_n 1, 1, 0), (2, .invokevirtual 108, 3, 0), (5, .ifCond .eq 12, 3, 0), (8, .iload_n 2, 1, 0), (9, .iconst 0, 1, 0), (10, .iconst 1, 1, 0), (11, .invokestatic 100, 3, 0), (14, .ifCond .ne 7, 3, 0), (17, .ldc2_w 398, 3, 0), (20, .lreturn, 1, 0), (21, .aload_n 0, 1, 0), (22, .getfield 18, 3, 451), (25, .iload_n 1, 1, 0), (26, .iaload, 1, 0), (27, .iconst 1, 1, 0), (28, .iadd, 1, 0), (29, .bipush 100, 2, 0), (31, .iload_n 2, 1, 0), (32, .invokestatic 400, 3, 0), (35, .lreturn, 1, 0)]
def m_X7_odds : ct_M := (yX7_odds, cX7_odds, 3, (some .long), t_X7_odds)
set_option maxRecDepth 100000 in
theorem ok_X7_odds : ct_MOk m_X7_odds := ct_MOk_of 1504 83 flok_X7 (by decide +kernel) (by decide +kernel) (by decide +kernel) (by decide +kernel)
def t_X7_mean : List ct_I := [(0, .iload_n 1, 1, 0), (1, .iconst 0, 1, 0), (2, .iconst 1, 1, 0), (3, .invokestatic 100, 3, 0), (6, .ifCond .ne 7, 3, 0), (9, .ldc2_w 398, 3, 0), (12, .lreturn, 1, 0), (13, .iconst 0, 1, 0), (14, .istore_n 2, 1, 0), (15, .iconst 0, 1, 0), (16, .istore_n 3, 1, 0), (17, .iload_n 3, 1, 0), (18, .bipush 100, 2, 0), (20, .if_icmp .ge 17, 3, 0), (23, .iload_n 2, 1, 0), (24, .aload_n 0, 1, 0), (25, .iload_n 3, 1, 0), (26, .invokevirtual 310, 3, 0), (29, .iadd, 1, 0), (30, .istore_n 2, 1, 0), (31, .iinc 3 1, 3, 0), (34, .goto (-17), 3, 0), (37, .iload_n 2, 1, 0), (38, .bipush 100, 2, 0), (40, .iload_n 1, 1, 0), (41, .invokestatic 400, 3, 0), (44, .lreturn, 1, 0)]
def m_X7_mean : ct_M := (yX7_mean, cX7_mean, 4, (some .long), t_X7_mean)
set_option maxRecDepth 100000 in
theorem ok_X7_mean : ct_MOk m_X7_mean := ct_MOk_of 1515 83 flok_X7 (by decide +kernel) (by decide +kernel) (by decide +kernel) (by decide +kernel)
def t_X7_isNumber : List ct_I := [(0, .iload_n 0, 1, 0), (1, .iconst 2, 1, 0), (2, .if_icmp .ne 13, 3, 0), (5, .iload_n 1, 1, 0), (6, .iconst 0, 1, 0), (7, .bipush 99, 2, 0), (9, .invokestatic 100, 3, 0), (12, .goto 31, 3, 0), (15, .iload_n 0, 1, 0), (16, .iconst 3, 1, 0), (17, .if_icmp .ne 12, 3, 0), (20, .iload_n 1, 1, 0), (21, .iconst 0, 1, 0), (22, .iconst 4, 1, 0), (23, .invokestatic 100, 3, 0), (26, .goto 17, 3, 0), (29, .iload_n 0, 1, 0), (30, .iconst 4, 1, 0), (31, .if_icmp .ne 7, 3, 0), (34, .iload_n 1, 1, 0), (35, .ifCond .ne 7, 3, 0), (38, .iconst 1, 1, 0), (39, .goto 4, 3, 0), (42, .iconst 0, 1, 0), (43, .ireturn, 1, 0)]
def m_X7_isNumber : ct_M := (yX7_isNumber, cX7_isNumber, 2, (some .boolean), t_X7_isNumber)
set_option maxRecDepth 100000 in
theorem ok_X7_isNumber : ct_MOk m_X7_isNumber := ct_MOk_of 1522 83 flok_X7 (by decide +kernel) (by decide +kernel) (by decide +kernel) (by decide +kernel)
def t_X7_event : List ct_I := [(0, .iload_n 1, 1, 0), (1, .iconst (-1), 1, 0), (2, .if_icmp .ne 10, 3, 0), (5, .aload_n 0, 1, 0), (6, .iconst 0, 1, 0), (7, .putfield 404, 3, 475), (10, .iconst 0, 1, 0), (11, .ireturn, 1, 0), (12, .iload_n 1, 1, 0), (13, .iconst 0, 1, 0), (14, .iconst 4, 1, 0), (15, .invokestatic 100, 3, 0), (18, .ifCond .eq 16, 3, 0), (21, .iload_n 1, 1, 0), (22, .iconst 2, 1, 0), (23, .if_icmp .ge 13, 3, 0), (26, .aload_n 0, 1, 0), (27, .iload_n 2, 1, 0), (28, .invokevirtual 108, 3, 0), (31, .ifCond .ne 5, 3, 0), (34, .iconst (-1), 1, 0), (35, .ireturn, 1, 0), (36, .iload_n 1, 1, 0), (37, .iload_n 2, 1, 0), (38, .invokestatic 407, 3, 0), (41, .ifCond .ne 6, 3, 0), (44, .bipush (-2), 2, 0), (46, .ireturn, 1, 0), (47, .aload_n 0, 1, 0), (48, .getfield 404, 3, 475), (51, .bipush 8, 2, 0), (53, .if_icmp .ne 6, 3, 0), (56, .bipush (-4), 2, 0), (58, .ireturn, 1, 0), (59, .aload_n 0, 1, 0), (60, .getfield 63, 3, 473), (63, .aload_n 0, 1, 0), (64, .getfield 404, 3, 475), (67, .iload_n 1, 1, 0), (68, .iastore, 1, 0), (69, .aload_n 0, 1, 0), (70, .getfield 66, 3, 474), (73, .aload_n 0, 1, 0), (74, .getfield 404, 3, 475), (77, .iload_n 2, 1, 0), (78, .iastore, 1, 0), (79, .aload_n 0, 1, 0), (80, .dup, 1, 0), (81, .getfield 404, 3, 475), (84, .iconst 1, 1, 0), (85, .iadd, 1, 0), (86, .putfield 404, 3, 475), (89, .aload_n 0, 1, 0), (90, .getfield 404, 3, 475), (93, .ireturn, 1, 0)]
def m_X7_event : ct_M := (yX7_event, cX7_event, 3, (some .int), t_X7_event)
set_option maxRecDepth 100000 in
theorem ok_X7_event : ct_MOk m_X7_event := ct_MOk_of 1519 83 flok_X7 (by decide +kernel) (by decide +kernel) (by decide +kernel) (by decide +kernel)
def t_X7_happens : List ct_I := [(0, .iload_n 1, 1, 0), (1, .iconst 2, 1, 0), (2, .if_icmp .ge 12, 3, 0), (5, .aload_n 0, 1, 0), (6, .iload_n 2, 1, 0), (7, .invokevirtual 108, 3, 0), (10, .ifCond .ne 4, 3, 0), (13, .return_, 1, 0), (14, .iload_n 1, 1, 0), (15, .tableswitch 107 0 3 #[29, 52, 62, 99], 29, 0), (44, .aload_n 0, 1, 0), (45, .getfield 18, 3, 451), (48, .iload_n 2, 1, 0), (49, .bipush 99, 2, 0), (51, .aload_n 0, 1, 0), (52, .getfield 18, 3, 451), (55, .iload_n 2, 1, 0), (56, .iaload, 1, 0), (57, .bipush 10, 2, 0), (59, .iadd, 1, 0), (60, .invokestatic 278, 3, 0), (63, .iastore, 1, 0), (64, .goto 89, 3, 0), (67, .aload_n 0, 1, 0), (68, .getfield 18, 3, 451), (71, .iload_n 2, 1, 0), (72, .iconst 0, 1, 0), (73, .iastore, 1, 0), (74, .goto 79, 3, 0), (77, .iconst 0, 1, 0), (78, .istore_n 3, 1, 0), (79, .iload_n 3, 1, 0), (80, .aload_n 0, 1, 0), (81, .invokevirtual 104, 3, 0), (84, .if_icmp .ge 27, 3, 0), (87, .aload_n 0, 1, 0), (88, .getfield 18, 3, 451), (91, .iload_n 3, 1, 0), (92, .iconst 0, 1, 0), (93, .aload_n 0, 1, 0), (94, .getfield 18, 3, 451), (97, .iload_n 3, 1, 0), (98, .iaload, 1, 0), (99, .iload_n 2, 1, 0), (100, .isub, 1, 0), (101, .invokestatic 121, 3, 0), (104, .iastore, 1, 0), (105, .iinc 3 1, 3, 0), (108, .goto (-29), 3, 0), (111, .goto 42, 3, 0), (114, .aload_n 0, 1, 0), (115, .iload_n 2, 1, 0), (116, .putfield 112, 3, 450), (119, .goto 34, 3, 0), (122, .iconst 0, 1, 0), (123, .istore_n 3, 1, 0), (124, .iload_n 3, 1, 0), (125, .aload_n 0, 1, 0), (126, .invokevirtual 104, 3, 0), (129, .if_icmp .ge 24, 3, 0), (132, .aload_n 0, 1, 0), (133, .getfield 18, 3, 451), (136, .iload_n 3, 1, 0), (137, .bipush 99, 2, 0), (139, .aload_n 0, 1, 0), (140, .getfield 18, 3, 451), (143, .iload_n 3, 1, 0), (144, .iaload, 1, 0), (145, .isub, 1, 0), (146, .iastore, 1, 0), (147, .iinc 3 1, 3, 0), (150, .goto (-26), 3, 0), (153, .return_, 1, 0)]
def m_X7_happens : ct_M := (yX7_happens, cX7_happens, 4, none, t_X7_happens)
set_option maxRecDepth 100000 in
theorem ok_X7_happens : ct_MOk m_X7_happens := ct_MOk_of 1530 83 flok_X7 (by decide +kernel) (by decide +kernel) (by decide +kernel) (by decide +kernel)
def t_X7_after : List ct_I := [(0, .iload_n 1, 1, 0), (1, .invokestatic 325, 3, 0), (4, .ifCond .ne 6, 3, 0), (7, .bipush (-2), 2, 0), (9, .ireturn, 1, 0), (10, .iload_n 2, 1, 0), (11, .iconst 0, 1, 0), (12, .iconst 2, 1, 0), (13, .invokestatic 100, 3, 0), (16, .ifCond .ne 5, 3, 0), (19, .iconst (-1), 1, 0), (20, .ireturn, 1, 0), (21, .aload_n 0, 1, 0), (22, .getfield 18, 3, 451), (25, .iconst 0, 1, 0), (26, .aload_n 0, 1, 0), (27, .getfield 69, 3, 476), (30, .iconst 0, 1, 0), (31, .bipush 49, 2, 0), (33, .invokestatic 383, 3, 0), (36, .aload_n 0, 1, 0), (37, .getfield 112, 3, 450), (40, .istore_n 3, 1, 0), (41, .iconst 0, 1, 0), (42, .istore 4, 2, 0), (44, .iload 4, 2, 0), (46, .aload_n 0, 1, 0), (47, .getfield 404, 3, 475), (50, .if_icmp .ge 27, 3, 0), (53, .aload_n 0, 1, 0), (54, .aload_n 0, 1, 0), (55, .getfield 63, 3, 473), (58, .iload 4, 2, 0), (60, .iaload, 1, 0), (61, .aload_n 0, 1, 0), (62, .getfield 66, 3, 474), (65, .iload 4, 2, 0), (67, .iaload, 1, 0), (68, .invokevirtual 410, 3, 0), (71, .iinc 4 1, 3, 0), (74, .goto (-30), 3, 0), (77, .aload_n 0, 1, 0), (78, .iload_n 1, 1, 0), (79, .invokevirtual 306, 3, 0), (82, .aload_n 0, 1, 0), (83, .iload_n 1, 1, 0), (84, .invokevirtual 328, 3, 0), (87, .iload_n 2, 1, 0), (88, .ifCond .ne 10, 3, 0), (91, .aload_n 0, 1, 0), (92, .getfield 242, 3, 462), (95, .goto 20, 3, 0), (98, .iload_n 2, 1, 0), (99, .iconst 1, 1, 0), (100, .if_icmp .ne 10, 3, 0), (103, .aload_n 0, 1, 0), (104, .getfield 288, 3, 466), (107, .goto 8, 3, 0), (110, .aload_n 0, 1, 0), (111, .iload_n 1, 1, 0), (112, .invokevirtual 303, 3, 0), (115, .istore 4, 2, 0), (117, .aload_n 0, 1, 0), (118, .getfield 69, 3, 476), (121, .iconst 0, 1, 0), (122, .aload_n 0, 1, 0), (123, .getfield 18, 3, 451), (126, .iconst 0, 1, 0), (127, .bipush 49, 2, 0), (129, .invokestatic 383, 3, 0), (132, .aload_n 0, 1, 0), (133, .iload_n 3, 1, 0), (134, .putfield 112, 3, 450), (137, .iload 4, 2, 0), (139, .ireturn, 1, 0)]
def m_X7_after : ct_M := (yX7_after, cX7_after, 5, (some .int), t_X7_after)
set_option maxRecDepth 100000 in
theorem ok_X7_after : ct_MOk m_X7_after := ct_MOk_of 1526 83 flok_X7 (by decide +kernel) (by decide +kernel) (by decide +kernel) (by decide +kernel)
def t_X7_book : List ct_I := [(0, .iload_n 1, 1, 0), (1, .iconst (-1), 1, 0), (2, .if_icmp .ne 10, 3, 0), (5, .aload_n 0, 1, 0), (6, .iconst 0, 1, 0), (7, .putfield 414, 3, 479), (10, .iconst 0, 1, 0), (11, .ireturn, 1, 0), (12, .aload_n 0, 1, 0), (13, .iload_n 1, 1, 0), (14, .invokevirtual 108, 3, 0), (17, .ifCond .ne 5, 3, 0), (20, .iconst (-1), 1, 0), (21, .ireturn, 1, 0), (22, .iload_n 2, 1, 0), (23, .iconst 0, 1, 0), (24, .bipush 99, 2, 0), (26, .invokestatic 100, 3, 0), (29, .ifCond .ne 6, 3, 0), (32, .bipush (-2), 2, 0), (34, .ireturn, 1, 0), (35, .aload_n 0, 1, 0), (36, .getfield 414, 3, 479), (39, .bipush 8, 2, 0), (41, .if_icmp .ne 6, 3, 0), (44, .bipush (-4), 2, 0), (46, .ireturn, 1, 0), (47, .aload_n 0, 1, 0), (48, .getfield 72, 3, 477), (51, .aload_n 0, 1, 0), (52, .getfield 414, 3, 479), (55, .iload_n 1, 1, 0), (56, .iastore, 1, 0), (57, .aload_n 0, 1, 0), (58, .getfield 75, 3, 478), (61, .aload_n 0, 1, 0), (62, .getfield 414, 3, 479), (65, .iload_n 2, 1, 0), (66, .iastore, 1, 0), (67, .aload_n 0, 1, 0), (68, .dup, 1, 0), (69, .getfield 414, 3, 479), (72, .iconst 1, 1, 0), (73, .iadd, 1, 0), (74, .putfield 414, 3, 479), (77, .aload_n 0, 1, 0), (78, .getfield 414, 3, 479), (81, .ireturn, 1, 0)]
def m_X7_book : ct_M := (yX7_book, cX7_book, 3, (some .int), t_X7_book)
set_option maxRecDepth 100000 in
theorem ok_X7_book : ct_MOk m_X7_book := ct_MOk_of 1534 83 flok_X7 (by decide +kernel) (by decide +kernel) (by decide +kernel) (by decide +kernel)
def t_X7_looked : List ct_I := [(0, .iconst 0, 1, 0), (1, .istore_n 1, 1, 0), (2, .iload_n 1, 1, 0), (3, .aload_n 0, 1, 0), (4, .getfield 414, 3, 479), (7, .if_icmp .ge 44, 3, 0), (10, .aload_n 0, 1, 0), (11, .aload_n 0, 1, 0), (12, .getfield 72, 3, 477), (15, .iload_n 1, 1, 0), (16, .iaload, 1, 0), (17, .invokevirtual 108, 3, 0), (20, .ifCond .eq 23, 3, 0), (23, .aload_n 0, 1, 0), (24, .getfield 18, 3, 451), (27, .aload_n 0, 1, 0), (28, .getfield 72, 3, 477), (31, .iload_n 1, 1, 0), (32, .iaload, 1, 0), (33, .iaload, 1, 0), (34, .aload_n 0, 1, 0), (35, .getfield 75, 3, 478), (38, .iload_n 1, 1, 0), (39, .iaload, 1, 0), (40, .if_icmp .eq 5, 3, 0), (43, .iload_n 1, 1, 0), (44, .ireturn, 1, 0), (45, .iinc 1 1, 3, 0), (48, .goto (-46), 3, 0), (51, .bipush (-5), 2, 0), (53, .ireturn, 1, 0)]
def m_X7_looked : ct_M := (yX7_looked, cX7_looked, 2, (some .int), t_X7_looked)
set_option maxRecDepth 100000 in
theorem ok_X7_looked : ct_MOk m_X7_looked := ct_MOk_of 1538 83 flok_X7 (by decide +kernel) (by decide +kernel) (by decide +kernel) (by decide +kernel)
def t_X7_judge : List ct_I := [(0, .iload_n 1, 1, 0), (1, .invokestatic 417, 3, 0), (4, .ifCond .ne 5, 3, 0), (7, .iconst (-1), 1, 0), (8, .ireturn, 1, 0), (9, .aload_n 0, 1, 0), (10, .getfield 89, 3, 484), (13, .iload_n 1, 1, 0), (14, .iaload, 1, 0), (15, .ifCond .le 6, 3, 0), (18, .bipush (-12), 2, 0), (20, .ireturn, 1, 0), (21, .iconst 0, 1, 0), (22, .istore_n 3, 1, 0), (23, .iload_n 3, 1, 0), (24, .aload_n 0, 1, 0), (25, .invokevirtual 104, 3, 0), (28, .if_icmp .ge 62, 3, 0), (31, .aload_n 0, 1, 0), (32, .getfield 89, 3, 484), (35, .iload_n 1, 1, 0), (36, .iaload, 1, 0), (37, .ifCond .lt 19, 3, 0), (40, .iload_n 2, 1, 0), (41, .ifCond .lt 15, 3, 0), (44, .iload_n 3, 1, 0), (45, .aload_n 0, 1, 0), (46, .getfield 92, 3, 485), (49, .iload_n 1, 1, 0), (50, .iaload, 1, 0), (51, .iload_n 2, 1, 0), (52, .isub, 1, 0), (53, .if_icmp .lt 8, 3, 0), (56, .bipush 100, 2, 0), (58, .iload_n 3, 1, 0), (59, .iadd, 1, 0), (60, .ireturn, 1, 0), (61, .aload_n 0, 1, 0), (62, .getfield 97, 3, 486), (65, .iload_n 1, 1, 0), (66, .aaload, 1, 0), (67, .iload_n 2, 1, 0), (68, .iload_n 3, 1, 0), (69, .iadd, 1, 0), (70, .laload, 1, 0), (71, .aload_n 0, 1, 0), (72, .getfield 18, 3, 451), (75, .iload_n 3, 1, 0), (76, .iaload, 1, 0), (77, .i2l, 1, 0), (78, .lcmp, 1, 0), (79, .ifCond .eq 5, 3, 0), (82, .iload_n 3, 1, 0), (83, .ireturn, 1, 0), (84, .iinc 3 1, 3, 0), (87, .goto (-64), 3, 0), (90, .bipush (-5), 2, 0), (92, .ireturn, 1, 0)]
def m_X7_judge : ct_M := (yX7_judge, cX7_judge, 4, (some .int), t_X7_judge)
set_option maxRecDepth 100000 in
theorem ok_X7_judge : ct_MOk m_X7_judge := ct_MOk_of 1542 83 flok_X7 (by decide +kernel) (by decide +kernel) (by decide +kernel) (by decide +kernel)
def t_X7_together : List ct_I := [(0, .iconst 0, 1, 0), (1, .istore_n 1, 1, 0), (2, .iconst 0, 1, 0), (3, .istore_n 2, 1, 0), (4, .iload_n 2, 1, 0), (5, .aload_n 0, 1, 0), (6, .invokevirtual 104, 3, 0), (9, .if_icmp .ge 18, 3, 0), (12, .iload_n 1, 1, 0), (13, .aload_n 0, 1, 0), (14, .getfield 18, 3, 451), (17, .iload_n 2, 1, 0), (18, .iaload, 1, 0), (19, .iadd, 1, 0), (20, .istore_n 1, 1, 0), (21, .iinc 2 1, 3, 0), (24, .goto (-20), 3, 0), (27, .iload_n 1, 1, 0), (28, .ireturn, 1, 0)]
def m_X7_together : ct_M := (yX7_together, cX7_together, 3, (some .int), t_X7_together)
set_option maxRecDepth 100000 in
theorem ok_X7_together : ct_MOk m_X7_together := ct_MOk_of 1557 83 flok_X7 (by decide +kernel) (by decide +kernel) (by decide +kernel) (by decide +kernel)
def t_X7_rowsOf : List ct_I := [(0, .iload_n 1, 1, 0), (1, .tableswitch 60 0 4 #[35, 40, 45, 50, 55], 35, 0), (36, .aload_n 0, 1, 0), (37, .getfield 57, 3, 470), (40, .areturn, 1, 0), (41, .aload_n 0, 1, 0), (42, .getfield 60, 3, 471), (45, .areturn, 1, 0), (46, .aload_n 0, 1, 0), (47, .getfield 63, 3, 473), (50, .areturn, 1, 0), (51, .aload_n 0, 1, 0), (52, .getfield 66, 3, 474), (55, .areturn, 1, 0), (56, .aload_n 0, 1, 0), (57, .getfield 72, 3, 477), (60, .areturn, 1, 0), (61, .aload_n 0, 1, 0), (62, .getfield 75, 3, 478), (65, .areturn, 1, 0)]
def m_X7_rowsOf : ct_M := (yX7_rowsOf, cX7_rowsOf, 2, (some (.array .int)), t_X7_rowsOf)
set_option maxRecDepth 100000 in
theorem ok_X7_rowsOf : ct_MOk m_X7_rowsOf := ct_MOk_of 1553 83 flok_X7 (by decide +kernel) (by decide +kernel) (by decide +kernel) (by decide +kernel)
def t_X7_image : List ct_I := [(0, .aload_n 0, 1, 0), (1, .iconst 1, 1, 0), (2, .putfield 420, 3, 483), (5, .aload_n 0, 1, 0), (6, .getfield 78, 3, 480), (9, .iconst 0, 1, 0), (10, .aload_n 0, 1, 0), (11, .getfield 9, 3, 448), (14, .iastore, 1, 0), (15, .aload_n 0, 1, 0), (16, .getfield 78, 3, 480), (19, .iconst 1, 1, 0), (20, .aload_n 0, 1, 0), (21, .getfield 15, 3, 449), (24, .iastore, 1, 0), (25, .aload_n 0, 1, 0), (26, .getfield 78, 3, 480), (29, .iconst 2, 1, 0), (30, .aload_n 0, 1, 0), (31, .getfield 112, 3, 450), (34, .iastore, 1, 0), (35, .aload_n 0, 1, 0), (36, .getfield 78, 3, 480), (39, .iconst 3, 1, 0), (40, .aload_n 0, 1, 0), (41, .getfield 389, 3, 472), (44, .iastore, 1, 0), (45, .aload_n 0, 1, 0), (46, .getfield 78, 3, 480), (49, .iconst 4, 1, 0), (50, .aload_n 0, 1, 0), (51, .getfield 404, 3, 475), (54, .iastore, 1, 0), (55, .aload_n 0, 1, 0), (56, .getfield 78, 3, 480), (59, .iconst 5, 1, 0), (60, .aload_n 0, 1, 0), (61, .getfield 414, 3, 479), (64, .iastore, 1, 0), (65, .aload_n 0, 1, 0), (66, .getfield 18, 3, 451), (69, .iconst 0, 1, 0), (70, .aload_n 0, 1, 0), (71, .getfield 81, 3, 481), (74, .iconst 0, 1, 0), (75, .bipush 49, 2, 0), (77, .invokestatic 383, 3, 0), (80, .iconst 0, 1, 0), (81, .istore_n 1, 1, 0), (82, .iload_n 1, 1, 0), (83, .bipush 6, 2, 0), (85, .if_icmp .ge 31, 3, 0), (88, .aload_n 0, 1, 0), (89, .iload_n 1, 1, 0), (90, .invokevirtual 424, 3, 0), (93, .iconst 0, 1, 0), (94, .aload_n 0, 1, 0), (95, .getfield 86, 3, 482), (98, .iload_n 1, 1, 0), (99, .aaload, 1, 0), (100, .iconst 0, 1, 0), (101, .aload_n 0, 1, 0), (102, .iload_n 1, 1, 0), (103, .invokevirtual 424, 3, 0), (106, .arraylength, 1, 0), (107, .invokestatic 383, 3, 0), (110, .iinc 1 1, 3, 0), (113, .goto (-31), 3, 0), (116, .aload_n 0, 1, 0), (117, .invokevirtual 428, 3, 0), (120, .ireturn, 1, 0)]
def m_X7_image : ct_M := (yX7_image, cX7_image, 2, (some .int), t_X7_image)
set_option maxRecDepth 100000 in
theorem ok_X7_image : ct_MOk m_X7_image := ct_MOk_of 1549 83 flok_X7 (by decide +kernel) (by decide +kernel) (by decide +kernel) (by decide +kernel)
def t_X7_undo : List ct_I := [(0, .aload_n 0, 1, 0), (1, .getfield 420, 3, 483), (4, .ifCond .ne 6, 3, 0), (7, .bipush (-3), 2, 0), (9, .ireturn, 1, 0), (10, .aload_n 0, 1, 0), (11, .aload_n 0, 1, 0), (12, .getfield 78, 3, 480), (15, .iconst 0, 1, 0), (16, .iaload, 1, 0), (17, .putfield 9, 3, 448), (20, .aload_n 0, 1, 0), (21, .aload_n 0, 1, 0), (22, .getfield 78, 3, 480), (25, .iconst 1, 1, 0), (26, .iaload, 1, 0), (27, .putfield 15, 3, 449), (30, .aload_n 0, 1, 0), (31, .aload_n 0, 1, 0), (32, .getfield 78, 3, 480), (35, .iconst 2, 1, 0), (36, .iaload, 1, 0), (37, .putfield 112, 3, 450), (40, .aload_n 0, 1, 0), (41, .aload_n 0, 1, 0), (42, .getfield 78, 3, 480), (45, .iconst 3, 1, 0), (46, .iaload, 1, 0), (47, .putfield 389, 3, 472), (50, .aload_n 0, 1, 0), (51, .aload_n 0, 1, 0), (52, .getfield 78, 3, 480), (55, .iconst 4, 1, 0), (56, .iaload, 1, 0), (57, .putfield 404, 3, 475), (60, .aload_n 0, 1, 0), (61, .aload_n 0, 1, 0), (62, .getfield 78, 3, 480), (65, .iconst 5, 1, 0), (66, .iaload, 1, 0), (67, .putfield 414, 3, 479), (70, .aload_n 0, 1, 0), (71, .getfield 81, 3, 481), (74, .iconst 0, 1, 0), (75, .aload_n 0, 1, 0), (76, .getfield 18, 3, 451), (79, .iconst 0, 1, 0), (80, .bipush 49, 2, 0), (82, .invokestatic 383, 3, 0), (85, .iconst 0, 1, 0), (86, .istore_n 1, 1, 0), (87, .iload_n 1, 1, 0), (88, .bipush 6, 2, 0), (90, .if_icmp .ge 31, 3, 0), (93, .aload_n 0, 1, 0), (94, .getfield 86, 3, 482), (97, .iload_n 1, 1, 0), (98, .aaload, 1, 0), (99, .iconst 0, 1, 0), (100, .aload_n 0, 1, 0), (101, .iload_n 1, 1, 0), (102, .invokevirtual 424, 3, 0), (105, .iconst 0, 1, 0), (106, .aload_n 0, 1, 0), (107, .iload_n 1, 1, 0), (108, .invokevirtual 424, 3, 0), (111, .arraylength, 1, 0), (112, .invokestatic 383, 3, 0), (115, .iinc 1 1, 3, 0), (118, .goto (-31), 3, 0), (121, .aload_n 0, 1, 0), (122, .invokevirtual 428, 3, 0), (125, .ireturn, 1, 0)]
def m_X7_undo : ct_M := (yX7_undo, cX7_undo, 2, (some .int), t_X7_undo)
set_option maxRecDepth 100000 in
theorem ok_X7_undo : ct_MOk m_X7_undo := ct_MOk_of 1561 83 flok_X7 (by decide +kernel) (by decide +kernel) (by decide +kernel) (by decide +kernel)
def t_X7_count : List ct_I := [(0, .iload_n 1, 1, 0), (1, .ifCond .ne 10, 3, 0), (4, .aload_n 0, 1, 0), (5, .getfield 389, 3, 472), (8, .goto 41, 3, 0), (11, .iload_n 1, 1, 0), (12, .iconst 1, 1, 0), (13, .if_icmp .ne 10, 3, 0), (16, .aload_n 0, 1, 0), (17, .getfield 404, 3, 475), (20, .goto 29, 3, 0), (23, .iload_n 1, 1, 0), (24, .iconst 2, 1, 0), (25, .if_icmp .ne 10, 3, 0), (28, .aload_n 0, 1, 0), (29, .getfield 414, 3, 479), (32, .goto 17, 3, 0), (35, .iload_n 1, 1, 0), (36, .iconst 3, 1, 0), (37, .if_icmp .ne 10, 3, 0), (40, .aload_n 0, 1, 0), (41, .getfield 125, 3, 453), (44, .goto 5, 3, 0), (47, .bipush (-2), 2, 0), (49, .ireturn, 1, 0)]
def m_X7_count : ct_M := (yX7_count, cX7_count, 2, (some .int), t_X7_count)
set_option maxRecDepth 100000 in
theorem ok_X7_count : ct_MOk m_X7_count := ct_MOk_of 1565 83 flok_X7 (by decide +kernel) (by decide +kernel) (by decide +kernel) (by decide +kernel)
def t_X7_isTape : List ct_I := [(0, .iload_n 0, 1, 0), (1, .iconst 0, 1, 0), (2, .iconst 5, 1, 0), (3, .invokestatic 100, 3, 0), (6, .ireturn, 1, 0)]
def m_X7_isTape : ct_M := (yX7_isTape, cX7_isTape, 1, (some .boolean), t_X7_isTape)
set_option maxRecDepth 100000 in
theorem ok_X7_isTape : ct_MOk m_X7_isTape := ct_MOk_of 1545 83 flok_X7 (by decide +kernel) (by decide +kernel) (by decide +kernel) (by decide +kernel)
def t_X7_tape : List ct_I := [(0, .iload_n 1, 1, 0), (1, .invokestatic 417, 3, 0), (4, .ifCond .ne 5, 3, 0), (7, .iconst (-1), 1, 0), (8, .ireturn, 1, 0), (9, .iload_n 2, 1, 0), (10, .iconst (-1), 1, 0), (11, .iconst 4, 1, 0), (12, .invokestatic 100, 3, 0), (15, .ifCond .eq 13, 3, 0), (18, .iload_n 2, 1, 0), (19, .ifCond .lt 12, 3, 0), (22, .iload_n 3, 1, 0), (23, .bipush 60, 2, 0), (25, .if_icmp .le 6, 3, 0), (28, .bipush (-2), 2, 0), (30, .ireturn, 1, 0), (31, .iload_n 2, 1, 0), (32, .ifCond .lt 10, 3, 0), (35, .iload_n 3, 1, 0), (36, .ifCond .ge 6, 3, 0), (39, .bipush (-14), 2, 0), (41, .ireturn, 1, 0), (42, .aload_n 0, 1, 0), (43, .getfield 89, 3, 484), (46, .iload_n 1, 1, 0), (47, .iload_n 2, 1, 0), (48, .iastore, 1, 0), (49, .aload_n 0, 1, 0), (50, .getfield 92, 3, 485), (53, .iload_n 1, 1, 0), (54, .iload_n 2, 1, 0), (55, .ifCond .ge 7, 3, 0), (58, .iconst 0, 1, 0), (59, .goto 4, 3, 0), (62, .iload_n 3, 1, 0), (63, .iastore, 1, 0), (64, .iconst 0, 1, 0), (65, .istore 4, 2, 0), (67, .iload 4, 2, 0), (69, .bipush 60, 2, 0), (71, .if_icmp .ge 19, 3, 0), (74, .aload_n 0, 1, 0), (75, .getfield 97, 3, 486), (78, .iload_n 1, 1, 0), (79, .aaload, 1, 0), (80, .iload 4, 2, 0), (82, .lconst 0, 1, 0), (83, .lastore, 1, 0), (84, .iinc 4 1, 3, 0), (87, .goto (-20), 3, 0), (90, .iconst 1, 1, 0), (91, .ireturn, 1, 0)]
def m_X7_tape : ct_M := (yX7_tape, cX7_tape, 5, (some .int), t_X7_tape)
set_option maxRecDepth 100000 in
theorem ok_X7_tape : ct_MOk m_X7_tape := ct_MOk_of 1569 83 flok_X7 (by decide +kernel) (by decide +kernel) (by decide +kernel) (by decide +kernel)
def t_X7_asItem : List ct_I := [(0, .iload_n 0, 1, 0), (1, .tableswitch 47 0 3 #[31, 36, 41, 45], 31, 0), (32, .lload_n 1, 1, 0), (33, .l2i, 1, 0), (34, .i2b, 1, 0), (35, .i2l, 1, 0), (36, .lreturn, 1, 0), (37, .lload_n 1, 1, 0), (38, .l2i, 1, 0), (39, .i2s, 1, 0), (40, .i2l, 1, 0), (41, .lreturn, 1, 0), (42, .lload_n 1, 1, 0), (43, .l2i, 1, 0), (44, .i2l, 1, 0), (45, .lreturn, 1, 0), (46, .lload_n 1, 1, 0), (47, .lreturn, 1, 0), (48, .lload_n 1, 1, 0), (49, .lconst 0, 1, 0), (50, .lcmp, 1, 0), (51, .ifCond .eq 7, 3, 0), (54, .lconst 1, 1, 0), (55, .goto 4, 3, 0), (58, .lconst 0, 1, 0), (59, .lreturn, 1, 0)]
def m_X7_asItem : ct_M := (yX7_asItem, cX7_asItem, 3, (some .long), t_X7_asItem)
set_option maxRecDepth 100000 in
theorem ok_X7_asItem : ct_MOk m_X7_asItem := ct_MOk_of 1576 83 flok_X7 (by decide +kernel) (by decide +kernel) (by decide +kernel) (by decide +kernel)
def t_X7_item : List ct_I := [(0, .iload_n 1, 1, 0), (1, .invokestatic 417, 3, 0), (4, .ifCond .ne 5, 3, 0), (7, .iconst (-1), 1, 0), (8, .ireturn, 1, 0), (9, .aload_n 0, 1, 0), (10, .getfield 89, 3, 484), (13, .iload_n 1, 1, 0), (14, .iaload, 1, 0), (15, .ifCond .ge 6, 3, 0), (18, .bipush (-11), 2, 0), (20, .ireturn, 1, 0), (21, .iload_n 2, 1, 0), (22, .iconst 0, 1, 0), (23, .aload_n 0, 1, 0), (24, .getfield 92, 3, 485), (27, .iload_n 1, 1, 0), (28, .iaload, 1, 0), (29, .iconst 1, 1, 0), (30, .isub, 1, 0), (31, .invokestatic 100, 3, 0), (34, .ifCond .ne 6, 3, 0), (37, .bipush (-13), 2, 0), (39, .ireturn, 1, 0), (40, .aload_n 0, 1, 0), (41, .getfield 97, 3, 486), (44, .iload_n 1, 1, 0), (45, .aaload, 1, 0), (46, .iload_n 2, 1, 0), (47, .aload_n 0, 1, 0), (48, .getfield 89, 3, 484), (51, .iload_n 1, 1, 0), (52, .iaload, 1, 0), (53, .lload_n 3, 1, 0), (54, .invokestatic 431, 3, 0), (57, .lastore, 1, 0), (58, .iconst 1, 1, 0), (59, .ireturn, 1, 0)]
def m_X7_item : ct_M := (yX7_item, cX7_item, 5, (some .int), t_X7_item)
set_option maxRecDepth 100000 in
theorem ok_X7_item : ct_MOk m_X7_item := ct_MOk_of 1573 83 flok_X7 (by decide +kernel) (by decide +kernel) (by decide +kernel) (by decide +kernel)
def t_X7_peek : List ct_I := [(0, .iload_n 1, 1, 0), (1, .invokestatic 417, 3, 0), (4, .ifCond .eq 39, 3, 0), (7, .aload_n 0, 1, 0), (8, .getfield 89, 3, 484), (11, .iload_n 1, 1, 0), (12, .iaload, 1, 0), (13, .ifCond .lt 30, 3, 0), (16, .iload_n 2, 1, 0), (17, .iconst 0, 1, 0), (18, .aload_n 0, 1, 0), (19, .getfield 92, 3, 485), (22, .iload_n 1, 1, 0), (23, .iaload, 1, 0), (24, .iconst 1, 1, 0), (25, .isub, 1, 0), (26, .invokestatic 100, 3, 0), (29, .ifCond .eq 14, 3, 0), (32, .aload_n 0, 1, 0), (33, .getfield 97, 3, 486), (36, .iload_n 1, 1, 0), (37, .aaload, 1, 0), (38, .iload_n 2, 1, 0), (39, .laload, 1, 0), (40, .goto 6, 3, 0), (43, .ldc2_w 398, 3, 0), (46, .lreturn, 1, 0)]
def m_X7_peek : ct_M := (yX7_peek, cX7_peek, 3, (some .long), t_X7_peek)
set_option maxRecDepth 100000 in
theorem ok_X7_peek : ct_MOk m_X7_peek := ct_MOk_of 1580 83 flok_X7 (by decide +kernel) (by decide +kernel) (by decide +kernel) (by decide +kernel)
def t_X7_isWithin : List ct_I := [(0, .iload_n 2, 1, 0), (1, .ifCond .lt 19, 3, 0), (4, .iload_n 2, 1, 0), (5, .aload_n 0, 1, 0), (6, .getfield 92, 3, 485), (9, .iload_n 1, 1, 0), (10, .iaload, 1, 0), (11, .iload_n 3, 1, 0), (12, .isub, 1, 0), (13, .if_icmp .gt 7, 3, 0), (16, .iconst 1, 1, 0), (17, .goto 4, 3, 0), (20, .iconst 0, 1, 0), (21, .ireturn, 1, 0)]
def m_X7_isWithin : ct_M := (yX7_isWithin, cX7_isWithin, 4, (some .boolean), t_X7_isWithin)
set_option maxRecDepth 100000 in
theorem ok_X7_isWithin : ct_MOk m_X7_isWithin := ct_MOk_of 1588 83 flok_X7 (by decide +kernel) (by decide +kernel) (by decide +kernel) (by decide +kernel)
def t_X7_shift : List ct_I := [(0, .iload_n 1, 1, 0), (1, .invokestatic 417, 3, 0), (4, .ifCond .eq 10, 3, 0), (7, .iload_n 3, 1, 0), (8, .invokestatic 417, 3, 0), (11, .ifCond .ne 5, 3, 0), (14, .iconst (-1), 1, 0), (15, .ireturn, 1, 0), (16, .aload_n 0, 1, 0), (17, .getfield 89, 3, 484), (20, .iload_n 1, 1, 0), (21, .iaload, 1, 0), (22, .ifCond .lt 12, 3, 0), (25, .aload_n 0, 1, 0), (26, .getfield 89, 3, 484), (29, .iload_n 3, 1, 0), (30, .iaload, 1, 0), (31, .ifCond .ge 6, 3, 0), (34, .bipush (-11), 2, 0), (36, .ireturn, 1, 0), (37, .aload_n 0, 1, 0), (38, .getfield 89, 3, 484), (41, .iload_n 1, 1, 0), (42, .iaload, 1, 0), (43, .aload_n 0, 1, 0), (44, .getfield 89, 3, 484), (47, .iload_n 3, 1, 0), (48, .iaload, 1, 0), (49, .if_icmp .eq 6, 3, 0), (52, .bipush (-12), 2, 0), (54, .ireturn, 1, 0), (55, .iload 5, 2, 0), (57, .ifCond .lt 26, 3, 0), (60, .aload_n 0, 1, 0), (61, .iload_n 1, 1, 0), (62, .iload_n 2, 1, 0), (63, .iload 5, 2, 0), (65, .invokevirtual 435, 3, 0), (68, .ifCond .eq 15, 3, 0), (71, .aload_n 0, 1, 0), (72, .iload_n 3, 1, 0), (73, .iload 4, 2, 0), (75, .iload 5, 2, 0), (77, .invokevirtual 435, 3, 0), (80, .ifCond .ne 6, 3, 0), (83, .bipush (-13), 2, 0), (85, .ireturn, 1, 0), (86, .aload_n 0, 1, 0), (87, .getfield 97, 3, 486), (90, .iload_n 1, 1, 0), (91, .aaload, 1, 0), (92, .iload_n 2, 1, 0), (93, .aload_n 0, 1, 0), (94, .getfield 97, 3, 486), (97, .iload_n 3, 1, 0), (98, .aaload, 1, 0), (99, .iload 4, 2, 0), (101, .iload 5, 2, 0), (103, .invokestatic 383, 3, 0), (106, .iload 5, 2, 0), (108, .ireturn, 1, 0)]
def m_X7_shift : ct_M := (yX7_shift, cX7_shift, 6, (some .int), t_X7_shift)
set_option maxRecDepth 100000 in
theorem ok_X7_shift : ct_MOk m_X7_shift := ct_MOk_of 1584 83 flok_X7 (by decide +kernel) (by decide +kernel) (by decide +kernel) (by decide +kernel)
end
section
/-! joins, lets, and the JDK's own leaves -/
def ct_lt {β α : Type} (a : β) (F : β → Option α) : Option α := F a
def ct_jn {β α : Type} (f : (β → Option α) → Option α) (k : β → Option α) : Option α := f k
def ct_abs (a : Int) : Int := if 0 ≤ a then a else ct_wr (0 - a)
def ct_max (a b : Int) : Int := if a < b then b else a
def ct_min (a b : Int) : Int := if b < a then b else a
def ct_cpI (G : ct_G) (h : ct_H) (a : Nat) (sp : Int) (b : Nat) (dp n : Int) : Option ct_H := if 0 ≤ sp ∧ 0 ≤ dp ∧ 0 ≤ n ∧ sp + n ≤ (G.2 a : Int) ∧ dp + n ≤ (G.2 b : Int) then some (fun c j => if c = b then va_cpy (h.1 a) (h.1 b) sp.toNat dp.toNat n.toNat j else h.1 c j, h.2) else none
def ct_cpL (G : ct_G) (h : ct_H) (a : Nat) (sp : Int) (b : Nat) (dp n : Int) : Option ct_H := if 0 ≤ sp ∧ 0 ≤ dp ∧ 0 ≤ n ∧ sp + n ≤ (G.2 a : Int) ∧ dp + n ≤ (G.2 b : Int) then some (h.1, fun c j => if c = b then va_cpy (h.2 a) (h.2 b) sp.toNat dp.toNat n.toNat j else h.2 c j) else none
theorem ct_ofInt_max {a b : Int} (ha : ct_in a) (hb : ct_in b) : (if Int32.ofInt a < Int32.ofInt b then Int32.ofInt b else Int32.ofInt a) = Int32.ofInt (ct_max a b) := by
  unfold ct_max
  by_cases h : a < b
  · rw [if_pos ((ct_lt32 ha hb).mpr h), if_pos h]
  · rw [if_neg (fun z => h ((ct_lt32 ha hb).mp z)), if_neg h]
theorem ct_ofInt_min {a b : Int} (ha : ct_in a) (hb : ct_in b) : (if Int32.ofInt b < Int32.ofInt a then Int32.ofInt b else Int32.ofInt a) = Int32.ofInt (ct_min a b) := by
  unfold ct_min
  by_cases h : b < a
  · rw [if_pos ((ct_lt32 hb ha).mpr h), if_pos h]
  · rw [if_neg (fun z => h ((ct_lt32 hb ha).mp z)), if_neg h]
theorem ct_max_in {a b : Int} (ha : ct_in a) (hb : ct_in b) : ct_in (ct_max a b) := by
  unfold ct_max; split
  · exact hb
  · exact ha
theorem ct_min_in {a b : Int} (ha : ct_in a) (hb : ct_in b) : ct_in (ct_min a b) := by
  unfold ct_min; split
  · exact hb
  · exact ha
theorem ct_abs_in {a : Int} (ha : ct_in a) : ct_in (ct_abs a) := by
  unfold ct_abs; split
  · exact ha
  · exact ct_wr_in _
theorem ct_ofInt_abs {a : Int} (ha : ct_in a) : (if (0 : Int32) ≤ Int32.ofInt a then Int32.ofInt a else 0 - Int32.ofInt a) = Int32.ofInt (ct_abs a) := by
  have h0 : ((0 : Int32) ≤ Int32.ofInt a) ↔ 0 ≤ a := by
    have := ct_le32 ct_in0 ha
    rwa [ct_of0] at this
  unfold ct_abs
  by_cases h : 0 ≤ a
  · rw [if_pos (h0.mpr h), if_pos h]
  · rw [if_neg (fun z => h (h0.mp z)), if_neg h, ← ct_ofInt_sub, ct_of0]
section
variable {p : Program} {l : Launch} {e : Env} {R : Room} {s : State} {m : MethodId} {args : Array Value} {below : List Frame} {meth : Method} {c : Code} {maxL : Nat} {bytes : ByteArray} {own : String} {A : Nat → Prop} {D : va_G} {cA : Nat → ClassId} {ad : Nat → Nat} {G : ct_G} {K : Nat → Nat} {n d cells slots : Nat} {Q : State → Prop} {ls : ct_L} {st : List ct_PV} {h : ct_H}
theorem ct_gmx1 : Cond.static Lib.Math.max.name ∈ ct_GW := ct_GW_of 526 (by decide +kernel) (by decide +kernel)
theorem ct_gmx2 : Cond.code Lib.Math.max.name Lib.Math.max.code 2 (some .int) ∈ ct_GW := ct_GW_of 527 (by decide +kernel) (by decide +kernel)
theorem ct_gmn1 : Cond.static Lib.Math.min.name ∈ ct_GW := ct_GW_of 671 (by decide +kernel) (by decide +kernel)
theorem ct_gmn2 : Cond.code Lib.Math.min.name Lib.Math.min.code 2 (some .int) ∈ ct_GW := ct_GW_of 672 (by decide +kernel) (by decide +kernel)
theorem ct_gab1 : Cond.static Lib.Math.abs.name ∈ ct_GW := ct_GW_of 522 (by decide +kernel) (by decide +kernel)
theorem ct_gab2 : Cond.code Lib.Math.abs.name Lib.Math.abs.code 1 (some .int) ∈ ct_GW := ct_GW_of 523 (by decide +kernel) (by decide +kernel)
theorem ct_gm0 : Cond.initialized "java/lang/Math" ∈ ct_GW := ct_GW_of 88 (by decide +kernel) (by decide +kernel)
theorem ct_gcp1 : Cond.static arraycopyName ∈ ct_GW := ct_GW_of 897 (by decide +kernel) (by decide +kernel)
theorem ct_gcp2 : Cond.native arraycopyName ∈ ct_GW := ct_GW_of 898 (by decide +kernel) (by decide +kernel)
theorem ct_rsum {st : List ct_PV} (ad : Nat → Nat) (h : (st.map ct_cat).sum ≤ 8) : ((st.map (ct_mv ad)).map fun v => v.category).sum ≤ 8 := by rw [ct_sum_map]; exact h
theorem ct_Vmax (C : ct_Cx p R s m args c bytes maxL own A D cA ad G K n (d + 1) cells slots) {pc idx : Nat} {a b : Int} (hL : Cond.methodLink own idx Lib.Math.max.name ∈ ct_GW) (hdec : decode bytes pc = .ok (.invokestatic idx, 3)) (hr : (st.map ct_cat).sum ≤ 8)
    (kk : ct_V p l e R s m args below meth c maxL A D cA ad G K n cells slots Q (pc + 3) ls (.inl (ct_max a b) :: st) h) : ct_V p l e R s m args below meth c maxL A D cA ad G K n cells slots Q pc ls (.inl b :: .inl a :: st) h := by
  obtain ⟨hx, hb, hml, hown, hts, hK, hD, hWT, hR, -⟩ := C
  intro H locs lm hP hS hl ho hs hh
  have hb0 : ct_in b := ct_hd hs
  have ha0 : ct_in a := ct_hd (ct_tl hs)
  have hr' := ct_rsum ad hr
  refine va_mmax hx hb (hml.trans hl.1.symm) hown (hts _ hL) (hts _ ct_gmx1) (hts _ ct_gm0) (hts _ ct_gmx2) (by omega) (by omega) hR.2.2.1 hR.2.2.2 hdec ?_
  rw [ct_ofInt_max ha0 hb0]
  exact kk H locs lm hP hS hl ho (ct_cons_ok (ct_max_in ha0 hb0) (ct_tl (ct_tl hs))) hh
theorem ct_Vmin (C : ct_Cx p R s m args c bytes maxL own A D cA ad G K n (d + 1) cells slots) {pc idx : Nat} {a b : Int} (hL : Cond.methodLink own idx Lib.Math.min.name ∈ ct_GW) (hdec : decode bytes pc = .ok (.invokestatic idx, 3)) (hr : (st.map ct_cat).sum ≤ 8)
    (kk : ct_V p l e R s m args below meth c maxL A D cA ad G K n cells slots Q (pc + 3) ls (.inl (ct_min a b) :: st) h) : ct_V p l e R s m args below meth c maxL A D cA ad G K n cells slots Q pc ls (.inl b :: .inl a :: st) h := by
  obtain ⟨hx, hb, hml, hown, hts, hK, hD, hWT, hR, -⟩ := C
  intro H locs lm hP hS hl ho hs hh
  have hb0 : ct_in b := ct_hd hs
  have ha0 : ct_in a := ct_hd (ct_tl hs)
  have hr' := ct_rsum ad hr
  refine va_mmin hx hb (hml.trans hl.1.symm) hown (hts _ hL) (hts _ ct_gmn1) (hts _ ct_gm0) (hts _ ct_gmn2) (by omega) (by omega) hR.2.2.1 hR.2.2.2 hdec ?_
  rw [ct_ofInt_min ha0 hb0]
  exact kk H locs lm hP hS hl ho (ct_cons_ok (ct_min_in ha0 hb0) (ct_tl (ct_tl hs))) hh
theorem ct_Vabs (C : ct_Cx p R s m args c bytes maxL own A D cA ad G K n (d + 1) cells slots) {pc idx : Nat} {a : Int} (hL : Cond.methodLink own idx Lib.Math.abs.name ∈ ct_GW) (hdec : decode bytes pc = .ok (.invokestatic idx, 3)) (hr : (st.map ct_cat).sum ≤ 8)
    (kk : ct_V p l e R s m args below meth c maxL A D cA ad G K n cells slots Q (pc + 3) ls (.inl (ct_abs a) :: st) h) : ct_V p l e R s m args below meth c maxL A D cA ad G K n cells slots Q pc ls (.inl a :: st) h := by
  obtain ⟨hx, hb, hml, hown, hts, hK, hD, hWT, hR, -⟩ := C
  intro H locs lm hP hS hl ho hs hh
  have ha0 : ct_in a := ct_hd hs
  have hr' := ct_rsum ad hr
  refine va_mabs hx hb (hml.trans hl.1.symm) hown (hts _ hL) (hts _ ct_gab1) (hts _ ct_gm0) (hts _ ct_gab2) (by omega) (by omega) hR.2.2.1 hR.2.2.2 hdec ?_
  rw [ct_ofInt_abs ha0]
  exact kk H locs lm hP hS hl ho (ct_cons_ok (ct_abs_in ha0) (ct_tl hs)) hh
theorem ct_Vldc2 (C : ct_Cx p R s m args c bytes maxL own A D cA ad G K n d cells slots) {pc idx : Nat} {v : Int64} (hL : Cond.constantLong own idx v ∈ ct_GW) (hdec : decode bytes pc = .ok (.ldc2_w idx, 3))
    (kk : ct_V p l e R s m args below meth c maxL A D cA ad G K n cells slots Q (pc + 3) ls (.inr (.inl v) :: st) h) : ct_V p l e R s m args below meth c maxL A D cA ad G K n cells slots Q pc ls st h := by
  obtain ⟨hx, hb, hml, hown, hts, hK, hD, hWT, hR, -⟩ := C
  intro H locs lm hP hS hl ho hs hh
  exact lv_ldc2 hx hb hown (hts _ hL) hdec (kk H locs lm hP hS hl ho (ct_cons_ok trivial hs) hh)
theorem ct_nz {i : Int} (h : ct_in i) (h0 : 0 ≤ i) : ¬ Int32.ofInt i < 0 := by
  have := ct_lt32 h ct_in0
  rw [ct_of0] at this
  exact fun z => by have := this.mp z; omega
theorem ct_nfw : nativeFrameWords "java/lang/System" "arraycopy" 5 + 11 ≤ 32 := by decide +kernel
theorem ct_Vcopy (C : ct_Cx p R s m args c bytes maxL own A D cA ad G K n (d + 1) cells slots) {pc idx a b : Nat} {sp dp k : Int} {h' : ct_H} (hL : Cond.methodLink own idx arraycopyName ∈ ct_GW) (hI : Cond.initialized "java/lang/System" ∈ ct_GW) (hdec : decode bytes pc = .ok (.invokestatic idx, 3)) (hr : (st.map ct_cat).sum ≤ 8) (hv : ct_cpI G h a sp b dp k = some h')
    (kk : ct_V p l e R s m args below meth c maxL A D cA ad G K n cells slots Q (pc + 3) ls st h') : ct_V p l e R s m args below meth c maxL A D cA ad G K n cells slots Q pc ls (.inl k :: .inl dp :: .inr (.inr (8, b)) :: .inl sp :: .inr (.inr (8, a)) :: st) h := by
  obtain ⟨hx, hb, hml, hown, hts, hK, hD, hWT, hR, -⟩ := C
  intro H locs lm hP hS hl ho hs hh
  have hk0 : ct_in k := ct_hd hs
  have hd0 : ct_in dp := ct_hd (ct_tl hs)
  have hs0 : ct_in sp := ct_hd (ct_tl (ct_tl (ct_tl hs)))
  have hq1 := ct_hd (ct_tl (ct_tl hs))
  have hq0 := ct_hd (ct_tl (ct_tl (ct_tl (ct_tl hs))))
  rcases hq1 with ⟨hn1, hk1⟩ | ⟨hk1, -⟩
  case inr => dsimp only at hk1; omega
  rcases hq0 with ⟨hn0, hk00⟩ | ⟨hk00, -⟩
  case inr => dsimp only at hk00; omega
  dsimp only at hn1 hk1 hn0 hk00
  unfold ct_cpI at hv
  split at hv
  case isFalse => cases hv
  rename_i hin
  cases hv
  obtain ⟨i1, i2, i3, i4, i5⟩ := hin
  have hr' := ct_rsum ad hr
  have hnf := ct_nfw
  have hc0 := ct_ws_get (cA := cA) (ad := ad) (G := G) (K := K) (h := h) hn0
  rw [ct_cell_int (by omega) (by omega)] at hc0
  have hc1 := ct_ws_get (cA := cA) (ad := ad) (G := G) (K := K) (h := h) hn1
  rw [ct_cell_int (by omega) (by omega)] at hc1
  refine va_copyi hx hb (hml.trans hl.1.symm) hown (hts _ hL) (hts _ ct_gcp2) (hts _ ct_gcp1) (hts _ hI) hK hP (ct_wsD hD.1 hD.2) hS a b 0 0 (ty := .int) hc0 hc1 (by rw [hk00]; rfl) (by rw [hk1]; rfl) rfl (ct_nz hs0 i1) (ct_nz hd0 i2) (ct_nz hk0 i3) (by rw [ct_clamp hs0 i1, ct_clamp hk0 i3]; omega) (by rw [ct_clamp hd0 i2, ct_clamp hk0 i3]; omega) (fun _ _ => rfl) (by omega) (by show (List.map (fun v => v.category) (List.map (ct_mv ad) st)).sum + _ ≤ _; omega) hdec (fun H1 locs1 hP1 hD1 hS1 => ?_)
  refine kk H1 locs1 lm ?_ hS1 hl ho (ct_tl (ct_tl (ct_tl (ct_tl (ct_tl hs))))) ?_
  · rw [ct_clamp hs0 i1, ct_clamp hk0 i3, ct_clamp hd0 i2] at hP1
    rw [← ct_ws_set (h := h) (i := b) (e := .inl (cA (K b), G.2 b, .inl (va_cpy (fun j => Int32.ofInt (h.1 a j)) (fun j => Int32.ofInt (h.1 b j)) sp.toNat dp.toNat k.toNat))) ?_ ?_]
    · exact hP1
    · rw [ct_cell_int (by omega) (by omega)]
      congr 4
      funext j
      dsimp only
      rw [if_pos rfl]
      unfold va_cpy
      split <;> rfl
    · intro j hj
      unfold ct_cell
      simp [hj]
  · intro i j
    dsimp only
    split
    · unfold va_cpy
      split
      · exact hh _ _
      · exact hh _ _
    · exact hh _ _
theorem ct_VcopyL (C : ct_Cx p R s m args c bytes maxL own A D cA ad G K n (d + 1) cells slots) {pc idx a b : Nat} {sp dp k : Int} {h' : ct_H} (hL : Cond.methodLink own idx arraycopyName ∈ ct_GW) (hI : Cond.initialized "java/lang/System" ∈ ct_GW) (hdec : decode bytes pc = .ok (.invokestatic idx, 3)) (hr : (st.map ct_cat).sum ≤ 8) (hv : ct_cpL G h a sp b dp k = some h')
    (kk : ct_V p l e R s m args below meth c maxL A D cA ad G K n cells slots Q (pc + 3) ls st h') : ct_V p l e R s m args below meth c maxL A D cA ad G K n cells slots Q pc ls (.inl k :: .inl dp :: .inr (.inr (11, b)) :: .inl sp :: .inr (.inr (11, a)) :: st) h := by
  obtain ⟨hx, hb, hml, hown, hts, hK, hD, hWT, hR, -⟩ := C
  intro H locs lm hP hS hl ho hs hh
  have hk0 : ct_in k := ct_hd hs
  have hd0 : ct_in dp := ct_hd (ct_tl hs)
  have hs0 : ct_in sp := ct_hd (ct_tl (ct_tl (ct_tl hs)))
  have hq1 := ct_hd (ct_tl (ct_tl hs))
  have hq0 := ct_hd (ct_tl (ct_tl (ct_tl (ct_tl hs))))
  rcases hq1 with ⟨hn1, hk1⟩ | ⟨hk1, -⟩
  case inr => dsimp only at hk1; omega
  rcases hq0 with ⟨hn0, hk00⟩ | ⟨hk00, -⟩
  case inr => dsimp only at hk00; omega
  dsimp only at hn1 hk1 hn0 hk00
  unfold ct_cpL at hv
  split at hv
  case isFalse => cases hv
  rename_i hin
  cases hv
  obtain ⟨i1, i2, i3, i4, i5⟩ := hin
  have hr' := ct_rsum ad hr
  have hnf := ct_nfw
  have hc0 := ct_ws_get (cA := cA) (ad := ad) (G := G) (K := K) (h := h) hn0
  rw [ct_cell_long hk00] at hc0
  have hc1 := ct_ws_get (cA := cA) (ad := ad) (G := G) (K := K) (h := h) hn1
  rw [ct_cell_long hk1] at hc1
  refine va_copyl hx hb (hml.trans hl.1.symm) hown (hts _ hL) (hts _ ct_gcp2) (hts _ ct_gcp1) (hts _ hI) hK hP (ct_wsD hD.1 hD.2) hS a b 3 3 (ty := .long) hc0 hc1 rfl rfl rfl (ct_nz hs0 i1) (ct_nz hd0 i2) (ct_nz hk0 i3) (by rw [ct_clamp hs0 i1, ct_clamp hk0 i3]; omega) (by rw [ct_clamp hd0 i2, ct_clamp hk0 i3]; omega) (fun _ _ => rfl) (by omega) (by show (List.map (fun v => v.category) (List.map (ct_mv ad) st)).sum + _ ≤ _; omega) hdec (fun H1 locs1 hP1 hD1 hS1 => ?_)
  refine kk H1 locs1 lm ?_ hS1 hl ho (ct_tl (ct_tl (ct_tl (ct_tl (ct_tl hs))))) (fun i j => hh i j)
  rw [ct_clamp hs0 i1, ct_clamp hk0 i3, ct_clamp hd0 i2] at hP1
  rw [← ct_ws_set (h := h) (i := b) (e := .inl (cA 11, G.2 b, .inr (.inl (va_cpy (fun j => h.2 a j) (fun j => h.2 b j) sp.toNat dp.toNat k.toNat)))) ?_ ?_]
  · exact hP1
  · rw [ct_cell_long hk1]
    congr 5
    funext j
    dsimp only
    rw [if_pos rfl]
  · intro j hj
    unfold ct_cell
    simp [hj]
end
section
variable {α : Type} {x : ct_Ctx} {M : ct_M} {G : ct_G} {d k : Nat} {ls : ct_L} {st : List ct_PV} {h : ct_H} {P : α → Prop} {o : Option α}
theorem ct_zlet {β : Type} {a : β} {F : β → Option α} {L : β → ct_L} {S : β → List ct_PV} {Hh : β → ct_H} (z : ∀ v, ct_Z x M G k (L v) (S v) (Hh v) P (F v)) : ct_Z x M G k (L a) (S a) (Hh a) P (ct_lt a F) := z a
theorem ct_zjn {β : Type} {kJ : Nat} {L : β → ct_L} {S : β → List ct_PV} {Hh : β → ct_H} {f : (β → Option α) → Option α} {F : β → Option α} (z2 : ∀ b, ct_Z x M G kJ (L b) (S b) (Hh b) P (F b)) (z1 : ∀ F' : β → Option α, (∀ b, ct_Z x M G kJ (L b) (S b) (Hh b) P (F' b)) → ct_Z x M G k ls st h P (f F')) : ct_Z x M G k ls st h P (ct_jn f F) := z1 F z2
theorem ct_zmax (C : ct_c x M G (d + 1)) {pc aux idx : Nat} {a b : Int} (hL : Cond.methodLink M.1.cls idx Lib.Math.max.name ∈ ct_GW) (hk : M.2.2.2.2[k]? = some (pc, .invokestatic idx, 3, aux)) (hlt : Nat.blt (k + 1) M.2.2.2.2.length = true) (hrest : Nat.ble (st.map ct_cat).sum 8 = true) (z : ct_Z x M G (k + 1) ls (.inl (ct_max a b) :: st) h P o) : ct_Z x M G k ls (.inl b :: .inl a :: st) h P o := by
  intro r hr hp
  have hz := z r hr hp
  obtain ⟨p, l, e, R, s, m, args, below, meth, c, A, D, cA, ad, K, n, cells, slots, Q⟩ := x
  obtain ⟨hM, hC, -⟩ := C
  obtain ⟨r1, r2⟩ := ct_row hM hk
  unfold ct_v at hz ⊢
  dsimp only at hz ⊢ r1 r2
  rw [ct_next hM hk hlt] at hz
  rw [r2]
  exact ct_Vmax hC hL r1 (Nat.le_of_ble_eq_true hrest) hz
theorem ct_zmin (C : ct_c x M G (d + 1)) {pc aux idx : Nat} {a b : Int} (hL : Cond.methodLink M.1.cls idx Lib.Math.min.name ∈ ct_GW) (hk : M.2.2.2.2[k]? = some (pc, .invokestatic idx, 3, aux)) (hlt : Nat.blt (k + 1) M.2.2.2.2.length = true) (hrest : Nat.ble (st.map ct_cat).sum 8 = true) (z : ct_Z x M G (k + 1) ls (.inl (ct_min a b) :: st) h P o) : ct_Z x M G k ls (.inl b :: .inl a :: st) h P o := by
  intro r hr hp
  have hz := z r hr hp
  obtain ⟨p, l, e, R, s, m, args, below, meth, c, A, D, cA, ad, K, n, cells, slots, Q⟩ := x
  obtain ⟨hM, hC, -⟩ := C
  obtain ⟨r1, r2⟩ := ct_row hM hk
  unfold ct_v at hz ⊢
  dsimp only at hz ⊢ r1 r2
  rw [ct_next hM hk hlt] at hz
  rw [r2]
  exact ct_Vmin hC hL r1 (Nat.le_of_ble_eq_true hrest) hz
theorem ct_zabs (C : ct_c x M G (d + 1)) {pc aux idx : Nat} {a : Int} (hL : Cond.methodLink M.1.cls idx Lib.Math.abs.name ∈ ct_GW) (hk : M.2.2.2.2[k]? = some (pc, .invokestatic idx, 3, aux)) (hlt : Nat.blt (k + 1) M.2.2.2.2.length = true) (hrest : Nat.ble (st.map ct_cat).sum 8 = true) (z : ct_Z x M G (k + 1) ls (.inl (ct_abs a) :: st) h P o) : ct_Z x M G k ls (.inl a :: st) h P o := by
  intro r hr hp
  have hz := z r hr hp
  obtain ⟨p, l, e, R, s, m, args, below, meth, c, A, D, cA, ad, K, n, cells, slots, Q⟩ := x
  obtain ⟨hM, hC, -⟩ := C
  obtain ⟨r1, r2⟩ := ct_row hM hk
  unfold ct_v at hz ⊢
  dsimp only at hz ⊢ r1 r2
  rw [ct_next hM hk hlt] at hz
  rw [r2]
  exact ct_Vabs hC hL r1 (Nat.le_of_ble_eq_true hrest) hz
theorem ct_zldc2 (C : ct_c x M G d) {pc aux idx : Nat} {v : Int64} (hL : Cond.constantLong M.1.cls idx v ∈ ct_GW) (hk : M.2.2.2.2[k]? = some (pc, .ldc2_w idx, 3, aux)) (hlt : Nat.blt (k + 1) M.2.2.2.2.length = true) (z : ct_Z x M G (k + 1) ls (.inr (.inl v) :: st) h P o) : ct_Z x M G k ls st h P o := by
  intro r hr hp
  have hz := z r hr hp
  obtain ⟨p, l, e, R, s, m, args, below, meth, c, A, D, cA, ad, K, n, cells, slots, Q⟩ := x
  obtain ⟨hM, hC, -⟩ := C
  obtain ⟨r1, r2⟩ := ct_row hM hk
  unfold ct_v at hz ⊢
  dsimp only at hz ⊢ r1 r2
  rw [ct_next hM hk hlt] at hz
  rw [r2]
  exact ct_Vldc2 hC hL r1 hz
theorem ct_zcopy (C : ct_c x M G (d + 1)) {pc aux idx a b : Nat} {sp dp n : Int} {F : ct_H → Option α} (hL : Cond.methodLink M.1.cls idx arraycopyName ∈ ct_GW) (hI : Cond.initialized "java/lang/System" ∈ ct_GW) (hk : M.2.2.2.2[k]? = some (pc, .invokestatic idx, 3, aux)) (hlt : Nat.blt (k + 1) M.2.2.2.2.length = true) (hrest : Nat.ble (st.map ct_cat).sum 8 = true) (z : ∀ h', ct_Z x M G (k + 1) ls st h' P (F h')) : ct_Z x M G k ls (.inl n :: .inl dp :: .inr (.inr (8, b)) :: .inl sp :: .inr (.inr (8, a)) :: st) h P ((ct_cpI G h a sp b dp n).bind F) := by
  intro r hr hp
  obtain ⟨v, h1, h2⟩ := Option.bind_eq_some_iff.mp hr
  have hz := z v r h2 hp
  obtain ⟨p, l, e, R, s, m, args, below, meth, c, A, D, cA, ad, K, n, cells, slots, Q⟩ := x
  obtain ⟨hM, hC, -⟩ := C
  obtain ⟨r1, r2⟩ := ct_row hM hk
  unfold ct_v at hz ⊢
  dsimp only at hz ⊢ r1 r2
  rw [ct_next hM hk hlt] at hz
  rw [r2]
  exact ct_Vcopy hC hL hI r1 (Nat.le_of_ble_eq_true hrest) h1 hz
theorem ct_zcopyL (C : ct_c x M G (d + 1)) {pc aux idx a b : Nat} {sp dp n : Int} {F : ct_H → Option α} (hL : Cond.methodLink M.1.cls idx arraycopyName ∈ ct_GW) (hI : Cond.initialized "java/lang/System" ∈ ct_GW) (hk : M.2.2.2.2[k]? = some (pc, .invokestatic idx, 3, aux)) (hlt : Nat.blt (k + 1) M.2.2.2.2.length = true) (hrest : Nat.ble (st.map ct_cat).sum 8 = true) (z : ∀ h', ct_Z x M G (k + 1) ls st h' P (F h')) : ct_Z x M G k ls (.inl n :: .inl dp :: .inr (.inr (11, b)) :: .inl sp :: .inr (.inr (11, a)) :: st) h P ((ct_cpL G h a sp b dp n).bind F) := by
  intro r hr hp
  obtain ⟨v, h1, h2⟩ := Option.bind_eq_some_iff.mp hr
  have hz := z v r h2 hp
  obtain ⟨p, l, e, R, s, m, args, below, meth, c, A, D, cA, ad, K, n, cells, slots, Q⟩ := x
  obtain ⟨hM, hC, -⟩ := C
  obtain ⟨r1, r2⟩ := ct_row hM hk
  unfold ct_v at hz ⊢
  dsimp only at hz ⊢ r1 r2
  rw [ct_next hM hk hlt] at hz
  rw [r2]
  exact ct_VcopyL hC hL hI r1 (Nat.le_of_ble_eq_true hrest) h1 hz
end
end
section
def l_J7_fill_53178_5 (G : ct_G) (a0 : Nat) (a1 : Int) (v1 : Int) : Nat → (Int × ct_H) → Option (ct_H)
  | 0, _ => none
  | n3 + 1, b2 => if v1 ≤ b2.1 then (some (b2.2)) else (ct_wt G b2.2 a0 b2.1 a1).bind fun h4 => l_J7_fill_53178_5 G a0 a1 v1 n3 ((ct_wr (b2.1 + 1)), h4)
set_option maxRecDepth 100000 in
theorem zl_J7_fill_53178_5 {x : ct_Ctx} {d : Nat} {G : ct_G} (C : ct_c x m_J7_fill_53178 G d) (a0 : Nat) (a1 : Int) (v1 : Int) : ∀ (n3 : Nat) (b2 : Int × ct_H), ct_Z x m_J7_fill_53178 G 5 [(0, .inr (.inr (8, a0))), (1, .inl a1), (2, .inl (b2.1)), (3, .inl v1)] [] b2.2 (fun a => ct_q x G ((fun r : ct_H => ((none : Option ct_PV), r)) a)) (l_J7_fill_53178_5 G a0 a1 v1 n3 b2) := by
  intro n3
  induction n3 with
  | zero => intro b2; exact ct_znone
  | succ n3 ih =>
    intro b2
    rw [l_J7_fill_53178_5]
    refine ct_zrun C (k' := 7) (y := ([(0, .inr (.inr (8, a0))), (1, .inl a1), (2, .inl (b2.1)), (3, .inl v1)], [.inl v1, .inl (b2.1)], b2.2)) 2 rfl rfl rfl ?_
    refine ct_zt C (pc := 7) (aux := 0) (cn := .ge) (off := 13) (k' := 14) (a := b2.1) (b := v1) Iff.rfl rfl rfl rfl (fun e5 => ?_) (fun e5 => ?_)
    · exact ct_zret C (pc := 20) (aux := 0) (ins := .return_) (ρ := (fun r : ct_H => ((none : Option ct_PV), r))) none rfl rfl rfl ⟨rfl, rfl⟩
    · refine ct_zrun C (k' := 11) (y := ([(0, .inr (.inr (8, a0))), (1, .inl a1), (2, .inl (b2.1)), (3, .inl v1)], [.inl a1, .inl (b2.1), .inr (.inr (8, a0))], b2.2)) 3 rfl rfl rfl ?_
      refine ct_zwt C (pc := 13) (aux := 0) rfl rfl (fun h4 => ?_)
      refine ct_zrun C (k' := 13) (y := ([(2, .inl (ct_wr (b2.1 + 1))), (0, .inr (.inr (8, a0))), (1, .inl a1), (3, .inl v1)], [], h4)) 1 rfl rfl rfl ?_
      refine ct_zgoto C (pc := 17) (aux := 0) (off := (-12)) (k' := 5) rfl rfl ?_
      exact ct_zsub [1, 2, 0, 3] rfl (ih ((ct_wr (b2.1 + 1)), h4))
def f_J7_fill_53178 (G : ct_G) (h : ct_H) (a0 : Nat) (a1 : Int) : Option (ct_H) := ct_lt ((G.2 a0 : Nat) : Int) fun v1 => l_J7_fill_53178_5 G a0 a1 v1 200 (0, h)
set_option maxRecDepth 100000 in
theorem e_J7_fill_53178 {d : Nat} {G : ct_G} {h : ct_H} (a0 : Nat) (a1 : Int) : ct_E m_J7_fill_53178 d G (ct_args 0 [.inr (.inr (8, a0)), .inl a1]) h (fun r : ct_H => ((none : Option ct_PV), r)) (f_J7_fill_53178 G h a0 a1) := by
  intro x C
  unfold f_J7_fill_53178
  show ct_Z x m_J7_fill_53178 G 0 [(0, .inr (.inr (8, a0))), (1, .inl a1)] [] h (fun a => ct_q x G ((fun r : ct_H => ((none : Option ct_PV), r)) a)) _
  refine ct_zrun C (k' := 5) (y := ([(3, .inl ((G.2 a0 : Nat) : Int)), (2, .inl 0), (0, .inr (.inr (8, a0))), (1, .inl a1)], [], h)) 5 rfl rfl rfl ?_
  refine ct_zlet (L := fun v1 => [(3, .inl v1), (2, .inl 0), (0, .inr (.inr (8, a0))), (1, .inl a1)]) (S := fun _ => []) (Hh := fun _ => h) (a := ((G.2 a0 : Nat) : Int)) (fun v1 => ?_)
  exact ct_zsub [2, 3, 1, 0] rfl (zl_J7_fill_53178_5 C a0 a1 v1 200 (0, h))
theorem lc_J13_314 : Cond.constantLong RJ13 314 (6148914691236517205) ∈ ct_GW := ct_GW_of 646 (by decide +kernel) (by decide +kernel)
theorem lc_J13_316 : Cond.constantLong RJ13 316 (3689348814741910323) ∈ ct_GW := ct_GW_of 647 (by decide +kernel) (by decide +kernel)
theorem lc_J13_318 : Cond.constantLong RJ13 318 (1085102592571150095) ∈ ct_GW := ct_GW_of 648 (by decide +kernel) (by decide +kernel)
def f_J13_bitCount_95d88 (G : ct_G) (h : ct_H) (a0 : Int64) : Option (Int) := ct_lt (a0 - ((((a0).toUInt64 >>> ((Int32.ofInt 1).toInt64.toUInt64 &&& Int64.toUInt64 63)).toInt64) &&& (6148914691236517205 : Int64))) fun v1 => ct_lt ((v1 &&& (3689348814741910323 : Int64)) + ((((v1).toUInt64 >>> ((Int32.ofInt 2).toInt64.toUInt64 &&& Int64.toUInt64 63)).toInt64) &&& (3689348814741910323 : Int64))) fun v2 => ct_lt ((v2 + (((v2).toUInt64 >>> ((Int32.ofInt 4).toInt64.toUInt64 &&& Int64.toUInt64 63)).toInt64)) &&& (1085102592571150095 : Int64)) fun v3 => ct_lt (v3 + (((v3).toUInt64 >>> ((Int32.ofInt 8).toInt64.toUInt64 &&& Int64.toUInt64 63)).toInt64)) fun v4 => ct_lt (v4 + (((v4).toUInt64 >>> ((Int32.ofInt 16).toInt64.toUInt64 &&& Int64.toUInt64 63)).toInt64)) fun v5 => ct_lt (v5 + (((v5).toUInt64 >>> ((Int32.ofInt 32).toInt64.toUInt64 &&& Int64.toUInt64 63)).toInt64)) fun v6 => some (ct_bop (fun x y => x &&& y) ((v6).toInt32.toInt) 127)
set_option maxRecDepth 100000 in
theorem e_J13_bitCount_95d88 {d : Nat} {G : ct_G} {h : ct_H} (a0 : Int64) : ct_E m_J13_bitCount_95d88 d G (ct_args 0 [.inr (.inl a0)]) h (fun r : Int => (some (.inl r : ct_PV), h)) (f_J13_bitCount_95d88 G h a0) := by
  intro x C
  unfold f_J13_bitCount_95d88
  show ct_Z x m_J13_bitCount_95d88 G 0 [(0, .inr (.inl a0))] [] h (fun a => ct_q x G ((fun r : Int => (some (.inl r : ct_PV), h)) a)) _
  refine ct_zrun C (k' := 4) (y := ([(0, .inr (.inl a0))], [.inr (.inl (((a0).toUInt64 >>> ((Int32.ofInt 1).toInt64.toUInt64 &&& Int64.toUInt64 63)).toInt64)), .inr (.inl a0)], h)) 4 rfl rfl rfl ?_
  refine ct_zldc2 C (pc := 4) (aux := 0) (v := 6148914691236517205) lc_J13_314 rfl rfl ?_
  refine ct_zrun C (k' := 8) (y := ([(0, .inr (.inl (a0 - ((((a0).toUInt64 >>> ((Int32.ofInt 1).toInt64.toUInt64 &&& Int64.toUInt64 63)).toInt64) &&& (6148914691236517205 : Int64)))))], [], h)) 3 rfl rfl rfl ?_
  refine ct_zlet (L := fun v1 => [(0, .inr (.inl v1))]) (S := fun _ => []) (Hh := fun _ => h) (a := (a0 - ((((a0).toUInt64 >>> ((Int32.ofInt 1).toInt64.toUInt64 &&& Int64.toUInt64 63)).toInt64) &&& (6148914691236517205 : Int64)))) (fun v1 => ?_)
  refine ct_zrun C (k' := 9) (y := ([(0, .inr (.inl v1))], [.inr (.inl v1)], h)) 1 rfl rfl rfl ?_
  refine ct_zldc2 C (pc := 11) (aux := 0) (v := 3689348814741910323) lc_J13_316 rfl rfl ?_
  refine ct_zrun C (k' := 14) (y := ([(0, .inr (.inl v1))], [.inr (.inl (((v1).toUInt64 >>> ((Int32.ofInt 2).toInt64.toUInt64 &&& Int64.toUInt64 63)).toInt64)), .inr (.inl (v1 &&& (3689348814741910323 : Int64)))], h)) 4 rfl rfl rfl ?_
  refine ct_zldc2 C (pc := 18) (aux := 0) (v := 3689348814741910323) lc_J13_316 rfl rfl ?_
  refine ct_zrun C (k' := 18) (y := ([(0, .inr (.inl ((v1 &&& (3689348814741910323 : Int64)) + ((((v1).toUInt64 >>> ((Int32.ofInt 2).toInt64.toUInt64 &&& Int64.toUInt64 63)).toInt64) &&& (3689348814741910323 : Int64)))))], [], h)) 3 rfl rfl rfl ?_
  refine ct_zlet (L := fun v2 => [(0, .inr (.inl v2))]) (S := fun _ => []) (Hh := fun _ => h) (a := ((v1 &&& (3689348814741910323 : Int64)) + ((((v1).toUInt64 >>> ((Int32.ofInt 2).toInt64.toUInt64 &&& Int64.toUInt64 63)).toInt64) &&& (3689348814741910323 : Int64)))) (fun v2 => ?_)
  refine ct_zrun C (k' := 23) (y := ([(0, .inr (.inl v2))], [.inr (.inl (v2 + (((v2).toUInt64 >>> ((Int32.ofInt 4).toInt64.toUInt64 &&& Int64.toUInt64 63)).toInt64)))], h)) 5 rfl rfl rfl ?_
  refine ct_zldc2 C (pc := 29) (aux := 0) (v := 1085102592571150095) lc_J13_318 rfl rfl ?_
  refine ct_zrun C (k' := 26) (y := ([(0, .inr (.inl ((v2 + (((v2).toUInt64 >>> ((Int32.ofInt 4).toInt64.toUInt64 &&& Int64.toUInt64 63)).toInt64)) &&& (1085102592571150095 : Int64))))], [], h)) 2 rfl rfl rfl ?_
  refine ct_zlet (L := fun v3 => [(0, .inr (.inl v3))]) (S := fun _ => []) (Hh := fun _ => h) (a := ((v2 + (((v2).toUInt64 >>> ((Int32.ofInt 4).toInt64.toUInt64 &&& Int64.toUInt64 63)).toInt64)) &&& (1085102592571150095 : Int64))) (fun v3 => ?_)
  refine ct_zrun C (k' := 32) (y := ([(0, .inr (.inl (v3 + (((v3).toUInt64 >>> ((Int32.ofInt 8).toInt64.toUInt64 &&& Int64.toUInt64 63)).toInt64))))], [], h)) 6 rfl rfl rfl ?_
  refine ct_zlet (L := fun v4 => [(0, .inr (.inl v4))]) (S := fun _ => []) (Hh := fun _ => h) (a := (v3 + (((v3).toUInt64 >>> ((Int32.ofInt 8).toInt64.toUInt64 &&& Int64.toUInt64 63)).toInt64))) (fun v4 => ?_)
  refine ct_zrun C (k' := 38) (y := ([(0, .inr (.inl (v4 + (((v4).toUInt64 >>> ((Int32.ofInt 16).toInt64.toUInt64 &&& Int64.toUInt64 63)).toInt64))))], [], h)) 6 rfl rfl rfl ?_
  refine ct_zlet (L := fun v5 => [(0, .inr (.inl v5))]) (S := fun _ => []) (Hh := fun _ => h) (a := (v4 + (((v4).toUInt64 >>> ((Int32.ofInt 16).toInt64.toUInt64 &&& Int64.toUInt64 63)).toInt64))) (fun v5 => ?_)
  refine ct_zrun C (k' := 44) (y := ([(0, .inr (.inl (v5 + (((v5).toUInt64 >>> ((Int32.ofInt 32).toInt64.toUInt64 &&& Int64.toUInt64 63)).toInt64))))], [], h)) 6 rfl rfl rfl ?_
  refine ct_zlet (L := fun v6 => [(0, .inr (.inl v6))]) (S := fun _ => []) (Hh := fun _ => h) (a := (v5 + (((v5).toUInt64 >>> ((Int32.ofInt 32).toInt64.toUInt64 &&& Int64.toUInt64 63)).toInt64))) (fun v6 => ?_)
  refine ct_zrun C (k' := 48) (y := ([(0, .inr (.inl v6))], [.inl (ct_bop (fun x y => x &&& y) ((v6).toInt32.toInt) 127)], h)) 4 rfl rfl rfl ?_
  exact ct_zret C (pc := 60) (aux := 0) (ins := .ireturn) (ρ := (fun r : Int => (some (.inl r : ct_PV), h))) (some (.inl (ct_bop (fun x y => x &&& y) ((v6).toInt32.toInt) 127))) rfl rfl rfl ⟨rfl, Or.inl rfl⟩
def l_J7_fill_d0a16_5 (G : ct_G) (a0 : Nat) (a1 : Int64) (v1 : Int) : Nat → (Int × ct_H) → Option (ct_H)
  | 0, _ => none
  | n3 + 1, b2 => if v1 ≤ b2.1 then (some (b2.2)) else (ct_wtL G b2.2 a0 b2.1 a1).bind fun h4 => l_J7_fill_d0a16_5 G a0 a1 v1 n3 ((ct_wr (b2.1 + 1)), h4)
set_option maxRecDepth 100000 in
theorem zl_J7_fill_d0a16_5 {x : ct_Ctx} {d : Nat} {G : ct_G} (C : ct_c x m_J7_fill_d0a16 G d) (a0 : Nat) (a1 : Int64) (v1 : Int) : ∀ (n3 : Nat) (b2 : Int × ct_H), ct_Z x m_J7_fill_d0a16 G 5 [(0, .inr (.inr (11, a0))), (1, .inr (.inl a1)), (3, .inl (b2.1)), (4, .inl v1)] [] b2.2 (fun a => ct_q x G ((fun r : ct_H => ((none : Option ct_PV), r)) a)) (l_J7_fill_d0a16_5 G a0 a1 v1 n3 b2) := by
  intro n3
  induction n3 with
  | zero => intro b2; exact ct_znone
  | succ n3 ih =>
    intro b2
    rw [l_J7_fill_d0a16_5]
    refine ct_zrun C (k' := 7) (y := ([(0, .inr (.inr (11, a0))), (1, .inr (.inl a1)), (3, .inl (b2.1)), (4, .inl v1)], [.inl v1, .inl (b2.1)], b2.2)) 2 rfl rfl rfl ?_
    refine ct_zt C (pc := 9) (aux := 0) (cn := .ge) (off := 13) (k' := 14) (a := b2.1) (b := v1) Iff.rfl rfl rfl rfl (fun e5 => ?_) (fun e5 => ?_)
    · exact ct_zret C (pc := 22) (aux := 0) (ins := .return_) (ρ := (fun r : ct_H => ((none : Option ct_PV), r))) none rfl rfl rfl ⟨rfl, rfl⟩
    · refine ct_zrun C (k' := 11) (y := ([(0, .inr (.inr (11, a0))), (1, .inr (.inl a1)), (3, .inl (b2.1)), (4, .inl v1)], [.inr (.inl a1), .inl (b2.1), .inr (.inr (11, a0))], b2.2)) 3 rfl rfl rfl ?_
      refine ct_zwtL C (pc := 15) (aux := 0) rfl rfl (fun h4 => ?_)
      refine ct_zrun C (k' := 13) (y := ([(3, .inl (ct_wr (b2.1 + 1))), (0, .inr (.inr (11, a0))), (1, .inr (.inl a1)), (4, .inl v1)], [], h4)) 1 rfl rfl rfl ?_
      refine ct_zgoto C (pc := 19) (aux := 0) (off := (-13)) (k' := 5) rfl rfl ?_
      exact ct_zsub [1, 2, 0, 3] rfl (ih ((ct_wr (b2.1 + 1)), h4))
def f_J7_fill_d0a16 (G : ct_G) (h : ct_H) (a0 : Nat) (a1 : Int64) : Option (ct_H) := ct_lt ((G.2 a0 : Nat) : Int) fun v1 => l_J7_fill_d0a16_5 G a0 a1 v1 200 (0, h)
set_option maxRecDepth 100000 in
theorem e_J7_fill_d0a16 {d : Nat} {G : ct_G} {h : ct_H} (a0 : Nat) (a1 : Int64) : ct_E m_J7_fill_d0a16 d G (ct_args 0 [.inr (.inr (11, a0)), .inr (.inl a1)]) h (fun r : ct_H => ((none : Option ct_PV), r)) (f_J7_fill_d0a16 G h a0 a1) := by
  intro x C
  unfold f_J7_fill_d0a16
  show ct_Z x m_J7_fill_d0a16 G 0 [(0, .inr (.inr (11, a0))), (1, .inr (.inl a1))] [] h (fun a => ct_q x G ((fun r : ct_H => ((none : Option ct_PV), r)) a)) _
  refine ct_zrun C (k' := 5) (y := ([(4, .inl ((G.2 a0 : Nat) : Int)), (3, .inl 0), (0, .inr (.inr (11, a0))), (1, .inr (.inl a1))], [], h)) 5 rfl rfl rfl ?_
  refine ct_zlet (L := fun v1 => [(4, .inl v1), (3, .inl 0), (0, .inr (.inr (11, a0))), (1, .inr (.inl a1))]) (S := fun _ => []) (Hh := fun _ => h) (a := ((G.2 a0 : Nat) : Int)) (fun v1 => ?_)
  exact ct_zsub [2, 3, 1, 0] rfl (zl_J7_fill_d0a16_5 C a0 a1 v1 200 (0, h))
end
section
def f_X0_isSize (G : ct_G) (h : ct_H) (a0 : Int) : Option (Int) := if a0 < 2 then (some 0) else if 7 < a0 then (some 0) else some 1
set_option maxRecDepth 100000 in
theorem e_X0_isSize {d : Nat} {G : ct_G} {h : ct_H} (a0 : Int) : ct_E m_X0_isSize d G (ct_args 0 [.inl a0]) h (fun r : Int => (some (.inl r : ct_PV), h)) (f_X0_isSize G h a0) := by
  intro x C
  unfold f_X0_isSize
  show ct_Z x m_X0_isSize G 0 [(0, .inl a0)] [] h (fun a => ct_q x G ((fun r : Int => (some (.inl r : ct_PV), h)) a)) _
  refine ct_zrun C (k' := 2) (y := ([(0, .inl a0)], [.inl 2, .inl a0], h)) 2 rfl rfl rfl ?_
  refine ct_zt C (pc := 2) (aux := 0) (cn := .lt) (off := 13) (k' := 8) (a := a0) (b := 2) Iff.rfl rfl rfl rfl (fun e2 => ?_) (fun e2 => ?_)
  · refine ct_zrun C (k' := 9) (y := ([(0, .inl a0)], [.inl 0], h)) 1 rfl rfl rfl ?_
    exact ct_zret C (pc := 16) (aux := 0) (ins := .ireturn) (ρ := (fun r : Int => (some (.inl r : ct_PV), h))) (some (.inl 0)) rfl rfl rfl ⟨rfl, Or.inr ⟨rfl, Or.inl rfl⟩⟩
  · refine ct_zrun C (k' := 5) (y := ([(0, .inl a0)], [.inl 7, .inl a0], h)) 2 rfl rfl rfl ?_
    refine ct_zt C (pc := 8) (aux := 0) (cn := .gt) (off := 7) (k' := 8) (a := a0) (b := 7) Iff.rfl rfl rfl rfl (fun e1 => ?_) (fun e1 => ?_)
    · refine ct_zrun C (k' := 9) (y := ([(0, .inl a0)], [.inl 0], h)) 1 rfl rfl rfl ?_
      exact ct_zret C (pc := 16) (aux := 0) (ins := .ireturn) (ρ := (fun r : Int => (some (.inl r : ct_PV), h))) (some (.inl 0)) rfl rfl rfl ⟨rfl, Or.inr ⟨rfl, Or.inl rfl⟩⟩
    · refine ct_zrun C (k' := 7) (y := ([(0, .inl a0)], [.inl 1], h)) 1 rfl rfl rfl ?_
      refine ct_zgoto C (pc := 12) (aux := 0) (off := 4) (k' := 9) rfl rfl ?_
      exact ct_zret C (pc := 16) (aux := 0) (ins := .ireturn) (ρ := (fun r : Int => (some (.inl r : ct_PV), h))) (some (.inl 1)) rfl rfl rfl ⟨rfl, Or.inr ⟨rfl, Or.inr rfl⟩⟩
def f_X0_points (G : ct_G) (h : ct_H) (o : Nat) : Option (Int) := some (ct_wr ((h.1 o 1) * (h.1 o 2)))
set_option maxRecDepth 100000 in
theorem e_X0_points {d : Nat} {G : ct_G} {h : ct_H} (o : Nat) : ct_E m_X0_points d G (ct_args 0 [.inr (.inr (0, o))]) h (fun r : Int => (some (.inl r : ct_PV), h)) (f_X0_points G h o) := by
  intro x C
  unfold f_X0_points
  show ct_Z x m_X0_points G 0 [(0, .inr (.inr (0, o)))] [] h (fun a => ct_q x G ((fun r : Int => (some (.inl r : ct_PV), h)) a)) _
  refine ct_zrun C (k' := 5) (y := ([(0, .inr (.inr (0, o)))], [.inl (ct_wr ((h.1 o 1) * (h.1 o 2)))], h)) 5 rfl rfl rfl ?_
  exact ct_zret C (pc := 9) (aux := 0) (ins := .ireturn) (ρ := (fun r : Int => (some (.inl r : ct_PV), h))) (some (.inl (ct_wr ((h.1 o 1) * (h.1 o 2))))) rfl rfl rfl ⟨rfl, Or.inl rfl⟩
def f_X0_placeOf (G : ct_G) (h : ct_H) (o : Nat) (a1 : Int) : Option (Int) := (ct_dv a1 (h.1 o 2)).bind fun v1 => (ct_md a1 (h.1 o 2)).bind fun v2 => some (ct_wr ((ct_wr ((ct_wr ((h.1 o 3) * (ct_wr (v1 + 1)))) + v2)) + 1))
set_option maxRecDepth 100000 in
theorem e_X0_placeOf {d : Nat} {G : ct_G} {h : ct_H} (o : Nat) (a1 : Int) : ct_E m_X0_placeOf d G (ct_args 0 [.inr (.inr (0, o)), .inl a1]) h (fun r : Int => (some (.inl r : ct_PV), h)) (f_X0_placeOf G h o a1) := by
  intro x C
  unfold f_X0_placeOf
  show ct_Z x m_X0_placeOf G 0 [(0, .inr (.inr (0, o))), (1, .inl a1)] [] h (fun a => ct_q x G ((fun r : Int => (some (.inl r : ct_PV), h)) a)) _
  refine ct_zrun C (k' := 5) (y := ([(0, .inr (.inr (0, o))), (1, .inl a1)], [.inl (h.1 o 2), .inl a1, .inl (h.1 o 3)], h)) 5 rfl rfl rfl ?_
  refine ct_zdv C (pc := 9) (aux := 0) rfl rfl (fun v1 => ?_)
  refine ct_zrun C (k' := 12) (y := ([(0, .inr (.inr (0, o))), (1, .inl a1)], [.inl (h.1 o 2), .inl a1, .inl (ct_wr ((h.1 o 3) * (ct_wr (v1 + 1))))], h)) 6 rfl rfl rfl ?_
  refine ct_zmd C (pc := 18) (aux := 0) rfl rfl (fun v2 => ?_)
  refine ct_zrun C (k' := 16) (y := ([(0, .inr (.inr (0, o))), (1, .inl a1)], [.inl (ct_wr ((ct_wr ((ct_wr ((h.1 o 3) * (ct_wr (v1 + 1)))) + v2)) + 1))], h)) 3 rfl rfl rfl ?_
  exact ct_zret C (pc := 22) (aux := 0) (ins := .ireturn) (ρ := (fun r : Int => (some (.inl r : ct_PV), h))) (some (.inl (ct_wr ((ct_wr ((ct_wr ((h.1 o 3) * (ct_wr (v1 + 1)))) + v2)) + 1)))) rfl rfl rfl ⟨rfl, Or.inl rfl⟩
set_option maxRecDepth 100000 in
theorem lk_X0_61 : ct_LkV RX0 61 m_X0_placeOf 1 := ct_LkV_of 120 121 122 (by decide +kernel) (by decide +kernel) (by decide +kernel) (by decide +kernel)
def f_X0_putHeight (G : ct_G) (h : ct_H) (o : Nat) (a1 : Int) (a2 : Int) : Option (ct_H) := (f_X0_placeOf G h o a1).bind fun v1 => (ct_wt G h (G.1 o 0) v1 a2).bind fun h2 => ct_lt (ct_wF h2 o 6 (ct_wr ((h2.1 o 6) + 1))) fun h3 => some h3
set_option maxRecDepth 100000 in
theorem e_X0_putHeight {d : Nat} {G : ct_G} {h : ct_H} (o : Nat) (a1 : Int) (a2 : Int) : ct_E m_X0_putHeight (d + 1) G (ct_args 0 [.inr (.inr (0, o)), .inl a1, .inl a2]) h (fun r : ct_H => ((none : Option ct_PV), r)) (f_X0_putHeight G h o a1 a2) := by
  intro x C
  unfold f_X0_putHeight
  show ct_Z x m_X0_putHeight G 0 [(0, .inr (.inr (0, o))), (1, .inl a1), (2, .inl a2)] [] h (fun a => ct_q x G ((fun r : ct_H => ((none : Option ct_PV), r)) a)) _
  refine ct_zrun C (k' := 4) (y := ([(0, .inr (.inr (0, o))), (1, .inl a1), (2, .inl a2)], [.inl a1, .inr (.inr (0, o)), .inr (.inr (8, (G.1 o 0)))], h)) 4 rfl rfl rfl ?_
  refine ct_zV C (pc := 6) (aux := 0) [.inl a1] [.inr (.inr (8, (G.1 o 0)))] ok_X0_placeOf lk_X0_61 (e_X0_placeOf o a1) rfl rfl rfl rfl rfl rfl rfl rfl (fun v1 => ?_)
  refine ct_zrun C (k' := 6) (y := ([(0, .inr (.inr (0, o))), (1, .inl a1), (2, .inl a2)], [.inl a2, .inl v1, .inr (.inr (8, (G.1 o 0)))], h)) 1 rfl rfl rfl ?_
  refine ct_zwt C (pc := 10) (aux := 0) rfl rfl (fun h2 => ?_)
  refine ct_zrun C (k' := 13) (y := ([(0, .inr (.inr (0, o))), (1, .inl a1), (2, .inl a2)], [], (ct_wF h2 o 6 (ct_wr ((h2.1 o 6) + 1))))) 6 rfl rfl rfl ?_
  refine ct_zlet (L := fun _ => [(0, .inr (.inr (0, o))), (1, .inl a1), (2, .inl a2)]) (S := fun _ => []) (Hh := fun h3 => h3) (a := (ct_wF h2 o 6 (ct_wr ((h2.1 o 6) + 1)))) (fun h3 => ?_)
  exact ct_zret C (pc := 21) (aux := 0) (ins := .return_) (ρ := (fun r : ct_H => ((none : Option ct_PV), r))) none rfl rfl rfl ⟨rfl, rfl⟩
set_option maxRecDepth 100000 in
theorem lk_X0_38 : ct_LkS RX0 38 m_J7_fill_53178 2 := ct_LkS_of 109 110 (by decide +kernel) (by decide +kernel) (by decide +kernel)
set_option maxRecDepth 100000 in
theorem lk_X0_44 : ct_LkV RX0 44 m_X0_points 0 := ct_LkV_of 112 113 114 (by decide +kernel) (by decide +kernel) (by decide +kernel) (by decide +kernel)
set_option maxRecDepth 100000 in
theorem lk_X0_48 : ct_LkV RX0 48 m_X0_putHeight 2 := ct_LkV_of 116 117 118 (by decide +kernel) (by decide +kernel) (by decide +kernel) (by decide +kernel)
def l_X0_layOut_28 (G : ct_G) (o : Nat) (v6 : Int) : Nat → (Int × ct_H) → Option (ct_H)
  | 0, _ => none
  | n8 + 1, b7 => if v6 ≤ b7.1 then (some (b7.2)) else (f_X0_putHeight G b7.2 o b7.1 0).bind fun r9 => l_X0_layOut_28 G o v6 n8 ((ct_wr (b7.1 + 1)), r9)
set_option maxRecDepth 100000 in
theorem zl_X0_layOut_28 {x : ct_Ctx} {d : Nat} {G : ct_G} (C : ct_c x m_X0_layOut G (d + 2)) (o : Nat) (v6 : Int) : ∀ (n8 : Nat) (b7 : Int × ct_H), ct_Z x m_X0_layOut G 28 [(0, .inr (.inr (0, o))), (3, .inl v6), (4, .inl (b7.1))] [] b7.2 (fun a => ct_q x G ((fun r : ct_H => ((none : Option ct_PV), r)) a)) (l_X0_layOut_28 G o v6 n8 b7) := by
  intro n8
  induction n8 with
  | zero => intro b7; exact ct_znone
  | succ n8 ih =>
    intro b7
    rw [l_X0_layOut_28]
    refine ct_zrun C (k' := 30) (y := ([(0, .inr (.inr (0, o))), (3, .inl v6), (4, .inl (b7.1))], [.inl v6, .inl (b7.1)], b7.2)) 2 rfl rfl rfl ?_
    refine ct_zt C (pc := 48) (aux := 0) (cn := .ge) (off := 16) (k' := 37) (a := b7.1) (b := v6) Iff.rfl rfl rfl rfl (fun e10 => ?_) (fun e10 => ?_)
    · exact ct_zret C (pc := 64) (aux := 0) (ins := .return_) (ρ := (fun r : ct_H => ((none : Option ct_PV), r))) none rfl rfl rfl ⟨rfl, rfl⟩
    · refine ct_zrun C (k' := 34) (y := ([(0, .inr (.inr (0, o))), (3, .inl v6), (4, .inl (b7.1))], [.inl 0, .inl (b7.1), .inr (.inr (0, o))], b7.2)) 3 rfl rfl rfl ?_
      refine ct_zV C (pc := 55) (aux := 0) [.inl (b7.1), .inl 0] [] ok_X0_putHeight lk_X0_48 (e_X0_putHeight o (b7.1) 0) rfl rfl rfl rfl rfl rfl rfl rfl (fun r9 => ?_)
      refine ct_zrun C (k' := 36) (y := ([(4, .inl (ct_wr (b7.1 + 1))), (0, .inr (.inr (0, o))), (3, .inl v6)], [], r9)) 1 rfl rfl rfl ?_
      refine ct_zgoto C (pc := 61) (aux := 0) (off := (-16)) (k' := 28) rfl rfl ?_
      exact ct_zsub [1, 2, 0] rfl (ih ((ct_wr (b7.1 + 1)), r9))
def f_X0_layOut (G : ct_G) (h : ct_H) (o : Nat) (a1 : Int) (a2 : Int) : Option (ct_H) := ct_lt (ct_wF h o 1 a1) fun h1 => ct_lt (ct_wF h1 o 2 a2) fun h2 => ct_lt (ct_wF h2 o 3 (ct_wr (a2 + 2))) fun h3 => ct_lt (ct_wF h3 o 4 (ct_wr ((ct_wr (a1 + 2)) * (h3.1 o 3)))) fun h4 => (f_J7_fill_53178 G h4 (G.1 o 0) (-1)).bind fun r5 => (f_X0_points G r5 o).bind fun v6 => l_X0_layOut_28 G o v6 200 (0, r5)
set_option maxRecDepth 100000 in
theorem e_X0_layOut {d : Nat} {G : ct_G} {h : ct_H} (o : Nat) (a1 : Int) (a2 : Int) : ct_E m_X0_layOut (d + 2) G (ct_args 0 [.inr (.inr (0, o)), .inl a1, .inl a2]) h (fun r : ct_H => ((none : Option ct_PV), r)) (f_X0_layOut G h o a1 a2) := by
  intro x C
  unfold f_X0_layOut
  show ct_Z x m_X0_layOut G 0 [(0, .inr (.inr (0, o))), (1, .inl a1), (2, .inl a2)] [] h (fun a => ct_q x G ((fun r : ct_H => ((none : Option ct_PV), r)) a)) _
  refine ct_zrun C (k' := 3) (y := ([(0, .inr (.inr (0, o))), (1, .inl a1), (2, .inl a2)], [], (ct_wF h o 1 a1))) 3 rfl rfl rfl ?_
  refine ct_zlet (L := fun _ => [(0, .inr (.inr (0, o))), (1, .inl a1), (2, .inl a2)]) (S := fun _ => []) (Hh := fun h1 => h1) (a := (ct_wF h o 1 a1)) (fun h1 => ?_)
  refine ct_zrun C (k' := 6) (y := ([(0, .inr (.inr (0, o))), (1, .inl a1), (2, .inl a2)], [], (ct_wF h1 o 2 a2))) 3 rfl rfl rfl ?_
  refine ct_zlet (L := fun _ => [(0, .inr (.inr (0, o))), (1, .inl a1), (2, .inl a2)]) (S := fun _ => []) (Hh := fun h2 => h2) (a := (ct_wF h1 o 2 a2)) (fun h2 => ?_)
  refine ct_zrun C (k' := 11) (y := ([(0, .inr (.inr (0, o))), (1, .inl a1), (2, .inl a2)], [], (ct_wF h2 o 3 (ct_wr (a2 + 2))))) 5 rfl rfl rfl ?_
  refine ct_zlet (L := fun _ => [(0, .inr (.inr (0, o))), (1, .inl a1), (2, .inl a2)]) (S := fun _ => []) (Hh := fun h3 => h3) (a := (ct_wF h2 o 3 (ct_wr (a2 + 2)))) (fun h3 => ?_)
  refine ct_zrun C (k' := 19) (y := ([(0, .inr (.inr (0, o))), (1, .inl a1), (2, .inl a2)], [], (ct_wF h3 o 4 (ct_wr ((ct_wr (a1 + 2)) * (h3.1 o 3)))))) 8 rfl rfl rfl ?_
  refine ct_zlet (L := fun _ => [(0, .inr (.inr (0, o))), (1, .inl a1), (2, .inl a2)]) (S := fun _ => []) (Hh := fun h4 => h4) (a := (ct_wF h3 o 4 (ct_wr ((ct_wr (a1 + 2)) * (h3.1 o 3))))) (fun h4 => ?_)
  refine ct_zrun C (k' := 22) (y := ([(0, .inr (.inr (0, o))), (1, .inl a1), (2, .inl a2)], [.inl (-1), .inr (.inr (8, (G.1 o 0)))], h4)) 3 rfl rfl rfl ?_
  refine ct_zS C (pc := 34) (aux := 0) [.inr (.inr (8, (G.1 o 0))), .inl (-1)] [] ok_J7_fill_53178 lk_X0_38 (e_J7_fill_53178 (G.1 o 0) (-1)) rfl rfl rfl rfl rfl rfl (fun r5 => ?_)
  refine ct_zrun C (k' := 24) (y := ([(0, .inr (.inr (0, o))), (1, .inl a1), (2, .inl a2)], [.inr (.inr (0, o))], r5)) 1 rfl rfl rfl ?_
  refine ct_zV C (pc := 38) (aux := 0) [] [] ok_X0_points lk_X0_44 (e_X0_points o) rfl rfl rfl rfl rfl rfl rfl rfl (fun v6 => ?_)
  refine ct_zrun C (k' := 28) (y := ([(4, .inl 0), (3, .inl v6), (0, .inr (.inr (0, o))), (1, .inl a1), (2, .inl a2)], [], r5)) 3 rfl rfl rfl ?_
  exact ct_zsub [2, 1, 0] rfl (zl_X0_layOut_28 C o v6 200 (0, r5))
def f_X0_putKind (G : ct_G) (h : ct_H) (o : Nat) (a1 : Int) : Option (ct_H) := ct_lt (ct_wF h o 5 a1) fun h1 => ct_lt (ct_wF h1 o 6 (ct_wr ((h1.1 o 6) + 1))) fun h2 => some h2
set_option maxRecDepth 100000 in
theorem e_X0_putKind {d : Nat} {G : ct_G} {h : ct_H} (o : Nat) (a1 : Int) : ct_E m_X0_putKind d G (ct_args 0 [.inr (.inr (0, o)), .inl a1]) h (fun r : ct_H => ((none : Option ct_PV), r)) (f_X0_putKind G h o a1) := by
  intro x C
  unfold f_X0_putKind
  show ct_Z x m_X0_putKind G 0 [(0, .inr (.inr (0, o))), (1, .inl a1)] [] h (fun a => ct_q x G ((fun r : ct_H => ((none : Option ct_PV), r)) a)) _
  refine ct_zrun C (k' := 3) (y := ([(0, .inr (.inr (0, o))), (1, .inl a1)], [], (ct_wF h o 5 a1))) 3 rfl rfl rfl ?_
  refine ct_zlet (L := fun _ => [(0, .inr (.inr (0, o))), (1, .inl a1)]) (S := fun _ => []) (Hh := fun h1 => h1) (a := (ct_wF h o 5 a1)) (fun h1 => ?_)
  refine ct_zrun C (k' := 9) (y := ([(0, .inr (.inr (0, o))), (1, .inl a1)], [], (ct_wF h1 o 6 (ct_wr ((h1.1 o 6) + 1))))) 6 rfl rfl rfl ?_
  refine ct_zlet (L := fun _ => [(0, .inr (.inr (0, o))), (1, .inl a1)]) (S := fun _ => []) (Hh := fun h2 => h2) (a := (ct_wF h1 o 6 (ct_wr ((h1.1 o 6) + 1)))) (fun h2 => ?_)
  exact ct_zret C (pc := 15) (aux := 0) (ins := .return_) (ρ := (fun r : ct_H => ((none : Option ct_PV), r))) none rfl rfl rfl ⟨rfl, rfl⟩
set_option maxRecDepth 100000 in
theorem lk_X0_22 : ct_LkV RX0 22 m_X0_layOut 2 := ct_LkV_of 105 106 107 (by decide +kernel) (by decide +kernel) (by decide +kernel) (by decide +kernel)
theorem lk_X0_51 : Cond.methodLink RX0 51 arraycopyName ∈ ct_GW := ct_GW_of 896 (by decide +kernel) (by decide +kernel)
theorem ct_gsys : Cond.initialized "java/lang/System" ∈ ct_GW := ct_GW_of 90 (by decide +kernel) (by decide +kernel)
set_option maxRecDepth 100000 in
theorem lk_X0_57 : ct_LkV RX0 57 m_X0_putKind 1 := ct_LkV_of 899 387 388 (by decide +kernel) (by decide +kernel) (by decide +kernel) (by decide +kernel)
def f_X0_copyFrom (G : ct_G) (h : ct_H) (o : Nat) (a1 : Nat) : Option (ct_H) := (f_X0_layOut G h o (h.1 a1 1) (h.1 a1 2)).bind fun r1 => (ct_cpI G r1 (G.1 a1 0) 0 (G.1 o 0) 0 81).bind fun h2 => (f_X0_putKind G h2 o (h2.1 a1 5)).bind fun r3 => some r3
set_option maxRecDepth 100000 in
theorem e_X0_copyFrom {d : Nat} {G : ct_G} {h : ct_H} (o : Nat) (a1 : Nat) : ct_E m_X0_copyFrom (d + 3) G (ct_args 0 [.inr (.inr (0, o)), .inr (.inr (0, a1))]) h (fun r : ct_H => ((none : Option ct_PV), r)) (f_X0_copyFrom G h o a1) := by
  intro x C
  unfold f_X0_copyFrom
  show ct_Z x m_X0_copyFrom G 0 [(0, .inr (.inr (0, o))), (1, .inr (.inr (0, a1)))] [] h (fun a => ct_q x G ((fun r : ct_H => ((none : Option ct_PV), r)) a)) _
  refine ct_zrun C (k' := 5) (y := ([(0, .inr (.inr (0, o))), (1, .inr (.inr (0, a1)))], [.inl (h.1 a1 2), .inl (h.1 a1 1), .inr (.inr (0, o))], h)) 5 rfl rfl rfl ?_
  refine ct_zV C (pc := 9) (aux := 0) [.inl (h.1 a1 1), .inl (h.1 a1 2)] [] ok_X0_layOut lk_X0_22 (e_X0_layOut o (h.1 a1 1) (h.1 a1 2)) rfl rfl rfl rfl rfl rfl rfl rfl (fun r1 => ?_)
  refine ct_zrun C (k' := 13) (y := ([(0, .inr (.inr (0, o))), (1, .inr (.inr (0, a1)))], [.inl 81, .inl 0, .inr (.inr (8, (G.1 o 0))), .inl 0, .inr (.inr (8, (G.1 a1 0)))], r1)) 7 rfl rfl rfl ?_
  refine ct_zcopy C (pc := 24) (aux := 0) lk_X0_51 ct_gsys rfl rfl rfl (fun h2 => ?_)
  refine ct_zrun C (k' := 17) (y := ([(0, .inr (.inr (0, o))), (1, .inr (.inr (0, a1)))], [.inl (h2.1 a1 5), .inr (.inr (0, o))], h2)) 3 rfl rfl rfl ?_
  refine ct_zV C (pc := 32) (aux := 0) [.inl (h2.1 a1 5)] [] ok_X0_putKind lk_X0_57 (e_X0_putKind o (h2.1 a1 5)) rfl rfl rfl rfl rfl rfl rfl rfl (fun r3 => ?_)
  exact ct_zret C (pc := 35) (aux := 0) (ins := .return_) (ρ := (fun r : ct_H => ((none : Option ct_PV), r))) none rfl rfl rfl ⟨rfl, rfl⟩
def f_X0_isPoint (G : ct_G) (h : ct_H) (o : Nat) (a1 : Int) : Option (Int) := if a1 < 0 then (some 0) else (f_X0_points G h o).bind fun v1 => if v1 ≤ a1 then (some 0) else some 1
set_option maxRecDepth 100000 in
theorem e_X0_isPoint {d : Nat} {G : ct_G} {h : ct_H} (o : Nat) (a1 : Int) : ct_E m_X0_isPoint (d + 1) G (ct_args 0 [.inr (.inr (0, o)), .inl a1]) h (fun r : Int => (some (.inl r : ct_PV), h)) (f_X0_isPoint G h o a1) := by
  intro x C
  unfold f_X0_isPoint
  show ct_Z x m_X0_isPoint G 0 [(0, .inr (.inr (0, o))), (1, .inl a1)] [] h (fun a => ct_q x G ((fun r : Int => (some (.inl r : ct_PV), h)) a)) _
  refine ct_zrun C (k' := 1) (y := ([(0, .inr (.inr (0, o))), (1, .inl a1)], [.inl a1], h)) 1 rfl rfl rfl ?_
  refine ct_zt0 C (pc := 1) (aux := 0) (cn := .lt) (off := 15) (k' := 8) (a := a1) Iff.rfl rfl rfl rfl (fun e3 => ?_) (fun e3 => ?_)
  · refine ct_zrun C (k' := 9) (y := ([(0, .inr (.inr (0, o))), (1, .inl a1)], [.inl 0], h)) 1 rfl rfl rfl ?_
    exact ct_zret C (pc := 17) (aux := 0) (ins := .ireturn) (ρ := (fun r : Int => (some (.inl r : ct_PV), h))) (some (.inl 0)) rfl rfl rfl ⟨rfl, Or.inr ⟨rfl, Or.inl rfl⟩⟩
  · refine ct_zrun C (k' := 4) (y := ([(0, .inr (.inr (0, o))), (1, .inl a1)], [.inr (.inr (0, o)), .inl a1], h)) 2 rfl rfl rfl ?_
    refine ct_zV C (pc := 6) (aux := 0) [] [.inl a1] ok_X0_points lk_X0_44 (e_X0_points o) rfl rfl rfl rfl rfl rfl rfl rfl (fun v1 => ?_)
    refine ct_zt C (pc := 9) (aux := 0) (cn := .ge) (off := 7) (k' := 8) (a := a1) (b := v1) Iff.rfl rfl rfl rfl (fun e2 => ?_) (fun e2 => ?_)
    · refine ct_zrun C (k' := 9) (y := ([(0, .inr (.inr (0, o))), (1, .inl a1)], [.inl 0], h)) 1 rfl rfl rfl ?_
      exact ct_zret C (pc := 17) (aux := 0) (ins := .ireturn) (ρ := (fun r : Int => (some (.inl r : ct_PV), h))) (some (.inl 0)) rfl rfl rfl ⟨rfl, Or.inr ⟨rfl, Or.inl rfl⟩⟩
    · refine ct_zrun C (k' := 7) (y := ([(0, .inr (.inr (0, o))), (1, .inl a1)], [.inl 1], h)) 1 rfl rfl rfl ?_
      refine ct_zgoto C (pc := 13) (aux := 0) (off := 4) (k' := 9) rfl rfl ?_
      exact ct_zret C (pc := 17) (aux := 0) (ins := .ireturn) (ρ := (fun r : Int => (some (.inl r : ct_PV), h))) (some (.inl 1)) rfl rfl rfl ⟨rfl, Or.inr ⟨rfl, Or.inr rfl⟩⟩
def f_X0_pointOf (G : ct_G) (h : ct_H) (o : Nat) (a1 : Int) : Option (Int) := (ct_dv a1 (h.1 o 3)).bind fun v1 => (ct_md a1 (h.1 o 3)).bind fun v2 => some (ct_wr ((ct_wr ((ct_wr ((h.1 o 2) * (ct_wr (v1 - 1)))) + v2)) - 1))
set_option maxRecDepth 100000 in
theorem e_X0_pointOf {d : Nat} {G : ct_G} {h : ct_H} (o : Nat) (a1 : Int) : ct_E m_X0_pointOf d G (ct_args 0 [.inr (.inr (0, o)), .inl a1]) h (fun r : Int => (some (.inl r : ct_PV), h)) (f_X0_pointOf G h o a1) := by
  intro x C
  unfold f_X0_pointOf
  show ct_Z x m_X0_pointOf G 0 [(0, .inr (.inr (0, o))), (1, .inl a1)] [] h (fun a => ct_q x G ((fun r : Int => (some (.inl r : ct_PV), h)) a)) _
  refine ct_zrun C (k' := 5) (y := ([(0, .inr (.inr (0, o))), (1, .inl a1)], [.inl (h.1 o 3), .inl a1, .inl (h.1 o 2)], h)) 5 rfl rfl rfl ?_
  refine ct_zdv C (pc := 9) (aux := 0) rfl rfl (fun v1 => ?_)
  refine ct_zrun C (k' := 12) (y := ([(0, .inr (.inr (0, o))), (1, .inl a1)], [.inl (h.1 o 3), .inl a1, .inl (ct_wr ((h.1 o 2) * (ct_wr (v1 - 1))))], h)) 6 rfl rfl rfl ?_
  refine ct_zmd C (pc := 18) (aux := 0) rfl rfl (fun v2 => ?_)
  refine ct_zrun C (k' := 16) (y := ([(0, .inr (.inr (0, o))), (1, .inl a1)], [.inl (ct_wr ((ct_wr ((ct_wr ((h.1 o 2) * (ct_wr (v1 - 1)))) + v2)) - 1))], h)) 3 rfl rfl rfl ?_
  exact ct_zret C (pc := 22) (aux := 0) (ins := .ireturn) (ρ := (fun r : Int => (some (.inl r : ct_PV), h))) (some (.inl (ct_wr ((ct_wr ((ct_wr ((h.1 o 2) * (ct_wr (v1 - 1)))) + v2)) - 1)))) rfl rfl rfl ⟨rfl, Or.inl rfl⟩
def f_X0_heightOf (G : ct_G) (h : ct_H) (o : Nat) (a1 : Int) : Option (Int) := (f_X0_placeOf G h o a1).bind fun v1 => (ct_rd G h (G.1 o 0) v1).bind fun v2 => some v2
set_option maxRecDepth 100000 in
theorem e_X0_heightOf {d : Nat} {G : ct_G} {h : ct_H} (o : Nat) (a1 : Int) : ct_E m_X0_heightOf (d + 1) G (ct_args 0 [.inr (.inr (0, o)), .inl a1]) h (fun r : Int => (some (.inl r : ct_PV), h)) (f_X0_heightOf G h o a1) := by
  intro x C
  unfold f_X0_heightOf
  show ct_Z x m_X0_heightOf G 0 [(0, .inr (.inr (0, o))), (1, .inl a1)] [] h (fun a => ct_q x G ((fun r : Int => (some (.inl r : ct_PV), h)) a)) _
  refine ct_zrun C (k' := 4) (y := ([(0, .inr (.inr (0, o))), (1, .inl a1)], [.inl a1, .inr (.inr (0, o)), .inr (.inr (8, (G.1 o 0)))], h)) 4 rfl rfl rfl ?_
  refine ct_zV C (pc := 6) (aux := 0) [.inl a1] [.inr (.inr (8, (G.1 o 0)))] ok_X0_placeOf lk_X0_61 (e_X0_placeOf o a1) rfl rfl rfl rfl rfl rfl rfl rfl (fun v1 => ?_)
  refine ct_zrd C (pc := 9) (aux := 0) (ins := .iaload) (cd := 8) rfl rfl (Or.inl ⟨rfl, rfl⟩) (fun v2 => ?_)
  exact ct_zret C (pc := 10) (aux := 0) (ins := .ireturn) (ρ := (fun r : Int => (some (.inl r : ct_PV), h))) (some (.inl v2)) rfl rfl rfl ⟨rfl, Or.inl rfl⟩
theorem lk_X0_65 : Cond.methodLink RX0 65 Lib.Math.max.name ∈ ct_GW := ct_GW_of 525 (by decide +kernel) (by decide +kernel)
def l_X0_greatest_4 (G : ct_G) (o : Nat) (h : ct_H) : Nat → (Int × Int) → Option (Int)
  | 0, _ => none
  | n2 + 1, b1 => if (h.1 o 4) ≤ b1.2 then (some (b1.1)) else (ct_rd G h (G.1 o 0) b1.2).bind fun v3 => ct_lt (ct_max b1.1 v3) fun v4 => l_X0_greatest_4 G o h n2 (v4, (ct_wr (b1.2 + 1)))
set_option maxRecDepth 100000 in
theorem zl_X0_greatest_4 {x : ct_Ctx} {d : Nat} {G : ct_G} (C : ct_c x m_X0_greatest G (d + 1)) (o : Nat) (h : ct_H) : ∀ (n2 : Nat) (b1 : Int × Int), ct_Z x m_X0_greatest G 4 [(0, .inr (.inr (0, o))), (1, .inl (b1.1)), (2, .inl (b1.2))] [] h (fun a => ct_q x G ((fun r : Int => (some (.inl r : ct_PV), h)) a)) (l_X0_greatest_4 G o h n2 b1) := by
  intro n2
  induction n2 with
  | zero => intro b1; exact ct_znone
  | succ n2 ih =>
    intro b1
    rw [l_X0_greatest_4]
    refine ct_zrun C (k' := 7) (y := ([(0, .inr (.inr (0, o))), (1, .inl (b1.1)), (2, .inl (b1.2))], [.inl (h.1 o 4), .inl (b1.2)], h)) 3 rfl rfl rfl ?_
    refine ct_zt C (pc := 9) (aux := 0) (cn := .ge) (off := 20) (k' := 17) (a := b1.2) (b := (h.1 o 4)) Iff.rfl rfl rfl rfl (fun e5 => ?_) (fun e5 => ?_)
    · refine ct_zrun C (k' := 18) (y := ([(0, .inr (.inr (0, o))), (1, .inl (b1.1)), (2, .inl (b1.2))], [.inl (b1.1)], h)) 1 rfl rfl rfl ?_
      exact ct_zret C (pc := 30) (aux := 0) (ins := .ireturn) (ρ := (fun r : Int => (some (.inl r : ct_PV), h))) (some (.inl (b1.1))) rfl rfl rfl ⟨rfl, Or.inl rfl⟩
    · refine ct_zrun C (k' := 12) (y := ([(0, .inr (.inr (0, o))), (1, .inl (b1.1)), (2, .inl (b1.2))], [.inl (b1.2), .inr (.inr (8, (G.1 o 0))), .inl (b1.1)], h)) 4 rfl rfl rfl ?_
      refine ct_zrd C (pc := 18) (aux := 0) (ins := .iaload) (cd := 8) rfl rfl (Or.inl ⟨rfl, rfl⟩) (fun v3 => ?_)
      refine ct_zmax C (pc := 19) (aux := 0) lk_X0_65 rfl rfl rfl ?_
      refine ct_zrun C (k' := 15) (y := ([(1, .inl (ct_max b1.1 v3)), (0, .inr (.inr (0, o))), (2, .inl (b1.2))], [], h)) 1 rfl rfl rfl ?_
      refine ct_zlet (L := fun v4 => [(1, .inl v4), (0, .inr (.inr (0, o))), (2, .inl (b1.2))]) (S := fun _ => []) (Hh := fun _ => h) (a := (ct_max b1.1 v3)) (fun v4 => ?_)
      refine ct_zrun C (k' := 16) (y := ([(2, .inl (ct_wr (b1.2 + 1))), (1, .inl v4), (0, .inr (.inr (0, o)))], [], h)) 1 rfl rfl rfl ?_
      refine ct_zgoto C (pc := 26) (aux := 0) (off := (-22)) (k' := 4) rfl rfl ?_
      exact ct_zsub [2, 1, 0] rfl (ih (v4, (ct_wr (b1.2 + 1))))
def f_X0_greatest (G : ct_G) (h : ct_H) (o : Nat) : Option (Int) := l_X0_greatest_4 G o h 200 ((-1), 0)
set_option maxRecDepth 100000 in
theorem e_X0_greatest {d : Nat} {G : ct_G} {h : ct_H} (o : Nat) : ct_E m_X0_greatest (d + 1) G (ct_args 0 [.inr (.inr (0, o))]) h (fun r : Int => (some (.inl r : ct_PV), h)) (f_X0_greatest G h o) := by
  intro x C
  unfold f_X0_greatest
  show ct_Z x m_X0_greatest G 0 [(0, .inr (.inr (0, o)))] [] h (fun a => ct_q x G ((fun r : Int => (some (.inl r : ct_PV), h)) a)) _
  refine ct_zrun C (k' := 4) (y := ([(2, .inl 0), (1, .inl (-1)), (0, .inr (.inr (0, o)))], [], h)) 4 rfl rfl rfl ?_
  exact ct_zsub [2, 1, 0] rfl (zl_X0_greatest_4 C o h 200 ((-1), 0))
set_option maxRecDepth 100000 in
theorem lk_X0_71 : ct_LkV RX0 71 m_X0_heightOf 1 := ct_LkV_of 524 375 376 (by decide +kernel) (by decide +kernel) (by decide +kernel) (by decide +kernel)
def l_X0_firstOf_5 (G : ct_G) (o : Nat) (a1 : Int) (h : ct_H) (v1 : Int) : Nat → Int → Option (Int)
  | 0, _ => none
  | n3 + 1, b2 => if v1 ≤ b2 then (some b2) else (f_X0_heightOf G h o b2).bind fun v4 => if v4 = a1 then (some b2) else l_X0_firstOf_5 G o a1 h v1 n3 (ct_wr (b2 + 1))
set_option maxRecDepth 100000 in
theorem zl_X0_firstOf_5 {x : ct_Ctx} {d : Nat} {G : ct_G} (C : ct_c x m_X0_firstOf G (d + 2)) (o : Nat) (a1 : Int) (h : ct_H) (v1 : Int) : ∀ (n3 : Nat) (b2 : Int), ct_Z x m_X0_firstOf G 5 [(0, .inr (.inr (0, o))), (1, .inl a1), (2, .inl v1), (3, .inl b2)] [] h (fun a => ct_q x G ((fun r : Int => (some (.inl r : ct_PV), h)) a)) (l_X0_firstOf_5 G o a1 h v1 n3 b2) := by
  intro n3
  induction n3 with
  | zero => intro b2; exact ct_znone
  | succ n3 ih =>
    intro b2
    rw [l_X0_firstOf_5]
    refine ct_zrun C (k' := 7) (y := ([(0, .inr (.inr (0, o))), (1, .inl a1), (2, .inl v1), (3, .inl b2)], [.inl v1, .inl b2], h)) 2 rfl rfl rfl ?_
    refine ct_zt C (pc := 9) (aux := 0) (cn := .ge) (off := 18) (k' := 15) (a := b2) (b := v1) Iff.rfl rfl rfl rfl (fun e6 => ?_) (fun e6 => ?_)
    · refine ct_zrun C (k' := 16) (y := ([(0, .inr (.inr (0, o))), (1, .inl a1), (2, .inl v1), (3, .inl b2)], [.inl b2], h)) 1 rfl rfl rfl ?_
      exact ct_zret C (pc := 28) (aux := 0) (ins := .ireturn) (ρ := (fun r : Int => (some (.inl r : ct_PV), h))) (some (.inl b2)) rfl rfl rfl ⟨rfl, Or.inl rfl⟩
    · refine ct_zrun C (k' := 10) (y := ([(0, .inr (.inr (0, o))), (1, .inl a1), (2, .inl v1), (3, .inl b2)], [.inl b2, .inr (.inr (0, o))], h)) 2 rfl rfl rfl ?_
      refine ct_zV C (pc := 14) (aux := 0) [.inl b2] [] ok_X0_heightOf lk_X0_71 (e_X0_heightOf o b2) rfl rfl rfl rfl rfl rfl rfl rfl (fun v4 => ?_)
      refine ct_zrun C (k' := 12) (y := ([(0, .inr (.inr (0, o))), (1, .inl a1), (2, .inl v1), (3, .inl b2)], [.inl a1, .inl v4], h)) 1 rfl rfl rfl ?_
      refine ct_zt C (pc := 18) (aux := 0) (cn := .eq) (off := 9) (k' := 15) (a := v4) (b := a1) Iff.rfl rfl rfl rfl (fun e5 => ?_) (fun e5 => ?_)
      · refine ct_zrun C (k' := 16) (y := ([(0, .inr (.inr (0, o))), (1, .inl a1), (2, .inl v1), (3, .inl b2)], [.inl b2], h)) 1 rfl rfl rfl ?_
        exact ct_zret C (pc := 28) (aux := 0) (ins := .ireturn) (ρ := (fun r : Int => (some (.inl r : ct_PV), h))) (some (.inl b2)) rfl rfl rfl ⟨rfl, Or.inl rfl⟩
      · refine ct_zrun C (k' := 14) (y := ([(3, .inl (ct_wr (b2 + 1))), (0, .inr (.inr (0, o))), (1, .inl a1), (2, .inl v1)], [], h)) 1 rfl rfl rfl ?_
        refine ct_zgoto C (pc := 24) (aux := 0) (off := (-17)) (k' := 5) rfl rfl ?_
        exact ct_zsub [1, 2, 3, 0] rfl (ih (ct_wr (b2 + 1)))
def f_X0_firstOf (G : ct_G) (h : ct_H) (o : Nat) (a1 : Int) : Option (Int) := (f_X0_points G h o).bind fun v1 => l_X0_firstOf_5 G o a1 h v1 200 0
set_option maxRecDepth 100000 in
theorem e_X0_firstOf {d : Nat} {G : ct_G} {h : ct_H} (o : Nat) (a1 : Int) : ct_E m_X0_firstOf (d + 2) G (ct_args 0 [.inr (.inr (0, o)), .inl a1]) h (fun r : Int => (some (.inl r : ct_PV), h)) (f_X0_firstOf G h o a1) := by
  intro x C
  unfold f_X0_firstOf
  show ct_Z x m_X0_firstOf G 0 [(0, .inr (.inr (0, o))), (1, .inl a1)] [] h (fun a => ct_q x G ((fun r : Int => (some (.inl r : ct_PV), h)) a)) _
  refine ct_zrun C (k' := 1) (y := ([(0, .inr (.inr (0, o))), (1, .inl a1)], [.inr (.inr (0, o))], h)) 1 rfl rfl rfl ?_
  refine ct_zV C (pc := 1) (aux := 0) [] [] ok_X0_points lk_X0_44 (e_X0_points o) rfl rfl rfl rfl rfl rfl rfl rfl (fun v1 => ?_)
  refine ct_zrun C (k' := 5) (y := ([(3, .inl 0), (2, .inl v1), (0, .inr (.inr (0, o))), (1, .inl a1)], [], h)) 3 rfl rfl rfl ?_
  exact ct_zsub [2, 3, 1, 0] rfl (zl_X0_firstOf_5 C o a1 h v1 200 0)
def l_X0_together_7 (G : ct_G) (o : Nat) (h : ct_H) (v1 : Int) : Nat → (Int × Int) → Option (Int)
  | 0, _ => none
  | n3 + 1, b2 => if v1 ≤ b2.2 then (some (b2.1)) else (f_X0_heightOf G h o b2.2).bind fun v4 => ct_lt (ct_wr (b2.1 + v4)) fun v5 => l_X0_together_7 G o h v1 n3 (v5, (ct_wr (b2.2 + 1)))
set_option maxRecDepth 100000 in
theorem zl_X0_together_7 {x : ct_Ctx} {d : Nat} {G : ct_G} (C : ct_c x m_X0_together G (d + 2)) (o : Nat) (h : ct_H) (v1 : Int) : ∀ (n3 : Nat) (b2 : Int × Int), ct_Z x m_X0_together G 7 [(0, .inr (.inr (0, o))), (1, .inl (b2.1)), (2, .inl v1), (3, .inl (b2.2))] [] h (fun a => ct_q x G ((fun r : Int => (some (.inl r : ct_PV), h)) a)) (l_X0_together_7 G o h v1 n3 b2) := by
  intro n3
  induction n3 with
  | zero => intro b2; exact ct_znone
  | succ n3 ih =>
    intro b2
    rw [l_X0_together_7]
    refine ct_zrun C (k' := 9) (y := ([(0, .inr (.inr (0, o))), (1, .inl (b2.1)), (2, .inl v1), (3, .inl (b2.2))], [.inl v1, .inl (b2.2)], h)) 2 rfl rfl rfl ?_
    refine ct_zt C (pc := 11) (aux := 0) (cn := .ge) (off := 17) (k' := 18) (a := b2.2) (b := v1) Iff.rfl rfl rfl rfl (fun e6 => ?_) (fun e6 => ?_)
    · refine ct_zrun C (k' := 19) (y := ([(0, .inr (.inr (0, o))), (1, .inl (b2.1)), (2, .inl v1), (3, .inl (b2.2))], [.inl (b2.1)], h)) 1 rfl rfl rfl ?_
      exact ct_zret C (pc := 29) (aux := 0) (ins := .ireturn) (ρ := (fun r : Int => (some (.inl r : ct_PV), h))) (some (.inl (b2.1))) rfl rfl rfl ⟨rfl, Or.inl rfl⟩
    · refine ct_zrun C (k' := 13) (y := ([(0, .inr (.inr (0, o))), (1, .inl (b2.1)), (2, .inl v1), (3, .inl (b2.2))], [.inl (b2.2), .inr (.inr (0, o)), .inl (b2.1)], h)) 3 rfl rfl rfl ?_
      refine ct_zV C (pc := 17) (aux := 0) [.inl (b2.2)] [.inl (b2.1)] ok_X0_heightOf lk_X0_71 (e_X0_heightOf o (b2.2)) rfl rfl rfl rfl rfl rfl rfl rfl (fun v4 => ?_)
      refine ct_zrun C (k' := 16) (y := ([(1, .inl (ct_wr (b2.1 + v4))), (0, .inr (.inr (0, o))), (2, .inl v1), (3, .inl (b2.2))], [], h)) 2 rfl rfl rfl ?_
      refine ct_zlet (L := fun v5 => [(1, .inl v5), (0, .inr (.inr (0, o))), (2, .inl v1), (3, .inl (b2.2))]) (S := fun _ => []) (Hh := fun _ => h) (a := (ct_wr (b2.1 + v4))) (fun v5 => ?_)
      refine ct_zrun C (k' := 17) (y := ([(3, .inl (ct_wr (b2.2 + 1))), (1, .inl v5), (0, .inr (.inr (0, o))), (2, .inl v1)], [], h)) 1 rfl rfl rfl ?_
      refine ct_zgoto C (pc := 25) (aux := 0) (off := (-16)) (k' := 7) rfl rfl ?_
      exact ct_zsub [2, 1, 3, 0] rfl (ih (v5, (ct_wr (b2.2 + 1))))
def f_X0_together (G : ct_G) (h : ct_H) (o : Nat) : Option (Int) := (f_X0_points G h o).bind fun v1 => l_X0_together_7 G o h v1 200 (0, 0)
set_option maxRecDepth 100000 in
theorem e_X0_together {d : Nat} {G : ct_G} {h : ct_H} (o : Nat) : ct_E m_X0_together (d + 2) G (ct_args 0 [.inr (.inr (0, o))]) h (fun r : Int => (some (.inl r : ct_PV), h)) (f_X0_together G h o) := by
  intro x C
  unfold f_X0_together
  show ct_Z x m_X0_together G 0 [(0, .inr (.inr (0, o)))] [] h (fun a => ct_q x G ((fun r : Int => (some (.inl r : ct_PV), h)) a)) _
  refine ct_zrun C (k' := 3) (y := ([(1, .inl 0), (0, .inr (.inr (0, o)))], [.inr (.inr (0, o))], h)) 3 rfl rfl rfl ?_
  refine ct_zV C (pc := 3) (aux := 0) [] [] ok_X0_points lk_X0_44 (e_X0_points o) rfl rfl rfl rfl rfl rfl rfl rfl (fun v1 => ?_)
  refine ct_zrun C (k' := 7) (y := ([(3, .inl 0), (2, .inl v1), (1, .inl 0), (0, .inr (.inr (0, o)))], [], h)) 3 rfl rfl rfl ?_
  exact ct_zsub [3, 2, 1, 0] rfl (zl_X0_together_7 C o h v1 200 (0, 0))
def l_X0_pointsIn_4 (G : ct_G) (o : Nat) (a1 : Int) (h : ct_H) : Nat → (Int × Int) → Option (Int)
  | 0, _ => none
  | n2 + 1, b1 => if (h.1 o 4) ≤ b1.2 then (some (b1.1)) else (ct_rd G h (G.1 o 0) b1.2).bind fun v3 => ct_jn (β := Int) (fun k5 => if v3 < a1 then (k5 (b1.1)) else k5 (ct_wr (b1.1 + 1))) (fun b4 => l_X0_pointsIn_4 G o a1 h n2 (b4, (ct_wr (b1.2 + 1))))
set_option maxRecDepth 100000 in
theorem zl_X0_pointsIn_4 {x : ct_Ctx} {d : Nat} {G : ct_G} (C : ct_c x m_X0_pointsIn G d) (o : Nat) (a1 : Int) (h : ct_H) : ∀ (n2 : Nat) (b1 : Int × Int), ct_Z x m_X0_pointsIn G 4 [(0, .inr (.inr (0, o))), (1, .inl a1), (2, .inl (b1.1)), (3, .inl (b1.2))] [] h (fun a => ct_q x G ((fun r : Int => (some (.inl r : ct_PV), h)) a)) (l_X0_pointsIn_4 G o a1 h n2 b1) := by
  intro n2
  induction n2 with
  | zero => intro b1; exact ct_znone
  | succ n2 ih =>
    intro b1
    rw [l_X0_pointsIn_4]
    refine ct_zrun C (k' := 7) (y := ([(0, .inr (.inr (0, o))), (1, .inl a1), (2, .inl (b1.1)), (3, .inl (b1.2))], [.inl (h.1 o 4), .inl (b1.2)], h)) 3 rfl rfl rfl ?_
    refine ct_zt C (pc := 9) (aux := 0) (cn := .ge) (off := 22) (k' := 17) (a := b1.2) (b := (h.1 o 4)) Iff.rfl rfl rfl rfl (fun e8 => ?_) (fun e8 => ?_)
    · refine ct_zrun C (k' := 18) (y := ([(0, .inr (.inr (0, o))), (1, .inl a1), (2, .inl (b1.1)), (3, .inl (b1.2))], [.inl (b1.1)], h)) 1 rfl rfl rfl ?_
      exact ct_zret C (pc := 32) (aux := 0) (ins := .ireturn) (ρ := (fun r : Int => (some (.inl r : ct_PV), h))) (some (.inl (b1.1))) rfl rfl rfl ⟨rfl, Or.inl rfl⟩
    · refine ct_zrun C (k' := 11) (y := ([(0, .inr (.inr (0, o))), (1, .inl a1), (2, .inl (b1.1)), (3, .inl (b1.2))], [.inl (b1.2), .inr (.inr (8, (G.1 o 0)))], h)) 3 rfl rfl rfl ?_
      refine ct_zrd C (pc := 17) (aux := 0) (ins := .iaload) (cd := 8) rfl rfl (Or.inl ⟨rfl, rfl⟩) (fun v3 => ?_)
      refine ct_zrun C (k' := 13) (y := ([(0, .inr (.inr (0, o))), (1, .inl a1), (2, .inl (b1.1)), (3, .inl (b1.2))], [.inl a1, .inl v3], h)) 1 rfl rfl rfl ?_
      refine ct_zjn (β := Int) (kJ := 15) (L := fun b4 => [(0, .inr (.inr (0, o))), (1, .inl a1), (2, .inl b4), (3, .inl (b1.2))]) (S := fun b4 => []) (Hh := fun b4 => h) (fun b4 => ?_) (fun k5 z6 => ?_)
      · refine ct_zrun C (k' := 16) (y := ([(3, .inl (ct_wr (b1.2 + 1))), (0, .inr (.inr (0, o))), (1, .inl a1), (2, .inl b4)], [], h)) 1 rfl rfl rfl ?_
        refine ct_zgoto C (pc := 28) (aux := 0) (off := (-24)) (k' := 4) rfl rfl ?_
        exact ct_zsub [1, 2, 3, 0] rfl (ih (b4, (ct_wr (b1.2 + 1))))
      · refine ct_zt C (pc := 19) (aux := 0) (cn := .lt) (off := 6) (k' := 15) (a := v3) (b := a1) Iff.rfl rfl rfl rfl (fun e7 => ?_) (fun e7 => ?_)
        · exact ct_zsub [0, 1, 2, 3] rfl (z6 (b1.1))
        · refine ct_zrun C (k' := 15) (y := ([(2, .inl (ct_wr (b1.1 + 1))), (0, .inr (.inr (0, o))), (1, .inl a1), (3, .inl (b1.2))], [], h)) 1 rfl rfl rfl ?_
          exact ct_zsub [1, 2, 0, 3] rfl (z6 (ct_wr (b1.1 + 1)))
def f_X0_pointsIn (G : ct_G) (h : ct_H) (o : Nat) (a1 : Int) : Option (Int) := l_X0_pointsIn_4 G o a1 h 200 (0, 0)
set_option maxRecDepth 100000 in
theorem e_X0_pointsIn {d : Nat} {G : ct_G} {h : ct_H} (o : Nat) (a1 : Int) : ct_E m_X0_pointsIn d G (ct_args 0 [.inr (.inr (0, o)), .inl a1]) h (fun r : Int => (some (.inl r : ct_PV), h)) (f_X0_pointsIn G h o a1) := by
  intro x C
  unfold f_X0_pointsIn
  show ct_Z x m_X0_pointsIn G 0 [(0, .inr (.inr (0, o))), (1, .inl a1)] [] h (fun a => ct_q x G ((fun r : Int => (some (.inl r : ct_PV), h)) a)) _
  refine ct_zrun C (k' := 4) (y := ([(3, .inl 0), (2, .inl 0), (0, .inr (.inr (0, o))), (1, .inl a1)], [], h)) 4 rfl rfl rfl ?_
  exact ct_zsub [2, 3, 1, 0] rfl (zl_X0_pointsIn_4 C o a1 h 200 (0, 0))
def l_X0_turnOver_5 (G : ct_G) (o : Nat) (v1 : Int) : Nat → (Int × ct_H) → Option (ct_H)
  | 0, _ => none
  | n3 + 1, b2 => if v1 ≤ b2.1 then (some (b2.2)) else (f_X0_heightOf G b2.2 o b2.1).bind fun v4 => (f_X0_putHeight G b2.2 o b2.1 (ct_wr (99 - v4))).bind fun r5 => l_X0_turnOver_5 G o v1 n3 ((ct_wr (b2.1 + 1)), r5)
set_option maxRecDepth 100000 in
theorem zl_X0_turnOver_5 {x : ct_Ctx} {d : Nat} {G : ct_G} (C : ct_c x m_X0_turnOver G (d + 2)) (o : Nat) (v1 : Int) : ∀ (n3 : Nat) (b2 : Int × ct_H), ct_Z x m_X0_turnOver G 5 [(0, .inr (.inr (0, o))), (1, .inl v1), (2, .inl (b2.1))] [] b2.2 (fun a => ct_q x G ((fun r : ct_H => ((none : Option ct_PV), r)) a)) (l_X0_turnOver_5 G o v1 n3 b2) := by
  intro n3
  induction n3 with
  | zero => intro b2; exact ct_znone
  | succ n3 ih =>
    intro b2
    rw [l_X0_turnOver_5]
    refine ct_zrun C (k' := 7) (y := ([(0, .inr (.inr (0, o))), (1, .inl v1), (2, .inl (b2.1))], [.inl v1, .inl (b2.1)], b2.2)) 2 rfl rfl rfl ?_
    refine ct_zt C (pc := 9) (aux := 0) (cn := .ge) (off := 22) (k' := 18) (a := b2.1) (b := v1) Iff.rfl rfl rfl rfl (fun e6 => ?_) (fun e6 => ?_)
    · exact ct_zret C (pc := 31) (aux := 0) (ins := .return_) (ρ := (fun r : ct_H => ((none : Option ct_PV), r))) none rfl rfl rfl ⟨rfl, rfl⟩
    · refine ct_zrun C (k' := 13) (y := ([(0, .inr (.inr (0, o))), (1, .inl v1), (2, .inl (b2.1))], [.inl (b2.1), .inr (.inr (0, o)), .inl 99, .inl (b2.1), .inr (.inr (0, o))], b2.2)) 5 rfl rfl rfl ?_
      refine ct_zV C (pc := 18) (aux := 0) [.inl (b2.1)] [.inl 99, .inl (b2.1), .inr (.inr (0, o))] ok_X0_heightOf lk_X0_71 (e_X0_heightOf o (b2.1)) rfl rfl rfl rfl rfl rfl rfl rfl (fun v4 => ?_)
      refine ct_zrun C (k' := 15) (y := ([(0, .inr (.inr (0, o))), (1, .inl v1), (2, .inl (b2.1))], [.inl (ct_wr (99 - v4)), .inl (b2.1), .inr (.inr (0, o))], b2.2)) 1 rfl rfl rfl ?_
      refine ct_zV C (pc := 22) (aux := 0) [.inl (b2.1), .inl (ct_wr (99 - v4))] [] ok_X0_putHeight lk_X0_48 (e_X0_putHeight o (b2.1) (ct_wr (99 - v4))) rfl rfl rfl rfl rfl rfl rfl rfl (fun r5 => ?_)
      refine ct_zrun C (k' := 17) (y := ([(2, .inl (ct_wr (b2.1 + 1))), (0, .inr (.inr (0, o))), (1, .inl v1)], [], r5)) 1 rfl rfl rfl ?_
      refine ct_zgoto C (pc := 28) (aux := 0) (off := (-21)) (k' := 5) rfl rfl ?_
      exact ct_zsub [1, 2, 0] rfl (ih ((ct_wr (b2.1 + 1)), r5))
def f_X0_turnOver (G : ct_G) (h : ct_H) (o : Nat) : Option (ct_H) := (f_X0_points G h o).bind fun v1 => l_X0_turnOver_5 G o v1 200 (0, h)
set_option maxRecDepth 100000 in
theorem e_X0_turnOver {d : Nat} {G : ct_G} {h : ct_H} (o : Nat) : ct_E m_X0_turnOver (d + 2) G (ct_args 0 [.inr (.inr (0, o))]) h (fun r : ct_H => ((none : Option ct_PV), r)) (f_X0_turnOver G h o) := by
  intro x C
  unfold f_X0_turnOver
  show ct_Z x m_X0_turnOver G 0 [(0, .inr (.inr (0, o)))] [] h (fun a => ct_q x G ((fun r : ct_H => ((none : Option ct_PV), r)) a)) _
  refine ct_zrun C (k' := 1) (y := ([(0, .inr (.inr (0, o)))], [.inr (.inr (0, o))], h)) 1 rfl rfl rfl ?_
  refine ct_zV C (pc := 1) (aux := 0) [] [] ok_X0_points lk_X0_44 (e_X0_points o) rfl rfl rfl rfl rfl rfl rfl rfl (fun v1 => ?_)
  refine ct_zrun C (k' := 5) (y := ([(2, .inl 0), (1, .inl v1), (0, .inr (.inr (0, o)))], [], h)) 3 rfl rfl rfl ?_
  exact ct_zsub [2, 1, 0] rfl (zl_X0_turnOver_5 C o v1 200 (0, h))
def l_X0_lowerAll_5 (G : ct_G) (o : Nat) (a1 : Int) (v1 : Int) : Nat → (Int × ct_H) → Option (ct_H)
  | 0, _ => none
  | n3 + 1, b2 => if v1 ≤ b2.1 then (some (b2.2)) else (f_X0_heightOf G b2.2 o b2.1).bind fun v4 => (f_X0_putHeight G b2.2 o b2.1 (ct_max 0 (ct_wr (v4 - a1)))).bind fun r5 => l_X0_lowerAll_5 G o a1 v1 n3 ((ct_wr (b2.1 + 1)), r5)
set_option maxRecDepth 100000 in
theorem zl_X0_lowerAll_5 {x : ct_Ctx} {d : Nat} {G : ct_G} (C : ct_c x m_X0_lowerAll G (d + 2)) (o : Nat) (a1 : Int) (v1 : Int) : ∀ (n3 : Nat) (b2 : Int × ct_H), ct_Z x m_X0_lowerAll G 5 [(0, .inr (.inr (0, o))), (1, .inl a1), (2, .inl v1), (3, .inl (b2.1))] [] b2.2 (fun a => ct_q x G ((fun r : ct_H => ((none : Option ct_PV), r)) a)) (l_X0_lowerAll_5 G o a1 v1 n3 b2) := by
  intro n3
  induction n3 with
  | zero => intro b2; exact ct_znone
  | succ n3 ih =>
    intro b2
    rw [l_X0_lowerAll_5]
    refine ct_zrun C (k' := 7) (y := ([(0, .inr (.inr (0, o))), (1, .inl a1), (2, .inl v1), (3, .inl (b2.1))], [.inl v1, .inl (b2.1)], b2.2)) 2 rfl rfl rfl ?_
    refine ct_zt C (pc := 9) (aux := 0) (cn := .ge) (off := 25) (k' := 20) (a := b2.1) (b := v1) Iff.rfl rfl rfl rfl (fun e6 => ?_) (fun e6 => ?_)
    · exact ct_zret C (pc := 34) (aux := 0) (ins := .return_) (ρ := (fun r : ct_H => ((none : Option ct_PV), r))) none rfl rfl rfl ⟨rfl, rfl⟩
    · refine ct_zrun C (k' := 13) (y := ([(0, .inr (.inr (0, o))), (1, .inl a1), (2, .inl v1), (3, .inl (b2.1))], [.inl (b2.1), .inr (.inr (0, o)), .inl 0, .inl (b2.1), .inr (.inr (0, o))], b2.2)) 5 rfl rfl rfl ?_
      refine ct_zV C (pc := 17) (aux := 0) [.inl (b2.1)] [.inl 0, .inl (b2.1), .inr (.inr (0, o))] ok_X0_heightOf lk_X0_71 (e_X0_heightOf o (b2.1)) rfl rfl rfl rfl rfl rfl rfl rfl (fun v4 => ?_)
      refine ct_zrun C (k' := 16) (y := ([(0, .inr (.inr (0, o))), (1, .inl a1), (2, .inl v1), (3, .inl (b2.1))], [.inl (ct_wr (v4 - a1)), .inl 0, .inl (b2.1), .inr (.inr (0, o))], b2.2)) 2 rfl rfl rfl ?_
      refine ct_zmax C (pc := 22) (aux := 0) lk_X0_65 rfl rfl rfl ?_
      refine ct_zV C (pc := 25) (aux := 0) [.inl (b2.1), .inl (ct_max 0 (ct_wr (v4 - a1)))] [] ok_X0_putHeight lk_X0_48 (e_X0_putHeight o (b2.1) (ct_max 0 (ct_wr (v4 - a1)))) rfl rfl rfl rfl rfl rfl rfl rfl (fun r5 => ?_)
      refine ct_zrun C (k' := 19) (y := ([(3, .inl (ct_wr (b2.1 + 1))), (0, .inr (.inr (0, o))), (1, .inl a1), (2, .inl v1)], [], r5)) 1 rfl rfl rfl ?_
      refine ct_zgoto C (pc := 31) (aux := 0) (off := (-24)) (k' := 5) rfl rfl ?_
      exact ct_zsub [1, 2, 3, 0] rfl (ih ((ct_wr (b2.1 + 1)), r5))
def f_X0_lowerAll (G : ct_G) (h : ct_H) (o : Nat) (a1 : Int) : Option (ct_H) := (f_X0_points G h o).bind fun v1 => l_X0_lowerAll_5 G o a1 v1 200 (0, h)
set_option maxRecDepth 100000 in
theorem e_X0_lowerAll {d : Nat} {G : ct_G} {h : ct_H} (o : Nat) (a1 : Int) : ct_E m_X0_lowerAll (d + 2) G (ct_args 0 [.inr (.inr (0, o)), .inl a1]) h (fun r : ct_H => ((none : Option ct_PV), r)) (f_X0_lowerAll G h o a1) := by
  intro x C
  unfold f_X0_lowerAll
  show ct_Z x m_X0_lowerAll G 0 [(0, .inr (.inr (0, o))), (1, .inl a1)] [] h (fun a => ct_q x G ((fun r : ct_H => ((none : Option ct_PV), r)) a)) _
  refine ct_zrun C (k' := 1) (y := ([(0, .inr (.inr (0, o))), (1, .inl a1)], [.inr (.inr (0, o))], h)) 1 rfl rfl rfl ?_
  refine ct_zV C (pc := 1) (aux := 0) [] [] ok_X0_points lk_X0_44 (e_X0_points o) rfl rfl rfl rfl rfl rfl rfl rfl (fun v1 => ?_)
  refine ct_zrun C (k' := 5) (y := ([(3, .inl 0), (2, .inl v1), (0, .inr (.inr (0, o))), (1, .inl a1)], [], h)) 3 rfl rfl rfl ?_
  exact ct_zsub [2, 3, 1, 0] rfl (zl_X0_lowerAll_5 C o a1 v1 200 (0, h))
set_option maxRecDepth 100000 in
theorem lk_X0_74 : ct_LkV RX0 74 m_X0_isPoint 1 := ct_LkV_of 516 368 369 (by decide +kernel) (by decide +kernel) (by decide +kernel) (by decide +kernel)
def l_X0_fillUp_44 (G : ct_G) (o : Nat) (a2 : Int) (a3 : Int) (p12 : Int) (k15 : ct_H → Option (Int × ct_H)) : Nat → (Int × ct_H) → Option (Int × ct_H)
  | 0, _ => none
  | n14 + 1, b13 => (ct_md a2 (b13.2.1 o 2)).bind fun v18 => if v18 < b13.1 then (k15 (b13.2)) else (f_X0_putHeight G b13.2 o (ct_wr ((ct_wr (p12 * (b13.2.1 o 2))) + b13.1)) a3).bind fun r19 => l_X0_fillUp_44 G o a2 a3 p12 k15 n14 ((ct_wr (b13.1 + 1)), r19)
set_option maxRecDepth 100000 in
theorem zl_X0_fillUp_44 {x : ct_Ctx} {d : Nat} {G : ct_G} (C : ct_c x m_X0_fillUp G (d + 2)) (o : Nat) (a1 : Int) (a2 : Int) (a3 : Int) (p12 : Int) (k15 : ct_H → Option (Int × ct_H)) (z16 : ∀ b17 : ct_H, ct_Z x m_X0_fillUp G 61 [(0, .inr (.inr (0, o))), (1, .inl a1), (2, .inl a2), (3, .inl a3), (4, .inl p12)] [] b17 (fun a => ct_q x G ((fun r : Int × ct_H => (some (.inl (r.1) : ct_PV), r.2)) a)) (k15 b17)) : ∀ (n14 : Nat) (b13 : Int × ct_H), ct_Z x m_X0_fillUp G 44 [(0, .inr (.inr (0, o))), (1, .inl a1), (2, .inl a2), (3, .inl a3), (4, .inl p12), (5, .inl (b13.1))] [] b13.2 (fun a => ct_q x G ((fun r : Int × ct_H => (some (.inl (r.1) : ct_PV), r.2)) a)) (l_X0_fillUp_44 G o a2 a3 p12 k15 n14 b13) := by
  intro n14
  induction n14 with
  | zero => intro b13; exact ct_znone
  | succ n14 ih =>
    intro b13
    rw [l_X0_fillUp_44]
    refine ct_zrun C (k' := 48) (y := ([(0, .inr (.inr (0, o))), (1, .inl a1), (2, .inl a2), (3, .inl a3), (4, .inl p12), (5, .inl (b13.1))], [.inl (b13.2.1 o 2), .inl a2, .inl (b13.1)], b13.2)) 4 rfl rfl rfl ?_
    refine ct_zmd C (pc := 82) (aux := 0) rfl rfl (fun v18 => ?_)
    refine ct_zt C (pc := 83) (aux := 0) (cn := .gt) (off := 24) (k' := 61) (a := b13.1) (b := v18) Iff.rfl rfl rfl rfl (fun e20 => ?_) (fun e20 => ?_)
    · exact ct_zsub [0, 1, 2, 3, 4] rfl (z16 (b13.2))
    · refine ct_zrun C (k' := 58) (y := ([(0, .inr (.inr (0, o))), (1, .inl a1), (2, .inl a2), (3, .inl a3), (4, .inl p12), (5, .inl (b13.1))], [.inl a3, .inl (ct_wr ((ct_wr (p12 * (b13.2.1 o 2))) + b13.1)), .inr (.inr (0, o))], b13.2)) 8 rfl rfl rfl ?_
      refine ct_zV C (pc := 98) (aux := 0) [.inl (ct_wr ((ct_wr (p12 * (b13.2.1 o 2))) + b13.1)), .inl a3] [] ok_X0_putHeight lk_X0_48 (e_X0_putHeight o (ct_wr ((ct_wr (p12 * (b13.2.1 o 2))) + b13.1)) a3) rfl rfl rfl rfl rfl rfl rfl rfl (fun r19 => ?_)
      refine ct_zrun C (k' := 60) (y := ([(5, .inl (ct_wr (b13.1 + 1))), (0, .inr (.inr (0, o))), (1, .inl a1), (2, .inl a2), (3, .inl a3), (4, .inl p12)], [], r19)) 1 rfl rfl rfl ?_
      refine ct_zgoto C (pc := 104) (aux := 0) (off := (-29)) (k' := 44) rfl rfl ?_
      exact ct_zsub [1, 2, 3, 4, 5, 0] rfl (ih ((ct_wr (b13.1 + 1)), r19))
def l_X0_fillUp_33 (G : ct_G) (o : Nat) (a1 : Int) (a2 : Int) (a3 : Int) : Nat → (Int × ct_H) → Option (Int × ct_H)
  | 0, _ => none
  | n9 + 1, b8 => (ct_dv a2 (b8.2.1 o 2)).bind fun v10 => if v10 < b8.1 then (some (1, b8.2)) else (ct_md a1 (b8.2.1 o 2)).bind fun v11 => l_X0_fillUp_44 G o a2 a3 (b8.1) (fun b21 => l_X0_fillUp_33 G o a1 a2 a3 n9 ((ct_wr (b8.1 + 1)), b21)) 200 (v11, b8.2)
set_option maxRecDepth 100000 in
theorem zl_X0_fillUp_33 {x : ct_Ctx} {d : Nat} {G : ct_G} (C : ct_c x m_X0_fillUp G (d + 2)) (o : Nat) (a1 : Int) (a2 : Int) (a3 : Int) : ∀ (n9 : Nat) (b8 : Int × ct_H), ct_Z x m_X0_fillUp G 33 [(0, .inr (.inr (0, o))), (1, .inl a1), (2, .inl a2), (3, .inl a3), (4, .inl (b8.1))] [] b8.2 (fun a => ct_q x G ((fun r : Int × ct_H => (some (.inl (r.1) : ct_PV), r.2)) a)) (l_X0_fillUp_33 G o a1 a2 a3 n9 b8) := by
  intro n9
  induction n9 with
  | zero => intro b8; exact ct_znone
  | succ n9 ih =>
    intro b8
    rw [l_X0_fillUp_33]
    refine ct_zrun C (k' := 37) (y := ([(0, .inr (.inr (0, o))), (1, .inl a1), (2, .inl a2), (3, .inl a3), (4, .inl (b8.1))], [.inl (b8.2.1 o 2), .inl a2, .inl (b8.1)], b8.2)) 4 rfl rfl rfl ?_
    refine ct_zdv C (pc := 63) (aux := 0) rfl rfl (fun v10 => ?_)
    refine ct_zt C (pc := 64) (aux := 0) (cn := .gt) (off := 49) (k' := 63) (a := b8.1) (b := v10) Iff.rfl rfl rfl rfl (fun e22 => ?_) (fun e22 => ?_)
    · refine ct_zrun C (k' := 64) (y := ([(0, .inr (.inr (0, o))), (1, .inl a1), (2, .inl a2), (3, .inl a3), (4, .inl (b8.1))], [.inl 1], b8.2)) 1 rfl rfl rfl ?_
      exact ct_zret C (pc := 114) (aux := 0) (ins := .ireturn) (ρ := (fun r : Int × ct_H => (some (.inl (r.1) : ct_PV), r.2))) (some (.inl 1)) rfl rfl rfl ⟨rfl, Or.inr ⟨rfl, Or.inr rfl⟩⟩
    · refine ct_zrun C (k' := 42) (y := ([(0, .inr (.inr (0, o))), (1, .inl a1), (2, .inl a2), (3, .inl a3), (4, .inl (b8.1))], [.inl (b8.2.1 o 2), .inl a1], b8.2)) 3 rfl rfl rfl ?_
      refine ct_zmd C (pc := 72) (aux := 0) rfl rfl (fun v11 => ?_)
      refine ct_zrun C (k' := 44) (y := ([(5, .inl v11), (0, .inr (.inr (0, o))), (1, .inl a1), (2, .inl a2), (3, .inl a3), (4, .inl (b8.1))], [], b8.2)) 1 rfl rfl rfl ?_
      refine ct_zsub [1, 2, 3, 4, 5, 0] rfl (zl_X0_fillUp_44 C o a1 a2 a3 (b8.1) _ (fun b21 => ?_) 200 (v11, b8.2))
      refine ct_zrun C (k' := 62) (y := ([(4, .inl (ct_wr (b8.1 + 1))), (0, .inr (.inr (0, o))), (1, .inl a1), (2, .inl a2), (3, .inl a3)], [], b21)) 1 rfl rfl rfl ?_
      refine ct_zgoto C (pc := 110) (aux := 0) (off := (-54)) (k' := 33) rfl rfl ?_
      exact ct_zsub [1, 2, 3, 4, 0] rfl (ih ((ct_wr (b8.1 + 1)), b21))
def f_X0_fillUp (G : ct_G) (h : ct_H) (o : Nat) (a1 : Int) (a2 : Int) (a3 : Int) : Option (Int × ct_H) := (f_X0_isPoint G h o a1).bind fun v1 => if v1 = 0 then (some (0, h)) else (f_X0_isPoint G h o a2).bind fun v2 => if v2 = 0 then (some (0, h)) else (ct_dv a2 (h.1 o 2)).bind fun v3 => (ct_dv a1 (h.1 o 2)).bind fun v4 => if v3 < v4 then (some (0, h)) else (ct_md a2 (h.1 o 2)).bind fun v5 => (ct_md a1 (h.1 o 2)).bind fun v6 => if v6 ≤ v5 then ((ct_dv a1 (h.1 o 2)).bind fun v7 => l_X0_fillUp_33 G o a1 a2 a3 200 (v7, h)) else some (0, h)
set_option maxRecDepth 100000 in
theorem e_X0_fillUp {d : Nat} {G : ct_G} {h : ct_H} (o : Nat) (a1 : Int) (a2 : Int) (a3 : Int) : ct_E m_X0_fillUp (d + 2) G (ct_args 0 [.inr (.inr (0, o)), .inl a1, .inl a2, .inl a3]) h (fun r : Int × ct_H => (some (.inl (r.1) : ct_PV), r.2)) (f_X0_fillUp G h o a1 a2 a3) := by
  intro x C
  unfold f_X0_fillUp
  show ct_Z x m_X0_fillUp G 0 [(0, .inr (.inr (0, o))), (1, .inl a1), (2, .inl a2), (3, .inl a3)] [] h (fun a => ct_q x G ((fun r : Int × ct_H => (some (.inl (r.1) : ct_PV), r.2)) a)) _
  refine ct_zrun C (k' := 2) (y := ([(0, .inr (.inr (0, o))), (1, .inl a1), (2, .inl a2), (3, .inl a3)], [.inl a1, .inr (.inr (0, o))], h)) 2 rfl rfl rfl ?_
  refine ct_zV C (pc := 2) (aux := 0) [.inl a1] [] ok_X0_isPoint lk_X0_74 (e_X0_isPoint o a1) rfl rfl rfl rfl rfl rfl rfl rfl (fun v1 => ?_)
  refine ct_zt0 C (pc := 5) (aux := 0) (cn := .eq) (off := 41) (k' := 26) (a := v1) Iff.rfl rfl rfl rfl (fun e26 => ?_) (fun e26 => ?_)
  · refine ct_zrun C (k' := 27) (y := ([(0, .inr (.inr (0, o))), (1, .inl a1), (2, .inl a2), (3, .inl a3)], [.inl 0], h)) 1 rfl rfl rfl ?_
    exact ct_zret C (pc := 47) (aux := 0) (ins := .ireturn) (ρ := (fun r : Int × ct_H => (some (.inl (r.1) : ct_PV), r.2))) (some (.inl 0)) rfl rfl rfl ⟨rfl, Or.inr ⟨rfl, Or.inl rfl⟩⟩
  · refine ct_zrun C (k' := 6) (y := ([(0, .inr (.inr (0, o))), (1, .inl a1), (2, .inl a2), (3, .inl a3)], [.inl a2, .inr (.inr (0, o))], h)) 2 rfl rfl rfl ?_
    refine ct_zV C (pc := 10) (aux := 0) [.inl a2] [] ok_X0_isPoint lk_X0_74 (e_X0_isPoint o a2) rfl rfl rfl rfl rfl rfl rfl rfl (fun v2 => ?_)
    refine ct_zt0 C (pc := 13) (aux := 0) (cn := .eq) (off := 33) (k' := 26) (a := v2) Iff.rfl rfl rfl rfl (fun e25 => ?_) (fun e25 => ?_)
    · refine ct_zrun C (k' := 27) (y := ([(0, .inr (.inr (0, o))), (1, .inl a1), (2, .inl a2), (3, .inl a3)], [.inl 0], h)) 1 rfl rfl rfl ?_
      exact ct_zret C (pc := 47) (aux := 0) (ins := .ireturn) (ρ := (fun r : Int × ct_H => (some (.inl (r.1) : ct_PV), r.2))) (some (.inl 0)) rfl rfl rfl ⟨rfl, Or.inr ⟨rfl, Or.inl rfl⟩⟩
    · refine ct_zrun C (k' := 11) (y := ([(0, .inr (.inr (0, o))), (1, .inl a1), (2, .inl a2), (3, .inl a3)], [.inl (h.1 o 2), .inl a2], h)) 3 rfl rfl rfl ?_
      refine ct_zdv C (pc := 21) (aux := 0) rfl rfl (fun v3 => ?_)
      refine ct_zrun C (k' := 15) (y := ([(0, .inr (.inr (0, o))), (1, .inl a1), (2, .inl a2), (3, .inl a3)], [.inl (h.1 o 2), .inl a1, .inl v3], h)) 3 rfl rfl rfl ?_
      refine ct_zdv C (pc := 27) (aux := 0) rfl rfl (fun v4 => ?_)
      refine ct_zt C (pc := 28) (aux := 0) (cn := .lt) (off := 18) (k' := 26) (a := v3) (b := v4) Iff.rfl rfl rfl rfl (fun e24 => ?_) (fun e24 => ?_)
      · refine ct_zrun C (k' := 27) (y := ([(0, .inr (.inr (0, o))), (1, .inl a1), (2, .inl a2), (3, .inl a3)], [.inl 0], h)) 1 rfl rfl rfl ?_
        exact ct_zret C (pc := 47) (aux := 0) (ins := .ireturn) (ρ := (fun r : Int × ct_H => (some (.inl (r.1) : ct_PV), r.2))) (some (.inl 0)) rfl rfl rfl ⟨rfl, Or.inr ⟨rfl, Or.inl rfl⟩⟩
      · refine ct_zrun C (k' := 20) (y := ([(0, .inr (.inr (0, o))), (1, .inl a1), (2, .inl a2), (3, .inl a3)], [.inl (h.1 o 2), .inl a2], h)) 3 rfl rfl rfl ?_
        refine ct_zmd C (pc := 36) (aux := 0) rfl rfl (fun v5 => ?_)
        refine ct_zrun C (k' := 24) (y := ([(0, .inr (.inr (0, o))), (1, .inl a1), (2, .inl a2), (3, .inl a3)], [.inl (h.1 o 2), .inl a1, .inl v5], h)) 3 rfl rfl rfl ?_
        refine ct_zmd C (pc := 42) (aux := 0) rfl rfl (fun v6 => ?_)
        refine ct_zt C (pc := 43) (aux := 0) (cn := .ge) (off := 5) (k' := 28) (a := v5) (b := v6) Iff.rfl rfl rfl rfl (fun e23 => ?_) (fun e23 => ?_)
        · refine ct_zrun C (k' := 31) (y := ([(0, .inr (.inr (0, o))), (1, .inl a1), (2, .inl a2), (3, .inl a3)], [.inl (h.1 o 2), .inl a1], h)) 3 rfl rfl rfl ?_
          refine ct_zdv C (pc := 53) (aux := 0) rfl rfl (fun v7 => ?_)
          refine ct_zrun C (k' := 33) (y := ([(4, .inl v7), (0, .inr (.inr (0, o))), (1, .inl a1), (2, .inl a2), (3, .inl a3)], [], h)) 1 rfl rfl rfl ?_
          exact ct_zsub [1, 2, 3, 4, 0] rfl (zl_X0_fillUp_33 C o a1 a2 a3 200 (v7, h))
        · refine ct_zrun C (k' := 27) (y := ([(0, .inr (.inr (0, o))), (1, .inl a1), (2, .inl a2), (3, .inl a3)], [.inl 0], h)) 1 rfl rfl rfl ?_
          exact ct_zret C (pc := 47) (aux := 0) (ins := .ireturn) (ρ := (fun r : Int × ct_H => (some (.inl (r.1) : ct_PV), r.2))) (some (.inl 0)) rfl rfl rfl ⟨rfl, Or.inr ⟨rfl, Or.inl rfl⟩⟩
theorem lk_X0_78 : Cond.methodLink RX0 78 Lib.Math.abs.name ∈ ct_GW := ct_GW_of 521 (by decide +kernel) (by decide +kernel)
def l_X0_heapUp_11 (G : ct_G) (o : Nat) (a1 : Int) (a2 : Int) (a3 : Int) (v2 : Int) : Nat → (Int × ct_H) → Option (Int × ct_H)
  | 0, _ => none
  | n4 + 1, b3 => if v2 ≤ b3.1 then (some (1, b3.2)) else (ct_dv b3.1 (b3.2.1 o 2)).bind fun v5 => (ct_dv a1 (b3.2.1 o 2)).bind fun v6 => (ct_md b3.1 (b3.2.1 o 2)).bind fun v7 => (ct_md a1 (b3.2.1 o 2)).bind fun v8 => ct_lt (ct_wr ((ct_abs (ct_wr (v5 - v6))) + (ct_abs (ct_wr (v7 - v8))))) fun v9 => (f_X0_heightOf G b3.2 o b3.1).bind fun v10 => (f_X0_putHeight G b3.2 o b3.1 (ct_max v10 (ct_wr (a2 - (ct_wr (a3 * v9)))))).bind fun r11 => l_X0_heapUp_11 G o a1 a2 a3 v2 n4 ((ct_wr (b3.1 + 1)), r11)
set_option maxRecDepth 100000 in
theorem zl_X0_heapUp_11 {x : ct_Ctx} {d : Nat} {G : ct_G} (C : ct_c x m_X0_heapUp G (d + 2)) (o : Nat) (a1 : Int) (a2 : Int) (a3 : Int) (v2 : Int) : ∀ (n4 : Nat) (b3 : Int × ct_H), ct_Z x m_X0_heapUp G 11 [(0, .inr (.inr (0, o))), (1, .inl a1), (2, .inl a2), (3, .inl a3), (4, .inl v2), (5, .inl (b3.1))] [] b3.2 (fun a => ct_q x G ((fun r : Int × ct_H => (some (.inl (r.1) : ct_PV), r.2)) a)) (l_X0_heapUp_11 G o a1 a2 a3 v2 n4 b3) := by
  intro n4
  induction n4 with
  | zero => intro b3; exact ct_znone
  | succ n4 ih =>
    intro b3
    rw [l_X0_heapUp_11]
    refine ct_zrun C (k' := 13) (y := ([(0, .inr (.inr (0, o))), (1, .inl a1), (2, .inl a2), (3, .inl a3), (4, .inl v2), (5, .inl (b3.1))], [.inl v2, .inl (b3.1)], b3.2)) 2 rfl rfl rfl ?_
    refine ct_zt C (pc := 23) (aux := 0) (cn := .ge) (off := 67) (k' := 50) (a := b3.1) (b := v2) Iff.rfl rfl rfl rfl (fun e12 => ?_) (fun e12 => ?_)
    · refine ct_zrun C (k' := 51) (y := ([(0, .inr (.inr (0, o))), (1, .inl a1), (2, .inl a2), (3, .inl a3), (4, .inl v2), (5, .inl (b3.1))], [.inl 1], b3.2)) 1 rfl rfl rfl ?_
      exact ct_zret C (pc := 91) (aux := 0) (ins := .ireturn) (ρ := (fun r : Int × ct_H => (some (.inl (r.1) : ct_PV), r.2))) (some (.inl 1)) rfl rfl rfl ⟨rfl, Or.inr ⟨rfl, Or.inr rfl⟩⟩
    · refine ct_zrun C (k' := 17) (y := ([(0, .inr (.inr (0, o))), (1, .inl a1), (2, .inl a2), (3, .inl a3), (4, .inl v2), (5, .inl (b3.1))], [.inl (b3.2.1 o 2), .inl (b3.1)], b3.2)) 3 rfl rfl rfl ?_
      refine ct_zdv C (pc := 32) (aux := 0) rfl rfl (fun v5 => ?_)
      refine ct_zrun C (k' := 21) (y := ([(0, .inr (.inr (0, o))), (1, .inl a1), (2, .inl a2), (3, .inl a3), (4, .inl v2), (5, .inl (b3.1))], [.inl (b3.2.1 o 2), .inl a1, .inl v5], b3.2)) 3 rfl rfl rfl ?_
      refine ct_zdv C (pc := 38) (aux := 0) rfl rfl (fun v6 => ?_)
      refine ct_zrun C (k' := 23) (y := ([(0, .inr (.inr (0, o))), (1, .inl a1), (2, .inl a2), (3, .inl a3), (4, .inl v2), (5, .inl (b3.1))], [.inl (ct_wr (v5 - v6))], b3.2)) 1 rfl rfl rfl ?_
      refine ct_zabs C (pc := 40) (aux := 0) lk_X0_78 rfl rfl rfl ?_
      refine ct_zrun C (k' := 27) (y := ([(0, .inr (.inr (0, o))), (1, .inl a1), (2, .inl a2), (3, .inl a3), (4, .inl v2), (5, .inl (b3.1))], [.inl (b3.2.1 o 2), .inl (b3.1), .inl (ct_abs (ct_wr (v5 - v6)))], b3.2)) 3 rfl rfl rfl ?_
      refine ct_zmd C (pc := 49) (aux := 0) rfl rfl (fun v7 => ?_)
      refine ct_zrun C (k' := 31) (y := ([(0, .inr (.inr (0, o))), (1, .inl a1), (2, .inl a2), (3, .inl a3), (4, .inl v2), (5, .inl (b3.1))], [.inl (b3.2.1 o 2), .inl a1, .inl v7, .inl (ct_abs (ct_wr (v5 - v6)))], b3.2)) 3 rfl rfl rfl ?_
      refine ct_zmd C (pc := 55) (aux := 0) rfl rfl (fun v8 => ?_)
      refine ct_zrun C (k' := 33) (y := ([(0, .inr (.inr (0, o))), (1, .inl a1), (2, .inl a2), (3, .inl a3), (4, .inl v2), (5, .inl (b3.1))], [.inl (ct_wr (v7 - v8)), .inl (ct_abs (ct_wr (v5 - v6)))], b3.2)) 1 rfl rfl rfl ?_
      refine ct_zabs C (pc := 57) (aux := 0) lk_X0_78 rfl rfl rfl ?_
      refine ct_zrun C (k' := 36) (y := ([(6, .inl (ct_wr ((ct_abs (ct_wr (v5 - v6))) + (ct_abs (ct_wr (v7 - v8)))))), (0, .inr (.inr (0, o))), (1, .inl a1), (2, .inl a2), (3, .inl a3), (4, .inl v2), (5, .inl (b3.1))], [], b3.2)) 2 rfl rfl rfl ?_
      refine ct_zlet (L := fun v9 => [(6, .inl v9), (0, .inr (.inr (0, o))), (1, .inl a1), (2, .inl a2), (3, .inl a3), (4, .inl v2), (5, .inl (b3.1))]) (S := fun _ => []) (Hh := fun _ => b3.2) (a := (ct_wr ((ct_abs (ct_wr (v5 - v6))) + (ct_abs (ct_wr (v7 - v8)))))) (fun v9 => ?_)
      refine ct_zrun C (k' := 40) (y := ([(6, .inl v9), (0, .inr (.inr (0, o))), (1, .inl a1), (2, .inl a2), (3, .inl a3), (4, .inl v2), (5, .inl (b3.1))], [.inl (b3.1), .inr (.inr (0, o)), .inl (b3.1), .inr (.inr (0, o))], b3.2)) 4 rfl rfl rfl ?_
      refine ct_zV C (pc := 69) (aux := 0) [.inl (b3.1)] [.inl (b3.1), .inr (.inr (0, o))] ok_X0_heightOf lk_X0_71 (e_X0_heightOf o (b3.1)) rfl rfl rfl rfl rfl rfl rfl rfl (fun v10 => ?_)
      refine ct_zrun C (k' := 46) (y := ([(6, .inl v9), (0, .inr (.inr (0, o))), (1, .inl a1), (2, .inl a2), (3, .inl a3), (4, .inl v2), (5, .inl (b3.1))], [.inl (ct_wr (a2 - (ct_wr (a3 * v9)))), .inl v10, .inl (b3.1), .inr (.inr (0, o))], b3.2)) 5 rfl rfl rfl ?_
      refine ct_zmax C (pc := 78) (aux := 0) lk_X0_65 rfl rfl rfl ?_
      refine ct_zV C (pc := 81) (aux := 0) [.inl (b3.1), .inl (ct_max v10 (ct_wr (a2 - (ct_wr (a3 * v9)))))] [] ok_X0_putHeight lk_X0_48 (e_X0_putHeight o (b3.1) (ct_max v10 (ct_wr (a2 - (ct_wr (a3 * v9)))))) rfl rfl rfl rfl rfl rfl rfl rfl (fun r11 => ?_)
      refine ct_zrun C (k' := 49) (y := ([(5, .inl (ct_wr (b3.1 + 1))), (6, .inl v9), (0, .inr (.inr (0, o))), (1, .inl a1), (2, .inl a2), (3, .inl a3), (4, .inl v2)], [], r11)) 1 rfl rfl rfl ?_
      refine ct_zgoto C (pc := 87) (aux := 0) (off := (-68)) (k' := 11) rfl rfl ?_
      exact ct_zsub [2, 3, 4, 5, 6, 0] rfl (ih ((ct_wr (b3.1 + 1)), r11))
def f_X0_heapUp (G : ct_G) (h : ct_H) (o : Nat) (a1 : Int) (a2 : Int) (a3 : Int) : Option (Int × ct_H) := (f_X0_isPoint G h o a1).bind fun v1 => if v1 = 0 then (some (0, h)) else (f_X0_points G h o).bind fun v2 => l_X0_heapUp_11 G o a1 a2 a3 v2 200 (0, h)
set_option maxRecDepth 100000 in
theorem e_X0_heapUp {d : Nat} {G : ct_G} {h : ct_H} (o : Nat) (a1 : Int) (a2 : Int) (a3 : Int) : ct_E m_X0_heapUp (d + 2) G (ct_args 0 [.inr (.inr (0, o)), .inl a1, .inl a2, .inl a3]) h (fun r : Int × ct_H => (some (.inl (r.1) : ct_PV), r.2)) (f_X0_heapUp G h o a1 a2 a3) := by
  intro x C
  unfold f_X0_heapUp
  show ct_Z x m_X0_heapUp G 0 [(0, .inr (.inr (0, o))), (1, .inl a1), (2, .inl a2), (3, .inl a3)] [] h (fun a => ct_q x G ((fun r : Int × ct_H => (some (.inl (r.1) : ct_PV), r.2)) a)) _
  refine ct_zrun C (k' := 2) (y := ([(0, .inr (.inr (0, o))), (1, .inl a1), (2, .inl a2), (3, .inl a3)], [.inl a1, .inr (.inr (0, o))], h)) 2 rfl rfl rfl ?_
  refine ct_zV C (pc := 2) (aux := 0) [.inl a1] [] ok_X0_isPoint lk_X0_74 (e_X0_isPoint o a1) rfl rfl rfl rfl rfl rfl rfl rfl (fun v1 => ?_)
  refine ct_zf0 C (pc := 5) (aux := 0) (cn := .ne) (off := 5) (k' := 6) (a := v1) Iff.rfl rfl rfl rfl (fun e13 => ?_) (fun e13 => ?_)
  · refine ct_zrun C (k' := 5) (y := ([(0, .inr (.inr (0, o))), (1, .inl a1), (2, .inl a2), (3, .inl a3)], [.inl 0], h)) 1 rfl rfl rfl ?_
    exact ct_zret C (pc := 9) (aux := 0) (ins := .ireturn) (ρ := (fun r : Int × ct_H => (some (.inl (r.1) : ct_PV), r.2))) (some (.inl 0)) rfl rfl rfl ⟨rfl, Or.inr ⟨rfl, Or.inl rfl⟩⟩
  · refine ct_zrun C (k' := 7) (y := ([(0, .inr (.inr (0, o))), (1, .inl a1), (2, .inl a2), (3, .inl a3)], [.inr (.inr (0, o))], h)) 1 rfl rfl rfl ?_
    refine ct_zV C (pc := 11) (aux := 0) [] [] ok_X0_points lk_X0_44 (e_X0_points o) rfl rfl rfl rfl rfl rfl rfl rfl (fun v2 => ?_)
    refine ct_zrun C (k' := 11) (y := ([(5, .inl 0), (4, .inl v2), (0, .inr (.inr (0, o))), (1, .inl a1), (2, .inl a2), (3, .inl a3)], [], h)) 3 rfl rfl rfl ?_
    exact ct_zsub [2, 3, 4, 5, 1, 0] rfl (zl_X0_heapUp_11 C o a1 a2 a3 v2 200 (0, h))
def f_X0_isEdge (G : ct_G) (h : ct_H) (o : Nat) (a1 : Int) : Option (Int) := if a1 < 0 then (some 0) else if a1 < (ct_wr (2 * (h.1 o 4))) then ((ct_dv a1 2).bind fun v1 => (ct_md a1 2).bind fun v2 => if v2 = 0 then ((ct_md v1 (h.1 o 3)).bind fun v4 => if (ct_wr ((h.1 o 3) - 1)) ≤ v4 then (some 0) else some 1) else if (h.1 o 4) ≤ (ct_wr (v1 + (h.1 o 3))) then (some 0) else some 1) else some 0
set_option maxRecDepth 100000 in
theorem e_X0_isEdge {d : Nat} {G : ct_G} {h : ct_H} (o : Nat) (a1 : Int) : ct_E m_X0_isEdge d G (ct_args 0 [.inr (.inr (0, o)), .inl a1]) h (fun r : Int => (some (.inl r : ct_PV), h)) (f_X0_isEdge G h o a1) := by
  intro x C
  unfold f_X0_isEdge
  show ct_Z x m_X0_isEdge G 0 [(0, .inr (.inr (0, o))), (1, .inl a1)] [] h (fun a => ct_q x G ((fun r : Int => (some (.inl r : ct_PV), h)) a)) _
  refine ct_zrun C (k' := 1) (y := ([(0, .inr (.inr (0, o))), (1, .inl a1)], [.inl a1], h)) 1 rfl rfl rfl ?_
  refine ct_zt0 C (pc := 1) (aux := 0) (cn := .lt) (off := 13) (k' := 8) (a := a1) Iff.rfl rfl rfl rfl (fun e8 => ?_) (fun e8 => ?_)
  · refine ct_zrun C (k' := 9) (y := ([(0, .inr (.inr (0, o))), (1, .inl a1)], [.inl 0], h)) 1 rfl rfl rfl ?_
    exact ct_zret C (pc := 15) (aux := 0) (ins := .ireturn) (ρ := (fun r : Int => (some (.inl r : ct_PV), h))) (some (.inl 0)) rfl rfl rfl ⟨rfl, Or.inr ⟨rfl, Or.inl rfl⟩⟩
  · refine ct_zrun C (k' := 7) (y := ([(0, .inr (.inr (0, o))), (1, .inl a1)], [.inl (ct_wr (2 * (h.1 o 4))), .inl a1], h)) 5 rfl rfl rfl ?_
    refine ct_zt C (pc := 11) (aux := 0) (cn := .lt) (off := 5) (k' := 10) (a := a1) (b := (ct_wr (2 * (h.1 o 4)))) Iff.rfl rfl rfl rfl (fun e7 => ?_) (fun e7 => ?_)
    · refine ct_zrun C (k' := 12) (y := ([(0, .inr (.inr (0, o))), (1, .inl a1)], [.inl 2, .inl a1], h)) 2 rfl rfl rfl ?_
      refine ct_zdv C (pc := 18) (aux := 0) rfl rfl (fun v1 => ?_)
      refine ct_zrun C (k' := 16) (y := ([(2, .inl v1), (0, .inr (.inr (0, o))), (1, .inl a1)], [.inl 2, .inl a1], h)) 3 rfl rfl rfl ?_
      refine ct_zmd C (pc := 22) (aux := 0) rfl rfl (fun v2 => ?_)
      refine ct_zf0 C (pc := 23) (aux := 0) (cn := .ne) (off := 26) (k' := 31) (a := v2) Iff.rfl rfl rfl rfl (fun e6 => ?_) (fun e6 => ?_)
      · refine ct_zrun C (k' := 21) (y := ([(2, .inl v1), (0, .inr (.inr (0, o))), (1, .inl a1)], [.inl (h.1 o 3), .inl v1], h)) 3 rfl rfl rfl ?_
        refine ct_zmd C (pc := 31) (aux := 0) rfl rfl (fun v4 => ?_)
        refine ct_zrun C (k' := 26) (y := ([(2, .inl v1), (0, .inr (.inr (0, o))), (1, .inl a1)], [.inl (ct_wr ((h.1 o 3) - 1)), .inl v4], h)) 4 rfl rfl rfl ?_
        refine ct_zt C (pc := 38) (aux := 0) (cn := .ge) (off := 7) (k' := 29) (a := v4) (b := (ct_wr ((h.1 o 3) - 1))) Iff.rfl rfl rfl rfl (fun e5 => ?_) (fun e5 => ?_)
        · refine ct_zrun C (k' := 30) (y := ([(2, .inl v1), (0, .inr (.inr (0, o))), (1, .inl a1)], [.inl 0], h)) 1 rfl rfl rfl ?_
          refine ct_zgoto C (pc := 46) (aux := 0) (off := 21) (k' := 41) rfl rfl ?_
          exact ct_zret C (pc := 67) (aux := 0) (ins := .ireturn) (ρ := (fun r : Int => (some (.inl r : ct_PV), h))) (some (.inl 0)) rfl rfl rfl ⟨rfl, Or.inr ⟨rfl, Or.inl rfl⟩⟩
        · refine ct_zrun C (k' := 28) (y := ([(2, .inl v1), (0, .inr (.inr (0, o))), (1, .inl a1)], [.inl 1], h)) 1 rfl rfl rfl ?_
          refine ct_zgoto C (pc := 42) (aux := 0) (off := 25) (k' := 41) rfl rfl ?_
          exact ct_zret C (pc := 67) (aux := 0) (ins := .ireturn) (ρ := (fun r : Int => (some (.inl r : ct_PV), h))) (some (.inl 1)) rfl rfl rfl ⟨rfl, Or.inr ⟨rfl, Or.inr rfl⟩⟩
      · refine ct_zrun C (k' := 37) (y := ([(2, .inl v1), (0, .inr (.inr (0, o))), (1, .inl a1)], [.inl (h.1 o 4), .inl (ct_wr (v1 + (h.1 o 3)))], h)) 6 rfl rfl rfl ?_
        refine ct_zt C (pc := 59) (aux := 0) (cn := .ge) (off := 7) (k' := 40) (a := (ct_wr (v1 + (h.1 o 3)))) (b := (h.1 o 4)) Iff.rfl rfl rfl rfl (fun e3 => ?_) (fun e3 => ?_)
        · refine ct_zrun C (k' := 41) (y := ([(2, .inl v1), (0, .inr (.inr (0, o))), (1, .inl a1)], [.inl 0], h)) 1 rfl rfl rfl ?_
          exact ct_zret C (pc := 67) (aux := 0) (ins := .ireturn) (ρ := (fun r : Int => (some (.inl r : ct_PV), h))) (some (.inl 0)) rfl rfl rfl ⟨rfl, Or.inr ⟨rfl, Or.inl rfl⟩⟩
        · refine ct_zrun C (k' := 39) (y := ([(2, .inl v1), (0, .inr (.inr (0, o))), (1, .inl a1)], [.inl 1], h)) 1 rfl rfl rfl ?_
          refine ct_zgoto C (pc := 63) (aux := 0) (off := 4) (k' := 41) rfl rfl ?_
          exact ct_zret C (pc := 67) (aux := 0) (ins := .ireturn) (ρ := (fun r : Int => (some (.inl r : ct_PV), h))) (some (.inl 1)) rfl rfl rfl ⟨rfl, Or.inr ⟨rfl, Or.inr rfl⟩⟩
    · refine ct_zrun C (k' := 9) (y := ([(0, .inr (.inr (0, o))), (1, .inl a1)], [.inl 0], h)) 1 rfl rfl rfl ?_
      exact ct_zret C (pc := 15) (aux := 0) (ins := .ireturn) (ρ := (fun r : Int => (some (.inl r : ct_PV), h))) (some (.inl 0)) rfl rfl rfl ⟨rfl, Or.inr ⟨rfl, Or.inl rfl⟩⟩
def f_X0_isSquare (G : ct_G) (h : ct_H) (o : Nat) (a1 : Int) : Option (Int) := if a1 < 0 then (some 0) else if (ct_wr ((ct_wr ((h.1 o 1) + 1)) * (ct_wr ((h.1 o 2) + 1)))) ≤ a1 then (some 0) else some 1
set_option maxRecDepth 100000 in
theorem e_X0_isSquare {d : Nat} {G : ct_G} {h : ct_H} (o : Nat) (a1 : Int) : ct_E m_X0_isSquare d G (ct_args 0 [.inr (.inr (0, o)), .inl a1]) h (fun r : Int => (some (.inl r : ct_PV), h)) (f_X0_isSquare G h o a1) := by
  intro x C
  unfold f_X0_isSquare
  show ct_Z x m_X0_isSquare G 0 [(0, .inr (.inr (0, o))), (1, .inl a1)] [] h (fun a => ct_q x G ((fun r : Int => (some (.inl r : ct_PV), h)) a)) _
  refine ct_zrun C (k' := 1) (y := ([(0, .inr (.inr (0, o))), (1, .inl a1)], [.inl a1], h)) 1 rfl rfl rfl ?_
  refine ct_zt0 C (pc := 1) (aux := 0) (cn := .lt) (off := 24) (k' := 15) (a := a1) Iff.rfl rfl rfl rfl (fun e2 => ?_) (fun e2 => ?_)
  · refine ct_zrun C (k' := 16) (y := ([(0, .inr (.inr (0, o))), (1, .inl a1)], [.inl 0], h)) 1 rfl rfl rfl ?_
    exact ct_zret C (pc := 26) (aux := 0) (ins := .ireturn) (ρ := (fun r : Int => (some (.inl r : ct_PV), h))) (some (.inl 0)) rfl rfl rfl ⟨rfl, Or.inr ⟨rfl, Or.inl rfl⟩⟩
  · refine ct_zrun C (k' := 12) (y := ([(0, .inr (.inr (0, o))), (1, .inl a1)], [.inl (ct_wr ((ct_wr ((h.1 o 1) + 1)) * (ct_wr ((h.1 o 2) + 1)))), .inl a1], h)) 10 rfl rfl rfl ?_
    refine ct_zt C (pc := 18) (aux := 0) (cn := .ge) (off := 7) (k' := 15) (a := a1) (b := (ct_wr ((ct_wr ((h.1 o 1) + 1)) * (ct_wr ((h.1 o 2) + 1))))) Iff.rfl rfl rfl rfl (fun e1 => ?_) (fun e1 => ?_)
    · refine ct_zrun C (k' := 16) (y := ([(0, .inr (.inr (0, o))), (1, .inl a1)], [.inl 0], h)) 1 rfl rfl rfl ?_
      exact ct_zret C (pc := 26) (aux := 0) (ins := .ireturn) (ρ := (fun r : Int => (some (.inl r : ct_PV), h))) (some (.inl 0)) rfl rfl rfl ⟨rfl, Or.inr ⟨rfl, Or.inl rfl⟩⟩
    · refine ct_zrun C (k' := 14) (y := ([(0, .inr (.inr (0, o))), (1, .inl a1)], [.inl 1], h)) 1 rfl rfl rfl ?_
      refine ct_zgoto C (pc := 22) (aux := 0) (off := 4) (k' := 16) rfl rfl ?_
      exact ct_zret C (pc := 26) (aux := 0) (ins := .ireturn) (ρ := (fun r : Int => (some (.inl r : ct_PV), h))) (some (.inl 1)) rfl rfl rfl ⟨rfl, Or.inr ⟨rfl, Or.inr rfl⟩⟩
def f_X0_cornerOf (G : ct_G) (h : ct_H) (o : Nat) (a1 : Int) : Option (Int) := (ct_dv a1 (ct_wr ((h.1 o 2) + 1))).bind fun v1 => (ct_md a1 (ct_wr ((h.1 o 2) + 1))).bind fun v2 => some (ct_wr ((ct_wr ((h.1 o 3) * v1)) + v2))
set_option maxRecDepth 100000 in
theorem e_X0_cornerOf {d : Nat} {G : ct_G} {h : ct_H} (o : Nat) (a1 : Int) : ct_E m_X0_cornerOf d G (ct_args 0 [.inr (.inr (0, o)), .inl a1]) h (fun r : Int => (some (.inl r : ct_PV), h)) (f_X0_cornerOf G h o a1) := by
  intro x C
  unfold f_X0_cornerOf
  show ct_Z x m_X0_cornerOf G 0 [(0, .inr (.inr (0, o))), (1, .inl a1)] [] h (fun a => ct_q x G ((fun r : Int => (some (.inl r : ct_PV), h)) a)) _
  refine ct_zrun C (k' := 7) (y := ([(0, .inr (.inr (0, o))), (1, .inl a1)], [.inl (ct_wr ((h.1 o 2) + 1)), .inl a1, .inl (h.1 o 3)], h)) 7 rfl rfl rfl ?_
  refine ct_zdv C (pc := 11) (aux := 0) rfl rfl (fun v1 => ?_)
  refine ct_zrun C (k' := 14) (y := ([(0, .inr (.inr (0, o))), (1, .inl a1)], [.inl (ct_wr ((h.1 o 2) + 1)), .inl a1, .inl (ct_wr ((h.1 o 3) * v1))], h)) 6 rfl rfl rfl ?_
  refine ct_zmd C (pc := 20) (aux := 0) rfl rfl (fun v2 => ?_)
  refine ct_zrun C (k' := 16) (y := ([(0, .inr (.inr (0, o))), (1, .inl a1)], [.inl (ct_wr ((ct_wr ((h.1 o 3) * v1)) + v2))], h)) 1 rfl rfl rfl ?_
  exact ct_zret C (pc := 22) (aux := 0) (ins := .ireturn) (ρ := (fun r : Int => (some (.inl r : ct_PV), h))) (some (.inl (ct_wr ((ct_wr ((h.1 o 3) * v1)) + v2)))) rfl rfl rfl ⟨rfl, Or.inl rfl⟩
def f_X0_caseOf (G : ct_G) (h : ct_H) (o : Nat) (a1 : Int) (a2 : Int) : Option (Int) := (ct_rd G h (G.1 o 0) a1).bind fun v1 => ct_jn (β := Int) (fun k3 => if v1 < a2 then (k3 0) else k3 1) (fun b2 => (ct_rd G h (G.1 o 0) (ct_wr (a1 + 1))).bind fun v5 => ct_jn (β := Int) (fun k7 => if v5 < a2 then (k7 0) else k7 2) (fun b6 => (ct_rd G h (G.1 o 0) (ct_wr ((ct_wr (a1 + (h.1 o 3))) + 1))).bind fun v9 => ct_jn (β := Int) (fun k11 => if v9 < a2 then (k11 0) else k11 4) (fun b10 => (ct_rd G h (G.1 o 0) (ct_wr (a1 + (h.1 o 3)))).bind fun v13 => if v13 < a2 then (some (ct_wr ((ct_wr ((ct_wr (b2 + b6)) + b10)) + 0))) else some (ct_wr ((ct_wr ((ct_wr (b2 + b6)) + b10)) + 8)))))
set_option maxRecDepth 100000 in
theorem e_X0_caseOf {d : Nat} {G : ct_G} {h : ct_H} (o : Nat) (a1 : Int) (a2 : Int) : ct_E m_X0_caseOf d G (ct_args 0 [.inr (.inr (0, o)), .inl a1, .inl a2]) h (fun r : Int => (some (.inl r : ct_PV), h)) (f_X0_caseOf G h o a1 a2) := by
  intro x C
  unfold f_X0_caseOf
  show ct_Z x m_X0_caseOf G 0 [(0, .inr (.inr (0, o))), (1, .inl a1), (2, .inl a2)] [] h (fun a => ct_q x G ((fun r : Int => (some (.inl r : ct_PV), h)) a)) _
  refine ct_zrun C (k' := 3) (y := ([(0, .inr (.inr (0, o))), (1, .inl a1), (2, .inl a2)], [.inl a1, .inr (.inr (8, (G.1 o 0)))], h)) 3 rfl rfl rfl ?_
  refine ct_zrd C (pc := 5) (aux := 0) (ins := .iaload) (cd := 8) rfl rfl (Or.inl ⟨rfl, rfl⟩) (fun v1 => ?_)
  refine ct_zrun C (k' := 5) (y := ([(0, .inr (.inr (0, o))), (1, .inl a1), (2, .inl a2)], [.inl a2, .inl v1], h)) 1 rfl rfl rfl ?_
  refine ct_zjn (β := Int) (kJ := 9) (L := fun b2 => [(0, .inr (.inr (0, o))), (1, .inl a1), (2, .inl a2)]) (S := fun b2 => [.inl b2]) (Hh := fun b2 => h) (fun b2 => ?_) (fun k3 z4 => ?_)
  · refine ct_zrun C (k' := 14) (y := ([(0, .inr (.inr (0, o))), (1, .inl a1), (2, .inl a2)], [.inl (ct_wr (a1 + 1)), .inr (.inr (8, (G.1 o 0))), .inl b2], h)) 5 rfl rfl rfl ?_
    refine ct_zrd C (pc := 22) (aux := 0) (ins := .iaload) (cd := 8) rfl rfl (Or.inl ⟨rfl, rfl⟩) (fun v5 => ?_)
    refine ct_zrun C (k' := 16) (y := ([(0, .inr (.inr (0, o))), (1, .inl a1), (2, .inl a2)], [.inl a2, .inl v5, .inl b2], h)) 1 rfl rfl rfl ?_
    refine ct_zjn (β := Int) (kJ := 20) (L := fun b6 => [(0, .inr (.inr (0, o))), (1, .inl a1), (2, .inl a2)]) (S := fun b6 => [.inl b6, .inl b2]) (Hh := fun b6 => h) (fun b6 => ?_) (fun k7 z8 => ?_)
    · refine ct_zrun C (k' := 29) (y := ([(0, .inr (.inr (0, o))), (1, .inl a1), (2, .inl a2)], [.inl (ct_wr ((ct_wr (a1 + (h.1 o 3))) + 1)), .inr (.inr (8, (G.1 o 0))), .inl (ct_wr (b2 + b6))], h)) 9 rfl rfl rfl ?_
      refine ct_zrd C (pc := 45) (aux := 0) (ins := .iaload) (cd := 8) rfl rfl (Or.inl ⟨rfl, rfl⟩) (fun v9 => ?_)
      refine ct_zrun C (k' := 31) (y := ([(0, .inr (.inr (0, o))), (1, .inl a1), (2, .inl a2)], [.inl a2, .inl v9, .inl (ct_wr (b2 + b6))], h)) 1 rfl rfl rfl ?_
      refine ct_zjn (β := Int) (kJ := 35) (L := fun b10 => [(0, .inr (.inr (0, o))), (1, .inl a1), (2, .inl a2)]) (S := fun b10 => [.inl b10, .inl (ct_wr (b2 + b6))]) (Hh := fun b10 => h) (fun b10 => ?_) (fun k11 z12 => ?_)
      · refine ct_zrun C (k' := 42) (y := ([(0, .inr (.inr (0, o))), (1, .inl a1), (2, .inl a2)], [.inl (ct_wr (a1 + (h.1 o 3))), .inr (.inr (8, (G.1 o 0))), .inl (ct_wr ((ct_wr (b2 + b6)) + b10))], h)) 7 rfl rfl rfl ?_
        refine ct_zrd C (pc := 66) (aux := 0) (ins := .iaload) (cd := 8) rfl rfl (Or.inl ⟨rfl, rfl⟩) (fun v13 => ?_)
        refine ct_zrun C (k' := 44) (y := ([(0, .inr (.inr (0, o))), (1, .inl a1), (2, .inl a2)], [.inl a2, .inl v13, .inl (ct_wr ((ct_wr (b2 + b6)) + b10))], h)) 1 rfl rfl rfl ?_
        refine ct_zt C (pc := 68) (aux := 0) (cn := .lt) (off := 8) (k' := 47) (a := v13) (b := a2) Iff.rfl rfl rfl rfl (fun e14 => ?_) (fun e14 => ?_)
        · refine ct_zrun C (k' := 49) (y := ([(0, .inr (.inr (0, o))), (1, .inl a1), (2, .inl a2)], [.inl (ct_wr ((ct_wr ((ct_wr (b2 + b6)) + b10)) + 0))], h)) 2 rfl rfl rfl ?_
          exact ct_zret C (pc := 78) (aux := 0) (ins := .ireturn) (ρ := (fun r : Int => (some (.inl r : ct_PV), h))) (some (.inl (ct_wr ((ct_wr ((ct_wr (b2 + b6)) + b10)) + 0)))) rfl rfl rfl ⟨rfl, Or.inl rfl⟩
        · refine ct_zrun C (k' := 46) (y := ([(0, .inr (.inr (0, o))), (1, .inl a1), (2, .inl a2)], [.inl 8, .inl (ct_wr ((ct_wr (b2 + b6)) + b10))], h)) 1 rfl rfl rfl ?_
          refine ct_zgoto C (pc := 73) (aux := 0) (off := 4) (k' := 48) rfl rfl ?_
          refine ct_zrun C (k' := 49) (y := ([(0, .inr (.inr (0, o))), (1, .inl a1), (2, .inl a2)], [.inl (ct_wr ((ct_wr ((ct_wr (b2 + b6)) + b10)) + 8))], h)) 1 rfl rfl rfl ?_
          exact ct_zret C (pc := 78) (aux := 0) (ins := .ireturn) (ρ := (fun r : Int => (some (.inl r : ct_PV), h))) (some (.inl (ct_wr ((ct_wr ((ct_wr (b2 + b6)) + b10)) + 8)))) rfl rfl rfl ⟨rfl, Or.inl rfl⟩
      · refine ct_zt C (pc := 47) (aux := 0) (cn := .lt) (off := 7) (k' := 34) (a := v9) (b := a2) Iff.rfl rfl rfl rfl (fun e15 => ?_) (fun e15 => ?_)
        · refine ct_zrun C (k' := 35) (y := ([(0, .inr (.inr (0, o))), (1, .inl a1), (2, .inl a2)], [.inl 0, .inl (ct_wr (b2 + b6))], h)) 1 rfl rfl rfl ?_
          exact ct_zsub [0, 1, 2] rfl (z12 0)
        · refine ct_zrun C (k' := 33) (y := ([(0, .inr (.inr (0, o))), (1, .inl a1), (2, .inl a2)], [.inl 4, .inl (ct_wr (b2 + b6))], h)) 1 rfl rfl rfl ?_
          refine ct_zgoto C (pc := 51) (aux := 0) (off := 4) (k' := 35) rfl rfl ?_
          exact ct_zsub [0, 1, 2] rfl (z12 4)
    · refine ct_zt C (pc := 24) (aux := 0) (cn := .lt) (off := 7) (k' := 19) (a := v5) (b := a2) Iff.rfl rfl rfl rfl (fun e16 => ?_) (fun e16 => ?_)
      · refine ct_zrun C (k' := 20) (y := ([(0, .inr (.inr (0, o))), (1, .inl a1), (2, .inl a2)], [.inl 0, .inl b2], h)) 1 rfl rfl rfl ?_
        exact ct_zsub [0, 1, 2] rfl (z8 0)
      · refine ct_zrun C (k' := 18) (y := ([(0, .inr (.inr (0, o))), (1, .inl a1), (2, .inl a2)], [.inl 2, .inl b2], h)) 1 rfl rfl rfl ?_
        refine ct_zgoto C (pc := 28) (aux := 0) (off := 4) (k' := 20) rfl rfl ?_
        exact ct_zsub [0, 1, 2] rfl (z8 2)
  · refine ct_zt C (pc := 7) (aux := 0) (cn := .lt) (off := 7) (k' := 8) (a := v1) (b := a2) Iff.rfl rfl rfl rfl (fun e17 => ?_) (fun e17 => ?_)
    · refine ct_zrun C (k' := 9) (y := ([(0, .inr (.inr (0, o))), (1, .inl a1), (2, .inl a2)], [.inl 0], h)) 1 rfl rfl rfl ?_
      exact ct_zsub [0, 1, 2] rfl (z4 0)
    · refine ct_zrun C (k' := 7) (y := ([(0, .inr (.inr (0, o))), (1, .inl a1), (2, .inl a2)], [.inl 1], h)) 1 rfl rfl rfl ?_
      refine ct_zgoto C (pc := 11) (aux := 0) (off := 4) (k' := 9) rfl rfl ?_
      exact ct_zsub [0, 1, 2] rfl (z4 1)
def f_X0_isSaddle (G : ct_G) (h : ct_H) (a0 : Int) : Option (Int) := if a0 = 5 then (some 1) else if a0 = 10 then (some 1) else some 0
set_option maxRecDepth 100000 in
theorem e_X0_isSaddle {d : Nat} {G : ct_G} {h : ct_H} (a0 : Int) : ct_E m_X0_isSaddle d G (ct_args 0 [.inl a0]) h (fun r : Int => (some (.inl r : ct_PV), h)) (f_X0_isSaddle G h a0) := by
  intro x C
  unfold f_X0_isSaddle
  show ct_Z x m_X0_isSaddle G 0 [(0, .inl a0)] [] h (fun a => ct_q x G ((fun r : Int => (some (.inl r : ct_PV), h)) a)) _
  refine ct_zrun C (k' := 2) (y := ([(0, .inl a0)], [.inl 5, .inl a0], h)) 2 rfl rfl rfl ?_
  refine ct_zt C (pc := 2) (aux := 0) (cn := .eq) (off := 9) (k' := 6) (a := a0) (b := 5) Iff.rfl rfl rfl rfl (fun e2 => ?_) (fun e2 => ?_)
  · refine ct_zrun C (k' := 7) (y := ([(0, .inl a0)], [.inl 1], h)) 1 rfl rfl rfl ?_
    refine ct_zgoto C (pc := 12) (aux := 0) (off := 4) (k' := 9) rfl rfl ?_
    exact ct_zret C (pc := 16) (aux := 0) (ins := .ireturn) (ρ := (fun r : Int => (some (.inl r : ct_PV), h))) (some (.inl 1)) rfl rfl rfl ⟨rfl, Or.inr ⟨rfl, Or.inr rfl⟩⟩
  · refine ct_zrun C (k' := 5) (y := ([(0, .inl a0)], [.inl 10, .inl a0], h)) 2 rfl rfl rfl ?_
    refine ct_zf C (pc := 8) (aux := 0) (cn := .ne) (off := 7) (k' := 8) (a := a0) (b := 10) Iff.rfl rfl rfl rfl (fun e1 => ?_) (fun e1 => ?_)
    · refine ct_zrun C (k' := 7) (y := ([(0, .inl a0)], [.inl 1], h)) 1 rfl rfl rfl ?_
      refine ct_zgoto C (pc := 12) (aux := 0) (off := 4) (k' := 9) rfl rfl ?_
      exact ct_zret C (pc := 16) (aux := 0) (ins := .ireturn) (ρ := (fun r : Int => (some (.inl r : ct_PV), h))) (some (.inl 1)) rfl rfl rfl ⟨rfl, Or.inr ⟨rfl, Or.inr rfl⟩⟩
    · refine ct_zrun C (k' := 9) (y := ([(0, .inl a0)], [.inl 0], h)) 1 rfl rfl rfl ?_
      exact ct_zret C (pc := 16) (aux := 0) (ins := .ireturn) (ρ := (fun r : Int => (some (.inl r : ct_PV), h))) (some (.inl 0)) rfl rfl rfl ⟨rfl, Or.inr ⟨rfl, Or.inl rfl⟩⟩
def f_X0_isJoined (G : ct_G) (h : ct_H) (o : Nat) (a1 : Int) (a2 : Int) : Option (Int) := (ct_rd G h (G.1 o 0) a1).bind fun v1 => ct_lt (ct_wr (v1 - a2)) fun v2 => (ct_rd G h (G.1 o 0) (ct_wr (a1 + 1))).bind fun v3 => ct_lt (ct_wr (v3 - a2)) fun v4 => (ct_rd G h (G.1 o 0) (ct_wr ((ct_wr (a1 + (h.1 o 3))) + 1))).bind fun v5 => ct_lt (ct_wr (v5 - a2)) fun v6 => (ct_rd G h (G.1 o 0) (ct_wr (a1 + (h.1 o 3)))).bind fun v7 => ct_lt (ct_wr (v7 - a2)) fun v8 => if (h.1 o 5) = 1 then (some 0) else if (h.1 o 5) = 2 then (if (ct_wr ((ct_wr ((ct_wr (v2 + v4)) + v6)) + v8)) < 0 then (some 0) else some 1) else if (h.1 o 5) = 3 then ((ct_dv a1 (h.1 o 3)).bind fun v12 => (ct_md a1 (h.1 o 3)).bind fun v13 => (ct_md (ct_wr (v12 + v13)) 2).bind fun v14 => if v14 = 0 then (some 1) else some 0) else if (h.1 o 5) = 4 then (ct_lt (ct_wr (v2 * v6)) fun v17 => ct_lt (ct_wr (v4 * v8)) fun v18 => if v2 < 0 then (if v18 < v17 then (some 0) else some 1) else if v17 < v18 then (some 0) else some 1) else some 1
set_option maxRecDepth 100000 in
theorem e_X0_isJoined {d : Nat} {G : ct_G} {h : ct_H} (o : Nat) (a1 : Int) (a2 : Int) : ct_E m_X0_isJoined d G (ct_args 0 [.inr (.inr (0, o)), .inl a1, .inl a2]) h (fun r : Int => (some (.inl r : ct_PV), h)) (f_X0_isJoined G h o a1 a2) := by
  intro x C
  unfold f_X0_isJoined
  show ct_Z x m_X0_isJoined G 0 [(0, .inr (.inr (0, o))), (1, .inl a1), (2, .inl a2)] [] h (fun a => ct_q x G ((fun r : Int => (some (.inl r : ct_PV), h)) a)) _
  refine ct_zrun C (k' := 3) (y := ([(0, .inr (.inr (0, o))), (1, .inl a1), (2, .inl a2)], [.inl a1, .inr (.inr (8, (G.1 o 0)))], h)) 3 rfl rfl rfl ?_
  refine ct_zrd C (pc := 5) (aux := 0) (ins := .iaload) (cd := 8) rfl rfl (Or.inl ⟨rfl, rfl⟩) (fun v1 => ?_)
  refine ct_zrun C (k' := 7) (y := ([(3, .inl (ct_wr (v1 - a2))), (0, .inr (.inr (0, o))), (1, .inl a1), (2, .inl a2)], [], h)) 3 rfl rfl rfl ?_
  refine ct_zlet (L := fun v2 => [(3, .inl v2), (0, .inr (.inr (0, o))), (1, .inl a1), (2, .inl a2)]) (S := fun _ => []) (Hh := fun _ => h) (a := (ct_wr (v1 - a2))) (fun v2 => ?_)
  refine ct_zrun C (k' := 12) (y := ([(3, .inl v2), (0, .inr (.inr (0, o))), (1, .inl a1), (2, .inl a2)], [.inl (ct_wr (a1 + 1)), .inr (.inr (8, (G.1 o 0)))], h)) 5 rfl rfl rfl ?_
  refine ct_zrd C (pc := 16) (aux := 0) (ins := .iaload) (cd := 8) rfl rfl (Or.inl ⟨rfl, rfl⟩) (fun v3 => ?_)
  refine ct_zrun C (k' := 16) (y := ([(4, .inl (ct_wr (v3 - a2))), (3, .inl v2), (0, .inr (.inr (0, o))), (1, .inl a1), (2, .inl a2)], [], h)) 3 rfl rfl rfl ?_
  refine ct_zlet (L := fun v4 => [(4, .inl v4), (3, .inl v2), (0, .inr (.inr (0, o))), (1, .inl a1), (2, .inl a2)]) (S := fun _ => []) (Hh := fun _ => h) (a := (ct_wr (v3 - a2))) (fun v4 => ?_)
  refine ct_zrun C (k' := 24) (y := ([(4, .inl v4), (3, .inl v2), (0, .inr (.inr (0, o))), (1, .inl a1), (2, .inl a2)], [.inl (ct_wr ((ct_wr (a1 + (h.1 o 3))) + 1)), .inr (.inr (8, (G.1 o 0)))], h)) 8 rfl rfl rfl ?_
  refine ct_zrd C (pc := 33) (aux := 0) (ins := .iaload) (cd := 8) rfl rfl (Or.inl ⟨rfl, rfl⟩) (fun v5 => ?_)
  refine ct_zrun C (k' := 28) (y := ([(5, .inl (ct_wr (v5 - a2))), (4, .inl v4), (3, .inl v2), (0, .inr (.inr (0, o))), (1, .inl a1), (2, .inl a2)], [], h)) 3 rfl rfl rfl ?_
  refine ct_zlet (L := fun v6 => [(5, .inl v6), (4, .inl v4), (3, .inl v2), (0, .inr (.inr (0, o))), (1, .inl a1), (2, .inl a2)]) (S := fun _ => []) (Hh := fun _ => h) (a := (ct_wr (v5 - a2))) (fun v6 => ?_)
  refine ct_zrun C (k' := 34) (y := ([(5, .inl v6), (4, .inl v4), (3, .inl v2), (0, .inr (.inr (0, o))), (1, .inl a1), (2, .inl a2)], [.inl (ct_wr (a1 + (h.1 o 3))), .inr (.inr (8, (G.1 o 0)))], h)) 6 rfl rfl rfl ?_
  refine ct_zrd C (pc := 48) (aux := 0) (ins := .iaload) (cd := 8) rfl rfl (Or.inl ⟨rfl, rfl⟩) (fun v7 => ?_)
  refine ct_zrun C (k' := 38) (y := ([(6, .inl (ct_wr (v7 - a2))), (5, .inl v6), (4, .inl v4), (3, .inl v2), (0, .inr (.inr (0, o))), (1, .inl a1), (2, .inl a2)], [], h)) 3 rfl rfl rfl ?_
  refine ct_zlet (L := fun v8 => [(6, .inl v8), (5, .inl v6), (4, .inl v4), (3, .inl v2), (0, .inr (.inr (0, o))), (1, .inl a1), (2, .inl a2)]) (S := fun _ => []) (Hh := fun _ => h) (a := (ct_wr (v7 - a2))) (fun v8 => ?_)
  refine ct_zrun C (k' := 40) (y := ([(6, .inl v8), (5, .inl v6), (4, .inl v4), (3, .inl v2), (0, .inr (.inr (0, o))), (1, .inl a1), (2, .inl a2)], [.inl (h.1 o 5)], h)) 2 rfl rfl rfl ?_
  refine ct_zsplit (fun e9 => ?_) (fun e9 => ?_)
  · refine ct_zsw C (off := 31) (k' := 41) rfl (by rw [e9]; rfl) rfl ?_
    refine ct_zrun C (k' := 42) (y := ([(6, .inl v8), (5, .inl v6), (4, .inl v4), (3, .inl v2), (0, .inr (.inr (0, o))), (1, .inl a1), (2, .inl a2)], [.inl 0], h)) 1 rfl rfl rfl ?_
    exact ct_zret C (pc := 89) (aux := 0) (ins := .ireturn) (ρ := (fun r : Int => (some (.inl r : ct_PV), h))) (some (.inl 0)) rfl rfl rfl ⟨rfl, Or.inr ⟨rfl, Or.inl rfl⟩⟩
  · refine ct_zsplit (fun e11 => ?_) (fun e11 => ?_)
    · refine ct_zsw C (off := 33) (k' := 43) rfl (by rw [e11]; rfl) rfl ?_
      refine ct_zrun C (k' := 50) (y := ([(6, .inl v8), (5, .inl v6), (4, .inl v4), (3, .inl v2), (0, .inr (.inr (0, o))), (1, .inl a1), (2, .inl a2)], [.inl (ct_wr ((ct_wr ((ct_wr (v2 + v4)) + v6)) + v8))], h)) 7 rfl rfl rfl ?_
      refine ct_zt0 C (pc := 100) (aux := 0) (cn := .lt) (off := 7) (k' := 53) (a := (ct_wr ((ct_wr ((ct_wr (v2 + v4)) + v6)) + v8))) Iff.rfl rfl rfl rfl (fun e10 => ?_) (fun e10 => ?_)
      · refine ct_zrun C (k' := 54) (y := ([(6, .inl v8), (5, .inl v6), (4, .inl v4), (3, .inl v2), (0, .inr (.inr (0, o))), (1, .inl a1), (2, .inl a2)], [.inl 0], h)) 1 rfl rfl rfl ?_
        exact ct_zret C (pc := 108) (aux := 0) (ins := .ireturn) (ρ := (fun r : Int => (some (.inl r : ct_PV), h))) (some (.inl 0)) rfl rfl rfl ⟨rfl, Or.inr ⟨rfl, Or.inl rfl⟩⟩
      · refine ct_zrun C (k' := 52) (y := ([(6, .inl v8), (5, .inl v6), (4, .inl v4), (3, .inl v2), (0, .inr (.inr (0, o))), (1, .inl a1), (2, .inl a2)], [.inl 1], h)) 1 rfl rfl rfl ?_
        refine ct_zgoto C (pc := 104) (aux := 0) (off := 4) (k' := 54) rfl rfl ?_
        exact ct_zret C (pc := 108) (aux := 0) (ins := .ireturn) (ρ := (fun r : Int => (some (.inl r : ct_PV), h))) (some (.inl 1)) rfl rfl rfl ⟨rfl, Or.inr ⟨rfl, Or.inr rfl⟩⟩
    · refine ct_zsplit (fun e16 => ?_) (fun e16 => ?_)
      · refine ct_zsw C (off := 52) (k' := 55) rfl (by rw [e16]; rfl) rfl ?_
        refine ct_zrun C (k' := 58) (y := ([(6, .inl v8), (5, .inl v6), (4, .inl v4), (3, .inl v2), (0, .inr (.inr (0, o))), (1, .inl a1), (2, .inl a2)], [.inl (h.1 o 3), .inl a1], h)) 3 rfl rfl rfl ?_
        refine ct_zdv C (pc := 114) (aux := 0) rfl rfl (fun v12 => ?_)
        refine ct_zrun C (k' := 62) (y := ([(6, .inl v8), (5, .inl v6), (4, .inl v4), (3, .inl v2), (0, .inr (.inr (0, o))), (1, .inl a1), (2, .inl a2)], [.inl (h.1 o 3), .inl a1, .inl v12], h)) 3 rfl rfl rfl ?_
        refine ct_zmd C (pc := 120) (aux := 0) rfl rfl (fun v13 => ?_)
        refine ct_zrun C (k' := 65) (y := ([(6, .inl v8), (5, .inl v6), (4, .inl v4), (3, .inl v2), (0, .inr (.inr (0, o))), (1, .inl a1), (2, .inl a2)], [.inl 2, .inl (ct_wr (v12 + v13))], h)) 2 rfl rfl rfl ?_
        refine ct_zmd C (pc := 123) (aux := 0) rfl rfl (fun v14 => ?_)
        refine ct_zf0 C (pc := 124) (aux := 0) (cn := .ne) (off := 7) (k' := 69) (a := v14) Iff.rfl rfl rfl rfl (fun e15 => ?_) (fun e15 => ?_)
        · refine ct_zrun C (k' := 68) (y := ([(6, .inl v8), (5, .inl v6), (4, .inl v4), (3, .inl v2), (0, .inr (.inr (0, o))), (1, .inl a1), (2, .inl a2)], [.inl 1], h)) 1 rfl rfl rfl ?_
          refine ct_zgoto C (pc := 128) (aux := 0) (off := 4) (k' := 70) rfl rfl ?_
          exact ct_zret C (pc := 132) (aux := 0) (ins := .ireturn) (ρ := (fun r : Int => (some (.inl r : ct_PV), h))) (some (.inl 1)) rfl rfl rfl ⟨rfl, Or.inr ⟨rfl, Or.inr rfl⟩⟩
        · refine ct_zrun C (k' := 70) (y := ([(6, .inl v8), (5, .inl v6), (4, .inl v4), (3, .inl v2), (0, .inr (.inr (0, o))), (1, .inl a1), (2, .inl a2)], [.inl 0], h)) 1 rfl rfl rfl ?_
          exact ct_zret C (pc := 132) (aux := 0) (ins := .ireturn) (ρ := (fun r : Int => (some (.inl r : ct_PV), h))) (some (.inl 0)) rfl rfl rfl ⟨rfl, Or.inr ⟨rfl, Or.inl rfl⟩⟩
      · refine ct_zsplit (fun e22 => ?_) (fun e22 => ?_)
        · refine ct_zsw C (off := 76) (k' := 71) rfl (by rw [e22]; rfl) rfl ?_
          refine ct_zrun C (k' := 75) (y := ([(7, .inl (ct_wr (v2 * v6))), (6, .inl v8), (5, .inl v6), (4, .inl v4), (3, .inl v2), (0, .inr (.inr (0, o))), (1, .inl a1), (2, .inl a2)], [], h)) 4 rfl rfl rfl ?_
          refine ct_zlet (L := fun v17 => [(7, .inl v17), (6, .inl v8), (5, .inl v6), (4, .inl v4), (3, .inl v2), (0, .inr (.inr (0, o))), (1, .inl a1), (2, .inl a2)]) (S := fun _ => []) (Hh := fun _ => h) (a := (ct_wr (v2 * v6))) (fun v17 => ?_)
          refine ct_zrun C (k' := 79) (y := ([(8, .inl (ct_wr (v4 * v8))), (7, .inl v17), (6, .inl v8), (5, .inl v6), (4, .inl v4), (3, .inl v2), (0, .inr (.inr (0, o))), (1, .inl a1), (2, .inl a2)], [], h)) 4 rfl rfl rfl ?_
          refine ct_zlet (L := fun v18 => [(8, .inl v18), (7, .inl v17), (6, .inl v8), (5, .inl v6), (4, .inl v4), (3, .inl v2), (0, .inr (.inr (0, o))), (1, .inl a1), (2, .inl a2)]) (S := fun _ => []) (Hh := fun _ => h) (a := (ct_wr (v4 * v8))) (fun v18 => ?_)
          refine ct_zrun C (k' := 80) (y := ([(8, .inl v18), (7, .inl v17), (6, .inl v8), (5, .inl v6), (4, .inl v4), (3, .inl v2), (0, .inr (.inr (0, o))), (1, .inl a1), (2, .inl a2)], [.inl v2], h)) 1 rfl rfl rfl ?_
          refine ct_zt0 C (pc := 147) (aux := 0) (cn := .lt) (off := 18) (k' := 88) (a := v2) Iff.rfl rfl rfl rfl (fun e21 => ?_) (fun e21 => ?_)
          · refine ct_zrun C (k' := 90) (y := ([(8, .inl v18), (7, .inl v17), (6, .inl v8), (5, .inl v6), (4, .inl v4), (3, .inl v2), (0, .inr (.inr (0, o))), (1, .inl a1), (2, .inl a2)], [.inl v17, .inl v18], h)) 2 rfl rfl rfl ?_
            refine ct_zt C (pc := 169) (aux := 0) (cn := .lt) (off := 7) (k' := 93) (a := v18) (b := v17) Iff.rfl rfl rfl rfl (fun e19 => ?_) (fun e19 => ?_)
            · refine ct_zrun C (k' := 94) (y := ([(8, .inl v18), (7, .inl v17), (6, .inl v8), (5, .inl v6), (4, .inl v4), (3, .inl v2), (0, .inr (.inr (0, o))), (1, .inl a1), (2, .inl a2)], [.inl 0], h)) 1 rfl rfl rfl ?_
              exact ct_zret C (pc := 177) (aux := 0) (ins := .ireturn) (ρ := (fun r : Int => (some (.inl r : ct_PV), h))) (some (.inl 0)) rfl rfl rfl ⟨rfl, Or.inr ⟨rfl, Or.inl rfl⟩⟩
            · refine ct_zrun C (k' := 92) (y := ([(8, .inl v18), (7, .inl v17), (6, .inl v8), (5, .inl v6), (4, .inl v4), (3, .inl v2), (0, .inr (.inr (0, o))), (1, .inl a1), (2, .inl a2)], [.inl 1], h)) 1 rfl rfl rfl ?_
              refine ct_zgoto C (pc := 173) (aux := 0) (off := 4) (k' := 94) rfl rfl ?_
              exact ct_zret C (pc := 177) (aux := 0) (ins := .ireturn) (ρ := (fun r : Int => (some (.inl r : ct_PV), h))) (some (.inl 1)) rfl rfl rfl ⟨rfl, Or.inr ⟨rfl, Or.inr rfl⟩⟩
          · refine ct_zrun C (k' := 83) (y := ([(8, .inl v18), (7, .inl v17), (6, .inl v8), (5, .inl v6), (4, .inl v4), (3, .inl v2), (0, .inr (.inr (0, o))), (1, .inl a1), (2, .inl a2)], [.inl v18, .inl v17], h)) 2 rfl rfl rfl ?_
            refine ct_zt C (pc := 154) (aux := 0) (cn := .lt) (off := 7) (k' := 86) (a := v17) (b := v18) Iff.rfl rfl rfl rfl (fun e20 => ?_) (fun e20 => ?_)
            · refine ct_zrun C (k' := 87) (y := ([(8, .inl v18), (7, .inl v17), (6, .inl v8), (5, .inl v6), (4, .inl v4), (3, .inl v2), (0, .inr (.inr (0, o))), (1, .inl a1), (2, .inl a2)], [.inl 0], h)) 1 rfl rfl rfl ?_
              refine ct_zgoto C (pc := 162) (aux := 0) (off := 15) (k' := 94) rfl rfl ?_
              exact ct_zret C (pc := 177) (aux := 0) (ins := .ireturn) (ρ := (fun r : Int => (some (.inl r : ct_PV), h))) (some (.inl 0)) rfl rfl rfl ⟨rfl, Or.inr ⟨rfl, Or.inl rfl⟩⟩
            · refine ct_zrun C (k' := 85) (y := ([(8, .inl v18), (7, .inl v17), (6, .inl v8), (5, .inl v6), (4, .inl v4), (3, .inl v2), (0, .inr (.inr (0, o))), (1, .inl a1), (2, .inl a2)], [.inl 1], h)) 1 rfl rfl rfl ?_
              refine ct_zgoto C (pc := 158) (aux := 0) (off := 19) (k' := 94) rfl rfl ?_
              exact ct_zret C (pc := 177) (aux := 0) (ins := .ireturn) (ρ := (fun r : Int => (some (.inl r : ct_PV), h))) (some (.inl 1)) rfl rfl rfl ⟨rfl, Or.inr ⟨rfl, Or.inr rfl⟩⟩
        · refine ct_zsw C (off := 121) (k' := 95) rfl (by show (if _ then _ else _) = _; rw [if_pos (by omega)]) rfl ?_
          refine ct_zrun C (k' := 96) (y := ([(6, .inl v8), (5, .inl v6), (4, .inl v4), (3, .inl v2), (0, .inr (.inr (0, o))), (1, .inl a1), (2, .inl a2)], [.inl 1], h)) 1 rfl rfl rfl ?_
          exact ct_zret C (pc := 179) (aux := 0) (ins := .ireturn) (ρ := (fun r : Int => (some (.inl r : ct_PV), h))) (some (.inl 1)) rfl rfl rfl ⟨rfl, Or.inr ⟨rfl, Or.inr rfl⟩⟩
set_option maxRecDepth 100000 in
theorem lk_X0_81 : ct_LkV RX0 81 m_X0_caseOf 2 := ct_LkV_of 677 595 596 (by decide +kernel) (by decide +kernel) (by decide +kernel) (by decide +kernel)
set_option maxRecDepth 100000 in
theorem lk_X0_84 : ct_LkS RX0 84 m_X0_isSaddle 1 := ct_LkS_of 678 599 (by decide +kernel) (by decide +kernel) (by decide +kernel)
set_option maxRecDepth 100000 in
theorem lk_X0_87 : ct_LkV RX0 87 m_X0_isJoined 2 := ct_LkV_of 679 602 603 (by decide +kernel) (by decide +kernel) (by decide +kernel) (by decide +kernel)
def f_X0_isJoinedSaddle (G : ct_G) (h : ct_H) (o : Nat) (a1 : Int) (a2 : Int) : Option (Int) := (f_X0_caseOf G h o a1 a2).bind fun v1 => (f_X0_isSaddle G h v1).bind fun v2 => if v2 = 0 then (some 0) else (f_X0_isJoined G h o a1 a2).bind fun v3 => if v3 = 0 then (some 0) else some 1
set_option maxRecDepth 100000 in
theorem e_X0_isJoinedSaddle {d : Nat} {G : ct_G} {h : ct_H} (o : Nat) (a1 : Int) (a2 : Int) : ct_E m_X0_isJoinedSaddle (d + 1) G (ct_args 0 [.inr (.inr (0, o)), .inl a1, .inl a2]) h (fun r : Int => (some (.inl r : ct_PV), h)) (f_X0_isJoinedSaddle G h o a1 a2) := by
  intro x C
  unfold f_X0_isJoinedSaddle
  show ct_Z x m_X0_isJoinedSaddle G 0 [(0, .inr (.inr (0, o))), (1, .inl a1), (2, .inl a2)] [] h (fun a => ct_q x G ((fun r : Int => (some (.inl r : ct_PV), h)) a)) _
  refine ct_zrun C (k' := 3) (y := ([(0, .inr (.inr (0, o))), (1, .inl a1), (2, .inl a2)], [.inl a2, .inl a1, .inr (.inr (0, o))], h)) 3 rfl rfl rfl ?_
  refine ct_zV C (pc := 3) (aux := 0) [.inl a1, .inl a2] [] ok_X0_caseOf lk_X0_81 (e_X0_caseOf o a1 a2) rfl rfl rfl rfl rfl rfl rfl rfl (fun v1 => ?_)
  refine ct_zS C (pc := 6) (aux := 0) [.inl v1] [] ok_X0_isSaddle lk_X0_84 (e_X0_isSaddle v1) rfl rfl rfl rfl rfl rfl (fun v2 => ?_)
  refine ct_zt0 C (pc := 9) (aux := 0) (cn := .eq) (off := 16) (k' := 13) (a := v2) Iff.rfl rfl rfl rfl (fun e5 => ?_) (fun e5 => ?_)
  · refine ct_zrun C (k' := 14) (y := ([(0, .inr (.inr (0, o))), (1, .inl a1), (2, .inl a2)], [.inl 0], h)) 1 rfl rfl rfl ?_
    exact ct_zret C (pc := 26) (aux := 0) (ins := .ireturn) (ρ := (fun r : Int => (some (.inl r : ct_PV), h))) (some (.inl 0)) rfl rfl rfl ⟨rfl, Or.inr ⟨rfl, Or.inl rfl⟩⟩
  · refine ct_zrun C (k' := 9) (y := ([(0, .inr (.inr (0, o))), (1, .inl a1), (2, .inl a2)], [.inl a2, .inl a1, .inr (.inr (0, o))], h)) 3 rfl rfl rfl ?_
    refine ct_zV C (pc := 15) (aux := 0) [.inl a1, .inl a2] [] ok_X0_isJoined lk_X0_87 (e_X0_isJoined o a1 a2) rfl rfl rfl rfl rfl rfl rfl rfl (fun v3 => ?_)
    refine ct_zt0 C (pc := 18) (aux := 0) (cn := .eq) (off := 7) (k' := 13) (a := v3) Iff.rfl rfl rfl rfl (fun e4 => ?_) (fun e4 => ?_)
    · refine ct_zrun C (k' := 14) (y := ([(0, .inr (.inr (0, o))), (1, .inl a1), (2, .inl a2)], [.inl 0], h)) 1 rfl rfl rfl ?_
      exact ct_zret C (pc := 26) (aux := 0) (ins := .ireturn) (ρ := (fun r : Int => (some (.inl r : ct_PV), h))) (some (.inl 0)) rfl rfl rfl ⟨rfl, Or.inr ⟨rfl, Or.inl rfl⟩⟩
    · refine ct_zrun C (k' := 12) (y := ([(0, .inr (.inr (0, o))), (1, .inl a1), (2, .inl a2)], [.inl 1], h)) 1 rfl rfl rfl ?_
      refine ct_zgoto C (pc := 22) (aux := 0) (off := 4) (k' := 14) rfl rfl ?_
      exact ct_zret C (pc := 26) (aux := 0) (ins := .ireturn) (ρ := (fun r : Int => (some (.inl r : ct_PV), h))) (some (.inl 1)) rfl rfl rfl ⟨rfl, Or.inr ⟨rfl, Or.inr rfl⟩⟩
set_option maxRecDepth 100000 in
theorem lk_X0_91 : ct_LkV RX0 91 m_X0_cornerOf 1 := ct_LkV_of 692 693 694 (by decide +kernel) (by decide +kernel) (by decide +kernel) (by decide +kernel)
def l_X0_saddles_14 (G : ct_G) (o : Nat) (a1 : Int) (a2 : Int) (h : ct_H) (v1 : Int) : Nat → (Int × Int) → Option (Int)
  | 0, _ => none
  | n3 + 1, b2 => if v1 ≤ b2.2 then (some (b2.1)) else (f_X0_cornerOf G h o b2.2).bind fun v4 => (f_X0_caseOf G h o v4 a1).bind fun v5 => (f_X0_isSaddle G h v5).bind fun v6 => ct_jn (β := Int) (fun k8 => if v6 = 0 then (k8 (b2.1)) else ct_jn (β := Unit) (fun k11 => if a2 = 0 then (k11 ()) else (f_X0_isJoined G h o v4 a1).bind fun v13 => if v13 = 0 then (k8 (b2.1)) else k11 ()) (fun b10 => k8 (ct_wr (b2.1 + 1)))) (fun b7 => l_X0_saddles_14 G o a1 a2 h v1 n3 (b7, (ct_wr (b2.2 + 1))))
set_option maxRecDepth 100000 in
theorem zl_X0_saddles_14 {x : ct_Ctx} {d : Nat} {G : ct_G} (C : ct_c x m_X0_saddles G (d + 1)) (o : Nat) (a1 : Int) (a2 : Int) (h : ct_H) (v1 : Int) : ∀ (n3 : Nat) (b2 : Int × Int), ct_Z x m_X0_saddles G 14 [(0, .inr (.inr (0, o))), (1, .inl a1), (2, .inl a2), (3, .inl (b2.1)), (4, .inl v1), (5, .inl (b2.2))] [] h (fun a => ct_q x G ((fun r : Int => (some (.inl r : ct_PV), h)) a)) (l_X0_saddles_14 G o a1 a2 h v1 n3 b2) := by
  intro n3
  induction n3 with
  | zero => intro b2; exact ct_znone
  | succ n3 ih =>
    intro b2
    rw [l_X0_saddles_14]
    refine ct_zrun C (k' := 16) (y := ([(0, .inr (.inr (0, o))), (1, .inl a1), (2, .inl a2), (3, .inl (b2.1)), (4, .inl v1), (5, .inl (b2.2))], [.inl v1, .inl (b2.2)], h)) 2 rfl rfl rfl ?_
    refine ct_zt C (pc := 24) (aux := 0) (cn := .ge) (off := 47) (k' := 37) (a := b2.2) (b := v1) Iff.rfl rfl rfl rfl (fun e17 => ?_) (fun e17 => ?_)
    · refine ct_zrun C (k' := 38) (y := ([(0, .inr (.inr (0, o))), (1, .inl a1), (2, .inl a2), (3, .inl (b2.1)), (4, .inl v1), (5, .inl (b2.2))], [.inl (b2.1)], h)) 1 rfl rfl rfl ?_
      exact ct_zret C (pc := 72) (aux := 0) (ins := .ireturn) (ρ := (fun r : Int => (some (.inl r : ct_PV), h))) (some (.inl (b2.1))) rfl rfl rfl ⟨rfl, Or.inl rfl⟩
    · refine ct_zrun C (k' := 19) (y := ([(0, .inr (.inr (0, o))), (1, .inl a1), (2, .inl a2), (3, .inl (b2.1)), (4, .inl v1), (5, .inl (b2.2))], [.inl (b2.2), .inr (.inr (0, o))], h)) 2 rfl rfl rfl ?_
      refine ct_zV C (pc := 30) (aux := 0) [.inl (b2.2)] [] ok_X0_cornerOf lk_X0_91 (e_X0_cornerOf o (b2.2)) rfl rfl rfl rfl rfl rfl rfl rfl (fun v4 => ?_)
      refine ct_zrun C (k' := 24) (y := ([(6, .inl v4), (0, .inr (.inr (0, o))), (1, .inl a1), (2, .inl a2), (3, .inl (b2.1)), (4, .inl v1), (5, .inl (b2.2))], [.inl a1, .inl v4, .inr (.inr (0, o))], h)) 4 rfl rfl rfl ?_
      refine ct_zV C (pc := 39) (aux := 0) [.inl v4, .inl a1] [] ok_X0_caseOf lk_X0_81 (e_X0_caseOf o v4 a1) rfl rfl rfl rfl rfl rfl rfl rfl (fun v5 => ?_)
      refine ct_zS C (pc := 42) (aux := 0) [.inl v5] [] ok_X0_isSaddle lk_X0_84 (e_X0_isSaddle v5) rfl rfl rfl rfl rfl rfl (fun v6 => ?_)
      refine ct_zjn (β := Int) (kJ := 35) (L := fun b7 => [(0, .inr (.inr (0, o))), (1, .inl a1), (2, .inl a2), (3, .inl b7), (4, .inl v1), (5, .inl (b2.2))]) (S := fun b7 => []) (Hh := fun b7 => h) (fun b7 => ?_) (fun k8 z9 => ?_)
      · refine ct_zrun C (k' := 36) (y := ([(5, .inl (ct_wr (b2.2 + 1))), (0, .inr (.inr (0, o))), (1, .inl a1), (2, .inl a2), (3, .inl b7), (4, .inl v1)], [], h)) 1 rfl rfl rfl ?_
        refine ct_zgoto C (pc := 68) (aux := 0) (off := (-48)) (k' := 14) rfl rfl ?_
        exact ct_zsub [1, 2, 3, 4, 5, 0] rfl (ih (b7, (ct_wr (b2.2 + 1))))
      · refine ct_zt0 C (pc := 45) (aux := 0) (cn := .eq) (off := 20) (k' := 35) (a := v6) Iff.rfl rfl rfl rfl (fun e16 => ?_) (fun e16 => ?_)
        · exact ct_zsub [1, 2, 3, 4, 5, 6] rfl (z9 (b2.1))
        · refine ct_zrun C (k' := 28) (y := ([(6, .inl v4), (0, .inr (.inr (0, o))), (1, .inl a1), (2, .inl a2), (3, .inl (b2.1)), (4, .inl v1), (5, .inl (b2.2))], [.inl a2], h)) 1 rfl rfl rfl ?_
          refine ct_zjn (β := Unit) (kJ := 34) (L := fun b10 => [(0, .inr (.inr (0, o))), (1, .inl a1), (2, .inl a2), (3, .inl (b2.1)), (4, .inl v1), (5, .inl (b2.2))]) (S := fun b10 => []) (Hh := fun b10 => h) (fun b10 => ?_) (fun k11 z12 => ?_)
          · refine ct_zrun C (k' := 35) (y := ([(3, .inl (ct_wr (b2.1 + 1))), (0, .inr (.inr (0, o))), (1, .inl a1), (2, .inl a2), (4, .inl v1), (5, .inl (b2.2))], [], h)) 1 rfl rfl rfl ?_
            exact ct_zsub [1, 2, 3, 0, 4, 5] rfl (z9 (ct_wr (b2.1 + 1)))
          · refine ct_zt0 C (pc := 49) (aux := 0) (cn := .eq) (off := 13) (k' := 34) (a := a2) Iff.rfl rfl rfl rfl (fun e15 => ?_) (fun e15 => ?_)
            · exact ct_zsub [1, 2, 3, 4, 5, 6] rfl (z12 ())
            · refine ct_zrun C (k' := 32) (y := ([(6, .inl v4), (0, .inr (.inr (0, o))), (1, .inl a1), (2, .inl a2), (3, .inl (b2.1)), (4, .inl v1), (5, .inl (b2.2))], [.inl a1, .inl v4, .inr (.inr (0, o))], h)) 3 rfl rfl rfl ?_
              refine ct_zV C (pc := 56) (aux := 0) [.inl v4, .inl a1] [] ok_X0_isJoined lk_X0_87 (e_X0_isJoined o v4 a1) rfl rfl rfl rfl rfl rfl rfl rfl (fun v13 => ?_)
              refine ct_zt0 C (pc := 59) (aux := 0) (cn := .eq) (off := 6) (k' := 35) (a := v13) Iff.rfl rfl rfl rfl (fun e14 => ?_) (fun e14 => ?_)
              · exact ct_zsub [1, 2, 3, 4, 5, 6] rfl (z9 (b2.1))
              · exact ct_zsub [1, 2, 3, 4, 5, 6] rfl (z12 ())
def f_X0_saddles (G : ct_G) (h : ct_H) (o : Nat) (a1 : Int) (a2 : Int) : Option (Int) := ct_lt (ct_wr ((ct_wr ((h.1 o 1) + 1)) * (ct_wr ((h.1 o 2) + 1)))) fun v1 => l_X0_saddles_14 G o a1 a2 h v1 200 (0, 0)
set_option maxRecDepth 100000 in
theorem e_X0_saddles {d : Nat} {G : ct_G} {h : ct_H} (o : Nat) (a1 : Int) (a2 : Int) : ct_E m_X0_saddles (d + 1) G (ct_args 0 [.inr (.inr (0, o)), .inl a1, .inl a2]) h (fun r : Int => (some (.inl r : ct_PV), h)) (f_X0_saddles G h o a1 a2) := by
  intro x C
  unfold f_X0_saddles
  show ct_Z x m_X0_saddles G 0 [(0, .inr (.inr (0, o))), (1, .inl a1), (2, .inl a2)] [] h (fun a => ct_q x G ((fun r : Int => (some (.inl r : ct_PV), h)) a)) _
  refine ct_zrun C (k' := 12) (y := ([(4, .inl (ct_wr ((ct_wr ((h.1 o 1) + 1)) * (ct_wr ((h.1 o 2) + 1))))), (3, .inl 0), (0, .inr (.inr (0, o))), (1, .inl a1), (2, .inl a2)], [], h)) 12 rfl rfl rfl ?_
  refine ct_zlet (L := fun v1 => [(4, .inl v1), (3, .inl 0), (0, .inr (.inr (0, o))), (1, .inl a1), (2, .inl a2)]) (S := fun _ => []) (Hh := fun _ => h) (a := (ct_wr ((ct_wr ((h.1 o 1) + 1)) * (ct_wr ((h.1 o 2) + 1))))) (fun v1 => ?_)
  refine ct_zrun C (k' := 14) (y := ([(5, .inl 0), (4, .inl v1), (3, .inl 0), (0, .inr (.inr (0, o))), (1, .inl a1), (2, .inl a2)], [], h)) 2 rfl rfl rfl ?_
  exact ct_zsub [3, 4, 5, 2, 1, 0] rfl (zl_X0_saddles_14 C o a1 a2 h v1 200 (0, 0))
def l_X0_volume_7 (G : ct_G) (o : Nat) (a1 : Int) (h : ct_H) (v1 : Int) : Nat → (Int × Int) → Option (Int)
  | 0, _ => none
  | n3 + 1, b2 => if v1 ≤ b2.2 then (some (b2.1)) else (ct_dv b2.2 (h.1 o 2)).bind fun v4 => (ct_md b2.2 (h.1 o 2)).bind fun v5 => ct_jn (β := Int) (fun k7 => ct_jn (β := Unit) (fun k20 => if v4 ≤ 0 then (k20 ()) else if (ct_wr ((h.1 o 1) - 1)) ≤ v4 then (k20 ()) else k7 2) (fun b19 => k7 1)) (fun b6 => ct_jn (β := Int) (fun k10 => ct_jn (β := Unit) (fun k15 => if v5 ≤ 0 then (k15 ()) else if (ct_wr ((h.1 o 2) - 1)) ≤ v5 then (k15 ()) else k10 2) (fun b14 => k10 1)) (fun b9 => (f_X0_heightOf G h o b2.2).bind fun v12 => ct_lt (ct_wr (b2.1 + (ct_wr ((ct_wr (b6 * b9)) * (ct_max 0 (ct_wr (v12 - a1))))))) fun v13 => l_X0_volume_7 G o a1 h v1 n3 (v13, (ct_wr (b2.2 + 1)))))
set_option maxRecDepth 100000 in
theorem zl_X0_volume_7 {x : ct_Ctx} {d : Nat} {G : ct_G} (C : ct_c x m_X0_volume G (d + 2)) (o : Nat) (a1 : Int) (h : ct_H) (v1 : Int) : ∀ (n3 : Nat) (b2 : Int × Int), ct_Z x m_X0_volume G 7 [(0, .inr (.inr (0, o))), (1, .inl a1), (2, .inl (b2.1)), (3, .inl v1), (4, .inl (b2.2))] [] h (fun a => ct_q x G ((fun r : Int => (some (.inl r : ct_PV), h)) a)) (l_X0_volume_7 G o a1 h v1 n3 b2) := by
  intro n3
  induction n3 with
  | zero => intro b2; exact ct_znone
  | succ n3 ih =>
    intro b2
    rw [l_X0_volume_7]
    refine ct_zrun C (k' := 9) (y := ([(0, .inr (.inr (0, o))), (1, .inl a1), (2, .inl (b2.1)), (3, .inl v1), (4, .inl (b2.2))], [.inl v1, .inl (b2.2)], h)) 2 rfl rfl rfl ?_
    refine ct_zt C (pc := 13) (aux := 0) (cn := .ge) (off := 94) (k' := 60) (a := b2.2) (b := v1) Iff.rfl rfl rfl rfl (fun e24 => ?_) (fun e24 => ?_)
    · refine ct_zrun C (k' := 61) (y := ([(0, .inr (.inr (0, o))), (1, .inl a1), (2, .inl (b2.1)), (3, .inl v1), (4, .inl (b2.2))], [.inl (b2.1)], h)) 1 rfl rfl rfl ?_
      exact ct_zret C (pc := 108) (aux := 0) (ins := .ireturn) (ρ := (fun r : Int => (some (.inl r : ct_PV), h))) (some (.inl (b2.1))) rfl rfl rfl ⟨rfl, Or.inl rfl⟩
    · refine ct_zrun C (k' := 13) (y := ([(0, .inr (.inr (0, o))), (1, .inl a1), (2, .inl (b2.1)), (3, .inl v1), (4, .inl (b2.2))], [.inl (h.1 o 2), .inl (b2.2)], h)) 3 rfl rfl rfl ?_
      refine ct_zdv C (pc := 22) (aux := 0) rfl rfl (fun v4 => ?_)
      refine ct_zrun C (k' := 18) (y := ([(5, .inl v4), (0, .inr (.inr (0, o))), (1, .inl a1), (2, .inl (b2.1)), (3, .inl v1), (4, .inl (b2.2))], [.inl (h.1 o 2), .inl (b2.2)], h)) 4 rfl rfl rfl ?_
      refine ct_zmd C (pc := 31) (aux := 0) rfl rfl (fun v5 => ?_)
      refine ct_zrun C (k' := 21) (y := ([(6, .inl v5), (5, .inl v4), (0, .inr (.inr (0, o))), (1, .inl a1), (2, .inl (b2.1)), (3, .inl v1), (4, .inl (b2.2))], [.inl v4], h)) 2 rfl rfl rfl ?_
      refine ct_zjn (β := Int) (kJ := 31) (L := fun b6 => [(0, .inr (.inr (0, o))), (1, .inl a1), (2, .inl (b2.1)), (3, .inl v1), (4, .inl (b2.2)), (6, .inl v5)]) (S := fun b6 => [.inl b6]) (Hh := fun b6 => h) (fun b6 => ?_) (fun k7 z8 => ?_)
      · refine ct_zrun C (k' := 33) (y := ([(7, .inl b6), (0, .inr (.inr (0, o))), (1, .inl a1), (2, .inl (b2.1)), (3, .inl v1), (4, .inl (b2.2)), (6, .inl v5)], [.inl v5], h)) 2 rfl rfl rfl ?_
        refine ct_zjn (β := Int) (kJ := 43) (L := fun b9 => [(0, .inr (.inr (0, o))), (1, .inl a1), (2, .inl (b2.1)), (3, .inl v1), (4, .inl (b2.2)), (7, .inl b6)]) (S := fun b9 => [.inl b9]) (Hh := fun b9 => h) (fun b9 => ?_) (fun k10 z11 => ?_)
        · refine ct_zrun C (k' := 51) (y := ([(8, .inl b9), (0, .inr (.inr (0, o))), (1, .inl a1), (2, .inl (b2.1)), (3, .inl v1), (4, .inl (b2.2)), (7, .inl b6)], [.inl (b2.2), .inr (.inr (0, o)), .inl 0, .inl (ct_wr (b6 * b9)), .inl (b2.1)], h)) 8 rfl rfl rfl ?_
          refine ct_zV C (pc := 90) (aux := 0) [.inl (b2.2)] [.inl 0, .inl (ct_wr (b6 * b9)), .inl (b2.1)] ok_X0_heightOf lk_X0_71 (e_X0_heightOf o (b2.2)) rfl rfl rfl rfl rfl rfl rfl rfl (fun v12 => ?_)
          refine ct_zrun C (k' := 54) (y := ([(8, .inl b9), (0, .inr (.inr (0, o))), (1, .inl a1), (2, .inl (b2.1)), (3, .inl v1), (4, .inl (b2.2)), (7, .inl b6)], [.inl (ct_wr (v12 - a1)), .inl 0, .inl (ct_wr (b6 * b9)), .inl (b2.1)], h)) 2 rfl rfl rfl ?_
          refine ct_zmax C (pc := 95) (aux := 0) lk_X0_65 rfl rfl rfl ?_
          refine ct_zrun C (k' := 58) (y := ([(2, .inl (ct_wr (b2.1 + (ct_wr ((ct_wr (b6 * b9)) * (ct_max 0 (ct_wr (v12 - a1)))))))), (8, .inl b9), (0, .inr (.inr (0, o))), (1, .inl a1), (3, .inl v1), (4, .inl (b2.2)), (7, .inl b6)], [], h)) 3 rfl rfl rfl ?_
          refine ct_zlet (L := fun v13 => [(2, .inl v13), (8, .inl b9), (0, .inr (.inr (0, o))), (1, .inl a1), (3, .inl v1), (4, .inl (b2.2)), (7, .inl b6)]) (S := fun _ => []) (Hh := fun _ => h) (a := (ct_wr (b2.1 + (ct_wr ((ct_wr (b6 * b9)) * (ct_max 0 (ct_wr (v12 - a1)))))))) (fun v13 => ?_)
          refine ct_zrun C (k' := 59) (y := ([(4, .inl (ct_wr (b2.2 + 1))), (2, .inl v13), (8, .inl b9), (0, .inr (.inr (0, o))), (1, .inl a1), (3, .inl v1), (7, .inl b6)], [], h)) 1 rfl rfl rfl ?_
          refine ct_zgoto C (pc := 104) (aux := 0) (off := (-94)) (k' := 7) rfl rfl ?_
          exact ct_zsub [3, 4, 1, 5, 0] rfl (ih (v13, (ct_wr (b2.2 + 1))))
        · refine ct_zjn (β := Unit) (kJ := 42) (L := fun b14 => [(0, .inr (.inr (0, o))), (1, .inl a1), (2, .inl (b2.1)), (3, .inl v1), (4, .inl (b2.2)), (7, .inl b6)]) (S := fun b14 => []) (Hh := fun b14 => h) (fun b14 => ?_) (fun k15 z16 => ?_)
          · refine ct_zrun C (k' := 43) (y := ([(0, .inr (.inr (0, o))), (1, .inl a1), (2, .inl (b2.1)), (3, .inl v1), (4, .inl (b2.2)), (7, .inl b6)], [.inl 1], h)) 1 rfl rfl rfl ?_
            exact ct_zsub [0, 1, 2, 3, 4, 5] rfl (z11 1)
          · refine ct_zt0 C (pc := 59) (aux := 0) (cn := .le) (off := 18) (k' := 42) (a := v5) Iff.rfl rfl rfl rfl (fun e18 => ?_) (fun e18 => ?_)
            · exact ct_zsub [1, 2, 3, 4, 5, 0] rfl (z16 ())
            · refine ct_zrun C (k' := 39) (y := ([(7, .inl b6), (0, .inr (.inr (0, o))), (1, .inl a1), (2, .inl (b2.1)), (3, .inl v1), (4, .inl (b2.2)), (6, .inl v5)], [.inl (ct_wr ((h.1 o 2) - 1)), .inl v5], h)) 5 rfl rfl rfl ?_
              refine ct_zt C (pc := 70) (aux := 0) (cn := .ge) (off := 7) (k' := 42) (a := v5) (b := (ct_wr ((h.1 o 2) - 1))) Iff.rfl rfl rfl rfl (fun e17 => ?_) (fun e17 => ?_)
              · exact ct_zsub [1, 2, 3, 4, 5, 0] rfl (z16 ())
              · refine ct_zrun C (k' := 41) (y := ([(7, .inl b6), (0, .inr (.inr (0, o))), (1, .inl a1), (2, .inl (b2.1)), (3, .inl v1), (4, .inl (b2.2)), (6, .inl v5)], [.inl 2], h)) 1 rfl rfl rfl ?_
                refine ct_zgoto C (pc := 74) (aux := 0) (off := 4) (k' := 43) rfl rfl ?_
                exact ct_zsub [1, 2, 3, 4, 5, 0] rfl (z11 2)
      · refine ct_zjn (β := Unit) (kJ := 30) (L := fun b19 => [(0, .inr (.inr (0, o))), (1, .inl a1), (2, .inl (b2.1)), (3, .inl v1), (4, .inl (b2.2)), (6, .inl v5)]) (S := fun b19 => []) (Hh := fun b19 => h) (fun b19 => ?_) (fun k20 z21 => ?_)
        · refine ct_zrun C (k' := 31) (y := ([(0, .inr (.inr (0, o))), (1, .inl a1), (2, .inl (b2.1)), (3, .inl v1), (4, .inl (b2.2)), (6, .inl v5)], [.inl 1], h)) 1 rfl rfl rfl ?_
          exact ct_zsub [0, 1, 2, 3, 4, 5] rfl (z8 1)
        · refine ct_zt0 C (pc := 36) (aux := 0) (cn := .le) (off := 18) (k' := 30) (a := v4) Iff.rfl rfl rfl rfl (fun e23 => ?_) (fun e23 => ?_)
          · exact ct_zsub [2, 3, 4, 5, 6, 0] rfl (z21 ())
          · refine ct_zrun C (k' := 27) (y := ([(6, .inl v5), (5, .inl v4), (0, .inr (.inr (0, o))), (1, .inl a1), (2, .inl (b2.1)), (3, .inl v1), (4, .inl (b2.2))], [.inl (ct_wr ((h.1 o 1) - 1)), .inl v4], h)) 5 rfl rfl rfl ?_
            refine ct_zt C (pc := 47) (aux := 0) (cn := .ge) (off := 7) (k' := 30) (a := v4) (b := (ct_wr ((h.1 o 1) - 1))) Iff.rfl rfl rfl rfl (fun e22 => ?_) (fun e22 => ?_)
            · exact ct_zsub [2, 3, 4, 5, 6, 0] rfl (z21 ())
            · refine ct_zrun C (k' := 29) (y := ([(6, .inl v5), (5, .inl v4), (0, .inr (.inr (0, o))), (1, .inl a1), (2, .inl (b2.1)), (3, .inl v1), (4, .inl (b2.2))], [.inl 2], h)) 1 rfl rfl rfl ?_
              refine ct_zgoto C (pc := 51) (aux := 0) (off := 4) (k' := 31) rfl rfl ?_
              exact ct_zsub [2, 3, 4, 5, 6, 0] rfl (z8 2)
def f_X0_volume (G : ct_G) (h : ct_H) (o : Nat) (a1 : Int) : Option (Int) := (f_X0_points G h o).bind fun v1 => l_X0_volume_7 G o a1 h v1 200 (0, 0)
set_option maxRecDepth 100000 in
theorem e_X0_volume {d : Nat} {G : ct_G} {h : ct_H} (o : Nat) (a1 : Int) : ct_E m_X0_volume (d + 2) G (ct_args 0 [.inr (.inr (0, o)), .inl a1]) h (fun r : Int => (some (.inl r : ct_PV), h)) (f_X0_volume G h o a1) := by
  intro x C
  unfold f_X0_volume
  show ct_Z x m_X0_volume G 0 [(0, .inr (.inr (0, o))), (1, .inl a1)] [] h (fun a => ct_q x G ((fun r : Int => (some (.inl r : ct_PV), h)) a)) _
  refine ct_zrun C (k' := 3) (y := ([(2, .inl 0), (0, .inr (.inr (0, o))), (1, .inl a1)], [.inr (.inr (0, o))], h)) 3 rfl rfl rfl ?_
  refine ct_zV C (pc := 3) (aux := 0) [] [] ok_X0_points lk_X0_44 (e_X0_points o) rfl rfl rfl rfl rfl rfl rfl rfl (fun v1 => ?_)
  refine ct_zrun C (k' := 7) (y := ([(4, .inl 0), (3, .inl v1), (2, .inl 0), (0, .inr (.inr (0, o))), (1, .inl a1)], [], h)) 3 rfl rfl rfl ?_
  exact ct_zsub [3, 4, 2, 1, 0] rfl (zl_X0_volume_7 C o a1 h v1 200 (0, 0))
def l_X0_isLikeBelow_12 (G : ct_G) (o : Nat) (a1 : Int) (h : ct_H) : Nat → Int → Option (Int)
  | 0, _ => none
  | n2 + 1, b1 => if (h.1 o 4) ≤ b1 then (some 1) else (ct_rd G h (G.1 o 0) b1).bind fun v3 => if v3 = (ct_wr (a1 - 1)) then (some 0) else l_X0_isLikeBelow_12 G o a1 h n2 (ct_wr (b1 + 1))
set_option maxRecDepth 100000 in
theorem zl_X0_isLikeBelow_12 {x : ct_Ctx} {d : Nat} {G : ct_G} (C : ct_c x m_X0_isLikeBelow G d) (o : Nat) (a1 : Int) (h : ct_H) : ∀ (n2 : Nat) (b1 : Int), ct_Z x m_X0_isLikeBelow G 12 [(0, .inr (.inr (0, o))), (1, .inl a1), (2, .inl b1)] [] h (fun a => ct_q x G ((fun r : Int => (some (.inl r : ct_PV), h)) a)) (l_X0_isLikeBelow_12 G o a1 h n2 b1) := by
  intro n2
  induction n2 with
  | zero => intro b1; exact ct_znone
  | succ n2 ih =>
    intro b1
    rw [l_X0_isLikeBelow_12]
    refine ct_zrun C (k' := 15) (y := ([(0, .inr (.inr (0, o))), (1, .inl a1), (2, .inl b1)], [.inl (h.1 o 4), .inl b1], h)) 3 rfl rfl rfl ?_
    refine ct_zt C (pc := 25) (aux := 0) (cn := .ge) (off := 23) (k' := 28) (a := b1) (b := (h.1 o 4)) Iff.rfl rfl rfl rfl (fun e5 => ?_) (fun e5 => ?_)
    · refine ct_zrun C (k' := 29) (y := ([(0, .inr (.inr (0, o))), (1, .inl a1), (2, .inl b1)], [.inl 1], h)) 1 rfl rfl rfl ?_
      exact ct_zret C (pc := 49) (aux := 0) (ins := .ireturn) (ρ := (fun r : Int => (some (.inl r : ct_PV), h))) (some (.inl 1)) rfl rfl rfl ⟨rfl, Or.inr ⟨rfl, Or.inr rfl⟩⟩
    · refine ct_zrun C (k' := 19) (y := ([(0, .inr (.inr (0, o))), (1, .inl a1), (2, .inl b1)], [.inl b1, .inr (.inr (8, (G.1 o 0)))], h)) 3 rfl rfl rfl ?_
      refine ct_zrd C (pc := 33) (aux := 0) (ins := .iaload) (cd := 8) rfl rfl (Or.inl ⟨rfl, rfl⟩) (fun v3 => ?_)
      refine ct_zrun C (k' := 23) (y := ([(0, .inr (.inr (0, o))), (1, .inl a1), (2, .inl b1)], [.inl (ct_wr (a1 - 1)), .inl v3], h)) 3 rfl rfl rfl ?_
      refine ct_zf C (pc := 37) (aux := 0) (cn := .ne) (off := 5) (k' := 26) (a := v3) (b := (ct_wr (a1 - 1))) Iff.rfl rfl rfl rfl (fun e4 => ?_) (fun e4 => ?_)
      · refine ct_zrun C (k' := 25) (y := ([(0, .inr (.inr (0, o))), (1, .inl a1), (2, .inl b1)], [.inl 0], h)) 1 rfl rfl rfl ?_
        exact ct_zret C (pc := 41) (aux := 0) (ins := .ireturn) (ρ := (fun r : Int => (some (.inl r : ct_PV), h))) (some (.inl 0)) rfl rfl rfl ⟨rfl, Or.inr ⟨rfl, Or.inl rfl⟩⟩
      · refine ct_zrun C (k' := 27) (y := ([(2, .inl (ct_wr (b1 + 1))), (0, .inr (.inr (0, o))), (1, .inl a1)], [], h)) 1 rfl rfl rfl ?_
        refine ct_zgoto C (pc := 45) (aux := 0) (off := (-25)) (k' := 12) rfl rfl ?_
        exact ct_zsub [1, 2, 0] rfl (ih (ct_wr (b1 + 1)))
def f_X0_isLikeBelow (G : ct_G) (h : ct_H) (o : Nat) (a1 : Int) : Option (Int) := if (h.1 o 5) = 2 then (some 0) else if (h.1 o 5) = 4 then (some 0) else l_X0_isLikeBelow_12 G o a1 h 200 0
set_option maxRecDepth 100000 in
theorem e_X0_isLikeBelow {d : Nat} {G : ct_G} {h : ct_H} (o : Nat) (a1 : Int) : ct_E m_X0_isLikeBelow d G (ct_args 0 [.inr (.inr (0, o)), .inl a1]) h (fun r : Int => (some (.inl r : ct_PV), h)) (f_X0_isLikeBelow G h o a1) := by
  intro x C
  unfold f_X0_isLikeBelow
  show ct_Z x m_X0_isLikeBelow G 0 [(0, .inr (.inr (0, o))), (1, .inl a1)] [] h (fun a => ct_q x G ((fun r : Int => (some (.inl r : ct_PV), h)) a)) _
  refine ct_zrun C (k' := 3) (y := ([(0, .inr (.inr (0, o))), (1, .inl a1)], [.inl 2, .inl (h.1 o 5)], h)) 3 rfl rfl rfl ?_
  refine ct_zt C (pc := 5) (aux := 0) (cn := .eq) (off := 11) (k' := 8) (a := (h.1 o 5)) (b := 2) Iff.rfl rfl rfl rfl (fun e7 => ?_) (fun e7 => ?_)
  · refine ct_zrun C (k' := 9) (y := ([(0, .inr (.inr (0, o))), (1, .inl a1)], [.inl 0], h)) 1 rfl rfl rfl ?_
    exact ct_zret C (pc := 17) (aux := 0) (ins := .ireturn) (ρ := (fun r : Int => (some (.inl r : ct_PV), h))) (some (.inl 0)) rfl rfl rfl ⟨rfl, Or.inr ⟨rfl, Or.inl rfl⟩⟩
  · refine ct_zrun C (k' := 7) (y := ([(0, .inr (.inr (0, o))), (1, .inl a1)], [.inl 4, .inl (h.1 o 5)], h)) 3 rfl rfl rfl ?_
    refine ct_zf C (pc := 13) (aux := 0) (cn := .ne) (off := 5) (k' := 10) (a := (h.1 o 5)) (b := 4) Iff.rfl rfl rfl rfl (fun e6 => ?_) (fun e6 => ?_)
    · refine ct_zrun C (k' := 9) (y := ([(0, .inr (.inr (0, o))), (1, .inl a1)], [.inl 0], h)) 1 rfl rfl rfl ?_
      exact ct_zret C (pc := 17) (aux := 0) (ins := .ireturn) (ρ := (fun r : Int => (some (.inl r : ct_PV), h))) (some (.inl 0)) rfl rfl rfl ⟨rfl, Or.inr ⟨rfl, Or.inl rfl⟩⟩
    · refine ct_zrun C (k' := 12) (y := ([(2, .inl 0), (0, .inr (.inr (0, o))), (1, .inl a1)], [], h)) 2 rfl rfl rfl ?_
      exact ct_zsub [1, 2, 0] rfl (zl_X0_isLikeBelow_12 C o a1 h 200 0)
end
