set_option maxRecDepth 100000 in
theorem lk_X7_100 : ct_LkS RX7 100 m_X7_in 3 := ct_LkS_of 1124 1125 (by decide +kernel) (by decide +kernel) (by decide +kernel)
set_option maxRecDepth 100000 in
theorem lk_X7_104 : ct_LkV RX7 104 m_X7_points 0 := ct_LkV_of 1135 1137 5 (by decide +kernel) (by decide +kernel) (by decide +kernel) (by decide +kernel)
set_option maxRecDepth 100000 in
theorem lk_X7_108 : ct_LkV RX7 108 m_X7_isPoint 1 := ct_LkV_of 1131 1133 4 (by decide +kernel) (by decide +kernel) (by decide +kernel) (by decide +kernel)
theorem lk_X7_115 : Cond.methodLink RX7 115 Lib.Math.abs.name ∈ ct_GW := ct_GW_of 1203 (by decide +kernel) (by decide +kernel)
theorem lk_X7_121 : Cond.methodLink RX7 121 Lib.Math.max.name ∈ ct_GW := ct_GW_of 1204 (by decide +kernel) (by decide +kernel)
set_option maxRecDepth 100000 in
theorem lk_X7_153 : ct_LkV RX7 153 m_X7_isAt 1 := ct_LkV_of 1173 1175 9 (by decide +kernel) (by decide +kernel) (by decide +kernel) (by decide +kernel)
set_option maxRecDepth 100000 in
theorem lk_X7_163 : ct_LkV RX7 163 m_X7_isDigit 0 := ct_LkV_of 1185 1187 11 (by decide +kernel) (by decide +kernel) (by decide +kernel) (by decide +kernel)
set_option maxRecDepth 100000 in
theorem lk_X7_179 : ct_LkV RX7 179 m_X7_size 2 := ct_LkV_of 1193 1121 1122 (by decide +kernel) (by decide +kernel) (by decide +kernel) (by decide +kernel)
set_option maxRecDepth 100000 in
theorem lk_X7_181 : ct_LkV RX7 181 m_X7_height 2 := ct_LkV_of 1194 1128 1129 (by decide +kernel) (by decide +kernel) (by decide +kernel) (by decide +kernel)
set_option maxRecDepth 100000 in
theorem lk_X7_184 : ct_LkV RX7 184 m_X7_fill 3 := ct_LkV_of 1195 1197 13 (by decide +kernel) (by decide +kernel) (by decide +kernel) (by decide +kernel)
set_option maxRecDepth 100000 in
theorem lk_X7_187 : ct_LkV RX7 187 m_X7_hill 3 := ct_LkV_of 1199 1201 14 (by decide +kernel) (by decide +kernel) (by decide +kernel) (by decide +kernel)
set_option maxRecDepth 100000 in
theorem lk_X7_189 : ct_LkV RX7 189 m_X7_rule 1 := ct_LkV_of 1205 1140 1141 (by decide +kernel) (by decide +kernel) (by decide +kernel) (by decide +kernel)
set_option maxRecDepth 100000 in
theorem lk_X7_191 : ct_LkV RX7 191 m_X7_turn 0 := ct_LkV_of 1206 1208 15 (by decide +kernel) (by decide +kernel) (by decide +kernel) (by decide +kernel)
set_option maxRecDepth 100000 in
theorem lk_X7_199 : ct_LkV RX7 199 m_X7_row 1 := ct_LkV_of 1258 1260 26 (by decide +kernel) (by decide +kernel) (by decide +kernel) (by decide +kernel)
set_option maxRecDepth 100000 in
theorem lk_X7_202 : ct_LkV RX7 202 m_X7_column 1 := ct_LkV_of 1254 1256 25 (by decide +kernel) (by decide +kernel) (by decide +kernel) (by decide +kernel)
set_option maxRecDepth 100000 in
theorem lk_X7_205 : ct_LkV RX7 205 m_X7_places 0 := ct_LkV_of 1250 1252 24 (by decide +kernel) (by decide +kernel) (by decide +kernel) (by decide +kernel)
set_option maxRecDepth 100000 in
theorem lk_X7_208 : ct_LkV RX7 208 m_X7_cornerOf 1 := ct_LkV_of 1286 1288 33 (by decide +kernel) (by decide +kernel) (by decide +kernel) (by decide +kernel)
set_option maxRecDepth 100000 in
theorem lk_X7_211 : ct_LkV RX7 211 m_X7_cornerAt 2 := ct_LkV_of 1294 1296 35 (by decide +kernel) (by decide +kernel) (by decide +kernel) (by decide +kernel)
set_option maxRecDepth 100000 in
theorem lk_X7_214 : ct_LkV RX7 214 m_X7_heightAt 1 := ct_LkV_of 1262 1264 27 (by decide +kernel) (by decide +kernel) (by decide +kernel) (by decide +kernel)
set_option maxRecDepth 100000 in
theorem lk_X7_217 : ct_LkV RX7 217 m_X7_caseOf 2 := ct_LkV_of 1290 1292 34 (by decide +kernel) (by decide +kernel) (by decide +kernel) (by decide +kernel)
set_option maxRecDepth 100000 in
theorem lk_X7_220 : ct_LkS RX7 220 m_X7_isSaddle 1 := ct_LkS_of 1298 1299 (by decide +kernel) (by decide +kernel) (by decide +kernel)
set_option maxRecDepth 100000 in
theorem lk_X7_223 : ct_LkV RX7 223 m_X7_isBack 2 := ct_LkV_of 1278 1280 31 (by decide +kernel) (by decide +kernel) (by decide +kernel) (by decide +kernel)
set_option maxRecDepth 100000 in
theorem lk_X7_227 : ct_LkV RX7 227 m_X7_leadsTo 2 := ct_LkV_of 1274 1276 30 (by decide +kernel) (by decide +kernel) (by decide +kernel) (by decide +kernel)
set_option maxRecDepth 100000 in
theorem lk_X7_230 : ct_LkV RX7 230 m_X7_edgeAt 2 := ct_LkV_of 1282 1284 32 (by decide +kernel) (by decide +kernel) (by decide +kernel) (by decide +kernel)
set_option maxRecDepth 100000 in
theorem lk_X7_233 : ct_LkV RX7 233 m_X7_isJoined 2 := ct_LkV_of 1301 1303 36 (by decide +kernel) (by decide +kernel) (by decide +kernel) (by decide +kernel)
set_option maxRecDepth 100000 in
theorem lk_X7_236 : ct_LkV RX7 236 m_X7_isEdge 1 := ct_LkV_of 1246 1248 23 (by decide +kernel) (by decide +kernel) (by decide +kernel) (by decide +kernel)
set_option maxRecDepth 100000 in
theorem lk_X7_239 : ct_LkV RX7 239 m_X7_otherOf 1 := ct_LkV_of 1266 1268 28 (by decide +kernel) (by decide +kernel) (by decide +kernel) (by decide +kernel)
set_option maxRecDepth 100000 in
theorem lk_X7_248 : ct_LkV RX7 248 m_X7_behind 2 := ct_LkV_of 1270 1272 29 (by decide +kernel) (by decide +kernel) (by decide +kernel) (by decide +kernel)
set_option maxRecDepth 100000 in
theorem lk_X7_251 : ct_LkV RX7 251 m_X7_crossings 2 := ct_LkV_of 1349 1351 46 (by decide +kernel) (by decide +kernel) (by decide +kernel) (by decide +kernel)
set_option maxRecDepth 100000 in
theorem lk_X7_254 : ct_LkV RX7 254 m_X7_isHeld 2 := ct_LkV_of 1345 1347 45 (by decide +kernel) (by decide +kernel) (by decide +kernel) (by decide +kernel)
set_option maxRecDepth 100000 in
theorem lk_X7_257 : ct_LkV RX7 257 m_X7_isHeldLine 2 := ct_LkV_of 1341 1343 44 (by decide +kernel) (by decide +kernel) (by decide +kernel) (by decide +kernel)
set_option maxRecDepth 100000 in
theorem lk_X7_260 : ct_LkV RX7 260 m_X7_depthOf 1 := ct_LkV_of 1337 1339 43 (by decide +kernel) (by decide +kernel) (by decide +kernel) (by decide +kernel)
set_option maxRecDepth 100000 in
theorem lk_X7_263 : ct_LkV RX7 263 m_X7_across 1 := ct_LkV_of 1397 1399 55 (by decide +kernel) (by decide +kernel) (by decide +kernel) (by decide +kernel)
set_option maxRecDepth 100000 in
theorem lk_X7_266 : ct_LkV RX7 266 m_X7_down 1 := ct_LkV_of 1401 1403 56 (by decide +kernel) (by decide +kernel) (by decide +kernel) (by decide +kernel)
set_option maxRecDepth 100000 in
theorem lk_X7_269 : ct_LkV RX7 269 m_X7_placeOf 1 := ct_LkV_of 1409 1411 58 (by decide +kernel) (by decide +kernel) (by decide +kernel) (by decide +kernel)
set_option maxRecDepth 100000 in
theorem lk_X7_272 : ct_LkV RX7 272 m_X7_isOuter 1 := ct_LkV_of 1333 1335 42 (by decide +kernel) (by decide +kernel) (by decide +kernel) (by decide +kernel)
set_option maxRecDepth 100000 in
theorem lk_X7_284 : ct_LkV RX7 284 m_X7_visit 3 := ct_LkV_of 1316 1318 38 (by decide +kernel) (by decide +kernel) (by decide +kernel) (by decide +kernel)
theorem lk_X7_278 : Cond.methodLink RX7 278 Lib.Math.min.name ∈ ct_GW := ct_GW_of 1324 (by decide +kernel) (by decide +kernel)
set_option maxRecDepth 100000 in
theorem lk_X7_281 : ct_LkV RX7 281 m_X7_squareOf 2 := ct_LkV_of 1325 1327 40 (by decide +kernel) (by decide +kernel) (by decide +kernel) (by decide +kernel)
set_option maxRecDepth 100000 in
theorem lk_X7_291 : ct_LkV RX7 291 m_X7_spreads 3 := ct_LkV_of 1320 1322 39 (by decide +kernel) (by decide +kernel) (by decide +kernel) (by decide +kernel)
set_option maxRecDepth 100000 in
theorem lk_X7_294 : ct_LkV RX7 294 m_X7_landAt 1 := ct_LkV_of 1461 1463 65 (by decide +kernel) (by decide +kernel) (by decide +kernel) (by decide +kernel)
set_option maxRecDepth 100000 in
theorem lk_X7_297 : ct_LkV RX7 297 m_X7_isAtLand 2 := ct_LkV_of 1457 1459 64 (by decide +kernel) (by decide +kernel) (by decide +kernel) (by decide +kernel)
set_option maxRecDepth 100000 in
theorem lk_X7_300 : ct_LkV RX7 300 m_X7_above 2 := ct_LkV_of 1230 1232 19 (by decide +kernel) (by decide +kernel) (by decide +kernel) (by decide +kernel)
set_option maxRecDepth 100000 in
theorem lk_X7_303 : ct_LkV RX7 303 m_X7_volume 1 := ct_LkV_of 1226 1228 18 (by decide +kernel) (by decide +kernel) (by decide +kernel) (by decide +kernel)
set_option maxRecDepth 100000 in
theorem lk_X7_306 : ct_LkV RX7 306 m_X7_layLines 1 := ct_LkV_of 1242 1244 22 (by decide +kernel) (by decide +kernel) (by decide +kernel) (by decide +kernel)
set_option maxRecDepth 100000 in
theorem lk_X7_310 : ct_LkV RX7 310 m_X7_linesAt 1 := ct_LkV_of 1238 1240 21 (by decide +kernel) (by decide +kernel) (by decide +kernel) (by decide +kernel)
set_option maxRecDepth 100000 in
theorem lk_X7_313 : ct_LkV RX7 313 m_X7_top 0 := ct_LkV_of 1218 1220 16 (by decide +kernel) (by decide +kernel) (by decide +kernel) (by decide +kernel)
set_option maxRecDepth 100000 in
theorem lk_X7_316 : ct_LkV RX7 316 m_X7_half 0 := ct_LkV_of 1222 1224 17 (by decide +kernel) (by decide +kernel) (by decide +kernel) (by decide +kernel)
set_option maxRecDepth 100000 in
theorem lk_X7_319 : ct_LkV RX7 319 m_X7_busy 0 := ct_LkV_of 1234 1236 20 (by decide +kernel) (by decide +kernel) (by decide +kernel) (by decide +kernel)
set_option maxRecDepth 100000 in
theorem lk_X7_322 : ct_LkV RX7 322 m_X7_squares 0 := ct_LkV_of 1361 1363 49 (by decide +kernel) (by decide +kernel) (by decide +kernel) (by decide +kernel)
set_option maxRecDepth 100000 in
theorem lk_X7_325 : ct_LkS RX7 325 m_X7_isLevel 1 := ct_LkS_of 1309 1310 (by decide +kernel) (by decide +kernel) (by decide +kernel)
set_option maxRecDepth 100000 in
theorem lk_X7_328 : ct_LkV RX7 328 m_X7_layLands 1 := ct_LkV_of 1312 1314 37 (by decide +kernel) (by decide +kernel) (by decide +kernel) (by decide +kernel)
set_option maxRecDepth 100000 in
theorem lk_X7_331 : ct_LkV RX7 331 m_X7_outers 0 := ct_LkV_of 1329 1331 41 (by decide +kernel) (by decide +kernel) (by decide +kernel) (by decide +kernel)
set_option maxRecDepth 100000 in
theorem lk_X7_334 : ct_LkV RX7 334 m_X7_pointsIn 1 := ct_LkV_of 1353 1355 47 (by decide +kernel) (by decide +kernel) (by decide +kernel) (by decide +kernel)
set_option maxRecDepth 100000 in
theorem lk_X7_337 : ct_LkV RX7 337 m_X7_saddles 2 := ct_LkV_of 1357 1359 48 (by decide +kernel) (by decide +kernel) (by decide +kernel) (by decide +kernel)
set_option maxRecDepth 100000 in
theorem lk_X7_341 : ct_LkV RX7 341 m_X7_deepest 0 := ct_LkV_of 1365 1367 50 (by decide +kernel) (by decide +kernel) (by decide +kernel) (by decide +kernel)
set_option maxRecDepth 100000 in
theorem lk_X7_344 : ct_LkV RX7 344 m_X7_asked 2 := ct_LkV_of 1381 1383 51 (by decide +kernel) (by decide +kernel) (by decide +kernel) (by decide +kernel)
set_option maxRecDepth 100000 in
theorem lk_X7_347 : ct_LkV RX7 347 m_X7_lengthOf 1 := ct_LkV_of 1385 1387 52 (by decide +kernel) (by decide +kernel) (by decide +kernel) (by decide +kernel)
set_option maxRecDepth 100000 in
theorem lk_X7_350 : ct_LkV RX7 350 m_X7_parentOf 1 := ct_LkV_of 1389 1391 53 (by decide +kernel) (by decide +kernel) (by decide +kernel) (by decide +kernel)
set_option maxRecDepth 100000 in
theorem lk_X7_353 : ct_LkV RX7 353 m_X7_areaOf 1 := ct_LkV_of 1393 1395 54 (by decide +kernel) (by decide +kernel) (by decide +kernel) (by decide +kernel)
set_option maxRecDepth 100000 in
theorem lk_X7_356 : ct_LkV RX7 356 m_X7_heldOf 1 := ct_LkV_of 1405 1407 57 (by decide +kernel) (by decide +kernel) (by decide +kernel) (by decide +kernel)
set_option maxRecDepth 100000 in
theorem lk_X7_359 : ct_LkV RX7 359 m_X7_signOf 2 := ct_LkV_of 1425 1427 59 (by decide +kernel) (by decide +kernel) (by decide +kernel) (by decide +kernel)
set_option maxRecDepth 100000 in
theorem lk_X7_371 : ct_LkV RX7 371 m_X7_holesOf 1 := ct_LkV_of 1453 1455 63 (by decide +kernel) (by decide +kernel) (by decide +kernel) (by decide +kernel)
set_option maxRecDepth 100000 in
theorem lk_X7_368 : ct_LkV RX7 368 m_X7_topOf 1 := ct_LkV_of 1449 1451 62 (by decide +kernel) (by decide +kernel) (by decide +kernel) (by decide +kernel)
set_option maxRecDepth 100000 in
theorem lk_X7_365 : ct_LkV RX7 365 m_X7_sizeOf 1 := ct_LkV_of 1445 1447 61 (by decide +kernel) (by decide +kernel) (by decide +kernel) (by decide +kernel)
set_option maxRecDepth 100000 in
theorem lk_X7_362 : ct_LkV RX7 362 m_X7_leastOf 1 := ct_LkV_of 1441 1443 60 (by decide +kernel) (by decide +kernel) (by decide +kernel) (by decide +kernel)
set_option maxRecDepth 100000 in
theorem lk_X7_374 : ct_LkV RX7 374 m_X7_isWithHigher 1 := ct_LkV_of 1473 1475 66 (by decide +kernel) (by decide +kernel) (by decide +kernel) (by decide +kernel)
set_option maxRecDepth 100000 in
theorem lk_X7_377 : ct_LkV RX7 377 m_X7_leavesOf 1 := ct_LkV_of 1481 1483 67 (by decide +kernel) (by decide +kernel) (by decide +kernel) (by decide +kernel)
set_option maxRecDepth 100000 in
theorem lk_X7_380 : ct_LkV RX7 380 m_X7_forksOf 1 := ct_LkV_of 1485 1487 68 (by decide +kernel) (by decide +kernel) (by decide +kernel) (by decide +kernel)
theorem lk_X7_383 : Cond.methodLink RX7 383 arraycopyName ∈ ct_GW := ct_GW_of 1489 (by decide +kernel) (by decide +kernel)
set_option maxRecDepth 100000 in
theorem lk_X7_392 : ct_LkV RX7 392 m_X7_isSo 1 := ct_LkV_of 1502 1504 69 (by decide +kernel) (by decide +kernel) (by decide +kernel) (by decide +kernel)
set_option maxRecDepth 100000 in
theorem lk_X7_395 : ct_LkS RX7 395 m_X7_common 2 := ct_LkS_of 1514 1515 (by decide +kernel) (by decide +kernel) (by decide +kernel)
theorem lc_X7_398 : Cond.constantLong RX7 398 (-9223372036854775808) ∈ ct_GW := ct_GW_of 1510 (by decide +kernel) (by decide +kernel)
set_option maxRecDepth 100000 in
theorem lk_X7_400 : ct_LkS RX7 400 m_X7_lowest 3 := ct_LkS_of 1511 1512 (by decide +kernel) (by decide +kernel) (by decide +kernel)
set_option maxRecDepth 100000 in
theorem lk_X7_407 : ct_LkS RX7 407 m_X7_isNumber 2 := ct_LkS_of 1525 1526 (by decide +kernel) (by decide +kernel) (by decide +kernel)
set_option maxRecDepth 100000 in
theorem lk_X7_410 : ct_LkV RX7 410 m_X7_happens 2 := ct_LkV_of 1532 1534 70 (by decide +kernel) (by decide +kernel) (by decide +kernel) (by decide +kernel)
set_option maxRecDepth 100000 in
theorem lk_X7_417 : ct_LkS RX7 417 m_X7_isTape 1 := ct_LkS_of 1548 1549 (by decide +kernel) (by decide +kernel) (by decide +kernel)
set_option maxRecDepth 100000 in
theorem lk_X7_424 : ct_LkV RX7 424 m_X7_rowsOf 1 := ct_LkV_of 1555 1557 71 (by decide +kernel) (by decide +kernel) (by decide +kernel) (by decide +kernel)
set_option maxRecDepth 100000 in
theorem lk_X7_428 : ct_LkV RX7 428 m_X7_together 0 := ct_LkV_of 1559 1561 72 (by decide +kernel) (by decide +kernel) (by decide +kernel) (by decide +kernel)
set_option maxRecDepth 100000 in
theorem lk_X7_431 : ct_LkS RX7 431 m_X7_asItem 2 := ct_LkS_of 1579 1580 (by decide +kernel) (by decide +kernel) (by decide +kernel)
set_option maxRecDepth 100000 in
theorem lk_X7_435 : ct_LkV RX7 435 m_X7_isWithin 3 := ct_LkV_of 1590 1592 73 (by decide +kernel) (by decide +kernel) (by decide +kernel) (by decide +kernel)
def f_X7_in (G : ct_G) (h : ct_H) (a0 : Int) (a1 : Int) (a2 : Int) : Option (Int) := if a0 < a1 then (some 0) else if a2 < a0 then (some 0) else some 1
set_option maxRecDepth 100000 in
theorem e_X7_in {d : Nat} {G : ct_G} {h : ct_H} (a0 : Int) (a1 : Int) (a2 : Int) : ct_E m_X7_in d G (ct_args 0 [.inl a0, .inl a1, .inl a2]) h (fun r : Int => (some (.inl r : ct_PV), h)) (f_X7_in G h a0 a1 a2) := by
  intro x C
  unfold f_X7_in
  show ct_Z x m_X7_in G 0 [(0, .inl a0), (1, .inl a1), (2, .inl a2)] [] h (fun a => ct_q x G ((fun r : Int => (some (.inl r : ct_PV), h)) a)) _
  refine ct_zrun C (k' := 2) (y := ([(0, .inl a0), (1, .inl a1), (2, .inl a2)], [.inl a1, .inl a0], h)) 2 rfl rfl rfl ?_
  refine ct_zt C (pc := 2) (aux := 0) (cn := .lt) (off := 12) (k' := 8) (a := a0) (b := a1) Iff.rfl rfl rfl rfl (fun e2 => ?_) (fun e2 => ?_)
  · refine ct_zrun C (k' := 9) (y := ([(0, .inl a0), (1, .inl a1), (2, .inl a2)], [.inl 0], h)) 1 rfl rfl rfl ?_
    exact ct_zret C (pc := 15) (aux := 0) (ins := .ireturn) (ρ := (fun r : Int => (some (.inl r : ct_PV), h))) (some (.inl 0)) rfl rfl rfl ⟨rfl, Or.inr ⟨rfl, Or.inl rfl⟩⟩
  · refine ct_zrun C (k' := 5) (y := ([(0, .inl a0), (1, .inl a1), (2, .inl a2)], [.inl a2, .inl a0], h)) 2 rfl rfl rfl ?_
    refine ct_zt C (pc := 7) (aux := 0) (cn := .gt) (off := 7) (k' := 8) (a := a0) (b := a2) Iff.rfl rfl rfl rfl (fun e1 => ?_) (fun e1 => ?_)
    · refine ct_zrun C (k' := 9) (y := ([(0, .inl a0), (1, .inl a1), (2, .inl a2)], [.inl 0], h)) 1 rfl rfl rfl ?_
      exact ct_zret C (pc := 15) (aux := 0) (ins := .ireturn) (ρ := (fun r : Int => (some (.inl r : ct_PV), h))) (some (.inl 0)) rfl rfl rfl ⟨rfl, Or.inr ⟨rfl, Or.inl rfl⟩⟩
    · refine ct_zrun C (k' := 7) (y := ([(0, .inl a0), (1, .inl a1), (2, .inl a2)], [.inl 1], h)) 1 rfl rfl rfl ?_
      refine ct_zgoto C (pc := 11) (aux := 0) (off := 4) (k' := 9) rfl rfl ?_
      exact ct_zret C (pc := 15) (aux := 0) (ins := .ireturn) (ρ := (fun r : Int => (some (.inl r : ct_PV), h))) (some (.inl 1)) rfl rfl rfl ⟨rfl, Or.inr ⟨rfl, Or.inr rfl⟩⟩
def f_X7_isLevel (G : ct_G) (h : ct_H) (a0 : Int) : Option (Int) := (f_X7_in G h a0 0 99).bind fun v1 => (ct_bz v1).bind fun _ => some v1
set_option maxRecDepth 100000 in
theorem e_X7_isLevel {d : Nat} {G : ct_G} {h : ct_H} (a0 : Int) : ct_E m_X7_isLevel (d + 1) G (ct_args 0 [.inl a0]) h (fun r : Int => (some (.inl r : ct_PV), h)) (f_X7_isLevel G h a0) := by
  intro x C
  unfold f_X7_isLevel
  show ct_Z x m_X7_isLevel G 0 [(0, .inl a0)] [] h (fun a => ct_q x G ((fun r : Int => (some (.inl r : ct_PV), h)) a)) _
  refine ct_zrun C (k' := 3) (y := ([(0, .inl a0)], [.inl 99, .inl 0, .inl a0], h)) 3 rfl rfl rfl ?_
  refine ct_zS C (pc := 4) (aux := 0) [.inl a0, .inl 0, .inl 99] [] ok_X7_in lk_X7_100 (e_X7_in a0 0 99) rfl rfl rfl rfl rfl rfl (fun v1 => ?_)
  refine ct_zbz (F := fun _ => some v1) (fun z2 => ?_)
  exact ct_zret C (pc := 7) (aux := 0) (ins := .ireturn) (ρ := (fun r : Int => (some (.inl r : ct_PV), h))) (some (.inl v1)) rfl rfl rfl ⟨rfl, Or.inr ⟨rfl, z2⟩⟩
def f_X7_points (G : ct_G) (h : ct_H) (o : Nat) : Option (Int) := some (ct_wr ((h.1 o 0) * (h.1 o 1)))
set_option maxRecDepth 100000 in
theorem e_X7_points {d : Nat} {G : ct_G} {h : ct_H} (o : Nat) : ct_E m_X7_points d G (ct_args 0 [.inr (.inr (7, o))]) h (fun r : Int => (some (.inl r : ct_PV), h)) (f_X7_points G h o) := by
  intro x C
  unfold f_X7_points
  show ct_Z x m_X7_points G 0 [(0, .inr (.inr (7, o)))] [] h (fun a => ct_q x G ((fun r : Int => (some (.inl r : ct_PV), h)) a)) _
  refine ct_zrun C (k' := 5) (y := ([(0, .inr (.inr (7, o)))], [.inl (ct_wr ((h.1 o 0) * (h.1 o 1)))], h)) 5 rfl rfl rfl ?_
  exact ct_zret C (pc := 9) (aux := 0) (ins := .ireturn) (ρ := (fun r : Int => (some (.inl r : ct_PV), h))) (some (.inl (ct_wr ((h.1 o 0) * (h.1 o 1))))) rfl rfl rfl ⟨rfl, Or.inl rfl⟩
def f_X7_isPoint (G : ct_G) (h : ct_H) (o : Nat) (a1 : Int) : Option (Int) := (f_X7_points G h o).bind fun v1 => (f_X7_in G h a1 0 (ct_wr (v1 - 1))).bind fun v2 => (ct_bz v2).bind fun _ => some v2
set_option maxRecDepth 100000 in
theorem e_X7_isPoint {d : Nat} {G : ct_G} {h : ct_H} (o : Nat) (a1 : Int) : ct_E m_X7_isPoint (d + 1) G (ct_args 0 [.inr (.inr (7, o)), .inl a1]) h (fun r : Int => (some (.inl r : ct_PV), h)) (f_X7_isPoint G h o a1) := by
  intro x C
  unfold f_X7_isPoint
  show ct_Z x m_X7_isPoint G 0 [(0, .inr (.inr (7, o))), (1, .inl a1)] [] h (fun a => ct_q x G ((fun r : Int => (some (.inl r : ct_PV), h)) a)) _
  refine ct_zrun C (k' := 3) (y := ([(0, .inr (.inr (7, o))), (1, .inl a1)], [.inr (.inr (7, o)), .inl 0, .inl a1], h)) 3 rfl rfl rfl ?_
  refine ct_zV C (pc := 3) (aux := 0) [] [.inl 0, .inl a1] ok_X7_points lk_X7_104 (e_X7_points o) rfl rfl rfl rfl rfl rfl rfl rfl (fun v1 => ?_)
  refine ct_zrun C (k' := 6) (y := ([(0, .inr (.inr (7, o))), (1, .inl a1)], [.inl (ct_wr (v1 - 1)), .inl 0, .inl a1], h)) 2 rfl rfl rfl ?_
  refine ct_zS C (pc := 8) (aux := 0) [.inl a1, .inl 0, .inl (ct_wr (v1 - 1))] [] ok_X7_in lk_X7_100 (e_X7_in a1 0 (ct_wr (v1 - 1))) rfl rfl rfl rfl rfl rfl (fun v2 => ?_)
  refine ct_zbz (F := fun _ => some v2) (fun z3 => ?_)
  exact ct_zret C (pc := 11) (aux := 0) (ins := .ireturn) (ρ := (fun r : Int => (some (.inl r : ct_PV), h))) (some (.inl v2)) rfl rfl rfl ⟨rfl, Or.inr ⟨rfl, z3⟩⟩
def l_X7_size_28 (G : ct_G) (o : Nat) (v3 : Int) : Nat → (Int × ct_H) → Option (Int × ct_H)
  | 0, _ => none
  | n7 + 1, b6 => if 49 ≤ b6.1 then (some (v3, b6.2)) else (ct_wt G b6.2 (G.1 o 3) b6.1 0).bind fun h8 => l_X7_size_28 G o v3 n7 ((ct_wr (b6.1 + 1)), h8)
set_option maxRecDepth 100000 in
theorem zl_X7_size_28 {x : ct_Ctx} {d : Nat} {G : ct_G} (C : ct_c x m_X7_size G (d + 1)) (o : Nat) (v3 : Int) : ∀ (n7 : Nat) (b6 : Int × ct_H), ct_Z x m_X7_size G 28 [(0, .inr (.inr (7, o))), (3, .inl v3), (4, .inl (b6.1))] [] b6.2 (fun a => ct_q x G ((fun r : Int × ct_H => (some (.inl (r.1) : ct_PV), r.2)) a)) (l_X7_size_28 G o v3 n7 b6) := by
  intro n7
  induction n7 with
  | zero => intro b6; exact ct_znone
  | succ n7 ih =>
    intro b6
    rw [l_X7_size_28]
    refine ct_zrun C (k' := 30) (y := ([(0, .inr (.inr (7, o))), (3, .inl v3), (4, .inl (b6.1))], [.inl 49, .inl (b6.1)], b6.2)) 2 rfl rfl rfl ?_
    refine ct_zt C (pc := 53) (aux := 0) (cn := .ge) (off := 17) (k' := 38) (a := b6.1) (b := 49) Iff.rfl rfl rfl rfl (fun e9 => ?_) (fun e9 => ?_)
    · refine ct_zrun C (k' := 39) (y := ([(0, .inr (.inr (7, o))), (3, .inl v3), (4, .inl (b6.1))], [.inl v3], b6.2)) 1 rfl rfl rfl ?_
      exact ct_zret C (pc := 71) (aux := 0) (ins := .ireturn) (ρ := (fun r : Int × ct_H => (some (.inl (r.1) : ct_PV), r.2))) (some (.inl v3)) rfl rfl rfl ⟨rfl, Or.inl rfl⟩
    · refine ct_zrun C (k' := 35) (y := ([(0, .inr (.inr (7, o))), (3, .inl v3), (4, .inl (b6.1))], [.inl 0, .inl (b6.1), .inr (.inr (8, (G.1 o 3)))], b6.2)) 4 rfl rfl rfl ?_
      refine ct_zwt C (pc := 63) (aux := 0) rfl rfl (fun h8 => ?_)
      refine ct_zrun C (k' := 37) (y := ([(4, .inl (ct_wr (b6.1 + 1))), (0, .inr (.inr (7, o))), (3, .inl v3)], [], h8)) 1 rfl rfl rfl ?_
      refine ct_zgoto C (pc := 67) (aux := 0) (off := (-18)) (k' := 28) rfl rfl ?_
      exact ct_zsub [1, 2, 0] rfl (ih ((ct_wr (b6.1 + 1)), h8))
def f_X7_size (G : ct_G) (h : ct_H) (o : Nat) (a1 : Int) (a2 : Int) : Option (Int × ct_H) := (f_X7_in G h a1 2 7).bind fun v1 => if v1 = 0 then (some ((-2), h)) else (f_X7_in G h a2 2 7).bind fun v2 => if v2 = 0 then (some ((-2), h)) else ct_lt (ct_wr ((ct_wr (10 * (h.1 o 0))) + (h.1 o 1))) fun v3 => ct_lt (ct_wF h o 0 a1) fun h4 => ct_lt (ct_wF h4 o 1 a2) fun h5 => l_X7_size_28 G o v3 200 (0, h5)
set_option maxRecDepth 100000 in
theorem e_X7_size {d : Nat} {G : ct_G} {h : ct_H} (o : Nat) (a1 : Int) (a2 : Int) : ct_E m_X7_size (d + 1) G (ct_args 0 [.inr (.inr (7, o)), .inl a1, .inl a2]) h (fun r : Int × ct_H => (some (.inl (r.1) : ct_PV), r.2)) (f_X7_size G h o a1 a2) := by
  intro x C
  unfold f_X7_size
  show ct_Z x m_X7_size G 0 [(0, .inr (.inr (7, o))), (1, .inl a1), (2, .inl a2)] [] h (fun a => ct_q x G ((fun r : Int × ct_H => (some (.inl (r.1) : ct_PV), r.2)) a)) _
  refine ct_zrun C (k' := 3) (y := ([(0, .inr (.inr (7, o))), (1, .inl a1), (2, .inl a2)], [.inl 7, .inl 2, .inl a1], h)) 3 rfl rfl rfl ?_
  refine ct_zS C (pc := 4) (aux := 0) [.inl a1, .inl 2, .inl 7] [] ok_X7_in lk_X7_100 (e_X7_in a1 2 7) rfl rfl rfl rfl rfl rfl (fun v1 => ?_)
  refine ct_zt0 C (pc := 7) (aux := 0) (cn := .eq) (off := 13) (k' := 10) (a := v1) Iff.rfl rfl rfl rfl (fun e11 => ?_) (fun e11 => ?_)
  · refine ct_zrun C (k' := 11) (y := ([(0, .inr (.inr (7, o))), (1, .inl a1), (2, .inl a2)], [.inl (-2)], h)) 1 rfl rfl rfl ?_
    exact ct_zret C (pc := 22) (aux := 0) (ins := .ireturn) (ρ := (fun r : Int × ct_H => (some (.inl (r.1) : ct_PV), r.2))) (some (.inl (-2))) rfl rfl rfl ⟨rfl, Or.inl rfl⟩
  · refine ct_zrun C (k' := 8) (y := ([(0, .inr (.inr (7, o))), (1, .inl a1), (2, .inl a2)], [.inl 7, .inl 2, .inl a2], h)) 3 rfl rfl rfl ?_
    refine ct_zS C (pc := 14) (aux := 0) [.inl a2, .inl 2, .inl 7] [] ok_X7_in lk_X7_100 (e_X7_in a2 2 7) rfl rfl rfl rfl rfl rfl (fun v2 => ?_)
    refine ct_zf0 C (pc := 17) (aux := 0) (cn := .ne) (off := 6) (k' := 12) (a := v2) Iff.rfl rfl rfl rfl (fun e10 => ?_) (fun e10 => ?_)
    · refine ct_zrun C (k' := 11) (y := ([(0, .inr (.inr (7, o))), (1, .inl a1), (2, .inl a2)], [.inl (-2)], h)) 1 rfl rfl rfl ?_
      exact ct_zret C (pc := 22) (aux := 0) (ins := .ireturn) (ρ := (fun r : Int × ct_H => (some (.inl (r.1) : ct_PV), r.2))) (some (.inl (-2))) rfl rfl rfl ⟨rfl, Or.inl rfl⟩
    · refine ct_zrun C (k' := 20) (y := ([(3, .inl (ct_wr ((ct_wr (10 * (h.1 o 0))) + (h.1 o 1)))), (0, .inr (.inr (7, o))), (1, .inl a1), (2, .inl a2)], [], h)) 8 rfl rfl rfl ?_
      refine ct_zlet (L := fun v3 => [(3, .inl v3), (0, .inr (.inr (7, o))), (1, .inl a1), (2, .inl a2)]) (S := fun _ => []) (Hh := fun _ => h) (a := (ct_wr ((ct_wr (10 * (h.1 o 0))) + (h.1 o 1)))) (fun v3 => ?_)
      refine ct_zrun C (k' := 23) (y := ([(3, .inl v3), (0, .inr (.inr (7, o))), (1, .inl a1), (2, .inl a2)], [], (ct_wF h o 0 a1))) 3 rfl rfl rfl ?_
      refine ct_zlet (L := fun _ => [(3, .inl v3), (0, .inr (.inr (7, o))), (1, .inl a1), (2, .inl a2)]) (S := fun _ => []) (Hh := fun h4 => h4) (a := (ct_wF h o 0 a1)) (fun h4 => ?_)
      refine ct_zrun C (k' := 26) (y := ([(3, .inl v3), (0, .inr (.inr (7, o))), (1, .inl a1), (2, .inl a2)], [], (ct_wF h4 o 1 a2))) 3 rfl rfl rfl ?_
      refine ct_zlet (L := fun _ => [(3, .inl v3), (0, .inr (.inr (7, o))), (1, .inl a1), (2, .inl a2)]) (S := fun _ => []) (Hh := fun h5 => h5) (a := (ct_wF h4 o 1 a2)) (fun h5 => ?_)
      refine ct_zrun C (k' := 28) (y := ([(4, .inl 0), (3, .inl v3), (0, .inr (.inr (7, o))), (1, .inl a1), (2, .inl a2)], [], h5)) 2 rfl rfl rfl ?_
      exact ct_zsub [2, 1, 0] rfl (zl_X7_size_28 C o v3 200 (0, h5))
def f_X7_height (G : ct_G) (h : ct_H) (o : Nat) (a1 : Int) (a2 : Int) : Option (Int × ct_H) := (f_X7_isPoint G h o a1).bind fun v1 => if v1 = 0 then (some ((-1), h)) else (f_X7_in G h a2 0 99).bind fun v2 => if v2 = 0 then (some ((-2), h)) else (ct_rd G h (G.1 o 3) a1).bind fun v3 => (ct_wt G h (G.1 o 3) a1 a2).bind fun h4 => some (v3, h4)
set_option maxRecDepth 100000 in
theorem e_X7_height {d : Nat} {G : ct_G} {h : ct_H} (o : Nat) (a1 : Int) (a2 : Int) : ct_E m_X7_height (d + 2) G (ct_args 0 [.inr (.inr (7, o)), .inl a1, .inl a2]) h (fun r : Int × ct_H => (some (.inl (r.1) : ct_PV), r.2)) (f_X7_height G h o a1 a2) := by
  intro x C
  unfold f_X7_height
  show ct_Z x m_X7_height G 0 [(0, .inr (.inr (7, o))), (1, .inl a1), (2, .inl a2)] [] h (fun a => ct_q x G ((fun r : Int × ct_H => (some (.inl (r.1) : ct_PV), r.2)) a)) _
  refine ct_zrun C (k' := 2) (y := ([(0, .inr (.inr (7, o))), (1, .inl a1), (2, .inl a2)], [.inl a1, .inr (.inr (7, o))], h)) 2 rfl rfl rfl ?_
  refine ct_zV C (pc := 2) (aux := 0) [.inl a1] [] ok_X7_isPoint lk_X7_108 (e_X7_isPoint o a1) rfl rfl rfl rfl rfl rfl rfl rfl (fun v1 => ?_)
  refine ct_zf0 C (pc := 5) (aux := 0) (cn := .ne) (off := 5) (k' := 6) (a := v1) Iff.rfl rfl rfl rfl (fun e6 => ?_) (fun e6 => ?_)
  · refine ct_zrun C (k' := 5) (y := ([(0, .inr (.inr (7, o))), (1, .inl a1), (2, .inl a2)], [.inl (-1)], h)) 1 rfl rfl rfl ?_
    exact ct_zret C (pc := 9) (aux := 0) (ins := .ireturn) (ρ := (fun r : Int × ct_H => (some (.inl (r.1) : ct_PV), r.2))) (some (.inl (-1))) rfl rfl rfl ⟨rfl, Or.inl rfl⟩
  · refine ct_zrun C (k' := 9) (y := ([(0, .inr (.inr (7, o))), (1, .inl a1), (2, .inl a2)], [.inl 99, .inl 0, .inl a2], h)) 3 rfl rfl rfl ?_
    refine ct_zS C (pc := 14) (aux := 0) [.inl a2, .inl 0, .inl 99] [] ok_X7_in lk_X7_100 (e_X7_in a2 0 99) rfl rfl rfl rfl rfl rfl (fun v2 => ?_)
    refine ct_zf0 C (pc := 17) (aux := 0) (cn := .ne) (off := 6) (k' := 13) (a := v2) Iff.rfl rfl rfl rfl (fun e5 => ?_) (fun e5 => ?_)
    · refine ct_zrun C (k' := 12) (y := ([(0, .inr (.inr (7, o))), (1, .inl a1), (2, .inl a2)], [.inl (-2)], h)) 1 rfl rfl rfl ?_
      exact ct_zret C (pc := 22) (aux := 0) (ins := .ireturn) (ρ := (fun r : Int × ct_H => (some (.inl (r.1) : ct_PV), r.2))) (some (.inl (-2))) rfl rfl rfl ⟨rfl, Or.inl rfl⟩
    · refine ct_zrun C (k' := 16) (y := ([(0, .inr (.inr (7, o))), (1, .inl a1), (2, .inl a2)], [.inl a1, .inr (.inr (8, (G.1 o 3)))], h)) 3 rfl rfl rfl ?_
      refine ct_zrd C (pc := 28) (aux := 0) (ins := .iaload) (cd := 8) rfl rfl (Or.inl ⟨rfl, rfl⟩) (fun v3 => ?_)
      refine ct_zrun C (k' := 22) (y := ([(3, .inl v3), (0, .inr (.inr (7, o))), (1, .inl a1), (2, .inl a2)], [.inl a2, .inl a1, .inr (.inr (8, (G.1 o 3)))], h)) 5 rfl rfl rfl ?_
      refine ct_zwt C (pc := 36) (aux := 0) rfl rfl (fun h4 => ?_)
      refine ct_zrun C (k' := 24) (y := ([(3, .inl v3), (0, .inr (.inr (7, o))), (1, .inl a1), (2, .inl a2)], [.inl v3], h4)) 1 rfl rfl rfl ?_
      exact ct_zret C (pc := 38) (aux := 0) (ins := .ireturn) (ρ := (fun r : Int × ct_H => (some (.inl (r.1) : ct_PV), r.2))) (some (.inl v3)) rfl rfl rfl ⟨rfl, Or.inl rfl⟩
def f_X7_rule (G : ct_G) (h : ct_H) (o : Nat) (a1 : Int) : Option (Int × ct_H) := (f_X7_in G h a1 0 4).bind fun v1 => if v1 = 0 then (some ((-1), h)) else ct_lt (ct_wF h o 2 a1) fun h2 => some ((h.1 o 2), h2)
set_option maxRecDepth 100000 in
theorem e_X7_rule {d : Nat} {G : ct_G} {h : ct_H} (o : Nat) (a1 : Int) : ct_E m_X7_rule (d + 1) G (ct_args 0 [.inr (.inr (7, o)), .inl a1]) h (fun r : Int × ct_H => (some (.inl (r.1) : ct_PV), r.2)) (f_X7_rule G h o a1) := by
  intro x C
  unfold f_X7_rule
  show ct_Z x m_X7_rule G 0 [(0, .inr (.inr (7, o))), (1, .inl a1)] [] h (fun a => ct_q x G ((fun r : Int × ct_H => (some (.inl (r.1) : ct_PV), r.2)) a)) _
  refine ct_zrun C (k' := 3) (y := ([(0, .inr (.inr (7, o))), (1, .inl a1)], [.inl 4, .inl 0, .inl a1], h)) 3 rfl rfl rfl ?_
  refine ct_zS C (pc := 3) (aux := 0) [.inl a1, .inl 0, .inl 4] [] ok_X7_in lk_X7_100 (e_X7_in a1 0 4) rfl rfl rfl rfl rfl rfl (fun v1 => ?_)
  refine ct_zf0 C (pc := 6) (aux := 0) (cn := .ne) (off := 5) (k' := 7) (a := v1) Iff.rfl rfl rfl rfl (fun e3 => ?_) (fun e3 => ?_)
  · refine ct_zrun C (k' := 6) (y := ([(0, .inr (.inr (7, o))), (1, .inl a1)], [.inl (-1)], h)) 1 rfl rfl rfl ?_
    exact ct_zret C (pc := 10) (aux := 0) (ins := .ireturn) (ρ := (fun r : Int × ct_H => (some (.inl (r.1) : ct_PV), r.2))) (some (.inl (-1))) rfl rfl rfl ⟨rfl, Or.inl rfl⟩
  · refine ct_zrun C (k' := 13) (y := ([(2, .inl (h.1 o 2)), (0, .inr (.inr (7, o))), (1, .inl a1)], [], (ct_wF h o 2 a1))) 6 rfl rfl rfl ?_
    refine ct_zlet (L := fun _ => [(2, .inl (h.1 o 2)), (0, .inr (.inr (7, o))), (1, .inl a1)]) (S := fun _ => []) (Hh := fun h2 => h2) (a := (ct_wF h o 2 a1)) (fun h2 => ?_)
    refine ct_zrun C (k' := 14) (y := ([(2, .inl (h.1 o 2)), (0, .inr (.inr (7, o))), (1, .inl a1)], [.inl (h.1 o 2)], h2)) 1 rfl rfl rfl ?_
    exact ct_zret C (pc := 22) (aux := 0) (ins := .ireturn) (ρ := (fun r : Int × ct_H => (some (.inl (r.1) : ct_PV), r.2))) (some (.inl (h.1 o 2))) rfl rfl rfl ⟨rfl, Or.inl rfl⟩
def l_X7_fill_44 (G : ct_G) (o : Nat) (a2 : Int) (a3 : Int) (p10 : Int) (k13 : ct_H → Option (Int × ct_H)) : Nat → (Int × ct_H) → Option (Int × ct_H)
  | 0, _ => none
  | n12 + 1, b11 => (ct_md a2 (b11.2.1 o 1)).bind fun v16 => if v16 < b11.1 then (k13 (b11.2)) else (ct_wt G b11.2 (G.1 o 3) (ct_wr ((ct_wr (p10 * (b11.2.1 o 1))) + b11.1)) a3).bind fun h17 => l_X7_fill_44 G o a2 a3 p10 k13 n12 ((ct_wr (b11.1 + 1)), h17)
set_option maxRecDepth 100000 in
theorem zl_X7_fill_44 {x : ct_Ctx} {d : Nat} {G : ct_G} (C : ct_c x m_X7_fill G (d + 2)) (o : Nat) (a2 : Int) (a3 : Int) (v4 : Int) (p10 : Int) (k13 : ct_H → Option (Int × ct_H)) (z14 : ∀ b15 : ct_H, ct_Z x m_X7_fill G 62 [(0, .inr (.inr (7, o))), (2, .inl a2), (3, .inl a3), (5, .inl v4), (6, .inl p10)] [] b15 (fun a => ct_q x G ((fun r : Int × ct_H => (some (.inl (r.1) : ct_PV), r.2)) a)) (k13 b15)) : ∀ (n12 : Nat) (b11 : Int × ct_H), ct_Z x m_X7_fill G 44 [(0, .inr (.inr (7, o))), (2, .inl a2), (3, .inl a3), (5, .inl v4), (6, .inl p10), (7, .inl (b11.1))] [] b11.2 (fun a => ct_q x G ((fun r : Int × ct_H => (some (.inl (r.1) : ct_PV), r.2)) a)) (l_X7_fill_44 G o a2 a3 p10 k13 n12 b11) := by
  intro n12
  induction n12 with
  | zero => intro b11; exact ct_znone
  | succ n12 ih =>
    intro b11
    rw [l_X7_fill_44]
    refine ct_zrun C (k' := 48) (y := ([(0, .inr (.inr (7, o))), (2, .inl a2), (3, .inl a3), (5, .inl v4), (6, .inl p10), (7, .inl (b11.1))], [.inl (b11.2.1 o 1), .inl a2, .inl (b11.1)], b11.2)) 4 rfl rfl rfl ?_
    refine ct_zmd C (pc := 85) (aux := 0) rfl rfl (fun v16 => ?_)
    refine ct_zt C (pc := 86) (aux := 0) (cn := .gt) (off := 25) (k' := 62) (a := b11.1) (b := v16) Iff.rfl rfl rfl rfl (fun e18 => ?_) (fun e18 => ?_)
    · exact ct_zsub [0, 1, 2, 3, 4] rfl (z14 (b11.2))
    · refine ct_zrun C (k' := 59) (y := ([(0, .inr (.inr (7, o))), (2, .inl a2), (3, .inl a3), (5, .inl v4), (6, .inl p10), (7, .inl (b11.1))], [.inl a3, .inl (ct_wr ((ct_wr (p10 * (b11.2.1 o 1))) + b11.1)), .inr (.inr (8, (G.1 o 3)))], b11.2)) 9 rfl rfl rfl ?_
      refine ct_zwt C (pc := 104) (aux := 0) rfl rfl (fun h17 => ?_)
      refine ct_zrun C (k' := 61) (y := ([(7, .inl (ct_wr (b11.1 + 1))), (0, .inr (.inr (7, o))), (2, .inl a2), (3, .inl a3), (5, .inl v4), (6, .inl p10)], [], h17)) 1 rfl rfl rfl ?_
      refine ct_zgoto C (pc := 108) (aux := 0) (off := (-30)) (k' := 44) rfl rfl ?_
      exact ct_zsub [1, 2, 3, 4, 5, 0] rfl (ih ((ct_wr (b11.1 + 1)), h17))
def l_X7_fill_36 (G : ct_G) (o : Nat) (a2 : Int) (a3 : Int) (v4 : Int) : Nat → (Int × ct_H) → Option (Int × ct_H)
  | 0, _ => none
  | n8 + 1, b7 => (ct_dv a2 (b7.2.1 o 1)).bind fun v9 => if v9 < b7.1 then (some (1, b7.2)) else l_X7_fill_44 G o a2 a3 (b7.1) (fun b19 => l_X7_fill_36 G o a2 a3 v4 n8 ((ct_wr (b7.1 + 1)), b19)) 200 (v4, b7.2)
set_option maxRecDepth 100000 in
theorem zl_X7_fill_36 {x : ct_Ctx} {d : Nat} {G : ct_G} (C : ct_c x m_X7_fill G (d + 2)) (o : Nat) (a2 : Int) (a3 : Int) (v4 : Int) : ∀ (n8 : Nat) (b7 : Int × ct_H), ct_Z x m_X7_fill G 36 [(0, .inr (.inr (7, o))), (2, .inl a2), (3, .inl a3), (5, .inl v4), (6, .inl (b7.1))] [] b7.2 (fun a => ct_q x G ((fun r : Int × ct_H => (some (.inl (r.1) : ct_PV), r.2)) a)) (l_X7_fill_36 G o a2 a3 v4 n8 b7) := by
  intro n8
  induction n8 with
  | zero => intro b7; exact ct_znone
  | succ n8 ih =>
    intro b7
    rw [l_X7_fill_36]
    refine ct_zrun C (k' := 40) (y := ([(0, .inr (.inr (7, o))), (2, .inl a2), (3, .inl a3), (5, .inl v4), (6, .inl (b7.1))], [.inl (b7.2.1 o 1), .inl a2, .inl (b7.1)], b7.2)) 4 rfl rfl rfl ?_
    refine ct_zdv C (pc := 70) (aux := 0) rfl rfl (fun v9 => ?_)
    refine ct_zt C (pc := 71) (aux := 0) (cn := .gt) (off := 46) (k' := 64) (a := b7.1) (b := v9) Iff.rfl rfl rfl rfl (fun e20 => ?_) (fun e20 => ?_)
    · refine ct_zrun C (k' := 65) (y := ([(0, .inr (.inr (7, o))), (2, .inl a2), (3, .inl a3), (5, .inl v4), (6, .inl (b7.1))], [.inl 1], b7.2)) 1 rfl rfl rfl ?_
      exact ct_zret C (pc := 118) (aux := 0) (ins := .ireturn) (ρ := (fun r : Int × ct_H => (some (.inl (r.1) : ct_PV), r.2))) (some (.inl 1)) rfl rfl rfl ⟨rfl, Or.inl rfl⟩
    · refine ct_zrun C (k' := 44) (y := ([(7, .inl v4), (0, .inr (.inr (7, o))), (2, .inl a2), (3, .inl a3), (5, .inl v4), (6, .inl (b7.1))], [], b7.2)) 2 rfl rfl rfl ?_
      refine ct_zsub [1, 2, 3, 4, 5, 0] rfl (zl_X7_fill_44 C o a2 a3 v4 (b7.1) _ (fun b19 => ?_) 200 (v4, b7.2))
      refine ct_zrun C (k' := 63) (y := ([(6, .inl (ct_wr (b7.1 + 1))), (0, .inr (.inr (7, o))), (2, .inl a2), (3, .inl a3), (5, .inl v4)], [], b19)) 1 rfl rfl rfl ?_
      refine ct_zgoto C (pc := 114) (aux := 0) (off := (-51)) (k' := 36) rfl rfl ?_
      exact ct_zsub [1, 2, 3, 4, 0] rfl (ih ((ct_wr (b7.1 + 1)), b19))
def f_X7_fill (G : ct_G) (h : ct_H) (o : Nat) (a1 : Int) (a2 : Int) (a3 : Int) : Option (Int × ct_H) := (f_X7_isPoint G h o a1).bind fun v1 => if v1 = 0 then (some ((-1), h)) else (f_X7_isPoint G h o a2).bind fun v2 => if v2 = 0 then (some ((-1), h)) else (ct_dv a1 (h.1 o 1)).bind fun v3 => (ct_md a1 (h.1 o 1)).bind fun v4 => (ct_dv a2 (h.1 o 1)).bind fun v5 => if v5 < v3 then (some ((-2), h)) else (ct_md a2 (h.1 o 1)).bind fun v6 => if v4 ≤ v6 then (l_X7_fill_36 G o a2 a3 v4 200 (v3, h)) else some ((-2), h)
set_option maxRecDepth 100000 in
theorem e_X7_fill {d : Nat} {G : ct_G} {h : ct_H} (o : Nat) (a1 : Int) (a2 : Int) (a3 : Int) : ct_E m_X7_fill (d + 2) G (ct_args 0 [.inr (.inr (7, o)), .inl a1, .inl a2, .inl a3]) h (fun r : Int × ct_H => (some (.inl (r.1) : ct_PV), r.2)) (f_X7_fill G h o a1 a2 a3) := by
  intro x C
  unfold f_X7_fill
  show ct_Z x m_X7_fill G 0 [(0, .inr (.inr (7, o))), (1, .inl a1), (2, .inl a2), (3, .inl a3)] [] h (fun a => ct_q x G ((fun r : Int × ct_H => (some (.inl (r.1) : ct_PV), r.2)) a)) _
  refine ct_zrun C (k' := 2) (y := ([(0, .inr (.inr (7, o))), (1, .inl a1), (2, .inl a2), (3, .inl a3)], [.inl a1, .inr (.inr (7, o))], h)) 2 rfl rfl rfl ?_
  refine ct_zV C (pc := 2) (aux := 0) [.inl a1] [] ok_X7_isPoint lk_X7_108 (e_X7_isPoint o a1) rfl rfl rfl rfl rfl rfl rfl rfl (fun v1 => ?_)
  refine ct_zt0 C (pc := 5) (aux := 0) (cn := .eq) (off := 11) (k' := 8) (a := v1) Iff.rfl rfl rfl rfl (fun e24 => ?_) (fun e24 => ?_)
  · refine ct_zrun C (k' := 9) (y := ([(0, .inr (.inr (7, o))), (1, .inl a1), (2, .inl a2), (3, .inl a3)], [.inl (-1)], h)) 1 rfl rfl rfl ?_
    exact ct_zret C (pc := 17) (aux := 0) (ins := .ireturn) (ρ := (fun r : Int × ct_H => (some (.inl (r.1) : ct_PV), r.2))) (some (.inl (-1))) rfl rfl rfl ⟨rfl, Or.inl rfl⟩
  · refine ct_zrun C (k' := 6) (y := ([(0, .inr (.inr (7, o))), (1, .inl a1), (2, .inl a2), (3, .inl a3)], [.inl a2, .inr (.inr (7, o))], h)) 2 rfl rfl rfl ?_
    refine ct_zV C (pc := 10) (aux := 0) [.inl a2] [] ok_X7_isPoint lk_X7_108 (e_X7_isPoint o a2) rfl rfl rfl rfl rfl rfl rfl rfl (fun v2 => ?_)
    refine ct_zf0 C (pc := 13) (aux := 0) (cn := .ne) (off := 5) (k' := 10) (a := v2) Iff.rfl rfl rfl rfl (fun e23 => ?_) (fun e23 => ?_)
    · refine ct_zrun C (k' := 9) (y := ([(0, .inr (.inr (7, o))), (1, .inl a1), (2, .inl a2), (3, .inl a3)], [.inl (-1)], h)) 1 rfl rfl rfl ?_
      exact ct_zret C (pc := 17) (aux := 0) (ins := .ireturn) (ρ := (fun r : Int × ct_H => (some (.inl (r.1) : ct_PV), r.2))) (some (.inl (-1))) rfl rfl rfl ⟨rfl, Or.inl rfl⟩
    · refine ct_zrun C (k' := 13) (y := ([(0, .inr (.inr (7, o))), (1, .inl a1), (2, .inl a2), (3, .inl a3)], [.inl (h.1 o 1), .inl a1], h)) 3 rfl rfl rfl ?_
      refine ct_zdv C (pc := 23) (aux := 0) rfl rfl (fun v3 => ?_)
      refine ct_zrun C (k' := 18) (y := ([(4, .inl v3), (0, .inr (.inr (7, o))), (1, .inl a1), (2, .inl a2), (3, .inl a3)], [.inl (h.1 o 1), .inl a1], h)) 4 rfl rfl rfl ?_
      refine ct_zmd C (pc := 31) (aux := 0) rfl rfl (fun v4 => ?_)
      refine ct_zrun C (k' := 23) (y := ([(5, .inl v4), (4, .inl v3), (0, .inr (.inr (7, o))), (1, .inl a1), (2, .inl a2), (3, .inl a3)], [.inl (h.1 o 1), .inl a2], h)) 4 rfl rfl rfl ?_
      refine ct_zdv C (pc := 39) (aux := 0) rfl rfl (fun v5 => ?_)
      refine ct_zrun C (k' := 25) (y := ([(5, .inl v4), (4, .inl v3), (0, .inr (.inr (7, o))), (1, .inl a1), (2, .inl a2), (3, .inl a3)], [.inl v3, .inl v5], h)) 1 rfl rfl rfl ?_
      refine ct_zt C (pc := 42) (aux := 0) (cn := .lt) (off := 14) (k' := 32) (a := v5) (b := v3) Iff.rfl rfl rfl rfl (fun e22 => ?_) (fun e22 => ?_)
      · refine ct_zrun C (k' := 33) (y := ([(5, .inl v4), (4, .inl v3), (0, .inr (.inr (7, o))), (1, .inl a1), (2, .inl a2), (3, .inl a3)], [.inl (-2)], h)) 1 rfl rfl rfl ?_
        exact ct_zret C (pc := 58) (aux := 0) (ins := .ireturn) (ρ := (fun r : Int × ct_H => (some (.inl (r.1) : ct_PV), r.2))) (some (.inl (-2))) rfl rfl rfl ⟨rfl, Or.inl rfl⟩
      · refine ct_zrun C (k' := 29) (y := ([(5, .inl v4), (4, .inl v3), (0, .inr (.inr (7, o))), (1, .inl a1), (2, .inl a2), (3, .inl a3)], [.inl (h.1 o 1), .inl a2], h)) 3 rfl rfl rfl ?_
        refine ct_zmd C (pc := 50) (aux := 0) rfl rfl (fun v6 => ?_)
        refine ct_zrun C (k' := 31) (y := ([(5, .inl v4), (4, .inl v3), (0, .inr (.inr (7, o))), (1, .inl a1), (2, .inl a2), (3, .inl a3)], [.inl v4, .inl v6], h)) 1 rfl rfl rfl ?_
        refine ct_zt C (pc := 53) (aux := 0) (cn := .ge) (off := 6) (k' := 34) (a := v6) (b := v4) Iff.rfl rfl rfl rfl (fun e21 => ?_) (fun e21 => ?_)
        · refine ct_zrun C (k' := 36) (y := ([(6, .inl v3), (5, .inl v4), (4, .inl v3), (0, .inr (.inr (7, o))), (1, .inl a1), (2, .inl a2), (3, .inl a3)], [], h)) 2 rfl rfl rfl ?_
          exact ct_zsub [3, 5, 6, 1, 0] rfl (zl_X7_fill_36 C o a2 a3 v4 200 (v3, h))
        · refine ct_zrun C (k' := 33) (y := ([(5, .inl v4), (4, .inl v3), (0, .inr (.inr (7, o))), (1, .inl a1), (2, .inl a2), (3, .inl a3)], [.inl (-2)], h)) 1 rfl rfl rfl ?_
          exact ct_zret C (pc := 58) (aux := 0) (ins := .ireturn) (ρ := (fun r : Int × ct_H => (some (.inl (r.1) : ct_PV), r.2))) (some (.inl (-2))) rfl rfl rfl ⟨rfl, Or.inl rfl⟩
def l_X7_hill_8 (G : ct_G) (o : Nat) (a1 : Int) (a2 : Int) (a3 : Int) : Nat → (Int × ct_H) → Option (Int × ct_H)
  | 0, _ => none
  | n3 + 1, b2 => (f_X7_points G b2.2 o).bind fun v4 => if v4 ≤ b2.1 then (some (1, b2.2)) else (ct_dv b2.1 (b2.2.1 o 1)).bind fun v5 => (ct_dv a1 (b2.2.1 o 1)).bind fun v6 => (ct_md b2.1 (b2.2.1 o 1)).bind fun v7 => (ct_md a1 (b2.2.1 o 1)).bind fun v8 => ct_lt (ct_wr ((ct_abs (ct_wr (v5 - v6))) + (ct_abs (ct_wr (v7 - v8))))) fun v9 => (ct_rd G b2.2 (G.1 o 3) b2.1).bind fun v10 => (ct_wt G b2.2 (G.1 o 3) b2.1 (ct_max v10 (ct_wr (a2 - (ct_wr (a3 * v9)))))).bind fun h11 => l_X7_hill_8 G o a1 a2 a3 n3 ((ct_wr (b2.1 + 1)), h11)
set_option maxRecDepth 100000 in
theorem zl_X7_hill_8 {x : ct_Ctx} {d : Nat} {G : ct_G} (C : ct_c x m_X7_hill G (d + 2)) (o : Nat) (a1 : Int) (a2 : Int) (a3 : Int) : ∀ (n3 : Nat) (b2 : Int × ct_H), ct_Z x m_X7_hill G 8 [(0, .inr (.inr (7, o))), (1, .inl a1), (2, .inl a2), (3, .inl a3), (4, .inl (b2.1))] [] b2.2 (fun a => ct_q x G ((fun r : Int × ct_H => (some (.inl (r.1) : ct_PV), r.2)) a)) (l_X7_hill_8 G o a1 a2 a3 n3 b2) := by
  intro n3
  induction n3 with
  | zero => intro b2; exact ct_znone
  | succ n3 ih =>
    intro b2
    rw [l_X7_hill_8]
    refine ct_zrun C (k' := 10) (y := ([(0, .inr (.inr (7, o))), (1, .inl a1), (2, .inl a2), (3, .inl a3), (4, .inl (b2.1))], [.inr (.inr (7, o)), .inl (b2.1)], b2.2)) 2 rfl rfl rfl ?_
    refine ct_zV C (pc := 16) (aux := 0) [] [.inl (b2.1)] ok_X7_points lk_X7_104 (e_X7_points o) rfl rfl rfl rfl rfl rfl rfl rfl (fun v4 => ?_)
    refine ct_zt C (pc := 19) (aux := 0) (cn := .ge) (off := 69) (k' := 50) (a := b2.1) (b := v4) Iff.rfl rfl rfl rfl (fun e12 => ?_) (fun e12 => ?_)
    · refine ct_zrun C (k' := 51) (y := ([(0, .inr (.inr (7, o))), (1, .inl a1), (2, .inl a2), (3, .inl a3), (4, .inl (b2.1))], [.inl 1], b2.2)) 1 rfl rfl rfl ?_
      exact ct_zret C (pc := 89) (aux := 0) (ins := .ireturn) (ρ := (fun r : Int × ct_H => (some (.inl (r.1) : ct_PV), r.2))) (some (.inl 1)) rfl rfl rfl ⟨rfl, Or.inl rfl⟩
    · refine ct_zrun C (k' := 15) (y := ([(0, .inr (.inr (7, o))), (1, .inl a1), (2, .inl a2), (3, .inl a3), (4, .inl (b2.1))], [.inl (b2.2.1 o 1), .inl (b2.1)], b2.2)) 3 rfl rfl rfl ?_
      refine ct_zdv C (pc := 28) (aux := 0) rfl rfl (fun v5 => ?_)
      refine ct_zrun C (k' := 19) (y := ([(0, .inr (.inr (7, o))), (1, .inl a1), (2, .inl a2), (3, .inl a3), (4, .inl (b2.1))], [.inl (b2.2.1 o 1), .inl a1, .inl v5], b2.2)) 3 rfl rfl rfl ?_
      refine ct_zdv C (pc := 34) (aux := 0) rfl rfl (fun v6 => ?_)
      refine ct_zrun C (k' := 21) (y := ([(0, .inr (.inr (7, o))), (1, .inl a1), (2, .inl a2), (3, .inl a3), (4, .inl (b2.1))], [.inl (ct_wr (v5 - v6))], b2.2)) 1 rfl rfl rfl ?_
      refine ct_zabs C (pc := 36) (aux := 0) lk_X7_115 rfl rfl rfl ?_
      refine ct_zrun C (k' := 25) (y := ([(0, .inr (.inr (7, o))), (1, .inl a1), (2, .inl a2), (3, .inl a3), (4, .inl (b2.1))], [.inl (b2.2.1 o 1), .inl (b2.1), .inl (ct_abs (ct_wr (v5 - v6)))], b2.2)) 3 rfl rfl rfl ?_
      refine ct_zmd C (pc := 45) (aux := 0) rfl rfl (fun v7 => ?_)
      refine ct_zrun C (k' := 29) (y := ([(0, .inr (.inr (7, o))), (1, .inl a1), (2, .inl a2), (3, .inl a3), (4, .inl (b2.1))], [.inl (b2.2.1 o 1), .inl a1, .inl v7, .inl (ct_abs (ct_wr (v5 - v6)))], b2.2)) 3 rfl rfl rfl ?_
      refine ct_zmd C (pc := 51) (aux := 0) rfl rfl (fun v8 => ?_)
      refine ct_zrun C (k' := 31) (y := ([(0, .inr (.inr (7, o))), (1, .inl a1), (2, .inl a2), (3, .inl a3), (4, .inl (b2.1))], [.inl (ct_wr (v7 - v8)), .inl (ct_abs (ct_wr (v5 - v6)))], b2.2)) 1 rfl rfl rfl ?_
      refine ct_zabs C (pc := 53) (aux := 0) lk_X7_115 rfl rfl rfl ?_
      refine ct_zrun C (k' := 34) (y := ([(5, .inl (ct_wr ((ct_abs (ct_wr (v5 - v6))) + (ct_abs (ct_wr (v7 - v8)))))), (0, .inr (.inr (7, o))), (1, .inl a1), (2, .inl a2), (3, .inl a3), (4, .inl (b2.1))], [], b2.2)) 2 rfl rfl rfl ?_
      refine ct_zlet (L := fun v9 => [(5, .inl v9), (0, .inr (.inr (7, o))), (1, .inl a1), (2, .inl a2), (3, .inl a3), (4, .inl (b2.1))]) (S := fun _ => []) (Hh := fun _ => b2.2) (a := (ct_wr ((ct_abs (ct_wr (v5 - v6))) + (ct_abs (ct_wr (v7 - v8)))))) (fun v9 => ?_)
      refine ct_zrun C (k' := 40) (y := ([(5, .inl v9), (0, .inr (.inr (7, o))), (1, .inl a1), (2, .inl a2), (3, .inl a3), (4, .inl (b2.1))], [.inl (b2.1), .inr (.inr (8, (G.1 o 3))), .inl (b2.1), .inr (.inr (8, (G.1 o 3)))], b2.2)) 6 rfl rfl rfl ?_
      refine ct_zrd C (pc := 71) (aux := 0) (ins := .iaload) (cd := 8) rfl rfl (Or.inl ⟨rfl, rfl⟩) (fun v10 => ?_)
      refine ct_zrun C (k' := 46) (y := ([(5, .inl v9), (0, .inr (.inr (7, o))), (1, .inl a1), (2, .inl a2), (3, .inl a3), (4, .inl (b2.1))], [.inl (ct_wr (a2 - (ct_wr (a3 * v9)))), .inl v10, .inl (b2.1), .inr (.inr (8, (G.1 o 3)))], b2.2)) 5 rfl rfl rfl ?_
      refine ct_zmax C (pc := 78) (aux := 0) lk_X7_121 rfl rfl rfl ?_
      refine ct_zwt C (pc := 81) (aux := 0) rfl rfl (fun h11 => ?_)
      refine ct_zrun C (k' := 49) (y := ([(4, .inl (ct_wr (b2.1 + 1))), (5, .inl v9), (0, .inr (.inr (7, o))), (1, .inl a1), (2, .inl a2), (3, .inl a3)], [], h11)) 1 rfl rfl rfl ?_
      refine ct_zgoto C (pc := 85) (aux := 0) (off := (-72)) (k' := 8) rfl rfl ?_
      exact ct_zsub [2, 3, 4, 5, 0] rfl (ih ((ct_wr (b2.1 + 1)), h11))
def f_X7_hill (G : ct_G) (h : ct_H) (o : Nat) (a1 : Int) (a2 : Int) (a3 : Int) : Option (Int × ct_H) := (f_X7_isPoint G h o a1).bind fun v1 => if v1 = 0 then (some ((-1), h)) else l_X7_hill_8 G o a1 a2 a3 200 (0, h)
set_option maxRecDepth 100000 in
theorem e_X7_hill {d : Nat} {G : ct_G} {h : ct_H} (o : Nat) (a1 : Int) (a2 : Int) (a3 : Int) : ct_E m_X7_hill (d + 2) G (ct_args 0 [.inr (.inr (7, o)), .inl a1, .inl a2, .inl a3]) h (fun r : Int × ct_H => (some (.inl (r.1) : ct_PV), r.2)) (f_X7_hill G h o a1 a2 a3) := by
  intro x C
  unfold f_X7_hill
  show ct_Z x m_X7_hill G 0 [(0, .inr (.inr (7, o))), (1, .inl a1), (2, .inl a2), (3, .inl a3)] [] h (fun a => ct_q x G ((fun r : Int × ct_H => (some (.inl (r.1) : ct_PV), r.2)) a)) _
  refine ct_zrun C (k' := 2) (y := ([(0, .inr (.inr (7, o))), (1, .inl a1), (2, .inl a2), (3, .inl a3)], [.inl a1, .inr (.inr (7, o))], h)) 2 rfl rfl rfl ?_
  refine ct_zV C (pc := 2) (aux := 0) [.inl a1] [] ok_X7_isPoint lk_X7_108 (e_X7_isPoint o a1) rfl rfl rfl rfl rfl rfl rfl rfl (fun v1 => ?_)
  refine ct_zf0 C (pc := 5) (aux := 0) (cn := .ne) (off := 5) (k' := 6) (a := v1) Iff.rfl rfl rfl rfl (fun e13 => ?_) (fun e13 => ?_)
  · refine ct_zrun C (k' := 5) (y := ([(0, .inr (.inr (7, o))), (1, .inl a1), (2, .inl a2), (3, .inl a3)], [.inl (-1)], h)) 1 rfl rfl rfl ?_
    exact ct_zret C (pc := 9) (aux := 0) (ins := .ireturn) (ρ := (fun r : Int × ct_H => (some (.inl (r.1) : ct_PV), r.2))) (some (.inl (-1))) rfl rfl rfl ⟨rfl, Or.inl rfl⟩
  · refine ct_zrun C (k' := 8) (y := ([(4, .inl 0), (0, .inr (.inr (7, o))), (1, .inl a1), (2, .inl a2), (3, .inl a3)], [], h)) 2 rfl rfl rfl ?_
    exact ct_zsub [1, 2, 3, 4, 0] rfl (zl_X7_hill_8 C o a1 a2 a3 200 (0, h))
def l_X7_turn_2 (G : ct_G) (o : Nat) : Nat → (Int × ct_H) → Option (Int × ct_H)
  | 0, _ => none
  | n2 + 1, b1 => (f_X7_points G b1.2 o).bind fun v3 => if v3 ≤ b1.1 then (some (1, b1.2)) else (ct_rd G b1.2 (G.1 o 3) b1.1).bind fun v4 => (ct_wt G b1.2 (G.1 o 3) b1.1 (ct_wr (99 - v4))).bind fun h5 => l_X7_turn_2 G o n2 ((ct_wr (b1.1 + 1)), h5)
set_option maxRecDepth 100000 in
theorem zl_X7_turn_2 {x : ct_Ctx} {d : Nat} {G : ct_G} (C : ct_c x m_X7_turn G (d + 1)) (o : Nat) : ∀ (n2 : Nat) (b1 : Int × ct_H), ct_Z x m_X7_turn G 2 [(0, .inr (.inr (7, o))), (1, .inl (b1.1))] [] b1.2 (fun a => ct_q x G ((fun r : Int × ct_H => (some (.inl (r.1) : ct_PV), r.2)) a)) (l_X7_turn_2 G o n2 b1) := by
  intro n2
  induction n2 with
  | zero => intro b1; exact ct_znone
  | succ n2 ih =>
    intro b1
    rw [l_X7_turn_2]
    refine ct_zrun C (k' := 4) (y := ([(0, .inr (.inr (7, o))), (1, .inl (b1.1))], [.inr (.inr (7, o)), .inl (b1.1)], b1.2)) 2 rfl rfl rfl ?_
    refine ct_zV C (pc := 4) (aux := 0) [] [.inl (b1.1)] ok_X7_points lk_X7_104 (e_X7_points o) rfl rfl rfl rfl rfl rfl rfl rfl (fun v3 => ?_)
    refine ct_zt C (pc := 7) (aux := 0) (cn := .ge) (off := 24) (k' := 18) (a := b1.1) (b := v3) Iff.rfl rfl rfl rfl (fun e6 => ?_) (fun e6 => ?_)
    · refine ct_zrun C (k' := 19) (y := ([(0, .inr (.inr (7, o))), (1, .inl (b1.1))], [.inl 1], b1.2)) 1 rfl rfl rfl ?_
      exact ct_zret C (pc := 32) (aux := 0) (ins := .ireturn) (ρ := (fun r : Int × ct_H => (some (.inl (r.1) : ct_PV), r.2))) (some (.inl 1)) rfl rfl rfl ⟨rfl, Or.inl rfl⟩
    · refine ct_zrun C (k' := 13) (y := ([(0, .inr (.inr (7, o))), (1, .inl (b1.1))], [.inl (b1.1), .inr (.inr (8, (G.1 o 3))), .inl 99, .inl (b1.1), .inr (.inr (8, (G.1 o 3)))], b1.2)) 7 rfl rfl rfl ?_
      refine ct_zrd C (pc := 22) (aux := 0) (ins := .iaload) (cd := 8) rfl rfl (Or.inl ⟨rfl, rfl⟩) (fun v4 => ?_)
      refine ct_zrun C (k' := 15) (y := ([(0, .inr (.inr (7, o))), (1, .inl (b1.1))], [.inl (ct_wr (99 - v4)), .inl (b1.1), .inr (.inr (8, (G.1 o 3)))], b1.2)) 1 rfl rfl rfl ?_
      refine ct_zwt C (pc := 24) (aux := 0) rfl rfl (fun h5 => ?_)
      refine ct_zrun C (k' := 17) (y := ([(1, .inl (ct_wr (b1.1 + 1))), (0, .inr (.inr (7, o)))], [], h5)) 1 rfl rfl rfl ?_
      refine ct_zgoto C (pc := 28) (aux := 0) (off := (-26)) (k' := 2) rfl rfl ?_
      exact ct_zsub [1, 0] rfl (ih ((ct_wr (b1.1 + 1)), h5))
def f_X7_turn (G : ct_G) (h : ct_H) (o : Nat) : Option (Int × ct_H) := l_X7_turn_2 G o 200 (0, h)
set_option maxRecDepth 100000 in
theorem e_X7_turn {d : Nat} {G : ct_G} {h : ct_H} (o : Nat) : ct_E m_X7_turn (d + 1) G (ct_args 0 [.inr (.inr (7, o))]) h (fun r : Int × ct_H => (some (.inl (r.1) : ct_PV), r.2)) (f_X7_turn G h o) := by
  intro x C
  unfold f_X7_turn
  show ct_Z x m_X7_turn G 0 [(0, .inr (.inr (7, o)))] [] h (fun a => ct_q x G ((fun r : Int × ct_H => (some (.inl (r.1) : ct_PV), r.2)) a)) _
  refine ct_zrun C (k' := 2) (y := ([(1, .inl 0), (0, .inr (.inr (7, o)))], [], h)) 2 rfl rfl rfl ?_
  exact ct_zsub [1, 0] rfl (zl_X7_turn_2 C o 200 (0, h))
def f_X7_feed (G : ct_G) (h : ct_H) (o : Nat) (a1 : Int) : Option (Int × ct_H) := (f_X7_in G h a1 0 127).bind fun v1 => if v1 = 0 then (some ((-2), h)) else if (h.1 o 5) = 100 then (some ((-4), h)) else (ct_wtB G h (G.1 o 4) (h.1 o 5) ((Int32.ofInt a1).toInt8.toInt32.toInt)).bind fun h2 => ct_lt (ct_wF h2 o 5 (ct_wr ((h2.1 o 5) + 1))) fun h3 => some ((h3.1 o 5), h3)
set_option maxRecDepth 100000 in
theorem e_X7_feed {d : Nat} {G : ct_G} {h : ct_H} (o : Nat) (a1 : Int) : ct_E m_X7_feed (d + 1) G (ct_args 0 [.inr (.inr (7, o)), .inl a1]) h (fun r : Int × ct_H => (some (.inl (r.1) : ct_PV), r.2)) (f_X7_feed G h o a1) := by
  intro x C
  unfold f_X7_feed
  show ct_Z x m_X7_feed G 0 [(0, .inr (.inr (7, o))), (1, .inl a1)] [] h (fun a => ct_q x G ((fun r : Int × ct_H => (some (.inl (r.1) : ct_PV), r.2)) a)) _
  refine ct_zrun C (k' := 3) (y := ([(0, .inr (.inr (7, o))), (1, .inl a1)], [.inl 127, .inl 0, .inl a1], h)) 3 rfl rfl rfl ?_
  refine ct_zS C (pc := 4) (aux := 0) [.inl a1, .inl 0, .inl 127] [] ok_X7_in lk_X7_100 (e_X7_in a1 0 127) rfl rfl rfl rfl rfl rfl (fun v1 => ?_)
  refine ct_zf0 C (pc := 7) (aux := 0) (cn := .ne) (off := 6) (k' := 7) (a := v1) Iff.rfl rfl rfl rfl (fun e5 => ?_) (fun e5 => ?_)
  · refine ct_zrun C (k' := 6) (y := ([(0, .inr (.inr (7, o))), (1, .inl a1)], [.inl (-2)], h)) 1 rfl rfl rfl ?_
    exact ct_zret C (pc := 12) (aux := 0) (ins := .ireturn) (ρ := (fun r : Int × ct_H => (some (.inl (r.1) : ct_PV), r.2))) (some (.inl (-2))) rfl rfl rfl ⟨rfl, Or.inl rfl⟩
  · refine ct_zrun C (k' := 10) (y := ([(0, .inr (.inr (7, o))), (1, .inl a1)], [.inl 100, .inl (h.1 o 5)], h)) 3 rfl rfl rfl ?_
    refine ct_zf C (pc := 19) (aux := 0) (cn := .ne) (off := 6) (k' := 13) (a := (h.1 o 5)) (b := 100) Iff.rfl rfl rfl rfl (fun e4 => ?_) (fun e4 => ?_)
    · refine ct_zrun C (k' := 12) (y := ([(0, .inr (.inr (7, o))), (1, .inl a1)], [.inl (-4)], h)) 1 rfl rfl rfl ?_
      exact ct_zret C (pc := 24) (aux := 0) (ins := .ireturn) (ρ := (fun r : Int × ct_H => (some (.inl (r.1) : ct_PV), r.2))) (some (.inl (-4))) rfl rfl rfl ⟨rfl, Or.inl rfl⟩
    · refine ct_zrun C (k' := 19) (y := ([(0, .inr (.inr (7, o))), (1, .inl a1)], [.inl ((Int32.ofInt a1).toInt8.toInt32.toInt), .inl (h.1 o 5), .inr (.inr (9, (G.1 o 4)))], h)) 6 rfl rfl rfl ?_
      refine ct_zwtB C (pc := 35) (aux := 0) rfl rfl (fun h2 => ?_)
      refine ct_zrun C (k' := 26) (y := ([(0, .inr (.inr (7, o))), (1, .inl a1)], [], (ct_wF h2 o 5 (ct_wr ((h2.1 o 5) + 1))))) 6 rfl rfl rfl ?_
      refine ct_zlet (L := fun _ => [(0, .inr (.inr (7, o))), (1, .inl a1)]) (S := fun _ => []) (Hh := fun h3 => h3) (a := (ct_wF h2 o 5 (ct_wr ((h2.1 o 5) + 1)))) (fun h3 => ?_)
      refine ct_zrun C (k' := 28) (y := ([(0, .inr (.inr (7, o))), (1, .inl a1)], [.inl (h3.1 o 5)], h3)) 2 rfl rfl rfl ?_
      exact ct_zret C (pc := 50) (aux := 0) (ins := .ireturn) (ρ := (fun r : Int × ct_H => (some (.inl (r.1) : ct_PV), r.2))) (some (.inl (h3.1 o 5))) rfl rfl rfl ⟨rfl, Or.inl rfl⟩
def f_X7_manyOf (G : ct_G) (h : ct_H) (a0 : Int) : Option (Int) := if a0 = 5 then (some 0) else if a0 = 4 then (some 1) else if 2 ≤ a0 then (some 3) else some 2
set_option maxRecDepth 100000 in
theorem e_X7_manyOf {d : Nat} {G : ct_G} {h : ct_H} (a0 : Int) : ct_E m_X7_manyOf d G (ct_args 0 [.inl a0]) h (fun r : Int => (some (.inl r : ct_PV), h)) (f_X7_manyOf G h a0) := by
  intro x C
  unfold f_X7_manyOf
  show ct_Z x m_X7_manyOf G 0 [(0, .inl a0)] [] h (fun a => ct_q x G ((fun r : Int => (some (.inl r : ct_PV), h)) a)) _
  refine ct_zrun C (k' := 2) (y := ([(0, .inl a0)], [.inl 5, .inl a0], h)) 2 rfl rfl rfl ?_
  refine ct_zf C (pc := 2) (aux := 0) (cn := .ne) (off := 7) (k' := 5) (a := a0) (b := 5) Iff.rfl rfl rfl rfl (fun e3 => ?_) (fun e3 => ?_)
  · refine ct_zrun C (k' := 4) (y := ([(0, .inl a0)], [.inl 0], h)) 1 rfl rfl rfl ?_
    refine ct_zgoto C (pc := 6) (aux := 0) (off := 22) (k' := 16) rfl rfl ?_
    exact ct_zret C (pc := 28) (aux := 0) (ins := .ireturn) (ρ := (fun r : Int => (some (.inl r : ct_PV), h))) (some (.inl 0)) rfl rfl rfl ⟨rfl, Or.inl rfl⟩
  · refine ct_zrun C (k' := 7) (y := ([(0, .inl a0)], [.inl 4, .inl a0], h)) 2 rfl rfl rfl ?_
    refine ct_zf C (pc := 11) (aux := 0) (cn := .ne) (off := 7) (k' := 10) (a := a0) (b := 4) Iff.rfl rfl rfl rfl (fun e2 => ?_) (fun e2 => ?_)
    · refine ct_zrun C (k' := 9) (y := ([(0, .inl a0)], [.inl 1], h)) 1 rfl rfl rfl ?_
      refine ct_zgoto C (pc := 15) (aux := 0) (off := 13) (k' := 16) rfl rfl ?_
      exact ct_zret C (pc := 28) (aux := 0) (ins := .ireturn) (ρ := (fun r : Int => (some (.inl r : ct_PV), h))) (some (.inl 1)) rfl rfl rfl ⟨rfl, Or.inl rfl⟩
    · refine ct_zrun C (k' := 12) (y := ([(0, .inl a0)], [.inl 2, .inl a0], h)) 2 rfl rfl rfl ?_
      refine ct_zt C (pc := 20) (aux := 0) (cn := .ge) (off := 7) (k' := 15) (a := a0) (b := 2) Iff.rfl rfl rfl rfl (fun e1 => ?_) (fun e1 => ?_)
      · refine ct_zrun C (k' := 16) (y := ([(0, .inl a0)], [.inl 3], h)) 1 rfl rfl rfl ?_
        exact ct_zret C (pc := 28) (aux := 0) (ins := .ireturn) (ρ := (fun r : Int => (some (.inl r : ct_PV), h))) (some (.inl 3)) rfl rfl rfl ⟨rfl, Or.inl rfl⟩
      · refine ct_zrun C (k' := 14) (y := ([(0, .inl a0)], [.inl 2], h)) 1 rfl rfl rfl ?_
        refine ct_zgoto C (pc := 24) (aux := 0) (off := 4) (k' := 16) rfl rfl ?_
        exact ct_zret C (pc := 28) (aux := 0) (ins := .ireturn) (ρ := (fun r : Int => (some (.inl r : ct_PV), h))) (some (.inl 2)) rfl rfl rfl ⟨rfl, Or.inl rfl⟩
def f_X7_isAt (G : ct_G) (h : ct_H) (o : Nat) (a1 : Int) : Option (Int) := if (h.1 o 5) ≤ (h.1 o 8) then (some 0) else (ct_rd G h (G.1 o 4) (h.1 o 8)).bind fun v1 => if v1 = a1 then (some 1) else some 0
set_option maxRecDepth 100000 in
theorem e_X7_isAt {d : Nat} {G : ct_G} {h : ct_H} (o : Nat) (a1 : Int) : ct_E m_X7_isAt d G (ct_args 0 [.inr (.inr (7, o)), .inl a1]) h (fun r : Int => (some (.inl r : ct_PV), h)) (f_X7_isAt G h o a1) := by
  intro x C
  unfold f_X7_isAt
  show ct_Z x m_X7_isAt G 0 [(0, .inr (.inr (7, o))), (1, .inl a1)] [] h (fun a => ct_q x G ((fun r : Int => (some (.inl r : ct_PV), h)) a)) _
  refine ct_zrun C (k' := 4) (y := ([(0, .inr (.inr (7, o))), (1, .inl a1)], [.inl (h.1 o 5), .inl (h.1 o 8)], h)) 4 rfl rfl rfl ?_
  refine ct_zt C (pc := 8) (aux := 0) (cn := .ge) (off := 20) (k' := 14) (a := (h.1 o 8)) (b := (h.1 o 5)) Iff.rfl rfl rfl rfl (fun e3 => ?_) (fun e3 => ?_)
  · refine ct_zrun C (k' := 15) (y := ([(0, .inr (.inr (7, o))), (1, .inl a1)], [.inl 0], h)) 1 rfl rfl rfl ?_
    exact ct_zret C (pc := 29) (aux := 0) (ins := .ireturn) (ρ := (fun r : Int => (some (.inl r : ct_PV), h))) (some (.inl 0)) rfl rfl rfl ⟨rfl, Or.inr ⟨rfl, Or.inl rfl⟩⟩
  · refine ct_zrun C (k' := 9) (y := ([(0, .inr (.inr (7, o))), (1, .inl a1)], [.inl (h.1 o 8), .inr (.inr (9, (G.1 o 4)))], h)) 4 rfl rfl rfl ?_
    refine ct_zrd C (pc := 19) (aux := 0) (ins := .baload) (cd := 9) rfl rfl (Or.inr (Or.inl ⟨rfl, rfl⟩)) (fun v1 => ?_)
    refine ct_zrun C (k' := 11) (y := ([(0, .inr (.inr (7, o))), (1, .inl a1)], [.inl a1, .inl v1], h)) 1 rfl rfl rfl ?_
    refine ct_zf C (pc := 21) (aux := 0) (cn := .ne) (off := 7) (k' := 14) (a := v1) (b := a1) Iff.rfl rfl rfl rfl (fun e2 => ?_) (fun e2 => ?_)
    · refine ct_zrun C (k' := 13) (y := ([(0, .inr (.inr (7, o))), (1, .inl a1)], [.inl 1], h)) 1 rfl rfl rfl ?_
      refine ct_zgoto C (pc := 25) (aux := 0) (off := 4) (k' := 15) rfl rfl ?_
      exact ct_zret C (pc := 29) (aux := 0) (ins := .ireturn) (ρ := (fun r : Int => (some (.inl r : ct_PV), h))) (some (.inl 1)) rfl rfl rfl ⟨rfl, Or.inr ⟨rfl, Or.inr rfl⟩⟩
    · refine ct_zrun C (k' := 15) (y := ([(0, .inr (.inr (7, o))), (1, .inl a1)], [.inl 0], h)) 1 rfl rfl rfl ?_
      exact ct_zret C (pc := 29) (aux := 0) (ins := .ireturn) (ρ := (fun r : Int => (some (.inl r : ct_PV), h))) (some (.inl 0)) rfl rfl rfl ⟨rfl, Or.inr ⟨rfl, Or.inl rfl⟩⟩
def f_X7_isDigit (G : ct_G) (h : ct_H) (o : Nat) : Option (Int) := if (h.1 o 5) ≤ (h.1 o 8) then (some 0) else (ct_rd G h (G.1 o 4) (h.1 o 8)).bind fun v1 => (f_X7_in G h v1 48 57).bind fun v2 => if v2 = 0 then (some 0) else some 1
set_option maxRecDepth 100000 in
theorem e_X7_isDigit {d : Nat} {G : ct_G} {h : ct_H} (o : Nat) : ct_E m_X7_isDigit (d + 1) G (ct_args 0 [.inr (.inr (7, o))]) h (fun r : Int => (some (.inl r : ct_PV), h)) (f_X7_isDigit G h o) := by
  intro x C
  unfold f_X7_isDigit
  show ct_Z x m_X7_isDigit G 0 [(0, .inr (.inr (7, o)))] [] h (fun a => ct_q x G ((fun r : Int => (some (.inl r : ct_PV), h)) a)) _
  refine ct_zrun C (k' := 4) (y := ([(0, .inr (.inr (7, o)))], [.inl (h.1 o 5), .inl (h.1 o 8)], h)) 4 rfl rfl rfl ?_
  refine ct_zt C (pc := 8) (aux := 0) (cn := .ge) (off := 26) (k' := 16) (a := (h.1 o 8)) (b := (h.1 o 5)) Iff.rfl rfl rfl rfl (fun e4 => ?_) (fun e4 => ?_)
  · refine ct_zrun C (k' := 17) (y := ([(0, .inr (.inr (7, o)))], [.inl 0], h)) 1 rfl rfl rfl ?_
    exact ct_zret C (pc := 35) (aux := 0) (ins := .ireturn) (ρ := (fun r : Int => (some (.inl r : ct_PV), h))) (some (.inl 0)) rfl rfl rfl ⟨rfl, Or.inr ⟨rfl, Or.inl rfl⟩⟩
  · refine ct_zrun C (k' := 9) (y := ([(0, .inr (.inr (7, o)))], [.inl (h.1 o 8), .inr (.inr (9, (G.1 o 4)))], h)) 4 rfl rfl rfl ?_
    refine ct_zrd C (pc := 19) (aux := 0) (ins := .baload) (cd := 9) rfl rfl (Or.inr (Or.inl ⟨rfl, rfl⟩)) (fun v1 => ?_)
    refine ct_zrun C (k' := 12) (y := ([(0, .inr (.inr (7, o)))], [.inl 57, .inl 48, .inl v1], h)) 2 rfl rfl rfl ?_
    refine ct_zS C (pc := 24) (aux := 0) [.inl v1, .inl 48, .inl 57] [] ok_X7_in lk_X7_100 (e_X7_in v1 48 57) rfl rfl rfl rfl rfl rfl (fun v2 => ?_)
    refine ct_zt0 C (pc := 27) (aux := 0) (cn := .eq) (off := 7) (k' := 16) (a := v2) Iff.rfl rfl rfl rfl (fun e3 => ?_) (fun e3 => ?_)
    · refine ct_zrun C (k' := 17) (y := ([(0, .inr (.inr (7, o)))], [.inl 0], h)) 1 rfl rfl rfl ?_
      exact ct_zret C (pc := 35) (aux := 0) (ins := .ireturn) (ρ := (fun r : Int => (some (.inl r : ct_PV), h))) (some (.inl 0)) rfl rfl rfl ⟨rfl, Or.inr ⟨rfl, Or.inl rfl⟩⟩
    · refine ct_zrun C (k' := 15) (y := ([(0, .inr (.inr (7, o)))], [.inl 1], h)) 1 rfl rfl rfl ?_
      refine ct_zgoto C (pc := 31) (aux := 0) (off := 4) (k' := 17) rfl rfl ?_
      exact ct_zret C (pc := 35) (aux := 0) (ins := .ireturn) (ρ := (fun r : Int => (some (.inl r : ct_PV), h))) (some (.inl 1)) rfl rfl rfl ⟨rfl, Or.inr ⟨rfl, Or.inr rfl⟩⟩
def f_X7_takesNumber (G : ct_G) (h : ct_H) (o : Nat) (a1 : Int) : Option (Int × ct_H) := (f_X7_isAt G h o 32).bind fun v1 => if v1 = 0 then (some (0, h)) else ct_lt (ct_wF h o 8 (ct_wr ((h.1 o 8) + 1))) fun h2 => (f_X7_isDigit G h2 o).bind fun v3 => if v3 = 0 then (some (0, h2)) else (ct_rd G h2 (G.1 o 4) (h2.1 o 8)).bind fun v4 => ct_lt (ct_wr (v4 - 48)) fun v5 => ct_lt (ct_wF h2 o 8 (ct_wr ((h2.1 o 8) + 1))) fun h6 => (f_X7_isDigit G h6 o).bind fun v7 => ct_jn (β := Int × ct_H) (fun k9 => if v7 = 0 then (k9 (v5, h6)) else (ct_rd G h6 (G.1 o 4) (h6.1 o 8)).bind fun v12 => ct_lt (ct_wr ((ct_wr ((ct_wr (10 * v5)) + v12)) - 48)) fun v13 => ct_lt (ct_wF h6 o 8 (ct_wr ((h6.1 o 8) + 1))) fun h14 => k9 (v13, h14)) (fun b8 => (ct_wt G b8.2 (G.1 o 7) (ct_wr ((ct_wr (3 * (b8.2.1 o 9))) + a1)) b8.1).bind fun h11 => some (1, h11))
set_option maxRecDepth 100000 in
theorem e_X7_takesNumber {d : Nat} {G : ct_G} {h : ct_H} (o : Nat) (a1 : Int) : ct_E m_X7_takesNumber (d + 2) G (ct_args 0 [.inr (.inr (7, o)), .inl a1]) h (fun r : Int × ct_H => (some (.inl (r.1) : ct_PV), r.2)) (f_X7_takesNumber G h o a1) := by
  intro x C
  unfold f_X7_takesNumber
  show ct_Z x m_X7_takesNumber G 0 [(0, .inr (.inr (7, o))), (1, .inl a1)] [] h (fun a => ct_q x G ((fun r : Int × ct_H => (some (.inl (r.1) : ct_PV), r.2)) a)) _
  refine ct_zrun C (k' := 2) (y := ([(0, .inr (.inr (7, o))), (1, .inl a1)], [.inl 32, .inr (.inr (7, o))], h)) 2 rfl rfl rfl ?_
  refine ct_zV C (pc := 3) (aux := 0) [.inl 32] [] ok_X7_isAt lk_X7_153 (e_X7_isAt o 32) rfl rfl rfl rfl rfl rfl rfl rfl (fun v1 => ?_)
  refine ct_zf0 C (pc := 6) (aux := 0) (cn := .ne) (off := 5) (k' := 6) (a := v1) Iff.rfl rfl rfl rfl (fun e17 => ?_) (fun e17 => ?_)
  · refine ct_zrun C (k' := 5) (y := ([(0, .inr (.inr (7, o))), (1, .inl a1)], [.inl 0], h)) 1 rfl rfl rfl ?_
    exact ct_zret C (pc := 10) (aux := 0) (ins := .ireturn) (ρ := (fun r : Int × ct_H => (some (.inl (r.1) : ct_PV), r.2))) (some (.inl 0)) rfl rfl rfl ⟨rfl, Or.inr ⟨rfl, Or.inl rfl⟩⟩
  · refine ct_zrun C (k' := 12) (y := ([(0, .inr (.inr (7, o))), (1, .inl a1)], [], (ct_wF h o 8 (ct_wr ((h.1 o 8) + 1))))) 6 rfl rfl rfl ?_
    refine ct_zlet (L := fun _ => [(0, .inr (.inr (7, o))), (1, .inl a1)]) (S := fun _ => []) (Hh := fun h2 => h2) (a := (ct_wF h o 8 (ct_wr ((h.1 o 8) + 1)))) (fun h2 => ?_)
    refine ct_zrun C (k' := 13) (y := ([(0, .inr (.inr (7, o))), (1, .inl a1)], [.inr (.inr (7, o))], h2)) 1 rfl rfl rfl ?_
    refine ct_zV C (pc := 22) (aux := 0) [] [] ok_X7_isDigit lk_X7_163 (e_X7_isDigit o) rfl rfl rfl rfl rfl rfl rfl rfl (fun v3 => ?_)
    refine ct_zf0 C (pc := 25) (aux := 0) (cn := .ne) (off := 5) (k' := 17) (a := v3) Iff.rfl rfl rfl rfl (fun e16 => ?_) (fun e16 => ?_)
    · refine ct_zrun C (k' := 16) (y := ([(0, .inr (.inr (7, o))), (1, .inl a1)], [.inl 0], h2)) 1 rfl rfl rfl ?_
      exact ct_zret C (pc := 29) (aux := 0) (ins := .ireturn) (ρ := (fun r : Int × ct_H => (some (.inl (r.1) : ct_PV), r.2))) (some (.inl 0)) rfl rfl rfl ⟨rfl, Or.inr ⟨rfl, Or.inl rfl⟩⟩
    · refine ct_zrun C (k' := 21) (y := ([(0, .inr (.inr (7, o))), (1, .inl a1)], [.inl (h2.1 o 8), .inr (.inr (9, (G.1 o 4)))], h2)) 4 rfl rfl rfl ?_
      refine ct_zrd C (pc := 38) (aux := 0) (ins := .baload) (cd := 9) rfl rfl (Or.inr (Or.inl ⟨rfl, rfl⟩)) (fun v4 => ?_)
      refine ct_zrun C (k' := 25) (y := ([(2, .inl (ct_wr (v4 - 48))), (0, .inr (.inr (7, o))), (1, .inl a1)], [], h2)) 3 rfl rfl rfl ?_
      refine ct_zlet (L := fun v5 => [(2, .inl v5), (0, .inr (.inr (7, o))), (1, .inl a1)]) (S := fun _ => []) (Hh := fun _ => h2) (a := (ct_wr (v4 - 48))) (fun v5 => ?_)
      refine ct_zrun C (k' := 31) (y := ([(2, .inl v5), (0, .inr (.inr (7, o))), (1, .inl a1)], [], (ct_wF h2 o 8 (ct_wr ((h2.1 o 8) + 1))))) 6 rfl rfl rfl ?_
      refine ct_zlet (L := fun _ => [(2, .inl v5), (0, .inr (.inr (7, o))), (1, .inl a1)]) (S := fun _ => []) (Hh := fun h6 => h6) (a := (ct_wF h2 o 8 (ct_wr ((h2.1 o 8) + 1)))) (fun h6 => ?_)
      refine ct_zrun C (k' := 32) (y := ([(2, .inl v5), (0, .inr (.inr (7, o))), (1, .inl a1)], [.inr (.inr (7, o))], h6)) 1 rfl rfl rfl ?_
      refine ct_zV C (pc := 54) (aux := 0) [] [] ok_X7_isDigit lk_X7_163 (e_X7_isDigit o) rfl rfl rfl rfl rfl rfl rfl rfl (fun v7 => ?_)
      refine ct_zjn (β := Int × ct_H) (kJ := 52) (L := fun b8 => [(0, .inr (.inr (7, o))), (1, .inl a1), (2, .inl (b8.1))]) (S := fun b8 => []) (Hh := fun b8 => b8.2) (fun b8 => ?_) (fun k9 z10 => ?_)
      · refine ct_zrun C (k' := 61) (y := ([(0, .inr (.inr (7, o))), (1, .inl a1), (2, .inl (b8.1))], [.inl (b8.1), .inl (ct_wr ((ct_wr (3 * (b8.2.1 o 9))) + a1)), .inr (.inr (8, (G.1 o 7)))], b8.2)) 9 rfl rfl rfl ?_
        refine ct_zwt C (pc := 101) (aux := 0) rfl rfl (fun h11 => ?_)
        refine ct_zrun C (k' := 63) (y := ([(0, .inr (.inr (7, o))), (1, .inl a1), (2, .inl (b8.1))], [.inl 1], h11)) 1 rfl rfl rfl ?_
        exact ct_zret C (pc := 103) (aux := 0) (ins := .ireturn) (ρ := (fun r : Int × ct_H => (some (.inl (r.1) : ct_PV), r.2))) (some (.inl 1)) rfl rfl rfl ⟨rfl, Or.inr ⟨rfl, Or.inr rfl⟩⟩
      · refine ct_zt0 C (pc := 57) (aux := 0) (cn := .eq) (off := 31) (k' := 52) (a := v7) Iff.rfl rfl rfl rfl (fun e15 => ?_) (fun e15 => ?_)
        · exact ct_zsub [1, 2, 0] rfl (z10 (v5, h6))
        · refine ct_zrun C (k' := 41) (y := ([(2, .inl v5), (0, .inr (.inr (7, o))), (1, .inl a1)], [.inl (h6.1 o 8), .inr (.inr (9, (G.1 o 4))), .inl (ct_wr (10 * v5))], h6)) 7 rfl rfl rfl ?_
          refine ct_zrd C (pc := 72) (aux := 0) (ins := .baload) (cd := 9) rfl rfl (Or.inr (Or.inl ⟨rfl, rfl⟩)) (fun v12 => ?_)
          refine ct_zrun C (k' := 46) (y := ([(2, .inl (ct_wr ((ct_wr ((ct_wr (10 * v5)) + v12)) - 48))), (0, .inr (.inr (7, o))), (1, .inl a1)], [], h6)) 4 rfl rfl rfl ?_
          refine ct_zlet (L := fun v13 => [(2, .inl v13), (0, .inr (.inr (7, o))), (1, .inl a1)]) (S := fun _ => []) (Hh := fun _ => h6) (a := (ct_wr ((ct_wr ((ct_wr (10 * v5)) + v12)) - 48))) (fun v13 => ?_)
          refine ct_zrun C (k' := 52) (y := ([(2, .inl v13), (0, .inr (.inr (7, o))), (1, .inl a1)], [], (ct_wF h6 o 8 (ct_wr ((h6.1 o 8) + 1))))) 6 rfl rfl rfl ?_
          refine ct_zlet (L := fun _ => [(2, .inl v13), (0, .inr (.inr (7, o))), (1, .inl a1)]) (S := fun _ => []) (Hh := fun h14 => h14) (a := (ct_wF h6 o 8 (ct_wr ((h6.1 o 8) + 1)))) (fun h14 => ?_)
          exact ct_zsub [1, 2, 0] rfl (z10 (v13, h14))
def f_X7_done (G : ct_G) (h : ct_H) (o : Nat) (a1 : Int) : Option (Int × ct_H) := (ct_rd G h (G.1 o 7) (ct_wr (3 * a1))).bind fun v1 => (ct_rd G h (G.1 o 7) (ct_wr ((ct_wr (3 * a1)) + 1))).bind fun v2 => (ct_rd G h (G.1 o 7) (ct_wr ((ct_wr (3 * a1)) + 2))).bind fun v3 => (ct_rd G h (G.1 o 6) a1).bind fun v4 => if v4 = 0 then ((f_X7_size G h o v1 v2).bind fun r5 => some (r5.1, r5.2)) else if v4 = 1 then ((f_X7_height G h o v1 v2).bind fun r7 => some (r7.1, r7.2)) else if v4 = 2 then ((f_X7_fill G h o v1 v2 v3).bind fun r9 => some (r9.1, r9.2)) else if v4 = 3 then ((f_X7_hill G h o v1 v2 v3).bind fun r11 => some (r11.1, r11.2)) else if v4 = 4 then ((f_X7_rule G h o v1).bind fun r13 => some (r13.1, r13.2)) else (f_X7_turn G h o).bind fun r15 => some (r15.1, r15.2)
set_option maxRecDepth 100000 in
theorem e_X7_done {d : Nat} {G : ct_G} {h : ct_H} (o : Nat) (a1 : Int) : ct_E m_X7_done (d + 3) G (ct_args 0 [.inr (.inr (7, o)), .inl a1]) h (fun r : Int × ct_H => (some (.inl (r.1) : ct_PV), r.2)) (f_X7_done G h o a1) := by
  intro x C
  unfold f_X7_done
  show ct_Z x m_X7_done G 0 [(0, .inr (.inr (7, o))), (1, .inl a1)] [] h (fun a => ct_q x G ((fun r : Int × ct_H => (some (.inl (r.1) : ct_PV), r.2)) a)) _
  refine ct_zrun C (k' := 5) (y := ([(0, .inr (.inr (7, o))), (1, .inl a1)], [.inl (ct_wr (3 * a1)), .inr (.inr (8, (G.1 o 7)))], h)) 5 rfl rfl rfl ?_
  refine ct_zrd C (pc := 7) (aux := 0) (ins := .iaload) (cd := 8) rfl rfl (Or.inl ⟨rfl, rfl⟩) (fun v1 => ?_)
  refine ct_zrun C (k' := 14) (y := ([(2, .inl v1), (0, .inr (.inr (7, o))), (1, .inl a1)], [.inl (ct_wr ((ct_wr (3 * a1)) + 1)), .inr (.inr (8, (G.1 o 7)))], h)) 8 rfl rfl rfl ?_
  refine ct_zrd C (pc := 18) (aux := 0) (ins := .iaload) (cd := 8) rfl rfl (Or.inl ⟨rfl, rfl⟩) (fun v2 => ?_)
  refine ct_zrun C (k' := 23) (y := ([(3, .inl v2), (2, .inl v1), (0, .inr (.inr (7, o))), (1, .inl a1)], [.inl (ct_wr ((ct_wr (3 * a1)) + 2)), .inr (.inr (8, (G.1 o 7)))], h)) 8 rfl rfl rfl ?_
  refine ct_zrd C (pc := 29) (aux := 0) (ins := .iaload) (cd := 8) rfl rfl (Or.inl ⟨rfl, rfl⟩) (fun v3 => ?_)
  refine ct_zrun C (k' := 28) (y := ([(4, .inl v3), (3, .inl v2), (2, .inl v1), (0, .inr (.inr (7, o))), (1, .inl a1)], [.inl a1, .inr (.inr (8, (G.1 o 6)))], h)) 4 rfl rfl rfl ?_
  refine ct_zrd C (pc := 37) (aux := 0) (ins := .iaload) (cd := 8) rfl rfl (Or.inl ⟨rfl, rfl⟩) (fun v4 => ?_)
  refine ct_zsplit (fun e6 => ?_) (fun e6 => ?_)
  · refine ct_zsw C (off := 34) (k' := 30) rfl (by rw [e6]; rfl) rfl ?_
    refine ct_zrun C (k' := 33) (y := ([(4, .inl v3), (3, .inl v2), (2, .inl v1), (0, .inr (.inr (7, o))), (1, .inl a1)], [.inl v2, .inl v1, .inr (.inr (7, o))], h)) 3 rfl rfl rfl ?_
    refine ct_zV C (pc := 75) (aux := 0) [.inl v1, .inl v2] [] ok_X7_size lk_X7_179 (e_X7_size o v1 v2) rfl rfl rfl rfl rfl rfl rfl rfl (fun r5 => ?_)
    exact ct_zret C (pc := 78) (aux := 0) (ins := .ireturn) (ρ := (fun r : Int × ct_H => (some (.inl (r.1) : ct_PV), r.2))) (some (.inl (r5.1))) rfl rfl rfl ⟨rfl, Or.inl rfl⟩
  · refine ct_zsplit (fun e8 => ?_) (fun e8 => ?_)
    · refine ct_zsw C (off := 41) (k' := 35) rfl (by rw [e8]; rfl) rfl ?_
      refine ct_zrun C (k' := 38) (y := ([(4, .inl v3), (3, .inl v2), (2, .inl v1), (0, .inr (.inr (7, o))), (1, .inl a1)], [.inl v2, .inl v1, .inr (.inr (7, o))], h)) 3 rfl rfl rfl ?_
      refine ct_zV C (pc := 82) (aux := 0) [.inl v1, .inl v2] [] ok_X7_height lk_X7_181 (e_X7_height o v1 v2) rfl rfl rfl rfl rfl rfl rfl rfl (fun r7 => ?_)
      exact ct_zret C (pc := 85) (aux := 0) (ins := .ireturn) (ρ := (fun r : Int × ct_H => (some (.inl (r.1) : ct_PV), r.2))) (some (.inl (r7.1))) rfl rfl rfl ⟨rfl, Or.inl rfl⟩
    · refine ct_zsplit (fun e10 => ?_) (fun e10 => ?_)
      · refine ct_zsw C (off := 48) (k' := 40) rfl (by rw [e10]; rfl) rfl ?_
        refine ct_zrun C (k' := 44) (y := ([(4, .inl v3), (3, .inl v2), (2, .inl v1), (0, .inr (.inr (7, o))), (1, .inl a1)], [.inl v3, .inl v2, .inl v1, .inr (.inr (7, o))], h)) 4 rfl rfl rfl ?_
        refine ct_zV C (pc := 91) (aux := 0) [.inl v1, .inl v2, .inl v3] [] ok_X7_fill lk_X7_184 (e_X7_fill o v1 v2 v3) rfl rfl rfl rfl rfl rfl rfl rfl (fun r9 => ?_)
        exact ct_zret C (pc := 94) (aux := 0) (ins := .ireturn) (ρ := (fun r : Int × ct_H => (some (.inl (r.1) : ct_PV), r.2))) (some (.inl (r9.1))) rfl rfl rfl ⟨rfl, Or.inl rfl⟩
      · refine ct_zsplit (fun e12 => ?_) (fun e12 => ?_)
        · refine ct_zsw C (off := 57) (k' := 46) rfl (by rw [e12]; rfl) rfl ?_
          refine ct_zrun C (k' := 50) (y := ([(4, .inl v3), (3, .inl v2), (2, .inl v1), (0, .inr (.inr (7, o))), (1, .inl a1)], [.inl v3, .inl v2, .inl v1, .inr (.inr (7, o))], h)) 4 rfl rfl rfl ?_
          refine ct_zV C (pc := 100) (aux := 0) [.inl v1, .inl v2, .inl v3] [] ok_X7_hill lk_X7_187 (e_X7_hill o v1 v2 v3) rfl rfl rfl rfl rfl rfl rfl rfl (fun r11 => ?_)
          exact ct_zret C (pc := 103) (aux := 0) (ins := .ireturn) (ρ := (fun r : Int × ct_H => (some (.inl (r.1) : ct_PV), r.2))) (some (.inl (r11.1))) rfl rfl rfl ⟨rfl, Or.inl rfl⟩
        · refine ct_zsplit (fun e14 => ?_) (fun e14 => ?_)
          · refine ct_zsw C (off := 66) (k' := 52) rfl (by rw [e14]; rfl) rfl ?_
            refine ct_zrun C (k' := 54) (y := ([(4, .inl v3), (3, .inl v2), (2, .inl v1), (0, .inr (.inr (7, o))), (1, .inl a1)], [.inl v1, .inr (.inr (7, o))], h)) 2 rfl rfl rfl ?_
            refine ct_zV C (pc := 106) (aux := 0) [.inl v1] [] ok_X7_rule lk_X7_189 (e_X7_rule o v1) rfl rfl rfl rfl rfl rfl rfl rfl (fun r13 => ?_)
            exact ct_zret C (pc := 109) (aux := 0) (ins := .ireturn) (ρ := (fun r : Int × ct_H => (some (.inl (r.1) : ct_PV), r.2))) (some (.inl (r13.1))) rfl rfl rfl ⟨rfl, Or.inl rfl⟩
          · refine ct_zsw C (off := 72) (k' := 56) rfl (by show (if _ then _ else _) = _; rw [if_pos (by omega)]) rfl ?_
            refine ct_zrun C (k' := 57) (y := ([(4, .inl v3), (3, .inl v2), (2, .inl v1), (0, .inr (.inr (7, o))), (1, .inl a1)], [.inr (.inr (7, o))], h)) 1 rfl rfl rfl ?_
            refine ct_zV C (pc := 111) (aux := 0) [] [] ok_X7_turn lk_X7_191 (e_X7_turn o) rfl rfl rfl rfl rfl rfl rfl rfl (fun r15 => ?_)
            exact ct_zret C (pc := 114) (aux := 0) (ins := .ireturn) (ρ := (fun r : Int × ct_H => (some (.inl (r.1) : ct_PV), r.2))) (some (.inl (r15.1))) rfl rfl rfl ⟨rfl, Or.inl rfl⟩
def f_X7_row (G : ct_G) (h : ct_H) (o : Nat) (a1 : Int) : Option (Int) := (ct_dv a1 (ct_wr ((h.1 o 1) + 2))).bind fun v1 => some (ct_wr (v1 - 1))
set_option maxRecDepth 100000 in
theorem e_X7_row {d : Nat} {G : ct_G} {h : ct_H} (o : Nat) (a1 : Int) : ct_E m_X7_row d G (ct_args 0 [.inr (.inr (7, o)), .inl a1]) h (fun r : Int => (some (.inl r : ct_PV), h)) (f_X7_row G h o a1) := by
  intro x C
  unfold f_X7_row
  show ct_Z x m_X7_row G 0 [(0, .inr (.inr (7, o))), (1, .inl a1)] [] h (fun a => ct_q x G ((fun r : Int => (some (.inl r : ct_PV), h)) a)) _
  refine ct_zrun C (k' := 5) (y := ([(0, .inr (.inr (7, o))), (1, .inl a1)], [.inl (ct_wr ((h.1 o 1) + 2)), .inl a1], h)) 5 rfl rfl rfl ?_
  refine ct_zdv C (pc := 7) (aux := 0) rfl rfl (fun v1 => ?_)
  refine ct_zrun C (k' := 8) (y := ([(0, .inr (.inr (7, o))), (1, .inl a1)], [.inl (ct_wr (v1 - 1))], h)) 2 rfl rfl rfl ?_
  exact ct_zret C (pc := 10) (aux := 0) (ins := .ireturn) (ρ := (fun r : Int => (some (.inl r : ct_PV), h))) (some (.inl (ct_wr (v1 - 1)))) rfl rfl rfl ⟨rfl, Or.inl rfl⟩
def f_X7_column (G : ct_G) (h : ct_H) (o : Nat) (a1 : Int) : Option (Int) := (ct_md a1 (ct_wr ((h.1 o 1) + 2))).bind fun v1 => some (ct_wr (v1 - 1))
set_option maxRecDepth 100000 in
theorem e_X7_column {d : Nat} {G : ct_G} {h : ct_H} (o : Nat) (a1 : Int) : ct_E m_X7_column d G (ct_args 0 [.inr (.inr (7, o)), .inl a1]) h (fun r : Int => (some (.inl r : ct_PV), h)) (f_X7_column G h o a1) := by
  intro x C
  unfold f_X7_column
  show ct_Z x m_X7_column G 0 [(0, .inr (.inr (7, o))), (1, .inl a1)] [] h (fun a => ct_q x G ((fun r : Int => (some (.inl r : ct_PV), h)) a)) _
  refine ct_zrun C (k' := 5) (y := ([(0, .inr (.inr (7, o))), (1, .inl a1)], [.inl (ct_wr ((h.1 o 1) + 2)), .inl a1], h)) 5 rfl rfl rfl ?_
  refine ct_zmd C (pc := 7) (aux := 0) rfl rfl (fun v1 => ?_)
  refine ct_zrun C (k' := 8) (y := ([(0, .inr (.inr (7, o))), (1, .inl a1)], [.inl (ct_wr (v1 - 1))], h)) 2 rfl rfl rfl ?_
  exact ct_zret C (pc := 10) (aux := 0) (ins := .ireturn) (ρ := (fun r : Int => (some (.inl r : ct_PV), h))) (some (.inl (ct_wr (v1 - 1)))) rfl rfl rfl ⟨rfl, Or.inl rfl⟩
def f_X7_places (G : ct_G) (h : ct_H) (o : Nat) : Option (Int) := some (ct_wr ((ct_wr ((h.1 o 1) + 2)) * (ct_wr ((h.1 o 0) + 2))))
set_option maxRecDepth 100000 in
theorem e_X7_places {d : Nat} {G : ct_G} {h : ct_H} (o : Nat) : ct_E m_X7_places d G (ct_args 0 [.inr (.inr (7, o))]) h (fun r : Int => (some (.inl r : ct_PV), h)) (f_X7_places G h o) := by
  intro x C
  unfold f_X7_places
  show ct_Z x m_X7_places G 0 [(0, .inr (.inr (7, o)))] [] h (fun a => ct_q x G ((fun r : Int => (some (.inl r : ct_PV), h)) a)) _
  refine ct_zrun C (k' := 9) (y := ([(0, .inr (.inr (7, o)))], [.inl (ct_wr ((ct_wr ((h.1 o 1) + 2)) * (ct_wr ((h.1 o 0) + 2))))], h)) 9 rfl rfl rfl ?_
  exact ct_zret C (pc := 13) (aux := 0) (ins := .ireturn) (ρ := (fun r : Int => (some (.inl r : ct_PV), h))) (some (.inl (ct_wr ((ct_wr ((h.1 o 1) + 2)) * (ct_wr ((h.1 o 0) + 2)))))) rfl rfl rfl ⟨rfl, Or.inl rfl⟩
def f_X7_placeOf (G : ct_G) (h : ct_H) (o : Nat) (a1 : Int) : Option (Int) := (ct_dv a1 (h.1 o 1)).bind fun v1 => (ct_md a1 (h.1 o 1)).bind fun v2 => some (ct_wr ((ct_wr ((ct_wr ((ct_wr ((h.1 o 1) + 2)) * (ct_wr (v1 + 1)))) + v2)) + 1))
set_option maxRecDepth 100000 in
theorem e_X7_placeOf {d : Nat} {G : ct_G} {h : ct_H} (o : Nat) (a1 : Int) : ct_E m_X7_placeOf d G (ct_args 0 [.inr (.inr (7, o)), .inl a1]) h (fun r : Int => (some (.inl r : ct_PV), h)) (f_X7_placeOf G h o a1) := by
  intro x C
  unfold f_X7_placeOf
  show ct_Z x m_X7_placeOf G 0 [(0, .inr (.inr (7, o))), (1, .inl a1)] [] h (fun a => ct_q x G ((fun r : Int => (some (.inl r : ct_PV), h)) a)) _
  refine ct_zrun C (k' := 7) (y := ([(0, .inr (.inr (7, o))), (1, .inl a1)], [.inl (h.1 o 1), .inl a1, .inl (ct_wr ((h.1 o 1) + 2))], h)) 7 rfl rfl rfl ?_
  refine ct_zdv C (pc := 11) (aux := 0) rfl rfl (fun v1 => ?_)
  refine ct_zrun C (k' := 14) (y := ([(0, .inr (.inr (7, o))), (1, .inl a1)], [.inl (h.1 o 1), .inl a1, .inl (ct_wr ((ct_wr ((h.1 o 1) + 2)) * (ct_wr (v1 + 1))))], h)) 6 rfl rfl rfl ?_
  refine ct_zmd C (pc := 20) (aux := 0) rfl rfl (fun v2 => ?_)
  refine ct_zrun C (k' := 18) (y := ([(0, .inr (.inr (7, o))), (1, .inl a1)], [.inl (ct_wr ((ct_wr ((ct_wr ((ct_wr ((h.1 o 1) + 2)) * (ct_wr (v1 + 1)))) + v2)) + 1))], h)) 3 rfl rfl rfl ?_
  exact ct_zret C (pc := 24) (aux := 0) (ins := .ireturn) (ρ := (fun r : Int => (some (.inl r : ct_PV), h))) (some (.inl (ct_wr ((ct_wr ((ct_wr ((ct_wr ((h.1 o 1) + 2)) * (ct_wr (v1 + 1)))) + v2)) + 1)))) rfl rfl rfl ⟨rfl, Or.inl rfl⟩
def f_X7_heightAt (G : ct_G) (h : ct_H) (o : Nat) (a1 : Int) : Option (Int) := (f_X7_row G h o a1).bind fun v1 => (f_X7_column G h o a1).bind fun v2 => (f_X7_in G h v1 0 (ct_wr ((h.1 o 0) - 1))).bind fun v3 => if v3 = 0 then (some (-1)) else (f_X7_in G h v2 0 (ct_wr ((h.1 o 1) - 1))).bind fun v4 => if v4 = 0 then (some (-1)) else (ct_rd G h (G.1 o 3) (ct_wr ((ct_wr (v1 * (h.1 o 1))) + v2))).bind fun v5 => some v5
set_option maxRecDepth 100000 in
theorem e_X7_heightAt {d : Nat} {G : ct_G} {h : ct_H} (o : Nat) (a1 : Int) : ct_E m_X7_heightAt (d + 1) G (ct_args 0 [.inr (.inr (7, o)), .inl a1]) h (fun r : Int => (some (.inl r : ct_PV), h)) (f_X7_heightAt G h o a1) := by
  intro x C
  unfold f_X7_heightAt
  show ct_Z x m_X7_heightAt G 0 [(0, .inr (.inr (7, o))), (1, .inl a1)] [] h (fun a => ct_q x G ((fun r : Int => (some (.inl r : ct_PV), h)) a)) _
  refine ct_zrun C (k' := 2) (y := ([(0, .inr (.inr (7, o))), (1, .inl a1)], [.inl a1, .inr (.inr (7, o))], h)) 2 rfl rfl rfl ?_
  refine ct_zV C (pc := 2) (aux := 0) [.inl a1] [] ok_X7_row lk_X7_199 (e_X7_row o a1) rfl rfl rfl rfl rfl rfl rfl rfl (fun v1 => ?_)
  refine ct_zrun C (k' := 6) (y := ([(2, .inl v1), (0, .inr (.inr (7, o))), (1, .inl a1)], [.inl a1, .inr (.inr (7, o))], h)) 3 rfl rfl rfl ?_
  refine ct_zV C (pc := 8) (aux := 0) [.inl a1] [] ok_X7_column lk_X7_202 (e_X7_column o a1) rfl rfl rfl rfl rfl rfl rfl rfl (fun v2 => ?_)
  refine ct_zrun C (k' := 14) (y := ([(3, .inl v2), (2, .inl v1), (0, .inr (.inr (7, o))), (1, .inl a1)], [.inl (ct_wr ((h.1 o 0) - 1)), .inl 0, .inl v1], h)) 7 rfl rfl rfl ?_
  refine ct_zS C (pc := 20) (aux := 0) [.inl v1, .inl 0, .inl (ct_wr ((h.1 o 0) - 1))] [] ok_X7_in lk_X7_100 (e_X7_in v1 0 (ct_wr ((h.1 o 0) - 1))) rfl rfl rfl rfl rfl rfl (fun v3 => ?_)
  refine ct_zt0 C (pc := 23) (aux := 0) (cn := .eq) (off := 33) (k' := 34) (a := v3) Iff.rfl rfl rfl rfl (fun e7 => ?_) (fun e7 => ?_)
  · refine ct_zrun C (k' := 35) (y := ([(3, .inl v2), (2, .inl v1), (0, .inr (.inr (7, o))), (1, .inl a1)], [.inl (-1)], h)) 1 rfl rfl rfl ?_
    exact ct_zret C (pc := 57) (aux := 0) (ins := .ireturn) (ρ := (fun r : Int => (some (.inl r : ct_PV), h))) (some (.inl (-1))) rfl rfl rfl ⟨rfl, Or.inl rfl⟩
  · refine ct_zrun C (k' := 22) (y := ([(3, .inl v2), (2, .inl v1), (0, .inr (.inr (7, o))), (1, .inl a1)], [.inl (ct_wr ((h.1 o 1) - 1)), .inl 0, .inl v2], h)) 6 rfl rfl rfl ?_
    refine ct_zS C (pc := 34) (aux := 0) [.inl v2, .inl 0, .inl (ct_wr ((h.1 o 1) - 1))] [] ok_X7_in lk_X7_100 (e_X7_in v2 0 (ct_wr ((h.1 o 1) - 1))) rfl rfl rfl rfl rfl rfl (fun v4 => ?_)
    refine ct_zt0 C (pc := 37) (aux := 0) (cn := .eq) (off := 19) (k' := 34) (a := v4) Iff.rfl rfl rfl rfl (fun e6 => ?_) (fun e6 => ?_)
    · refine ct_zrun C (k' := 35) (y := ([(3, .inl v2), (2, .inl v1), (0, .inr (.inr (7, o))), (1, .inl a1)], [.inl (-1)], h)) 1 rfl rfl rfl ?_
      exact ct_zret C (pc := 57) (aux := 0) (ins := .ireturn) (ρ := (fun r : Int => (some (.inl r : ct_PV), h))) (some (.inl (-1))) rfl rfl rfl ⟨rfl, Or.inl rfl⟩
    · refine ct_zrun C (k' := 32) (y := ([(3, .inl v2), (2, .inl v1), (0, .inr (.inr (7, o))), (1, .inl a1)], [.inl (ct_wr ((ct_wr (v1 * (h.1 o 1))) + v2)), .inr (.inr (8, (G.1 o 3)))], h)) 8 rfl rfl rfl ?_
      refine ct_zrd C (pc := 52) (aux := 0) (ins := .iaload) (cd := 8) rfl rfl (Or.inl ⟨rfl, rfl⟩) (fun v5 => ?_)
      refine ct_zgoto C (pc := 53) (aux := 0) (off := 4) (k' := 35) rfl rfl ?_
      exact ct_zret C (pc := 57) (aux := 0) (ins := .ireturn) (ρ := (fun r : Int => (some (.inl r : ct_PV), h))) (some (.inl v5)) rfl rfl rfl ⟨rfl, Or.inl rfl⟩
def f_X7_otherOf (G : ct_G) (h : ct_H) (o : Nat) (a1 : Int) : Option (Int) := (ct_dv a1 2).bind fun v1 => (ct_md a1 2).bind fun v2 => if v2 = 0 then (some (ct_wr (v1 + 1))) else some (ct_wr (v1 + (ct_wr ((h.1 o 1) + 2))))
set_option maxRecDepth 100000 in
theorem e_X7_otherOf {d : Nat} {G : ct_G} {h : ct_H} (o : Nat) (a1 : Int) : ct_E m_X7_otherOf d G (ct_args 0 [.inr (.inr (7, o)), .inl a1]) h (fun r : Int => (some (.inl r : ct_PV), h)) (f_X7_otherOf G h o a1) := by
  intro x C
  unfold f_X7_otherOf
  show ct_Z x m_X7_otherOf G 0 [(0, .inr (.inr (7, o))), (1, .inl a1)] [] h (fun a => ct_q x G ((fun r : Int => (some (.inl r : ct_PV), h)) a)) _
  refine ct_zrun C (k' := 2) (y := ([(0, .inr (.inr (7, o))), (1, .inl a1)], [.inl 2, .inl a1], h)) 2 rfl rfl rfl ?_
  refine ct_zdv C (pc := 2) (aux := 0) rfl rfl (fun v1 => ?_)
  refine ct_zrun C (k' := 5) (y := ([(0, .inr (.inr (7, o))), (1, .inl a1)], [.inl 2, .inl a1, .inl v1], h)) 2 rfl rfl rfl ?_
  refine ct_zmd C (pc := 5) (aux := 0) rfl rfl (fun v2 => ?_)
  refine ct_zf0 C (pc := 6) (aux := 0) (cn := .ne) (off := 7) (k' := 9) (a := v2) Iff.rfl rfl rfl rfl (fun e3 => ?_) (fun e3 => ?_)
  · refine ct_zrun C (k' := 8) (y := ([(0, .inr (.inr (7, o))), (1, .inl a1)], [.inl 1, .inl v1], h)) 1 rfl rfl rfl ?_
    refine ct_zgoto C (pc := 10) (aux := 0) (off := 9) (k' := 13) rfl rfl ?_
    refine ct_zrun C (k' := 14) (y := ([(0, .inr (.inr (7, o))), (1, .inl a1)], [.inl (ct_wr (v1 + 1))], h)) 1 rfl rfl rfl ?_
    exact ct_zret C (pc := 20) (aux := 0) (ins := .ireturn) (ρ := (fun r : Int => (some (.inl r : ct_PV), h))) (some (.inl (ct_wr (v1 + 1)))) rfl rfl rfl ⟨rfl, Or.inl rfl⟩
  · refine ct_zrun C (k' := 14) (y := ([(0, .inr (.inr (7, o))), (1, .inl a1)], [.inl (ct_wr (v1 + (ct_wr ((h.1 o 1) + 2))))], h)) 5 rfl rfl rfl ?_
    exact ct_zret C (pc := 20) (aux := 0) (ins := .ireturn) (ρ := (fun r : Int => (some (.inl r : ct_PV), h))) (some (.inl (ct_wr (v1 + (ct_wr ((h.1 o 1) + 2)))))) rfl rfl rfl ⟨rfl, Or.inl rfl⟩
def f_X7_isEdge (G : ct_G) (h : ct_H) (o : Nat) (a1 : Int) : Option (Int) := if a1 < 0 then (some 0) else (ct_dv a1 2).bind fun v1 => (f_X7_places G h o).bind fun v2 => if v1 < v2 then ((ct_md a1 2).bind fun v3 => if v3 = 0 then ((ct_dv a1 2).bind fun v7 => (f_X7_column G h o v7).bind fun v8 => if (h.1 o 1) ≤ v8 then (some 0) else some 1) else (ct_dv a1 2).bind fun v4 => (f_X7_row G h o v4).bind fun v5 => if (h.1 o 0) ≤ v5 then (some 0) else some 1) else some 0
set_option maxRecDepth 100000 in
theorem e_X7_isEdge {d : Nat} {G : ct_G} {h : ct_H} (o : Nat) (a1 : Int) : ct_E m_X7_isEdge (d + 1) G (ct_args 0 [.inr (.inr (7, o)), .inl a1]) h (fun r : Int => (some (.inl r : ct_PV), h)) (f_X7_isEdge G h o a1) := by
  intro x C
  unfold f_X7_isEdge
  show ct_Z x m_X7_isEdge G 0 [(0, .inr (.inr (7, o))), (1, .inl a1)] [] h (fun a => ct_q x G ((fun r : Int => (some (.inl r : ct_PV), h)) a)) _
  refine ct_zrun C (k' := 1) (y := ([(0, .inr (.inr (7, o))), (1, .inl a1)], [.inl a1], h)) 1 rfl rfl rfl ?_
  refine ct_zt0 C (pc := 1) (aux := 0) (cn := .lt) (off := 13) (k' := 8) (a := a1) Iff.rfl rfl rfl rfl (fun e12 => ?_) (fun e12 => ?_)
  · refine ct_zrun C (k' := 9) (y := ([(0, .inr (.inr (7, o))), (1, .inl a1)], [.inl 0], h)) 1 rfl rfl rfl ?_
    exact ct_zret C (pc := 15) (aux := 0) (ins := .ireturn) (ρ := (fun r : Int => (some (.inl r : ct_PV), h))) (some (.inl 0)) rfl rfl rfl ⟨rfl, Or.inr ⟨rfl, Or.inl rfl⟩⟩
  · refine ct_zrun C (k' := 4) (y := ([(0, .inr (.inr (7, o))), (1, .inl a1)], [.inl 2, .inl a1], h)) 2 rfl rfl rfl ?_
    refine ct_zdv C (pc := 6) (aux := 0) rfl rfl (fun v1 => ?_)
    refine ct_zrun C (k' := 6) (y := ([(0, .inr (.inr (7, o))), (1, .inl a1)], [.inr (.inr (7, o)), .inl v1], h)) 1 rfl rfl rfl ?_
    refine ct_zV C (pc := 8) (aux := 0) [] [.inl v1] ok_X7_places lk_X7_205 (e_X7_places o) rfl rfl rfl rfl rfl rfl rfl rfl (fun v2 => ?_)
    refine ct_zt C (pc := 11) (aux := 0) (cn := .lt) (off := 5) (k' := 10) (a := v1) (b := v2) Iff.rfl rfl rfl rfl (fun e11 => ?_) (fun e11 => ?_)
    · refine ct_zrun C (k' := 12) (y := ([(0, .inr (.inr (7, o))), (1, .inl a1)], [.inl 2, .inl a1], h)) 2 rfl rfl rfl ?_
      refine ct_zmd C (pc := 18) (aux := 0) rfl rfl (fun v3 => ?_)
      refine ct_zf0 C (pc := 19) (aux := 0) (cn := .ne) (off := 25) (k' := 26) (a := v3) Iff.rfl rfl rfl rfl (fun e10 => ?_) (fun e10 => ?_)
      · refine ct_zrun C (k' := 17) (y := ([(0, .inr (.inr (7, o))), (1, .inl a1)], [.inl 2, .inl a1, .inr (.inr (7, o))], h)) 3 rfl rfl rfl ?_
        refine ct_zdv C (pc := 25) (aux := 0) rfl rfl (fun v7 => ?_)
        refine ct_zV C (pc := 26) (aux := 0) [.inl v7] [] ok_X7_column lk_X7_202 (e_X7_column o v7) rfl rfl rfl rfl rfl rfl rfl rfl (fun v8 => ?_)
        refine ct_zrun C (k' := 21) (y := ([(0, .inr (.inr (7, o))), (1, .inl a1)], [.inl (h.1 o 1), .inl v8], h)) 2 rfl rfl rfl ?_
        refine ct_zt C (pc := 33) (aux := 0) (cn := .ge) (off := 7) (k' := 24) (a := v8) (b := (h.1 o 1)) Iff.rfl rfl rfl rfl (fun e9 => ?_) (fun e9 => ?_)
        · refine ct_zrun C (k' := 25) (y := ([(0, .inr (.inr (7, o))), (1, .inl a1)], [.inl 0], h)) 1 rfl rfl rfl ?_
          refine ct_zgoto C (pc := 41) (aux := 0) (off := 22) (k' := 37) rfl rfl ?_
          exact ct_zret C (pc := 63) (aux := 0) (ins := .ireturn) (ρ := (fun r : Int => (some (.inl r : ct_PV), h))) (some (.inl 0)) rfl rfl rfl ⟨rfl, Or.inr ⟨rfl, Or.inl rfl⟩⟩
        · refine ct_zrun C (k' := 23) (y := ([(0, .inr (.inr (7, o))), (1, .inl a1)], [.inl 1], h)) 1 rfl rfl rfl ?_
          refine ct_zgoto C (pc := 37) (aux := 0) (off := 26) (k' := 37) rfl rfl ?_
          exact ct_zret C (pc := 63) (aux := 0) (ins := .ireturn) (ρ := (fun r : Int => (some (.inl r : ct_PV), h))) (some (.inl 1)) rfl rfl rfl ⟨rfl, Or.inr ⟨rfl, Or.inr rfl⟩⟩
      · refine ct_zrun C (k' := 29) (y := ([(0, .inr (.inr (7, o))), (1, .inl a1)], [.inl 2, .inl a1, .inr (.inr (7, o))], h)) 3 rfl rfl rfl ?_
        refine ct_zdv C (pc := 47) (aux := 0) rfl rfl (fun v4 => ?_)
        refine ct_zV C (pc := 48) (aux := 0) [.inl v4] [] ok_X7_row lk_X7_199 (e_X7_row o v4) rfl rfl rfl rfl rfl rfl rfl rfl (fun v5 => ?_)
        refine ct_zrun C (k' := 33) (y := ([(0, .inr (.inr (7, o))), (1, .inl a1)], [.inl (h.1 o 0), .inl v5], h)) 2 rfl rfl rfl ?_
        refine ct_zt C (pc := 55) (aux := 0) (cn := .ge) (off := 7) (k' := 36) (a := v5) (b := (h.1 o 0)) Iff.rfl rfl rfl rfl (fun e6 => ?_) (fun e6 => ?_)
        · refine ct_zrun C (k' := 37) (y := ([(0, .inr (.inr (7, o))), (1, .inl a1)], [.inl 0], h)) 1 rfl rfl rfl ?_
          exact ct_zret C (pc := 63) (aux := 0) (ins := .ireturn) (ρ := (fun r : Int => (some (.inl r : ct_PV), h))) (some (.inl 0)) rfl rfl rfl ⟨rfl, Or.inr ⟨rfl, Or.inl rfl⟩⟩
        · refine ct_zrun C (k' := 35) (y := ([(0, .inr (.inr (7, o))), (1, .inl a1)], [.inl 1], h)) 1 rfl rfl rfl ?_
          refine ct_zgoto C (pc := 59) (aux := 0) (off := 4) (k' := 37) rfl rfl ?_
          exact ct_zret C (pc := 63) (aux := 0) (ins := .ireturn) (ρ := (fun r : Int => (some (.inl r : ct_PV), h))) (some (.inl 1)) rfl rfl rfl ⟨rfl, Or.inr ⟨rfl, Or.inr rfl⟩⟩
    · refine ct_zrun C (k' := 9) (y := ([(0, .inr (.inr (7, o))), (1, .inl a1)], [.inl 0], h)) 1 rfl rfl rfl ?_
      exact ct_zret C (pc := 15) (aux := 0) (ins := .ireturn) (ρ := (fun r : Int => (some (.inl r : ct_PV), h))) (some (.inl 0)) rfl rfl rfl ⟨rfl, Or.inr ⟨rfl, Or.inl rfl⟩⟩
def f_X7_squares (G : ct_G) (h : ct_H) (o : Nat) : Option (Int) := some (ct_wr ((ct_wr ((h.1 o 1) + 1)) * (ct_wr ((h.1 o 0) + 1))))
set_option maxRecDepth 100000 in
theorem e_X7_squares {d : Nat} {G : ct_G} {h : ct_H} (o : Nat) : ct_E m_X7_squares d G (ct_args 0 [.inr (.inr (7, o))]) h (fun r : Int => (some (.inl r : ct_PV), h)) (f_X7_squares G h o) := by
  intro x C
  unfold f_X7_squares
  show ct_Z x m_X7_squares G 0 [(0, .inr (.inr (7, o)))] [] h (fun a => ct_q x G ((fun r : Int => (some (.inl r : ct_PV), h)) a)) _
  refine ct_zrun C (k' := 9) (y := ([(0, .inr (.inr (7, o)))], [.inl (ct_wr ((ct_wr ((h.1 o 1) + 1)) * (ct_wr ((h.1 o 0) + 1))))], h)) 9 rfl rfl rfl ?_
  exact ct_zret C (pc := 13) (aux := 0) (ins := .ireturn) (ρ := (fun r : Int => (some (.inl r : ct_PV), h))) (some (.inl (ct_wr ((ct_wr ((h.1 o 1) + 1)) * (ct_wr ((h.1 o 0) + 1)))))) rfl rfl rfl ⟨rfl, Or.inl rfl⟩
def f_X7_cornerOf (G : ct_G) (h : ct_H) (o : Nat) (a1 : Int) : Option (Int) := (ct_dv a1 (ct_wr ((h.1 o 1) + 1))).bind fun v1 => (ct_md a1 (ct_wr ((h.1 o 1) + 1))).bind fun v2 => some (ct_wr ((ct_wr ((ct_wr ((h.1 o 1) + 2)) * v1)) + v2))
set_option maxRecDepth 100000 in
theorem e_X7_cornerOf {d : Nat} {G : ct_G} {h : ct_H} (o : Nat) (a1 : Int) : ct_E m_X7_cornerOf d G (ct_args 0 [.inr (.inr (7, o)), .inl a1]) h (fun r : Int => (some (.inl r : ct_PV), h)) (f_X7_cornerOf G h o a1) := by
  intro x C
  unfold f_X7_cornerOf
  show ct_Z x m_X7_cornerOf G 0 [(0, .inr (.inr (7, o))), (1, .inl a1)] [] h (fun a => ct_q x G ((fun r : Int => (some (.inl r : ct_PV), h)) a)) _
  refine ct_zrun C (k' := 9) (y := ([(0, .inr (.inr (7, o))), (1, .inl a1)], [.inl (ct_wr ((h.1 o 1) + 1)), .inl a1, .inl (ct_wr ((h.1 o 1) + 2))], h)) 9 rfl rfl rfl ?_
  refine ct_zdv C (pc := 13) (aux := 0) rfl rfl (fun v1 => ?_)
  refine ct_zrun C (k' := 16) (y := ([(0, .inr (.inr (7, o))), (1, .inl a1)], [.inl (ct_wr ((h.1 o 1) + 1)), .inl a1, .inl (ct_wr ((ct_wr ((h.1 o 1) + 2)) * v1))], h)) 6 rfl rfl rfl ?_
  refine ct_zmd C (pc := 22) (aux := 0) rfl rfl (fun v2 => ?_)
  refine ct_zrun C (k' := 18) (y := ([(0, .inr (.inr (7, o))), (1, .inl a1)], [.inl (ct_wr ((ct_wr ((ct_wr ((h.1 o 1) + 2)) * v1)) + v2))], h)) 1 rfl rfl rfl ?_
  exact ct_zret C (pc := 24) (aux := 0) (ins := .ireturn) (ρ := (fun r : Int => (some (.inl r : ct_PV), h))) (some (.inl (ct_wr ((ct_wr ((ct_wr ((h.1 o 1) + 2)) * v1)) + v2)))) rfl rfl rfl ⟨rfl, Or.inl rfl⟩
def f_X7_cornerAt (G : ct_G) (h : ct_H) (o : Nat) (a1 : Int) (a2 : Int) : Option (Int) := (f_X7_cornerOf G h o a1).bind fun v1 => if a2 = 0 then (some v1) else if a2 = 1 then (some (ct_wr (v1 + 1))) else if a2 = 2 then (some (ct_wr ((ct_wr (v1 + (h.1 o 1))) + 3))) else some (ct_wr ((ct_wr (v1 + (h.1 o 1))) + 2))
set_option maxRecDepth 100000 in
theorem e_X7_cornerAt {d : Nat} {G : ct_G} {h : ct_H} (o : Nat) (a1 : Int) (a2 : Int) : ct_E m_X7_cornerAt (d + 1) G (ct_args 0 [.inr (.inr (7, o)), .inl a1, .inl a2]) h (fun r : Int => (some (.inl r : ct_PV), h)) (f_X7_cornerAt G h o a1 a2) := by
  intro x C
  unfold f_X7_cornerAt
  show ct_Z x m_X7_cornerAt G 0 [(0, .inr (.inr (7, o))), (1, .inl a1), (2, .inl a2)] [] h (fun a => ct_q x G ((fun r : Int => (some (.inl r : ct_PV), h)) a)) _
  refine ct_zrun C (k' := 2) (y := ([(0, .inr (.inr (7, o))), (1, .inl a1), (2, .inl a2)], [.inl a1, .inr (.inr (7, o))], h)) 2 rfl rfl rfl ?_
  refine ct_zV C (pc := 2) (aux := 0) [.inl a1] [] ok_X7_cornerOf lk_X7_208 (e_X7_cornerOf o a1) rfl rfl rfl rfl rfl rfl rfl rfl (fun v1 => ?_)
  refine ct_zrun C (k' := 5) (y := ([(3, .inl v1), (0, .inr (.inr (7, o))), (1, .inl a1), (2, .inl a2)], [.inl a2], h)) 2 rfl rfl rfl ?_
  refine ct_zf0 C (pc := 7) (aux := 0) (cn := .ne) (off := 7) (k' := 8) (a := a2) Iff.rfl rfl rfl rfl (fun e4 => ?_) (fun e4 => ?_)
  · refine ct_zrun C (k' := 7) (y := ([(3, .inl v1), (0, .inr (.inr (7, o))), (1, .inl a1), (2, .inl a2)], [.inl v1], h)) 1 rfl rfl rfl ?_
    refine ct_zgoto C (pc := 11) (aux := 0) (off := 38) (k' := 31) rfl rfl ?_
    exact ct_zret C (pc := 49) (aux := 0) (ins := .ireturn) (ρ := (fun r : Int => (some (.inl r : ct_PV), h))) (some (.inl v1)) rfl rfl rfl ⟨rfl, Or.inl rfl⟩
  · refine ct_zrun C (k' := 10) (y := ([(3, .inl v1), (0, .inr (.inr (7, o))), (1, .inl a1), (2, .inl a2)], [.inl 1, .inl a2], h)) 2 rfl rfl rfl ?_
    refine ct_zf C (pc := 16) (aux := 0) (cn := .ne) (off := 9) (k' := 15) (a := a2) (b := 1) Iff.rfl rfl rfl rfl (fun e3 => ?_) (fun e3 => ?_)
    · refine ct_zrun C (k' := 14) (y := ([(3, .inl v1), (0, .inr (.inr (7, o))), (1, .inl a1), (2, .inl a2)], [.inl (ct_wr (v1 + 1))], h)) 3 rfl rfl rfl ?_
      refine ct_zgoto C (pc := 22) (aux := 0) (off := 27) (k' := 31) rfl rfl ?_
      exact ct_zret C (pc := 49) (aux := 0) (ins := .ireturn) (ρ := (fun r : Int => (some (.inl r : ct_PV), h))) (some (.inl (ct_wr (v1 + 1)))) rfl rfl rfl ⟨rfl, Or.inl rfl⟩
    · refine ct_zrun C (k' := 17) (y := ([(3, .inl v1), (0, .inr (.inr (7, o))), (1, .inl a1), (2, .inl a2)], [.inl 2, .inl a2], h)) 2 rfl rfl rfl ?_
      refine ct_zf C (pc := 27) (aux := 0) (cn := .ne) (off := 14) (k' := 25) (a := a2) (b := 2) Iff.rfl rfl rfl rfl (fun e2 => ?_) (fun e2 => ?_)
      · refine ct_zrun C (k' := 24) (y := ([(3, .inl v1), (0, .inr (.inr (7, o))), (1, .inl a1), (2, .inl a2)], [.inl (ct_wr ((ct_wr (v1 + (h.1 o 1))) + 3))], h)) 6 rfl rfl rfl ?_
        refine ct_zgoto C (pc := 38) (aux := 0) (off := 11) (k' := 31) rfl rfl ?_
        exact ct_zret C (pc := 49) (aux := 0) (ins := .ireturn) (ρ := (fun r : Int => (some (.inl r : ct_PV), h))) (some (.inl (ct_wr ((ct_wr (v1 + (h.1 o 1))) + 3)))) rfl rfl rfl ⟨rfl, Or.inl rfl⟩
      · refine ct_zrun C (k' := 31) (y := ([(3, .inl v1), (0, .inr (.inr (7, o))), (1, .inl a1), (2, .inl a2)], [.inl (ct_wr ((ct_wr (v1 + (h.1 o 1))) + 2))], h)) 6 rfl rfl rfl ?_
        exact ct_zret C (pc := 49) (aux := 0) (ins := .ireturn) (ρ := (fun r : Int => (some (.inl r : ct_PV), h))) (some (.inl (ct_wr ((ct_wr (v1 + (h.1 o 1))) + 2)))) rfl rfl rfl ⟨rfl, Or.inl rfl⟩
def l_X7_caseOf_4 (G : ct_G) (o : Nat) (a1 : Int) (a2 : Int) (h : ct_H) : Nat → (Int × Int) → Option (Int)
  | 0, _ => none
  | n2 + 1, b1 => if 4 ≤ b1.2 then (some (b1.1)) else (f_X7_cornerAt G h o a2 b1.2).bind fun v3 => (f_X7_heightAt G h o v3).bind fun v4 => ct_jn (β := Int) (fun k6 => if v4 < a1 then (k6 (b1.1)) else ct_lt (ct_bop (fun x y => x ||| y) b1.1 (ct_bop (fun x y => x <<< (y &&& 31)) 1 b1.2)) fun v8 => k6 v8) (fun b5 => l_X7_caseOf_4 G o a1 a2 h n2 (b5, (ct_wr (b1.2 + 1))))
set_option maxRecDepth 100000 in
theorem zl_X7_caseOf_4 {x : ct_Ctx} {d : Nat} {G : ct_G} (C : ct_c x m_X7_caseOf G (d + 2)) (o : Nat) (a1 : Int) (a2 : Int) (h : ct_H) : ∀ (n2 : Nat) (b1 : Int × Int), ct_Z x m_X7_caseOf G 4 [(0, .inr (.inr (7, o))), (1, .inl a1), (2, .inl a2), (3, .inl (b1.1)), (4, .inl (b1.2))] [] h (fun a => ct_q x G ((fun r : Int => (some (.inl r : ct_PV), h)) a)) (l_X7_caseOf_4 G o a1 a2 h n2 b1) := by
  intro n2
  induction n2 with
  | zero => intro b1; exact ct_znone
  | succ n2 ih =>
    intro b1
    rw [l_X7_caseOf_4]
    refine ct_zrun C (k' := 6) (y := ([(0, .inr (.inr (7, o))), (1, .inl a1), (2, .inl a2), (3, .inl (b1.1)), (4, .inl (b1.2))], [.inl 4, .inl (b1.2)], h)) 2 rfl rfl rfl ?_
    refine ct_zt C (pc := 8) (aux := 0) (cn := .ge) (off := 31) (k' := 23) (a := b1.2) (b := 4) Iff.rfl rfl rfl rfl (fun e10 => ?_) (fun e10 => ?_)
    · refine ct_zrun C (k' := 24) (y := ([(0, .inr (.inr (7, o))), (1, .inl a1), (2, .inl a2), (3, .inl (b1.1)), (4, .inl (b1.2))], [.inl (b1.1)], h)) 1 rfl rfl rfl ?_
      exact ct_zret C (pc := 40) (aux := 0) (ins := .ireturn) (ρ := (fun r : Int => (some (.inl r : ct_PV), h))) (some (.inl (b1.1))) rfl rfl rfl ⟨rfl, Or.inl rfl⟩
    · refine ct_zrun C (k' := 11) (y := ([(0, .inr (.inr (7, o))), (1, .inl a1), (2, .inl a2), (3, .inl (b1.1)), (4, .inl (b1.2))], [.inl (b1.2), .inl a2, .inr (.inr (7, o)), .inr (.inr (7, o))], h)) 4 rfl rfl rfl ?_
      refine ct_zV C (pc := 16) (aux := 0) [.inl a2, .inl (b1.2)] [.inr (.inr (7, o))] ok_X7_cornerAt lk_X7_211 (e_X7_cornerAt o a2 (b1.2)) rfl rfl rfl rfl rfl rfl rfl rfl (fun v3 => ?_)
      refine ct_zV C (pc := 19) (aux := 0) [.inl v3] [] ok_X7_heightAt lk_X7_214 (e_X7_heightAt o v3) rfl rfl rfl rfl rfl rfl rfl rfl (fun v4 => ?_)
      refine ct_zrun C (k' := 14) (y := ([(0, .inr (.inr (7, o))), (1, .inl a1), (2, .inl a2), (3, .inl (b1.1)), (4, .inl (b1.2))], [.inl a1, .inl v4], h)) 1 rfl rfl rfl ?_
      refine ct_zjn (β := Int) (kJ := 21) (L := fun b5 => [(0, .inr (.inr (7, o))), (1, .inl a1), (2, .inl a2), (3, .inl b5), (4, .inl (b1.2))]) (S := fun b5 => []) (Hh := fun b5 => h) (fun b5 => ?_) (fun k6 z7 => ?_)
      · refine ct_zrun C (k' := 22) (y := ([(4, .inl (ct_wr (b1.2 + 1))), (0, .inr (.inr (7, o))), (1, .inl a1), (2, .inl a2), (3, .inl b5)], [], h)) 1 rfl rfl rfl ?_
        refine ct_zgoto C (pc := 36) (aux := 0) (off := (-31)) (k' := 4) rfl rfl ?_
        exact ct_zsub [1, 2, 3, 4, 0] rfl (ih (b5, (ct_wr (b1.2 + 1))))
      · refine ct_zt C (pc := 23) (aux := 0) (cn := .lt) (off := 10) (k' := 21) (a := v4) (b := a1) Iff.rfl rfl rfl rfl (fun e9 => ?_) (fun e9 => ?_)
        · exact ct_zsub [0, 1, 2, 3, 4] rfl (z7 (b1.1))
        · refine ct_zrun C (k' := 21) (y := ([(3, .inl (ct_bop (fun x y => x ||| y) b1.1 (ct_bop (fun x y => x <<< (y &&& 31)) 1 b1.2))), (0, .inr (.inr (7, o))), (1, .inl a1), (2, .inl a2), (4, .inl (b1.2))], [], h)) 6 rfl rfl rfl ?_
          refine ct_zlet (L := fun v8 => [(3, .inl v8), (0, .inr (.inr (7, o))), (1, .inl a1), (2, .inl a2), (4, .inl (b1.2))]) (S := fun _ => []) (Hh := fun _ => h) (a := (ct_bop (fun x y => x ||| y) b1.1 (ct_bop (fun x y => x <<< (y &&& 31)) 1 b1.2))) (fun v8 => ?_)
          exact ct_zsub [1, 2, 3, 0, 4] rfl (z7 v8)
def f_X7_caseOf (G : ct_G) (h : ct_H) (o : Nat) (a1 : Int) (a2 : Int) : Option (Int) := l_X7_caseOf_4 G o a1 a2 h 200 (0, 0)
set_option maxRecDepth 100000 in
theorem e_X7_caseOf {d : Nat} {G : ct_G} {h : ct_H} (o : Nat) (a1 : Int) (a2 : Int) : ct_E m_X7_caseOf (d + 2) G (ct_args 0 [.inr (.inr (7, o)), .inl a1, .inl a2]) h (fun r : Int => (some (.inl r : ct_PV), h)) (f_X7_caseOf G h o a1 a2) := by
  intro x C
  unfold f_X7_caseOf
  show ct_Z x m_X7_caseOf G 0 [(0, .inr (.inr (7, o))), (1, .inl a1), (2, .inl a2)] [] h (fun a => ct_q x G ((fun r : Int => (some (.inl r : ct_PV), h)) a)) _
  refine ct_zrun C (k' := 4) (y := ([(4, .inl 0), (3, .inl 0), (0, .inr (.inr (7, o))), (1, .inl a1), (2, .inl a2)], [], h)) 4 rfl rfl rfl ?_
  exact ct_zsub [2, 3, 4, 1, 0] rfl (zl_X7_caseOf_4 C o a1 a2 h 200 (0, 0))
def f_X7_isSaddle (G : ct_G) (h : ct_H) (a0 : Int) : Option (Int) := if a0 = 5 then (some 1) else if a0 = 10 then (some 1) else some 0
set_option maxRecDepth 100000 in
theorem e_X7_isSaddle {d : Nat} {G : ct_G} {h : ct_H} (a0 : Int) : ct_E m_X7_isSaddle d G (ct_args 0 [.inl a0]) h (fun r : Int => (some (.inl r : ct_PV), h)) (f_X7_isSaddle G h a0) := by
  intro x C
  unfold f_X7_isSaddle
  show ct_Z x m_X7_isSaddle G 0 [(0, .inl a0)] [] h (fun a => ct_q x G ((fun r : Int => (some (.inl r : ct_PV), h)) a)) _
  refine ct_zrun C (k' := 2) (y := ([(0, .inl a0)], [.inl 5, .inl a0], h)) 2 rfl rfl rfl ?_
  refine ct_zt C (pc := 2) (aux := 0) (cn := .eq) (off := 9) (k' := 6) (a := a0) (b := 5) Iff.rfl rfl rfl rfl (fun e2 => ?_) (fun e2 => ?_)
  · refine ct_zrun C (k' := 7) (y := ([(0, .inl a0)], [.inl 1], h)) 1 rfl rfl rfl ?_
    refine ct_zgoto C (pc := 12) (aux := 0) (off := 4) (k' := 9) rfl rfl ?_
    exact ct_zret C (pc := 16) (aux := 0) (ins := .ireturn) (ρ := (fun r : Int => (some (.inl r : ct_PV), h))) (some (.inl 1)) rfl rfl rfl ⟨rfl, Or.inr ⟨rfl, Or.inr rfl⟩⟩
  · refine ct_zrun C (k' := 5) (y := ([(0, .inl a0)], [.inl 10, .inl a0], h)) 2 rfl rfl rfl ?_
    refine ct_zf C (pc := 8) (aux := 0) (cn := .ne) (off := 7) (k' := 8) (a := a0) (b := 10) Iff.rfl rfl rfl rfl (fun e1 => ?_) (fun e1 => ?_)
    · refine ct_zrun C (k' := 7) (y := ([(0, .inl a0)], [.inl 1], h)) 1 rfl rfl rfl ?_
      refine ct_zgoto C (pc := 12) (aux := 0) (off := 4) (k' := 9) rfl rfl ?_
      exact ct_zret C (pc := 16) (aux := 0) (ins := .ireturn) (ρ := (fun r : Int => (some (.inl r : ct_PV), h))) (some (.inl 1)) rfl rfl rfl ⟨rfl, Or.inr ⟨rfl, Or.inr rfl⟩⟩
    · refine ct_zrun C (k' := 9) (y := ([(0, .inl a0)], [.inl 0], h)) 1 rfl rfl rfl ?_
      exact ct_zret C (pc := 16) (aux := 0) (ins := .ireturn) (ρ := (fun r : Int => (some (.inl r : ct_PV), h))) (some (.inl 0)) rfl rfl rfl ⟨rfl, Or.inr ⟨rfl, Or.inl rfl⟩⟩
def f_X7_isJoined (G : ct_G) (h : ct_H) (o : Nat) (a1 : Int) (a2 : Int) : Option (Int) := (f_X7_caseOf G h o a1 a2).bind fun v1 => (f_X7_isSaddle G h v1).bind fun v2 => if v2 = 0 then (some 0) else (f_X7_cornerAt G h o a2 0).bind fun v3 => (f_X7_heightAt G h o v3).bind fun v4 => (f_X7_cornerAt G h o a2 1).bind fun v5 => (f_X7_heightAt G h o v5).bind fun v6 => (f_X7_cornerAt G h o a2 2).bind fun v7 => (f_X7_heightAt G h o v7).bind fun v8 => (f_X7_cornerAt G h o a2 3).bind fun v9 => (f_X7_heightAt G h o v9).bind fun v10 => ct_lt (ct_wr ((ct_wr (v4 - a1)) * (ct_wr (v8 - a1)))) fun v11 => ct_lt (ct_wr ((ct_wr (v6 - a1)) * (ct_wr (v10 - a1)))) fun v12 => if (h.1 o 2) = 0 then (some 1) else if (h.1 o 2) = 1 then (some 0) else if (h.1 o 2) = 2 then (if (ct_wr ((ct_wr ((ct_wr (v4 + v6)) + v8)) + v10)) < (ct_wr (4 * a1)) then (some 0) else some 1) else if (h.1 o 2) = 3 then ((ct_dv a2 (ct_wr ((h.1 o 1) + 1))).bind fun v17 => (ct_md a2 (ct_wr ((h.1 o 1) + 1))).bind fun v18 => (ct_md (ct_wr (v17 + v18)) 2).bind fun v19 => if v19 = 0 then (some 1) else some 0) else if v1 = 5 then (if v11 < v12 then (some 0) else some 1) else if v12 < v11 then (some 0) else some 1
set_option maxRecDepth 100000 in
theorem e_X7_isJoined {d : Nat} {G : ct_G} {h : ct_H} (o : Nat) (a1 : Int) (a2 : Int) : ct_E m_X7_isJoined (d + 3) G (ct_args 0 [.inr (.inr (7, o)), .inl a1, .inl a2]) h (fun r : Int => (some (.inl r : ct_PV), h)) (f_X7_isJoined G h o a1 a2) := by
  intro x C
  unfold f_X7_isJoined
  show ct_Z x m_X7_isJoined G 0 [(0, .inr (.inr (7, o))), (1, .inl a1), (2, .inl a2)] [] h (fun a => ct_q x G ((fun r : Int => (some (.inl r : ct_PV), h)) a)) _
  refine ct_zrun C (k' := 3) (y := ([(0, .inr (.inr (7, o))), (1, .inl a1), (2, .inl a2)], [.inl a2, .inl a1, .inr (.inr (7, o))], h)) 3 rfl rfl rfl ?_
  refine ct_zV C (pc := 3) (aux := 0) [.inl a1, .inl a2] [] ok_X7_caseOf lk_X7_217 (e_X7_caseOf o a1 a2) rfl rfl rfl rfl rfl rfl rfl rfl (fun v1 => ?_)
  refine ct_zrun C (k' := 6) (y := ([(3, .inl v1), (0, .inr (.inr (7, o))), (1, .inl a1), (2, .inl a2)], [.inl v1], h)) 2 rfl rfl rfl ?_
  refine ct_zS C (pc := 8) (aux := 0) [.inl v1] [] ok_X7_isSaddle lk_X7_220 (e_X7_isSaddle v1) rfl rfl rfl rfl rfl rfl (fun v2 => ?_)
  refine ct_zf0 C (pc := 11) (aux := 0) (cn := .ne) (off := 5) (k' := 10) (a := v2) Iff.rfl rfl rfl rfl (fun e25 => ?_) (fun e25 => ?_)
  · refine ct_zrun C (k' := 9) (y := ([(3, .inl v1), (0, .inr (.inr (7, o))), (1, .inl a1), (2, .inl a2)], [.inl 0], h)) 1 rfl rfl rfl ?_
    exact ct_zret C (pc := 15) (aux := 0) (ins := .ireturn) (ρ := (fun r : Int => (some (.inl r : ct_PV), h))) (some (.inl 0)) rfl rfl rfl ⟨rfl, Or.inr ⟨rfl, Or.inl rfl⟩⟩
  · refine ct_zrun C (k' := 14) (y := ([(3, .inl v1), (0, .inr (.inr (7, o))), (1, .inl a1), (2, .inl a2)], [.inl 0, .inl a2, .inr (.inr (7, o)), .inr (.inr (7, o))], h)) 4 rfl rfl rfl ?_
    refine ct_zV C (pc := 20) (aux := 0) [.inl a2, .inl 0] [.inr (.inr (7, o))] ok_X7_cornerAt lk_X7_211 (e_X7_cornerAt o a2 0) rfl rfl rfl rfl rfl rfl rfl rfl (fun v3 => ?_)
    refine ct_zV C (pc := 23) (aux := 0) [.inl v3] [] ok_X7_heightAt lk_X7_214 (e_X7_heightAt o v3) rfl rfl rfl rfl rfl rfl rfl rfl (fun v4 => ?_)
    refine ct_zrun C (k' := 21) (y := ([(4, .inl v4), (3, .inl v1), (0, .inr (.inr (7, o))), (1, .inl a1), (2, .inl a2)], [.inl 1, .inl a2, .inr (.inr (7, o)), .inr (.inr (7, o))], h)) 5 rfl rfl rfl ?_
    refine ct_zV C (pc := 32) (aux := 0) [.inl a2, .inl 1] [.inr (.inr (7, o))] ok_X7_cornerAt lk_X7_211 (e_X7_cornerAt o a2 1) rfl rfl rfl rfl rfl rfl rfl rfl (fun v5 => ?_)
    refine ct_zV C (pc := 35) (aux := 0) [.inl v5] [] ok_X7_heightAt lk_X7_214 (e_X7_heightAt o v5) rfl rfl rfl rfl rfl rfl rfl rfl (fun v6 => ?_)
    refine ct_zrun C (k' := 28) (y := ([(5, .inl v6), (4, .inl v4), (3, .inl v1), (0, .inr (.inr (7, o))), (1, .inl a1), (2, .inl a2)], [.inl 2, .inl a2, .inr (.inr (7, o)), .inr (.inr (7, o))], h)) 5 rfl rfl rfl ?_
    refine ct_zV C (pc := 44) (aux := 0) [.inl a2, .inl 2] [.inr (.inr (7, o))] ok_X7_cornerAt lk_X7_211 (e_X7_cornerAt o a2 2) rfl rfl rfl rfl rfl rfl rfl rfl (fun v7 => ?_)
    refine ct_zV C (pc := 47) (aux := 0) [.inl v7] [] ok_X7_heightAt lk_X7_214 (e_X7_heightAt o v7) rfl rfl rfl rfl rfl rfl rfl rfl (fun v8 => ?_)
    refine ct_zrun C (k' := 35) (y := ([(6, .inl v8), (5, .inl v6), (4, .inl v4), (3, .inl v1), (0, .inr (.inr (7, o))), (1, .inl a1), (2, .inl a2)], [.inl 3, .inl a2, .inr (.inr (7, o)), .inr (.inr (7, o))], h)) 5 rfl rfl rfl ?_
    refine ct_zV C (pc := 56) (aux := 0) [.inl a2, .inl 3] [.inr (.inr (7, o))] ok_X7_cornerAt lk_X7_211 (e_X7_cornerAt o a2 3) rfl rfl rfl rfl rfl rfl rfl rfl (fun v9 => ?_)
    refine ct_zV C (pc := 59) (aux := 0) [.inl v9] [] ok_X7_heightAt lk_X7_214 (e_X7_heightAt o v9) rfl rfl rfl rfl rfl rfl rfl rfl (fun v10 => ?_)
    refine ct_zrun C (k' := 46) (y := ([(8, .inl (ct_wr ((ct_wr (v4 - a1)) * (ct_wr (v8 - a1))))), (7, .inl v10), (6, .inl v8), (5, .inl v6), (4, .inl v4), (3, .inl v1), (0, .inr (.inr (7, o))), (1, .inl a1), (2, .inl a2)], [], h)) 9 rfl rfl rfl ?_
    refine ct_zlet (L := fun v11 => [(8, .inl v11), (7, .inl v10), (6, .inl v8), (5, .inl v6), (4, .inl v4), (3, .inl v1), (0, .inr (.inr (7, o))), (1, .inl a1), (2, .inl a2)]) (S := fun _ => []) (Hh := fun _ => h) (a := (ct_wr ((ct_wr (v4 - a1)) * (ct_wr (v8 - a1))))) (fun v11 => ?_)
    refine ct_zrun C (k' := 54) (y := ([(9, .inl (ct_wr ((ct_wr (v6 - a1)) * (ct_wr (v10 - a1))))), (8, .inl v11), (7, .inl v10), (6, .inl v8), (5, .inl v6), (4, .inl v4), (3, .inl v1), (0, .inr (.inr (7, o))), (1, .inl a1), (2, .inl a2)], [], h)) 8 rfl rfl rfl ?_
    refine ct_zlet (L := fun v12 => [(9, .inl v12), (8, .inl v11), (7, .inl v10), (6, .inl v8), (5, .inl v6), (4, .inl v4), (3, .inl v1), (0, .inr (.inr (7, o))), (1, .inl a1), (2, .inl a2)]) (S := fun _ => []) (Hh := fun _ => h) (a := (ct_wr ((ct_wr (v6 - a1)) * (ct_wr (v10 - a1))))) (fun v12 => ?_)
    refine ct_zrun C (k' := 56) (y := ([(9, .inl v12), (8, .inl v11), (7, .inl v10), (6, .inl v8), (5, .inl v6), (4, .inl v4), (3, .inl v1), (0, .inr (.inr (7, o))), (1, .inl a1), (2, .inl a2)], [.inl (h.1 o 2)], h)) 2 rfl rfl rfl ?_
    refine ct_zsplit (fun e13 => ?_) (fun e13 => ?_)
    · refine ct_zsw C (off := 30) (k' := 57) rfl (by rw [e13]; rfl) rfl ?_
      refine ct_zrun C (k' := 58) (y := ([(9, .inl v12), (8, .inl v11), (7, .inl v10), (6, .inl v8), (5, .inl v6), (4, .inl v4), (3, .inl v1), (0, .inr (.inr (7, o))), (1, .inl a1), (2, .inl a2)], [.inl 1], h)) 1 rfl rfl rfl ?_
      exact ct_zret C (pc := 121) (aux := 0) (ins := .ireturn) (ρ := (fun r : Int => (some (.inl r : ct_PV), h))) (some (.inl 1)) rfl rfl rfl ⟨rfl, Or.inr ⟨rfl, Or.inr rfl⟩⟩
    · refine ct_zsplit (fun e14 => ?_) (fun e14 => ?_)
      · refine ct_zsw C (off := 32) (k' := 59) rfl (by rw [e14]; rfl) rfl ?_
        refine ct_zrun C (k' := 60) (y := ([(9, .inl v12), (8, .inl v11), (7, .inl v10), (6, .inl v8), (5, .inl v6), (4, .inl v4), (3, .inl v1), (0, .inr (.inr (7, o))), (1, .inl a1), (2, .inl a2)], [.inl 0], h)) 1 rfl rfl rfl ?_
        exact ct_zret C (pc := 123) (aux := 0) (ins := .ireturn) (ρ := (fun r : Int => (some (.inl r : ct_PV), h))) (some (.inl 0)) rfl rfl rfl ⟨rfl, Or.inr ⟨rfl, Or.inl rfl⟩⟩
      · refine ct_zsplit (fun e16 => ?_) (fun e16 => ?_)
        · refine ct_zsw C (off := 34) (k' := 61) rfl (by rw [e16]; rfl) rfl ?_
          refine ct_zrun C (k' := 71) (y := ([(9, .inl v12), (8, .inl v11), (7, .inl v10), (6, .inl v8), (5, .inl v6), (4, .inl v4), (3, .inl v1), (0, .inr (.inr (7, o))), (1, .inl a1), (2, .inl a2)], [.inl (ct_wr (4 * a1)), .inl (ct_wr ((ct_wr ((ct_wr (v4 + v6)) + v8)) + v10))], h)) 10 rfl rfl rfl ?_
          refine ct_zt C (pc := 138) (aux := 0) (cn := .lt) (off := 7) (k' := 74) (a := (ct_wr ((ct_wr ((ct_wr (v4 + v6)) + v8)) + v10))) (b := (ct_wr (4 * a1))) Iff.rfl rfl rfl rfl (fun e15 => ?_) (fun e15 => ?_)
          · refine ct_zrun C (k' := 75) (y := ([(9, .inl v12), (8, .inl v11), (7, .inl v10), (6, .inl v8), (5, .inl v6), (4, .inl v4), (3, .inl v1), (0, .inr (.inr (7, o))), (1, .inl a1), (2, .inl a2)], [.inl 0], h)) 1 rfl rfl rfl ?_
            exact ct_zret C (pc := 146) (aux := 0) (ins := .ireturn) (ρ := (fun r : Int => (some (.inl r : ct_PV), h))) (some (.inl 0)) rfl rfl rfl ⟨rfl, Or.inr ⟨rfl, Or.inl rfl⟩⟩
          · refine ct_zrun C (k' := 73) (y := ([(9, .inl v12), (8, .inl v11), (7, .inl v10), (6, .inl v8), (5, .inl v6), (4, .inl v4), (3, .inl v1), (0, .inr (.inr (7, o))), (1, .inl a1), (2, .inl a2)], [.inl 1], h)) 1 rfl rfl rfl ?_
            refine ct_zgoto C (pc := 142) (aux := 0) (off := 4) (k' := 75) rfl rfl ?_
            exact ct_zret C (pc := 146) (aux := 0) (ins := .ireturn) (ρ := (fun r : Int => (some (.inl r : ct_PV), h))) (some (.inl 1)) rfl rfl rfl ⟨rfl, Or.inr ⟨rfl, Or.inr rfl⟩⟩
        · refine ct_zsplit (fun e21 => ?_) (fun e21 => ?_)
          · refine ct_zsw C (off := 57) (k' := 76) rfl (by rw [e21]; rfl) rfl ?_
            refine ct_zrun C (k' := 81) (y := ([(9, .inl v12), (8, .inl v11), (7, .inl v10), (6, .inl v8), (5, .inl v6), (4, .inl v4), (3, .inl v1), (0, .inr (.inr (7, o))), (1, .inl a1), (2, .inl a2)], [.inl (ct_wr ((h.1 o 1) + 1)), .inl a2], h)) 5 rfl rfl rfl ?_
            refine ct_zdv C (pc := 154) (aux := 0) rfl rfl (fun v17 => ?_)
            refine ct_zrun C (k' := 87) (y := ([(9, .inl v12), (8, .inl v11), (7, .inl v10), (6, .inl v8), (5, .inl v6), (4, .inl v4), (3, .inl v1), (0, .inr (.inr (7, o))), (1, .inl a1), (2, .inl a2)], [.inl (ct_wr ((h.1 o 1) + 1)), .inl a2, .inl v17], h)) 5 rfl rfl rfl ?_
            refine ct_zmd C (pc := 162) (aux := 0) rfl rfl (fun v18 => ?_)
            refine ct_zrun C (k' := 90) (y := ([(9, .inl v12), (8, .inl v11), (7, .inl v10), (6, .inl v8), (5, .inl v6), (4, .inl v4), (3, .inl v1), (0, .inr (.inr (7, o))), (1, .inl a1), (2, .inl a2)], [.inl 2, .inl (ct_wr (v17 + v18))], h)) 2 rfl rfl rfl ?_
            refine ct_zmd C (pc := 165) (aux := 0) rfl rfl (fun v19 => ?_)
            refine ct_zf0 C (pc := 166) (aux := 0) (cn := .ne) (off := 7) (k' := 94) (a := v19) Iff.rfl rfl rfl rfl (fun e20 => ?_) (fun e20 => ?_)
            · refine ct_zrun C (k' := 93) (y := ([(9, .inl v12), (8, .inl v11), (7, .inl v10), (6, .inl v8), (5, .inl v6), (4, .inl v4), (3, .inl v1), (0, .inr (.inr (7, o))), (1, .inl a1), (2, .inl a2)], [.inl 1], h)) 1 rfl rfl rfl ?_
              refine ct_zgoto C (pc := 170) (aux := 0) (off := 4) (k' := 95) rfl rfl ?_
              exact ct_zret C (pc := 174) (aux := 0) (ins := .ireturn) (ρ := (fun r : Int => (some (.inl r : ct_PV), h))) (some (.inl 1)) rfl rfl rfl ⟨rfl, Or.inr ⟨rfl, Or.inr rfl⟩⟩
            · refine ct_zrun C (k' := 95) (y := ([(9, .inl v12), (8, .inl v11), (7, .inl v10), (6, .inl v8), (5, .inl v6), (4, .inl v4), (3, .inl v1), (0, .inr (.inr (7, o))), (1, .inl a1), (2, .inl a2)], [.inl 0], h)) 1 rfl rfl rfl ?_
              exact ct_zret C (pc := 174) (aux := 0) (ins := .ireturn) (ρ := (fun r : Int => (some (.inl r : ct_PV), h))) (some (.inl 0)) rfl rfl rfl ⟨rfl, Or.inr ⟨rfl, Or.inl rfl⟩⟩
          · refine ct_zsw C (off := 85) (k' := 96) rfl (by show (if _ then _ else _) = _; rw [if_pos (by omega)]) rfl ?_
            refine ct_zrun C (k' := 98) (y := ([(9, .inl v12), (8, .inl v11), (7, .inl v10), (6, .inl v8), (5, .inl v6), (4, .inl v4), (3, .inl v1), (0, .inr (.inr (7, o))), (1, .inl a1), (2, .inl a2)], [.inl 5, .inl v1], h)) 2 rfl rfl rfl ?_
            refine ct_zf C (pc := 177) (aux := 0) (cn := .ne) (off := 18) (k' := 106) (a := v1) (b := 5) Iff.rfl rfl rfl rfl (fun e24 => ?_) (fun e24 => ?_)
            · refine ct_zrun C (k' := 101) (y := ([(9, .inl v12), (8, .inl v11), (7, .inl v10), (6, .inl v8), (5, .inl v6), (4, .inl v4), (3, .inl v1), (0, .inr (.inr (7, o))), (1, .inl a1), (2, .inl a2)], [.inl v12, .inl v11], h)) 2 rfl rfl rfl ?_
              refine ct_zt C (pc := 184) (aux := 0) (cn := .lt) (off := 7) (k' := 104) (a := v11) (b := v12) Iff.rfl rfl rfl rfl (fun e23 => ?_) (fun e23 => ?_)
              · refine ct_zrun C (k' := 105) (y := ([(9, .inl v12), (8, .inl v11), (7, .inl v10), (6, .inl v8), (5, .inl v6), (4, .inl v4), (3, .inl v1), (0, .inr (.inr (7, o))), (1, .inl a1), (2, .inl a2)], [.inl 0], h)) 1 rfl rfl rfl ?_
                refine ct_zgoto C (pc := 192) (aux := 0) (off := 15) (k' := 112) rfl rfl ?_
                exact ct_zret C (pc := 207) (aux := 0) (ins := .ireturn) (ρ := (fun r : Int => (some (.inl r : ct_PV), h))) (some (.inl 0)) rfl rfl rfl ⟨rfl, Or.inr ⟨rfl, Or.inl rfl⟩⟩
              · refine ct_zrun C (k' := 103) (y := ([(9, .inl v12), (8, .inl v11), (7, .inl v10), (6, .inl v8), (5, .inl v6), (4, .inl v4), (3, .inl v1), (0, .inr (.inr (7, o))), (1, .inl a1), (2, .inl a2)], [.inl 1], h)) 1 rfl rfl rfl ?_
                refine ct_zgoto C (pc := 188) (aux := 0) (off := 19) (k' := 112) rfl rfl ?_
                exact ct_zret C (pc := 207) (aux := 0) (ins := .ireturn) (ρ := (fun r : Int => (some (.inl r : ct_PV), h))) (some (.inl 1)) rfl rfl rfl ⟨rfl, Or.inr ⟨rfl, Or.inr rfl⟩⟩
            · refine ct_zrun C (k' := 108) (y := ([(9, .inl v12), (8, .inl v11), (7, .inl v10), (6, .inl v8), (5, .inl v6), (4, .inl v4), (3, .inl v1), (0, .inr (.inr (7, o))), (1, .inl a1), (2, .inl a2)], [.inl v11, .inl v12], h)) 2 rfl rfl rfl ?_
              refine ct_zt C (pc := 199) (aux := 0) (cn := .lt) (off := 7) (k' := 111) (a := v12) (b := v11) Iff.rfl rfl rfl rfl (fun e22 => ?_) (fun e22 => ?_)
              · refine ct_zrun C (k' := 112) (y := ([(9, .inl v12), (8, .inl v11), (7, .inl v10), (6, .inl v8), (5, .inl v6), (4, .inl v4), (3, .inl v1), (0, .inr (.inr (7, o))), (1, .inl a1), (2, .inl a2)], [.inl 0], h)) 1 rfl rfl rfl ?_
                exact ct_zret C (pc := 207) (aux := 0) (ins := .ireturn) (ρ := (fun r : Int => (some (.inl r : ct_PV), h))) (some (.inl 0)) rfl rfl rfl ⟨rfl, Or.inr ⟨rfl, Or.inl rfl⟩⟩
              · refine ct_zrun C (k' := 110) (y := ([(9, .inl v12), (8, .inl v11), (7, .inl v10), (6, .inl v8), (5, .inl v6), (4, .inl v4), (3, .inl v1), (0, .inr (.inr (7, o))), (1, .inl a1), (2, .inl a2)], [.inl 1], h)) 1 rfl rfl rfl ?_
                refine ct_zgoto C (pc := 203) (aux := 0) (off := 4) (k' := 112) rfl rfl ?_
                exact ct_zret C (pc := 207) (aux := 0) (ins := .ireturn) (ρ := (fun r : Int => (some (.inl r : ct_PV), h))) (some (.inl 1)) rfl rfl rfl ⟨rfl, Or.inr ⟨rfl, Or.inr rfl⟩⟩
def f_X7_isBack (G : ct_G) (h : ct_H) (o : Nat) (a1 : Int) (a2 : Int) : Option (Int) := (ct_dv a2 2).bind fun v1 => (f_X7_heightAt G h o v1).bind fun v2 => ct_jn (β := Int) (fun k4 => if v2 < a1 then (k4 0) else k4 1) (fun b3 => (ct_md a2 2).bind fun v6 => if v6 = 0 then ((ct_bz b3).bind fun _ => some b3) else if b3 = 0 then (some 1) else some 0)
set_option maxRecDepth 100000 in
theorem e_X7_isBack {d : Nat} {G : ct_G} {h : ct_H} (o : Nat) (a1 : Int) (a2 : Int) : ct_E m_X7_isBack (d + 2) G (ct_args 0 [.inr (.inr (7, o)), .inl a1, .inl a2]) h (fun r : Int => (some (.inl r : ct_PV), h)) (f_X7_isBack G h o a1 a2) := by
  intro x C
  unfold f_X7_isBack
  show ct_Z x m_X7_isBack G 0 [(0, .inr (.inr (7, o))), (1, .inl a1), (2, .inl a2)] [] h (fun a => ct_q x G ((fun r : Int => (some (.inl r : ct_PV), h)) a)) _
  refine ct_zrun C (k' := 3) (y := ([(0, .inr (.inr (7, o))), (1, .inl a1), (2, .inl a2)], [.inl 2, .inl a2, .inr (.inr (7, o))], h)) 3 rfl rfl rfl ?_
  refine ct_zdv C (pc := 3) (aux := 0) rfl rfl (fun v1 => ?_)
  refine ct_zV C (pc := 4) (aux := 0) [.inl v1] [] ok_X7_heightAt lk_X7_214 (e_X7_heightAt o v1) rfl rfl rfl rfl rfl rfl rfl rfl (fun v2 => ?_)
  refine ct_zrun C (k' := 6) (y := ([(0, .inr (.inr (7, o))), (1, .inl a1), (2, .inl a2)], [.inl a1, .inl v2], h)) 1 rfl rfl rfl ?_
  refine ct_zjn (β := Int) (kJ := 10) (L := fun b3 => [(2, .inl a2)]) (S := fun b3 => [.inl b3]) (Hh := fun b3 => h) (fun b3 => ?_) (fun k4 z5 => ?_)
  · refine ct_zrun C (k' := 13) (y := ([(3, .inl b3), (2, .inl a2)], [.inl 2, .inl a2], h)) 3 rfl rfl rfl ?_
    refine ct_zmd C (pc := 19) (aux := 0) rfl rfl (fun v6 => ?_)
    refine ct_zf0 C (pc := 20) (aux := 0) (cn := .ne) (off := 7) (k' := 17) (a := v6) Iff.rfl rfl rfl rfl (fun e9 => ?_) (fun e9 => ?_)
    · refine ct_zrun C (k' := 16) (y := ([(3, .inl b3), (2, .inl a2)], [.inl b3], h)) 1 rfl rfl rfl ?_
      refine ct_zgoto C (pc := 24) (aux := 0) (off := 12) (k' := 22) rfl rfl ?_
      refine ct_zbz (F := fun _ => some b3) (fun z8 => ?_)
      exact ct_zret C (pc := 36) (aux := 0) (ins := .ireturn) (ρ := (fun r : Int => (some (.inl r : ct_PV), h))) (some (.inl b3)) rfl rfl rfl ⟨rfl, Or.inr ⟨rfl, z8⟩⟩
    · refine ct_zrun C (k' := 18) (y := ([(3, .inl b3), (2, .inl a2)], [.inl b3], h)) 1 rfl rfl rfl ?_
      refine ct_zf0 C (pc := 28) (aux := 0) (cn := .ne) (off := 7) (k' := 21) (a := b3) Iff.rfl rfl rfl rfl (fun e7 => ?_) (fun e7 => ?_)
      · refine ct_zrun C (k' := 20) (y := ([(3, .inl b3), (2, .inl a2)], [.inl 1], h)) 1 rfl rfl rfl ?_
        refine ct_zgoto C (pc := 32) (aux := 0) (off := 4) (k' := 22) rfl rfl ?_
        exact ct_zret C (pc := 36) (aux := 0) (ins := .ireturn) (ρ := (fun r : Int => (some (.inl r : ct_PV), h))) (some (.inl 1)) rfl rfl rfl ⟨rfl, Or.inr ⟨rfl, Or.inr rfl⟩⟩
      · refine ct_zrun C (k' := 22) (y := ([(3, .inl b3), (2, .inl a2)], [.inl 0], h)) 1 rfl rfl rfl ?_
        exact ct_zret C (pc := 36) (aux := 0) (ins := .ireturn) (ρ := (fun r : Int => (some (.inl r : ct_PV), h))) (some (.inl 0)) rfl rfl rfl ⟨rfl, Or.inr ⟨rfl, Or.inl rfl⟩⟩
  · refine ct_zt C (pc := 8) (aux := 0) (cn := .lt) (off := 7) (k' := 9) (a := v2) (b := a1) Iff.rfl rfl rfl rfl (fun e10 => ?_) (fun e10 => ?_)
    · refine ct_zrun C (k' := 10) (y := ([(0, .inr (.inr (7, o))), (1, .inl a1), (2, .inl a2)], [.inl 0], h)) 1 rfl rfl rfl ?_
      exact ct_zsub [2] rfl (z5 0)
    · refine ct_zrun C (k' := 8) (y := ([(0, .inr (.inr (7, o))), (1, .inl a1), (2, .inl a2)], [.inl 1], h)) 1 rfl rfl rfl ?_
      refine ct_zgoto C (pc := 12) (aux := 0) (off := 4) (k' := 10) rfl rfl ?_
      exact ct_zsub [2] rfl (z5 1)
def f_X7_signOf (G : ct_G) (h : ct_H) (o : Nat) (a1 : Int) (a2 : Int) : Option (Int) := (f_X7_isBack G h o a1 a2).bind fun v1 => (ct_md a2 2).bind fun v2 => if v2 = 0 then (if v1 = 0 then (some 100) else some 117) else if v1 = 0 then (some 114) else some 108
set_option maxRecDepth 100000 in
theorem e_X7_signOf {d : Nat} {G : ct_G} {h : ct_H} (o : Nat) (a1 : Int) (a2 : Int) : ct_E m_X7_signOf (d + 3) G (ct_args 0 [.inr (.inr (7, o)), .inl a1, .inl a2]) h (fun r : Int => (some (.inl r : ct_PV), h)) (f_X7_signOf G h o a1 a2) := by
  intro x C
  unfold f_X7_signOf
  show ct_Z x m_X7_signOf G 0 [(0, .inr (.inr (7, o))), (1, .inl a1), (2, .inl a2)] [] h (fun a => ct_q x G ((fun r : Int => (some (.inl r : ct_PV), h)) a)) _
  refine ct_zrun C (k' := 3) (y := ([(0, .inr (.inr (7, o))), (1, .inl a1), (2, .inl a2)], [.inl a2, .inl a1, .inr (.inr (7, o))], h)) 3 rfl rfl rfl ?_
  refine ct_zV C (pc := 3) (aux := 0) [.inl a1, .inl a2] [] ok_X7_isBack lk_X7_223 (e_X7_isBack o a1 a2) rfl rfl rfl rfl rfl rfl rfl rfl (fun v1 => ?_)
  refine ct_zrun C (k' := 7) (y := ([(3, .inl v1), (0, .inr (.inr (7, o))), (1, .inl a1), (2, .inl a2)], [.inl 2, .inl a2], h)) 3 rfl rfl rfl ?_
  refine ct_zmd C (pc := 9) (aux := 0) rfl rfl (fun v2 => ?_)
  refine ct_zf0 C (pc := 10) (aux := 0) (cn := .ne) (off := 17) (k' := 15) (a := v2) Iff.rfl rfl rfl rfl (fun e5 => ?_) (fun e5 => ?_)
  · refine ct_zrun C (k' := 10) (y := ([(3, .inl v1), (0, .inr (.inr (7, o))), (1, .inl a1), (2, .inl a2)], [.inl v1], h)) 1 rfl rfl rfl ?_
    refine ct_zt0 C (pc := 14) (aux := 0) (cn := .eq) (off := 8) (k' := 13) (a := v1) Iff.rfl rfl rfl rfl (fun e4 => ?_) (fun e4 => ?_)
    · refine ct_zrun C (k' := 14) (y := ([(3, .inl v1), (0, .inr (.inr (7, o))), (1, .inl a1), (2, .inl a2)], [.inl 100], h)) 1 rfl rfl rfl ?_
      refine ct_zgoto C (pc := 24) (aux := 0) (off := 14) (k' := 20) rfl rfl ?_
      exact ct_zret C (pc := 38) (aux := 0) (ins := .ireturn) (ρ := (fun r : Int => (some (.inl r : ct_PV), h))) (some (.inl 100)) rfl rfl rfl ⟨rfl, Or.inl rfl⟩
    · refine ct_zrun C (k' := 12) (y := ([(3, .inl v1), (0, .inr (.inr (7, o))), (1, .inl a1), (2, .inl a2)], [.inl 117], h)) 1 rfl rfl rfl ?_
      refine ct_zgoto C (pc := 19) (aux := 0) (off := 19) (k' := 20) rfl rfl ?_
      exact ct_zret C (pc := 38) (aux := 0) (ins := .ireturn) (ρ := (fun r : Int => (some (.inl r : ct_PV), h))) (some (.inl 117)) rfl rfl rfl ⟨rfl, Or.inl rfl⟩
  · refine ct_zrun C (k' := 16) (y := ([(3, .inl v1), (0, .inr (.inr (7, o))), (1, .inl a1), (2, .inl a2)], [.inl v1], h)) 1 rfl rfl rfl ?_
    refine ct_zt0 C (pc := 28) (aux := 0) (cn := .eq) (off := 8) (k' := 19) (a := v1) Iff.rfl rfl rfl rfl (fun e3 => ?_) (fun e3 => ?_)
    · refine ct_zrun C (k' := 20) (y := ([(3, .inl v1), (0, .inr (.inr (7, o))), (1, .inl a1), (2, .inl a2)], [.inl 114], h)) 1 rfl rfl rfl ?_
      exact ct_zret C (pc := 38) (aux := 0) (ins := .ireturn) (ρ := (fun r : Int => (some (.inl r : ct_PV), h))) (some (.inl 114)) rfl rfl rfl ⟨rfl, Or.inl rfl⟩
    · refine ct_zrun C (k' := 18) (y := ([(3, .inl v1), (0, .inr (.inr (7, o))), (1, .inl a1), (2, .inl a2)], [.inl 108], h)) 1 rfl rfl rfl ?_
      refine ct_zgoto C (pc := 33) (aux := 0) (off := 5) (k' := 20) rfl rfl ?_
      exact ct_zret C (pc := 38) (aux := 0) (ins := .ireturn) (ρ := (fun r : Int => (some (.inl r : ct_PV), h))) (some (.inl 108)) rfl rfl rfl ⟨rfl, Or.inl rfl⟩
def f_X7_leadsTo (G : ct_G) (h : ct_H) (o : Nat) (a1 : Int) (a2 : Int) : Option (Int) := (ct_dv a2 2).bind fun v1 => (f_X7_row G h o v1).bind fun v2 => ct_lt (ct_wr (v2 + 1)) fun v3 => (ct_dv a2 2).bind fun v4 => (f_X7_column G h o v4).bind fun v5 => ct_lt (ct_wr (v5 + 1)) fun v6 => (ct_md a2 2).bind fun v7 => if v7 = 0 then ((f_X7_isBack G h o a1 a2).bind fun v10 => if v10 = 0 then (some (ct_wr ((ct_wr ((ct_wr ((h.1 o 1) + 1)) * v3)) + v6))) else some (ct_wr ((ct_wr ((ct_wr ((h.1 o 1) + 1)) * (ct_wr (v3 - 1)))) + v6))) else (f_X7_isBack G h o a1 a2).bind fun v8 => if v8 = 0 then (some (ct_wr ((ct_wr ((ct_wr ((h.1 o 1) + 1)) * v3)) + v6))) else some (ct_wr ((ct_wr ((ct_wr ((h.1 o 1) + 1)) * v3)) + (ct_wr (v6 - 1))))
set_option maxRecDepth 100000 in
theorem e_X7_leadsTo {d : Nat} {G : ct_G} {h : ct_H} (o : Nat) (a1 : Int) (a2 : Int) : ct_E m_X7_leadsTo (d + 3) G (ct_args 0 [.inr (.inr (7, o)), .inl a1, .inl a2]) h (fun r : Int => (some (.inl r : ct_PV), h)) (f_X7_leadsTo G h o a1 a2) := by
  intro x C
  unfold f_X7_leadsTo
  show ct_Z x m_X7_leadsTo G 0 [(0, .inr (.inr (7, o))), (1, .inl a1), (2, .inl a2)] [] h (fun a => ct_q x G ((fun r : Int => (some (.inl r : ct_PV), h)) a)) _
  refine ct_zrun C (k' := 3) (y := ([(0, .inr (.inr (7, o))), (1, .inl a1), (2, .inl a2)], [.inl 2, .inl a2, .inr (.inr (7, o))], h)) 3 rfl rfl rfl ?_
  refine ct_zdv C (pc := 3) (aux := 0) rfl rfl (fun v1 => ?_)
  refine ct_zV C (pc := 4) (aux := 0) [.inl v1] [] ok_X7_row lk_X7_199 (e_X7_row o v1) rfl rfl rfl rfl rfl rfl rfl rfl (fun v2 => ?_)
  refine ct_zrun C (k' := 8) (y := ([(3, .inl (ct_wr (v2 + 1))), (0, .inr (.inr (7, o))), (1, .inl a1), (2, .inl a2)], [], h)) 3 rfl rfl rfl ?_
  refine ct_zlet (L := fun v3 => [(3, .inl v3), (0, .inr (.inr (7, o))), (1, .inl a1), (2, .inl a2)]) (S := fun _ => []) (Hh := fun _ => h) (a := (ct_wr (v2 + 1))) (fun v3 => ?_)
  refine ct_zrun C (k' := 11) (y := ([(3, .inl v3), (0, .inr (.inr (7, o))), (1, .inl a1), (2, .inl a2)], [.inl 2, .inl a2, .inr (.inr (7, o))], h)) 3 rfl rfl rfl ?_
  refine ct_zdv C (pc := 13) (aux := 0) rfl rfl (fun v4 => ?_)
  refine ct_zV C (pc := 14) (aux := 0) [.inl v4] [] ok_X7_column lk_X7_202 (e_X7_column o v4) rfl rfl rfl rfl rfl rfl rfl rfl (fun v5 => ?_)
  refine ct_zrun C (k' := 16) (y := ([(4, .inl (ct_wr (v5 + 1))), (3, .inl v3), (0, .inr (.inr (7, o))), (1, .inl a1), (2, .inl a2)], [], h)) 3 rfl rfl rfl ?_
  refine ct_zlet (L := fun v6 => [(4, .inl v6), (3, .inl v3), (0, .inr (.inr (7, o))), (1, .inl a1), (2, .inl a2)]) (S := fun _ => []) (Hh := fun _ => h) (a := (ct_wr (v5 + 1))) (fun v6 => ?_)
  refine ct_zrun C (k' := 18) (y := ([(4, .inl v6), (3, .inl v3), (0, .inr (.inr (7, o))), (1, .inl a1), (2, .inl a2)], [.inl 2, .inl a2], h)) 2 rfl rfl rfl ?_
  refine ct_zmd C (pc := 23) (aux := 0) rfl rfl (fun v7 => ?_)
  refine ct_zf0 C (pc := 24) (aux := 0) (cn := .ne) (off := 30) (k' := 38) (a := v7) Iff.rfl rfl rfl rfl (fun e12 => ?_) (fun e12 => ?_)
  · refine ct_zrun C (k' := 27) (y := ([(4, .inl v6), (3, .inl v3), (0, .inr (.inr (7, o))), (1, .inl a1), (2, .inl a2)], [.inl a2, .inl a1, .inr (.inr (7, o)), .inl (ct_wr ((h.1 o 1) + 1))], h)) 7 rfl rfl rfl ?_
    refine ct_zV C (pc := 36) (aux := 0) [.inl a1, .inl a2] [.inl (ct_wr ((h.1 o 1) + 1))] ok_X7_isBack lk_X7_223 (e_X7_isBack o a1 a2) rfl rfl rfl rfl rfl rfl rfl rfl (fun v10 => ?_)
    refine ct_zt0 C (pc := 39) (aux := 0) (cn := .eq) (off := 9) (k' := 33) (a := v10) Iff.rfl rfl rfl rfl (fun e11 => ?_) (fun e11 => ?_)
    · refine ct_zrun C (k' := 37) (y := ([(4, .inl v6), (3, .inl v3), (0, .inr (.inr (7, o))), (1, .inl a1), (2, .inl a2)], [.inl (ct_wr ((ct_wr ((ct_wr ((h.1 o 1) + 1)) * v3)) + v6))], h)) 4 rfl rfl rfl ?_
      exact ct_zret C (pc := 53) (aux := 0) (ins := .ireturn) (ρ := (fun r : Int => (some (.inl r : ct_PV), h))) (some (.inl (ct_wr ((ct_wr ((ct_wr ((h.1 o 1) + 1)) * v3)) + v6)))) rfl rfl rfl ⟨rfl, Or.inl rfl⟩
    · refine ct_zrun C (k' := 32) (y := ([(4, .inl v6), (3, .inl v3), (0, .inr (.inr (7, o))), (1, .inl a1), (2, .inl a2)], [.inl (ct_wr (v3 - 1)), .inl (ct_wr ((h.1 o 1) + 1))], h)) 3 rfl rfl rfl ?_
      refine ct_zgoto C (pc := 45) (aux := 0) (off := 4) (k' := 34) rfl rfl ?_
      refine ct_zrun C (k' := 37) (y := ([(4, .inl v6), (3, .inl v3), (0, .inr (.inr (7, o))), (1, .inl a1), (2, .inl a2)], [.inl (ct_wr ((ct_wr ((ct_wr ((h.1 o 1) + 1)) * (ct_wr (v3 - 1)))) + v6))], h)) 3 rfl rfl rfl ?_
      exact ct_zret C (pc := 53) (aux := 0) (ins := .ireturn) (ρ := (fun r : Int => (some (.inl r : ct_PV), h))) (some (.inl (ct_wr ((ct_wr ((ct_wr ((h.1 o 1) + 1)) * (ct_wr (v3 - 1)))) + v6)))) rfl rfl rfl ⟨rfl, Or.inl rfl⟩
  · refine ct_zrun C (k' := 47) (y := ([(4, .inl v6), (3, .inl v3), (0, .inr (.inr (7, o))), (1, .inl a1), (2, .inl a2)], [.inl a2, .inl a1, .inr (.inr (7, o)), .inl (ct_wr ((ct_wr ((h.1 o 1) + 1)) * v3))], h)) 9 rfl rfl rfl ?_
    refine ct_zV C (pc := 65) (aux := 0) [.inl a1, .inl a2] [.inl (ct_wr ((ct_wr ((h.1 o 1) + 1)) * v3))] ok_X7_isBack lk_X7_223 (e_X7_isBack o a1 a2) rfl rfl rfl rfl rfl rfl rfl rfl (fun v8 => ?_)
    refine ct_zt0 C (pc := 68) (aux := 0) (cn := .eq) (off := 10) (k' := 53) (a := v8) Iff.rfl rfl rfl rfl (fun e9 => ?_) (fun e9 => ?_)
    · refine ct_zrun C (k' := 55) (y := ([(4, .inl v6), (3, .inl v3), (0, .inr (.inr (7, o))), (1, .inl a1), (2, .inl a2)], [.inl (ct_wr ((ct_wr ((ct_wr ((h.1 o 1) + 1)) * v3)) + v6))], h)) 2 rfl rfl rfl ?_
      exact ct_zret C (pc := 81) (aux := 0) (ins := .ireturn) (ρ := (fun r : Int => (some (.inl r : ct_PV), h))) (some (.inl (ct_wr ((ct_wr ((ct_wr ((h.1 o 1) + 1)) * v3)) + v6)))) rfl rfl rfl ⟨rfl, Or.inl rfl⟩
    · refine ct_zrun C (k' := 52) (y := ([(4, .inl v6), (3, .inl v3), (0, .inr (.inr (7, o))), (1, .inl a1), (2, .inl a2)], [.inl (ct_wr (v6 - 1)), .inl (ct_wr ((ct_wr ((h.1 o 1) + 1)) * v3))], h)) 3 rfl rfl rfl ?_
      refine ct_zgoto C (pc := 75) (aux := 0) (off := 5) (k' := 54) rfl rfl ?_
      refine ct_zrun C (k' := 55) (y := ([(4, .inl v6), (3, .inl v3), (0, .inr (.inr (7, o))), (1, .inl a1), (2, .inl a2)], [.inl (ct_wr ((ct_wr ((ct_wr ((h.1 o 1) + 1)) * v3)) + (ct_wr (v6 - 1))))], h)) 1 rfl rfl rfl ?_
      exact ct_zret C (pc := 81) (aux := 0) (ins := .ireturn) (ρ := (fun r : Int => (some (.inl r : ct_PV), h))) (some (.inl (ct_wr ((ct_wr ((ct_wr ((h.1 o 1) + 1)) * v3)) + (ct_wr (v6 - 1)))))) rfl rfl rfl ⟨rfl, Or.inl rfl⟩
def f_X7_edgeAt (G : ct_G) (h : ct_H) (o : Nat) (a1 : Int) (a2 : Int) : Option (Int) := (f_X7_cornerOf G h o a1).bind fun v1 => if a2 = 0 then (some (ct_wr (2 * v1))) else if a2 = 1 then (some (ct_wr ((ct_wr (2 * v1)) + 3))) else if a2 = 2 then (some (ct_wr (2 * (ct_wr ((ct_wr (v1 + (h.1 o 1))) + 2))))) else some (ct_wr ((ct_wr (2 * v1)) + 1))
set_option maxRecDepth 100000 in
theorem e_X7_edgeAt {d : Nat} {G : ct_G} {h : ct_H} (o : Nat) (a1 : Int) (a2 : Int) : ct_E m_X7_edgeAt (d + 1) G (ct_args 0 [.inr (.inr (7, o)), .inl a1, .inl a2]) h (fun r : Int => (some (.inl r : ct_PV), h)) (f_X7_edgeAt G h o a1 a2) := by
  intro x C
  unfold f_X7_edgeAt
  show ct_Z x m_X7_edgeAt G 0 [(0, .inr (.inr (7, o))), (1, .inl a1), (2, .inl a2)] [] h (fun a => ct_q x G ((fun r : Int => (some (.inl r : ct_PV), h)) a)) _
  refine ct_zrun C (k' := 2) (y := ([(0, .inr (.inr (7, o))), (1, .inl a1), (2, .inl a2)], [.inl a1, .inr (.inr (7, o))], h)) 2 rfl rfl rfl ?_
  refine ct_zV C (pc := 2) (aux := 0) [.inl a1] [] ok_X7_cornerOf lk_X7_208 (e_X7_cornerOf o a1) rfl rfl rfl rfl rfl rfl rfl rfl (fun v1 => ?_)
  refine ct_zrun C (k' := 5) (y := ([(3, .inl v1), (0, .inr (.inr (7, o))), (1, .inl a1), (2, .inl a2)], [.inl a2], h)) 2 rfl rfl rfl ?_
  refine ct_zf0 C (pc := 7) (aux := 0) (cn := .ne) (off := 9) (k' := 10) (a := a2) Iff.rfl rfl rfl rfl (fun e4 => ?_) (fun e4 => ?_)
  · refine ct_zrun C (k' := 9) (y := ([(3, .inl v1), (0, .inr (.inr (7, o))), (1, .inl a1), (2, .inl a2)], [.inl (ct_wr (2 * v1))], h)) 3 rfl rfl rfl ?_
    refine ct_zgoto C (pc := 13) (aux := 0) (off := 39) (k' := 36) rfl rfl ?_
    exact ct_zret C (pc := 52) (aux := 0) (ins := .ireturn) (ρ := (fun r : Int => (some (.inl r : ct_PV), h))) (some (.inl (ct_wr (2 * v1)))) rfl rfl rfl ⟨rfl, Or.inl rfl⟩
  · refine ct_zrun C (k' := 12) (y := ([(3, .inl v1), (0, .inr (.inr (7, o))), (1, .inl a1), (2, .inl a2)], [.inl 1, .inl a2], h)) 2 rfl rfl rfl ?_
    refine ct_zf C (pc := 18) (aux := 0) (cn := .ne) (off := 11) (k' := 19) (a := a2) (b := 1) Iff.rfl rfl rfl rfl (fun e3 => ?_) (fun e3 => ?_)
    · refine ct_zrun C (k' := 18) (y := ([(3, .inl v1), (0, .inr (.inr (7, o))), (1, .inl a1), (2, .inl a2)], [.inl (ct_wr ((ct_wr (2 * v1)) + 3))], h)) 5 rfl rfl rfl ?_
      refine ct_zgoto C (pc := 26) (aux := 0) (off := 26) (k' := 36) rfl rfl ?_
      exact ct_zret C (pc := 52) (aux := 0) (ins := .ireturn) (ρ := (fun r : Int => (some (.inl r : ct_PV), h))) (some (.inl (ct_wr ((ct_wr (2 * v1)) + 3)))) rfl rfl rfl ⟨rfl, Or.inl rfl⟩
    · refine ct_zrun C (k' := 21) (y := ([(3, .inl v1), (0, .inr (.inr (7, o))), (1, .inl a1), (2, .inl a2)], [.inl 2, .inl a2], h)) 2 rfl rfl rfl ?_
      refine ct_zf C (pc := 31) (aux := 0) (cn := .ne) (off := 16) (k' := 31) (a := a2) (b := 2) Iff.rfl rfl rfl rfl (fun e2 => ?_) (fun e2 => ?_)
      · refine ct_zrun C (k' := 30) (y := ([(3, .inl v1), (0, .inr (.inr (7, o))), (1, .inl a1), (2, .inl a2)], [.inl (ct_wr (2 * (ct_wr ((ct_wr (v1 + (h.1 o 1))) + 2))))], h)) 8 rfl rfl rfl ?_
        refine ct_zgoto C (pc := 44) (aux := 0) (off := 8) (k' := 36) rfl rfl ?_
        exact ct_zret C (pc := 52) (aux := 0) (ins := .ireturn) (ρ := (fun r : Int => (some (.inl r : ct_PV), h))) (some (.inl (ct_wr (2 * (ct_wr ((ct_wr (v1 + (h.1 o 1))) + 2)))))) rfl rfl rfl ⟨rfl, Or.inl rfl⟩
      · refine ct_zrun C (k' := 36) (y := ([(3, .inl v1), (0, .inr (.inr (7, o))), (1, .inl a1), (2, .inl a2)], [.inl (ct_wr ((ct_wr (2 * v1)) + 1))], h)) 5 rfl rfl rfl ?_
        exact ct_zret C (pc := 52) (aux := 0) (ins := .ireturn) (ρ := (fun r : Int => (some (.inl r : ct_PV), h))) (some (.inl (ct_wr ((ct_wr (2 * v1)) + 1)))) rfl rfl rfl ⟨rfl, Or.inl rfl⟩
def l_X7_behind_7 (G : ct_G) (o : Nat) (a2 : Int) (h : ct_H) (v1 : Int) (k4 : Int → Option (Int)) : Nat → Int → Option (Int)
  | 0, _ => none
  | n3 + 1, b2 => (f_X7_edgeAt G h o v1 b2).bind fun v7 => if v7 = a2 then (k4 b2) else l_X7_behind_7 G o a2 h v1 k4 n3 (ct_wr (b2 + 1))
set_option maxRecDepth 100000 in
theorem zl_X7_behind_7 {x : ct_Ctx} {d : Nat} {G : ct_G} (C : ct_c x m_X7_behind G (d + 4)) (o : Nat) (a1 : Int) (a2 : Int) (h : ct_H) (v1 : Int) (k4 : Int → Option (Int)) (z5 : ∀ b6 : Int, ct_Z x m_X7_behind G 15 [(0, .inr (.inr (7, o))), (1, .inl a1), (3, .inl v1), (4, .inl b6)] [] h (fun a => ct_q x G ((fun r : Int => (some (.inl r : ct_PV), h)) a)) (k4 b6)) : ∀ (n3 : Nat) (b2 : Int), ct_Z x m_X7_behind G 7 [(0, .inr (.inr (7, o))), (1, .inl a1), (2, .inl a2), (3, .inl v1), (4, .inl b2)] [] h (fun a => ct_q x G ((fun r : Int => (some (.inl r : ct_PV), h)) a)) (l_X7_behind_7 G o a2 h v1 k4 n3 b2) := by
  intro n3
  induction n3 with
  | zero => intro b2; exact ct_znone
  | succ n3 ih =>
    intro b2
    rw [l_X7_behind_7]
    refine ct_zrun C (k' := 10) (y := ([(0, .inr (.inr (7, o))), (1, .inl a1), (2, .inl a2), (3, .inl v1), (4, .inl b2)], [.inl b2, .inl v1, .inr (.inr (7, o))], h)) 3 rfl rfl rfl ?_
    refine ct_zV C (pc := 14) (aux := 0) [.inl v1, .inl b2] [] ok_X7_edgeAt lk_X7_230 (e_X7_edgeAt o v1 b2) rfl rfl rfl rfl rfl rfl rfl rfl (fun v7 => ?_)
    refine ct_zrun C (k' := 12) (y := ([(0, .inr (.inr (7, o))), (1, .inl a1), (2, .inl a2), (3, .inl v1), (4, .inl b2)], [.inl a2, .inl v7], h)) 1 rfl rfl rfl ?_
    refine ct_zt C (pc := 18) (aux := 0) (cn := .eq) (off := 9) (k' := 15) (a := v7) (b := a2) Iff.rfl rfl rfl rfl (fun e8 => ?_) (fun e8 => ?_)
    · exact ct_zsub [0, 1, 3, 4] rfl (z5 b2)
    · refine ct_zrun C (k' := 14) (y := ([(4, .inl (ct_wr (b2 + 1))), (0, .inr (.inr (7, o))), (1, .inl a1), (2, .inl a2), (3, .inl v1)], [], h)) 1 rfl rfl rfl ?_
      refine ct_zgoto C (pc := 24) (aux := 0) (off := (-14)) (k' := 7) rfl rfl ?_
      exact ct_zsub [1, 2, 3, 4, 0] rfl (ih (ct_wr (b2 + 1)))
def l_X7_behind_53 (G : ct_G) (o : Nat) (h : ct_H) (v1 : Int) (b9 : Int) (k14 : Int → Option (Int)) : Nat → Int → Option (Int)
  | 0, _ => none
  | n13 + 1, b12 => ct_jn (β := Unit) (fun k18 => if b12 = b9 then (k18 ()) else (f_X7_edgeAt G h o v1 b12).bind fun v20 => (ct_rd G h (G.1 o 10) v20).bind fun v21 => if v21 = 0 then (k18 ()) else k14 b12) (fun b17 => l_X7_behind_53 G o h v1 b9 k14 n13 (ct_wr (b12 + 1)))
set_option maxRecDepth 100000 in
theorem zl_X7_behind_53 {x : ct_Ctx} {d : Nat} {G : ct_G} (C : ct_c x m_X7_behind G (d + 4)) (o : Nat) (h : ct_H) (v1 : Int) (b9 : Int) (k14 : Int → Option (Int)) (z15 : ∀ b16 : Int, ct_Z x m_X7_behind G 66 [(0, .inr (.inr (7, o))), (3, .inl v1), (6, .inl b16)] [] h (fun a => ct_q x G ((fun r : Int => (some (.inl r : ct_PV), h)) a)) (k14 b16)) : ∀ (n13 : Nat) (b12 : Int), ct_Z x m_X7_behind G 53 [(0, .inr (.inr (7, o))), (3, .inl v1), (4, .inl b9), (6, .inl b12)] [] h (fun a => ct_q x G ((fun r : Int => (some (.inl r : ct_PV), h)) a)) (l_X7_behind_53 G o h v1 b9 k14 n13 b12) := by
  intro n13
  induction n13 with
  | zero => intro b12; exact ct_znone
  | succ n13 ih =>
    intro b12
    rw [l_X7_behind_53]
    refine ct_zrun C (k' := 55) (y := ([(0, .inr (.inr (7, o))), (3, .inl v1), (4, .inl b9), (6, .inl b12)], [.inl b9, .inl b12], h)) 2 rfl rfl rfl ?_
    refine ct_zjn (β := Unit) (kJ := 64) (L := fun b17 => [(0, .inr (.inr (7, o))), (3, .inl v1), (4, .inl b9), (6, .inl b12)]) (S := fun b17 => []) (Hh := fun b17 => h) (fun b17 => ?_) (fun k18 z19 => ?_)
    · refine ct_zrun C (k' := 65) (y := ([(6, .inl (ct_wr (b12 + 1))), (0, .inr (.inr (7, o))), (3, .inl v1), (4, .inl b9)], [], h)) 1 rfl rfl rfl ?_
      refine ct_zgoto C (pc := 121) (aux := 0) (off := (-25)) (k' := 53) rfl rfl ?_
      exact ct_zsub [1, 2, 3, 0] rfl (ih (ct_wr (b12 + 1)))
    · refine ct_zt C (pc := 100) (aux := 0) (cn := .eq) (off := 18) (k' := 64) (a := b12) (b := b9) Iff.rfl rfl rfl rfl (fun e23 => ?_) (fun e23 => ?_)
      · exact ct_zsub [0, 1, 2, 3] rfl (z19 ())
      · refine ct_zrun C (k' := 61) (y := ([(0, .inr (.inr (7, o))), (3, .inl v1), (4, .inl b9), (6, .inl b12)], [.inl b12, .inl v1, .inr (.inr (7, o)), .inr (.inr (10, (G.1 o 10)))], h)) 5 rfl rfl rfl ?_
        refine ct_zV C (pc := 111) (aux := 0) [.inl v1, .inl b12] [.inr (.inr (10, (G.1 o 10)))] ok_X7_edgeAt lk_X7_230 (e_X7_edgeAt o v1 b12) rfl rfl rfl rfl rfl rfl rfl rfl (fun v20 => ?_)
        refine ct_zrd C (pc := 114) (aux := 0) (ins := .baload) (cd := 10) rfl rfl (Or.inr (Or.inr ⟨rfl, rfl⟩)) (fun v21 => ?_)
        refine ct_zf0 C (pc := 115) (aux := 0) (cn := .ne) (off := 9) (k' := 66) (a := v21) Iff.rfl rfl rfl rfl (fun e22 => ?_) (fun e22 => ?_)
        · exact ct_zsub [0, 1, 2, 3] rfl (z19 ())
        · exact ct_zsub [0, 1, 3] rfl (z15 b12)
def f_X7_behind (G : ct_G) (h : ct_H) (o : Nat) (a1 : Int) (a2 : Int) : Option (Int) := (f_X7_leadsTo G h o a1 a2).bind fun v1 => l_X7_behind_7 G o a2 h v1 (fun b9 => (f_X7_caseOf G h o a1 v1).bind fun v10 => (f_X7_isSaddle G h v10).bind fun v11 => if v11 = 0 then (l_X7_behind_53 G o h v1 b9 (fun b24 => (f_X7_edgeAt G h o v1 b24).bind fun v25 => some v25) 200 0) else ct_jn (β := Int) (fun k27 => if v10 = 10 then (k27 1) else k27 0) (fun b26 => (f_X7_isJoined G h o a1 v1).bind fun v29 => ct_jn (β := Int) (fun k31 => if b26 = v29 then (k31 1) else k31 0) (fun b30 => ct_jn (β := Int) (fun k34 => if b30 = 0 then (k34 (ct_bop (fun x y => x ^^^ y) b9 1)) else k34 (ct_wr (3 - b9))) (fun b33 => (f_X7_edgeAt G h o v1 b33).bind fun v36 => some v36)))) 200 0
set_option maxRecDepth 100000 in
theorem e_X7_behind {d : Nat} {G : ct_G} {h : ct_H} (o : Nat) (a1 : Int) (a2 : Int) : ct_E m_X7_behind (d + 4) G (ct_args 0 [.inr (.inr (7, o)), .inl a1, .inl a2]) h (fun r : Int => (some (.inl r : ct_PV), h)) (f_X7_behind G h o a1 a2) := by
  intro x C
  unfold f_X7_behind
  show ct_Z x m_X7_behind G 0 [(0, .inr (.inr (7, o))), (1, .inl a1), (2, .inl a2)] [] h (fun a => ct_q x G ((fun r : Int => (some (.inl r : ct_PV), h)) a)) _
  refine ct_zrun C (k' := 3) (y := ([(0, .inr (.inr (7, o))), (1, .inl a1), (2, .inl a2)], [.inl a2, .inl a1, .inr (.inr (7, o))], h)) 3 rfl rfl rfl ?_
  refine ct_zV C (pc := 3) (aux := 0) [.inl a1, .inl a2] [] ok_X7_leadsTo lk_X7_227 (e_X7_leadsTo o a1 a2) rfl rfl rfl rfl rfl rfl rfl rfl (fun v1 => ?_)
  refine ct_zrun C (k' := 7) (y := ([(4, .inl 0), (3, .inl v1), (0, .inr (.inr (7, o))), (1, .inl a1), (2, .inl a2)], [], h)) 3 rfl rfl rfl ?_
  refine ct_zsub [2, 3, 4, 1, 0] rfl (zl_X7_behind_7 C o a1 a2 h v1 _ (fun b9 => ?_) 200 0)
  refine ct_zrun C (k' := 18) (y := ([(0, .inr (.inr (7, o))), (1, .inl a1), (3, .inl v1), (4, .inl b9)], [.inl v1, .inl a1, .inr (.inr (7, o))], h)) 3 rfl rfl rfl ?_
  refine ct_zV C (pc := 30) (aux := 0) [.inl a1, .inl v1] [] ok_X7_caseOf lk_X7_217 (e_X7_caseOf o a1 v1) rfl rfl rfl rfl rfl rfl rfl rfl (fun v10 => ?_)
  refine ct_zrun C (k' := 21) (y := ([(5, .inl v10), (0, .inr (.inr (7, o))), (1, .inl a1), (3, .inl v1), (4, .inl b9)], [.inl v10], h)) 2 rfl rfl rfl ?_
  refine ct_zS C (pc := 37) (aux := 0) [.inl v10] [] ok_X7_isSaddle lk_X7_220 (e_X7_isSaddle v10) rfl rfl rfl rfl rfl rfl (fun v11 => ?_)
  refine ct_zt0 C (pc := 40) (aux := 0) (cn := .eq) (off := 53) (k' := 51) (a := v11) Iff.rfl rfl rfl rfl (fun e40 => ?_) (fun e40 => ?_)
  · refine ct_zrun C (k' := 53) (y := ([(6, .inl 0), (5, .inl v10), (0, .inr (.inr (7, o))), (1, .inl a1), (3, .inl v1), (4, .inl b9)], [], h)) 2 rfl rfl rfl ?_
    refine ct_zsub [2, 4, 5, 0] rfl (zl_X7_behind_53 C o h v1 b9 _ (fun b24 => ?_) 200 0)
    refine ct_zrun C (k' := 69) (y := ([(0, .inr (.inr (7, o))), (3, .inl v1), (6, .inl b24)], [.inl b24, .inl v1, .inr (.inr (7, o))], h)) 3 rfl rfl rfl ?_
    refine ct_zV C (pc := 128) (aux := 0) [.inl v1, .inl b24] [] ok_X7_edgeAt lk_X7_230 (e_X7_edgeAt o v1 b24) rfl rfl rfl rfl rfl rfl rfl rfl (fun v25 => ?_)
    exact ct_zret C (pc := 131) (aux := 0) (ins := .ireturn) (ρ := (fun r : Int => (some (.inl r : ct_PV), h))) (some (.inl v25)) rfl rfl rfl ⟨rfl, Or.inl rfl⟩
  · refine ct_zrun C (k' := 25) (y := ([(5, .inl v10), (0, .inr (.inr (7, o))), (1, .inl a1), (3, .inl v1), (4, .inl b9)], [.inl 10, .inl v10], h)) 2 rfl rfl rfl ?_
    refine ct_zjn (β := Int) (kJ := 29) (L := fun b26 => [(0, .inr (.inr (7, o))), (1, .inl a1), (3, .inl v1), (4, .inl b9)]) (S := fun b26 => [.inl b26]) (Hh := fun b26 => h) (fun b26 => ?_) (fun k27 z28 => ?_)
    · refine ct_zrun C (k' := 32) (y := ([(0, .inr (.inr (7, o))), (1, .inl a1), (3, .inl v1), (4, .inl b9)], [.inl v1, .inl a1, .inr (.inr (7, o)), .inl b26], h)) 3 rfl rfl rfl ?_
      refine ct_zV C (pc := 58) (aux := 0) [.inl a1, .inl v1] [.inl b26] ok_X7_isJoined lk_X7_233 (e_X7_isJoined o a1 v1) rfl rfl rfl rfl rfl rfl rfl rfl (fun v29 => ?_)
      refine ct_zjn (β := Int) (kJ := 37) (L := fun b30 => [(0, .inr (.inr (7, o))), (3, .inl v1), (4, .inl b9)]) (S := fun b30 => [.inl b30]) (Hh := fun b30 => h) (fun b30 => ?_) (fun k31 z32 => ?_)
      · refine ct_zrun C (k' := 41) (y := ([(6, .inl b30), (0, .inr (.inr (7, o))), (3, .inl v1), (4, .inl b9)], [.inl b30, .inl v1, .inr (.inr (7, o))], h)) 4 rfl rfl rfl ?_
        refine ct_zjn (β := Int) (kJ := 49) (L := fun b33 => []) (S := fun b33 => [.inl b33, .inl v1, .inr (.inr (7, o))]) (Hh := fun b33 => h) (fun b33 => ?_) (fun k34 z35 => ?_)
        · refine ct_zV C (pc := 89) (aux := 0) [.inl v1, .inl b33] [] ok_X7_edgeAt lk_X7_230 (e_X7_edgeAt o v1 b33) rfl rfl rfl rfl rfl rfl rfl rfl (fun v36 => ?_)
          exact ct_zret C (pc := 92) (aux := 0) (ins := .ireturn) (ρ := (fun r : Int => (some (.inl r : ct_PV), h))) (some (.inl v36)) rfl rfl rfl ⟨rfl, Or.inl rfl⟩
        · refine ct_zt0 C (pc := 75) (aux := 0) (cn := .eq) (off := 10) (k' := 46) (a := b30) Iff.rfl rfl rfl rfl (fun e37 => ?_) (fun e37 => ?_)
          · refine ct_zrun C (k' := 49) (y := ([(6, .inl b30), (0, .inr (.inr (7, o))), (3, .inl v1), (4, .inl b9)], [.inl (ct_bop (fun x y => x ^^^ y) b9 1), .inl v1, .inr (.inr (7, o))], h)) 3 rfl rfl rfl ?_
            exact ct_zsub [] rfl (z35 (ct_bop (fun x y => x ^^^ y) b9 1))
          · refine ct_zrun C (k' := 45) (y := ([(6, .inl b30), (0, .inr (.inr (7, o))), (3, .inl v1), (4, .inl b9)], [.inl (ct_wr (3 - b9)), .inl v1, .inr (.inr (7, o))], h)) 3 rfl rfl rfl ?_
            refine ct_zgoto C (pc := 82) (aux := 0) (off := 7) (k' := 49) rfl rfl ?_
            exact ct_zsub [] rfl (z35 (ct_wr (3 - b9)))
      · refine ct_zf C (pc := 61) (aux := 0) (cn := .ne) (off := 7) (k' := 36) (a := b26) (b := v29) Iff.rfl rfl rfl rfl (fun e38 => ?_) (fun e38 => ?_)
        · refine ct_zrun C (k' := 35) (y := ([(0, .inr (.inr (7, o))), (1, .inl a1), (3, .inl v1), (4, .inl b9)], [.inl 1], h)) 1 rfl rfl rfl ?_
          refine ct_zgoto C (pc := 65) (aux := 0) (off := 4) (k' := 37) rfl rfl ?_
          exact ct_zsub [0, 2, 3] rfl (z32 1)
        · refine ct_zrun C (k' := 37) (y := ([(0, .inr (.inr (7, o))), (1, .inl a1), (3, .inl v1), (4, .inl b9)], [.inl 0], h)) 1 rfl rfl rfl ?_
          exact ct_zsub [0, 2, 3] rfl (z32 0)
    · refine ct_zf C (pc := 47) (aux := 0) (cn := .ne) (off := 7) (k' := 28) (a := v10) (b := 10) Iff.rfl rfl rfl rfl (fun e39 => ?_) (fun e39 => ?_)
      · refine ct_zrun C (k' := 27) (y := ([(5, .inl v10), (0, .inr (.inr (7, o))), (1, .inl a1), (3, .inl v1), (4, .inl b9)], [.inl 1], h)) 1 rfl rfl rfl ?_
        refine ct_zgoto C (pc := 51) (aux := 0) (off := 4) (k' := 29) rfl rfl ?_
        exact ct_zsub [1, 2, 3, 4] rfl (z28 1)
      · refine ct_zrun C (k' := 29) (y := ([(5, .inl v10), (0, .inr (.inr (7, o))), (1, .inl a1), (3, .inl v1), (4, .inl b9)], [.inl 0], h)) 1 rfl rfl rfl ?_
        exact ct_zsub [1, 2, 3, 4] rfl (z28 0)
def l_X7_layLines_2 (G : ct_G) (o : Nat) (a1 : Int) (k3 : ct_H → Option (ct_H)) : Nat → (Int × ct_H) → Option (ct_H)
  | 0, _ => none
  | n2 + 1, b1 => if 162 ≤ b1.1 then (k3 (b1.2)) else (f_X7_isEdge G b1.2 o b1.1).bind fun v6 => ct_jn (β := Int) (fun k8 => ct_jn (β := Unit) (fun k13 => if v6 = 0 then (k13 ()) else (ct_dv b1.1 2).bind fun v15 => (f_X7_heightAt G b1.2 o v15).bind fun v16 => ct_jn (β := Int) (fun k18 => if v16 < a1 then (k18 0) else k18 1) (fun b17 => (f_X7_otherOf G b1.2 o b1.1).bind fun v20 => (f_X7_heightAt G b1.2 o v20).bind fun v21 => ct_jn (β := Int) (fun k23 => if v21 < a1 then (k23 0) else k23 1) (fun b22 => if b17 = b22 then (k13 ()) else k8 1))) (fun b12 => k8 0)) (fun b7 => (ct_wtZ G b1.2 (G.1 o 10) b1.1 b7).bind fun h10 => (ct_wt G h10 (G.1 o 11) b1.1 (-5)).bind fun h11 => l_X7_layLines_2 G o a1 k3 n2 ((ct_wr (b1.1 + 1)), h11))
set_option maxRecDepth 100000 in
theorem zl_X7_layLines_2 {x : ct_Ctx} {d : Nat} {G : ct_G} (C : ct_c x m_X7_layLines G (d + 5)) (o : Nat) (a1 : Int) (k3 : ct_H → Option (ct_H)) (z4 : ∀ b5 : ct_H, ct_Z x m_X7_layLines G 44 [(0, .inr (.inr (7, o))), (1, .inl a1)] [] b5 (fun a => ct_q x G ((fun r : ct_H => ((none : Option ct_PV), r)) a)) (k3 b5)) : ∀ (n2 : Nat) (b1 : Int × ct_H), ct_Z x m_X7_layLines G 2 [(0, .inr (.inr (7, o))), (1, .inl a1), (2, .inl (b1.1))] [] b1.2 (fun a => ct_q x G ((fun r : ct_H => ((none : Option ct_PV), r)) a)) (l_X7_layLines_2 G o a1 k3 n2 b1) := by
  intro n2
  induction n2 with
  | zero => intro b1; exact ct_znone
  | succ n2 ih =>
    intro b1
    rw [l_X7_layLines_2]
    refine ct_zrun C (k' := 4) (y := ([(0, .inr (.inr (7, o))), (1, .inl a1), (2, .inl (b1.1))], [.inl 162, .inl (b1.1)], b1.2)) 2 rfl rfl rfl ?_
    refine ct_zt C (pc := 6) (aux := 0) (cn := .ge) (off := 73) (k' := 44) (a := b1.1) (b := 162) Iff.rfl rfl rfl rfl (fun e29 => ?_) (fun e29 => ?_)
    · exact ct_zsub [0, 1] rfl (z4 (b1.2))
    · refine ct_zrun C (k' := 10) (y := ([(0, .inr (.inr (7, o))), (1, .inl a1), (2, .inl (b1.1))], [.inl (b1.1), .inr (.inr (7, o)), .inl (b1.1), .inr (.inr (10, (G.1 o 10)))], b1.2)) 5 rfl rfl rfl ?_
      refine ct_zV C (pc := 16) (aux := 0) [.inl (b1.1)] [.inl (b1.1), .inr (.inr (10, (G.1 o 10)))] ok_X7_isEdge lk_X7_236 (e_X7_isEdge o (b1.1)) rfl rfl rfl rfl rfl rfl rfl rfl (fun v6 => ?_)
      refine ct_zjn (β := Int) (kJ := 36) (L := fun b7 => [(0, .inr (.inr (7, o))), (1, .inl a1), (2, .inl (b1.1))]) (S := fun b7 => [.inl b7, .inl (b1.1), .inr (.inr (10, (G.1 o 10)))]) (Hh := fun b7 => b1.2) (fun b7 => ?_) (fun k8 z9 => ?_)
      · refine ct_zwtZ C (pc := 64) (aux := 0) rfl rfl (fun h10 => ?_)
        refine ct_zrun C (k' := 41) (y := ([(0, .inr (.inr (7, o))), (1, .inl a1), (2, .inl (b1.1))], [.inl (-5), .inl (b1.1), .inr (.inr (8, (G.1 o 11)))], h10)) 4 rfl rfl rfl ?_
        refine ct_zwt C (pc := 72) (aux := 0) rfl rfl (fun h11 => ?_)
        refine ct_zrun C (k' := 43) (y := ([(2, .inl (ct_wr (b1.1 + 1))), (0, .inr (.inr (7, o))), (1, .inl a1)], [], h11)) 1 rfl rfl rfl ?_
        refine ct_zgoto C (pc := 76) (aux := 0) (off := (-74)) (k' := 2) rfl rfl ?_
        exact ct_zsub [1, 2, 0] rfl (ih ((ct_wr (b1.1 + 1)), h11))
      · refine ct_zjn (β := Unit) (kJ := 35) (L := fun b12 => [(0, .inr (.inr (7, o))), (1, .inl a1), (2, .inl (b1.1))]) (S := fun b12 => [.inl (b1.1), .inr (.inr (10, (G.1 o 10)))]) (Hh := fun b12 => b1.2) (fun b12 => ?_) (fun k13 z14 => ?_)
        · refine ct_zrun C (k' := 36) (y := ([(0, .inr (.inr (7, o))), (1, .inl a1), (2, .inl (b1.1))], [.inl 0, .inl (b1.1), .inr (.inr (10, (G.1 o 10)))], b1.2)) 1 rfl rfl rfl ?_
          exact ct_zsub [0, 1, 2] rfl (z9 0)
        · refine ct_zt0 C (pc := 19) (aux := 0) (cn := .eq) (off := 44) (k' := 35) (a := v6) Iff.rfl rfl rfl rfl (fun e28 => ?_) (fun e28 => ?_)
          · exact ct_zsub [0, 1, 2] rfl (z14 ())
          · refine ct_zrun C (k' := 15) (y := ([(0, .inr (.inr (7, o))), (1, .inl a1), (2, .inl (b1.1))], [.inl 2, .inl (b1.1), .inr (.inr (7, o)), .inl (b1.1), .inr (.inr (10, (G.1 o 10)))], b1.2)) 3 rfl rfl rfl ?_
            refine ct_zdv C (pc := 25) (aux := 0) rfl rfl (fun v15 => ?_)
            refine ct_zV C (pc := 26) (aux := 0) [.inl v15] [.inl (b1.1), .inr (.inr (10, (G.1 o 10)))] ok_X7_heightAt lk_X7_214 (e_X7_heightAt o v15) rfl rfl rfl rfl rfl rfl rfl rfl (fun v16 => ?_)
            refine ct_zrun C (k' := 18) (y := ([(0, .inr (.inr (7, o))), (1, .inl a1), (2, .inl (b1.1))], [.inl a1, .inl v16, .inl (b1.1), .inr (.inr (10, (G.1 o 10)))], b1.2)) 1 rfl rfl rfl ?_
            refine ct_zjn (β := Int) (kJ := 22) (L := fun b17 => [(0, .inr (.inr (7, o))), (1, .inl a1), (2, .inl (b1.1))]) (S := fun b17 => [.inl b17, .inl (b1.1), .inr (.inr (10, (G.1 o 10)))]) (Hh := fun b17 => b1.2) (fun b17 => ?_) (fun k18 z19 => ?_)
            · refine ct_zrun C (k' := 25) (y := ([(0, .inr (.inr (7, o))), (1, .inl a1), (2, .inl (b1.1))], [.inl (b1.1), .inr (.inr (7, o)), .inr (.inr (7, o)), .inl b17, .inl (b1.1), .inr (.inr (10, (G.1 o 10)))], b1.2)) 3 rfl rfl rfl ?_
              refine ct_zV C (pc := 41) (aux := 0) [.inl (b1.1)] [.inr (.inr (7, o)), .inl b17, .inl (b1.1), .inr (.inr (10, (G.1 o 10)))] ok_X7_otherOf lk_X7_239 (e_X7_otherOf o (b1.1)) rfl rfl rfl rfl rfl rfl rfl rfl (fun v20 => ?_)
              refine ct_zV C (pc := 44) (aux := 0) [.inl v20] [.inl b17, .inl (b1.1), .inr (.inr (10, (G.1 o 10)))] ok_X7_heightAt lk_X7_214 (e_X7_heightAt o v20) rfl rfl rfl rfl rfl rfl rfl rfl (fun v21 => ?_)
              refine ct_zrun C (k' := 28) (y := ([(0, .inr (.inr (7, o))), (1, .inl a1), (2, .inl (b1.1))], [.inl a1, .inl v21, .inl b17, .inl (b1.1), .inr (.inr (10, (G.1 o 10)))], b1.2)) 1 rfl rfl rfl ?_
              refine ct_zjn (β := Int) (kJ := 32) (L := fun b22 => [(0, .inr (.inr (7, o))), (1, .inl a1), (2, .inl (b1.1))]) (S := fun b22 => [.inl b22, .inl b17, .inl (b1.1), .inr (.inr (10, (G.1 o 10)))]) (Hh := fun b22 => b1.2) (fun b22 => ?_) (fun k23 z24 => ?_)
              · refine ct_zt C (pc := 56) (aux := 0) (cn := .eq) (off := 7) (k' := 35) (a := b17) (b := b22) Iff.rfl rfl rfl rfl (fun e25 => ?_) (fun e25 => ?_)
                · exact ct_zsub [0, 1, 2] rfl (z14 ())
                · refine ct_zrun C (k' := 34) (y := ([(0, .inr (.inr (7, o))), (1, .inl a1), (2, .inl (b1.1))], [.inl 1, .inl (b1.1), .inr (.inr (10, (G.1 o 10)))], b1.2)) 1 rfl rfl rfl ?_
                  refine ct_zgoto C (pc := 60) (aux := 0) (off := 4) (k' := 36) rfl rfl ?_
                  exact ct_zsub [0, 1, 2] rfl (z9 1)
              · refine ct_zt C (pc := 48) (aux := 0) (cn := .lt) (off := 7) (k' := 31) (a := v21) (b := a1) Iff.rfl rfl rfl rfl (fun e26 => ?_) (fun e26 => ?_)
                · refine ct_zrun C (k' := 32) (y := ([(0, .inr (.inr (7, o))), (1, .inl a1), (2, .inl (b1.1))], [.inl 0, .inl b17, .inl (b1.1), .inr (.inr (10, (G.1 o 10)))], b1.2)) 1 rfl rfl rfl ?_
                  exact ct_zsub [0, 1, 2] rfl (z24 0)
                · refine ct_zrun C (k' := 30) (y := ([(0, .inr (.inr (7, o))), (1, .inl a1), (2, .inl (b1.1))], [.inl 1, .inl b17, .inl (b1.1), .inr (.inr (10, (G.1 o 10)))], b1.2)) 1 rfl rfl rfl ?_
                  refine ct_zgoto C (pc := 52) (aux := 0) (off := 4) (k' := 32) rfl rfl ?_
                  exact ct_zsub [0, 1, 2] rfl (z24 1)
            · refine ct_zt C (pc := 30) (aux := 0) (cn := .lt) (off := 7) (k' := 21) (a := v16) (b := a1) Iff.rfl rfl rfl rfl (fun e27 => ?_) (fun e27 => ?_)
              · refine ct_zrun C (k' := 22) (y := ([(0, .inr (.inr (7, o))), (1, .inl a1), (2, .inl (b1.1))], [.inl 0, .inl (b1.1), .inr (.inr (10, (G.1 o 10)))], b1.2)) 1 rfl rfl rfl ?_
                exact ct_zsub [0, 1, 2] rfl (z19 0)
              · refine ct_zrun C (k' := 20) (y := ([(0, .inr (.inr (7, o))), (1, .inl a1), (2, .inl (b1.1))], [.inl 1, .inl (b1.1), .inr (.inr (10, (G.1 o 10)))], b1.2)) 1 rfl rfl rfl ?_
                refine ct_zgoto C (pc := 34) (aux := 0) (off := 4) (k' := 22) rfl rfl ?_
                exact ct_zsub [0, 1, 2] rfl (z19 1)
def l_X7_layLines_76 (G : ct_G) (o : Nat) (a1 : Int) (k47 : ct_H → Option (ct_H)) : Nat → (Int × ct_H) → Option (ct_H)
  | 0, _ => none
  | n46 + 1, b45 => (ct_rd G b45.2 (G.1 o 11) b45.1).bind fun v50 => if v50 = (-5) then ((ct_wt G b45.2 (G.1 o 11) b45.1 (b45.2.1 o 14)).bind fun h51 => (ct_wt G h51 (G.1 o 12) (h51.1 o 15) b45.1).bind fun h52 => ct_lt (ct_wF h52 o 15 (ct_wr ((h52.1 o 15) + 1))) fun h53 => (f_X7_behind G h53 o a1 b45.1).bind fun v54 => l_X7_layLines_76 G o a1 k47 n46 (v54, h53)) else k47 (b45.2)
set_option maxRecDepth 100000 in
theorem zl_X7_layLines_76 {x : ct_Ctx} {d : Nat} {G : ct_G} (C : ct_c x m_X7_layLines G (d + 5)) (o : Nat) (a1 : Int) (p44 : Int) (k47 : ct_H → Option (ct_H)) (z48 : ∀ b49 : ct_H, ct_Z x m_X7_layLines G 106 [(0, .inr (.inr (7, o))), (1, .inl a1), (2, .inl p44)] [] b49 (fun a => ct_q x G ((fun r : ct_H => ((none : Option ct_PV), r)) a)) (k47 b49)) : ∀ (n46 : Nat) (b45 : Int × ct_H), ct_Z x m_X7_layLines G 76 [(0, .inr (.inr (7, o))), (1, .inl a1), (2, .inl p44), (3, .inl (b45.1))] [] b45.2 (fun a => ct_q x G ((fun r : ct_H => ((none : Option ct_PV), r)) a)) (l_X7_layLines_76 G o a1 k47 n46 b45) := by
  intro n46
  induction n46 with
  | zero => intro b45; exact ct_znone
  | succ n46 ih =>
    intro b45
    rw [l_X7_layLines_76]
    refine ct_zrun C (k' := 79) (y := ([(0, .inr (.inr (7, o))), (1, .inl a1), (2, .inl p44), (3, .inl (b45.1))], [.inl (b45.1), .inr (.inr (8, (G.1 o 11)))], b45.2)) 3 rfl rfl rfl ?_
    refine ct_zrd C (pc := 141) (aux := 0) (ins := .iaload) (cd := 8) rfl rfl (Or.inl ⟨rfl, rfl⟩) (fun v50 => ?_)
    refine ct_zrun C (k' := 81) (y := ([(0, .inr (.inr (7, o))), (1, .inl a1), (2, .inl p44), (3, .inl (b45.1))], [.inl (-5), .inl v50], b45.2)) 1 rfl rfl rfl ?_
    refine ct_zf C (pc := 144) (aux := 0) (cn := .ne) (off := 43) (k' := 106) (a := v50) (b := (-5)) Iff.rfl rfl rfl rfl (fun e55 => ?_) (fun e55 => ?_)
    · refine ct_zrun C (k' := 87) (y := ([(0, .inr (.inr (7, o))), (1, .inl a1), (2, .inl p44), (3, .inl (b45.1))], [.inl (b45.2.1 o 14), .inl (b45.1), .inr (.inr (8, (G.1 o 11)))], b45.2)) 5 rfl rfl rfl ?_
      refine ct_zwt C (pc := 156) (aux := 0) rfl rfl (fun h51 => ?_)
      refine ct_zrun C (k' := 93) (y := ([(0, .inr (.inr (7, o))), (1, .inl a1), (2, .inl p44), (3, .inl (b45.1))], [.inl (b45.1), .inl (h51.1 o 15), .inr (.inr (8, (G.1 o 12)))], h51)) 5 rfl rfl rfl ?_
      refine ct_zwt C (pc := 166) (aux := 0) rfl rfl (fun h52 => ?_)
      refine ct_zrun C (k' := 100) (y := ([(0, .inr (.inr (7, o))), (1, .inl a1), (2, .inl p44), (3, .inl (b45.1))], [], (ct_wF h52 o 15 (ct_wr ((h52.1 o 15) + 1))))) 6 rfl rfl rfl ?_
      refine ct_zlet (L := fun _ => [(0, .inr (.inr (7, o))), (1, .inl a1), (2, .inl p44), (3, .inl (b45.1))]) (S := fun _ => []) (Hh := fun h53 => h53) (a := (ct_wF h52 o 15 (ct_wr ((h52.1 o 15) + 1)))) (fun h53 => ?_)
      refine ct_zrun C (k' := 103) (y := ([(0, .inr (.inr (7, o))), (1, .inl a1), (2, .inl p44), (3, .inl (b45.1))], [.inl (b45.1), .inl a1, .inr (.inr (7, o))], h53)) 3 rfl rfl rfl ?_
      refine ct_zV C (pc := 180) (aux := 0) [.inl a1, .inl (b45.1)] [] ok_X7_behind lk_X7_248 (e_X7_behind o a1 (b45.1)) rfl rfl rfl rfl rfl rfl rfl rfl (fun v54 => ?_)
      refine ct_zrun C (k' := 105) (y := ([(3, .inl v54), (0, .inr (.inr (7, o))), (1, .inl a1), (2, .inl p44)], [], h53)) 1 rfl rfl rfl ?_
      refine ct_zgoto C (pc := 184) (aux := 0) (off := (-48)) (k' := 76) rfl rfl ?_
      exact ct_zsub [1, 2, 3, 0] rfl (ih (v54, h53))
    · exact ct_zsub [0, 1, 2] rfl (z48 (b45.2))
def l_X7_layLines_52 (G : ct_G) (o : Nat) (a1 : Int) (k35 : ct_H → Option (ct_H)) : Nat → (Int × ct_H) → Option (ct_H)
  | 0, _ => none
  | n34 + 1, b33 => if 162 ≤ b33.1 then (k35 (b33.2)) else (ct_rd G b33.2 (G.1 o 10) b33.1).bind fun v38 => ct_jn (β := ct_H) (fun k40 => if v38 = 0 then (k40 (b33.2)) else (ct_rd G b33.2 (G.1 o 11) b33.1).bind fun v42 => if v42 = (-5) then ((ct_wt G b33.2 (G.1 o 13) (b33.2.1 o 14) (b33.2.1 o 15)).bind fun h43 => l_X7_layLines_76 G o a1 (fun b56 => ct_lt (ct_wF b56 o 14 (ct_wr ((b56.1 o 14) + 1))) fun h57 => k40 h57) 200 (b33.1, h43)) else k40 (b33.2)) (fun b39 => l_X7_layLines_52 G o a1 k35 n34 ((ct_wr (b33.1 + 1)), b39))
set_option maxRecDepth 100000 in
theorem zl_X7_layLines_52 {x : ct_Ctx} {d : Nat} {G : ct_G} (C : ct_c x m_X7_layLines G (d + 5)) (o : Nat) (a1 : Int) (k35 : ct_H → Option (ct_H)) (z36 : ∀ b37 : ct_H, ct_Z x m_X7_layLines G 114 [(0, .inr (.inr (7, o)))] [] b37 (fun a => ct_q x G ((fun r : ct_H => ((none : Option ct_PV), r)) a)) (k35 b37)) : ∀ (n34 : Nat) (b33 : Int × ct_H), ct_Z x m_X7_layLines G 52 [(0, .inr (.inr (7, o))), (1, .inl a1), (2, .inl (b33.1))] [] b33.2 (fun a => ct_q x G ((fun r : ct_H => ((none : Option ct_PV), r)) a)) (l_X7_layLines_52 G o a1 k35 n34 b33) := by
  intro n34
  induction n34 with
  | zero => intro b33; exact ct_znone
  | succ n34 ih =>
    intro b33
    rw [l_X7_layLines_52]
    refine ct_zrun C (k' := 54) (y := ([(0, .inr (.inr (7, o))), (1, .inl a1), (2, .inl (b33.1))], [.inl 162, .inl (b33.1)], b33.2)) 2 rfl rfl rfl ?_
    refine ct_zt C (pc := 95) (aux := 0) (cn := .ge) (off := 108) (k' := 114) (a := b33.1) (b := 162) Iff.rfl rfl rfl rfl (fun e60 => ?_) (fun e60 => ?_)
    · exact ct_zsub [0] rfl (z36 (b33.2))
    · refine ct_zrun C (k' := 58) (y := ([(0, .inr (.inr (7, o))), (1, .inl a1), (2, .inl (b33.1))], [.inl (b33.1), .inr (.inr (10, (G.1 o 10)))], b33.2)) 3 rfl rfl rfl ?_
      refine ct_zrd C (pc := 103) (aux := 0) (ins := .baload) (cd := 10) rfl rfl (Or.inr (Or.inr ⟨rfl, rfl⟩)) (fun v38 => ?_)
      refine ct_zjn (β := ct_H) (kJ := 112) (L := fun b39 => [(0, .inr (.inr (7, o))), (1, .inl a1), (2, .inl (b33.1))]) (S := fun b39 => []) (Hh := fun b39 => b39) (fun b39 => ?_) (fun k40 z41 => ?_)
      · refine ct_zrun C (k' := 113) (y := ([(2, .inl (ct_wr (b33.1 + 1))), (0, .inr (.inr (7, o))), (1, .inl a1)], [], b39)) 1 rfl rfl rfl ?_
        refine ct_zgoto C (pc := 200) (aux := 0) (off := (-109)) (k' := 52) rfl rfl ?_
        exact ct_zsub [1, 2, 0] rfl (ih ((ct_wr (b33.1 + 1)), b39))
      · refine ct_zt0 C (pc := 104) (aux := 0) (cn := .eq) (off := 93) (k' := 112) (a := v38) Iff.rfl rfl rfl rfl (fun e59 => ?_) (fun e59 => ?_)
        · exact ct_zsub [0, 1, 2] rfl (z41 (b33.2))
        · refine ct_zrun C (k' := 63) (y := ([(0, .inr (.inr (7, o))), (1, .inl a1), (2, .inl (b33.1))], [.inl (b33.1), .inr (.inr (8, (G.1 o 11)))], b33.2)) 3 rfl rfl rfl ?_
          refine ct_zrd C (pc := 112) (aux := 0) (ins := .iaload) (cd := 8) rfl rfl (Or.inl ⟨rfl, rfl⟩) (fun v42 => ?_)
          refine ct_zrun C (k' := 65) (y := ([(0, .inr (.inr (7, o))), (1, .inl a1), (2, .inl (b33.1))], [.inl (-5), .inl v42], b33.2)) 1 rfl rfl rfl ?_
          refine ct_zt C (pc := 115) (aux := 0) (cn := .eq) (off := 6) (k' := 67) (a := v42) (b := (-5)) Iff.rfl rfl rfl rfl (fun e58 => ?_) (fun e58 => ?_)
          · refine ct_zrun C (k' := 73) (y := ([(0, .inr (.inr (7, o))), (1, .inl a1), (2, .inl (b33.1))], [.inl (b33.2.1 o 15), .inl (b33.2.1 o 14), .inr (.inr (8, (G.1 o 13)))], b33.2)) 6 rfl rfl rfl ?_
            refine ct_zwt C (pc := 133) (aux := 0) rfl rfl (fun h43 => ?_)
            refine ct_zrun C (k' := 76) (y := ([(3, .inl (b33.1)), (0, .inr (.inr (7, o))), (1, .inl a1), (2, .inl (b33.1))], [], h43)) 2 rfl rfl rfl ?_
            refine ct_zsub [1, 2, 3, 0] rfl (zl_X7_layLines_76 C o a1 (b33.1) _ (fun b56 => ?_) 200 (b33.1, h43))
            refine ct_zrun C (k' := 112) (y := ([(0, .inr (.inr (7, o))), (1, .inl a1), (2, .inl (b33.1))], [], (ct_wF b56 o 14 (ct_wr ((b56.1 o 14) + 1))))) 6 rfl rfl rfl ?_
            refine ct_zlet (L := fun _ => [(0, .inr (.inr (7, o))), (1, .inl a1), (2, .inl (b33.1))]) (S := fun _ => []) (Hh := fun h57 => h57) (a := (ct_wF b56 o 14 (ct_wr ((b56.1 o 14) + 1)))) (fun h57 => ?_)
            exact ct_zsub [0, 1, 2] rfl (z41 h57)
          · refine ct_zgoto C (pc := 118) (aux := 0) (off := 79) (k' := 112) rfl rfl ?_
            exact ct_zsub [0, 1, 2] rfl (z41 (b33.2))
def f_X7_layLines (G : ct_G) (h : ct_H) (o : Nat) (a1 : Int) : Option (ct_H) := l_X7_layLines_2 G o a1 (fun b30 => ct_lt (ct_wF b30 o 14 0) fun h31 => ct_lt (ct_wF h31 o 15 0) fun h32 => l_X7_layLines_52 G o a1 (fun b61 => (ct_wt G b61 (G.1 o 13) (b61.1 o 14) (b61.1 o 15)).bind fun h62 => some h62) 200 (0, h32)) 200 (0, h)
set_option maxRecDepth 100000 in
theorem e_X7_layLines {d : Nat} {G : ct_G} {h : ct_H} (o : Nat) (a1 : Int) : ct_E m_X7_layLines (d + 5) G (ct_args 0 [.inr (.inr (7, o)), .inl a1]) h (fun r : ct_H => ((none : Option ct_PV), r)) (f_X7_layLines G h o a1) := by
  intro x C
  unfold f_X7_layLines
  show ct_Z x m_X7_layLines G 0 [(0, .inr (.inr (7, o))), (1, .inl a1)] [] h (fun a => ct_q x G ((fun r : ct_H => ((none : Option ct_PV), r)) a)) _
  refine ct_zrun C (k' := 2) (y := ([(2, .inl 0), (0, .inr (.inr (7, o))), (1, .inl a1)], [], h)) 2 rfl rfl rfl ?_
  refine ct_zsub [1, 2, 0] rfl (zl_X7_layLines_2 C o a1 _ (fun b30 => ?_) 200 (0, h))
  refine ct_zrun C (k' := 47) (y := ([(0, .inr (.inr (7, o))), (1, .inl a1)], [], (ct_wF b30 o 14 0))) 3 rfl rfl rfl ?_
  refine ct_zlet (L := fun _ => [(0, .inr (.inr (7, o))), (1, .inl a1)]) (S := fun _ => []) (Hh := fun h31 => h31) (a := (ct_wF b30 o 14 0)) (fun h31 => ?_)
  refine ct_zrun C (k' := 50) (y := ([(0, .inr (.inr (7, o))), (1, .inl a1)], [], (ct_wF h31 o 15 0))) 3 rfl rfl rfl ?_
  refine ct_zlet (L := fun _ => [(0, .inr (.inr (7, o))), (1, .inl a1)]) (S := fun _ => []) (Hh := fun h32 => h32) (a := (ct_wF h31 o 15 0)) (fun h32 => ?_)
  refine ct_zrun C (k' := 52) (y := ([(2, .inl 0), (0, .inr (.inr (7, o))), (1, .inl a1)], [], h32)) 2 rfl rfl rfl ?_
  refine ct_zsub [1, 2, 0] rfl (zl_X7_layLines_52 C o a1 _ (fun b61 => ?_) 200 (0, h32))
  refine ct_zrun C (k' := 120) (y := ([(0, .inr (.inr (7, o)))], [.inl (b61.1 o 15), .inl (b61.1 o 14), .inr (.inr (8, (G.1 o 13)))], b61)) 6 rfl rfl rfl ?_
  refine ct_zwt C (pc := 215) (aux := 0) rfl rfl (fun h62 => ?_)
  exact ct_zret C (pc := 216) (aux := 0) (ins := .return_) (ρ := (fun r : ct_H => ((none : Option ct_PV), r))) none rfl rfl rfl ⟨rfl, rfl⟩
def l_X7_crossings_7 (G : ct_G) (o : Nat) (a1 : Int) (a2 : Int) (h : ct_H) : Nat → (Int × Int) → Option (Int)
  | 0, _ => none
  | n3 + 1, b2 => (ct_rd G h (G.1 o 13) (ct_wr (a1 + 1))).bind fun v4 => if v4 ≤ b2.2 then (some (b2.1)) else (ct_rd G h (G.1 o 12) b2.2).bind fun v5 => (ct_dv v5 2).bind fun v6 => (ct_rd G h (G.1 o 12) b2.2).bind fun v7 => (ct_md v7 2).bind fun v8 => ct_jn (β := Int) (fun k10 => if v8 = 0 then ((f_X7_row G h o v6).bind fun v12 => (f_X7_row G h o a2).bind fun v13 => if v12 = v13 then (if v6 < a2 then (k10 (b2.1)) else k10 (ct_wr (b2.1 + 1))) else k10 (b2.1)) else k10 (b2.1)) (fun b9 => l_X7_crossings_7 G o a1 a2 h n3 (b9, (ct_wr (b2.2 + 1))))
set_option maxRecDepth 100000 in
theorem zl_X7_crossings_7 {x : ct_Ctx} {d : Nat} {G : ct_G} (C : ct_c x m_X7_crossings G (d + 1)) (o : Nat) (a1 : Int) (a2 : Int) (h : ct_H) : ∀ (n3 : Nat) (b2 : Int × Int), ct_Z x m_X7_crossings G 7 [(0, .inr (.inr (7, o))), (1, .inl a1), (2, .inl a2), (3, .inl (b2.1)), (4, .inl (b2.2))] [] h (fun a => ct_q x G ((fun r : Int => (some (.inl r : ct_PV), h)) a)) (l_X7_crossings_7 G o a1 a2 h n3 b2) := by
  intro n3
  induction n3 with
  | zero => intro b2; exact ct_znone
  | succ n3 ih =>
    intro b2
    rw [l_X7_crossings_7]
    refine ct_zrun C (k' := 13) (y := ([(0, .inr (.inr (7, o))), (1, .inl a1), (2, .inl a2), (3, .inl (b2.1)), (4, .inl (b2.2))], [.inl (ct_wr (a1 + 1)), .inr (.inr (8, (G.1 o 13))), .inl (b2.2)], h)) 6 rfl rfl rfl ?_
    refine ct_zrd C (pc := 19) (aux := 0) (ins := .iaload) (cd := 8) rfl rfl (Or.inl ⟨rfl, rfl⟩) (fun v4 => ?_)
    refine ct_zt C (pc := 20) (aux := 0) (cn := .ge) (off := 55) (k' := 42) (a := b2.2) (b := v4) Iff.rfl rfl rfl rfl (fun e17 => ?_) (fun e17 => ?_)
    · refine ct_zrun C (k' := 43) (y := ([(0, .inr (.inr (7, o))), (1, .inl a1), (2, .inl a2), (3, .inl (b2.1)), (4, .inl (b2.2))], [.inl (b2.1)], h)) 1 rfl rfl rfl ?_
      exact ct_zret C (pc := 76) (aux := 0) (ins := .ireturn) (ρ := (fun r : Int => (some (.inl r : ct_PV), h))) (some (.inl (b2.1))) rfl rfl rfl ⟨rfl, Or.inl rfl⟩
    · refine ct_zrun C (k' := 18) (y := ([(0, .inr (.inr (7, o))), (1, .inl a1), (2, .inl a2), (3, .inl (b2.1)), (4, .inl (b2.2))], [.inl (b2.2), .inr (.inr (8, (G.1 o 12)))], h)) 3 rfl rfl rfl ?_
      refine ct_zrd C (pc := 29) (aux := 0) (ins := .iaload) (cd := 8) rfl rfl (Or.inl ⟨rfl, rfl⟩) (fun v5 => ?_)
      refine ct_zrun C (k' := 20) (y := ([(0, .inr (.inr (7, o))), (1, .inl a1), (2, .inl a2), (3, .inl (b2.1)), (4, .inl (b2.2))], [.inl 2, .inl v5], h)) 1 rfl rfl rfl ?_
      refine ct_zdv C (pc := 31) (aux := 0) rfl rfl (fun v6 => ?_)
      refine ct_zrun C (k' := 25) (y := ([(5, .inl v6), (0, .inr (.inr (7, o))), (1, .inl a1), (2, .inl a2), (3, .inl (b2.1)), (4, .inl (b2.2))], [.inl (b2.2), .inr (.inr (8, (G.1 o 12)))], h)) 4 rfl rfl rfl ?_
      refine ct_zrd C (pc := 40) (aux := 0) (ins := .iaload) (cd := 8) rfl rfl (Or.inl ⟨rfl, rfl⟩) (fun v7 => ?_)
      refine ct_zrun C (k' := 27) (y := ([(5, .inl v6), (0, .inr (.inr (7, o))), (1, .inl a1), (2, .inl a2), (3, .inl (b2.1)), (4, .inl (b2.2))], [.inl 2, .inl v7], h)) 1 rfl rfl rfl ?_
      refine ct_zmd C (pc := 42) (aux := 0) rfl rfl (fun v8 => ?_)
      refine ct_zjn (β := Int) (kJ := 40) (L := fun b9 => [(0, .inr (.inr (7, o))), (1, .inl a1), (2, .inl a2), (3, .inl b9), (4, .inl (b2.2))]) (S := fun b9 => []) (Hh := fun b9 => h) (fun b9 => ?_) (fun k10 z11 => ?_)
      · refine ct_zrun C (k' := 41) (y := ([(4, .inl (ct_wr (b2.2 + 1))), (0, .inr (.inr (7, o))), (1, .inl a1), (2, .inl a2), (3, .inl b9)], [], h)) 1 rfl rfl rfl ?_
        refine ct_zgoto C (pc := 72) (aux := 0) (off := (-62)) (k' := 7) rfl rfl ?_
        exact ct_zsub [1, 2, 3, 4, 0] rfl (ih (b9, (ct_wr (b2.2 + 1))))
      · refine ct_zf0 C (pc := 43) (aux := 0) (cn := .ne) (off := 26) (k' := 40) (a := v8) Iff.rfl rfl rfl rfl (fun e16 => ?_) (fun e16 => ?_)
        · refine ct_zrun C (k' := 31) (y := ([(5, .inl v6), (0, .inr (.inr (7, o))), (1, .inl a1), (2, .inl a2), (3, .inl (b2.1)), (4, .inl (b2.2))], [.inl v6, .inr (.inr (7, o))], h)) 2 rfl rfl rfl ?_
          refine ct_zV C (pc := 49) (aux := 0) [.inl v6] [] ok_X7_row lk_X7_199 (e_X7_row o v6) rfl rfl rfl rfl rfl rfl rfl rfl (fun v12 => ?_)
          refine ct_zrun C (k' := 34) (y := ([(5, .inl v6), (0, .inr (.inr (7, o))), (1, .inl a1), (2, .inl a2), (3, .inl (b2.1)), (4, .inl (b2.2))], [.inl a2, .inr (.inr (7, o)), .inl v12], h)) 2 rfl rfl rfl ?_
          refine ct_zV C (pc := 54) (aux := 0) [.inl a2] [.inl v12] ok_X7_row lk_X7_199 (e_X7_row o a2) rfl rfl rfl rfl rfl rfl rfl rfl (fun v13 => ?_)
          refine ct_zf C (pc := 57) (aux := 0) (cn := .ne) (off := 12) (k' := 40) (a := v12) (b := v13) Iff.rfl rfl rfl rfl (fun e15 => ?_) (fun e15 => ?_)
          · refine ct_zrun C (k' := 38) (y := ([(5, .inl v6), (0, .inr (.inr (7, o))), (1, .inl a1), (2, .inl a2), (3, .inl (b2.1)), (4, .inl (b2.2))], [.inl a2, .inl v6], h)) 2 rfl rfl rfl ?_
            refine ct_zt C (pc := 63) (aux := 0) (cn := .lt) (off := 6) (k' := 40) (a := v6) (b := a2) Iff.rfl rfl rfl rfl (fun e14 => ?_) (fun e14 => ?_)
            · exact ct_zsub [1, 2, 3, 4, 5] rfl (z11 (b2.1))
            · refine ct_zrun C (k' := 40) (y := ([(3, .inl (ct_wr (b2.1 + 1))), (5, .inl v6), (0, .inr (.inr (7, o))), (1, .inl a1), (2, .inl a2), (4, .inl (b2.2))], [], h)) 1 rfl rfl rfl ?_
              exact ct_zsub [2, 3, 4, 0, 5] rfl (z11 (ct_wr (b2.1 + 1)))
          · exact ct_zsub [1, 2, 3, 4, 5] rfl (z11 (b2.1))
        · exact ct_zsub [1, 2, 3, 4, 5] rfl (z11 (b2.1))
def f_X7_crossings (G : ct_G) (h : ct_H) (o : Nat) (a1 : Int) (a2 : Int) : Option (Int) := (ct_rd G h (G.1 o 13) a1).bind fun v1 => l_X7_crossings_7 G o a1 a2 h 200 (0, v1)
set_option maxRecDepth 100000 in
theorem e_X7_crossings {d : Nat} {G : ct_G} {h : ct_H} (o : Nat) (a1 : Int) (a2 : Int) : ct_E m_X7_crossings (d + 1) G (ct_args 0 [.inr (.inr (7, o)), .inl a1, .inl a2]) h (fun r : Int => (some (.inl r : ct_PV), h)) (f_X7_crossings G h o a1 a2) := by
  intro x C
  unfold f_X7_crossings
  show ct_Z x m_X7_crossings G 0 [(0, .inr (.inr (7, o))), (1, .inl a1), (2, .inl a2)] [] h (fun a => ct_q x G ((fun r : Int => (some (.inl r : ct_PV), h)) a)) _
  refine ct_zrun C (k' := 5) (y := ([(3, .inl 0), (0, .inr (.inr (7, o))), (1, .inl a1), (2, .inl a2)], [.inl a1, .inr (.inr (8, (G.1 o 13)))], h)) 5 rfl rfl rfl ?_
  refine ct_zrd C (pc := 7) (aux := 0) (ins := .iaload) (cd := 8) rfl rfl (Or.inl ⟨rfl, rfl⟩) (fun v1 => ?_)
  refine ct_zrun C (k' := 7) (y := ([(4, .inl v1), (3, .inl 0), (0, .inr (.inr (7, o))), (1, .inl a1), (2, .inl a2)], [], h)) 1 rfl rfl rfl ?_
  exact ct_zsub [2, 3, 4, 1, 0] rfl (zl_X7_crossings_7 C o a1 a2 h 200 (0, v1))
def f_X7_isHeld (G : ct_G) (h : ct_H) (o : Nat) (a1 : Int) (a2 : Int) : Option (Int) := (f_X7_crossings G h o a1 a2).bind fun v1 => (ct_md v1 2).bind fun v2 => if v2 = 1 then (some 1) else some 0
set_option maxRecDepth 100000 in
theorem e_X7_isHeld {d : Nat} {G : ct_G} {h : ct_H} (o : Nat) (a1 : Int) (a2 : Int) : ct_E m_X7_isHeld (d + 2) G (ct_args 0 [.inr (.inr (7, o)), .inl a1, .inl a2]) h (fun r : Int => (some (.inl r : ct_PV), h)) (f_X7_isHeld G h o a1 a2) := by
  intro x C
  unfold f_X7_isHeld
  show ct_Z x m_X7_isHeld G 0 [(0, .inr (.inr (7, o))), (1, .inl a1), (2, .inl a2)] [] h (fun a => ct_q x G ((fun r : Int => (some (.inl r : ct_PV), h)) a)) _
  refine ct_zrun C (k' := 3) (y := ([(0, .inr (.inr (7, o))), (1, .inl a1), (2, .inl a2)], [.inl a2, .inl a1, .inr (.inr (7, o))], h)) 3 rfl rfl rfl ?_
  refine ct_zV C (pc := 3) (aux := 0) [.inl a1, .inl a2] [] ok_X7_crossings lk_X7_251 (e_X7_crossings o a1 a2) rfl rfl rfl rfl rfl rfl rfl rfl (fun v1 => ?_)
  refine ct_zrun C (k' := 5) (y := ([(0, .inr (.inr (7, o))), (1, .inl a1), (2, .inl a2)], [.inl 2, .inl v1], h)) 1 rfl rfl rfl ?_
  refine ct_zmd C (pc := 7) (aux := 0) rfl rfl (fun v2 => ?_)
  refine ct_zrun C (k' := 7) (y := ([(0, .inr (.inr (7, o))), (1, .inl a1), (2, .inl a2)], [.inl 1, .inl v2], h)) 1 rfl rfl rfl ?_
  refine ct_zf C (pc := 9) (aux := 0) (cn := .ne) (off := 7) (k' := 10) (a := v2) (b := 1) Iff.rfl rfl rfl rfl (fun e3 => ?_) (fun e3 => ?_)
  · refine ct_zrun C (k' := 9) (y := ([(0, .inr (.inr (7, o))), (1, .inl a1), (2, .inl a2)], [.inl 1], h)) 1 rfl rfl rfl ?_
    refine ct_zgoto C (pc := 13) (aux := 0) (off := 4) (k' := 11) rfl rfl ?_
    exact ct_zret C (pc := 17) (aux := 0) (ins := .ireturn) (ρ := (fun r : Int => (some (.inl r : ct_PV), h))) (some (.inl 1)) rfl rfl rfl ⟨rfl, Or.inr ⟨rfl, Or.inr rfl⟩⟩
  · refine ct_zrun C (k' := 11) (y := ([(0, .inr (.inr (7, o))), (1, .inl a1), (2, .inl a2)], [.inl 0], h)) 1 rfl rfl rfl ?_
    exact ct_zret C (pc := 17) (aux := 0) (ins := .ireturn) (ρ := (fun r : Int => (some (.inl r : ct_PV), h))) (some (.inl 0)) rfl rfl rfl ⟨rfl, Or.inr ⟨rfl, Or.inl rfl⟩⟩
def f_X7_isHeldLine (G : ct_G) (h : ct_H) (o : Nat) (a1 : Int) (a2 : Int) : Option (Int) := if a1 = a2 then (some 0) else (ct_rd G h (G.1 o 13) a2).bind fun v1 => (ct_rd G h (G.1 o 12) v1).bind fun v2 => (ct_dv v2 2).bind fun v3 => (f_X7_isHeld G h o a1 v3).bind fun v4 => if v4 = 0 then (some 0) else some 1
set_option maxRecDepth 100000 in
theorem e_X7_isHeldLine {d : Nat} {G : ct_G} {h : ct_H} (o : Nat) (a1 : Int) (a2 : Int) : ct_E m_X7_isHeldLine (d + 3) G (ct_args 0 [.inr (.inr (7, o)), .inl a1, .inl a2]) h (fun r : Int => (some (.inl r : ct_PV), h)) (f_X7_isHeldLine G h o a1 a2) := by
  intro x C
  unfold f_X7_isHeldLine
  show ct_Z x m_X7_isHeldLine G 0 [(0, .inr (.inr (7, o))), (1, .inl a1), (2, .inl a2)] [] h (fun a => ct_q x G ((fun r : Int => (some (.inl r : ct_PV), h)) a)) _
  refine ct_zrun C (k' := 2) (y := ([(0, .inr (.inr (7, o))), (1, .inl a1), (2, .inl a2)], [.inl a2, .inl a1], h)) 2 rfl rfl rfl ?_
  refine ct_zt C (pc := 2) (aux := 0) (cn := .eq) (off := 28) (k' := 18) (a := a1) (b := a2) Iff.rfl rfl rfl rfl (fun e6 => ?_) (fun e6 => ?_)
  · refine ct_zrun C (k' := 19) (y := ([(0, .inr (.inr (7, o))), (1, .inl a1), (2, .inl a2)], [.inl 0], h)) 1 rfl rfl rfl ?_
    exact ct_zret C (pc := 31) (aux := 0) (ins := .ireturn) (ρ := (fun r : Int => (some (.inl r : ct_PV), h))) (some (.inl 0)) rfl rfl rfl ⟨rfl, Or.inr ⟨rfl, Or.inl rfl⟩⟩
  · refine ct_zrun C (k' := 10) (y := ([(0, .inr (.inr (7, o))), (1, .inl a1), (2, .inl a2)], [.inl a2, .inr (.inr (8, (G.1 o 13))), .inr (.inr (8, (G.1 o 12))), .inl a1, .inr (.inr (7, o))], h)) 7 rfl rfl rfl ?_
    refine ct_zrd C (pc := 16) (aux := 0) (ins := .iaload) (cd := 8) rfl rfl (Or.inl ⟨rfl, rfl⟩) (fun v1 => ?_)
    refine ct_zrd C (pc := 17) (aux := 0) (ins := .iaload) (cd := 8) rfl rfl (Or.inl ⟨rfl, rfl⟩) (fun v2 => ?_)
    refine ct_zrun C (k' := 13) (y := ([(0, .inr (.inr (7, o))), (1, .inl a1), (2, .inl a2)], [.inl 2, .inl v2, .inl a1, .inr (.inr (7, o))], h)) 1 rfl rfl rfl ?_
    refine ct_zdv C (pc := 19) (aux := 0) rfl rfl (fun v3 => ?_)
    refine ct_zV C (pc := 20) (aux := 0) [.inl a1, .inl v3] [] ok_X7_isHeld lk_X7_254 (e_X7_isHeld o a1 v3) rfl rfl rfl rfl rfl rfl rfl rfl (fun v4 => ?_)
    refine ct_zt0 C (pc := 23) (aux := 0) (cn := .eq) (off := 7) (k' := 18) (a := v4) Iff.rfl rfl rfl rfl (fun e5 => ?_) (fun e5 => ?_)
    · refine ct_zrun C (k' := 19) (y := ([(0, .inr (.inr (7, o))), (1, .inl a1), (2, .inl a2)], [.inl 0], h)) 1 rfl rfl rfl ?_
      exact ct_zret C (pc := 31) (aux := 0) (ins := .ireturn) (ρ := (fun r : Int => (some (.inl r : ct_PV), h))) (some (.inl 0)) rfl rfl rfl ⟨rfl, Or.inr ⟨rfl, Or.inl rfl⟩⟩
    · refine ct_zrun C (k' := 17) (y := ([(0, .inr (.inr (7, o))), (1, .inl a1), (2, .inl a2)], [.inl 1], h)) 1 rfl rfl rfl ?_
      refine ct_zgoto C (pc := 27) (aux := 0) (off := 4) (k' := 19) rfl rfl ?_
      exact ct_zret C (pc := 31) (aux := 0) (ins := .ireturn) (ρ := (fun r : Int => (some (.inl r : ct_PV), h))) (some (.inl 1)) rfl rfl rfl ⟨rfl, Or.inr ⟨rfl, Or.inr rfl⟩⟩
def l_X7_depthOf_4 (G : ct_G) (o : Nat) (a1 : Int) (h : ct_H) : Nat → (Int × Int) → Option (Int)
  | 0, _ => none
  | n2 + 1, b1 => if (h.1 o 14) ≤ b1.2 then (some (b1.1)) else (f_X7_isHeldLine G h o b1.2 a1).bind fun v3 => ct_jn (β := Int) (fun k5 => if v3 = 0 then (k5 (b1.1)) else k5 (ct_wr (b1.1 + 1))) (fun b4 => l_X7_depthOf_4 G o a1 h n2 (b4, (ct_wr (b1.2 + 1))))
set_option maxRecDepth 100000 in
theorem zl_X7_depthOf_4 {x : ct_Ctx} {d : Nat} {G : ct_G} (C : ct_c x m_X7_depthOf G (d + 4)) (o : Nat) (a1 : Int) (h : ct_H) : ∀ (n2 : Nat) (b1 : Int × Int), ct_Z x m_X7_depthOf G 4 [(0, .inr (.inr (7, o))), (1, .inl a1), (2, .inl (b1.1)), (3, .inl (b1.2))] [] h (fun a => ct_q x G ((fun r : Int => (some (.inl r : ct_PV), h)) a)) (l_X7_depthOf_4 G o a1 h n2 b1) := by
  intro n2
  induction n2 with
  | zero => intro b1; exact ct_znone
  | succ n2 ih =>
    intro b1
    rw [l_X7_depthOf_4]
    refine ct_zrun C (k' := 7) (y := ([(0, .inr (.inr (7, o))), (1, .inl a1), (2, .inl (b1.1)), (3, .inl (b1.2))], [.inl (h.1 o 14), .inl (b1.2)], h)) 3 rfl rfl rfl ?_
    refine ct_zt C (pc := 9) (aux := 0) (cn := .ge) (off := 21) (k' := 16) (a := b1.2) (b := (h.1 o 14)) Iff.rfl rfl rfl rfl (fun e8 => ?_) (fun e8 => ?_)
    · refine ct_zrun C (k' := 17) (y := ([(0, .inr (.inr (7, o))), (1, .inl a1), (2, .inl (b1.1)), (3, .inl (b1.2))], [.inl (b1.1)], h)) 1 rfl rfl rfl ?_
      exact ct_zret C (pc := 31) (aux := 0) (ins := .ireturn) (ρ := (fun r : Int => (some (.inl r : ct_PV), h))) (some (.inl (b1.1))) rfl rfl rfl ⟨rfl, Or.inl rfl⟩
    · refine ct_zrun C (k' := 11) (y := ([(0, .inr (.inr (7, o))), (1, .inl a1), (2, .inl (b1.1)), (3, .inl (b1.2))], [.inl a1, .inl (b1.2), .inr (.inr (7, o))], h)) 3 rfl rfl rfl ?_
      refine ct_zV C (pc := 15) (aux := 0) [.inl (b1.2), .inl a1] [] ok_X7_isHeldLine lk_X7_257 (e_X7_isHeldLine o (b1.2) a1) rfl rfl rfl rfl rfl rfl rfl rfl (fun v3 => ?_)
      refine ct_zjn (β := Int) (kJ := 14) (L := fun b4 => [(0, .inr (.inr (7, o))), (1, .inl a1), (2, .inl b4), (3, .inl (b1.2))]) (S := fun b4 => []) (Hh := fun b4 => h) (fun b4 => ?_) (fun k5 z6 => ?_)
      · refine ct_zrun C (k' := 15) (y := ([(3, .inl (ct_wr (b1.2 + 1))), (0, .inr (.inr (7, o))), (1, .inl a1), (2, .inl b4)], [], h)) 1 rfl rfl rfl ?_
        refine ct_zgoto C (pc := 27) (aux := 0) (off := (-23)) (k' := 4) rfl rfl ?_
        exact ct_zsub [1, 2, 3, 0] rfl (ih (b4, (ct_wr (b1.2 + 1))))
      · refine ct_zt0 C (pc := 18) (aux := 0) (cn := .eq) (off := 6) (k' := 14) (a := v3) Iff.rfl rfl rfl rfl (fun e7 => ?_) (fun e7 => ?_)
        · exact ct_zsub [0, 1, 2, 3] rfl (z6 (b1.1))
        · refine ct_zrun C (k' := 14) (y := ([(2, .inl (ct_wr (b1.1 + 1))), (0, .inr (.inr (7, o))), (1, .inl a1), (3, .inl (b1.2))], [], h)) 1 rfl rfl rfl ?_
          exact ct_zsub [1, 2, 0, 3] rfl (z6 (ct_wr (b1.1 + 1)))
def f_X7_depthOf (G : ct_G) (h : ct_H) (o : Nat) (a1 : Int) : Option (Int) := l_X7_depthOf_4 G o a1 h 200 (0, 0)
set_option maxRecDepth 100000 in
theorem e_X7_depthOf {d : Nat} {G : ct_G} {h : ct_H} (o : Nat) (a1 : Int) : ct_E m_X7_depthOf (d + 4) G (ct_args 0 [.inr (.inr (7, o)), .inl a1]) h (fun r : Int => (some (.inl r : ct_PV), h)) (f_X7_depthOf G h o a1) := by
  intro x C
  unfold f_X7_depthOf
  show ct_Z x m_X7_depthOf G 0 [(0, .inr (.inr (7, o))), (1, .inl a1)] [] h (fun a => ct_q x G ((fun r : Int => (some (.inl r : ct_PV), h)) a)) _
  refine ct_zrun C (k' := 4) (y := ([(3, .inl 0), (2, .inl 0), (0, .inr (.inr (7, o))), (1, .inl a1)], [], h)) 4 rfl rfl rfl ?_
  exact ct_zsub [2, 3, 1, 0] rfl (zl_X7_depthOf_4 C o a1 h 200 (0, 0))
def f_X7_isOuter (G : ct_G) (h : ct_H) (o : Nat) (a1 : Int) : Option (Int) := (f_X7_depthOf G h o a1).bind fun v1 => (ct_md v1 2).bind fun v2 => if v2 = 0 then (some 1) else some 0
set_option maxRecDepth 100000 in
theorem e_X7_isOuter {d : Nat} {G : ct_G} {h : ct_H} (o : Nat) (a1 : Int) : ct_E m_X7_isOuter (d + 5) G (ct_args 0 [.inr (.inr (7, o)), .inl a1]) h (fun r : Int => (some (.inl r : ct_PV), h)) (f_X7_isOuter G h o a1) := by
  intro x C
  unfold f_X7_isOuter
  show ct_Z x m_X7_isOuter G 0 [(0, .inr (.inr (7, o))), (1, .inl a1)] [] h (fun a => ct_q x G ((fun r : Int => (some (.inl r : ct_PV), h)) a)) _
  refine ct_zrun C (k' := 2) (y := ([(0, .inr (.inr (7, o))), (1, .inl a1)], [.inl a1, .inr (.inr (7, o))], h)) 2 rfl rfl rfl ?_
  refine ct_zV C (pc := 2) (aux := 0) [.inl a1] [] ok_X7_depthOf lk_X7_260 (e_X7_depthOf o a1) rfl rfl rfl rfl rfl rfl rfl rfl (fun v1 => ?_)
  refine ct_zrun C (k' := 4) (y := ([(0, .inr (.inr (7, o))), (1, .inl a1)], [.inl 2, .inl v1], h)) 1 rfl rfl rfl ?_
  refine ct_zmd C (pc := 6) (aux := 0) rfl rfl (fun v2 => ?_)
  refine ct_zf0 C (pc := 7) (aux := 0) (cn := .ne) (off := 7) (k' := 8) (a := v2) Iff.rfl rfl rfl rfl (fun e3 => ?_) (fun e3 => ?_)
  · refine ct_zrun C (k' := 7) (y := ([(0, .inr (.inr (7, o))), (1, .inl a1)], [.inl 1], h)) 1 rfl rfl rfl ?_
    refine ct_zgoto C (pc := 11) (aux := 0) (off := 4) (k' := 9) rfl rfl ?_
    exact ct_zret C (pc := 15) (aux := 0) (ins := .ireturn) (ρ := (fun r : Int => (some (.inl r : ct_PV), h))) (some (.inl 1)) rfl rfl rfl ⟨rfl, Or.inr ⟨rfl, Or.inr rfl⟩⟩
  · refine ct_zrun C (k' := 9) (y := ([(0, .inr (.inr (7, o))), (1, .inl a1)], [.inl 0], h)) 1 rfl rfl rfl ?_
    exact ct_zret C (pc := 15) (aux := 0) (ins := .ireturn) (ρ := (fun r : Int => (some (.inl r : ct_PV), h))) (some (.inl 0)) rfl rfl rfl ⟨rfl, Or.inr ⟨rfl, Or.inl rfl⟩⟩
def l_X7_parentOf_6 (G : ct_G) (o : Nat) (a1 : Int) (h : ct_H) : Nat → (Int × Int × Int) → Option (Int)
  | 0, _ => none
  | n2 + 1, b1 => if (h.1 o 14) ≤ b1.2.2 then (some (b1.1)) else (f_X7_isHeldLine G h o b1.2.2 a1).bind fun v3 => ct_jn (β := Int × Int) (fun k5 => if v3 = 0 then (k5 (b1.1, b1.2.1)) else (f_X7_depthOf G h o b1.2.2).bind fun v7 => if b1.2.1 < v7 then ((f_X7_depthOf G h o b1.2.2).bind fun v8 => k5 (b1.2.2, v8)) else k5 (b1.1, b1.2.1)) (fun b4 => l_X7_parentOf_6 G o a1 h n2 (b4.1, b4.2, (ct_wr (b1.2.2 + 1))))
set_option maxRecDepth 100000 in
theorem zl_X7_parentOf_6 {x : ct_Ctx} {d : Nat} {G : ct_G} (C : ct_c x m_X7_parentOf G (d + 5)) (o : Nat) (a1 : Int) (h : ct_H) : ∀ (n2 : Nat) (b1 : Int × Int × Int), ct_Z x m_X7_parentOf G 6 [(0, .inr (.inr (7, o))), (1, .inl a1), (2, .inl (b1.1)), (3, .inl (b1.2.1)), (4, .inl (b1.2.2))] [] h (fun a => ct_q x G ((fun r : Int => (some (.inl r : ct_PV), h)) a)) (l_X7_parentOf_6 G o a1 h n2 b1) := by
  intro n2
  induction n2 with
  | zero => intro b1; exact ct_znone
  | succ n2 ih =>
    intro b1
    rw [l_X7_parentOf_6]
    refine ct_zrun C (k' := 9) (y := ([(0, .inr (.inr (7, o))), (1, .inl a1), (2, .inl (b1.1)), (3, .inl (b1.2.1)), (4, .inl (b1.2.2))], [.inl (h.1 o 14), .inl (b1.2.2)], h)) 3 rfl rfl rfl ?_
    refine ct_zt C (pc := 14) (aux := 0) (cn := .ge) (off := 42) (k' := 29) (a := b1.2.2) (b := (h.1 o 14)) Iff.rfl rfl rfl rfl (fun e11 => ?_) (fun e11 => ?_)
    · refine ct_zrun C (k' := 30) (y := ([(0, .inr (.inr (7, o))), (1, .inl a1), (2, .inl (b1.1)), (3, .inl (b1.2.1)), (4, .inl (b1.2.2))], [.inl (b1.1)], h)) 1 rfl rfl rfl ?_
      exact ct_zret C (pc := 57) (aux := 0) (ins := .ireturn) (ρ := (fun r : Int => (some (.inl r : ct_PV), h))) (some (.inl (b1.1))) rfl rfl rfl ⟨rfl, Or.inl rfl⟩
    · refine ct_zrun C (k' := 13) (y := ([(0, .inr (.inr (7, o))), (1, .inl a1), (2, .inl (b1.1)), (3, .inl (b1.2.1)), (4, .inl (b1.2.2))], [.inl a1, .inl (b1.2.2), .inr (.inr (7, o))], h)) 3 rfl rfl rfl ?_
      refine ct_zV C (pc := 21) (aux := 0) [.inl (b1.2.2), .inl a1] [] ok_X7_isHeldLine lk_X7_257 (e_X7_isHeldLine o (b1.2.2) a1) rfl rfl rfl rfl rfl rfl rfl rfl (fun v3 => ?_)
      refine ct_zjn (β := Int × Int) (kJ := 27) (L := fun b4 => [(0, .inr (.inr (7, o))), (1, .inl a1), (2, .inl (b4.1)), (3, .inl (b4.2)), (4, .inl (b1.2.2))]) (S := fun b4 => []) (Hh := fun b4 => h) (fun b4 => ?_) (fun k5 z6 => ?_)
      · refine ct_zrun C (k' := 28) (y := ([(4, .inl (ct_wr (b1.2.2 + 1))), (0, .inr (.inr (7, o))), (1, .inl a1), (2, .inl (b4.1)), (3, .inl (b4.2))], [], h)) 1 rfl rfl rfl ?_
        refine ct_zgoto C (pc := 53) (aux := 0) (off := (-45)) (k' := 6) rfl rfl ?_
        exact ct_zsub [1, 2, 3, 4, 0] rfl (ih (b4.1, b4.2, (ct_wr (b1.2.2 + 1))))
      · refine ct_zt0 C (pc := 24) (aux := 0) (cn := .eq) (off := 26) (k' := 27) (a := v3) Iff.rfl rfl rfl rfl (fun e10 => ?_) (fun e10 => ?_)
        · exact ct_zsub [0, 1, 2, 3, 4] rfl (z6 (b1.1, b1.2.1))
        · refine ct_zrun C (k' := 17) (y := ([(0, .inr (.inr (7, o))), (1, .inl a1), (2, .inl (b1.1)), (3, .inl (b1.2.1)), (4, .inl (b1.2.2))], [.inl (b1.2.2), .inr (.inr (7, o))], h)) 2 rfl rfl rfl ?_
          refine ct_zV C (pc := 30) (aux := 0) [.inl (b1.2.2)] [] ok_X7_depthOf lk_X7_260 (e_X7_depthOf o (b1.2.2)) rfl rfl rfl rfl rfl rfl rfl rfl (fun v7 => ?_)
          refine ct_zrun C (k' := 19) (y := ([(0, .inr (.inr (7, o))), (1, .inl a1), (2, .inl (b1.1)), (3, .inl (b1.2.1)), (4, .inl (b1.2.2))], [.inl (b1.2.1), .inl v7], h)) 1 rfl rfl rfl ?_
          refine ct_zt C (pc := 34) (aux := 0) (cn := .gt) (off := 6) (k' := 21) (a := v7) (b := b1.2.1) Iff.rfl rfl rfl rfl (fun e9 => ?_) (fun e9 => ?_)
          · refine ct_zrun C (k' := 23) (y := ([(0, .inr (.inr (7, o))), (1, .inl a1), (2, .inl (b1.1)), (3, .inl (b1.2.1)), (4, .inl (b1.2.2))], [.inl (b1.2.2), .inr (.inr (7, o))], h)) 2 rfl rfl rfl ?_
            refine ct_zV C (pc := 43) (aux := 0) [.inl (b1.2.2)] [] ok_X7_depthOf lk_X7_260 (e_X7_depthOf o (b1.2.2)) rfl rfl rfl rfl rfl rfl rfl rfl (fun v8 => ?_)
            refine ct_zrun C (k' := 27) (y := ([(2, .inl (b1.2.2)), (3, .inl v8), (0, .inr (.inr (7, o))), (1, .inl a1), (4, .inl (b1.2.2))], [], h)) 3 rfl rfl rfl ?_
            exact ct_zsub [2, 3, 0, 1, 4] rfl (z6 (b1.2.2, v8))
          · refine ct_zgoto C (pc := 37) (aux := 0) (off := 13) (k' := 27) rfl rfl ?_
            exact ct_zsub [0, 1, 2, 3, 4] rfl (z6 (b1.1, b1.2.1))
def f_X7_parentOf (G : ct_G) (h : ct_H) (o : Nat) (a1 : Int) : Option (Int) := l_X7_parentOf_6 G o a1 h 200 ((-5), (-1), 0)
set_option maxRecDepth 100000 in
theorem e_X7_parentOf {d : Nat} {G : ct_G} {h : ct_H} (o : Nat) (a1 : Int) : ct_E m_X7_parentOf (d + 5) G (ct_args 0 [.inr (.inr (7, o)), .inl a1]) h (fun r : Int => (some (.inl r : ct_PV), h)) (f_X7_parentOf G h o a1) := by
  intro x C
  unfold f_X7_parentOf
  show ct_Z x m_X7_parentOf G 0 [(0, .inr (.inr (7, o))), (1, .inl a1)] [] h (fun a => ct_q x G ((fun r : Int => (some (.inl r : ct_PV), h)) a)) _
  refine ct_zrun C (k' := 6) (y := ([(4, .inl 0), (3, .inl (-1)), (2, .inl (-5)), (0, .inr (.inr (7, o))), (1, .inl a1)], [], h)) 6 rfl rfl rfl ?_
  exact ct_zsub [3, 4, 2, 1, 0] rfl (zl_X7_parentOf_6 C o a1 h 200 ((-5), (-1), 0))
def f_X7_lengthOf (G : ct_G) (h : ct_H) (o : Nat) (a1 : Int) : Option (Int) := (ct_rd G h (G.1 o 13) (ct_wr (a1 + 1))).bind fun v1 => (ct_rd G h (G.1 o 13) a1).bind fun v2 => some (ct_wr (v1 - v2))
set_option maxRecDepth 100000 in
theorem e_X7_lengthOf {d : Nat} {G : ct_G} {h : ct_H} (o : Nat) (a1 : Int) : ct_E m_X7_lengthOf d G (ct_args 0 [.inr (.inr (7, o)), .inl a1]) h (fun r : Int => (some (.inl r : ct_PV), h)) (f_X7_lengthOf G h o a1) := by
  intro x C
  unfold f_X7_lengthOf
  show ct_Z x m_X7_lengthOf G 0 [(0, .inr (.inr (7, o))), (1, .inl a1)] [] h (fun a => ct_q x G ((fun r : Int => (some (.inl r : ct_PV), h)) a)) _
  refine ct_zrun C (k' := 5) (y := ([(0, .inr (.inr (7, o))), (1, .inl a1)], [.inl (ct_wr (a1 + 1)), .inr (.inr (8, (G.1 o 13)))], h)) 5 rfl rfl rfl ?_
  refine ct_zrd C (pc := 7) (aux := 0) (ins := .iaload) (cd := 8) rfl rfl (Or.inl ⟨rfl, rfl⟩) (fun v1 => ?_)
  refine ct_zrun C (k' := 9) (y := ([(0, .inr (.inr (7, o))), (1, .inl a1)], [.inl a1, .inr (.inr (8, (G.1 o 13))), .inl v1], h)) 3 rfl rfl rfl ?_
  refine ct_zrd C (pc := 13) (aux := 0) (ins := .iaload) (cd := 8) rfl rfl (Or.inl ⟨rfl, rfl⟩) (fun v2 => ?_)
  refine ct_zrun C (k' := 11) (y := ([(0, .inr (.inr (7, o))), (1, .inl a1)], [.inl (ct_wr (v1 - v2))], h)) 1 rfl rfl rfl ?_
  exact ct_zret C (pc := 15) (aux := 0) (ins := .ireturn) (ρ := (fun r : Int => (some (.inl r : ct_PV), h))) (some (.inl (ct_wr (v1 - v2)))) rfl rfl rfl ⟨rfl, Or.inl rfl⟩
def f_X7_across (G : ct_G) (h : ct_H) (o : Nat) (a1 : Int) : Option (Int) := (ct_dv a1 2).bind fun v1 => (f_X7_column G h o v1).bind fun v2 => (ct_md a1 2).bind fun v3 => if v3 = 0 then (some (ct_wr ((ct_wr (2 * v2)) + 1))) else some (ct_wr ((ct_wr (2 * v2)) + 0))
set_option maxRecDepth 100000 in
theorem e_X7_across {d : Nat} {G : ct_G} {h : ct_H} (o : Nat) (a1 : Int) : ct_E m_X7_across (d + 1) G (ct_args 0 [.inr (.inr (7, o)), .inl a1]) h (fun r : Int => (some (.inl r : ct_PV), h)) (f_X7_across G h o a1) := by
  intro x C
  unfold f_X7_across
  show ct_Z x m_X7_across G 0 [(0, .inr (.inr (7, o))), (1, .inl a1)] [] h (fun a => ct_q x G ((fun r : Int => (some (.inl r : ct_PV), h)) a)) _
  refine ct_zrun C (k' := 4) (y := ([(0, .inr (.inr (7, o))), (1, .inl a1)], [.inl 2, .inl a1, .inr (.inr (7, o)), .inl 2], h)) 4 rfl rfl rfl ?_
  refine ct_zdv C (pc := 4) (aux := 0) rfl rfl (fun v1 => ?_)
  refine ct_zV C (pc := 5) (aux := 0) [.inl v1] [.inl 2] ok_X7_column lk_X7_202 (e_X7_column o v1) rfl rfl rfl rfl rfl rfl rfl rfl (fun v2 => ?_)
  refine ct_zrun C (k' := 9) (y := ([(0, .inr (.inr (7, o))), (1, .inl a1)], [.inl 2, .inl a1, .inl (ct_wr (2 * v2))], h)) 3 rfl rfl rfl ?_
  refine ct_zmd C (pc := 11) (aux := 0) rfl rfl (fun v3 => ?_)
  refine ct_zf0 C (pc := 12) (aux := 0) (cn := .ne) (off := 7) (k' := 13) (a := v3) Iff.rfl rfl rfl rfl (fun e4 => ?_) (fun e4 => ?_)
  · refine ct_zrun C (k' := 12) (y := ([(0, .inr (.inr (7, o))), (1, .inl a1)], [.inl 1, .inl (ct_wr (2 * v2))], h)) 1 rfl rfl rfl ?_
    refine ct_zgoto C (pc := 16) (aux := 0) (off := 4) (k' := 14) rfl rfl ?_
    refine ct_zrun C (k' := 15) (y := ([(0, .inr (.inr (7, o))), (1, .inl a1)], [.inl (ct_wr ((ct_wr (2 * v2)) + 1))], h)) 1 rfl rfl rfl ?_
    exact ct_zret C (pc := 21) (aux := 0) (ins := .ireturn) (ρ := (fun r : Int => (some (.inl r : ct_PV), h))) (some (.inl (ct_wr ((ct_wr (2 * v2)) + 1)))) rfl rfl rfl ⟨rfl, Or.inl rfl⟩
  · refine ct_zrun C (k' := 15) (y := ([(0, .inr (.inr (7, o))), (1, .inl a1)], [.inl (ct_wr ((ct_wr (2 * v2)) + 0))], h)) 2 rfl rfl rfl ?_
    exact ct_zret C (pc := 21) (aux := 0) (ins := .ireturn) (ρ := (fun r : Int => (some (.inl r : ct_PV), h))) (some (.inl (ct_wr ((ct_wr (2 * v2)) + 0)))) rfl rfl rfl ⟨rfl, Or.inl rfl⟩
def f_X7_down (G : ct_G) (h : ct_H) (o : Nat) (a1 : Int) : Option (Int) := (ct_dv a1 2).bind fun v1 => (f_X7_row G h o v1).bind fun v2 => (ct_md a1 2).bind fun v3 => some (ct_wr ((ct_wr (2 * v2)) + v3))
set_option maxRecDepth 100000 in
theorem e_X7_down {d : Nat} {G : ct_G} {h : ct_H} (o : Nat) (a1 : Int) : ct_E m_X7_down (d + 1) G (ct_args 0 [.inr (.inr (7, o)), .inl a1]) h (fun r : Int => (some (.inl r : ct_PV), h)) (f_X7_down G h o a1) := by
  intro x C
  unfold f_X7_down
  show ct_Z x m_X7_down G 0 [(0, .inr (.inr (7, o))), (1, .inl a1)] [] h (fun a => ct_q x G ((fun r : Int => (some (.inl r : ct_PV), h)) a)) _
  refine ct_zrun C (k' := 4) (y := ([(0, .inr (.inr (7, o))), (1, .inl a1)], [.inl 2, .inl a1, .inr (.inr (7, o)), .inl 2], h)) 4 rfl rfl rfl ?_
  refine ct_zdv C (pc := 4) (aux := 0) rfl rfl (fun v1 => ?_)
  refine ct_zV C (pc := 5) (aux := 0) [.inl v1] [.inl 2] ok_X7_row lk_X7_199 (e_X7_row o v1) rfl rfl rfl rfl rfl rfl rfl rfl (fun v2 => ?_)
  refine ct_zrun C (k' := 9) (y := ([(0, .inr (.inr (7, o))), (1, .inl a1)], [.inl 2, .inl a1, .inl (ct_wr (2 * v2))], h)) 3 rfl rfl rfl ?_
  refine ct_zmd C (pc := 11) (aux := 0) rfl rfl (fun v3 => ?_)
  refine ct_zrun C (k' := 11) (y := ([(0, .inr (.inr (7, o))), (1, .inl a1)], [.inl (ct_wr ((ct_wr (2 * v2)) + v3))], h)) 1 rfl rfl rfl ?_
  exact ct_zret C (pc := 13) (aux := 0) (ins := .ireturn) (ρ := (fun r : Int => (some (.inl r : ct_PV), h))) (some (.inl (ct_wr ((ct_wr (2 * v2)) + v3)))) rfl rfl rfl ⟨rfl, Or.inl rfl⟩
def l_X7_areaOf_7 (G : ct_G) (o : Nat) (a1 : Int) (h : ct_H) (k4 : Int → Option (Int)) : Nat → (Int × Int) → Option (Int)
  | 0, _ => none
  | n3 + 1, b2 => (ct_rd G h (G.1 o 13) (ct_wr (a1 + 1))).bind fun v7 => if v7 ≤ b2.2 then (k4 (b2.1)) else (ct_rd G h (G.1 o 12) b2.2).bind fun v8 => (ct_rd G h (G.1 o 13) (ct_wr (a1 + 1))).bind fun v9 => ct_jn (β := Int) (fun k11 => if v9 ≤ (ct_wr (b2.2 + 1)) then ((ct_rd G h (G.1 o 13) a1).bind fun v19 => k11 v19) else k11 (ct_wr (b2.2 + 1))) (fun b10 => (ct_rd G h (G.1 o 12) b10).bind fun v13 => (f_X7_across G h o v8).bind fun v14 => (f_X7_down G h o v13).bind fun v15 => (f_X7_down G h o v8).bind fun v16 => (f_X7_across G h o v13).bind fun v17 => ct_lt (ct_wr (b2.1 + (ct_wr ((ct_wr (v14 * v15)) - (ct_wr (v16 * v17)))))) fun v18 => l_X7_areaOf_7 G o a1 h k4 n3 (v18, (ct_wr (b2.2 + 1))))
set_option maxRecDepth 100000 in
theorem zl_X7_areaOf_7 {x : ct_Ctx} {d : Nat} {G : ct_G} (C : ct_c x m_X7_areaOf G (d + 2)) (o : Nat) (a1 : Int) (h : ct_H) (k4 : Int → Option (Int)) (z5 : ∀ b6 : Int, ct_Z x m_X7_areaOf G 62 [(2, .inl b6)] [] h (fun a => ct_q x G ((fun r : Int => (some (.inl r : ct_PV), h)) a)) (k4 b6)) : ∀ (n3 : Nat) (b2 : Int × Int), ct_Z x m_X7_areaOf G 7 [(0, .inr (.inr (7, o))), (1, .inl a1), (2, .inl (b2.1)), (3, .inl (b2.2))] [] h (fun a => ct_q x G ((fun r : Int => (some (.inl r : ct_PV), h)) a)) (l_X7_areaOf_7 G o a1 h k4 n3 b2) := by
  intro n3
  induction n3 with
  | zero => intro b2; exact ct_znone
  | succ n3 ih =>
    intro b2
    rw [l_X7_areaOf_7]
    refine ct_zrun C (k' := 13) (y := ([(0, .inr (.inr (7, o))), (1, .inl a1), (2, .inl (b2.1)), (3, .inl (b2.2))], [.inl (ct_wr (a1 + 1)), .inr (.inr (8, (G.1 o 13))), .inl (b2.2)], h)) 6 rfl rfl rfl ?_
    refine ct_zrd C (pc := 17) (aux := 0) (ins := .iaload) (cd := 8) rfl rfl (Or.inl ⟨rfl, rfl⟩) (fun v7 => ?_)
    refine ct_zt C (pc := 18) (aux := 0) (cn := .ge) (off := 80) (k' := 62) (a := b2.2) (b := v7) Iff.rfl rfl rfl rfl (fun e21 => ?_) (fun e21 => ?_)
    · exact ct_zsub [2] rfl (z5 (b2.1))
    · refine ct_zrun C (k' := 18) (y := ([(0, .inr (.inr (7, o))), (1, .inl a1), (2, .inl (b2.1)), (3, .inl (b2.2))], [.inl (b2.2), .inr (.inr (8, (G.1 o 12)))], h)) 3 rfl rfl rfl ?_
      refine ct_zrd C (pc := 26) (aux := 0) (ins := .iaload) (cd := 8) rfl rfl (Or.inl ⟨rfl, rfl⟩) (fun v8 => ?_)
      refine ct_zrun C (k' := 30) (y := ([(4, .inl v8), (0, .inr (.inr (7, o))), (1, .inl a1), (2, .inl (b2.1)), (3, .inl (b2.2))], [.inl (ct_wr (a1 + 1)), .inr (.inr (8, (G.1 o 13))), .inl (ct_wr (b2.2 + 1)), .inr (.inr (8, (G.1 o 12)))], h)) 11 rfl rfl rfl ?_
      refine ct_zrd C (pc := 43) (aux := 0) (ins := .iaload) (cd := 8) rfl rfl (Or.inl ⟨rfl, rfl⟩) (fun v9 => ?_)
      refine ct_zjn (β := Int) (kJ := 40) (L := fun b10 => [(0, .inr (.inr (7, o))), (1, .inl a1), (2, .inl (b2.1)), (3, .inl (b2.2)), (4, .inl v8)]) (S := fun b10 => [.inl b10, .inr (.inr (8, (G.1 o 12)))]) (Hh := fun b10 => h) (fun b10 => ?_) (fun k11 z12 => ?_)
      · refine ct_zrd C (pc := 59) (aux := 0) (ins := .iaload) (cd := 8) rfl rfl (Or.inl ⟨rfl, rfl⟩) (fun v13 => ?_)
        refine ct_zrun C (k' := 45) (y := ([(5, .inl v13), (0, .inr (.inr (7, o))), (1, .inl a1), (2, .inl (b2.1)), (3, .inl (b2.2)), (4, .inl v8)], [.inl v8, .inr (.inr (7, o)), .inl (b2.1)], h)) 4 rfl rfl rfl ?_
        refine ct_zV C (pc := 66) (aux := 0) [.inl v8] [.inl (b2.1)] ok_X7_across lk_X7_263 (e_X7_across o v8) rfl rfl rfl rfl rfl rfl rfl rfl (fun v14 => ?_)
        refine ct_zrun C (k' := 48) (y := ([(5, .inl v13), (0, .inr (.inr (7, o))), (1, .inl a1), (2, .inl (b2.1)), (3, .inl (b2.2)), (4, .inl v8)], [.inl v13, .inr (.inr (7, o)), .inl v14, .inl (b2.1)], h)) 2 rfl rfl rfl ?_
        refine ct_zV C (pc := 72) (aux := 0) [.inl v13] [.inl v14, .inl (b2.1)] ok_X7_down lk_X7_266 (e_X7_down o v13) rfl rfl rfl rfl rfl rfl rfl rfl (fun v15 => ?_)
        refine ct_zrun C (k' := 52) (y := ([(5, .inl v13), (0, .inr (.inr (7, o))), (1, .inl a1), (2, .inl (b2.1)), (3, .inl (b2.2)), (4, .inl v8)], [.inl v8, .inr (.inr (7, o)), .inl (ct_wr (v14 * v15)), .inl (b2.1)], h)) 3 rfl rfl rfl ?_
        refine ct_zV C (pc := 79) (aux := 0) [.inl v8] [.inl (ct_wr (v14 * v15)), .inl (b2.1)] ok_X7_down lk_X7_266 (e_X7_down o v8) rfl rfl rfl rfl rfl rfl rfl rfl (fun v16 => ?_)
        refine ct_zrun C (k' := 55) (y := ([(5, .inl v13), (0, .inr (.inr (7, o))), (1, .inl a1), (2, .inl (b2.1)), (3, .inl (b2.2)), (4, .inl v8)], [.inl v13, .inr (.inr (7, o)), .inl v16, .inl (ct_wr (v14 * v15)), .inl (b2.1)], h)) 2 rfl rfl rfl ?_
        refine ct_zV C (pc := 85) (aux := 0) [.inl v13] [.inl v16, .inl (ct_wr (v14 * v15)), .inl (b2.1)] ok_X7_across lk_X7_263 (e_X7_across o v13) rfl rfl rfl rfl rfl rfl rfl rfl (fun v17 => ?_)
        refine ct_zrun C (k' := 60) (y := ([(2, .inl (ct_wr (b2.1 + (ct_wr ((ct_wr (v14 * v15)) - (ct_wr (v16 * v17))))))), (5, .inl v13), (0, .inr (.inr (7, o))), (1, .inl a1), (3, .inl (b2.2)), (4, .inl v8)], [], h)) 4 rfl rfl rfl ?_
        refine ct_zlet (L := fun v18 => [(2, .inl v18), (5, .inl v13), (0, .inr (.inr (7, o))), (1, .inl a1), (3, .inl (b2.2)), (4, .inl v8)]) (S := fun _ => []) (Hh := fun _ => h) (a := (ct_wr (b2.1 + (ct_wr ((ct_wr (v14 * v15)) - (ct_wr (v16 * v17))))))) (fun v18 => ?_)
        refine ct_zrun C (k' := 61) (y := ([(3, .inl (ct_wr (b2.2 + 1))), (2, .inl v18), (5, .inl v13), (0, .inr (.inr (7, o))), (1, .inl a1), (4, .inl v8)], [], h)) 1 rfl rfl rfl ?_
        refine ct_zgoto C (pc := 95) (aux := 0) (off := (-86)) (k' := 7) rfl rfl ?_
        exact ct_zsub [3, 4, 1, 0] rfl (ih (v18, (ct_wr (b2.2 + 1))))
      · refine ct_zt C (pc := 44) (aux := 0) (cn := .ge) (off := 9) (k' := 36) (a := (ct_wr (b2.2 + 1))) (b := v9) Iff.rfl rfl rfl rfl (fun e20 => ?_) (fun e20 => ?_)
        · refine ct_zrun C (k' := 39) (y := ([(4, .inl v8), (0, .inr (.inr (7, o))), (1, .inl a1), (2, .inl (b2.1)), (3, .inl (b2.2))], [.inl a1, .inr (.inr (8, (G.1 o 13))), .inr (.inr (8, (G.1 o 12)))], h)) 3 rfl rfl rfl ?_
          refine ct_zrd C (pc := 58) (aux := 0) (ins := .iaload) (cd := 8) rfl rfl (Or.inl ⟨rfl, rfl⟩) (fun v19 => ?_)
          exact ct_zsub [1, 2, 3, 4, 0] rfl (z12 v19)
        · refine ct_zrun C (k' := 35) (y := ([(4, .inl v8), (0, .inr (.inr (7, o))), (1, .inl a1), (2, .inl (b2.1)), (3, .inl (b2.2))], [.inl (ct_wr (b2.2 + 1)), .inr (.inr (8, (G.1 o 12)))], h)) 3 rfl rfl rfl ?_
          refine ct_zgoto C (pc := 50) (aux := 0) (off := 9) (k' := 40) rfl rfl ?_
          exact ct_zsub [1, 2, 3, 4, 0] rfl (z12 (ct_wr (b2.2 + 1)))
def f_X7_areaOf (G : ct_G) (h : ct_H) (o : Nat) (a1 : Int) : Option (Int) := (ct_rd G h (G.1 o 13) a1).bind fun v1 => l_X7_areaOf_7 G o a1 h (fun b22 => some (ct_abs b22)) 200 (0, v1)
set_option maxRecDepth 100000 in
theorem e_X7_areaOf {d : Nat} {G : ct_G} {h : ct_H} (o : Nat) (a1 : Int) : ct_E m_X7_areaOf (d + 2) G (ct_args 0 [.inr (.inr (7, o)), .inl a1]) h (fun r : Int => (some (.inl r : ct_PV), h)) (f_X7_areaOf G h o a1) := by
  intro x C
  unfold f_X7_areaOf
  show ct_Z x m_X7_areaOf G 0 [(0, .inr (.inr (7, o))), (1, .inl a1)] [] h (fun a => ct_q x G ((fun r : Int => (some (.inl r : ct_PV), h)) a)) _
  refine ct_zrun C (k' := 5) (y := ([(2, .inl 0), (0, .inr (.inr (7, o))), (1, .inl a1)], [.inl a1, .inr (.inr (8, (G.1 o 13)))], h)) 5 rfl rfl rfl ?_
  refine ct_zrd C (pc := 7) (aux := 0) (ins := .iaload) (cd := 8) rfl rfl (Or.inl ⟨rfl, rfl⟩) (fun v1 => ?_)
  refine ct_zrun C (k' := 7) (y := ([(3, .inl v1), (2, .inl 0), (0, .inr (.inr (7, o))), (1, .inl a1)], [], h)) 1 rfl rfl rfl ?_
  refine ct_zsub [2, 3, 1, 0] rfl (zl_X7_areaOf_7 C o a1 h _ (fun b22 => ?_) 200 (0, v1))
  refine ct_zrun C (k' := 63) (y := ([(2, .inl b22)], [.inl b22], h)) 1 rfl rfl rfl ?_
  refine ct_zabs C (pc := 99) (aux := 0) lk_X7_115 rfl rfl rfl ?_
  exact ct_zret C (pc := 102) (aux := 0) (ins := .ireturn) (ρ := (fun r : Int => (some (.inl r : ct_PV), h))) (some (.inl (ct_abs b22))) rfl rfl rfl ⟨rfl, Or.inl rfl⟩
def l_X7_heldOf_4 (G : ct_G) (o : Nat) (a1 : Int) (h : ct_H) : Nat → (Int × Int) → Option (Int)
  | 0, _ => none
  | n2 + 1, b1 => (f_X7_points G h o).bind fun v3 => if v3 ≤ b1.2 then (some (b1.1)) else (f_X7_placeOf G h o b1.2).bind fun v4 => (f_X7_isHeld G h o a1 v4).bind fun v5 => ct_jn (β := Int) (fun k7 => if v5 = 0 then (k7 (b1.1)) else k7 (ct_wr (b1.1 + 1))) (fun b6 => l_X7_heldOf_4 G o a1 h n2 (b6, (ct_wr (b1.2 + 1))))
set_option maxRecDepth 100000 in
theorem zl_X7_heldOf_4 {x : ct_Ctx} {d : Nat} {G : ct_G} (C : ct_c x m_X7_heldOf G (d + 3)) (o : Nat) (a1 : Int) (h : ct_H) : ∀ (n2 : Nat) (b1 : Int × Int), ct_Z x m_X7_heldOf G 4 [(0, .inr (.inr (7, o))), (1, .inl a1), (2, .inl (b1.1)), (3, .inl (b1.2))] [] h (fun a => ct_q x G ((fun r : Int => (some (.inl r : ct_PV), h)) a)) (l_X7_heldOf_4 G o a1 h n2 b1) := by
  intro n2
  induction n2 with
  | zero => intro b1; exact ct_znone
  | succ n2 ih =>
    intro b1
    rw [l_X7_heldOf_4]
    refine ct_zrun C (k' := 6) (y := ([(0, .inr (.inr (7, o))), (1, .inl a1), (2, .inl (b1.1)), (3, .inl (b1.2))], [.inr (.inr (7, o)), .inl (b1.2)], h)) 2 rfl rfl rfl ?_
    refine ct_zV C (pc := 6) (aux := 0) [] [.inl (b1.2)] ok_X7_points lk_X7_104 (e_X7_points o) rfl rfl rfl rfl rfl rfl rfl rfl (fun v3 => ?_)
    refine ct_zt C (pc := 9) (aux := 0) (cn := .ge) (off := 25) (k' := 18) (a := b1.2) (b := v3) Iff.rfl rfl rfl rfl (fun e10 => ?_) (fun e10 => ?_)
    · refine ct_zrun C (k' := 19) (y := ([(0, .inr (.inr (7, o))), (1, .inl a1), (2, .inl (b1.1)), (3, .inl (b1.2))], [.inl (b1.1)], h)) 1 rfl rfl rfl ?_
      exact ct_zret C (pc := 35) (aux := 0) (ins := .ireturn) (ρ := (fun r : Int => (some (.inl r : ct_PV), h))) (some (.inl (b1.1))) rfl rfl rfl ⟨rfl, Or.inl rfl⟩
    · refine ct_zrun C (k' := 12) (y := ([(0, .inr (.inr (7, o))), (1, .inl a1), (2, .inl (b1.1)), (3, .inl (b1.2))], [.inl (b1.2), .inr (.inr (7, o)), .inl a1, .inr (.inr (7, o))], h)) 4 rfl rfl rfl ?_
      refine ct_zV C (pc := 16) (aux := 0) [.inl (b1.2)] [.inl a1, .inr (.inr (7, o))] ok_X7_placeOf lk_X7_269 (e_X7_placeOf o (b1.2)) rfl rfl rfl rfl rfl rfl rfl rfl (fun v4 => ?_)
      refine ct_zV C (pc := 19) (aux := 0) [.inl a1, .inl v4] [] ok_X7_isHeld lk_X7_254 (e_X7_isHeld o a1 v4) rfl rfl rfl rfl rfl rfl rfl rfl (fun v5 => ?_)
      refine ct_zjn (β := Int) (kJ := 16) (L := fun b6 => [(0, .inr (.inr (7, o))), (1, .inl a1), (2, .inl b6), (3, .inl (b1.2))]) (S := fun b6 => []) (Hh := fun b6 => h) (fun b6 => ?_) (fun k7 z8 => ?_)
      · refine ct_zrun C (k' := 17) (y := ([(3, .inl (ct_wr (b1.2 + 1))), (0, .inr (.inr (7, o))), (1, .inl a1), (2, .inl b6)], [], h)) 1 rfl rfl rfl ?_
        refine ct_zgoto C (pc := 31) (aux := 0) (off := (-27)) (k' := 4) rfl rfl ?_
        exact ct_zsub [1, 2, 3, 0] rfl (ih (b6, (ct_wr (b1.2 + 1))))
      · refine ct_zt0 C (pc := 22) (aux := 0) (cn := .eq) (off := 6) (k' := 16) (a := v5) Iff.rfl rfl rfl rfl (fun e9 => ?_) (fun e9 => ?_)
        · exact ct_zsub [0, 1, 2, 3] rfl (z8 (b1.1))
        · refine ct_zrun C (k' := 16) (y := ([(2, .inl (ct_wr (b1.1 + 1))), (0, .inr (.inr (7, o))), (1, .inl a1), (3, .inl (b1.2))], [], h)) 1 rfl rfl rfl ?_
          exact ct_zsub [1, 2, 0, 3] rfl (z8 (ct_wr (b1.1 + 1)))
def f_X7_heldOf (G : ct_G) (h : ct_H) (o : Nat) (a1 : Int) : Option (Int) := l_X7_heldOf_4 G o a1 h 200 (0, 0)
set_option maxRecDepth 100000 in
theorem e_X7_heldOf {d : Nat} {G : ct_G} {h : ct_H} (o : Nat) (a1 : Int) : ct_E m_X7_heldOf (d + 3) G (ct_args 0 [.inr (.inr (7, o)), .inl a1]) h (fun r : Int => (some (.inl r : ct_PV), h)) (f_X7_heldOf G h o a1) := by
  intro x C
  unfold f_X7_heldOf
  show ct_Z x m_X7_heldOf G 0 [(0, .inr (.inr (7, o))), (1, .inl a1)] [] h (fun a => ct_q x G ((fun r : Int => (some (.inl r : ct_PV), h)) a)) _
  refine ct_zrun C (k' := 4) (y := ([(3, .inl 0), (2, .inl 0), (0, .inr (.inr (7, o))), (1, .inl a1)], [], h)) 4 rfl rfl rfl ?_
  exact ct_zsub [2, 3, 1, 0] rfl (zl_X7_heldOf_4 C o a1 h 200 (0, 0))
def l_X7_outers_4 (G : ct_G) (o : Nat) (h : ct_H) : Nat → (Int × Int) → Option (Int)
  | 0, _ => none
  | n2 + 1, b1 => if (h.1 o 14) ≤ b1.2 then (some (b1.1)) else (f_X7_isOuter G h o b1.2).bind fun v3 => ct_jn (β := Int) (fun k5 => if v3 = 0 then (k5 (b1.1)) else k5 (ct_wr (b1.1 + 1))) (fun b4 => l_X7_outers_4 G o h n2 (b4, (ct_wr (b1.2 + 1))))
set_option maxRecDepth 100000 in
theorem zl_X7_outers_4 {x : ct_Ctx} {d : Nat} {G : ct_G} (C : ct_c x m_X7_outers G (d + 6)) (o : Nat) (h : ct_H) : ∀ (n2 : Nat) (b1 : Int × Int), ct_Z x m_X7_outers G 4 [(0, .inr (.inr (7, o))), (1, .inl (b1.1)), (2, .inl (b1.2))] [] h (fun a => ct_q x G ((fun r : Int => (some (.inl r : ct_PV), h)) a)) (l_X7_outers_4 G o h n2 b1) := by
  intro n2
  induction n2 with
  | zero => intro b1; exact ct_znone
  | succ n2 ih =>
    intro b1
    rw [l_X7_outers_4]
    refine ct_zrun C (k' := 7) (y := ([(0, .inr (.inr (7, o))), (1, .inl (b1.1)), (2, .inl (b1.2))], [.inl (h.1 o 14), .inl (b1.2)], h)) 3 rfl rfl rfl ?_
    refine ct_zt C (pc := 9) (aux := 0) (cn := .ge) (off := 20) (k' := 15) (a := b1.2) (b := (h.1 o 14)) Iff.rfl rfl rfl rfl (fun e8 => ?_) (fun e8 => ?_)
    · refine ct_zrun C (k' := 16) (y := ([(0, .inr (.inr (7, o))), (1, .inl (b1.1)), (2, .inl (b1.2))], [.inl (b1.1)], h)) 1 rfl rfl rfl ?_
      exact ct_zret C (pc := 30) (aux := 0) (ins := .ireturn) (ρ := (fun r : Int => (some (.inl r : ct_PV), h))) (some (.inl (b1.1))) rfl rfl rfl ⟨rfl, Or.inl rfl⟩
    · refine ct_zrun C (k' := 10) (y := ([(0, .inr (.inr (7, o))), (1, .inl (b1.1)), (2, .inl (b1.2))], [.inl (b1.2), .inr (.inr (7, o))], h)) 2 rfl rfl rfl ?_
      refine ct_zV C (pc := 14) (aux := 0) [.inl (b1.2)] [] ok_X7_isOuter lk_X7_272 (e_X7_isOuter o (b1.2)) rfl rfl rfl rfl rfl rfl rfl rfl (fun v3 => ?_)
      refine ct_zjn (β := Int) (kJ := 13) (L := fun b4 => [(0, .inr (.inr (7, o))), (1, .inl b4), (2, .inl (b1.2))]) (S := fun b4 => []) (Hh := fun b4 => h) (fun b4 => ?_) (fun k5 z6 => ?_)
      · refine ct_zrun C (k' := 14) (y := ([(2, .inl (ct_wr (b1.2 + 1))), (0, .inr (.inr (7, o))), (1, .inl b4)], [], h)) 1 rfl rfl rfl ?_
        refine ct_zgoto C (pc := 26) (aux := 0) (off := (-22)) (k' := 4) rfl rfl ?_
        exact ct_zsub [1, 2, 0] rfl (ih (b4, (ct_wr (b1.2 + 1))))
      · refine ct_zt0 C (pc := 17) (aux := 0) (cn := .eq) (off := 6) (k' := 13) (a := v3) Iff.rfl rfl rfl rfl (fun e7 => ?_) (fun e7 => ?_)
        · exact ct_zsub [0, 1, 2] rfl (z6 (b1.1))
        · refine ct_zrun C (k' := 13) (y := ([(1, .inl (ct_wr (b1.1 + 1))), (0, .inr (.inr (7, o))), (2, .inl (b1.2))], [], h)) 1 rfl rfl rfl ?_
          exact ct_zsub [1, 0, 2] rfl (z6 (ct_wr (b1.1 + 1)))
def f_X7_outers (G : ct_G) (h : ct_H) (o : Nat) : Option (Int) := l_X7_outers_4 G o h 200 (0, 0)
set_option maxRecDepth 100000 in
theorem e_X7_outers {d : Nat} {G : ct_G} {h : ct_H} (o : Nat) : ct_E m_X7_outers (d + 6) G (ct_args 0 [.inr (.inr (7, o))]) h (fun r : Int => (some (.inl r : ct_PV), h)) (f_X7_outers G h o) := by
  intro x C
  unfold f_X7_outers
  show ct_Z x m_X7_outers G 0 [(0, .inr (.inr (7, o)))] [] h (fun a => ct_q x G ((fun r : Int => (some (.inl r : ct_PV), h)) a)) _
  refine ct_zrun C (k' := 4) (y := ([(2, .inl 0), (1, .inl 0), (0, .inr (.inr (7, o)))], [], h)) 4 rfl rfl rfl ?_
  exact ct_zsub [2, 1, 0] rfl (zl_X7_outers_4 C o h 200 (0, 0))
def l_X7_deepest_4 (G : ct_G) (o : Nat) (h : ct_H) : Nat → (Int × Int) → Option (Int)
  | 0, _ => none
  | n2 + 1, b1 => if (h.1 o 14) ≤ b1.2 then (some (b1.1)) else (f_X7_depthOf G h o b1.2).bind fun v3 => ct_lt (ct_max b1.1 v3) fun v4 => l_X7_deepest_4 G o h n2 (v4, (ct_wr (b1.2 + 1)))
set_option maxRecDepth 100000 in
theorem zl_X7_deepest_4 {x : ct_Ctx} {d : Nat} {G : ct_G} (C : ct_c x m_X7_deepest G (d + 5)) (o : Nat) (h : ct_H) : ∀ (n2 : Nat) (b1 : Int × Int), ct_Z x m_X7_deepest G 4 [(0, .inr (.inr (7, o))), (1, .inl (b1.1)), (2, .inl (b1.2))] [] h (fun a => ct_q x G ((fun r : Int => (some (.inl r : ct_PV), h)) a)) (l_X7_deepest_4 G o h n2 b1) := by
  intro n2
  induction n2 with
  | zero => intro b1; exact ct_znone
  | succ n2 ih =>
    intro b1
    rw [l_X7_deepest_4]
    refine ct_zrun C (k' := 7) (y := ([(0, .inr (.inr (7, o))), (1, .inl (b1.1)), (2, .inl (b1.2))], [.inl (h.1 o 14), .inl (b1.2)], h)) 3 rfl rfl rfl ?_
    refine ct_zt C (pc := 10) (aux := 0) (cn := .ge) (off := 19) (k' := 16) (a := b1.2) (b := (h.1 o 14)) Iff.rfl rfl rfl rfl (fun e5 => ?_) (fun e5 => ?_)
    · refine ct_zrun C (k' := 17) (y := ([(0, .inr (.inr (7, o))), (1, .inl (b1.1)), (2, .inl (b1.2))], [.inl (b1.1)], h)) 1 rfl rfl rfl ?_
      exact ct_zret C (pc := 30) (aux := 0) (ins := .ireturn) (ρ := (fun r : Int => (some (.inl r : ct_PV), h))) (some (.inl (b1.1))) rfl rfl rfl ⟨rfl, Or.inl rfl⟩
    · refine ct_zrun C (k' := 11) (y := ([(0, .inr (.inr (7, o))), (1, .inl (b1.1)), (2, .inl (b1.2))], [.inl (b1.2), .inr (.inr (7, o)), .inl (b1.1)], h)) 3 rfl rfl rfl ?_
      refine ct_zV C (pc := 16) (aux := 0) [.inl (b1.2)] [.inl (b1.1)] ok_X7_depthOf lk_X7_260 (e_X7_depthOf o (b1.2)) rfl rfl rfl rfl rfl rfl rfl rfl (fun v3 => ?_)
      refine ct_zmax C (pc := 19) (aux := 0) lk_X7_121 rfl rfl rfl ?_
      refine ct_zrun C (k' := 14) (y := ([(1, .inl (ct_max b1.1 v3)), (0, .inr (.inr (7, o))), (2, .inl (b1.2))], [], h)) 1 rfl rfl rfl ?_
      refine ct_zlet (L := fun v4 => [(1, .inl v4), (0, .inr (.inr (7, o))), (2, .inl (b1.2))]) (S := fun _ => []) (Hh := fun _ => h) (a := (ct_max b1.1 v3)) (fun v4 => ?_)
      refine ct_zrun C (k' := 15) (y := ([(2, .inl (ct_wr (b1.2 + 1))), (1, .inl v4), (0, .inr (.inr (7, o)))], [], h)) 1 rfl rfl rfl ?_
      refine ct_zgoto C (pc := 26) (aux := 0) (off := (-21)) (k' := 4) rfl rfl ?_
      exact ct_zsub [2, 1, 0] rfl (ih (v4, (ct_wr (b1.2 + 1))))
def f_X7_deepest (G : ct_G) (h : ct_H) (o : Nat) : Option (Int) := l_X7_deepest_4 G o h 200 ((-5), 0)
set_option maxRecDepth 100000 in
theorem e_X7_deepest {d : Nat} {G : ct_G} {h : ct_H} (o : Nat) : ct_E m_X7_deepest (d + 5) G (ct_args 0 [.inr (.inr (7, o))]) h (fun r : Int => (some (.inl r : ct_PV), h)) (f_X7_deepest G h o) := by
  intro x C
  unfold f_X7_deepest
  show ct_Z x m_X7_deepest G 0 [(0, .inr (.inr (7, o)))] [] h (fun a => ct_q x G ((fun r : Int => (some (.inl r : ct_PV), h)) a)) _
  refine ct_zrun C (k' := 4) (y := ([(2, .inl 0), (1, .inl (-5)), (0, .inr (.inr (7, o)))], [], h)) 4 rfl rfl rfl ?_
  exact ct_zsub [2, 1, 0] rfl (zl_X7_deepest_4 C o h 200 ((-5), 0))
def f_X7_visit (G : ct_G) (h : ct_H) (o : Nat) (a1 : Int) (a2 : Int) (a3 : Int) : Option (ct_H) := (ct_rd G h (G.1 o 3) a2).bind fun v1 => if v1 < a1 then (some h) else (ct_rd G h (G.1 o 16) a2).bind fun v2 => if v2 = (-5) then ((ct_wt G h (G.1 o 16) a2 a3).bind fun h3 => (ct_wt G h3 (G.1 o 17) (h3.1 o 19) a2).bind fun h4 => ct_lt (ct_wF h4 o 19 (ct_wr ((h4.1 o 19) + 1))) fun h5 => some h5) else some h
set_option maxRecDepth 100000 in
theorem e_X7_visit {d : Nat} {G : ct_G} {h : ct_H} (o : Nat) (a1 : Int) (a2 : Int) (a3 : Int) : ct_E m_X7_visit d G (ct_args 0 [.inr (.inr (7, o)), .inl a1, .inl a2, .inl a3]) h (fun r : ct_H => ((none : Option ct_PV), r)) (f_X7_visit G h o a1 a2 a3) := by
  intro x C
  unfold f_X7_visit
  show ct_Z x m_X7_visit G 0 [(0, .inr (.inr (7, o))), (1, .inl a1), (2, .inl a2), (3, .inl a3)] [] h (fun a => ct_q x G ((fun r : ct_H => ((none : Option ct_PV), r)) a)) _
  refine ct_zrun C (k' := 3) (y := ([(0, .inr (.inr (7, o))), (1, .inl a1), (2, .inl a2), (3, .inl a3)], [.inl a2, .inr (.inr (8, (G.1 o 3)))], h)) 3 rfl rfl rfl ?_
  refine ct_zrd C (pc := 5) (aux := 0) (ins := .iaload) (cd := 8) rfl rfl (Or.inl ⟨rfl, rfl⟩) (fun v1 => ?_)
  refine ct_zrun C (k' := 5) (y := ([(0, .inr (.inr (7, o))), (1, .inl a1), (2, .inl a2), (3, .inl a3)], [.inl a1, .inl v1], h)) 1 rfl rfl rfl ?_
  refine ct_zt C (pc := 7) (aux := 0) (cn := .lt) (off := 14) (k' := 12) (a := v1) (b := a1) Iff.rfl rfl rfl rfl (fun e7 => ?_) (fun e7 => ?_)
  · exact ct_zret C (pc := 21) (aux := 0) (ins := .return_) (ρ := (fun r : ct_H => ((none : Option ct_PV), r))) none rfl rfl rfl ⟨rfl, rfl⟩
  · refine ct_zrun C (k' := 9) (y := ([(0, .inr (.inr (7, o))), (1, .inl a1), (2, .inl a2), (3, .inl a3)], [.inl a2, .inr (.inr (8, (G.1 o 16)))], h)) 3 rfl rfl rfl ?_
    refine ct_zrd C (pc := 15) (aux := 0) (ins := .iaload) (cd := 8) rfl rfl (Or.inl ⟨rfl, rfl⟩) (fun v2 => ?_)
    refine ct_zrun C (k' := 11) (y := ([(0, .inr (.inr (7, o))), (1, .inl a1), (2, .inl a2), (3, .inl a3)], [.inl (-5), .inl v2], h)) 1 rfl rfl rfl ?_
    refine ct_zt C (pc := 18) (aux := 0) (cn := .eq) (off := 4) (k' := 13) (a := v2) (b := (-5)) Iff.rfl rfl rfl rfl (fun e6 => ?_) (fun e6 => ?_)
    · refine ct_zrun C (k' := 17) (y := ([(0, .inr (.inr (7, o))), (1, .inl a1), (2, .inl a2), (3, .inl a3)], [.inl a3, .inl a2, .inr (.inr (8, (G.1 o 16)))], h)) 4 rfl rfl rfl ?_
      refine ct_zwt C (pc := 28) (aux := 0) rfl rfl (fun h3 => ?_)
      refine ct_zrun C (k' := 23) (y := ([(0, .inr (.inr (7, o))), (1, .inl a1), (2, .inl a2), (3, .inl a3)], [.inl a2, .inl (h3.1 o 19), .inr (.inr (8, (G.1 o 17)))], h3)) 5 rfl rfl rfl ?_
      refine ct_zwt C (pc := 38) (aux := 0) rfl rfl (fun h4 => ?_)
      refine ct_zrun C (k' := 30) (y := ([(0, .inr (.inr (7, o))), (1, .inl a1), (2, .inl a2), (3, .inl a3)], [], (ct_wF h4 o 19 (ct_wr ((h4.1 o 19) + 1))))) 6 rfl rfl rfl ?_
      refine ct_zlet (L := fun _ => [(0, .inr (.inr (7, o))), (1, .inl a1), (2, .inl a2), (3, .inl a3)]) (S := fun _ => []) (Hh := fun h5 => h5) (a := (ct_wF h4 o 19 (ct_wr ((h4.1 o 19) + 1)))) (fun h5 => ?_)
      exact ct_zret C (pc := 49) (aux := 0) (ins := .return_) (ρ := (fun r : ct_H => ((none : Option ct_PV), r))) none rfl rfl rfl ⟨rfl, rfl⟩
    · exact ct_zret C (pc := 21) (aux := 0) (ins := .return_) (ρ := (fun r : ct_H => ((none : Option ct_PV), r))) none rfl rfl rfl ⟨rfl, rfl⟩
def f_X7_squareOf (G : ct_G) (h : ct_H) (o : Nat) (a1 : Int) (a2 : Int) : Option (Int) := some (ct_wr ((ct_wr ((ct_wr ((ct_wr ((h.1 o 1) + 1)) * (ct_wr (a1 + 1)))) + a2)) + 1))
set_option maxRecDepth 100000 in
theorem e_X7_squareOf {d : Nat} {G : ct_G} {h : ct_H} (o : Nat) (a1 : Int) (a2 : Int) : ct_E m_X7_squareOf d G (ct_args 0 [.inr (.inr (7, o)), .inl a1, .inl a2]) h (fun r : Int => (some (.inl r : ct_PV), h)) (f_X7_squareOf G h o a1 a2) := by
  intro x C
  unfold f_X7_squareOf
  show ct_Z x m_X7_squareOf G 0 [(0, .inr (.inr (7, o))), (1, .inl a1), (2, .inl a2)] [] h (fun a => ct_q x G ((fun r : Int => (some (.inl r : ct_PV), h)) a)) _
  refine ct_zrun C (k' := 12) (y := ([(0, .inr (.inr (7, o))), (1, .inl a1), (2, .inl a2)], [.inl (ct_wr ((ct_wr ((ct_wr ((ct_wr ((h.1 o 1) + 1)) * (ct_wr (a1 + 1)))) + a2)) + 1))], h)) 12 rfl rfl rfl ?_
  exact ct_zret C (pc := 14) (aux := 0) (ins := .ireturn) (ρ := (fun r : Int => (some (.inl r : ct_PV), h))) (some (.inl (ct_wr ((ct_wr ((ct_wr ((ct_wr ((h.1 o 1) + 1)) * (ct_wr (a1 + 1)))) + a2)) + 1)))) rfl rfl rfl ⟨rfl, Or.inl rfl⟩
def l_X7_spreads_23 (G : ct_G) (o : Nat) (a1 : Int) (a3 : Int) (v1 : Int) (v2 : Int) (p7 : Int) (k10 : ct_H → Option (ct_H)) : Nat → (Int × ct_H) → Option (ct_H)
  | 0, _ => none
  | n9 + 1, b8 => if (ct_wr (v2 + 1)) < b8.1 then (k10 (b8.2)) else (f_X7_in G b8.2 p7 0 (ct_wr ((b8.2.1 o 0) - 1))).bind fun v13 => ct_jn (β := ct_H) (fun k15 => if v13 = 0 then (k15 (b8.2)) else (f_X7_in G b8.2 b8.1 0 (ct_wr ((b8.2.1 o 1) - 1))).bind fun v17 => if v17 = 0 then (k15 (b8.2)) else ct_jn (β := Int) (fun k19 => ct_jn (β := Unit) (fun k30 => if p7 = v1 then (k30 ()) else if b8.1 = v2 then (k30 ()) else k19 0) (fun b29 => k19 1)) (fun b18 => ct_jn (β := Unit) (fun k22 => if b18 = 0 then ((f_X7_squareOf G b8.2 o (ct_min p7 v1) (ct_min b8.1 v2)).bind fun v25 => (f_X7_isJoined G b8.2 o a1 v25).bind fun v26 => if v26 = 0 then (k15 (b8.2)) else k22 ()) else k22 ()) (fun b21 => (f_X7_visit G b8.2 o a1 (ct_wr ((ct_wr (p7 * (b8.2.1 o 1))) + b8.1)) a3).bind fun r24 => k15 r24))) (fun b14 => l_X7_spreads_23 G o a1 a3 v1 v2 p7 k10 n9 ((ct_wr (b8.1 + 1)), b14))
set_option maxRecDepth 100000 in
theorem zl_X7_spreads_23 {x : ct_Ctx} {d : Nat} {G : ct_G} (C : ct_c x m_X7_spreads G (d + 4)) (o : Nat) (a1 : Int) (a3 : Int) (v1 : Int) (v2 : Int) (p7 : Int) (k10 : ct_H → Option (ct_H)) (z11 : ∀ b12 : ct_H, ct_Z x m_X7_spreads G 81 [(0, .inr (.inr (7, o))), (1, .inl a1), (3, .inl a3), (4, .inl v1), (5, .inl v2), (6, .inl p7)] [] b12 (fun a => ct_q x G ((fun r : ct_H => ((none : Option ct_PV), r)) a)) (k10 b12)) : ∀ (n9 : Nat) (b8 : Int × ct_H), ct_Z x m_X7_spreads G 23 [(0, .inr (.inr (7, o))), (1, .inl a1), (3, .inl a3), (4, .inl v1), (5, .inl v2), (6, .inl p7), (7, .inl (b8.1))] [] b8.2 (fun a => ct_q x G ((fun r : ct_H => ((none : Option ct_PV), r)) a)) (l_X7_spreads_23 G o a1 a3 v1 v2 p7 k10 n9 b8) := by
  intro n9
  induction n9 with
  | zero => intro b8; exact ct_znone
  | succ n9 ih =>
    intro b8
    rw [l_X7_spreads_23]
    refine ct_zrun C (k' := 27) (y := ([(0, .inr (.inr (7, o))), (1, .inl a1), (3, .inl a3), (4, .inl v1), (5, .inl v2), (6, .inl p7), (7, .inl (b8.1))], [.inl (ct_wr (v2 + 1)), .inl (b8.1)], b8.2)) 4 rfl rfl rfl ?_
    refine ct_zt C (pc := 43) (aux := 0) (cn := .gt) (off := 110) (k' := 81) (a := b8.1) (b := (ct_wr (v2 + 1))) Iff.rfl rfl rfl rfl (fun e36 => ?_) (fun e36 => ?_)
    · exact ct_zsub [0, 1, 2, 3, 4, 5] rfl (z11 (b8.2))
    · refine ct_zrun C (k' := 34) (y := ([(0, .inr (.inr (7, o))), (1, .inl a1), (3, .inl a3), (4, .inl v1), (5, .inl v2), (6, .inl p7), (7, .inl (b8.1))], [.inl (ct_wr ((b8.2.1 o 0) - 1)), .inl 0, .inl p7], b8.2)) 6 rfl rfl rfl ?_
      refine ct_zS C (pc := 55) (aux := 0) [.inl p7, .inl 0, .inl (ct_wr ((b8.2.1 o 0) - 1))] [] ok_X7_in lk_X7_100 (e_X7_in p7 0 (ct_wr ((b8.2.1 o 0) - 1))) rfl rfl rfl rfl rfl rfl (fun v13 => ?_)
      refine ct_zjn (β := ct_H) (kJ := 79) (L := fun b14 => [(0, .inr (.inr (7, o))), (1, .inl a1), (3, .inl a3), (4, .inl v1), (5, .inl v2), (6, .inl p7), (7, .inl (b8.1))]) (S := fun b14 => []) (Hh := fun b14 => b14) (fun b14 => ?_) (fun k15 z16 => ?_)
      · refine ct_zrun C (k' := 80) (y := ([(7, .inl (ct_wr (b8.1 + 1))), (0, .inr (.inr (7, o))), (1, .inl a1), (3, .inl a3), (4, .inl v1), (5, .inl v2), (6, .inl p7)], [], b14)) 1 rfl rfl rfl ?_
        refine ct_zgoto C (pc := 150) (aux := 0) (off := (-113)) (k' := 23) rfl rfl ?_
        exact ct_zsub [1, 2, 3, 4, 5, 6, 0] rfl (ih ((ct_wr (b8.1 + 1)), b14))
      · refine ct_zt0 C (pc := 58) (aux := 0) (cn := .eq) (off := 89) (k' := 79) (a := v13) Iff.rfl rfl rfl rfl (fun e35 => ?_) (fun e35 => ?_)
        · exact ct_zsub [0, 1, 2, 3, 4, 5, 6] rfl (z16 (b8.2))
        · refine ct_zrun C (k' := 42) (y := ([(0, .inr (.inr (7, o))), (1, .inl a1), (3, .inl a3), (4, .inl v1), (5, .inl v2), (6, .inl p7), (7, .inl (b8.1))], [.inl (ct_wr ((b8.2.1 o 1) - 1)), .inl 0, .inl (b8.1)], b8.2)) 6 rfl rfl rfl ?_
          refine ct_zS C (pc := 70) (aux := 0) [.inl (b8.1), .inl 0, .inl (ct_wr ((b8.2.1 o 1) - 1))] [] ok_X7_in lk_X7_100 (e_X7_in (b8.1) 0 (ct_wr ((b8.2.1 o 1) - 1))) rfl rfl rfl rfl rfl rfl (fun v17 => ?_)
          refine ct_zf0 C (pc := 73) (aux := 0) (cn := .ne) (off := 6) (k' := 45) (a := v17) Iff.rfl rfl rfl rfl (fun e34 => ?_) (fun e34 => ?_)
          · refine ct_zgoto C (pc := 76) (aux := 0) (off := 71) (k' := 79) rfl rfl ?_
            exact ct_zsub [0, 1, 2, 3, 4, 5, 6] rfl (z16 (b8.2))
          · refine ct_zrun C (k' := 47) (y := ([(0, .inr (.inr (7, o))), (1, .inl a1), (3, .inl a3), (4, .inl v1), (5, .inl v2), (6, .inl p7), (7, .inl (b8.1))], [.inl v1, .inl p7], b8.2)) 2 rfl rfl rfl ?_
            refine ct_zjn (β := Int) (kJ := 54) (L := fun b18 => [(0, .inr (.inr (7, o))), (1, .inl a1), (3, .inl a3), (4, .inl v1), (5, .inl v2), (6, .inl p7), (7, .inl (b8.1))]) (S := fun b18 => [.inl b18]) (Hh := fun b18 => b8.2) (fun b18 => ?_) (fun k19 z20 => ?_)
            · refine ct_zrun C (k' := 56) (y := ([(8, .inl b18), (0, .inr (.inr (7, o))), (1, .inl a1), (3, .inl a3), (4, .inl v1), (5, .inl v2), (6, .inl p7), (7, .inl (b8.1))], [.inl b18], b8.2)) 2 rfl rfl rfl ?_
              refine ct_zjn (β := Unit) (kJ := 69) (L := fun b21 => [(0, .inr (.inr (7, o))), (1, .inl a1), (3, .inl a3), (4, .inl v1), (5, .inl v2), (6, .inl p7), (7, .inl (b8.1))]) (S := fun b21 => []) (Hh := fun b21 => b8.2) (fun b21 => ?_) (fun k22 z23 => ?_)
              · refine ct_zrun C (k' := 78) (y := ([(0, .inr (.inr (7, o))), (1, .inl a1), (3, .inl a3), (4, .inl v1), (5, .inl v2), (6, .inl p7), (7, .inl (b8.1))], [.inl a3, .inl (ct_wr ((ct_wr (p7 * (b8.2.1 o 1))) + b8.1)), .inl a1, .inr (.inr (7, o))], b8.2)) 9 rfl rfl rfl ?_
                refine ct_zV C (pc := 144) (aux := 0) [.inl a1, .inl (ct_wr ((ct_wr (p7 * (b8.2.1 o 1))) + b8.1)), .inl a3] [] ok_X7_visit lk_X7_284 (e_X7_visit o a1 (ct_wr ((ct_wr (p7 * (b8.2.1 o 1))) + b8.1)) a3) rfl rfl rfl rfl rfl rfl rfl rfl (fun r24 => ?_)
                exact ct_zsub [0, 1, 2, 3, 4, 5, 6] rfl (z16 r24)
              · refine ct_zf0 C (pc := 102) (aux := 0) (cn := .ne) (off := 29) (k' := 69) (a := b18) Iff.rfl rfl rfl rfl (fun e28 => ?_) (fun e28 => ?_)
                · refine ct_zrun C (k' := 62) (y := ([(8, .inl b18), (0, .inr (.inr (7, o))), (1, .inl a1), (3, .inl a3), (4, .inl v1), (5, .inl v2), (6, .inl p7), (7, .inl (b8.1))], [.inl v1, .inl p7, .inr (.inr (7, o)), .inl a1, .inr (.inr (7, o))], b8.2)) 5 rfl rfl rfl ?_
                  refine ct_zmin C (pc := 112) (aux := 0) lk_X7_278 rfl rfl rfl ?_
                  refine ct_zrun C (k' := 65) (y := ([(8, .inl b18), (0, .inr (.inr (7, o))), (1, .inl a1), (3, .inl a3), (4, .inl v1), (5, .inl v2), (6, .inl p7), (7, .inl (b8.1))], [.inl v2, .inl (b8.1), .inl (ct_min p7 v1), .inr (.inr (7, o)), .inl a1, .inr (.inr (7, o))], b8.2)) 2 rfl rfl rfl ?_
                  refine ct_zmin C (pc := 119) (aux := 0) lk_X7_278 rfl rfl rfl ?_
                  refine ct_zV C (pc := 122) (aux := 0) [.inl (ct_min p7 v1), .inl (ct_min b8.1 v2)] [.inl a1, .inr (.inr (7, o))] ok_X7_squareOf lk_X7_281 (e_X7_squareOf o (ct_min p7 v1) (ct_min b8.1 v2)) rfl rfl rfl rfl rfl rfl rfl rfl (fun v25 => ?_)
                  refine ct_zV C (pc := 125) (aux := 0) [.inl a1, .inl v25] [] ok_X7_isJoined lk_X7_233 (e_X7_isJoined o a1 v25) rfl rfl rfl rfl rfl rfl rfl rfl (fun v26 => ?_)
                  refine ct_zt0 C (pc := 128) (aux := 0) (cn := .eq) (off := 19) (k' := 79) (a := v26) Iff.rfl rfl rfl rfl (fun e27 => ?_) (fun e27 => ?_)
                  · exact ct_zsub [1, 2, 3, 4, 5, 6, 7] rfl (z16 (b8.2))
                  · exact ct_zsub [1, 2, 3, 4, 5, 6, 7] rfl (z23 ())
                · exact ct_zsub [1, 2, 3, 4, 5, 6, 7] rfl (z23 ())
            · refine ct_zjn (β := Unit) (kJ := 51) (L := fun b29 => [(0, .inr (.inr (7, o))), (1, .inl a1), (3, .inl a3), (4, .inl v1), (5, .inl v2), (6, .inl p7), (7, .inl (b8.1))]) (S := fun b29 => []) (Hh := fun b29 => b8.2) (fun b29 => ?_) (fun k30 z31 => ?_)
              · refine ct_zrun C (k' := 52) (y := ([(0, .inr (.inr (7, o))), (1, .inl a1), (3, .inl a3), (4, .inl v1), (5, .inl v2), (6, .inl p7), (7, .inl (b8.1))], [.inl 1], b8.2)) 1 rfl rfl rfl ?_
                refine ct_zgoto C (pc := 94) (aux := 0) (off := 4) (k' := 54) rfl rfl ?_
                exact ct_zsub [0, 1, 2, 3, 4, 5, 6] rfl (z20 1)
              · refine ct_zt C (pc := 83) (aux := 0) (cn := .eq) (off := 10) (k' := 51) (a := p7) (b := v1) Iff.rfl rfl rfl rfl (fun e33 => ?_) (fun e33 => ?_)
                · exact ct_zsub [0, 1, 2, 3, 4, 5, 6] rfl (z31 ())
                · refine ct_zrun C (k' := 50) (y := ([(0, .inr (.inr (7, o))), (1, .inl a1), (3, .inl a3), (4, .inl v1), (5, .inl v2), (6, .inl p7), (7, .inl (b8.1))], [.inl v2, .inl (b8.1)], b8.2)) 2 rfl rfl rfl ?_
                  refine ct_zf C (pc := 90) (aux := 0) (cn := .ne) (off := 7) (k' := 53) (a := b8.1) (b := v2) Iff.rfl rfl rfl rfl (fun e32 => ?_) (fun e32 => ?_)
                  · exact ct_zsub [0, 1, 2, 3, 4, 5, 6] rfl (z31 ())
                  · refine ct_zrun C (k' := 54) (y := ([(0, .inr (.inr (7, o))), (1, .inl a1), (3, .inl a3), (4, .inl v1), (5, .inl v2), (6, .inl p7), (7, .inl (b8.1))], [.inl 0], b8.2)) 1 rfl rfl rfl ?_
                    exact ct_zsub [0, 1, 2, 3, 4, 5, 6] rfl (z20 0)
def l_X7_spreads_14 (G : ct_G) (o : Nat) (a1 : Int) (a3 : Int) (v1 : Int) (v2 : Int) : Nat → (Int × ct_H) → Option (ct_H)
  | 0, _ => none
  | n5 + 1, b4 => if (ct_wr (v1 + 1)) < b4.1 then (some (b4.2)) else ct_lt (ct_wr (v2 - 1)) fun v6 => l_X7_spreads_23 G o a1 a3 v1 v2 (b4.1) (fun b37 => l_X7_spreads_14 G o a1 a3 v1 v2 n5 ((ct_wr (b4.1 + 1)), b37)) 200 (v6, b4.2)
set_option maxRecDepth 100000 in
theorem zl_X7_spreads_14 {x : ct_Ctx} {d : Nat} {G : ct_G} (C : ct_c x m_X7_spreads G (d + 4)) (o : Nat) (a1 : Int) (a3 : Int) (v1 : Int) (v2 : Int) : ∀ (n5 : Nat) (b4 : Int × ct_H), ct_Z x m_X7_spreads G 14 [(0, .inr (.inr (7, o))), (1, .inl a1), (3, .inl a3), (4, .inl v1), (5, .inl v2), (6, .inl (b4.1))] [] b4.2 (fun a => ct_q x G ((fun r : ct_H => ((none : Option ct_PV), r)) a)) (l_X7_spreads_14 G o a1 a3 v1 v2 n5 b4) := by
  intro n5
  induction n5 with
  | zero => intro b4; exact ct_znone
  | succ n5 ih =>
    intro b4
    rw [l_X7_spreads_14]
    refine ct_zrun C (k' := 18) (y := ([(0, .inr (.inr (7, o))), (1, .inl a1), (3, .inl a3), (4, .inl v1), (5, .inl v2), (6, .inl (b4.1))], [.inl (ct_wr (v1 + 1)), .inl (b4.1)], b4.2)) 4 rfl rfl rfl ?_
    refine ct_zt C (pc := 28) (aux := 0) (cn := .gt) (off := 131) (k' := 83) (a := b4.1) (b := (ct_wr (v1 + 1))) Iff.rfl rfl rfl rfl (fun e38 => ?_) (fun e38 => ?_)
    · exact ct_zret C (pc := 159) (aux := 0) (ins := .return_) (ρ := (fun r : ct_H => ((none : Option ct_PV), r))) none rfl rfl rfl ⟨rfl, rfl⟩
    · refine ct_zrun C (k' := 23) (y := ([(7, .inl (ct_wr (v2 - 1))), (0, .inr (.inr (7, o))), (1, .inl a1), (3, .inl a3), (4, .inl v1), (5, .inl v2), (6, .inl (b4.1))], [], b4.2)) 4 rfl rfl rfl ?_
      refine ct_zlet (L := fun v6 => [(7, .inl v6), (0, .inr (.inr (7, o))), (1, .inl a1), (3, .inl a3), (4, .inl v1), (5, .inl v2), (6, .inl (b4.1))]) (S := fun _ => []) (Hh := fun _ => b4.2) (a := (ct_wr (v2 - 1))) (fun v6 => ?_)
      refine ct_zsub [1, 2, 3, 4, 5, 6, 0] rfl (zl_X7_spreads_23 C o a1 a3 v1 v2 (b4.1) _ (fun b37 => ?_) 200 (v6, b4.2))
      refine ct_zrun C (k' := 82) (y := ([(6, .inl (ct_wr (b4.1 + 1))), (0, .inr (.inr (7, o))), (1, .inl a1), (3, .inl a3), (4, .inl v1), (5, .inl v2)], [], b37)) 1 rfl rfl rfl ?_
      refine ct_zgoto C (pc := 156) (aux := 0) (off := (-134)) (k' := 14) rfl rfl ?_
      exact ct_zsub [1, 2, 3, 4, 5, 0] rfl (ih ((ct_wr (b4.1 + 1)), b37))
def f_X7_spreads (G : ct_G) (h : ct_H) (o : Nat) (a1 : Int) (a2 : Int) (a3 : Int) : Option (ct_H) := (ct_dv a2 (h.1 o 1)).bind fun v1 => (ct_md a2 (h.1 o 1)).bind fun v2 => ct_lt (ct_wr (v1 - 1)) fun v3 => l_X7_spreads_14 G o a1 a3 v1 v2 200 (v3, h)
set_option maxRecDepth 100000 in
theorem e_X7_spreads {d : Nat} {G : ct_G} {h : ct_H} (o : Nat) (a1 : Int) (a2 : Int) (a3 : Int) : ct_E m_X7_spreads (d + 4) G (ct_args 0 [.inr (.inr (7, o)), .inl a1, .inl a2, .inl a3]) h (fun r : ct_H => ((none : Option ct_PV), r)) (f_X7_spreads G h o a1 a2 a3) := by
  intro x C
  unfold f_X7_spreads
  show ct_Z x m_X7_spreads G 0 [(0, .inr (.inr (7, o))), (1, .inl a1), (2, .inl a2), (3, .inl a3)] [] h (fun a => ct_q x G ((fun r : ct_H => ((none : Option ct_PV), r)) a)) _
  refine ct_zrun C (k' := 3) (y := ([(0, .inr (.inr (7, o))), (1, .inl a1), (2, .inl a2), (3, .inl a3)], [.inl (h.1 o 1), .inl a2], h)) 3 rfl rfl rfl ?_
  refine ct_zdv C (pc := 5) (aux := 0) rfl rfl (fun v1 => ?_)
  refine ct_zrun C (k' := 8) (y := ([(4, .inl v1), (0, .inr (.inr (7, o))), (1, .inl a1), (2, .inl a2), (3, .inl a3)], [.inl (h.1 o 1), .inl a2], h)) 4 rfl rfl rfl ?_
  refine ct_zmd C (pc := 13) (aux := 0) rfl rfl (fun v2 => ?_)
  refine ct_zrun C (k' := 14) (y := ([(6, .inl (ct_wr (v1 - 1))), (5, .inl v2), (4, .inl v1), (0, .inr (.inr (7, o))), (1, .inl a1), (2, .inl a2), (3, .inl a3)], [], h)) 5 rfl rfl rfl ?_
  refine ct_zlet (L := fun v3 => [(6, .inl v3), (5, .inl v2), (4, .inl v1), (0, .inr (.inr (7, o))), (1, .inl a1), (2, .inl a2), (3, .inl a3)]) (S := fun _ => []) (Hh := fun _ => h) (a := (ct_wr (v1 - 1))) (fun v3 => ?_)
  exact ct_zsub [3, 4, 6, 2, 1, 0] rfl (zl_X7_spreads_14 C o a1 a3 v1 v2 200 (v3, h))
def l_X7_layLands_2 (G : ct_G) (o : Nat) (k3 : ct_H → Option (ct_H)) : Nat → (Int × ct_H) → Option (ct_H)
  | 0, _ => none
  | n2 + 1, b1 => if 49 ≤ b1.1 then (k3 (b1.2)) else (ct_wt G b1.2 (G.1 o 16) b1.1 (-5)).bind fun h6 => l_X7_layLands_2 G o k3 n2 ((ct_wr (b1.1 + 1)), h6)
set_option maxRecDepth 100000 in
theorem zl_X7_layLands_2 {x : ct_Ctx} {d : Nat} {G : ct_G} (C : ct_c x m_X7_layLands G (d + 5)) (o : Nat) (a1 : Int) (k3 : ct_H → Option (ct_H)) (z4 : ∀ b5 : ct_H, ct_Z x m_X7_layLands G 12 [(0, .inr (.inr (7, o))), (1, .inl a1)] [] b5 (fun a => ct_q x G ((fun r : ct_H => ((none : Option ct_PV), r)) a)) (k3 b5)) : ∀ (n2 : Nat) (b1 : Int × ct_H), ct_Z x m_X7_layLands G 2 [(0, .inr (.inr (7, o))), (1, .inl a1), (2, .inl (b1.1))] [] b1.2 (fun a => ct_q x G ((fun r : ct_H => ((none : Option ct_PV), r)) a)) (l_X7_layLands_2 G o k3 n2 b1) := by
  intro n2
  induction n2 with
  | zero => intro b1; exact ct_znone
  | succ n2 ih =>
    intro b1
    rw [l_X7_layLands_2]
    refine ct_zrun C (k' := 4) (y := ([(0, .inr (.inr (7, o))), (1, .inl a1), (2, .inl (b1.1))], [.inl 49, .inl (b1.1)], b1.2)) 2 rfl rfl rfl ?_
    refine ct_zt C (pc := 5) (aux := 0) (cn := .ge) (off := 17) (k' := 12) (a := b1.1) (b := 49) Iff.rfl rfl rfl rfl (fun e7 => ?_) (fun e7 => ?_)
    · exact ct_zsub [0, 1] rfl (z4 (b1.2))
    · refine ct_zrun C (k' := 9) (y := ([(0, .inr (.inr (7, o))), (1, .inl a1), (2, .inl (b1.1))], [.inl (-5), .inl (b1.1), .inr (.inr (8, (G.1 o 16)))], b1.2)) 4 rfl rfl rfl ?_
      refine ct_zwt C (pc := 15) (aux := 0) rfl rfl (fun h6 => ?_)
      refine ct_zrun C (k' := 11) (y := ([(2, .inl (ct_wr (b1.1 + 1))), (0, .inr (.inr (7, o))), (1, .inl a1)], [], h6)) 1 rfl rfl rfl ?_
      refine ct_zgoto C (pc := 19) (aux := 0) (off := (-17)) (k' := 2) rfl rfl ?_
      exact ct_zsub [1, 2, 0] rfl (ih ((ct_wr (b1.1 + 1)), h6))
def l_X7_layLands_43 (G : ct_G) (o : Nat) (a1 : Int) (k23 : ct_H → Option (ct_H)) : Nat → ct_H → Option (ct_H)
  | 0, _ => none
  | n22 + 1, b21 => if (b21.1 o 19) ≤ 0 then (k23 b21) else ct_lt (ct_wF b21 o 19 (ct_wr ((b21.1 o 19) - 1))) fun h26 => (ct_rd G h26 (G.1 o 17) (h26.1 o 19)).bind fun v27 => (f_X7_spreads G h26 o a1 v27 (h26.1 o 18)).bind fun r28 => l_X7_layLands_43 G o a1 k23 n22 r28
set_option maxRecDepth 100000 in
theorem zl_X7_layLands_43 {x : ct_Ctx} {d : Nat} {G : ct_G} (C : ct_c x m_X7_layLands G (d + 5)) (o : Nat) (a1 : Int) (p20 : Int) (k23 : ct_H → Option (ct_H)) (z24 : ∀ b25 : ct_H, ct_Z x m_X7_layLands G 63 [(0, .inr (.inr (7, o))), (1, .inl a1), (2, .inl p20)] [] b25 (fun a => ct_q x G ((fun r : ct_H => ((none : Option ct_PV), r)) a)) (k23 b25)) : ∀ (n22 : Nat) (b21 : ct_H), ct_Z x m_X7_layLands G 43 [(0, .inr (.inr (7, o))), (1, .inl a1), (2, .inl p20)] [] b21 (fun a => ct_q x G ((fun r : ct_H => ((none : Option ct_PV), r)) a)) (l_X7_layLands_43 G o a1 k23 n22 b21) := by
  intro n22
  induction n22 with
  | zero => intro b21; exact ct_znone
  | succ n22 ih =>
    intro b21
    rw [l_X7_layLands_43]
    refine ct_zrun C (k' := 45) (y := ([(0, .inr (.inr (7, o))), (1, .inl a1), (2, .inl p20)], [.inl (b21.1 o 19)], b21)) 2 rfl rfl rfl ?_
    refine ct_zt0 C (pc := 80) (aux := 0) (cn := .le) (off := 34) (k' := 63) (a := (b21.1 o 19)) Iff.rfl rfl rfl rfl (fun e29 => ?_) (fun e29 => ?_)
    · exact ct_zsub [0, 1, 2] rfl (z24 b21)
    · refine ct_zrun C (k' := 52) (y := ([(0, .inr (.inr (7, o))), (1, .inl a1), (2, .inl p20)], [], (ct_wF b21 o 19 (ct_wr ((b21.1 o 19) - 1))))) 6 rfl rfl rfl ?_
      refine ct_zlet (L := fun _ => [(0, .inr (.inr (7, o))), (1, .inl a1), (2, .inl p20)]) (S := fun _ => []) (Hh := fun h26 => h26) (a := (ct_wF b21 o 19 (ct_wr ((b21.1 o 19) - 1)))) (fun h26 => ?_)
      refine ct_zrun C (k' := 58) (y := ([(0, .inr (.inr (7, o))), (1, .inl a1), (2, .inl p20)], [.inl (h26.1 o 19), .inr (.inr (8, (G.1 o 17))), .inl a1, .inr (.inr (7, o))], h26)) 6 rfl rfl rfl ?_
      refine ct_zrd C (pc := 103) (aux := 0) (ins := .iaload) (cd := 8) rfl rfl (Or.inl ⟨rfl, rfl⟩) (fun v27 => ?_)
      refine ct_zrun C (k' := 61) (y := ([(0, .inr (.inr (7, o))), (1, .inl a1), (2, .inl p20)], [.inl (h26.1 o 18), .inl v27, .inl a1, .inr (.inr (7, o))], h26)) 2 rfl rfl rfl ?_
      refine ct_zV C (pc := 108) (aux := 0) [.inl a1, .inl v27, .inl (h26.1 o 18)] [] ok_X7_spreads lk_X7_291 (e_X7_spreads o a1 v27 (h26.1 o 18)) rfl rfl rfl rfl rfl rfl rfl rfl (fun r28 => ?_)
      refine ct_zgoto C (pc := 111) (aux := 0) (off := (-35)) (k' := 43) rfl rfl ?_
      exact ct_zsub [0, 1, 2] rfl (ih r28)
def l_X7_layLands_17 (G : ct_G) (o : Nat) (a1 : Int) : Nat → (Int × ct_H) → Option (ct_H)
  | 0, _ => none
  | n11 + 1, b10 => (f_X7_points G b10.2 o).bind fun v12 => if v12 ≤ b10.1 then (some (b10.2)) else (ct_rd G b10.2 (G.1 o 3) b10.1).bind fun v13 => ct_jn (β := ct_H) (fun k15 => if v13 < a1 then (k15 (b10.2)) else (ct_rd G b10.2 (G.1 o 16) b10.1).bind fun v17 => if v17 = (-5) then (ct_lt (ct_wF b10.2 o 19 0) fun h18 => (f_X7_visit G h18 o a1 b10.1 (h18.1 o 18)).bind fun r19 => l_X7_layLands_43 G o a1 (fun b30 => ct_lt (ct_wF b30 o 18 (ct_wr ((b30.1 o 18) + 1))) fun h31 => k15 h31) 200 r19) else k15 (b10.2)) (fun b14 => l_X7_layLands_17 G o a1 n11 ((ct_wr (b10.1 + 1)), b14))
set_option maxRecDepth 100000 in
theorem zl_X7_layLands_17 {x : ct_Ctx} {d : Nat} {G : ct_G} (C : ct_c x m_X7_layLands G (d + 5)) (o : Nat) (a1 : Int) : ∀ (n11 : Nat) (b10 : Int × ct_H), ct_Z x m_X7_layLands G 17 [(0, .inr (.inr (7, o))), (1, .inl a1), (2, .inl (b10.1))] [] b10.2 (fun a => ct_q x G ((fun r : ct_H => ((none : Option ct_PV), r)) a)) (l_X7_layLands_17 G o a1 n11 b10) := by
  intro n11
  induction n11 with
  | zero => intro b10; exact ct_znone
  | succ n11 ih =>
    intro b10
    rw [l_X7_layLands_17]
    refine ct_zrun C (k' := 19) (y := ([(0, .inr (.inr (7, o))), (1, .inl a1), (2, .inl (b10.1))], [.inr (.inr (7, o)), .inl (b10.1)], b10.2)) 2 rfl rfl rfl ?_
    refine ct_zV C (pc := 31) (aux := 0) [] [.inl (b10.1)] ok_X7_points lk_X7_104 (e_X7_points o) rfl rfl rfl rfl rfl rfl rfl rfl (fun v12 => ?_)
    refine ct_zt C (pc := 34) (aux := 0) (cn := .ge) (off := 96) (k' := 71) (a := b10.1) (b := v12) Iff.rfl rfl rfl rfl (fun e34 => ?_) (fun e34 => ?_)
    · exact ct_zret C (pc := 130) (aux := 0) (ins := .return_) (ρ := (fun r : ct_H => ((none : Option ct_PV), r))) none rfl rfl rfl ⟨rfl, rfl⟩
    · refine ct_zrun C (k' := 24) (y := ([(0, .inr (.inr (7, o))), (1, .inl a1), (2, .inl (b10.1))], [.inl (b10.1), .inr (.inr (8, (G.1 o 3)))], b10.2)) 3 rfl rfl rfl ?_
      refine ct_zrd C (pc := 42) (aux := 0) (ins := .iaload) (cd := 8) rfl rfl (Or.inl ⟨rfl, rfl⟩) (fun v13 => ?_)
      refine ct_zrun C (k' := 26) (y := ([(0, .inr (.inr (7, o))), (1, .inl a1), (2, .inl (b10.1))], [.inl a1, .inl v13], b10.2)) 1 rfl rfl rfl ?_
      refine ct_zjn (β := ct_H) (kJ := 69) (L := fun b14 => [(0, .inr (.inr (7, o))), (1, .inl a1), (2, .inl (b10.1))]) (S := fun b14 => []) (Hh := fun b14 => b14) (fun b14 => ?_) (fun k15 z16 => ?_)
      · refine ct_zrun C (k' := 70) (y := ([(2, .inl (ct_wr (b10.1 + 1))), (0, .inr (.inr (7, o))), (1, .inl a1)], [], b14)) 1 rfl rfl rfl ?_
        refine ct_zgoto C (pc := 127) (aux := 0) (off := (-98)) (k' := 17) rfl rfl ?_
        exact ct_zsub [1, 2, 0] rfl (ih ((ct_wr (b10.1 + 1)), b14))
      · refine ct_zt C (pc := 44) (aux := 0) (cn := .lt) (off := 80) (k' := 69) (a := v13) (b := a1) Iff.rfl rfl rfl rfl (fun e33 => ?_) (fun e33 => ?_)
        · exact ct_zsub [0, 1, 2] rfl (z16 (b10.2))
        · refine ct_zrun C (k' := 30) (y := ([(0, .inr (.inr (7, o))), (1, .inl a1), (2, .inl (b10.1))], [.inl (b10.1), .inr (.inr (8, (G.1 o 16)))], b10.2)) 3 rfl rfl rfl ?_
          refine ct_zrd C (pc := 52) (aux := 0) (ins := .iaload) (cd := 8) rfl rfl (Or.inl ⟨rfl, rfl⟩) (fun v17 => ?_)
          refine ct_zrun C (k' := 32) (y := ([(0, .inr (.inr (7, o))), (1, .inl a1), (2, .inl (b10.1))], [.inl (-5), .inl v17], b10.2)) 1 rfl rfl rfl ?_
          refine ct_zt C (pc := 55) (aux := 0) (cn := .eq) (off := 6) (k' := 34) (a := v17) (b := (-5)) Iff.rfl rfl rfl rfl (fun e32 => ?_) (fun e32 => ?_)
          · refine ct_zrun C (k' := 37) (y := ([(0, .inr (.inr (7, o))), (1, .inl a1), (2, .inl (b10.1))], [], (ct_wF b10.2 o 19 0))) 3 rfl rfl rfl ?_
            refine ct_zlet (L := fun _ => [(0, .inr (.inr (7, o))), (1, .inl a1), (2, .inl (b10.1))]) (S := fun _ => []) (Hh := fun h18 => h18) (a := (ct_wF b10.2 o 19 0)) (fun h18 => ?_)
            refine ct_zrun C (k' := 42) (y := ([(0, .inr (.inr (7, o))), (1, .inl a1), (2, .inl (b10.1))], [.inl (h18.1 o 18), .inl (b10.1), .inl a1, .inr (.inr (7, o))], h18)) 5 rfl rfl rfl ?_
            refine ct_zV C (pc := 73) (aux := 0) [.inl a1, .inl (b10.1), .inl (h18.1 o 18)] [] ok_X7_visit lk_X7_284 (e_X7_visit o a1 (b10.1) (h18.1 o 18)) rfl rfl rfl rfl rfl rfl rfl rfl (fun r19 => ?_)
            refine ct_zsub [0, 1, 2] rfl (zl_X7_layLands_43 C o a1 (b10.1) _ (fun b30 => ?_) 200 r19)
            refine ct_zrun C (k' := 69) (y := ([(0, .inr (.inr (7, o))), (1, .inl a1), (2, .inl (b10.1))], [], (ct_wF b30 o 18 (ct_wr ((b30.1 o 18) + 1))))) 6 rfl rfl rfl ?_
            refine ct_zlet (L := fun _ => [(0, .inr (.inr (7, o))), (1, .inl a1), (2, .inl (b10.1))]) (S := fun _ => []) (Hh := fun h31 => h31) (a := (ct_wF b30 o 18 (ct_wr ((b30.1 o 18) + 1)))) (fun h31 => ?_)
            exact ct_zsub [0, 1, 2] rfl (z16 h31)
          · refine ct_zgoto C (pc := 58) (aux := 0) (off := 66) (k' := 69) rfl rfl ?_
            exact ct_zsub [0, 1, 2] rfl (z16 (b10.2))
def f_X7_layLands (G : ct_G) (h : ct_H) (o : Nat) (a1 : Int) : Option (ct_H) := l_X7_layLands_2 G o (fun b8 => ct_lt (ct_wF b8 o 18 0) fun h9 => l_X7_layLands_17 G o a1 200 (0, h9)) 200 (0, h)
set_option maxRecDepth 100000 in
theorem e_X7_layLands {d : Nat} {G : ct_G} {h : ct_H} (o : Nat) (a1 : Int) : ct_E m_X7_layLands (d + 5) G (ct_args 0 [.inr (.inr (7, o)), .inl a1]) h (fun r : ct_H => ((none : Option ct_PV), r)) (f_X7_layLands G h o a1) := by
  intro x C
  unfold f_X7_layLands
  show ct_Z x m_X7_layLands G 0 [(0, .inr (.inr (7, o))), (1, .inl a1)] [] h (fun a => ct_q x G ((fun r : ct_H => ((none : Option ct_PV), r)) a)) _
  refine ct_zrun C (k' := 2) (y := ([(2, .inl 0), (0, .inr (.inr (7, o))), (1, .inl a1)], [], h)) 2 rfl rfl rfl ?_
  refine ct_zsub [1, 2, 0] rfl (zl_X7_layLands_2 C o a1 _ (fun b8 => ?_) 200 (0, h))
  refine ct_zrun C (k' := 15) (y := ([(0, .inr (.inr (7, o))), (1, .inl a1)], [], (ct_wF b8 o 18 0))) 3 rfl rfl rfl ?_
  refine ct_zlet (L := fun _ => [(0, .inr (.inr (7, o))), (1, .inl a1)]) (S := fun _ => []) (Hh := fun h9 => h9) (a := (ct_wF b8 o 18 0)) (fun h9 => ?_)
  refine ct_zrun C (k' := 17) (y := ([(2, .inl 0), (0, .inr (.inr (7, o))), (1, .inl a1)], [], h9)) 2 rfl rfl rfl ?_
  exact ct_zsub [1, 2, 0] rfl (zl_X7_layLands_17 C o a1 200 (0, h9))
def l_X7_leastOf_2 (G : ct_G) (o : Nat) (a1 : Int) (h : ct_H) : Nat → Int → Option (Int)
  | 0, _ => none
  | n2 + 1, b1 => (ct_rd G h (G.1 o 16) b1).bind fun v3 => if v3 = a1 then (some b1) else l_X7_leastOf_2 G o a1 h n2 (ct_wr (b1 + 1))
set_option maxRecDepth 100000 in
theorem zl_X7_leastOf_2 {x : ct_Ctx} {d : Nat} {G : ct_G} (C : ct_c x m_X7_leastOf G d) (o : Nat) (a1 : Int) (h : ct_H) : ∀ (n2 : Nat) (b1 : Int), ct_Z x m_X7_leastOf G 2 [(0, .inr (.inr (7, o))), (1, .inl a1), (2, .inl b1)] [] h (fun a => ct_q x G ((fun r : Int => (some (.inl r : ct_PV), h)) a)) (l_X7_leastOf_2 G o a1 h n2 b1) := by
  intro n2
  induction n2 with
  | zero => intro b1; exact ct_znone
  | succ n2 ih =>
    intro b1
    rw [l_X7_leastOf_2]
    refine ct_zrun C (k' := 5) (y := ([(0, .inr (.inr (7, o))), (1, .inl a1), (2, .inl b1)], [.inl b1, .inr (.inr (8, (G.1 o 16)))], h)) 3 rfl rfl rfl ?_
    refine ct_zrd C (pc := 7) (aux := 0) (ins := .iaload) (cd := 8) rfl rfl (Or.inl ⟨rfl, rfl⟩) (fun v3 => ?_)
    refine ct_zrun C (k' := 7) (y := ([(0, .inr (.inr (7, o))), (1, .inl a1), (2, .inl b1)], [.inl a1, .inl v3], h)) 1 rfl rfl rfl ?_
    refine ct_zt C (pc := 9) (aux := 0) (cn := .eq) (off := 9) (k' := 10) (a := v3) (b := a1) Iff.rfl rfl rfl rfl (fun e4 => ?_) (fun e4 => ?_)
    · refine ct_zrun C (k' := 11) (y := ([(0, .inr (.inr (7, o))), (1, .inl a1), (2, .inl b1)], [.inl b1], h)) 1 rfl rfl rfl ?_
      exact ct_zret C (pc := 19) (aux := 0) (ins := .ireturn) (ρ := (fun r : Int => (some (.inl r : ct_PV), h))) (some (.inl b1)) rfl rfl rfl ⟨rfl, Or.inl rfl⟩
    · refine ct_zrun C (k' := 9) (y := ([(2, .inl (ct_wr (b1 + 1))), (0, .inr (.inr (7, o))), (1, .inl a1)], [], h)) 1 rfl rfl rfl ?_
      refine ct_zgoto C (pc := 15) (aux := 0) (off := (-13)) (k' := 2) rfl rfl ?_
      exact ct_zsub [1, 2, 0] rfl (ih (ct_wr (b1 + 1)))
def f_X7_leastOf (G : ct_G) (h : ct_H) (o : Nat) (a1 : Int) : Option (Int) := l_X7_leastOf_2 G o a1 h 200 0
set_option maxRecDepth 100000 in
theorem e_X7_leastOf {d : Nat} {G : ct_G} {h : ct_H} (o : Nat) (a1 : Int) : ct_E m_X7_leastOf d G (ct_args 0 [.inr (.inr (7, o)), .inl a1]) h (fun r : Int => (some (.inl r : ct_PV), h)) (f_X7_leastOf G h o a1) := by
  intro x C
  unfold f_X7_leastOf
  show ct_Z x m_X7_leastOf G 0 [(0, .inr (.inr (7, o))), (1, .inl a1)] [] h (fun a => ct_q x G ((fun r : Int => (some (.inl r : ct_PV), h)) a)) _
  refine ct_zrun C (k' := 2) (y := ([(2, .inl 0), (0, .inr (.inr (7, o))), (1, .inl a1)], [], h)) 2 rfl rfl rfl ?_
  exact ct_zsub [1, 2, 0] rfl (zl_X7_leastOf_2 C o a1 h 200 0)
def l_X7_sizeOf_4 (G : ct_G) (o : Nat) (a1 : Int) (h : ct_H) : Nat → (Int × Int) → Option (Int)
  | 0, _ => none
  | n2 + 1, b1 => (f_X7_points G h o).bind fun v3 => if v3 ≤ b1.2 then (some (b1.1)) else (ct_rd G h (G.1 o 16) b1.2).bind fun v4 => ct_jn (β := Int) (fun k6 => if v4 = a1 then (k6 (ct_wr (b1.1 + 1))) else k6 (b1.1)) (fun b5 => l_X7_sizeOf_4 G o a1 h n2 (b5, (ct_wr (b1.2 + 1))))
set_option maxRecDepth 100000 in
theorem zl_X7_sizeOf_4 {x : ct_Ctx} {d : Nat} {G : ct_G} (C : ct_c x m_X7_sizeOf G (d + 1)) (o : Nat) (a1 : Int) (h : ct_H) : ∀ (n2 : Nat) (b1 : Int × Int), ct_Z x m_X7_sizeOf G 4 [(0, .inr (.inr (7, o))), (1, .inl a1), (2, .inl (b1.1)), (3, .inl (b1.2))] [] h (fun a => ct_q x G ((fun r : Int => (some (.inl r : ct_PV), h)) a)) (l_X7_sizeOf_4 G o a1 h n2 b1) := by
  intro n2
  induction n2 with
  | zero => intro b1; exact ct_znone
  | succ n2 ih =>
    intro b1
    rw [l_X7_sizeOf_4]
    refine ct_zrun C (k' := 6) (y := ([(0, .inr (.inr (7, o))), (1, .inl a1), (2, .inl (b1.1)), (3, .inl (b1.2))], [.inr (.inr (7, o)), .inl (b1.2)], h)) 2 rfl rfl rfl ?_
    refine ct_zV C (pc := 6) (aux := 0) [] [.inl (b1.2)] ok_X7_points lk_X7_104 (e_X7_points o) rfl rfl rfl rfl rfl rfl rfl rfl (fun v3 => ?_)
    refine ct_zt C (pc := 9) (aux := 0) (cn := .ge) (off := 22) (k' := 17) (a := b1.2) (b := v3) Iff.rfl rfl rfl rfl (fun e9 => ?_) (fun e9 => ?_)
    · refine ct_zrun C (k' := 18) (y := ([(0, .inr (.inr (7, o))), (1, .inl a1), (2, .inl (b1.1)), (3, .inl (b1.2))], [.inl (b1.1)], h)) 1 rfl rfl rfl ?_
      exact ct_zret C (pc := 32) (aux := 0) (ins := .ireturn) (ρ := (fun r : Int => (some (.inl r : ct_PV), h))) (some (.inl (b1.1))) rfl rfl rfl ⟨rfl, Or.inl rfl⟩
    · refine ct_zrun C (k' := 11) (y := ([(0, .inr (.inr (7, o))), (1, .inl a1), (2, .inl (b1.1)), (3, .inl (b1.2))], [.inl (b1.2), .inr (.inr (8, (G.1 o 16)))], h)) 3 rfl rfl rfl ?_
      refine ct_zrd C (pc := 17) (aux := 0) (ins := .iaload) (cd := 8) rfl rfl (Or.inl ⟨rfl, rfl⟩) (fun v4 => ?_)
      refine ct_zrun C (k' := 13) (y := ([(0, .inr (.inr (7, o))), (1, .inl a1), (2, .inl (b1.1)), (3, .inl (b1.2))], [.inl a1, .inl v4], h)) 1 rfl rfl rfl ?_
      refine ct_zjn (β := Int) (kJ := 15) (L := fun b5 => [(0, .inr (.inr (7, o))), (1, .inl a1), (2, .inl b5), (3, .inl (b1.2))]) (S := fun b5 => []) (Hh := fun b5 => h) (fun b5 => ?_) (fun k6 z7 => ?_)
      · refine ct_zrun C (k' := 16) (y := ([(3, .inl (ct_wr (b1.2 + 1))), (0, .inr (.inr (7, o))), (1, .inl a1), (2, .inl b5)], [], h)) 1 rfl rfl rfl ?_
        refine ct_zgoto C (pc := 28) (aux := 0) (off := (-24)) (k' := 4) rfl rfl ?_
        exact ct_zsub [1, 2, 3, 0] rfl (ih (b5, (ct_wr (b1.2 + 1))))
      · refine ct_zf C (pc := 19) (aux := 0) (cn := .ne) (off := 6) (k' := 15) (a := v4) (b := a1) Iff.rfl rfl rfl rfl (fun e8 => ?_) (fun e8 => ?_)
        · refine ct_zrun C (k' := 15) (y := ([(2, .inl (ct_wr (b1.1 + 1))), (0, .inr (.inr (7, o))), (1, .inl a1), (3, .inl (b1.2))], [], h)) 1 rfl rfl rfl ?_
          exact ct_zsub [1, 2, 0, 3] rfl (z7 (ct_wr (b1.1 + 1)))
        · exact ct_zsub [0, 1, 2, 3] rfl (z7 (b1.1))
def f_X7_sizeOf (G : ct_G) (h : ct_H) (o : Nat) (a1 : Int) : Option (Int) := l_X7_sizeOf_4 G o a1 h 200 (0, 0)
set_option maxRecDepth 100000 in
theorem e_X7_sizeOf {d : Nat} {G : ct_G} {h : ct_H} (o : Nat) (a1 : Int) : ct_E m_X7_sizeOf (d + 1) G (ct_args 0 [.inr (.inr (7, o)), .inl a1]) h (fun r : Int => (some (.inl r : ct_PV), h)) (f_X7_sizeOf G h o a1) := by
  intro x C
  unfold f_X7_sizeOf
  show ct_Z x m_X7_sizeOf G 0 [(0, .inr (.inr (7, o))), (1, .inl a1)] [] h (fun a => ct_q x G ((fun r : Int => (some (.inl r : ct_PV), h)) a)) _
  refine ct_zrun C (k' := 4) (y := ([(3, .inl 0), (2, .inl 0), (0, .inr (.inr (7, o))), (1, .inl a1)], [], h)) 4 rfl rfl rfl ?_
  exact ct_zsub [2, 3, 1, 0] rfl (zl_X7_sizeOf_4 C o a1 h 200 (0, 0))
def l_X7_topOf_4 (G : ct_G) (o : Nat) (a1 : Int) (h : ct_H) : Nat → (Int × Int) → Option (Int)
  | 0, _ => none
  | n2 + 1, b1 => (f_X7_points G h o).bind fun v3 => if v3 ≤ b1.2 then (some (b1.1)) else (ct_rd G h (G.1 o 16) b1.2).bind fun v4 => ct_jn (β := Int) (fun k6 => if v4 = a1 then ((ct_rd G h (G.1 o 3) b1.2).bind fun v8 => ct_lt (ct_max b1.1 v8) fun v9 => k6 v9) else k6 (b1.1)) (fun b5 => l_X7_topOf_4 G o a1 h n2 (b5, (ct_wr (b1.2 + 1))))
set_option maxRecDepth 100000 in
theorem zl_X7_topOf_4 {x : ct_Ctx} {d : Nat} {G : ct_G} (C : ct_c x m_X7_topOf G (d + 1)) (o : Nat) (a1 : Int) (h : ct_H) : ∀ (n2 : Nat) (b1 : Int × Int), ct_Z x m_X7_topOf G 4 [(0, .inr (.inr (7, o))), (1, .inl a1), (2, .inl (b1.1)), (3, .inl (b1.2))] [] h (fun a => ct_q x G ((fun r : Int => (some (.inl r : ct_PV), h)) a)) (l_X7_topOf_4 G o a1 h n2 b1) := by
  intro n2
  induction n2 with
  | zero => intro b1; exact ct_znone
  | succ n2 ih =>
    intro b1
    rw [l_X7_topOf_4]
    refine ct_zrun C (k' := 6) (y := ([(0, .inr (.inr (7, o))), (1, .inl a1), (2, .inl (b1.1)), (3, .inl (b1.2))], [.inr (.inr (7, o)), .inl (b1.2)], h)) 2 rfl rfl rfl ?_
    refine ct_zV C (pc := 6) (aux := 0) [] [.inl (b1.2)] ok_X7_points lk_X7_104 (e_X7_points o) rfl rfl rfl rfl rfl rfl rfl rfl (fun v3 => ?_)
    refine ct_zt C (pc := 9) (aux := 0) (cn := .ge) (off := 30) (k' := 23) (a := b1.2) (b := v3) Iff.rfl rfl rfl rfl (fun e11 => ?_) (fun e11 => ?_)
    · refine ct_zrun C (k' := 24) (y := ([(0, .inr (.inr (7, o))), (1, .inl a1), (2, .inl (b1.1)), (3, .inl (b1.2))], [.inl (b1.1)], h)) 1 rfl rfl rfl ?_
      exact ct_zret C (pc := 40) (aux := 0) (ins := .ireturn) (ρ := (fun r : Int => (some (.inl r : ct_PV), h))) (some (.inl (b1.1))) rfl rfl rfl ⟨rfl, Or.inl rfl⟩
    · refine ct_zrun C (k' := 11) (y := ([(0, .inr (.inr (7, o))), (1, .inl a1), (2, .inl (b1.1)), (3, .inl (b1.2))], [.inl (b1.2), .inr (.inr (8, (G.1 o 16)))], h)) 3 rfl rfl rfl ?_
      refine ct_zrd C (pc := 17) (aux := 0) (ins := .iaload) (cd := 8) rfl rfl (Or.inl ⟨rfl, rfl⟩) (fun v4 => ?_)
      refine ct_zrun C (k' := 13) (y := ([(0, .inr (.inr (7, o))), (1, .inl a1), (2, .inl (b1.1)), (3, .inl (b1.2))], [.inl a1, .inl v4], h)) 1 rfl rfl rfl ?_
      refine ct_zjn (β := Int) (kJ := 21) (L := fun b5 => [(0, .inr (.inr (7, o))), (1, .inl a1), (2, .inl b5), (3, .inl (b1.2))]) (S := fun b5 => []) (Hh := fun b5 => h) (fun b5 => ?_) (fun k6 z7 => ?_)
      · refine ct_zrun C (k' := 22) (y := ([(3, .inl (ct_wr (b1.2 + 1))), (0, .inr (.inr (7, o))), (1, .inl a1), (2, .inl b5)], [], h)) 1 rfl rfl rfl ?_
        refine ct_zgoto C (pc := 36) (aux := 0) (off := (-32)) (k' := 4) rfl rfl ?_
        exact ct_zsub [1, 2, 3, 0] rfl (ih (b5, (ct_wr (b1.2 + 1))))
      · refine ct_zf C (pc := 19) (aux := 0) (cn := .ne) (off := 14) (k' := 21) (a := v4) (b := a1) Iff.rfl rfl rfl rfl (fun e10 => ?_) (fun e10 => ?_)
        · refine ct_zrun C (k' := 18) (y := ([(0, .inr (.inr (7, o))), (1, .inl a1), (2, .inl (b1.1)), (3, .inl (b1.2))], [.inl (b1.2), .inr (.inr (8, (G.1 o 3))), .inl (b1.1)], h)) 4 rfl rfl rfl ?_
          refine ct_zrd C (pc := 28) (aux := 0) (ins := .iaload) (cd := 8) rfl rfl (Or.inl ⟨rfl, rfl⟩) (fun v8 => ?_)
          refine ct_zmax C (pc := 29) (aux := 0) lk_X7_121 rfl rfl rfl ?_
          refine ct_zrun C (k' := 21) (y := ([(2, .inl (ct_max b1.1 v8)), (0, .inr (.inr (7, o))), (1, .inl a1), (3, .inl (b1.2))], [], h)) 1 rfl rfl rfl ?_
          refine ct_zlet (L := fun v9 => [(2, .inl v9), (0, .inr (.inr (7, o))), (1, .inl a1), (3, .inl (b1.2))]) (S := fun _ => []) (Hh := fun _ => h) (a := (ct_max b1.1 v8)) (fun v9 => ?_)
          exact ct_zsub [1, 2, 0, 3] rfl (z7 v9)
        · exact ct_zsub [0, 1, 2, 3] rfl (z7 (b1.1))
def f_X7_topOf (G : ct_G) (h : ct_H) (o : Nat) (a1 : Int) : Option (Int) := l_X7_topOf_4 G o a1 h 200 (0, 0)
set_option maxRecDepth 100000 in
theorem e_X7_topOf {d : Nat} {G : ct_G} {h : ct_H} (o : Nat) (a1 : Int) : ct_E m_X7_topOf (d + 1) G (ct_args 0 [.inr (.inr (7, o)), .inl a1]) h (fun r : Int => (some (.inl r : ct_PV), h)) (f_X7_topOf G h o a1) := by
  intro x C
  unfold f_X7_topOf
  show ct_Z x m_X7_topOf G 0 [(0, .inr (.inr (7, o))), (1, .inl a1)] [] h (fun a => ct_q x G ((fun r : Int => (some (.inl r : ct_PV), h)) a)) _
  refine ct_zrun C (k' := 4) (y := ([(3, .inl 0), (2, .inl 0), (0, .inr (.inr (7, o))), (1, .inl a1)], [], h)) 4 rfl rfl rfl ?_
  exact ct_zsub [2, 3, 1, 0] rfl (zl_X7_topOf_4 C o a1 h 200 (0, 0))
def f_X7_landAt (G : ct_G) (h : ct_H) (o : Nat) (a1 : Int) : Option (Int) := (f_X7_row G h o a1).bind fun v1 => (f_X7_column G h o a1).bind fun v2 => (f_X7_in G h v1 0 (ct_wr ((h.1 o 0) - 1))).bind fun v3 => if v3 = 0 then (some (-5)) else (f_X7_in G h v2 0 (ct_wr ((h.1 o 1) - 1))).bind fun v4 => if v4 = 0 then (some (-5)) else (ct_rd G h (G.1 o 16) (ct_wr ((ct_wr (v1 * (h.1 o 1))) + v2))).bind fun v5 => some v5
set_option maxRecDepth 100000 in
theorem e_X7_landAt {d : Nat} {G : ct_G} {h : ct_H} (o : Nat) (a1 : Int) : ct_E m_X7_landAt (d + 1) G (ct_args 0 [.inr (.inr (7, o)), .inl a1]) h (fun r : Int => (some (.inl r : ct_PV), h)) (f_X7_landAt G h o a1) := by
  intro x C
  unfold f_X7_landAt
  show ct_Z x m_X7_landAt G 0 [(0, .inr (.inr (7, o))), (1, .inl a1)] [] h (fun a => ct_q x G ((fun r : Int => (some (.inl r : ct_PV), h)) a)) _
  refine ct_zrun C (k' := 2) (y := ([(0, .inr (.inr (7, o))), (1, .inl a1)], [.inl a1, .inr (.inr (7, o))], h)) 2 rfl rfl rfl ?_
  refine ct_zV C (pc := 2) (aux := 0) [.inl a1] [] ok_X7_row lk_X7_199 (e_X7_row o a1) rfl rfl rfl rfl rfl rfl rfl rfl (fun v1 => ?_)
  refine ct_zrun C (k' := 6) (y := ([(2, .inl v1), (0, .inr (.inr (7, o))), (1, .inl a1)], [.inl a1, .inr (.inr (7, o))], h)) 3 rfl rfl rfl ?_
  refine ct_zV C (pc := 8) (aux := 0) [.inl a1] [] ok_X7_column lk_X7_202 (e_X7_column o a1) rfl rfl rfl rfl rfl rfl rfl rfl (fun v2 => ?_)
  refine ct_zrun C (k' := 14) (y := ([(3, .inl v2), (2, .inl v1), (0, .inr (.inr (7, o))), (1, .inl a1)], [.inl (ct_wr ((h.1 o 0) - 1)), .inl 0, .inl v1], h)) 7 rfl rfl rfl ?_
  refine ct_zS C (pc := 20) (aux := 0) [.inl v1, .inl 0, .inl (ct_wr ((h.1 o 0) - 1))] [] ok_X7_in lk_X7_100 (e_X7_in v1 0 (ct_wr ((h.1 o 0) - 1))) rfl rfl rfl rfl rfl rfl (fun v3 => ?_)
  refine ct_zt0 C (pc := 23) (aux := 0) (cn := .eq) (off := 33) (k' := 34) (a := v3) Iff.rfl rfl rfl rfl (fun e7 => ?_) (fun e7 => ?_)
  · refine ct_zrun C (k' := 35) (y := ([(3, .inl v2), (2, .inl v1), (0, .inr (.inr (7, o))), (1, .inl a1)], [.inl (-5)], h)) 1 rfl rfl rfl ?_
    exact ct_zret C (pc := 58) (aux := 0) (ins := .ireturn) (ρ := (fun r : Int => (some (.inl r : ct_PV), h))) (some (.inl (-5))) rfl rfl rfl ⟨rfl, Or.inl rfl⟩
  · refine ct_zrun C (k' := 22) (y := ([(3, .inl v2), (2, .inl v1), (0, .inr (.inr (7, o))), (1, .inl a1)], [.inl (ct_wr ((h.1 o 1) - 1)), .inl 0, .inl v2], h)) 6 rfl rfl rfl ?_
    refine ct_zS C (pc := 34) (aux := 0) [.inl v2, .inl 0, .inl (ct_wr ((h.1 o 1) - 1))] [] ok_X7_in lk_X7_100 (e_X7_in v2 0 (ct_wr ((h.1 o 1) - 1))) rfl rfl rfl rfl rfl rfl (fun v4 => ?_)
    refine ct_zt0 C (pc := 37) (aux := 0) (cn := .eq) (off := 19) (k' := 34) (a := v4) Iff.rfl rfl rfl rfl (fun e6 => ?_) (fun e6 => ?_)
    · refine ct_zrun C (k' := 35) (y := ([(3, .inl v2), (2, .inl v1), (0, .inr (.inr (7, o))), (1, .inl a1)], [.inl (-5)], h)) 1 rfl rfl rfl ?_
      exact ct_zret C (pc := 58) (aux := 0) (ins := .ireturn) (ρ := (fun r : Int => (some (.inl r : ct_PV), h))) (some (.inl (-5))) rfl rfl rfl ⟨rfl, Or.inl rfl⟩
    · refine ct_zrun C (k' := 32) (y := ([(3, .inl v2), (2, .inl v1), (0, .inr (.inr (7, o))), (1, .inl a1)], [.inl (ct_wr ((ct_wr (v1 * (h.1 o 1))) + v2)), .inr (.inr (8, (G.1 o 16)))], h)) 8 rfl rfl rfl ?_
      refine ct_zrd C (pc := 52) (aux := 0) (ins := .iaload) (cd := 8) rfl rfl (Or.inl ⟨rfl, rfl⟩) (fun v5 => ?_)
      refine ct_zgoto C (pc := 53) (aux := 0) (off := 5) (k' := 35) rfl rfl ?_
      exact ct_zret C (pc := 58) (aux := 0) (ins := .ireturn) (ρ := (fun r : Int => (some (.inl r : ct_PV), h))) (some (.inl v5)) rfl rfl rfl ⟨rfl, Or.inl rfl⟩
def l_X7_isAtLand_5 (G : ct_G) (o : Nat) (a1 : Int) (a2 : Int) (h : ct_H) : Nat → Int → Option (Int)
  | 0, _ => none
  | n3 + 1, b2 => (ct_rd G h (G.1 o 13) (ct_wr (a1 + 1))).bind fun v4 => if v4 ≤ b2 then (some 0) else (ct_rd G h (G.1 o 12) b2).bind fun v5 => (ct_dv v5 2).bind fun v6 => (f_X7_landAt G h o v6).bind fun v7 => if v7 = a2 then (some 1) else (ct_rd G h (G.1 o 12) b2).bind fun v8 => (f_X7_otherOf G h o v8).bind fun v9 => (f_X7_landAt G h o v9).bind fun v10 => if v10 = a2 then (some 1) else l_X7_isAtLand_5 G o a1 a2 h n3 (ct_wr (b2 + 1))
set_option maxRecDepth 100000 in
theorem zl_X7_isAtLand_5 {x : ct_Ctx} {d : Nat} {G : ct_G} (C : ct_c x m_X7_isAtLand G (d + 2)) (o : Nat) (a1 : Int) (a2 : Int) (h : ct_H) : ∀ (n3 : Nat) (b2 : Int), ct_Z x m_X7_isAtLand G 5 [(0, .inr (.inr (7, o))), (1, .inl a1), (2, .inl a2), (3, .inl b2)] [] h (fun a => ct_q x G ((fun r : Int => (some (.inl r : ct_PV), h)) a)) (l_X7_isAtLand_5 G o a1 a2 h n3 b2) := by
  intro n3
  induction n3 with
  | zero => intro b2; exact ct_znone
  | succ n3 ih =>
    intro b2
    rw [l_X7_isAtLand_5]
    refine ct_zrun C (k' := 11) (y := ([(0, .inr (.inr (7, o))), (1, .inl a1), (2, .inl a2), (3, .inl b2)], [.inl (ct_wr (a1 + 1)), .inr (.inr (8, (G.1 o 13))), .inl b2], h)) 6 rfl rfl rfl ?_
    refine ct_zrd C (pc := 15) (aux := 0) (ins := .iaload) (cd := 8) rfl rfl (Or.inl ⟨rfl, rfl⟩) (fun v4 => ?_)
    refine ct_zt C (pc := 16) (aux := 0) (cn := .ge) (off := 45) (k' := 37) (a := b2) (b := v4) Iff.rfl rfl rfl rfl (fun e13 => ?_) (fun e13 => ?_)
    · refine ct_zrun C (k' := 38) (y := ([(0, .inr (.inr (7, o))), (1, .inl a1), (2, .inl a2), (3, .inl b2)], [.inl 0], h)) 1 rfl rfl rfl ?_
      exact ct_zret C (pc := 62) (aux := 0) (ins := .ireturn) (ρ := (fun r : Int => (some (.inl r : ct_PV), h))) (some (.inl 0)) rfl rfl rfl ⟨rfl, Or.inr ⟨rfl, Or.inl rfl⟩⟩
    · refine ct_zrun C (k' := 17) (y := ([(0, .inr (.inr (7, o))), (1, .inl a1), (2, .inl a2), (3, .inl b2)], [.inl b2, .inr (.inr (8, (G.1 o 12))), .inr (.inr (7, o))], h)) 4 rfl rfl rfl ?_
      refine ct_zrd C (pc := 25) (aux := 0) (ins := .iaload) (cd := 8) rfl rfl (Or.inl ⟨rfl, rfl⟩) (fun v5 => ?_)
      refine ct_zrun C (k' := 19) (y := ([(0, .inr (.inr (7, o))), (1, .inl a1), (2, .inl a2), (3, .inl b2)], [.inl 2, .inl v5, .inr (.inr (7, o))], h)) 1 rfl rfl rfl ?_
      refine ct_zdv C (pc := 27) (aux := 0) rfl rfl (fun v6 => ?_)
      refine ct_zV C (pc := 28) (aux := 0) [.inl v6] [] ok_X7_landAt lk_X7_294 (e_X7_landAt o v6) rfl rfl rfl rfl rfl rfl rfl rfl (fun v7 => ?_)
      refine ct_zrun C (k' := 22) (y := ([(0, .inr (.inr (7, o))), (1, .inl a1), (2, .inl a2), (3, .inl b2)], [.inl a2, .inl v7], h)) 1 rfl rfl rfl ?_
      refine ct_zt C (pc := 32) (aux := 0) (cn := .eq) (off := 21) (k' := 33) (a := v7) (b := a2) Iff.rfl rfl rfl rfl (fun e12 => ?_) (fun e12 => ?_)
      · refine ct_zrun C (k' := 34) (y := ([(0, .inr (.inr (7, o))), (1, .inl a1), (2, .inl a2), (3, .inl b2)], [.inl 1], h)) 1 rfl rfl rfl ?_
        exact ct_zret C (pc := 54) (aux := 0) (ins := .ireturn) (ρ := (fun r : Int => (some (.inl r : ct_PV), h))) (some (.inl 1)) rfl rfl rfl ⟨rfl, Or.inr ⟨rfl, Or.inr rfl⟩⟩
      · refine ct_zrun C (k' := 28) (y := ([(0, .inr (.inr (7, o))), (1, .inl a1), (2, .inl a2), (3, .inl b2)], [.inl b2, .inr (.inr (8, (G.1 o 12))), .inr (.inr (7, o)), .inr (.inr (7, o))], h)) 5 rfl rfl rfl ?_
        refine ct_zrd C (pc := 42) (aux := 0) (ins := .iaload) (cd := 8) rfl rfl (Or.inl ⟨rfl, rfl⟩) (fun v8 => ?_)
        refine ct_zV C (pc := 43) (aux := 0) [.inl v8] [.inr (.inr (7, o))] ok_X7_otherOf lk_X7_239 (e_X7_otherOf o v8) rfl rfl rfl rfl rfl rfl rfl rfl (fun v9 => ?_)
        refine ct_zV C (pc := 46) (aux := 0) [.inl v9] [] ok_X7_landAt lk_X7_294 (e_X7_landAt o v9) rfl rfl rfl rfl rfl rfl rfl rfl (fun v10 => ?_)
        refine ct_zrun C (k' := 32) (y := ([(0, .inr (.inr (7, o))), (1, .inl a1), (2, .inl a2), (3, .inl b2)], [.inl a2, .inl v10], h)) 1 rfl rfl rfl ?_
        refine ct_zf C (pc := 50) (aux := 0) (cn := .ne) (off := 5) (k' := 35) (a := v10) (b := a2) Iff.rfl rfl rfl rfl (fun e11 => ?_) (fun e11 => ?_)
        · refine ct_zrun C (k' := 34) (y := ([(0, .inr (.inr (7, o))), (1, .inl a1), (2, .inl a2), (3, .inl b2)], [.inl 1], h)) 1 rfl rfl rfl ?_
          exact ct_zret C (pc := 54) (aux := 0) (ins := .ireturn) (ρ := (fun r : Int => (some (.inl r : ct_PV), h))) (some (.inl 1)) rfl rfl rfl ⟨rfl, Or.inr ⟨rfl, Or.inr rfl⟩⟩
        · refine ct_zrun C (k' := 36) (y := ([(3, .inl (ct_wr (b2 + 1))), (0, .inr (.inr (7, o))), (1, .inl a1), (2, .inl a2)], [], h)) 1 rfl rfl rfl ?_
          refine ct_zgoto C (pc := 58) (aux := 0) (off := (-51)) (k' := 5) rfl rfl ?_
          exact ct_zsub [1, 2, 3, 0] rfl (ih (ct_wr (b2 + 1)))
def f_X7_isAtLand (G : ct_G) (h : ct_H) (o : Nat) (a1 : Int) (a2 : Int) : Option (Int) := (ct_rd G h (G.1 o 13) a1).bind fun v1 => l_X7_isAtLand_5 G o a1 a2 h 200 v1
set_option maxRecDepth 100000 in
theorem e_X7_isAtLand {d : Nat} {G : ct_G} {h : ct_H} (o : Nat) (a1 : Int) (a2 : Int) : ct_E m_X7_isAtLand (d + 2) G (ct_args 0 [.inr (.inr (7, o)), .inl a1, .inl a2]) h (fun r : Int => (some (.inl r : ct_PV), h)) (f_X7_isAtLand G h o a1 a2) := by
  intro x C
  unfold f_X7_isAtLand
  show ct_Z x m_X7_isAtLand G 0 [(0, .inr (.inr (7, o))), (1, .inl a1), (2, .inl a2)] [] h (fun a => ct_q x G ((fun r : Int => (some (.inl r : ct_PV), h)) a)) _
  refine ct_zrun C (k' := 3) (y := ([(0, .inr (.inr (7, o))), (1, .inl a1), (2, .inl a2)], [.inl a1, .inr (.inr (8, (G.1 o 13)))], h)) 3 rfl rfl rfl ?_
  refine ct_zrd C (pc := 5) (aux := 0) (ins := .iaload) (cd := 8) rfl rfl (Or.inl ⟨rfl, rfl⟩) (fun v1 => ?_)
  refine ct_zrun C (k' := 5) (y := ([(3, .inl v1), (0, .inr (.inr (7, o))), (1, .inl a1), (2, .inl a2)], [], h)) 1 rfl rfl rfl ?_
  exact ct_zsub [1, 2, 3, 0] rfl (zl_X7_isAtLand_5 C o a1 a2 h 200 v1)
def l_X7_holesOf_4 (G : ct_G) (o : Nat) (a1 : Int) (h : ct_H) : Nat → (Int × Int) → Option (Int)
  | 0, _ => none
  | n2 + 1, b1 => if (h.1 o 14) ≤ b1.2 then (some (b1.1)) else (f_X7_isOuter G h o b1.2).bind fun v3 => ct_jn (β := Int) (fun k5 => if v3 = 0 then ((f_X7_isAtLand G h o b1.2 a1).bind fun v7 => if v7 = 0 then (k5 (b1.1)) else k5 (ct_wr (b1.1 + 1))) else k5 (b1.1)) (fun b4 => l_X7_holesOf_4 G o a1 h n2 (b4, (ct_wr (b1.2 + 1))))
set_option maxRecDepth 100000 in
theorem zl_X7_holesOf_4 {x : ct_Ctx} {d : Nat} {G : ct_G} (C : ct_c x m_X7_holesOf G (d + 6)) (o : Nat) (a1 : Int) (h : ct_H) : ∀ (n2 : Nat) (b1 : Int × Int), ct_Z x m_X7_holesOf G 4 [(0, .inr (.inr (7, o))), (1, .inl a1), (2, .inl (b1.1)), (3, .inl (b1.2))] [] h (fun a => ct_q x G ((fun r : Int => (some (.inl r : ct_PV), h)) a)) (l_X7_holesOf_4 G o a1 h n2 b1) := by
  intro n2
  induction n2 with
  | zero => intro b1; exact ct_znone
  | succ n2 ih =>
    intro b1
    rw [l_X7_holesOf_4]
    refine ct_zrun C (k' := 7) (y := ([(0, .inr (.inr (7, o))), (1, .inl a1), (2, .inl (b1.1)), (3, .inl (b1.2))], [.inl (h.1 o 14), .inl (b1.2)], h)) 3 rfl rfl rfl ?_
    refine ct_zt C (pc := 9) (aux := 0) (cn := .ge) (off := 29) (k' := 20) (a := b1.2) (b := (h.1 o 14)) Iff.rfl rfl rfl rfl (fun e10 => ?_) (fun e10 => ?_)
    · refine ct_zrun C (k' := 21) (y := ([(0, .inr (.inr (7, o))), (1, .inl a1), (2, .inl (b1.1)), (3, .inl (b1.2))], [.inl (b1.1)], h)) 1 rfl rfl rfl ?_
      exact ct_zret C (pc := 39) (aux := 0) (ins := .ireturn) (ρ := (fun r : Int => (some (.inl r : ct_PV), h))) (some (.inl (b1.1))) rfl rfl rfl ⟨rfl, Or.inl rfl⟩
    · refine ct_zrun C (k' := 10) (y := ([(0, .inr (.inr (7, o))), (1, .inl a1), (2, .inl (b1.1)), (3, .inl (b1.2))], [.inl (b1.2), .inr (.inr (7, o))], h)) 2 rfl rfl rfl ?_
      refine ct_zV C (pc := 14) (aux := 0) [.inl (b1.2)] [] ok_X7_isOuter lk_X7_272 (e_X7_isOuter o (b1.2)) rfl rfl rfl rfl rfl rfl rfl rfl (fun v3 => ?_)
      refine ct_zjn (β := Int) (kJ := 18) (L := fun b4 => [(0, .inr (.inr (7, o))), (1, .inl a1), (2, .inl b4), (3, .inl (b1.2))]) (S := fun b4 => []) (Hh := fun b4 => h) (fun b4 => ?_) (fun k5 z6 => ?_)
      · refine ct_zrun C (k' := 19) (y := ([(3, .inl (ct_wr (b1.2 + 1))), (0, .inr (.inr (7, o))), (1, .inl a1), (2, .inl b4)], [], h)) 1 rfl rfl rfl ?_
        refine ct_zgoto C (pc := 35) (aux := 0) (off := (-31)) (k' := 4) rfl rfl ?_
        exact ct_zsub [1, 2, 3, 0] rfl (ih (b4, (ct_wr (b1.2 + 1))))
      · refine ct_zf0 C (pc := 17) (aux := 0) (cn := .ne) (off := 15) (k' := 18) (a := v3) Iff.rfl rfl rfl rfl (fun e9 => ?_) (fun e9 => ?_)
        · refine ct_zrun C (k' := 15) (y := ([(0, .inr (.inr (7, o))), (1, .inl a1), (2, .inl (b1.1)), (3, .inl (b1.2))], [.inl a1, .inl (b1.2), .inr (.inr (7, o))], h)) 3 rfl rfl rfl ?_
          refine ct_zV C (pc := 23) (aux := 0) [.inl (b1.2), .inl a1] [] ok_X7_isAtLand lk_X7_297 (e_X7_isAtLand o (b1.2) a1) rfl rfl rfl rfl rfl rfl rfl rfl (fun v7 => ?_)
          refine ct_zt0 C (pc := 26) (aux := 0) (cn := .eq) (off := 6) (k' := 18) (a := v7) Iff.rfl rfl rfl rfl (fun e8 => ?_) (fun e8 => ?_)
          · exact ct_zsub [0, 1, 2, 3] rfl (z6 (b1.1))
          · refine ct_zrun C (k' := 18) (y := ([(2, .inl (ct_wr (b1.1 + 1))), (0, .inr (.inr (7, o))), (1, .inl a1), (3, .inl (b1.2))], [], h)) 1 rfl rfl rfl ?_
            exact ct_zsub [1, 2, 0, 3] rfl (z6 (ct_wr (b1.1 + 1)))
        · exact ct_zsub [0, 1, 2, 3] rfl (z6 (b1.1))
def f_X7_holesOf (G : ct_G) (h : ct_H) (o : Nat) (a1 : Int) : Option (Int) := l_X7_holesOf_4 G o a1 h 200 (0, 0)
set_option maxRecDepth 100000 in
theorem e_X7_holesOf {d : Nat} {G : ct_G} {h : ct_H} (o : Nat) (a1 : Int) : ct_E m_X7_holesOf (d + 6) G (ct_args 0 [.inr (.inr (7, o)), .inl a1]) h (fun r : Int => (some (.inl r : ct_PV), h)) (f_X7_holesOf G h o a1) := by
  intro x C
  unfold f_X7_holesOf
  show ct_Z x m_X7_holesOf G 0 [(0, .inr (.inr (7, o))), (1, .inl a1)] [] h (fun a => ct_q x G ((fun r : Int => (some (.inl r : ct_PV), h)) a)) _
  refine ct_zrun C (k' := 4) (y := ([(3, .inl 0), (2, .inl 0), (0, .inr (.inr (7, o))), (1, .inl a1)], [], h)) 4 rfl rfl rfl ?_
  exact ct_zsub [2, 3, 1, 0] rfl (zl_X7_holesOf_4 C o a1 h 200 (0, 0))
def f_X7_above (G : ct_G) (h : ct_H) (o : Nat) (a1 : Int) (a2 : Int) : Option (Int) := (ct_rd G h (G.1 o 3) a2).bind fun v1 => some (ct_max 0 (ct_wr (v1 - a1)))
set_option maxRecDepth 100000 in
theorem e_X7_above {d : Nat} {G : ct_G} {h : ct_H} (o : Nat) (a1 : Int) (a2 : Int) : ct_E m_X7_above (d + 1) G (ct_args 0 [.inr (.inr (7, o)), .inl a1, .inl a2]) h (fun r : Int => (some (.inl r : ct_PV), h)) (f_X7_above G h o a1 a2) := by
  intro x C
  unfold f_X7_above
  show ct_Z x m_X7_above G 0 [(0, .inr (.inr (7, o))), (1, .inl a1), (2, .inl a2)] [] h (fun a => ct_q x G ((fun r : Int => (some (.inl r : ct_PV), h)) a)) _
  refine ct_zrun C (k' := 4) (y := ([(0, .inr (.inr (7, o))), (1, .inl a1), (2, .inl a2)], [.inl a2, .inr (.inr (8, (G.1 o 3))), .inl 0], h)) 4 rfl rfl rfl ?_
  refine ct_zrd C (pc := 6) (aux := 0) (ins := .iaload) (cd := 8) rfl rfl (Or.inl ⟨rfl, rfl⟩) (fun v1 => ?_)
  refine ct_zrun C (k' := 7) (y := ([(0, .inr (.inr (7, o))), (1, .inl a1), (2, .inl a2)], [.inl (ct_wr (v1 - a1)), .inl 0], h)) 2 rfl rfl rfl ?_
  refine ct_zmax C (pc := 9) (aux := 0) lk_X7_121 rfl rfl rfl ?_
  exact ct_zret C (pc := 12) (aux := 0) (ins := .ireturn) (ρ := (fun r : Int => (some (.inl r : ct_PV), h))) (some (.inl (ct_max 0 (ct_wr (v1 - a1))))) rfl rfl rfl ⟨rfl, Or.inl rfl⟩
def l_X7_volume_12 (G : ct_G) (o : Nat) (a1 : Int) (h : ct_H) (p3 : Int) (k6 : Int → Option (Int)) : Nat → (Int × Int) → Option (Int)
  | 0, _ => none
  | n5 + 1, b4 => if (h.1 o 1) ≤ (ct_wr (b4.2 + 1)) then (k6 (b4.1)) else ct_lt (ct_wr ((ct_wr (p3 * (h.1 o 1))) + b4.2)) fun v9 => (f_X7_above G h o a1 v9).bind fun v10 => (f_X7_above G h o a1 (ct_wr (v9 + 1))).bind fun v11 => (f_X7_above G h o a1 (ct_wr (v9 + (h.1 o 1)))).bind fun v12 => (f_X7_above G h o a1 (ct_wr ((ct_wr (v9 + (h.1 o 1))) + 1))).bind fun v13 => ct_lt (ct_wr (b4.1 + (ct_wr ((ct_wr ((ct_wr (v10 + v11)) + v12)) + v13)))) fun v14 => l_X7_volume_12 G o a1 h p3 k6 n5 (v14, (ct_wr (b4.2 + 1)))
set_option maxRecDepth 100000 in
theorem zl_X7_volume_12 {x : ct_Ctx} {d : Nat} {G : ct_G} (C : ct_c x m_X7_volume G (d + 2)) (o : Nat) (a1 : Int) (h : ct_H) (p3 : Int) (k6 : Int → Option (Int)) (z7 : ∀ b8 : Int, ct_Z x m_X7_volume G 59 [(0, .inr (.inr (7, o))), (1, .inl a1), (2, .inl b8), (3, .inl p3)] [] h (fun a => ct_q x G ((fun r : Int => (some (.inl r : ct_PV), h)) a)) (k6 b8)) : ∀ (n5 : Nat) (b4 : Int × Int), ct_Z x m_X7_volume G 12 [(0, .inr (.inr (7, o))), (1, .inl a1), (2, .inl (b4.1)), (3, .inl p3), (4, .inl (b4.2))] [] h (fun a => ct_q x G ((fun r : Int => (some (.inl r : ct_PV), h)) a)) (l_X7_volume_12 G o a1 h p3 k6 n5 b4) := by
  intro n5
  induction n5 with
  | zero => intro b4; exact ct_znone
  | succ n5 ih =>
    intro b4
    rw [l_X7_volume_12]
    refine ct_zrun C (k' := 17) (y := ([(0, .inr (.inr (7, o))), (1, .inl a1), (2, .inl (b4.1)), (3, .inl p3), (4, .inl (b4.2))], [.inl (h.1 o 1), .inl (ct_wr (b4.2 + 1))], h)) 5 rfl rfl rfl ?_
    refine ct_zt C (pc := 25) (aux := 0) (cn := .ge) (off := 68) (k' := 59) (a := (ct_wr (b4.2 + 1))) (b := (h.1 o 1)) Iff.rfl rfl rfl rfl (fun e15 => ?_) (fun e15 => ?_)
    · exact ct_zsub [0, 1, 2, 3] rfl (z7 (b4.1))
    · refine ct_zrun C (k' := 25) (y := ([(5, .inl (ct_wr ((ct_wr (p3 * (h.1 o 1))) + b4.2))), (0, .inr (.inr (7, o))), (1, .inl a1), (2, .inl (b4.1)), (3, .inl p3), (4, .inl (b4.2))], [], h)) 7 rfl rfl rfl ?_
      refine ct_zlet (L := fun v9 => [(5, .inl v9), (0, .inr (.inr (7, o))), (1, .inl a1), (2, .inl (b4.1)), (3, .inl p3), (4, .inl (b4.2))]) (S := fun _ => []) (Hh := fun _ => h) (a := (ct_wr ((ct_wr (p3 * (h.1 o 1))) + b4.2))) (fun v9 => ?_)
      refine ct_zrun C (k' := 29) (y := ([(5, .inl v9), (0, .inr (.inr (7, o))), (1, .inl a1), (2, .inl (b4.1)), (3, .inl p3), (4, .inl (b4.2))], [.inl v9, .inl a1, .inr (.inr (7, o)), .inl (b4.1)], h)) 4 rfl rfl rfl ?_
      refine ct_zV C (pc := 44) (aux := 0) [.inl a1, .inl v9] [.inl (b4.1)] ok_X7_above lk_X7_300 (e_X7_above o a1 v9) rfl rfl rfl rfl rfl rfl rfl rfl (fun v10 => ?_)
      refine ct_zrun C (k' := 35) (y := ([(5, .inl v9), (0, .inr (.inr (7, o))), (1, .inl a1), (2, .inl (b4.1)), (3, .inl p3), (4, .inl (b4.2))], [.inl (ct_wr (v9 + 1)), .inl a1, .inr (.inr (7, o)), .inl v10, .inl (b4.1)], h)) 5 rfl rfl rfl ?_
      refine ct_zV C (pc := 53) (aux := 0) [.inl a1, .inl (ct_wr (v9 + 1))] [.inl v10, .inl (b4.1)] ok_X7_above lk_X7_300 (e_X7_above o a1 (ct_wr (v9 + 1))) rfl rfl rfl rfl rfl rfl rfl rfl (fun v11 => ?_)
      refine ct_zrun C (k' := 43) (y := ([(5, .inl v9), (0, .inr (.inr (7, o))), (1, .inl a1), (2, .inl (b4.1)), (3, .inl p3), (4, .inl (b4.2))], [.inl (ct_wr (v9 + (h.1 o 1))), .inl a1, .inr (.inr (7, o)), .inl (ct_wr (v10 + v11)), .inl (b4.1)], h)) 7 rfl rfl rfl ?_
      refine ct_zV C (pc := 66) (aux := 0) [.inl a1, .inl (ct_wr (v9 + (h.1 o 1)))] [.inl (ct_wr (v10 + v11)), .inl (b4.1)] ok_X7_above lk_X7_300 (e_X7_above o a1 (ct_wr (v9 + (h.1 o 1)))) rfl rfl rfl rfl rfl rfl rfl rfl (fun v12 => ?_)
      refine ct_zrun C (k' := 53) (y := ([(5, .inl v9), (0, .inr (.inr (7, o))), (1, .inl a1), (2, .inl (b4.1)), (3, .inl p3), (4, .inl (b4.2))], [.inl (ct_wr ((ct_wr (v9 + (h.1 o 1))) + 1)), .inl a1, .inr (.inr (7, o)), .inl (ct_wr ((ct_wr (v10 + v11)) + v12)), .inl (b4.1)], h)) 9 rfl rfl rfl ?_
      refine ct_zV C (pc := 81) (aux := 0) [.inl a1, .inl (ct_wr ((ct_wr (v9 + (h.1 o 1))) + 1))] [.inl (ct_wr ((ct_wr (v10 + v11)) + v12)), .inl (b4.1)] ok_X7_above lk_X7_300 (e_X7_above o a1 (ct_wr ((ct_wr (v9 + (h.1 o 1))) + 1))) rfl rfl rfl rfl rfl rfl rfl rfl (fun v13 => ?_)
      refine ct_zrun C (k' := 57) (y := ([(2, .inl (ct_wr (b4.1 + (ct_wr ((ct_wr ((ct_wr (v10 + v11)) + v12)) + v13))))), (5, .inl v9), (0, .inr (.inr (7, o))), (1, .inl a1), (3, .inl p3), (4, .inl (b4.2))], [], h)) 3 rfl rfl rfl ?_
      refine ct_zlet (L := fun v14 => [(2, .inl v14), (5, .inl v9), (0, .inr (.inr (7, o))), (1, .inl a1), (3, .inl p3), (4, .inl (b4.2))]) (S := fun _ => []) (Hh := fun _ => h) (a := (ct_wr (b4.1 + (ct_wr ((ct_wr ((ct_wr (v10 + v11)) + v12)) + v13))))) (fun v14 => ?_)
      refine ct_zrun C (k' := 58) (y := ([(4, .inl (ct_wr (b4.2 + 1))), (2, .inl v14), (5, .inl v9), (0, .inr (.inr (7, o))), (1, .inl a1), (3, .inl p3)], [], h)) 1 rfl rfl rfl ?_
      refine ct_zgoto C (pc := 90) (aux := 0) (off := (-73)) (k' := 12) rfl rfl ?_
      exact ct_zsub [3, 4, 1, 5, 0] rfl (ih (v14, (ct_wr (b4.2 + 1))))
def l_X7_volume_4 (G : ct_G) (o : Nat) (a1 : Int) (h : ct_H) : Nat → (Int × Int) → Option (Int)
  | 0, _ => none
  | n2 + 1, b1 => if (h.1 o 0) ≤ (ct_wr (b1.2 + 1)) then (some (b1.1)) else l_X7_volume_12 G o a1 h (b1.2) (fun b16 => l_X7_volume_4 G o a1 h n2 (b16, (ct_wr (b1.2 + 1)))) 200 (b1.1, 0)
set_option maxRecDepth 100000 in
theorem zl_X7_volume_4 {x : ct_Ctx} {d : Nat} {G : ct_G} (C : ct_c x m_X7_volume G (d + 2)) (o : Nat) (a1 : Int) (h : ct_H) : ∀ (n2 : Nat) (b1 : Int × Int), ct_Z x m_X7_volume G 4 [(0, .inr (.inr (7, o))), (1, .inl a1), (2, .inl (b1.1)), (3, .inl (b1.2))] [] h (fun a => ct_q x G ((fun r : Int => (some (.inl r : ct_PV), h)) a)) (l_X7_volume_4 G o a1 h n2 b1) := by
  intro n2
  induction n2 with
  | zero => intro b1; exact ct_znone
  | succ n2 ih =>
    intro b1
    rw [l_X7_volume_4]
    refine ct_zrun C (k' := 9) (y := ([(0, .inr (.inr (7, o))), (1, .inl a1), (2, .inl (b1.1)), (3, .inl (b1.2))], [.inl (h.1 o 0), .inl (ct_wr (b1.2 + 1))], h)) 5 rfl rfl rfl ?_
    refine ct_zt C (pc := 11) (aux := 0) (cn := .ge) (off := 88) (k' := 61) (a := (ct_wr (b1.2 + 1))) (b := (h.1 o 0)) Iff.rfl rfl rfl rfl (fun e17 => ?_) (fun e17 => ?_)
    · refine ct_zrun C (k' := 62) (y := ([(0, .inr (.inr (7, o))), (1, .inl a1), (2, .inl (b1.1)), (3, .inl (b1.2))], [.inl (b1.1)], h)) 1 rfl rfl rfl ?_
      exact ct_zret C (pc := 100) (aux := 0) (ins := .ireturn) (ρ := (fun r : Int => (some (.inl r : ct_PV), h))) (some (.inl (b1.1))) rfl rfl rfl ⟨rfl, Or.inl rfl⟩
    · refine ct_zrun C (k' := 12) (y := ([(4, .inl 0), (0, .inr (.inr (7, o))), (1, .inl a1), (2, .inl (b1.1)), (3, .inl (b1.2))], [], h)) 2 rfl rfl rfl ?_
      refine ct_zsub [1, 2, 3, 4, 0] rfl (zl_X7_volume_12 C o a1 h (b1.2) _ (fun b16 => ?_) 200 (b1.1, 0))
      refine ct_zrun C (k' := 60) (y := ([(3, .inl (ct_wr (b1.2 + 1))), (0, .inr (.inr (7, o))), (1, .inl a1), (2, .inl b16)], [], h)) 1 rfl rfl rfl ?_
      refine ct_zgoto C (pc := 96) (aux := 0) (off := (-92)) (k' := 4) rfl rfl ?_
      exact ct_zsub [1, 2, 3, 0] rfl (ih (b16, (ct_wr (b1.2 + 1))))
def f_X7_volume (G : ct_G) (h : ct_H) (o : Nat) (a1 : Int) : Option (Int) := l_X7_volume_4 G o a1 h 200 (0, 0)
set_option maxRecDepth 100000 in
theorem e_X7_volume {d : Nat} {G : ct_G} {h : ct_H} (o : Nat) (a1 : Int) : ct_E m_X7_volume (d + 2) G (ct_args 0 [.inr (.inr (7, o)), .inl a1]) h (fun r : Int => (some (.inl r : ct_PV), h)) (f_X7_volume G h o a1) := by
  intro x C
  unfold f_X7_volume
  show ct_Z x m_X7_volume G 0 [(0, .inr (.inr (7, o))), (1, .inl a1)] [] h (fun a => ct_q x G ((fun r : Int => (some (.inl r : ct_PV), h)) a)) _
  refine ct_zrun C (k' := 4) (y := ([(3, .inl 0), (2, .inl 0), (0, .inr (.inr (7, o))), (1, .inl a1)], [], h)) 4 rfl rfl rfl ?_
  exact ct_zsub [2, 3, 1, 0] rfl (zl_X7_volume_4 C o a1 h 200 (0, 0))
def f_X7_of (G : ct_G) (h : ct_H) (o : Nat) (a1 : Int) : Option (Int) := (f_X7_isPoint G h o a1).bind fun v1 => if v1 = 0 then (some (-1)) else (ct_rd G h (G.1 o 3) a1).bind fun v2 => some v2
set_option maxRecDepth 100000 in
theorem e_X7_of {d : Nat} {G : ct_G} {h : ct_H} (o : Nat) (a1 : Int) : ct_E m_X7_of (d + 2) G (ct_args 0 [.inr (.inr (7, o)), .inl a1]) h (fun r : Int => (some (.inl r : ct_PV), h)) (f_X7_of G h o a1) := by
  intro x C
  unfold f_X7_of
  show ct_Z x m_X7_of G 0 [(0, .inr (.inr (7, o))), (1, .inl a1)] [] h (fun a => ct_q x G ((fun r : Int => (some (.inl r : ct_PV), h)) a)) _
  refine ct_zrun C (k' := 2) (y := ([(0, .inr (.inr (7, o))), (1, .inl a1)], [.inl a1, .inr (.inr (7, o))], h)) 2 rfl rfl rfl ?_
  refine ct_zV C (pc := 2) (aux := 0) [.inl a1] [] ok_X7_isPoint lk_X7_108 (e_X7_isPoint o a1) rfl rfl rfl rfl rfl rfl rfl rfl (fun v1 => ?_)
  refine ct_zt0 C (pc := 5) (aux := 0) (cn := .eq) (off := 12) (k' := 9) (a := v1) Iff.rfl rfl rfl rfl (fun e3 => ?_) (fun e3 => ?_)
  · refine ct_zrun C (k' := 10) (y := ([(0, .inr (.inr (7, o))), (1, .inl a1)], [.inl (-1)], h)) 1 rfl rfl rfl ?_
    exact ct_zret C (pc := 18) (aux := 0) (ins := .ireturn) (ρ := (fun r : Int => (some (.inl r : ct_PV), h))) (some (.inl (-1))) rfl rfl rfl ⟨rfl, Or.inl rfl⟩
  · refine ct_zrun C (k' := 7) (y := ([(0, .inr (.inr (7, o))), (1, .inl a1)], [.inl a1, .inr (.inr (8, (G.1 o 3)))], h)) 3 rfl rfl rfl ?_
    refine ct_zrd C (pc := 13) (aux := 0) (ins := .iaload) (cd := 8) rfl rfl (Or.inl ⟨rfl, rfl⟩) (fun v2 => ?_)
    refine ct_zgoto C (pc := 14) (aux := 0) (off := 4) (k' := 10) rfl rfl ?_
    exact ct_zret C (pc := 18) (aux := 0) (ins := .ireturn) (ρ := (fun r : Int => (some (.inl r : ct_PV), h))) (some (.inl v2)) rfl rfl rfl ⟨rfl, Or.inl rfl⟩
def l_X7_top_4 (G : ct_G) (o : Nat) (h : ct_H) : Nat → (Int × Int) → Option (Int)
  | 0, _ => none
  | n2 + 1, b1 => (f_X7_points G h o).bind fun v3 => if v3 ≤ b1.2 then (some (b1.1)) else (ct_rd G h (G.1 o 3) b1.2).bind fun v4 => (ct_rd G h (G.1 o 3) b1.1).bind fun v5 => ct_jn (β := Int) (fun k7 => if v4 ≤ v5 then (k7 (b1.1)) else k7 (b1.2)) (fun b6 => l_X7_top_4 G o h n2 (b6, (ct_wr (b1.2 + 1))))
set_option maxRecDepth 100000 in
theorem zl_X7_top_4 {x : ct_Ctx} {d : Nat} {G : ct_G} (C : ct_c x m_X7_top G (d + 1)) (o : Nat) (h : ct_H) : ∀ (n2 : Nat) (b1 : Int × Int), ct_Z x m_X7_top G 4 [(0, .inr (.inr (7, o))), (1, .inl (b1.1)), (2, .inl (b1.2))] [] h (fun a => ct_q x G ((fun r : Int => (some (.inl r : ct_PV), h)) a)) (l_X7_top_4 G o h n2 b1) := by
  intro n2
  induction n2 with
  | zero => intro b1; exact ct_znone
  | succ n2 ih =>
    intro b1
    rw [l_X7_top_4]
    refine ct_zrun C (k' := 6) (y := ([(0, .inr (.inr (7, o))), (1, .inl (b1.1)), (2, .inl (b1.2))], [.inr (.inr (7, o)), .inl (b1.2)], h)) 2 rfl rfl rfl ?_
    refine ct_zV C (pc := 6) (aux := 0) [] [.inl (b1.2)] ok_X7_points lk_X7_104 (e_X7_points o) rfl rfl rfl rfl rfl rfl rfl rfl (fun v3 => ?_)
    refine ct_zt C (pc := 9) (aux := 0) (cn := .ge) (off := 26) (k' := 21) (a := b1.2) (b := v3) Iff.rfl rfl rfl rfl (fun e10 => ?_) (fun e10 => ?_)
    · refine ct_zrun C (k' := 22) (y := ([(0, .inr (.inr (7, o))), (1, .inl (b1.1)), (2, .inl (b1.2))], [.inl (b1.1)], h)) 1 rfl rfl rfl ?_
      exact ct_zret C (pc := 36) (aux := 0) (ins := .ireturn) (ρ := (fun r : Int => (some (.inl r : ct_PV), h))) (some (.inl (b1.1))) rfl rfl rfl ⟨rfl, Or.inl rfl⟩
    · refine ct_zrun C (k' := 11) (y := ([(0, .inr (.inr (7, o))), (1, .inl (b1.1)), (2, .inl (b1.2))], [.inl (b1.2), .inr (.inr (8, (G.1 o 3)))], h)) 3 rfl rfl rfl ?_
      refine ct_zrd C (pc := 17) (aux := 0) (ins := .iaload) (cd := 8) rfl rfl (Or.inl ⟨rfl, rfl⟩) (fun v4 => ?_)
      refine ct_zrun C (k' := 15) (y := ([(0, .inr (.inr (7, o))), (1, .inl (b1.1)), (2, .inl (b1.2))], [.inl (b1.1), .inr (.inr (8, (G.1 o 3))), .inl v4], h)) 3 rfl rfl rfl ?_
      refine ct_zrd C (pc := 23) (aux := 0) (ins := .iaload) (cd := 8) rfl rfl (Or.inl ⟨rfl, rfl⟩) (fun v5 => ?_)
      refine ct_zjn (β := Int) (kJ := 19) (L := fun b6 => [(0, .inr (.inr (7, o))), (1, .inl b6), (2, .inl (b1.2))]) (S := fun b6 => []) (Hh := fun b6 => h) (fun b6 => ?_) (fun k7 z8 => ?_)
      · refine ct_zrun C (k' := 20) (y := ([(2, .inl (ct_wr (b1.2 + 1))), (0, .inr (.inr (7, o))), (1, .inl b6)], [], h)) 1 rfl rfl rfl ?_
        refine ct_zgoto C (pc := 32) (aux := 0) (off := (-28)) (k' := 4) rfl rfl ?_
        exact ct_zsub [1, 2, 0] rfl (ih (b6, (ct_wr (b1.2 + 1))))
      · refine ct_zt C (pc := 24) (aux := 0) (cn := .le) (off := 5) (k' := 19) (a := v4) (b := v5) Iff.rfl rfl rfl rfl (fun e9 => ?_) (fun e9 => ?_)
        · exact ct_zsub [0, 1, 2] rfl (z8 (b1.1))
        · refine ct_zrun C (k' := 19) (y := ([(1, .inl (b1.2)), (0, .inr (.inr (7, o))), (2, .inl (b1.2))], [], h)) 2 rfl rfl rfl ?_
          exact ct_zsub [1, 0, 2] rfl (z8 (b1.2))
def f_X7_top (G : ct_G) (h : ct_H) (o : Nat) : Option (Int) := l_X7_top_4 G o h 200 (0, 0)
set_option maxRecDepth 100000 in
theorem e_X7_top {d : Nat} {G : ct_G} {h : ct_H} (o : Nat) : ct_E m_X7_top (d + 1) G (ct_args 0 [.inr (.inr (7, o))]) h (fun r : Int => (some (.inl r : ct_PV), h)) (f_X7_top G h o) := by
  intro x C
  unfold f_X7_top
  show ct_Z x m_X7_top G 0 [(0, .inr (.inr (7, o)))] [] h (fun a => ct_q x G ((fun r : Int => (some (.inl r : ct_PV), h)) a)) _
  refine ct_zrun C (k' := 4) (y := ([(2, .inl 0), (1, .inl 0), (0, .inr (.inr (7, o)))], [], h)) 4 rfl rfl rfl ?_
  exact ct_zsub [2, 1, 0] rfl (zl_X7_top_4 C o h 200 (0, 0))
def l_X7_half_6 (G : ct_G) (o : Nat) (h : ct_H) (v1 : Int) : Nat → Int → Option (Int)
  | 0, _ => none
  | n3 + 1, b2 => (f_X7_volume G h o b2).bind fun v4 => if v1 ≤ (ct_wr (2 * v4)) then (some b2) else l_X7_half_6 G o h v1 n3 (ct_wr (b2 + (-1)))
set_option maxRecDepth 100000 in
theorem zl_X7_half_6 {x : ct_Ctx} {d : Nat} {G : ct_G} (C : ct_c x m_X7_half G (d + 3)) (o : Nat) (h : ct_H) (v1 : Int) : ∀ (n3 : Nat) (b2 : Int), ct_Z x m_X7_half G 6 [(0, .inr (.inr (7, o))), (1, .inl v1), (2, .inl b2)] [] h (fun a => ct_q x G ((fun r : Int => (some (.inl r : ct_PV), h)) a)) (l_X7_half_6 G o h v1 n3 b2) := by
  intro n3
  induction n3 with
  | zero => intro b2; exact ct_znone
  | succ n3 ih =>
    intro b2
    rw [l_X7_half_6]
    refine ct_zrun C (k' := 9) (y := ([(0, .inr (.inr (7, o))), (1, .inl v1), (2, .inl b2)], [.inl b2, .inr (.inr (7, o)), .inl 2], h)) 3 rfl rfl rfl ?_
    refine ct_zV C (pc := 12) (aux := 0) [.inl b2] [.inl 2] ok_X7_volume lk_X7_303 (e_X7_volume o b2) rfl rfl rfl rfl rfl rfl rfl rfl (fun v4 => ?_)
    refine ct_zrun C (k' := 12) (y := ([(0, .inr (.inr (7, o))), (1, .inl v1), (2, .inl b2)], [.inl v1, .inl (ct_wr (2 * v4))], h)) 2 rfl rfl rfl ?_
    refine ct_zt C (pc := 17) (aux := 0) (cn := .ge) (off := 9) (k' := 15) (a := (ct_wr (2 * v4))) (b := v1) Iff.rfl rfl rfl rfl (fun e5 => ?_) (fun e5 => ?_)
    · refine ct_zrun C (k' := 16) (y := ([(0, .inr (.inr (7, o))), (1, .inl v1), (2, .inl b2)], [.inl b2], h)) 1 rfl rfl rfl ?_
      exact ct_zret C (pc := 27) (aux := 0) (ins := .ireturn) (ρ := (fun r : Int => (some (.inl r : ct_PV), h))) (some (.inl b2)) rfl rfl rfl ⟨rfl, Or.inl rfl⟩
    · refine ct_zrun C (k' := 14) (y := ([(2, .inl (ct_wr (b2 + (-1)))), (0, .inr (.inr (7, o))), (1, .inl v1)], [], h)) 1 rfl rfl rfl ?_
      refine ct_zgoto C (pc := 23) (aux := 0) (off := (-14)) (k' := 6) rfl rfl ?_
      exact ct_zsub [1, 2, 0] rfl (ih (ct_wr (b2 + (-1))))
def f_X7_half (G : ct_G) (h : ct_H) (o : Nat) : Option (Int) := (f_X7_volume G h o 0).bind fun v1 => l_X7_half_6 G o h v1 200 99
set_option maxRecDepth 100000 in
theorem e_X7_half {d : Nat} {G : ct_G} {h : ct_H} (o : Nat) : ct_E m_X7_half (d + 3) G (ct_args 0 [.inr (.inr (7, o))]) h (fun r : Int => (some (.inl r : ct_PV), h)) (f_X7_half G h o) := by
  intro x C
  unfold f_X7_half
  show ct_Z x m_X7_half G 0 [(0, .inr (.inr (7, o)))] [] h (fun a => ct_q x G ((fun r : Int => (some (.inl r : ct_PV), h)) a)) _
  refine ct_zrun C (k' := 2) (y := ([(0, .inr (.inr (7, o)))], [.inl 0, .inr (.inr (7, o))], h)) 2 rfl rfl rfl ?_
  refine ct_zV C (pc := 2) (aux := 0) [.inl 0] [] ok_X7_volume lk_X7_303 (e_X7_volume o 0) rfl rfl rfl rfl rfl rfl rfl rfl (fun v1 => ?_)
  refine ct_zrun C (k' := 6) (y := ([(2, .inl 99), (1, .inl v1), (0, .inr (.inr (7, o)))], [], h)) 3 rfl rfl rfl ?_
  exact ct_zsub [2, 1, 0] rfl (zl_X7_half_6 C o h v1 200 99)
def f_X7_linesAt (G : ct_G) (h : ct_H) (o : Nat) (a1 : Int) : Option (Int × ct_H) := (f_X7_layLines G h o a1).bind fun r1 => some ((r1.1 o 14), r1)
set_option maxRecDepth 100000 in
theorem e_X7_linesAt {d : Nat} {G : ct_G} {h : ct_H} (o : Nat) (a1 : Int) : ct_E m_X7_linesAt (d + 6) G (ct_args 0 [.inr (.inr (7, o)), .inl a1]) h (fun r : Int × ct_H => (some (.inl (r.1) : ct_PV), r.2)) (f_X7_linesAt G h o a1) := by
  intro x C
  unfold f_X7_linesAt
  show ct_Z x m_X7_linesAt G 0 [(0, .inr (.inr (7, o))), (1, .inl a1)] [] h (fun a => ct_q x G ((fun r : Int × ct_H => (some (.inl (r.1) : ct_PV), r.2)) a)) _
  refine ct_zrun C (k' := 2) (y := ([(0, .inr (.inr (7, o))), (1, .inl a1)], [.inl a1, .inr (.inr (7, o))], h)) 2 rfl rfl rfl ?_
  refine ct_zV C (pc := 2) (aux := 0) [.inl a1] [] ok_X7_layLines lk_X7_306 (e_X7_layLines o a1) rfl rfl rfl rfl rfl rfl rfl rfl (fun r1 => ?_)
  refine ct_zrun C (k' := 5) (y := ([(0, .inr (.inr (7, o))), (1, .inl a1)], [.inl (r1.1 o 14)], r1)) 2 rfl rfl rfl ?_
  exact ct_zret C (pc := 9) (aux := 0) (ins := .ireturn) (ρ := (fun r : Int × ct_H => (some (.inl (r.1) : ct_PV), r.2))) (some (.inl (r1.1 o 14))) rfl rfl rfl ⟨rfl, Or.inl rfl⟩
def l_X7_busy_8 (G : ct_G) (o : Nat) : Nat → (Int × Int × Int × ct_H) → Option (Int × ct_H)
  | 0, _ => none
  | n3 + 1, b2 => if 100 ≤ b2.2.2.1 then (some (b2.1, b2.2.2.2)) else (f_X7_linesAt G b2.2.2.2 o b2.2.2.1).bind fun r4 => ct_jn (β := Int × Int) (fun k6 => if b2.2.1 < r4.1 then (k6 (b2.2.2.1, r4.1)) else k6 (b2.1, b2.2.1)) (fun b5 => l_X7_busy_8 G o n3 (b5.1, b5.2, (ct_wr (b2.2.2.1 + 1)), r4.2))
set_option maxRecDepth 100000 in
theorem zl_X7_busy_8 {x : ct_Ctx} {d : Nat} {G : ct_G} (C : ct_c x m_X7_busy G (d + 7)) (o : Nat) : ∀ (n3 : Nat) (b2 : Int × Int × Int × ct_H), ct_Z x m_X7_busy G 8 [(0, .inr (.inr (7, o))), (1, .inl (b2.1)), (2, .inl (b2.2.1)), (3, .inl (b2.2.2.1))] [] b2.2.2.2 (fun a => ct_q x G ((fun r : Int × ct_H => (some (.inl (r.1) : ct_PV), r.2)) a)) (l_X7_busy_8 G o n3 b2) := by
  intro n3
  induction n3 with
  | zero => intro b2; exact ct_znone
  | succ n3 ih =>
    intro b2
    rw [l_X7_busy_8]
    refine ct_zrun C (k' := 10) (y := ([(0, .inr (.inr (7, o))), (1, .inl (b2.1)), (2, .inl (b2.2.1)), (3, .inl (b2.2.2.1))], [.inl 100, .inl (b2.2.2.1)], b2.2.2.2)) 2 rfl rfl rfl ?_
    refine ct_zt C (pc := 13) (aux := 0) (cn := .ge) (off := 30) (k' := 25) (a := b2.2.2.1) (b := 100) Iff.rfl rfl rfl rfl (fun e9 => ?_) (fun e9 => ?_)
    · refine ct_zrun C (k' := 26) (y := ([(0, .inr (.inr (7, o))), (1, .inl (b2.1)), (2, .inl (b2.2.1)), (3, .inl (b2.2.2.1))], [.inl (b2.1)], b2.2.2.2)) 1 rfl rfl rfl ?_
      exact ct_zret C (pc := 44) (aux := 0) (ins := .ireturn) (ρ := (fun r : Int × ct_H => (some (.inl (r.1) : ct_PV), r.2))) (some (.inl (b2.1))) rfl rfl rfl ⟨rfl, Or.inl rfl⟩
    · refine ct_zrun C (k' := 13) (y := ([(0, .inr (.inr (7, o))), (1, .inl (b2.1)), (2, .inl (b2.2.1)), (3, .inl (b2.2.2.1))], [.inl (b2.2.2.1), .inr (.inr (7, o))], b2.2.2.2)) 2 rfl rfl rfl ?_
      refine ct_zV C (pc := 18) (aux := 0) [.inl (b2.2.2.1)] [] ok_X7_linesAt lk_X7_310 (e_X7_linesAt o (b2.2.2.1)) rfl rfl rfl rfl rfl rfl rfl rfl (fun r4 => ?_)
      refine ct_zrun C (k' := 17) (y := ([(4, .inl (r4.1)), (0, .inr (.inr (7, o))), (1, .inl (b2.1)), (2, .inl (b2.2.1)), (3, .inl (b2.2.2.1))], [.inl (b2.2.1), .inl (r4.1)], r4.2)) 3 rfl rfl rfl ?_
      refine ct_zjn (β := Int × Int) (kJ := 23) (L := fun b5 => [(0, .inr (.inr (7, o))), (1, .inl (b5.1)), (2, .inl (b5.2)), (3, .inl (b2.2.2.1))]) (S := fun b5 => []) (Hh := fun b5 => r4.2) (fun b5 => ?_) (fun k6 z7 => ?_)
      · refine ct_zrun C (k' := 24) (y := ([(3, .inl (ct_wr (b2.2.2.1 + 1))), (0, .inr (.inr (7, o))), (1, .inl (b5.1)), (2, .inl (b5.2))], [], r4.2)) 1 rfl rfl rfl ?_
        refine ct_zgoto C (pc := 40) (aux := 0) (off := (-30)) (k' := 8) rfl rfl ?_
        exact ct_zsub [1, 2, 3, 0] rfl (ih (b5.1, b5.2, (ct_wr (b2.2.2.1 + 1)), r4.2))
      · refine ct_zt C (pc := 26) (aux := 0) (cn := .gt) (off := 6) (k' := 19) (a := r4.1) (b := b2.2.1) Iff.rfl rfl rfl rfl (fun e8 => ?_) (fun e8 => ?_)
        · refine ct_zrun C (k' := 23) (y := ([(1, .inl (b2.2.2.1)), (2, .inl (r4.1)), (4, .inl (r4.1)), (0, .inr (.inr (7, o))), (3, .inl (b2.2.2.1))], [], r4.2)) 4 rfl rfl rfl ?_
          exact ct_zsub [3, 0, 1, 4] rfl (z7 (b2.2.2.1, r4.1))
        · refine ct_zgoto C (pc := 29) (aux := 0) (off := 8) (k' := 23) rfl rfl ?_
          exact ct_zsub [1, 2, 3, 4] rfl (z7 (b2.1, b2.2.1))
def f_X7_busy (G : ct_G) (h : ct_H) (o : Nat) : Option (Int × ct_H) := (f_X7_linesAt G h o 0).bind fun r1 => l_X7_busy_8 G o 200 (0, r1.1, 1, r1.2)
set_option maxRecDepth 100000 in
theorem e_X7_busy {d : Nat} {G : ct_G} {h : ct_H} (o : Nat) : ct_E m_X7_busy (d + 7) G (ct_args 0 [.inr (.inr (7, o))]) h (fun r : Int × ct_H => (some (.inl (r.1) : ct_PV), r.2)) (f_X7_busy G h o) := by
  intro x C
  unfold f_X7_busy
  show ct_Z x m_X7_busy G 0 [(0, .inr (.inr (7, o)))] [] h (fun a => ct_q x G ((fun r : Int × ct_H => (some (.inl (r.1) : ct_PV), r.2)) a)) _
  refine ct_zrun C (k' := 4) (y := ([(1, .inl 0), (0, .inr (.inr (7, o)))], [.inl 0, .inr (.inr (7, o))], h)) 4 rfl rfl rfl ?_
  refine ct_zV C (pc := 4) (aux := 0) [.inl 0] [] ok_X7_linesAt lk_X7_310 (e_X7_linesAt o 0) rfl rfl rfl rfl rfl rfl rfl rfl (fun r1 => ?_)
  refine ct_zrun C (k' := 8) (y := ([(3, .inl 1), (2, .inl (r1.1)), (1, .inl 0), (0, .inr (.inr (7, o)))], [], r1.2)) 3 rfl rfl rfl ?_
  exact ct_zsub [3, 2, 1, 0] rfl (zl_X7_busy_8 C o 200 (0, r1.1, 1, r1.2))
def f_X7_told (G : ct_G) (h : ct_H) (o : Nat) (a1 : Int) : Option (Int × ct_H) := if a1 = 0 then (some ((h.1 o 0), h)) else if a1 = 1 then (some ((h.1 o 1), h)) else if a1 = 2 then (some ((h.1 o 2), h)) else if a1 = 3 then ((f_X7_top G h o).bind fun v4 => (ct_rd G h (G.1 o 3) v4).bind fun v5 => some (v5, h)) else if a1 = 4 then ((f_X7_top G h o).bind fun v7 => some (v7, h)) else if a1 = 5 then ((f_X7_half G h o).bind fun v9 => some (v9, h)) else if a1 = 6 then ((f_X7_busy G h o).bind fun r11 => some (r11.1, r11.2)) else if a1 = 7 then ((f_X7_busy G h o).bind fun r13 => (f_X7_linesAt G r13.2 o r13.1).bind fun r14 => some (r14.1, r14.2)) else some ((-1), h)
set_option maxRecDepth 100000 in
theorem e_X7_told {d : Nat} {G : ct_G} {h : ct_H} (o : Nat) (a1 : Int) : ct_E m_X7_told (d + 8) G (ct_args 0 [.inr (.inr (7, o)), .inl a1]) h (fun r : Int × ct_H => (some (.inl (r.1) : ct_PV), r.2)) (f_X7_told G h o a1) := by
  intro x C
  unfold f_X7_told
  show ct_Z x m_X7_told G 0 [(0, .inr (.inr (7, o))), (1, .inl a1)] [] h (fun a => ct_q x G ((fun r : Int × ct_H => (some (.inl (r.1) : ct_PV), r.2)) a)) _
  refine ct_zrun C (k' := 1) (y := ([(0, .inr (.inr (7, o))), (1, .inl a1)], [.inl a1], h)) 1 rfl rfl rfl ?_
  refine ct_zsplit (fun e1 => ?_) (fun e1 => ?_)
  · refine ct_zsw C (off := 47) (k' := 2) rfl (by rw [e1]; rfl) rfl ?_
    refine ct_zrun C (k' := 4) (y := ([(0, .inr (.inr (7, o))), (1, .inl a1)], [.inl (h.1 o 0)], h)) 2 rfl rfl rfl ?_
    exact ct_zret C (pc := 52) (aux := 0) (ins := .ireturn) (ρ := (fun r : Int × ct_H => (some (.inl (r.1) : ct_PV), r.2))) (some (.inl (h.1 o 0))) rfl rfl rfl ⟨rfl, Or.inl rfl⟩
  · refine ct_zsplit (fun e2 => ?_) (fun e2 => ?_)
    · refine ct_zsw C (off := 52) (k' := 5) rfl (by rw [e2]; rfl) rfl ?_
      refine ct_zrun C (k' := 7) (y := ([(0, .inr (.inr (7, o))), (1, .inl a1)], [.inl (h.1 o 1)], h)) 2 rfl rfl rfl ?_
      exact ct_zret C (pc := 57) (aux := 0) (ins := .ireturn) (ρ := (fun r : Int × ct_H => (some (.inl (r.1) : ct_PV), r.2))) (some (.inl (h.1 o 1))) rfl rfl rfl ⟨rfl, Or.inl rfl⟩
    · refine ct_zsplit (fun e3 => ?_) (fun e3 => ?_)
      · refine ct_zsw C (off := 57) (k' := 8) rfl (by rw [e3]; rfl) rfl ?_
        refine ct_zrun C (k' := 10) (y := ([(0, .inr (.inr (7, o))), (1, .inl a1)], [.inl (h.1 o 2)], h)) 2 rfl rfl rfl ?_
        exact ct_zret C (pc := 62) (aux := 0) (ins := .ireturn) (ρ := (fun r : Int × ct_H => (some (.inl (r.1) : ct_PV), r.2))) (some (.inl (h.1 o 2))) rfl rfl rfl ⟨rfl, Or.inl rfl⟩
      · refine ct_zsplit (fun e6 => ?_) (fun e6 => ?_)
        · refine ct_zsw C (off := 62) (k' := 11) rfl (by rw [e6]; rfl) rfl ?_
          refine ct_zrun C (k' := 14) (y := ([(0, .inr (.inr (7, o))), (1, .inl a1)], [.inr (.inr (7, o)), .inr (.inr (8, (G.1 o 3)))], h)) 3 rfl rfl rfl ?_
          refine ct_zV C (pc := 68) (aux := 0) [] [.inr (.inr (8, (G.1 o 3)))] ok_X7_top lk_X7_313 (e_X7_top o) rfl rfl rfl rfl rfl rfl rfl rfl (fun v4 => ?_)
          refine ct_zrd C (pc := 71) (aux := 0) (ins := .iaload) (cd := 8) rfl rfl (Or.inl ⟨rfl, rfl⟩) (fun v5 => ?_)
          exact ct_zret C (pc := 72) (aux := 0) (ins := .ireturn) (ρ := (fun r : Int × ct_H => (some (.inl (r.1) : ct_PV), r.2))) (some (.inl v5)) rfl rfl rfl ⟨rfl, Or.inl rfl⟩
        · refine ct_zsplit (fun e8 => ?_) (fun e8 => ?_)
          · refine ct_zsw C (off := 72) (k' := 17) rfl (by rw [e8]; rfl) rfl ?_
            refine ct_zrun C (k' := 18) (y := ([(0, .inr (.inr (7, o))), (1, .inl a1)], [.inr (.inr (7, o))], h)) 1 rfl rfl rfl ?_
            refine ct_zV C (pc := 74) (aux := 0) [] [] ok_X7_top lk_X7_313 (e_X7_top o) rfl rfl rfl rfl rfl rfl rfl rfl (fun v7 => ?_)
            exact ct_zret C (pc := 77) (aux := 0) (ins := .ireturn) (ρ := (fun r : Int × ct_H => (some (.inl (r.1) : ct_PV), r.2))) (some (.inl v7)) rfl rfl rfl ⟨rfl, Or.inl rfl⟩
          · refine ct_zsplit (fun e10 => ?_) (fun e10 => ?_)
            · refine ct_zsw C (off := 77) (k' := 20) rfl (by rw [e10]; rfl) rfl ?_
              refine ct_zrun C (k' := 21) (y := ([(0, .inr (.inr (7, o))), (1, .inl a1)], [.inr (.inr (7, o))], h)) 1 rfl rfl rfl ?_
              refine ct_zV C (pc := 79) (aux := 0) [] [] ok_X7_half lk_X7_316 (e_X7_half o) rfl rfl rfl rfl rfl rfl rfl rfl (fun v9 => ?_)
              exact ct_zret C (pc := 82) (aux := 0) (ins := .ireturn) (ρ := (fun r : Int × ct_H => (some (.inl (r.1) : ct_PV), r.2))) (some (.inl v9)) rfl rfl rfl ⟨rfl, Or.inl rfl⟩
            · refine ct_zsplit (fun e12 => ?_) (fun e12 => ?_)
              · refine ct_zsw C (off := 82) (k' := 23) rfl (by rw [e12]; rfl) rfl ?_
                refine ct_zrun C (k' := 24) (y := ([(0, .inr (.inr (7, o))), (1, .inl a1)], [.inr (.inr (7, o))], h)) 1 rfl rfl rfl ?_
                refine ct_zV C (pc := 84) (aux := 0) [] [] ok_X7_busy lk_X7_319 (e_X7_busy o) rfl rfl rfl rfl rfl rfl rfl rfl (fun r11 => ?_)
                exact ct_zret C (pc := 87) (aux := 0) (ins := .ireturn) (ρ := (fun r : Int × ct_H => (some (.inl (r.1) : ct_PV), r.2))) (some (.inl (r11.1))) rfl rfl rfl ⟨rfl, Or.inl rfl⟩
              · refine ct_zsplit (fun e15 => ?_) (fun e15 => ?_)
                · refine ct_zsw C (off := 87) (k' := 26) rfl (by rw [e15]; rfl) rfl ?_
                  refine ct_zrun C (k' := 28) (y := ([(0, .inr (.inr (7, o))), (1, .inl a1)], [.inr (.inr (7, o)), .inr (.inr (7, o))], h)) 2 rfl rfl rfl ?_
                  refine ct_zV C (pc := 90) (aux := 0) [] [.inr (.inr (7, o))] ok_X7_busy lk_X7_319 (e_X7_busy o) rfl rfl rfl rfl rfl rfl rfl rfl (fun r13 => ?_)
                  refine ct_zV C (pc := 93) (aux := 0) [.inl (r13.1)] [] ok_X7_linesAt lk_X7_310 (e_X7_linesAt o (r13.1)) rfl rfl rfl rfl rfl rfl rfl rfl (fun r14 => ?_)
                  exact ct_zret C (pc := 96) (aux := 0) (ins := .ireturn) (ρ := (fun r : Int × ct_H => (some (.inl (r.1) : ct_PV), r.2))) (some (.inl (r14.1))) rfl rfl rfl ⟨rfl, Or.inl rfl⟩
                · refine ct_zsw C (off := 96) (k' := 31) rfl (by show (if _ then _ else _) = _; rw [if_pos (by omega)]) rfl ?_
                  refine ct_zrun C (k' := 32) (y := ([(0, .inr (.inr (7, o))), (1, .inl a1)], [.inl (-1)], h)) 1 rfl rfl rfl ?_
                  exact ct_zret C (pc := 98) (aux := 0) (ins := .ireturn) (ρ := (fun r : Int × ct_H => (some (.inl (r.1) : ct_PV), r.2))) (some (.inl (-1))) rfl rfl rfl ⟨rfl, Or.inl rfl⟩
def l_X7_pointsIn_4 (G : ct_G) (o : Nat) (a1 : Int) (h : ct_H) : Nat → (Int × Int) → Option (Int)
  | 0, _ => none
  | n2 + 1, b1 => (f_X7_points G h o).bind fun v3 => if v3 ≤ b1.2 then (some (b1.1)) else (ct_rd G h (G.1 o 3) b1.2).bind fun v4 => ct_jn (β := Int) (fun k6 => if v4 < a1 then (k6 (b1.1)) else k6 (ct_wr (b1.1 + 1))) (fun b5 => l_X7_pointsIn_4 G o a1 h n2 (b5, (ct_wr (b1.2 + 1))))
set_option maxRecDepth 100000 in
theorem zl_X7_pointsIn_4 {x : ct_Ctx} {d : Nat} {G : ct_G} (C : ct_c x m_X7_pointsIn G (d + 1)) (o : Nat) (a1 : Int) (h : ct_H) : ∀ (n2 : Nat) (b1 : Int × Int), ct_Z x m_X7_pointsIn G 4 [(0, .inr (.inr (7, o))), (1, .inl a1), (2, .inl (b1.1)), (3, .inl (b1.2))] [] h (fun a => ct_q x G ((fun r : Int => (some (.inl r : ct_PV), h)) a)) (l_X7_pointsIn_4 G o a1 h n2 b1) := by
  intro n2
  induction n2 with
  | zero => intro b1; exact ct_znone
  | succ n2 ih =>
    intro b1
    rw [l_X7_pointsIn_4]
    refine ct_zrun C (k' := 6) (y := ([(0, .inr (.inr (7, o))), (1, .inl a1), (2, .inl (b1.1)), (3, .inl (b1.2))], [.inr (.inr (7, o)), .inl (b1.2)], h)) 2 rfl rfl rfl ?_
    refine ct_zV C (pc := 6) (aux := 0) [] [.inl (b1.2)] ok_X7_points lk_X7_104 (e_X7_points o) rfl rfl rfl rfl rfl rfl rfl rfl (fun v3 => ?_)
    refine ct_zt C (pc := 9) (aux := 0) (cn := .ge) (off := 22) (k' := 17) (a := b1.2) (b := v3) Iff.rfl rfl rfl rfl (fun e9 => ?_) (fun e9 => ?_)
    · refine ct_zrun C (k' := 18) (y := ([(0, .inr (.inr (7, o))), (1, .inl a1), (2, .inl (b1.1)), (3, .inl (b1.2))], [.inl (b1.1)], h)) 1 rfl rfl rfl ?_
      exact ct_zret C (pc := 32) (aux := 0) (ins := .ireturn) (ρ := (fun r : Int => (some (.inl r : ct_PV), h))) (some (.inl (b1.1))) rfl rfl rfl ⟨rfl, Or.inl rfl⟩
    · refine ct_zrun C (k' := 11) (y := ([(0, .inr (.inr (7, o))), (1, .inl a1), (2, .inl (b1.1)), (3, .inl (b1.2))], [.inl (b1.2), .inr (.inr (8, (G.1 o 3)))], h)) 3 rfl rfl rfl ?_
      refine ct_zrd C (pc := 17) (aux := 0) (ins := .iaload) (cd := 8) rfl rfl (Or.inl ⟨rfl, rfl⟩) (fun v4 => ?_)
      refine ct_zrun C (k' := 13) (y := ([(0, .inr (.inr (7, o))), (1, .inl a1), (2, .inl (b1.1)), (3, .inl (b1.2))], [.inl a1, .inl v4], h)) 1 rfl rfl rfl ?_
      refine ct_zjn (β := Int) (kJ := 15) (L := fun b5 => [(0, .inr (.inr (7, o))), (1, .inl a1), (2, .inl b5), (3, .inl (b1.2))]) (S := fun b5 => []) (Hh := fun b5 => h) (fun b5 => ?_) (fun k6 z7 => ?_)
      · refine ct_zrun C (k' := 16) (y := ([(3, .inl (ct_wr (b1.2 + 1))), (0, .inr (.inr (7, o))), (1, .inl a1), (2, .inl b5)], [], h)) 1 rfl rfl rfl ?_
        refine ct_zgoto C (pc := 28) (aux := 0) (off := (-24)) (k' := 4) rfl rfl ?_
        exact ct_zsub [1, 2, 3, 0] rfl (ih (b5, (ct_wr (b1.2 + 1))))
      · refine ct_zt C (pc := 19) (aux := 0) (cn := .lt) (off := 6) (k' := 15) (a := v4) (b := a1) Iff.rfl rfl rfl rfl (fun e8 => ?_) (fun e8 => ?_)
        · exact ct_zsub [0, 1, 2, 3] rfl (z7 (b1.1))
        · refine ct_zrun C (k' := 15) (y := ([(2, .inl (ct_wr (b1.1 + 1))), (0, .inr (.inr (7, o))), (1, .inl a1), (3, .inl (b1.2))], [], h)) 1 rfl rfl rfl ?_
          exact ct_zsub [1, 2, 0, 3] rfl (z7 (ct_wr (b1.1 + 1)))
def f_X7_pointsIn (G : ct_G) (h : ct_H) (o : Nat) (a1 : Int) : Option (Int) := l_X7_pointsIn_4 G o a1 h 200 (0, 0)
set_option maxRecDepth 100000 in
theorem e_X7_pointsIn {d : Nat} {G : ct_G} {h : ct_H} (o : Nat) (a1 : Int) : ct_E m_X7_pointsIn (d + 1) G (ct_args 0 [.inr (.inr (7, o)), .inl a1]) h (fun r : Int => (some (.inl r : ct_PV), h)) (f_X7_pointsIn G h o a1) := by
  intro x C
  unfold f_X7_pointsIn
  show ct_Z x m_X7_pointsIn G 0 [(0, .inr (.inr (7, o))), (1, .inl a1)] [] h (fun a => ct_q x G ((fun r : Int => (some (.inl r : ct_PV), h)) a)) _
  refine ct_zrun C (k' := 4) (y := ([(3, .inl 0), (2, .inl 0), (0, .inr (.inr (7, o))), (1, .inl a1)], [], h)) 4 rfl rfl rfl ?_
  exact ct_zsub [2, 3, 1, 0] rfl (zl_X7_pointsIn_4 C o a1 h 200 (0, 0))
def l_X7_saddles_4 (G : ct_G) (o : Nat) (a1 : Int) (a2 : Int) (h : ct_H) : Nat → (Int × Int) → Option (Int)
  | 0, _ => none
  | n2 + 1, b1 => (f_X7_squares G h o).bind fun v3 => if v3 ≤ b1.2 then (some (b1.1)) else ct_jn (β := Int) (fun k5 => ct_jn (β := Unit) (fun k8 => if a2 = 0 then ((f_X7_caseOf G h o a1 b1.2).bind fun v10 => (f_X7_isSaddle G h v10).bind fun v11 => if v11 = 0 then (k5 (b1.1)) else k8 ()) else (f_X7_isJoined G h o a1 b1.2).bind fun v13 => if v13 = 0 then (k5 (b1.1)) else k8 ()) (fun b7 => k5 (ct_wr (b1.1 + 1)))) (fun b4 => l_X7_saddles_4 G o a1 a2 h n2 (b4, (ct_wr (b1.2 + 1))))
set_option maxRecDepth 100000 in
theorem zl_X7_saddles_4 {x : ct_Ctx} {d : Nat} {G : ct_G} (C : ct_c x m_X7_saddles G (d + 4)) (o : Nat) (a1 : Int) (a2 : Int) (h : ct_H) : ∀ (n2 : Nat) (b1 : Int × Int), ct_Z x m_X7_saddles G 4 [(0, .inr (.inr (7, o))), (1, .inl a1), (2, .inl a2), (3, .inl (b1.1)), (4, .inl (b1.2))] [] h (fun a => ct_q x G ((fun r : Int => (some (.inl r : ct_PV), h)) a)) (l_X7_saddles_4 G o a1 a2 h n2 b1) := by
  intro n2
  induction n2 with
  | zero => intro b1; exact ct_znone
  | succ n2 ih =>
    intro b1
    rw [l_X7_saddles_4]
    refine ct_zrun C (k' := 6) (y := ([(0, .inr (.inr (7, o))), (1, .inl a1), (2, .inl a2), (3, .inl (b1.1)), (4, .inl (b1.2))], [.inr (.inr (7, o)), .inl (b1.2)], h)) 2 rfl rfl rfl ?_
    refine ct_zV C (pc := 8) (aux := 0) [] [.inl (b1.2)] ok_X7_squares lk_X7_322 (e_X7_squares o) rfl rfl rfl rfl rfl rfl rfl rfl (fun v3 => ?_)
    refine ct_zt C (pc := 11) (aux := 0) (cn := .ge) (off := 42) (k' := 25) (a := b1.2) (b := v3) Iff.rfl rfl rfl rfl (fun e16 => ?_) (fun e16 => ?_)
    · refine ct_zrun C (k' := 26) (y := ([(0, .inr (.inr (7, o))), (1, .inl a1), (2, .inl a2), (3, .inl (b1.1)), (4, .inl (b1.2))], [.inl (b1.1)], h)) 1 rfl rfl rfl ?_
      exact ct_zret C (pc := 54) (aux := 0) (ins := .ireturn) (ρ := (fun r : Int => (some (.inl r : ct_PV), h))) (some (.inl (b1.1))) rfl rfl rfl ⟨rfl, Or.inl rfl⟩
    · refine ct_zrun C (k' := 9) (y := ([(0, .inr (.inr (7, o))), (1, .inl a1), (2, .inl a2), (3, .inl (b1.1)), (4, .inl (b1.2))], [.inl a2], h)) 1 rfl rfl rfl ?_
      refine ct_zjn (β := Int) (kJ := 23) (L := fun b4 => [(0, .inr (.inr (7, o))), (1, .inl a1), (2, .inl a2), (3, .inl b4), (4, .inl (b1.2))]) (S := fun b4 => []) (Hh := fun b4 => h) (fun b4 => ?_) (fun k5 z6 => ?_)
      · refine ct_zrun C (k' := 24) (y := ([(4, .inl (ct_wr (b1.2 + 1))), (0, .inr (.inr (7, o))), (1, .inl a1), (2, .inl a2), (3, .inl b4)], [], h)) 1 rfl rfl rfl ?_
        refine ct_zgoto C (pc := 50) (aux := 0) (off := (-45)) (k' := 4) rfl rfl ?_
        exact ct_zsub [1, 2, 3, 4, 0] rfl (ih (b4, (ct_wr (b1.2 + 1))))
      · refine ct_zjn (β := Unit) (kJ := 22) (L := fun b7 => [(0, .inr (.inr (7, o))), (1, .inl a1), (2, .inl a2), (3, .inl (b1.1)), (4, .inl (b1.2))]) (S := fun b7 => []) (Hh := fun b7 => h) (fun b7 => ?_) (fun k8 z9 => ?_)
        · refine ct_zrun C (k' := 23) (y := ([(3, .inl (ct_wr (b1.1 + 1))), (0, .inr (.inr (7, o))), (1, .inl a1), (2, .inl a2), (4, .inl (b1.2))], [], h)) 1 rfl rfl rfl ?_
          exact ct_zsub [1, 2, 3, 0, 4] rfl (z6 (ct_wr (b1.1 + 1)))
        · refine ct_zt0 C (pc := 15) (aux := 0) (cn := .eq) (off := 16) (k' := 16) (a := a2) Iff.rfl rfl rfl rfl (fun e15 => ?_) (fun e15 => ?_)
          · refine ct_zrun C (k' := 19) (y := ([(0, .inr (.inr (7, o))), (1, .inl a1), (2, .inl a2), (3, .inl (b1.1)), (4, .inl (b1.2))], [.inl (b1.2), .inl a1, .inr (.inr (7, o))], h)) 3 rfl rfl rfl ?_
            refine ct_zV C (pc := 35) (aux := 0) [.inl a1, .inl (b1.2)] [] ok_X7_caseOf lk_X7_217 (e_X7_caseOf o a1 (b1.2)) rfl rfl rfl rfl rfl rfl rfl rfl (fun v10 => ?_)
            refine ct_zS C (pc := 38) (aux := 0) [.inl v10] [] ok_X7_isSaddle lk_X7_220 (e_X7_isSaddle v10) rfl rfl rfl rfl rfl rfl (fun v11 => ?_)
            refine ct_zt0 C (pc := 41) (aux := 0) (cn := .eq) (off := 6) (k' := 23) (a := v11) Iff.rfl rfl rfl rfl (fun e12 => ?_) (fun e12 => ?_)
            · exact ct_zsub [0, 1, 2, 3, 4] rfl (z6 (b1.1))
            · exact ct_zsub [0, 1, 2, 3, 4] rfl (z9 ())
          · refine ct_zrun C (k' := 13) (y := ([(0, .inr (.inr (7, o))), (1, .inl a1), (2, .inl a2), (3, .inl (b1.1)), (4, .inl (b1.2))], [.inl (b1.2), .inl a1, .inr (.inr (7, o))], h)) 3 rfl rfl rfl ?_
            refine ct_zV C (pc := 22) (aux := 0) [.inl a1, .inl (b1.2)] [] ok_X7_isJoined lk_X7_233 (e_X7_isJoined o a1 (b1.2)) rfl rfl rfl rfl rfl rfl rfl rfl (fun v13 => ?_)
            refine ct_zt0 C (pc := 25) (aux := 0) (cn := .eq) (off := 22) (k' := 23) (a := v13) Iff.rfl rfl rfl rfl (fun e14 => ?_) (fun e14 => ?_)
            · exact ct_zsub [0, 1, 2, 3, 4] rfl (z6 (b1.1))
            · refine ct_zgoto C (pc := 28) (aux := 0) (off := 16) (k' := 22) rfl rfl ?_
              exact ct_zsub [0, 1, 2, 3, 4] rfl (z9 ())
def f_X7_saddles (G : ct_G) (h : ct_H) (o : Nat) (a1 : Int) (a2 : Int) : Option (Int) := l_X7_saddles_4 G o a1 a2 h 200 (0, 0)
set_option maxRecDepth 100000 in
theorem e_X7_saddles {d : Nat} {G : ct_G} {h : ct_H} (o : Nat) (a1 : Int) (a2 : Int) : ct_E m_X7_saddles (d + 4) G (ct_args 0 [.inr (.inr (7, o)), .inl a1, .inl a2]) h (fun r : Int => (some (.inl r : ct_PV), h)) (f_X7_saddles G h o a1 a2) := by
  intro x C
  unfold f_X7_saddles
  show ct_Z x m_X7_saddles G 0 [(0, .inr (.inr (7, o))), (1, .inl a1), (2, .inl a2)] [] h (fun a => ct_q x G ((fun r : Int => (some (.inl r : ct_PV), h)) a)) _
  refine ct_zrun C (k' := 4) (y := ([(4, .inl 0), (3, .inl 0), (0, .inr (.inr (7, o))), (1, .inl a1), (2, .inl a2)], [], h)) 4 rfl rfl rfl ?_
  exact ct_zsub [2, 3, 4, 1, 0] rfl (zl_X7_saddles_4 C o a1 a2 h 200 (0, 0))
def f_X7_at (G : ct_G) (h : ct_H) (o : Nat) (a1 : Int) (a2 : Int) : Option (Int × ct_H) := (f_X7_isLevel G h a1).bind fun v1 => if v1 = 0 then (some ((-2), h)) else (f_X7_in G h a2 0 7).bind fun v2 => if v2 = 0 then (some ((-1), h)) else (f_X7_layLines G h o a1).bind fun r3 => (f_X7_layLands G r3 o a1).bind fun r4 => if a2 = 0 then (some ((r4.1 o 14), r4)) else if a2 = 1 then ((f_X7_outers G r4 o).bind fun v6 => some (v6, r4)) else if a2 = 2 then (some ((r4.1 o 18), r4)) else if a2 = 3 then ((f_X7_pointsIn G r4 o a1).bind fun v9 => some (v9, r4)) else if a2 = 4 then ((f_X7_saddles G r4 o a1 0).bind fun v11 => some (v11, r4)) else if a2 = 5 then ((f_X7_saddles G r4 o a1 1).bind fun v13 => some (v13, r4)) else if a2 = 6 then ((f_X7_volume G r4 o a1).bind fun v15 => some (v15, r4)) else (f_X7_deepest G r4 o).bind fun v17 => some (v17, r4)
set_option maxRecDepth 100000 in
theorem e_X7_at {d : Nat} {G : ct_G} {h : ct_H} (o : Nat) (a1 : Int) (a2 : Int) : ct_E m_X7_at (d + 7) G (ct_args 0 [.inr (.inr (7, o)), .inl a1, .inl a2]) h (fun r : Int × ct_H => (some (.inl (r.1) : ct_PV), r.2)) (f_X7_at G h o a1 a2) := by
  intro x C
  unfold f_X7_at
  show ct_Z x m_X7_at G 0 [(0, .inr (.inr (7, o))), (1, .inl a1), (2, .inl a2)] [] h (fun a => ct_q x G ((fun r : Int × ct_H => (some (.inl (r.1) : ct_PV), r.2)) a)) _
  refine ct_zrun C (k' := 1) (y := ([(0, .inr (.inr (7, o))), (1, .inl a1), (2, .inl a2)], [.inl a1], h)) 1 rfl rfl rfl ?_
  refine ct_zS C (pc := 1) (aux := 0) [.inl a1] [] ok_X7_isLevel lk_X7_325 (e_X7_isLevel a1) rfl rfl rfl rfl rfl rfl (fun v1 => ?_)
  refine ct_zf0 C (pc := 4) (aux := 0) (cn := .ne) (off := 6) (k' := 5) (a := v1) Iff.rfl rfl rfl rfl (fun e19 => ?_) (fun e19 => ?_)
  · refine ct_zrun C (k' := 4) (y := ([(0, .inr (.inr (7, o))), (1, .inl a1), (2, .inl a2)], [.inl (-2)], h)) 1 rfl rfl rfl ?_
    exact ct_zret C (pc := 9) (aux := 0) (ins := .ireturn) (ρ := (fun r : Int × ct_H => (some (.inl (r.1) : ct_PV), r.2))) (some (.inl (-2))) rfl rfl rfl ⟨rfl, Or.inl rfl⟩
  · refine ct_zrun C (k' := 8) (y := ([(0, .inr (.inr (7, o))), (1, .inl a1), (2, .inl a2)], [.inl 7, .inl 0, .inl a2], h)) 3 rfl rfl rfl ?_
    refine ct_zS C (pc := 14) (aux := 0) [.inl a2, .inl 0, .inl 7] [] ok_X7_in lk_X7_100 (e_X7_in a2 0 7) rfl rfl rfl rfl rfl rfl (fun v2 => ?_)
    refine ct_zf0 C (pc := 17) (aux := 0) (cn := .ne) (off := 5) (k' := 12) (a := v2) Iff.rfl rfl rfl rfl (fun e18 => ?_) (fun e18 => ?_)
    · refine ct_zrun C (k' := 11) (y := ([(0, .inr (.inr (7, o))), (1, .inl a1), (2, .inl a2)], [.inl (-1)], h)) 1 rfl rfl rfl ?_
      exact ct_zret C (pc := 21) (aux := 0) (ins := .ireturn) (ρ := (fun r : Int × ct_H => (some (.inl (r.1) : ct_PV), r.2))) (some (.inl (-1))) rfl rfl rfl ⟨rfl, Or.inl rfl⟩
    · refine ct_zrun C (k' := 14) (y := ([(0, .inr (.inr (7, o))), (1, .inl a1), (2, .inl a2)], [.inl a1, .inr (.inr (7, o))], h)) 2 rfl rfl rfl ?_
      refine ct_zV C (pc := 24) (aux := 0) [.inl a1] [] ok_X7_layLines lk_X7_306 (e_X7_layLines o a1) rfl rfl rfl rfl rfl rfl rfl rfl (fun r3 => ?_)
      refine ct_zrun C (k' := 17) (y := ([(0, .inr (.inr (7, o))), (1, .inl a1), (2, .inl a2)], [.inl a1, .inr (.inr (7, o))], r3)) 2 rfl rfl rfl ?_
      refine ct_zV C (pc := 29) (aux := 0) [.inl a1] [] ok_X7_layLands lk_X7_328 (e_X7_layLands o a1) rfl rfl rfl rfl rfl rfl rfl rfl (fun r4 => ?_)
      refine ct_zrun C (k' := 19) (y := ([(0, .inr (.inr (7, o))), (1, .inl a1), (2, .inl a2)], [.inl a2], r4)) 1 rfl rfl rfl ?_
      refine ct_zsplit (fun e5 => ?_) (fun e5 => ?_)
      · refine ct_zsw C (off := 43) (k' := 20) rfl (by rw [e5]; rfl) rfl ?_
        refine ct_zrun C (k' := 22) (y := ([(0, .inr (.inr (7, o))), (1, .inl a1), (2, .inl a2)], [.inl (r4.1 o 14)], r4)) 2 rfl rfl rfl ?_
        exact ct_zret C (pc := 80) (aux := 0) (ins := .ireturn) (ρ := (fun r : Int × ct_H => (some (.inl (r.1) : ct_PV), r.2))) (some (.inl (r4.1 o 14))) rfl rfl rfl ⟨rfl, Or.inl rfl⟩
      · refine ct_zsplit (fun e7 => ?_) (fun e7 => ?_)
        · refine ct_zsw C (off := 48) (k' := 23) rfl (by rw [e7]; rfl) rfl ?_
          refine ct_zrun C (k' := 24) (y := ([(0, .inr (.inr (7, o))), (1, .inl a1), (2, .inl a2)], [.inr (.inr (7, o))], r4)) 1 rfl rfl rfl ?_
          refine ct_zV C (pc := 82) (aux := 0) [] [] ok_X7_outers lk_X7_331 (e_X7_outers o) rfl rfl rfl rfl rfl rfl rfl rfl (fun v6 => ?_)
          exact ct_zret C (pc := 85) (aux := 0) (ins := .ireturn) (ρ := (fun r : Int × ct_H => (some (.inl (r.1) : ct_PV), r.2))) (some (.inl v6)) rfl rfl rfl ⟨rfl, Or.inl rfl⟩
        · refine ct_zsplit (fun e8 => ?_) (fun e8 => ?_)
          · refine ct_zsw C (off := 53) (k' := 26) rfl (by rw [e8]; rfl) rfl ?_
            refine ct_zrun C (k' := 28) (y := ([(0, .inr (.inr (7, o))), (1, .inl a1), (2, .inl a2)], [.inl (r4.1 o 18)], r4)) 2 rfl rfl rfl ?_
            exact ct_zret C (pc := 90) (aux := 0) (ins := .ireturn) (ρ := (fun r : Int × ct_H => (some (.inl (r.1) : ct_PV), r.2))) (some (.inl (r4.1 o 18))) rfl rfl rfl ⟨rfl, Or.inl rfl⟩
          · refine ct_zsplit (fun e10 => ?_) (fun e10 => ?_)
            · refine ct_zsw C (off := 58) (k' := 29) rfl (by rw [e10]; rfl) rfl ?_
              refine ct_zrun C (k' := 31) (y := ([(0, .inr (.inr (7, o))), (1, .inl a1), (2, .inl a2)], [.inl a1, .inr (.inr (7, o))], r4)) 2 rfl rfl rfl ?_
              refine ct_zV C (pc := 93) (aux := 0) [.inl a1] [] ok_X7_pointsIn lk_X7_334 (e_X7_pointsIn o a1) rfl rfl rfl rfl rfl rfl rfl rfl (fun v9 => ?_)
              exact ct_zret C (pc := 96) (aux := 0) (ins := .ireturn) (ρ := (fun r : Int × ct_H => (some (.inl (r.1) : ct_PV), r.2))) (some (.inl v9)) rfl rfl rfl ⟨rfl, Or.inl rfl⟩
            · refine ct_zsplit (fun e12 => ?_) (fun e12 => ?_)
              · refine ct_zsw C (off := 64) (k' := 33) rfl (by rw [e12]; rfl) rfl ?_
                refine ct_zrun C (k' := 36) (y := ([(0, .inr (.inr (7, o))), (1, .inl a1), (2, .inl a2)], [.inl 0, .inl a1, .inr (.inr (7, o))], r4)) 3 rfl rfl rfl ?_
                refine ct_zV C (pc := 100) (aux := 0) [.inl a1, .inl 0] [] ok_X7_saddles lk_X7_337 (e_X7_saddles o a1 0) rfl rfl rfl rfl rfl rfl rfl rfl (fun v11 => ?_)
                exact ct_zret C (pc := 103) (aux := 0) (ins := .ireturn) (ρ := (fun r : Int × ct_H => (some (.inl (r.1) : ct_PV), r.2))) (some (.inl v11)) rfl rfl rfl ⟨rfl, Or.inl rfl⟩
              · refine ct_zsplit (fun e14 => ?_) (fun e14 => ?_)
                · refine ct_zsw C (off := 71) (k' := 38) rfl (by rw [e14]; rfl) rfl ?_
                  refine ct_zrun C (k' := 41) (y := ([(0, .inr (.inr (7, o))), (1, .inl a1), (2, .inl a2)], [.inl 1, .inl a1, .inr (.inr (7, o))], r4)) 3 rfl rfl rfl ?_
                  refine ct_zV C (pc := 107) (aux := 0) [.inl a1, .inl 1] [] ok_X7_saddles lk_X7_337 (e_X7_saddles o a1 1) rfl rfl rfl rfl rfl rfl rfl rfl (fun v13 => ?_)
                  exact ct_zret C (pc := 110) (aux := 0) (ins := .ireturn) (ρ := (fun r : Int × ct_H => (some (.inl (r.1) : ct_PV), r.2))) (some (.inl v13)) rfl rfl rfl ⟨rfl, Or.inl rfl⟩
                · refine ct_zsplit (fun e16 => ?_) (fun e16 => ?_)
                  · refine ct_zsw C (off := 78) (k' := 43) rfl (by rw [e16]; rfl) rfl ?_
                    refine ct_zrun C (k' := 45) (y := ([(0, .inr (.inr (7, o))), (1, .inl a1), (2, .inl a2)], [.inl a1, .inr (.inr (7, o))], r4)) 2 rfl rfl rfl ?_
                    refine ct_zV C (pc := 113) (aux := 0) [.inl a1] [] ok_X7_volume lk_X7_303 (e_X7_volume o a1) rfl rfl rfl rfl rfl rfl rfl rfl (fun v15 => ?_)
                    exact ct_zret C (pc := 116) (aux := 0) (ins := .ireturn) (ρ := (fun r : Int × ct_H => (some (.inl (r.1) : ct_PV), r.2))) (some (.inl v15)) rfl rfl rfl ⟨rfl, Or.inl rfl⟩
                  · refine ct_zsw C (off := 84) (k' := 47) rfl (by show (if _ then _ else _) = _; rw [if_pos (by omega)]) rfl ?_
                    refine ct_zrun C (k' := 48) (y := ([(0, .inr (.inr (7, o))), (1, .inl a1), (2, .inl a2)], [.inr (.inr (7, o))], r4)) 1 rfl rfl rfl ?_
                    refine ct_zV C (pc := 118) (aux := 0) [] [] ok_X7_deepest lk_X7_341 (e_X7_deepest o) rfl rfl rfl rfl rfl rfl rfl rfl (fun v17 => ?_)
                    exact ct_zret C (pc := 121) (aux := 0) (ins := .ireturn) (ρ := (fun r : Int × ct_H => (some (.inl (r.1) : ct_PV), r.2))) (some (.inl v17)) rfl rfl rfl ⟨rfl, Or.inl rfl⟩
def f_X7_square (G : ct_G) (h : ct_H) (o : Nat) (a1 : Int) (a2 : Int) (a3 : Int) : Option (Int) := (f_X7_isLevel G h a1).bind fun v1 => if v1 = 0 then (some (-2)) else (f_X7_squares G h o).bind fun v2 => (f_X7_in G h a2 0 (ct_wr (v2 - 1))).bind fun v3 => if v3 = 0 then (some (-1)) else (f_X7_in G h a3 0 1).bind fun v4 => if v4 = 0 then (some (-1)) else if a3 = 0 then ((f_X7_caseOf G h o a1 a2).bind fun v7 => some v7) else (f_X7_isJoined G h o a1 a2).bind fun v5 => if v5 = 0 then (some 0) else some 1
set_option maxRecDepth 100000 in
theorem e_X7_square {d : Nat} {G : ct_G} {h : ct_H} (o : Nat) (a1 : Int) (a2 : Int) (a3 : Int) : ct_E m_X7_square (d + 4) G (ct_args 0 [.inr (.inr (7, o)), .inl a1, .inl a2, .inl a3]) h (fun r : Int => (some (.inl r : ct_PV), h)) (f_X7_square G h o a1 a2 a3) := by
  intro x C
  unfold f_X7_square
  show ct_Z x m_X7_square G 0 [(0, .inr (.inr (7, o))), (1, .inl a1), (2, .inl a2), (3, .inl a3)] [] h (fun a => ct_q x G ((fun r : Int => (some (.inl r : ct_PV), h)) a)) _
  refine ct_zrun C (k' := 1) (y := ([(0, .inr (.inr (7, o))), (1, .inl a1), (2, .inl a2), (3, .inl a3)], [.inl a1], h)) 1 rfl rfl rfl ?_
  refine ct_zS C (pc := 1) (aux := 0) [.inl a1] [] ok_X7_isLevel lk_X7_325 (e_X7_isLevel a1) rfl rfl rfl rfl rfl rfl (fun v1 => ?_)
  refine ct_zf0 C (pc := 4) (aux := 0) (cn := .ne) (off := 6) (k' := 5) (a := v1) Iff.rfl rfl rfl rfl (fun e11 => ?_) (fun e11 => ?_)
  · refine ct_zrun C (k' := 4) (y := ([(0, .inr (.inr (7, o))), (1, .inl a1), (2, .inl a2), (3, .inl a3)], [.inl (-2)], h)) 1 rfl rfl rfl ?_
    exact ct_zret C (pc := 9) (aux := 0) (ins := .ireturn) (ρ := (fun r : Int => (some (.inl r : ct_PV), h))) (some (.inl (-2))) rfl rfl rfl ⟨rfl, Or.inl rfl⟩
  · refine ct_zrun C (k' := 8) (y := ([(0, .inr (.inr (7, o))), (1, .inl a1), (2, .inl a2), (3, .inl a3)], [.inr (.inr (7, o)), .inl 0, .inl a2], h)) 3 rfl rfl rfl ?_
    refine ct_zV C (pc := 13) (aux := 0) [] [.inl 0, .inl a2] ok_X7_squares lk_X7_322 (e_X7_squares o) rfl rfl rfl rfl rfl rfl rfl rfl (fun v2 => ?_)
    refine ct_zrun C (k' := 11) (y := ([(0, .inr (.inr (7, o))), (1, .inl a1), (2, .inl a2), (3, .inl a3)], [.inl (ct_wr (v2 - 1)), .inl 0, .inl a2], h)) 2 rfl rfl rfl ?_
    refine ct_zS C (pc := 18) (aux := 0) [.inl a2, .inl 0, .inl (ct_wr (v2 - 1))] [] ok_X7_in lk_X7_100 (e_X7_in a2 0 (ct_wr (v2 - 1))) rfl rfl rfl rfl rfl rfl (fun v3 => ?_)
    refine ct_zt0 C (pc := 21) (aux := 0) (cn := .eq) (off := 12) (k' := 18) (a := v3) Iff.rfl rfl rfl rfl (fun e10 => ?_) (fun e10 => ?_)
    · refine ct_zrun C (k' := 19) (y := ([(0, .inr (.inr (7, o))), (1, .inl a1), (2, .inl a2), (3, .inl a3)], [.inl (-1)], h)) 1 rfl rfl rfl ?_
      exact ct_zret C (pc := 34) (aux := 0) (ins := .ireturn) (ρ := (fun r : Int => (some (.inl r : ct_PV), h))) (some (.inl (-1))) rfl rfl rfl ⟨rfl, Or.inl rfl⟩
    · refine ct_zrun C (k' := 16) (y := ([(0, .inr (.inr (7, o))), (1, .inl a1), (2, .inl a2), (3, .inl a3)], [.inl 1, .inl 0, .inl a3], h)) 3 rfl rfl rfl ?_
      refine ct_zS C (pc := 27) (aux := 0) [.inl a3, .inl 0, .inl 1] [] ok_X7_in lk_X7_100 (e_X7_in a3 0 1) rfl rfl rfl rfl rfl rfl (fun v4 => ?_)
      refine ct_zf0 C (pc := 30) (aux := 0) (cn := .ne) (off := 5) (k' := 20) (a := v4) Iff.rfl rfl rfl rfl (fun e9 => ?_) (fun e9 => ?_)
      · refine ct_zrun C (k' := 19) (y := ([(0, .inr (.inr (7, o))), (1, .inl a1), (2, .inl a2), (3, .inl a3)], [.inl (-1)], h)) 1 rfl rfl rfl ?_
        exact ct_zret C (pc := 34) (aux := 0) (ins := .ireturn) (ρ := (fun r : Int => (some (.inl r : ct_PV), h))) (some (.inl (-1))) rfl rfl rfl ⟨rfl, Or.inl rfl⟩
      · refine ct_zrun C (k' := 21) (y := ([(0, .inr (.inr (7, o))), (1, .inl a1), (2, .inl a2), (3, .inl a3)], [.inl a3], h)) 1 rfl rfl rfl ?_
        refine ct_zf0 C (pc := 36) (aux := 0) (cn := .ne) (off := 12) (k' := 27) (a := a3) Iff.rfl rfl rfl rfl (fun e8 => ?_) (fun e8 => ?_)
        · refine ct_zrun C (k' := 25) (y := ([(0, .inr (.inr (7, o))), (1, .inl a1), (2, .inl a2), (3, .inl a3)], [.inl a2, .inl a1, .inr (.inr (7, o))], h)) 3 rfl rfl rfl ?_
          refine ct_zV C (pc := 42) (aux := 0) [.inl a1, .inl a2] [] ok_X7_caseOf lk_X7_217 (e_X7_caseOf o a1 a2) rfl rfl rfl rfl rfl rfl rfl rfl (fun v7 => ?_)
          refine ct_zgoto C (pc := 45) (aux := 0) (off := 17) (k' := 35) rfl rfl ?_
          exact ct_zret C (pc := 62) (aux := 0) (ins := .ireturn) (ρ := (fun r : Int => (some (.inl r : ct_PV), h))) (some (.inl v7)) rfl rfl rfl ⟨rfl, Or.inl rfl⟩
        · refine ct_zrun C (k' := 30) (y := ([(0, .inr (.inr (7, o))), (1, .inl a1), (2, .inl a2), (3, .inl a3)], [.inl a2, .inl a1, .inr (.inr (7, o))], h)) 3 rfl rfl rfl ?_
          refine ct_zV C (pc := 51) (aux := 0) [.inl a1, .inl a2] [] ok_X7_isJoined lk_X7_233 (e_X7_isJoined o a1 a2) rfl rfl rfl rfl rfl rfl rfl rfl (fun v5 => ?_)
          refine ct_zt0 C (pc := 54) (aux := 0) (cn := .eq) (off := 7) (k' := 34) (a := v5) Iff.rfl rfl rfl rfl (fun e6 => ?_) (fun e6 => ?_)
          · refine ct_zrun C (k' := 35) (y := ([(0, .inr (.inr (7, o))), (1, .inl a1), (2, .inl a2), (3, .inl a3)], [.inl 0], h)) 1 rfl rfl rfl ?_
            exact ct_zret C (pc := 62) (aux := 0) (ins := .ireturn) (ρ := (fun r : Int => (some (.inl r : ct_PV), h))) (some (.inl 0)) rfl rfl rfl ⟨rfl, Or.inl rfl⟩
          · refine ct_zrun C (k' := 33) (y := ([(0, .inr (.inr (7, o))), (1, .inl a1), (2, .inl a2), (3, .inl a3)], [.inl 1], h)) 1 rfl rfl rfl ?_
            refine ct_zgoto C (pc := 58) (aux := 0) (off := 4) (k' := 35) rfl rfl ?_
            exact ct_zret C (pc := 62) (aux := 0) (ins := .ireturn) (ρ := (fun r : Int => (some (.inl r : ct_PV), h))) (some (.inl 1)) rfl rfl rfl ⟨rfl, Or.inl rfl⟩
def f_X7_edge (G : ct_G) (h : ct_H) (o : Nat) (a1 : Int) (a2 : Int) : Option (Int × ct_H) := (f_X7_isLevel G h a1).bind fun v1 => if v1 = 0 then (some ((-2), h)) else (f_X7_isEdge G h o a2).bind fun v2 => if v2 = 0 then (some ((-1), h)) else (f_X7_layLines G h o a1).bind fun r3 => (ct_rd G r3 (G.1 o 11) a2).bind fun v4 => some (v4, r3)
set_option maxRecDepth 100000 in
theorem e_X7_edge {d : Nat} {G : ct_G} {h : ct_H} (o : Nat) (a1 : Int) (a2 : Int) : ct_E m_X7_edge (d + 6) G (ct_args 0 [.inr (.inr (7, o)), .inl a1, .inl a2]) h (fun r : Int × ct_H => (some (.inl (r.1) : ct_PV), r.2)) (f_X7_edge G h o a1 a2) := by
  intro x C
  unfold f_X7_edge
  show ct_Z x m_X7_edge G 0 [(0, .inr (.inr (7, o))), (1, .inl a1), (2, .inl a2)] [] h (fun a => ct_q x G ((fun r : Int × ct_H => (some (.inl (r.1) : ct_PV), r.2)) a)) _
  refine ct_zrun C (k' := 1) (y := ([(0, .inr (.inr (7, o))), (1, .inl a1), (2, .inl a2)], [.inl a1], h)) 1 rfl rfl rfl ?_
  refine ct_zS C (pc := 1) (aux := 0) [.inl a1] [] ok_X7_isLevel lk_X7_325 (e_X7_isLevel a1) rfl rfl rfl rfl rfl rfl (fun v1 => ?_)
  refine ct_zf0 C (pc := 4) (aux := 0) (cn := .ne) (off := 6) (k' := 5) (a := v1) Iff.rfl rfl rfl rfl (fun e6 => ?_) (fun e6 => ?_)
  · refine ct_zrun C (k' := 4) (y := ([(0, .inr (.inr (7, o))), (1, .inl a1), (2, .inl a2)], [.inl (-2)], h)) 1 rfl rfl rfl ?_
    exact ct_zret C (pc := 9) (aux := 0) (ins := .ireturn) (ρ := (fun r : Int × ct_H => (some (.inl (r.1) : ct_PV), r.2))) (some (.inl (-2))) rfl rfl rfl ⟨rfl, Or.inl rfl⟩
  · refine ct_zrun C (k' := 7) (y := ([(0, .inr (.inr (7, o))), (1, .inl a1), (2, .inl a2)], [.inl a2, .inr (.inr (7, o))], h)) 2 rfl rfl rfl ?_
    refine ct_zV C (pc := 12) (aux := 0) [.inl a2] [] ok_X7_isEdge lk_X7_236 (e_X7_isEdge o a2) rfl rfl rfl rfl rfl rfl rfl rfl (fun v2 => ?_)
    refine ct_zf0 C (pc := 15) (aux := 0) (cn := .ne) (off := 5) (k' := 11) (a := v2) Iff.rfl rfl rfl rfl (fun e5 => ?_) (fun e5 => ?_)
    · refine ct_zrun C (k' := 10) (y := ([(0, .inr (.inr (7, o))), (1, .inl a1), (2, .inl a2)], [.inl (-1)], h)) 1 rfl rfl rfl ?_
      exact ct_zret C (pc := 19) (aux := 0) (ins := .ireturn) (ρ := (fun r : Int × ct_H => (some (.inl (r.1) : ct_PV), r.2))) (some (.inl (-1))) rfl rfl rfl ⟨rfl, Or.inl rfl⟩
    · refine ct_zrun C (k' := 13) (y := ([(0, .inr (.inr (7, o))), (1, .inl a1), (2, .inl a2)], [.inl a1, .inr (.inr (7, o))], h)) 2 rfl rfl rfl ?_
      refine ct_zV C (pc := 22) (aux := 0) [.inl a1] [] ok_X7_layLines lk_X7_306 (e_X7_layLines o a1) rfl rfl rfl rfl rfl rfl rfl rfl (fun r3 => ?_)
      refine ct_zrun C (k' := 17) (y := ([(0, .inr (.inr (7, o))), (1, .inl a1), (2, .inl a2)], [.inl a2, .inr (.inr (8, (G.1 o 11)))], r3)) 3 rfl rfl rfl ?_
      refine ct_zrd C (pc := 30) (aux := 0) (ins := .iaload) (cd := 8) rfl rfl (Or.inl ⟨rfl, rfl⟩) (fun v4 => ?_)
      exact ct_zret C (pc := 31) (aux := 0) (ins := .ireturn) (ρ := (fun r : Int × ct_H => (some (.inl (r.1) : ct_PV), r.2))) (some (.inl v4)) rfl rfl rfl ⟨rfl, Or.inl rfl⟩
def f_X7_asked (G : ct_G) (h : ct_H) (o : Nat) (a1 : Int) (a2 : Int) : Option (Int × ct_H) := (f_X7_isLevel G h a1).bind fun v1 => if v1 = 0 then (some ((-2), h)) else (f_X7_layLines G h o a1).bind fun r2 => (f_X7_in G r2 a2 0 (ct_wr ((r2.1 o 14) - 1))).bind fun v3 => if v3 = 0 then (some ((-1), r2)) else some (0, r2)
set_option maxRecDepth 100000 in
theorem e_X7_asked {d : Nat} {G : ct_G} {h : ct_H} (o : Nat) (a1 : Int) (a2 : Int) : ct_E m_X7_asked (d + 6) G (ct_args 0 [.inr (.inr (7, o)), .inl a1, .inl a2]) h (fun r : Int × ct_H => (some (.inl (r.1) : ct_PV), r.2)) (f_X7_asked G h o a1 a2) := by
  intro x C
  unfold f_X7_asked
  show ct_Z x m_X7_asked G 0 [(0, .inr (.inr (7, o))), (1, .inl a1), (2, .inl a2)] [] h (fun a => ct_q x G ((fun r : Int × ct_H => (some (.inl (r.1) : ct_PV), r.2)) a)) _
  refine ct_zrun C (k' := 1) (y := ([(0, .inr (.inr (7, o))), (1, .inl a1), (2, .inl a2)], [.inl a1], h)) 1 rfl rfl rfl ?_
  refine ct_zS C (pc := 1) (aux := 0) [.inl a1] [] ok_X7_isLevel lk_X7_325 (e_X7_isLevel a1) rfl rfl rfl rfl rfl rfl (fun v1 => ?_)
  refine ct_zf0 C (pc := 4) (aux := 0) (cn := .ne) (off := 6) (k' := 5) (a := v1) Iff.rfl rfl rfl rfl (fun e5 => ?_) (fun e5 => ?_)
  · refine ct_zrun C (k' := 4) (y := ([(0, .inr (.inr (7, o))), (1, .inl a1), (2, .inl a2)], [.inl (-2)], h)) 1 rfl rfl rfl ?_
    exact ct_zret C (pc := 9) (aux := 0) (ins := .ireturn) (ρ := (fun r : Int × ct_H => (some (.inl (r.1) : ct_PV), r.2))) (some (.inl (-2))) rfl rfl rfl ⟨rfl, Or.inl rfl⟩
  · refine ct_zrun C (k' := 7) (y := ([(0, .inr (.inr (7, o))), (1, .inl a1), (2, .inl a2)], [.inl a1, .inr (.inr (7, o))], h)) 2 rfl rfl rfl ?_
    refine ct_zV C (pc := 12) (aux := 0) [.inl a1] [] ok_X7_layLines lk_X7_306 (e_X7_layLines o a1) rfl rfl rfl rfl rfl rfl rfl rfl (fun r2 => ?_)
    refine ct_zrun C (k' := 14) (y := ([(0, .inr (.inr (7, o))), (1, .inl a1), (2, .inl a2)], [.inl (ct_wr ((r2.1 o 14) - 1)), .inl 0, .inl a2], r2)) 6 rfl rfl rfl ?_
    refine ct_zS C (pc := 23) (aux := 0) [.inl a2, .inl 0, .inl (ct_wr ((r2.1 o 14) - 1))] [] ok_X7_in lk_X7_100 (e_X7_in a2 0 (ct_wr ((r2.1 o 14) - 1))) rfl rfl rfl rfl rfl rfl (fun v3 => ?_)
    refine ct_zt0 C (pc := 26) (aux := 0) (cn := .eq) (off := 7) (k' := 18) (a := v3) Iff.rfl rfl rfl rfl (fun e4 => ?_) (fun e4 => ?_)
    · refine ct_zrun C (k' := 19) (y := ([(0, .inr (.inr (7, o))), (1, .inl a1), (2, .inl a2)], [.inl (-1)], r2)) 1 rfl rfl rfl ?_
      exact ct_zret C (pc := 34) (aux := 0) (ins := .ireturn) (ρ := (fun r : Int × ct_H => (some (.inl (r.1) : ct_PV), r.2))) (some (.inl (-1))) rfl rfl rfl ⟨rfl, Or.inl rfl⟩
    · refine ct_zrun C (k' := 17) (y := ([(0, .inr (.inr (7, o))), (1, .inl a1), (2, .inl a2)], [.inl 0], r2)) 1 rfl rfl rfl ?_
      refine ct_zgoto C (pc := 30) (aux := 0) (off := 4) (k' := 19) rfl rfl ?_
      exact ct_zret C (pc := 34) (aux := 0) (ins := .ireturn) (ρ := (fun r : Int × ct_H => (some (.inl (r.1) : ct_PV), r.2))) (some (.inl 0)) rfl rfl rfl ⟨rfl, Or.inl rfl⟩
def f_X7_line (G : ct_G) (h : ct_H) (o : Nat) (a1 : Int) (a2 : Int) (a3 : Int) : Option (Int × ct_H) := (f_X7_asked G h o a1 a2).bind fun r1 => if r1.1 = 0 then (if a3 = 0 then ((ct_rd G r1.2 (G.1 o 13) a2).bind fun v2 => (ct_rd G r1.2 (G.1 o 12) v2).bind fun v3 => some (v3, r1.2)) else if a3 = 1 then ((f_X7_lengthOf G r1.2 o a2).bind fun v5 => some (v5, r1.2)) else if a3 = 2 then ((f_X7_depthOf G r1.2 o a2).bind fun v7 => some (v7, r1.2)) else if a3 = 3 then ((f_X7_parentOf G r1.2 o a2).bind fun v9 => some (v9, r1.2)) else if a3 = 4 then ((f_X7_isOuter G r1.2 o a2).bind fun v11 => if v11 = 0 then (some (0, r1.2)) else some (1, r1.2)) else if a3 = 5 then ((f_X7_areaOf G r1.2 o a2).bind fun v14 => some (v14, r1.2)) else if a3 = 6 then ((f_X7_heldOf G r1.2 o a2).bind fun v16 => some (v16, r1.2)) else some ((-1), r1.2)) else some (r1.1, r1.2)
set_option maxRecDepth 100000 in
theorem e_X7_line {d : Nat} {G : ct_G} {h : ct_H} (o : Nat) (a1 : Int) (a2 : Int) (a3 : Int) : ct_E m_X7_line (d + 7) G (ct_args 0 [.inr (.inr (7, o)), .inl a1, .inl a2, .inl a3]) h (fun r : Int × ct_H => (some (.inl (r.1) : ct_PV), r.2)) (f_X7_line G h o a1 a2 a3) := by
  intro x C
  unfold f_X7_line
  show ct_Z x m_X7_line G 0 [(0, .inr (.inr (7, o))), (1, .inl a1), (2, .inl a2), (3, .inl a3)] [] h (fun a => ct_q x G ((fun r : Int × ct_H => (some (.inl (r.1) : ct_PV), r.2)) a)) _
  refine ct_zrun C (k' := 3) (y := ([(0, .inr (.inr (7, o))), (1, .inl a1), (2, .inl a2), (3, .inl a3)], [.inl a2, .inl a1, .inr (.inr (7, o))], h)) 3 rfl rfl rfl ?_
  refine ct_zV C (pc := 3) (aux := 0) [.inl a1, .inl a2] [] ok_X7_asked lk_X7_344 (e_X7_asked o a1 a2) rfl rfl rfl rfl rfl rfl rfl rfl (fun r1 => ?_)
  refine ct_zrun C (k' := 6) (y := ([(4, .inl (r1.1)), (0, .inr (.inr (7, o))), (1, .inl a1), (2, .inl a2), (3, .inl a3)], [.inl (r1.1)], r1.2)) 2 rfl rfl rfl ?_
  refine ct_zt0 C (pc := 10) (aux := 0) (cn := .eq) (off := 6) (k' := 9) (a := r1.1) Iff.rfl rfl rfl rfl (fun e18 => ?_) (fun e18 => ?_)
  · refine ct_zrun C (k' := 10) (y := ([(4, .inl (r1.1)), (0, .inr (.inr (7, o))), (1, .inl a1), (2, .inl a2), (3, .inl a3)], [.inl a3], r1.2)) 1 rfl rfl rfl ?_
    refine ct_zsplit (fun e4 => ?_) (fun e4 => ?_)
    · refine ct_zsw C (off := 43) (k' := 11) rfl (by rw [e4]; rfl) rfl ?_
      refine ct_zrun C (k' := 16) (y := ([(4, .inl (r1.1)), (0, .inr (.inr (7, o))), (1, .inl a1), (2, .inl a2), (3, .inl a3)], [.inl a2, .inr (.inr (8, (G.1 o 13))), .inr (.inr (8, (G.1 o 12)))], r1.2)) 5 rfl rfl rfl ?_
      refine ct_zrd C (pc := 69) (aux := 0) (ins := .iaload) (cd := 8) rfl rfl (Or.inl ⟨rfl, rfl⟩) (fun v2 => ?_)
      refine ct_zrd C (pc := 70) (aux := 0) (ins := .iaload) (cd := 8) rfl rfl (Or.inl ⟨rfl, rfl⟩) (fun v3 => ?_)
      exact ct_zret C (pc := 71) (aux := 0) (ins := .ireturn) (ρ := (fun r : Int × ct_H => (some (.inl (r.1) : ct_PV), r.2))) (some (.inl v3)) rfl rfl rfl ⟨rfl, Or.inl rfl⟩
    · refine ct_zsplit (fun e6 => ?_) (fun e6 => ?_)
      · refine ct_zsw C (off := 55) (k' := 19) rfl (by rw [e6]; rfl) rfl ?_
        refine ct_zrun C (k' := 21) (y := ([(4, .inl (r1.1)), (0, .inr (.inr (7, o))), (1, .inl a1), (2, .inl a2), (3, .inl a3)], [.inl a2, .inr (.inr (7, o))], r1.2)) 2 rfl rfl rfl ?_
        refine ct_zV C (pc := 74) (aux := 0) [.inl a2] [] ok_X7_lengthOf lk_X7_347 (e_X7_lengthOf o a2) rfl rfl rfl rfl rfl rfl rfl rfl (fun v5 => ?_)
        exact ct_zret C (pc := 77) (aux := 0) (ins := .ireturn) (ρ := (fun r : Int × ct_H => (some (.inl (r.1) : ct_PV), r.2))) (some (.inl v5)) rfl rfl rfl ⟨rfl, Or.inl rfl⟩
      · refine ct_zsplit (fun e8 => ?_) (fun e8 => ?_)
        · refine ct_zsw C (off := 61) (k' := 23) rfl (by rw [e8]; rfl) rfl ?_
          refine ct_zrun C (k' := 25) (y := ([(4, .inl (r1.1)), (0, .inr (.inr (7, o))), (1, .inl a1), (2, .inl a2), (3, .inl a3)], [.inl a2, .inr (.inr (7, o))], r1.2)) 2 rfl rfl rfl ?_
          refine ct_zV C (pc := 80) (aux := 0) [.inl a2] [] ok_X7_depthOf lk_X7_260 (e_X7_depthOf o a2) rfl rfl rfl rfl rfl rfl rfl rfl (fun v7 => ?_)
          exact ct_zret C (pc := 83) (aux := 0) (ins := .ireturn) (ρ := (fun r : Int × ct_H => (some (.inl (r.1) : ct_PV), r.2))) (some (.inl v7)) rfl rfl rfl ⟨rfl, Or.inl rfl⟩
        · refine ct_zsplit (fun e10 => ?_) (fun e10 => ?_)
          · refine ct_zsw C (off := 67) (k' := 27) rfl (by rw [e10]; rfl) rfl ?_
            refine ct_zrun C (k' := 29) (y := ([(4, .inl (r1.1)), (0, .inr (.inr (7, o))), (1, .inl a1), (2, .inl a2), (3, .inl a3)], [.inl a2, .inr (.inr (7, o))], r1.2)) 2 rfl rfl rfl ?_
            refine ct_zV C (pc := 86) (aux := 0) [.inl a2] [] ok_X7_parentOf lk_X7_350 (e_X7_parentOf o a2) rfl rfl rfl rfl rfl rfl rfl rfl (fun v9 => ?_)
            exact ct_zret C (pc := 89) (aux := 0) (ins := .ireturn) (ρ := (fun r : Int × ct_H => (some (.inl (r.1) : ct_PV), r.2))) (some (.inl v9)) rfl rfl rfl ⟨rfl, Or.inl rfl⟩
          · refine ct_zsplit (fun e13 => ?_) (fun e13 => ?_)
            · refine ct_zsw C (off := 73) (k' := 31) rfl (by rw [e13]; rfl) rfl ?_
              refine ct_zrun C (k' := 33) (y := ([(4, .inl (r1.1)), (0, .inr (.inr (7, o))), (1, .inl a1), (2, .inl a2), (3, .inl a3)], [.inl a2, .inr (.inr (7, o))], r1.2)) 2 rfl rfl rfl ?_
              refine ct_zV C (pc := 92) (aux := 0) [.inl a2] [] ok_X7_isOuter lk_X7_272 (e_X7_isOuter o a2) rfl rfl rfl rfl rfl rfl rfl rfl (fun v11 => ?_)
              refine ct_zt0 C (pc := 95) (aux := 0) (cn := .eq) (off := 7) (k' := 37) (a := v11) Iff.rfl rfl rfl rfl (fun e12 => ?_) (fun e12 => ?_)
              · refine ct_zrun C (k' := 38) (y := ([(4, .inl (r1.1)), (0, .inr (.inr (7, o))), (1, .inl a1), (2, .inl a2), (3, .inl a3)], [.inl 0], r1.2)) 1 rfl rfl rfl ?_
                exact ct_zret C (pc := 103) (aux := 0) (ins := .ireturn) (ρ := (fun r : Int × ct_H => (some (.inl (r.1) : ct_PV), r.2))) (some (.inl 0)) rfl rfl rfl ⟨rfl, Or.inl rfl⟩
              · refine ct_zrun C (k' := 36) (y := ([(4, .inl (r1.1)), (0, .inr (.inr (7, o))), (1, .inl a1), (2, .inl a2), (3, .inl a3)], [.inl 1], r1.2)) 1 rfl rfl rfl ?_
                refine ct_zgoto C (pc := 99) (aux := 0) (off := 4) (k' := 38) rfl rfl ?_
                exact ct_zret C (pc := 103) (aux := 0) (ins := .ireturn) (ρ := (fun r : Int × ct_H => (some (.inl (r.1) : ct_PV), r.2))) (some (.inl 1)) rfl rfl rfl ⟨rfl, Or.inl rfl⟩
            · refine ct_zsplit (fun e15 => ?_) (fun e15 => ?_)
              · refine ct_zsw C (off := 87) (k' := 39) rfl (by rw [e15]; rfl) rfl ?_
                refine ct_zrun C (k' := 41) (y := ([(4, .inl (r1.1)), (0, .inr (.inr (7, o))), (1, .inl a1), (2, .inl a2), (3, .inl a3)], [.inl a2, .inr (.inr (7, o))], r1.2)) 2 rfl rfl rfl ?_
                refine ct_zV C (pc := 106) (aux := 0) [.inl a2] [] ok_X7_areaOf lk_X7_353 (e_X7_areaOf o a2) rfl rfl rfl rfl rfl rfl rfl rfl (fun v14 => ?_)
                exact ct_zret C (pc := 109) (aux := 0) (ins := .ireturn) (ρ := (fun r : Int × ct_H => (some (.inl (r.1) : ct_PV), r.2))) (some (.inl v14)) rfl rfl rfl ⟨rfl, Or.inl rfl⟩
              · refine ct_zsplit (fun e17 => ?_) (fun e17 => ?_)
                · refine ct_zsw C (off := 93) (k' := 43) rfl (by rw [e17]; rfl) rfl ?_
                  refine ct_zrun C (k' := 45) (y := ([(4, .inl (r1.1)), (0, .inr (.inr (7, o))), (1, .inl a1), (2, .inl a2), (3, .inl a3)], [.inl a2, .inr (.inr (7, o))], r1.2)) 2 rfl rfl rfl ?_
                  refine ct_zV C (pc := 112) (aux := 0) [.inl a2] [] ok_X7_heldOf lk_X7_356 (e_X7_heldOf o a2) rfl rfl rfl rfl rfl rfl rfl rfl (fun v16 => ?_)
                  exact ct_zret C (pc := 115) (aux := 0) (ins := .ireturn) (ρ := (fun r : Int × ct_H => (some (.inl (r.1) : ct_PV), r.2))) (some (.inl v16)) rfl rfl rfl ⟨rfl, Or.inl rfl⟩
                · refine ct_zsw C (off := 99) (k' := 47) rfl (by show (if _ then _ else _) = _; rw [if_pos (by omega)]) rfl ?_
                  refine ct_zrun C (k' := 48) (y := ([(4, .inl (r1.1)), (0, .inr (.inr (7, o))), (1, .inl a1), (2, .inl a2), (3, .inl a3)], [.inl (-1)], r1.2)) 1 rfl rfl rfl ?_
                  exact ct_zret C (pc := 117) (aux := 0) (ins := .ireturn) (ρ := (fun r : Int × ct_H => (some (.inl (r.1) : ct_PV), r.2))) (some (.inl (-1))) rfl rfl rfl ⟨rfl, Or.inl rfl⟩
  · refine ct_zrun C (k' := 8) (y := ([(4, .inl (r1.1)), (0, .inr (.inr (7, o))), (1, .inl a1), (2, .inl a2), (3, .inl a3)], [.inl (r1.1)], r1.2)) 1 rfl rfl rfl ?_
    exact ct_zret C (pc := 15) (aux := 0) (ins := .ireturn) (ρ := (fun r : Int × ct_H => (some (.inl (r.1) : ct_PV), r.2))) (some (.inl (r1.1))) rfl rfl rfl ⟨rfl, Or.inl rfl⟩
def f_X7_goes (G : ct_G) (h : ct_H) (o : Nat) (a1 : Int) (a2 : Int) (a3 : Int) : Option (Int × ct_H) := (f_X7_asked G h o a1 a2).bind fun r1 => if r1.1 = 0 then (if 0 ≤ a3 then ((f_X7_lengthOf G r1.2 o a2).bind fun v2 => if v2 ≤ a3 then (some ((-5), r1.2)) else (ct_rd G r1.2 (G.1 o 13) a2).bind fun v3 => (ct_rd G r1.2 (G.1 o 12) (ct_wr (v3 + a3))).bind fun v4 => some (v4, r1.2)) else some ((-1), r1.2)) else some (r1.1, r1.2)
set_option maxRecDepth 100000 in
theorem e_X7_goes {d : Nat} {G : ct_G} {h : ct_H} (o : Nat) (a1 : Int) (a2 : Int) (a3 : Int) : ct_E m_X7_goes (d + 7) G (ct_args 0 [.inr (.inr (7, o)), .inl a1, .inl a2, .inl a3]) h (fun r : Int × ct_H => (some (.inl (r.1) : ct_PV), r.2)) (f_X7_goes G h o a1 a2 a3) := by
  intro x C
  unfold f_X7_goes
  show ct_Z x m_X7_goes G 0 [(0, .inr (.inr (7, o))), (1, .inl a1), (2, .inl a2), (3, .inl a3)] [] h (fun a => ct_q x G ((fun r : Int × ct_H => (some (.inl (r.1) : ct_PV), r.2)) a)) _
  refine ct_zrun C (k' := 3) (y := ([(0, .inr (.inr (7, o))), (1, .inl a1), (2, .inl a2), (3, .inl a3)], [.inl a2, .inl a1, .inr (.inr (7, o))], h)) 3 rfl rfl rfl ?_
  refine ct_zV C (pc := 3) (aux := 0) [.inl a1, .inl a2] [] ok_X7_asked lk_X7_344 (e_X7_asked o a1 a2) rfl rfl rfl rfl rfl rfl rfl rfl (fun r1 => ?_)
  refine ct_zrun C (k' := 6) (y := ([(4, .inl (r1.1)), (0, .inr (.inr (7, o))), (1, .inl a1), (2, .inl a2), (3, .inl a3)], [.inl (r1.1)], r1.2)) 2 rfl rfl rfl ?_
  refine ct_zt0 C (pc := 10) (aux := 0) (cn := .eq) (off := 6) (k' := 9) (a := r1.1) Iff.rfl rfl rfl rfl (fun e7 => ?_) (fun e7 => ?_)
  · refine ct_zrun C (k' := 10) (y := ([(4, .inl (r1.1)), (0, .inr (.inr (7, o))), (1, .inl a1), (2, .inl a2), (3, .inl a3)], [.inl a3], r1.2)) 1 rfl rfl rfl ?_
    refine ct_zt0 C (pc := 17) (aux := 0) (cn := .ge) (off := 5) (k' := 13) (a := a3) Iff.rfl rfl rfl rfl (fun e6 => ?_) (fun e6 => ?_)
    · refine ct_zrun C (k' := 16) (y := ([(4, .inl (r1.1)), (0, .inr (.inr (7, o))), (1, .inl a1), (2, .inl a2), (3, .inl a3)], [.inl a2, .inr (.inr (7, o)), .inl a3], r1.2)) 3 rfl rfl rfl ?_
      refine ct_zV C (pc := 25) (aux := 0) [.inl a2] [.inl a3] ok_X7_lengthOf lk_X7_347 (e_X7_lengthOf o a2) rfl rfl rfl rfl rfl rfl rfl rfl (fun v2 => ?_)
      refine ct_zt C (pc := 28) (aux := 0) (cn := .ge) (off := 19) (k' := 28) (a := a3) (b := v2) Iff.rfl rfl rfl rfl (fun e5 => ?_) (fun e5 => ?_)
      · refine ct_zrun C (k' := 29) (y := ([(4, .inl (r1.1)), (0, .inr (.inr (7, o))), (1, .inl a1), (2, .inl a2), (3, .inl a3)], [.inl (-5)], r1.2)) 1 rfl rfl rfl ?_
        exact ct_zret C (pc := 49) (aux := 0) (ins := .ireturn) (ρ := (fun r : Int × ct_H => (some (.inl (r.1) : ct_PV), r.2))) (some (.inl (-5))) rfl rfl rfl ⟨rfl, Or.inl rfl⟩
      · refine ct_zrun C (k' := 23) (y := ([(4, .inl (r1.1)), (0, .inr (.inr (7, o))), (1, .inl a1), (2, .inl a2), (3, .inl a3)], [.inl a2, .inr (.inr (8, (G.1 o 13))), .inr (.inr (8, (G.1 o 12)))], r1.2)) 5 rfl rfl rfl ?_
        refine ct_zrd C (pc := 40) (aux := 0) (ins := .iaload) (cd := 8) rfl rfl (Or.inl ⟨rfl, rfl⟩) (fun v3 => ?_)
        refine ct_zrun C (k' := 26) (y := ([(4, .inl (r1.1)), (0, .inr (.inr (7, o))), (1, .inl a1), (2, .inl a2), (3, .inl a3)], [.inl (ct_wr (v3 + a3)), .inr (.inr (8, (G.1 o 12)))], r1.2)) 2 rfl rfl rfl ?_
        refine ct_zrd C (pc := 43) (aux := 0) (ins := .iaload) (cd := 8) rfl rfl (Or.inl ⟨rfl, rfl⟩) (fun v4 => ?_)
        refine ct_zgoto C (pc := 44) (aux := 0) (off := 5) (k' := 29) rfl rfl ?_
        exact ct_zret C (pc := 49) (aux := 0) (ins := .ireturn) (ρ := (fun r : Int × ct_H => (some (.inl (r.1) : ct_PV), r.2))) (some (.inl v4)) rfl rfl rfl ⟨rfl, Or.inl rfl⟩
    · refine ct_zrun C (k' := 12) (y := ([(4, .inl (r1.1)), (0, .inr (.inr (7, o))), (1, .inl a1), (2, .inl a2), (3, .inl a3)], [.inl (-1)], r1.2)) 1 rfl rfl rfl ?_
      exact ct_zret C (pc := 21) (aux := 0) (ins := .ireturn) (ρ := (fun r : Int × ct_H => (some (.inl (r.1) : ct_PV), r.2))) (some (.inl (-1))) rfl rfl rfl ⟨rfl, Or.inl rfl⟩
  · refine ct_zrun C (k' := 8) (y := ([(4, .inl (r1.1)), (0, .inr (.inr (7, o))), (1, .inl a1), (2, .inl a2), (3, .inl a3)], [.inl (r1.1)], r1.2)) 1 rfl rfl rfl ?_
    exact ct_zret C (pc := 15) (aux := 0) (ins := .ireturn) (ρ := (fun r : Int × ct_H => (some (.inl (r.1) : ct_PV), r.2))) (some (.inl (r1.1))) rfl rfl rfl ⟨rfl, Or.inl rfl⟩
def f_X7_holds (G : ct_G) (h : ct_H) (o : Nat) (a1 : Int) (a2 : Int) (a3 : Int) : Option (Int × ct_H) := (f_X7_asked G h o a1 a2).bind fun r1 => if r1.1 = 0 then ((f_X7_isPoint G r1.2 o a3).bind fun v2 => if v2 = 0 then (some ((-1), r1.2)) else (f_X7_placeOf G r1.2 o a3).bind fun v3 => (f_X7_isHeld G r1.2 o a2 v3).bind fun v4 => if v4 = 0 then (some (0, r1.2)) else some (1, r1.2)) else some (r1.1, r1.2)
set_option maxRecDepth 100000 in
theorem e_X7_holds {d : Nat} {G : ct_G} {h : ct_H} (o : Nat) (a1 : Int) (a2 : Int) (a3 : Int) : ct_E m_X7_holds (d + 7) G (ct_args 0 [.inr (.inr (7, o)), .inl a1, .inl a2, .inl a3]) h (fun r : Int × ct_H => (some (.inl (r.1) : ct_PV), r.2)) (f_X7_holds G h o a1 a2 a3) := by
  intro x C
  unfold f_X7_holds
  show ct_Z x m_X7_holds G 0 [(0, .inr (.inr (7, o))), (1, .inl a1), (2, .inl a2), (3, .inl a3)] [] h (fun a => ct_q x G ((fun r : Int × ct_H => (some (.inl (r.1) : ct_PV), r.2)) a)) _
  refine ct_zrun C (k' := 3) (y := ([(0, .inr (.inr (7, o))), (1, .inl a1), (2, .inl a2), (3, .inl a3)], [.inl a2, .inl a1, .inr (.inr (7, o))], h)) 3 rfl rfl rfl ?_
  refine ct_zV C (pc := 3) (aux := 0) [.inl a1, .inl a2] [] ok_X7_asked lk_X7_344 (e_X7_asked o a1 a2) rfl rfl rfl rfl rfl rfl rfl rfl (fun r1 => ?_)
  refine ct_zrun C (k' := 6) (y := ([(4, .inl (r1.1)), (0, .inr (.inr (7, o))), (1, .inl a1), (2, .inl a2), (3, .inl a3)], [.inl (r1.1)], r1.2)) 2 rfl rfl rfl ?_
  refine ct_zt0 C (pc := 10) (aux := 0) (cn := .eq) (off := 6) (k' := 9) (a := r1.1) Iff.rfl rfl rfl rfl (fun e7 => ?_) (fun e7 => ?_)
  · refine ct_zrun C (k' := 11) (y := ([(4, .inl (r1.1)), (0, .inr (.inr (7, o))), (1, .inl a1), (2, .inl a2), (3, .inl a3)], [.inl a3, .inr (.inr (7, o))], r1.2)) 2 rfl rfl rfl ?_
    refine ct_zV C (pc := 18) (aux := 0) [.inl a3] [] ok_X7_isPoint lk_X7_108 (e_X7_isPoint o a3) rfl rfl rfl rfl rfl rfl rfl rfl (fun v2 => ?_)
    refine ct_zf0 C (pc := 21) (aux := 0) (cn := .ne) (off := 5) (k' := 15) (a := v2) Iff.rfl rfl rfl rfl (fun e6 => ?_) (fun e6 => ?_)
    · refine ct_zrun C (k' := 14) (y := ([(4, .inl (r1.1)), (0, .inr (.inr (7, o))), (1, .inl a1), (2, .inl a2), (3, .inl a3)], [.inl (-1)], r1.2)) 1 rfl rfl rfl ?_
      exact ct_zret C (pc := 25) (aux := 0) (ins := .ireturn) (ρ := (fun r : Int × ct_H => (some (.inl (r.1) : ct_PV), r.2))) (some (.inl (-1))) rfl rfl rfl ⟨rfl, Or.inl rfl⟩
    · refine ct_zrun C (k' := 19) (y := ([(4, .inl (r1.1)), (0, .inr (.inr (7, o))), (1, .inl a1), (2, .inl a2), (3, .inl a3)], [.inl a3, .inr (.inr (7, o)), .inl a2, .inr (.inr (7, o))], r1.2)) 4 rfl rfl rfl ?_
      refine ct_zV C (pc := 30) (aux := 0) [.inl a3] [.inl a2, .inr (.inr (7, o))] ok_X7_placeOf lk_X7_269 (e_X7_placeOf o a3) rfl rfl rfl rfl rfl rfl rfl rfl (fun v3 => ?_)
      refine ct_zV C (pc := 33) (aux := 0) [.inl a2, .inl v3] [] ok_X7_isHeld lk_X7_254 (e_X7_isHeld o a2 v3) rfl rfl rfl rfl rfl rfl rfl rfl (fun v4 => ?_)
      refine ct_zt0 C (pc := 36) (aux := 0) (cn := .eq) (off := 7) (k' := 24) (a := v4) Iff.rfl rfl rfl rfl (fun e5 => ?_) (fun e5 => ?_)
      · refine ct_zrun C (k' := 25) (y := ([(4, .inl (r1.1)), (0, .inr (.inr (7, o))), (1, .inl a1), (2, .inl a2), (3, .inl a3)], [.inl 0], r1.2)) 1 rfl rfl rfl ?_
        exact ct_zret C (pc := 44) (aux := 0) (ins := .ireturn) (ρ := (fun r : Int × ct_H => (some (.inl (r.1) : ct_PV), r.2))) (some (.inl 0)) rfl rfl rfl ⟨rfl, Or.inl rfl⟩
      · refine ct_zrun C (k' := 23) (y := ([(4, .inl (r1.1)), (0, .inr (.inr (7, o))), (1, .inl a1), (2, .inl a2), (3, .inl a3)], [.inl 1], r1.2)) 1 rfl rfl rfl ?_
        refine ct_zgoto C (pc := 40) (aux := 0) (off := 4) (k' := 25) rfl rfl ?_
        exact ct_zret C (pc := 44) (aux := 0) (ins := .ireturn) (ρ := (fun r : Int × ct_H => (some (.inl (r.1) : ct_PV), r.2))) (some (.inl 1)) rfl rfl rfl ⟨rfl, Or.inl rfl⟩
  · refine ct_zrun C (k' := 8) (y := ([(4, .inl (r1.1)), (0, .inr (.inr (7, o))), (1, .inl a1), (2, .inl a2), (3, .inl a3)], [.inl (r1.1)], r1.2)) 1 rfl rfl rfl ?_
    exact ct_zret C (pc := 15) (aux := 0) (ins := .ireturn) (ρ := (fun r : Int × ct_H => (some (.inl (r.1) : ct_PV), r.2))) (some (.inl (r1.1))) rfl rfl rfl ⟨rfl, Or.inl rfl⟩
def f_X7_ways (G : ct_G) (h : ct_H) (o : Nat) (a1 : Int) (a2 : Int) (a3 : Int) : Option (Int × ct_H) := (f_X7_asked G h o a1 a2).bind fun r1 => if r1.1 = 0 then (if 0 ≤ a3 then ((f_X7_lengthOf G r1.2 o a2).bind fun v2 => if v2 ≤ a3 then (some ((-5), r1.2)) else (ct_rd G r1.2 (G.1 o 13) a2).bind fun v3 => (ct_rd G r1.2 (G.1 o 12) (ct_wr (v3 + a3))).bind fun v4 => (f_X7_signOf G r1.2 o a1 v4).bind fun v5 => some (v5, r1.2)) else some ((-1), r1.2)) else some (r1.1, r1.2)
set_option maxRecDepth 100000 in
theorem e_X7_ways {d : Nat} {G : ct_G} {h : ct_H} (o : Nat) (a1 : Int) (a2 : Int) (a3 : Int) : ct_E m_X7_ways (d + 7) G (ct_args 0 [.inr (.inr (7, o)), .inl a1, .inl a2, .inl a3]) h (fun r : Int × ct_H => (some (.inl (r.1) : ct_PV), r.2)) (f_X7_ways G h o a1 a2 a3) := by
  intro x C
  unfold f_X7_ways
  show ct_Z x m_X7_ways G 0 [(0, .inr (.inr (7, o))), (1, .inl a1), (2, .inl a2), (3, .inl a3)] [] h (fun a => ct_q x G ((fun r : Int × ct_H => (some (.inl (r.1) : ct_PV), r.2)) a)) _
  refine ct_zrun C (k' := 3) (y := ([(0, .inr (.inr (7, o))), (1, .inl a1), (2, .inl a2), (3, .inl a3)], [.inl a2, .inl a1, .inr (.inr (7, o))], h)) 3 rfl rfl rfl ?_
  refine ct_zV C (pc := 3) (aux := 0) [.inl a1, .inl a2] [] ok_X7_asked lk_X7_344 (e_X7_asked o a1 a2) rfl rfl rfl rfl rfl rfl rfl rfl (fun r1 => ?_)
  refine ct_zrun C (k' := 6) (y := ([(4, .inl (r1.1)), (0, .inr (.inr (7, o))), (1, .inl a1), (2, .inl a2), (3, .inl a3)], [.inl (r1.1)], r1.2)) 2 rfl rfl rfl ?_
  refine ct_zt0 C (pc := 10) (aux := 0) (cn := .eq) (off := 6) (k' := 9) (a := r1.1) Iff.rfl rfl rfl rfl (fun e8 => ?_) (fun e8 => ?_)
  · refine ct_zrun C (k' := 10) (y := ([(4, .inl (r1.1)), (0, .inr (.inr (7, o))), (1, .inl a1), (2, .inl a2), (3, .inl a3)], [.inl a3], r1.2)) 1 rfl rfl rfl ?_
    refine ct_zt0 C (pc := 17) (aux := 0) (cn := .ge) (off := 5) (k' := 13) (a := a3) Iff.rfl rfl rfl rfl (fun e7 => ?_) (fun e7 => ?_)
    · refine ct_zrun C (k' := 16) (y := ([(4, .inl (r1.1)), (0, .inr (.inr (7, o))), (1, .inl a1), (2, .inl a2), (3, .inl a3)], [.inl a2, .inr (.inr (7, o)), .inl a3], r1.2)) 3 rfl rfl rfl ?_
      refine ct_zV C (pc := 25) (aux := 0) [.inl a2] [.inl a3] ok_X7_lengthOf lk_X7_347 (e_X7_lengthOf o a2) rfl rfl rfl rfl rfl rfl rfl rfl (fun v2 => ?_)
      refine ct_zt C (pc := 28) (aux := 0) (cn := .ge) (off := 24) (k' := 31) (a := a3) (b := v2) Iff.rfl rfl rfl rfl (fun e6 => ?_) (fun e6 => ?_)
      · refine ct_zrun C (k' := 32) (y := ([(4, .inl (r1.1)), (0, .inr (.inr (7, o))), (1, .inl a1), (2, .inl a2), (3, .inl a3)], [.inl (-5)], r1.2)) 1 rfl rfl rfl ?_
        exact ct_zret C (pc := 54) (aux := 0) (ins := .ireturn) (ρ := (fun r : Int × ct_H => (some (.inl (r.1) : ct_PV), r.2))) (some (.inl (-5))) rfl rfl rfl ⟨rfl, Or.inl rfl⟩
      · refine ct_zrun C (k' := 25) (y := ([(4, .inl (r1.1)), (0, .inr (.inr (7, o))), (1, .inl a1), (2, .inl a2), (3, .inl a3)], [.inl a2, .inr (.inr (8, (G.1 o 13))), .inr (.inr (8, (G.1 o 12))), .inl a1, .inr (.inr (7, o))], r1.2)) 7 rfl rfl rfl ?_
        refine ct_zrd C (pc := 42) (aux := 0) (ins := .iaload) (cd := 8) rfl rfl (Or.inl ⟨rfl, rfl⟩) (fun v3 => ?_)
        refine ct_zrun C (k' := 28) (y := ([(4, .inl (r1.1)), (0, .inr (.inr (7, o))), (1, .inl a1), (2, .inl a2), (3, .inl a3)], [.inl (ct_wr (v3 + a3)), .inr (.inr (8, (G.1 o 12))), .inl a1, .inr (.inr (7, o))], r1.2)) 2 rfl rfl rfl ?_
        refine ct_zrd C (pc := 45) (aux := 0) (ins := .iaload) (cd := 8) rfl rfl (Or.inl ⟨rfl, rfl⟩) (fun v4 => ?_)
        refine ct_zV C (pc := 46) (aux := 0) [.inl a1, .inl v4] [] ok_X7_signOf lk_X7_359 (e_X7_signOf o a1 v4) rfl rfl rfl rfl rfl rfl rfl rfl (fun v5 => ?_)
        refine ct_zgoto C (pc := 49) (aux := 0) (off := 5) (k' := 32) rfl rfl ?_
        exact ct_zret C (pc := 54) (aux := 0) (ins := .ireturn) (ρ := (fun r : Int × ct_H => (some (.inl (r.1) : ct_PV), r.2))) (some (.inl v5)) rfl rfl rfl ⟨rfl, Or.inl rfl⟩
    · refine ct_zrun C (k' := 12) (y := ([(4, .inl (r1.1)), (0, .inr (.inr (7, o))), (1, .inl a1), (2, .inl a2), (3, .inl a3)], [.inl (-1)], r1.2)) 1 rfl rfl rfl ?_
      exact ct_zret C (pc := 21) (aux := 0) (ins := .ireturn) (ρ := (fun r : Int × ct_H => (some (.inl (r.1) : ct_PV), r.2))) (some (.inl (-1))) rfl rfl rfl ⟨rfl, Or.inl rfl⟩
  · refine ct_zrun C (k' := 8) (y := ([(4, .inl (r1.1)), (0, .inr (.inr (7, o))), (1, .inl a1), (2, .inl a2), (3, .inl a3)], [.inl (r1.1)], r1.2)) 1 rfl rfl rfl ?_
    exact ct_zret C (pc := 15) (aux := 0) (ins := .ireturn) (ρ := (fun r : Int × ct_H => (some (.inl (r.1) : ct_PV), r.2))) (some (.inl (r1.1))) rfl rfl rfl ⟨rfl, Or.inl rfl⟩
def f_X7_picture (G : ct_G) (h : ct_H) (o : Nat) (a1 : Int) (a2 : Int) : Option (Int) := (f_X7_isLevel G h a1).bind fun v1 => if v1 = 0 then (some (-2)) else if 0 ≤ a2 then (if a2 < (ct_wr ((ct_wr ((ct_wr ((h.1 o 0) * (h.1 o 1))) + (h.1 o 0))) - 1)) then ((ct_dv a2 (ct_wr ((h.1 o 1) + 1))).bind fun v2 => (ct_md a2 (ct_wr ((h.1 o 1) + 1))).bind fun v3 => if v3 = (h.1 o 1) then (some 47) else (ct_rd G h (G.1 o 3) (ct_wr ((ct_wr (v2 * (h.1 o 1))) + v3))).bind fun v4 => if v4 < a1 then (some 46) else some 35) else some (-5)) else some (-1)
set_option maxRecDepth 100000 in
theorem e_X7_picture {d : Nat} {G : ct_G} {h : ct_H} (o : Nat) (a1 : Int) (a2 : Int) : ct_E m_X7_picture (d + 2) G (ct_args 0 [.inr (.inr (7, o)), .inl a1, .inl a2]) h (fun r : Int => (some (.inl r : ct_PV), h)) (f_X7_picture G h o a1 a2) := by
  intro x C
  unfold f_X7_picture
  show ct_Z x m_X7_picture G 0 [(0, .inr (.inr (7, o))), (1, .inl a1), (2, .inl a2)] [] h (fun a => ct_q x G ((fun r : Int => (some (.inl r : ct_PV), h)) a)) _
  refine ct_zrun C (k' := 1) (y := ([(0, .inr (.inr (7, o))), (1, .inl a1), (2, .inl a2)], [.inl a1], h)) 1 rfl rfl rfl ?_
  refine ct_zS C (pc := 1) (aux := 0) [.inl a1] [] ok_X7_isLevel lk_X7_325 (e_X7_isLevel a1) rfl rfl rfl rfl rfl rfl (fun v1 => ?_)
  refine ct_zf0 C (pc := 4) (aux := 0) (cn := .ne) (off := 6) (k' := 5) (a := v1) Iff.rfl rfl rfl rfl (fun e9 => ?_) (fun e9 => ?_)
  · refine ct_zrun C (k' := 4) (y := ([(0, .inr (.inr (7, o))), (1, .inl a1), (2, .inl a2)], [.inl (-2)], h)) 1 rfl rfl rfl ?_
    exact ct_zret C (pc := 9) (aux := 0) (ins := .ireturn) (ρ := (fun r : Int => (some (.inl r : ct_PV), h))) (some (.inl (-2))) rfl rfl rfl ⟨rfl, Or.inl rfl⟩
  · refine ct_zrun C (k' := 6) (y := ([(0, .inr (.inr (7, o))), (1, .inl a1), (2, .inl a2)], [.inl a2], h)) 1 rfl rfl rfl ?_
    refine ct_zt0 C (pc := 11) (aux := 0) (cn := .ge) (off := 5) (k' := 9) (a := a2) Iff.rfl rfl rfl rfl (fun e8 => ?_) (fun e8 => ?_)
    · refine ct_zrun C (k' := 20) (y := ([(0, .inr (.inr (7, o))), (1, .inl a1), (2, .inl a2)], [.inl (ct_wr ((ct_wr ((ct_wr ((h.1 o 0) * (h.1 o 1))) + (h.1 o 0))) - 1)), .inl a2], h)) 11 rfl rfl rfl ?_
      refine ct_zt C (pc := 33) (aux := 0) (cn := .lt) (off := 6) (k' := 23) (a := a2) (b := (ct_wr ((ct_wr ((ct_wr ((h.1 o 0) * (h.1 o 1))) + (h.1 o 0))) - 1))) Iff.rfl rfl rfl rfl (fun e7 => ?_) (fun e7 => ?_)
      · refine ct_zrun C (k' := 28) (y := ([(0, .inr (.inr (7, o))), (1, .inl a1), (2, .inl a2)], [.inl (ct_wr ((h.1 o 1) + 1)), .inl a2], h)) 5 rfl rfl rfl ?_
        refine ct_zdv C (pc := 46) (aux := 0) rfl rfl (fun v2 => ?_)
        refine ct_zrun C (k' := 35) (y := ([(3, .inl v2), (0, .inr (.inr (7, o))), (1, .inl a1), (2, .inl a2)], [.inl (ct_wr ((h.1 o 1) + 1)), .inl a2], h)) 6 rfl rfl rfl ?_
        refine ct_zmd C (pc := 55) (aux := 0) rfl rfl (fun v3 => ?_)
        refine ct_zrun C (k' := 40) (y := ([(4, .inl v3), (3, .inl v2), (0, .inr (.inr (7, o))), (1, .inl a1), (2, .inl a2)], [.inl (h.1 o 1), .inl v3], h)) 4 rfl rfl rfl ?_
        refine ct_zf C (pc := 64) (aux := 0) (cn := .ne) (off := 6) (k' := 43) (a := v3) (b := (h.1 o 1)) Iff.rfl rfl rfl rfl (fun e6 => ?_) (fun e6 => ?_)
        · refine ct_zrun C (k' := 42) (y := ([(4, .inl v3), (3, .inl v2), (0, .inr (.inr (7, o))), (1, .inl a1), (2, .inl a2)], [.inl 47], h)) 1 rfl rfl rfl ?_
          exact ct_zret C (pc := 69) (aux := 0) (ins := .ireturn) (ρ := (fun r : Int => (some (.inl r : ct_PV), h))) (some (.inl 47)) rfl rfl rfl ⟨rfl, Or.inl rfl⟩
        · refine ct_zrun C (k' := 51) (y := ([(4, .inl v3), (3, .inl v2), (0, .inr (.inr (7, o))), (1, .inl a1), (2, .inl a2)], [.inl (ct_wr ((ct_wr (v2 * (h.1 o 1))) + v3)), .inr (.inr (8, (G.1 o 3)))], h)) 8 rfl rfl rfl ?_
          refine ct_zrd C (pc := 83) (aux := 0) (ins := .iaload) (cd := 8) rfl rfl (Or.inl ⟨rfl, rfl⟩) (fun v4 => ?_)
          refine ct_zrun C (k' := 53) (y := ([(4, .inl v3), (3, .inl v2), (0, .inr (.inr (7, o))), (1, .inl a1), (2, .inl a2)], [.inl a1, .inl v4], h)) 1 rfl rfl rfl ?_
          refine ct_zt C (pc := 85) (aux := 0) (cn := .lt) (off := 8) (k' := 56) (a := v4) (b := a1) Iff.rfl rfl rfl rfl (fun e5 => ?_) (fun e5 => ?_)
          · refine ct_zrun C (k' := 57) (y := ([(4, .inl v3), (3, .inl v2), (0, .inr (.inr (7, o))), (1, .inl a1), (2, .inl a2)], [.inl 46], h)) 1 rfl rfl rfl ?_
            exact ct_zret C (pc := 95) (aux := 0) (ins := .ireturn) (ρ := (fun r : Int => (some (.inl r : ct_PV), h))) (some (.inl 46)) rfl rfl rfl ⟨rfl, Or.inl rfl⟩
          · refine ct_zrun C (k' := 55) (y := ([(4, .inl v3), (3, .inl v2), (0, .inr (.inr (7, o))), (1, .inl a1), (2, .inl a2)], [.inl 35], h)) 1 rfl rfl rfl ?_
            refine ct_zgoto C (pc := 90) (aux := 0) (off := 5) (k' := 57) rfl rfl ?_
            exact ct_zret C (pc := 95) (aux := 0) (ins := .ireturn) (ρ := (fun r : Int => (some (.inl r : ct_PV), h))) (some (.inl 35)) rfl rfl rfl ⟨rfl, Or.inl rfl⟩
      · refine ct_zrun C (k' := 22) (y := ([(0, .inr (.inr (7, o))), (1, .inl a1), (2, .inl a2)], [.inl (-5)], h)) 1 rfl rfl rfl ?_
        exact ct_zret C (pc := 38) (aux := 0) (ins := .ireturn) (ρ := (fun r : Int => (some (.inl r : ct_PV), h))) (some (.inl (-5))) rfl rfl rfl ⟨rfl, Or.inl rfl⟩
    · refine ct_zrun C (k' := 8) (y := ([(0, .inr (.inr (7, o))), (1, .inl a1), (2, .inl a2)], [.inl (-1)], h)) 1 rfl rfl rfl ?_
      exact ct_zret C (pc := 15) (aux := 0) (ins := .ireturn) (ρ := (fun r : Int => (some (.inl r : ct_PV), h))) (some (.inl (-1))) rfl rfl rfl ⟨rfl, Or.inl rfl⟩
def f_X7_land (G : ct_G) (h : ct_H) (o : Nat) (a1 : Int) (a2 : Int) : Option (Int × ct_H) := (f_X7_isLevel G h a1).bind fun v1 => if v1 = 0 then (some ((-2), h)) else (f_X7_isPoint G h o a2).bind fun v2 => if v2 = 0 then (some ((-1), h)) else (f_X7_layLands G h o a1).bind fun r3 => (ct_rd G r3 (G.1 o 16) a2).bind fun v4 => some (v4, r3)
set_option maxRecDepth 100000 in
theorem e_X7_land {d : Nat} {G : ct_G} {h : ct_H} (o : Nat) (a1 : Int) (a2 : Int) : ct_E m_X7_land (d + 6) G (ct_args 0 [.inr (.inr (7, o)), .inl a1, .inl a2]) h (fun r : Int × ct_H => (some (.inl (r.1) : ct_PV), r.2)) (f_X7_land G h o a1 a2) := by
  intro x C
  unfold f_X7_land
  show ct_Z x m_X7_land G 0 [(0, .inr (.inr (7, o))), (1, .inl a1), (2, .inl a2)] [] h (fun a => ct_q x G ((fun r : Int × ct_H => (some (.inl (r.1) : ct_PV), r.2)) a)) _
  refine ct_zrun C (k' := 1) (y := ([(0, .inr (.inr (7, o))), (1, .inl a1), (2, .inl a2)], [.inl a1], h)) 1 rfl rfl rfl ?_
  refine ct_zS C (pc := 1) (aux := 0) [.inl a1] [] ok_X7_isLevel lk_X7_325 (e_X7_isLevel a1) rfl rfl rfl rfl rfl rfl (fun v1 => ?_)
  refine ct_zf0 C (pc := 4) (aux := 0) (cn := .ne) (off := 6) (k' := 5) (a := v1) Iff.rfl rfl rfl rfl (fun e6 => ?_) (fun e6 => ?_)
  · refine ct_zrun C (k' := 4) (y := ([(0, .inr (.inr (7, o))), (1, .inl a1), (2, .inl a2)], [.inl (-2)], h)) 1 rfl rfl rfl ?_
    exact ct_zret C (pc := 9) (aux := 0) (ins := .ireturn) (ρ := (fun r : Int × ct_H => (some (.inl (r.1) : ct_PV), r.2))) (some (.inl (-2))) rfl rfl rfl ⟨rfl, Or.inl rfl⟩
  · refine ct_zrun C (k' := 7) (y := ([(0, .inr (.inr (7, o))), (1, .inl a1), (2, .inl a2)], [.inl a2, .inr (.inr (7, o))], h)) 2 rfl rfl rfl ?_
    refine ct_zV C (pc := 12) (aux := 0) [.inl a2] [] ok_X7_isPoint lk_X7_108 (e_X7_isPoint o a2) rfl rfl rfl rfl rfl rfl rfl rfl (fun v2 => ?_)
    refine ct_zf0 C (pc := 15) (aux := 0) (cn := .ne) (off := 5) (k' := 11) (a := v2) Iff.rfl rfl rfl rfl (fun e5 => ?_) (fun e5 => ?_)
    · refine ct_zrun C (k' := 10) (y := ([(0, .inr (.inr (7, o))), (1, .inl a1), (2, .inl a2)], [.inl (-1)], h)) 1 rfl rfl rfl ?_
      exact ct_zret C (pc := 19) (aux := 0) (ins := .ireturn) (ρ := (fun r : Int × ct_H => (some (.inl (r.1) : ct_PV), r.2))) (some (.inl (-1))) rfl rfl rfl ⟨rfl, Or.inl rfl⟩
    · refine ct_zrun C (k' := 13) (y := ([(0, .inr (.inr (7, o))), (1, .inl a1), (2, .inl a2)], [.inl a1, .inr (.inr (7, o))], h)) 2 rfl rfl rfl ?_
      refine ct_zV C (pc := 22) (aux := 0) [.inl a1] [] ok_X7_layLands lk_X7_328 (e_X7_layLands o a1) rfl rfl rfl rfl rfl rfl rfl rfl (fun r3 => ?_)
      refine ct_zrun C (k' := 17) (y := ([(0, .inr (.inr (7, o))), (1, .inl a1), (2, .inl a2)], [.inl a2, .inr (.inr (8, (G.1 o 16)))], r3)) 3 rfl rfl rfl ?_
      refine ct_zrd C (pc := 30) (aux := 0) (ins := .iaload) (cd := 8) rfl rfl (Or.inl ⟨rfl, rfl⟩) (fun v4 => ?_)
      exact ct_zret C (pc := 31) (aux := 0) (ins := .ireturn) (ρ := (fun r : Int × ct_H => (some (.inl (r.1) : ct_PV), r.2))) (some (.inl v4)) rfl rfl rfl ⟨rfl, Or.inl rfl⟩
def f_X7_landOf (G : ct_G) (h : ct_H) (o : Nat) (a1 : Int) (a2 : Int) (a3 : Int) : Option (Int × ct_H) := (f_X7_isLevel G h a1).bind fun v1 => if v1 = 0 then (some ((-2), h)) else (f_X7_layLands G h o a1).bind fun r2 => (f_X7_in G r2 a2 0 (ct_wr ((r2.1 o 18) - 1))).bind fun v3 => if v3 = 0 then (some ((-1), r2)) else (f_X7_in G r2 a3 0 3).bind fun v4 => if v4 = 0 then (some ((-1), r2)) else (f_X7_layLines G r2 o a1).bind fun r5 => if a3 = 0 then ((f_X7_leastOf G r5 o a2).bind fun v11 => some (v11, r5)) else if a3 = 1 then ((f_X7_sizeOf G r5 o a2).bind fun v9 => some (v9, r5)) else if a3 = 2 then ((f_X7_topOf G r5 o a2).bind fun v7 => some (v7, r5)) else (f_X7_holesOf G r5 o a2).bind fun v6 => some (v6, r5)
set_option maxRecDepth 100000 in
theorem e_X7_landOf {d : Nat} {G : ct_G} {h : ct_H} (o : Nat) (a1 : Int) (a2 : Int) (a3 : Int) : ct_E m_X7_landOf (d + 7) G (ct_args 0 [.inr (.inr (7, o)), .inl a1, .inl a2, .inl a3]) h (fun r : Int × ct_H => (some (.inl (r.1) : ct_PV), r.2)) (f_X7_landOf G h o a1 a2 a3) := by
  intro x C
  unfold f_X7_landOf
  show ct_Z x m_X7_landOf G 0 [(0, .inr (.inr (7, o))), (1, .inl a1), (2, .inl a2), (3, .inl a3)] [] h (fun a => ct_q x G ((fun r : Int × ct_H => (some (.inl (r.1) : ct_PV), r.2)) a)) _
  refine ct_zrun C (k' := 1) (y := ([(0, .inr (.inr (7, o))), (1, .inl a1), (2, .inl a2), (3, .inl a3)], [.inl a1], h)) 1 rfl rfl rfl ?_
  refine ct_zS C (pc := 1) (aux := 0) [.inl a1] [] ok_X7_isLevel lk_X7_325 (e_X7_isLevel a1) rfl rfl rfl rfl rfl rfl (fun v1 => ?_)
  refine ct_zf0 C (pc := 4) (aux := 0) (cn := .ne) (off := 6) (k' := 5) (a := v1) Iff.rfl rfl rfl rfl (fun e15 => ?_) (fun e15 => ?_)
  · refine ct_zrun C (k' := 4) (y := ([(0, .inr (.inr (7, o))), (1, .inl a1), (2, .inl a2), (3, .inl a3)], [.inl (-2)], h)) 1 rfl rfl rfl ?_
    exact ct_zret C (pc := 9) (aux := 0) (ins := .ireturn) (ρ := (fun r : Int × ct_H => (some (.inl (r.1) : ct_PV), r.2))) (some (.inl (-2))) rfl rfl rfl ⟨rfl, Or.inl rfl⟩
  · refine ct_zrun C (k' := 7) (y := ([(0, .inr (.inr (7, o))), (1, .inl a1), (2, .inl a2), (3, .inl a3)], [.inl a1, .inr (.inr (7, o))], h)) 2 rfl rfl rfl ?_
    refine ct_zV C (pc := 12) (aux := 0) [.inl a1] [] ok_X7_layLands lk_X7_328 (e_X7_layLands o a1) rfl rfl rfl rfl rfl rfl rfl rfl (fun r2 => ?_)
    refine ct_zrun C (k' := 14) (y := ([(0, .inr (.inr (7, o))), (1, .inl a1), (2, .inl a2), (3, .inl a3)], [.inl (ct_wr ((r2.1 o 18) - 1)), .inl 0, .inl a2], r2)) 6 rfl rfl rfl ?_
    refine ct_zS C (pc := 23) (aux := 0) [.inl a2, .inl 0, .inl (ct_wr ((r2.1 o 18) - 1))] [] ok_X7_in lk_X7_100 (e_X7_in a2 0 (ct_wr ((r2.1 o 18) - 1))) rfl rfl rfl rfl rfl rfl (fun v3 => ?_)
    refine ct_zt0 C (pc := 26) (aux := 0) (cn := .eq) (off := 12) (k' := 21) (a := v3) Iff.rfl rfl rfl rfl (fun e14 => ?_) (fun e14 => ?_)
    · refine ct_zrun C (k' := 22) (y := ([(0, .inr (.inr (7, o))), (1, .inl a1), (2, .inl a2), (3, .inl a3)], [.inl (-1)], r2)) 1 rfl rfl rfl ?_
      exact ct_zret C (pc := 39) (aux := 0) (ins := .ireturn) (ρ := (fun r : Int × ct_H => (some (.inl (r.1) : ct_PV), r.2))) (some (.inl (-1))) rfl rfl rfl ⟨rfl, Or.inl rfl⟩
    · refine ct_zrun C (k' := 19) (y := ([(0, .inr (.inr (7, o))), (1, .inl a1), (2, .inl a2), (3, .inl a3)], [.inl 3, .inl 0, .inl a3], r2)) 3 rfl rfl rfl ?_
      refine ct_zS C (pc := 32) (aux := 0) [.inl a3, .inl 0, .inl 3] [] ok_X7_in lk_X7_100 (e_X7_in a3 0 3) rfl rfl rfl rfl rfl rfl (fun v4 => ?_)
      refine ct_zf0 C (pc := 35) (aux := 0) (cn := .ne) (off := 5) (k' := 23) (a := v4) Iff.rfl rfl rfl rfl (fun e13 => ?_) (fun e13 => ?_)
      · refine ct_zrun C (k' := 22) (y := ([(0, .inr (.inr (7, o))), (1, .inl a1), (2, .inl a2), (3, .inl a3)], [.inl (-1)], r2)) 1 rfl rfl rfl ?_
        exact ct_zret C (pc := 39) (aux := 0) (ins := .ireturn) (ρ := (fun r : Int × ct_H => (some (.inl (r.1) : ct_PV), r.2))) (some (.inl (-1))) rfl rfl rfl ⟨rfl, Or.inl rfl⟩
      · refine ct_zrun C (k' := 25) (y := ([(0, .inr (.inr (7, o))), (1, .inl a1), (2, .inl a2), (3, .inl a3)], [.inl a1, .inr (.inr (7, o))], r2)) 2 rfl rfl rfl ?_
        refine ct_zV C (pc := 42) (aux := 0) [.inl a1] [] ok_X7_layLines lk_X7_306 (e_X7_layLines o a1) rfl rfl rfl rfl rfl rfl rfl rfl (fun r5 => ?_)
        refine ct_zrun C (k' := 27) (y := ([(0, .inr (.inr (7, o))), (1, .inl a1), (2, .inl a2), (3, .inl a3)], [.inl a3], r5)) 1 rfl rfl rfl ?_
        refine ct_zf0 C (pc := 46) (aux := 0) (cn := .ne) (off := 11) (k' := 32) (a := a3) Iff.rfl rfl rfl rfl (fun e12 => ?_) (fun e12 => ?_)
        · refine ct_zrun C (k' := 30) (y := ([(0, .inr (.inr (7, o))), (1, .inl a1), (2, .inl a2), (3, .inl a3)], [.inl a2, .inr (.inr (7, o))], r5)) 2 rfl rfl rfl ?_
          refine ct_zV C (pc := 51) (aux := 0) [.inl a2] [] ok_X7_leastOf lk_X7_362 (e_X7_leastOf o a2) rfl rfl rfl rfl rfl rfl rfl rfl (fun v11 => ?_)
          refine ct_zgoto C (pc := 54) (aux := 0) (off := 34) (k' := 49) rfl rfl ?_
          exact ct_zret C (pc := 88) (aux := 0) (ins := .ireturn) (ρ := (fun r : Int × ct_H => (some (.inl (r.1) : ct_PV), r.2))) (some (.inl v11)) rfl rfl rfl ⟨rfl, Or.inl rfl⟩
        · refine ct_zrun C (k' := 34) (y := ([(0, .inr (.inr (7, o))), (1, .inl a1), (2, .inl a2), (3, .inl a3)], [.inl 1, .inl a3], r5)) 2 rfl rfl rfl ?_
          refine ct_zf C (pc := 59) (aux := 0) (cn := .ne) (off := 11) (k' := 39) (a := a3) (b := 1) Iff.rfl rfl rfl rfl (fun e10 => ?_) (fun e10 => ?_)
          · refine ct_zrun C (k' := 37) (y := ([(0, .inr (.inr (7, o))), (1, .inl a1), (2, .inl a2), (3, .inl a3)], [.inl a2, .inr (.inr (7, o))], r5)) 2 rfl rfl rfl ?_
            refine ct_zV C (pc := 64) (aux := 0) [.inl a2] [] ok_X7_sizeOf lk_X7_365 (e_X7_sizeOf o a2) rfl rfl rfl rfl rfl rfl rfl rfl (fun v9 => ?_)
            refine ct_zgoto C (pc := 67) (aux := 0) (off := 21) (k' := 49) rfl rfl ?_
            exact ct_zret C (pc := 88) (aux := 0) (ins := .ireturn) (ρ := (fun r : Int × ct_H => (some (.inl (r.1) : ct_PV), r.2))) (some (.inl v9)) rfl rfl rfl ⟨rfl, Or.inl rfl⟩
          · refine ct_zrun C (k' := 41) (y := ([(0, .inr (.inr (7, o))), (1, .inl a1), (2, .inl a2), (3, .inl a3)], [.inl 2, .inl a3], r5)) 2 rfl rfl rfl ?_
            refine ct_zf C (pc := 72) (aux := 0) (cn := .ne) (off := 11) (k' := 46) (a := a3) (b := 2) Iff.rfl rfl rfl rfl (fun e8 => ?_) (fun e8 => ?_)
            · refine ct_zrun C (k' := 44) (y := ([(0, .inr (.inr (7, o))), (1, .inl a1), (2, .inl a2), (3, .inl a3)], [.inl a2, .inr (.inr (7, o))], r5)) 2 rfl rfl rfl ?_
              refine ct_zV C (pc := 77) (aux := 0) [.inl a2] [] ok_X7_topOf lk_X7_368 (e_X7_topOf o a2) rfl rfl rfl rfl rfl rfl rfl rfl (fun v7 => ?_)
              refine ct_zgoto C (pc := 80) (aux := 0) (off := 8) (k' := 49) rfl rfl ?_
              exact ct_zret C (pc := 88) (aux := 0) (ins := .ireturn) (ρ := (fun r : Int × ct_H => (some (.inl (r.1) : ct_PV), r.2))) (some (.inl v7)) rfl rfl rfl ⟨rfl, Or.inl rfl⟩
            · refine ct_zrun C (k' := 48) (y := ([(0, .inr (.inr (7, o))), (1, .inl a1), (2, .inl a2), (3, .inl a3)], [.inl a2, .inr (.inr (7, o))], r5)) 2 rfl rfl rfl ?_
              refine ct_zV C (pc := 85) (aux := 0) [.inl a2] [] ok_X7_holesOf lk_X7_371 (e_X7_holesOf o a2) rfl rfl rfl rfl rfl rfl rfl rfl (fun v6 => ?_)
              exact ct_zret C (pc := 88) (aux := 0) (ins := .ireturn) (ρ := (fun r : Int × ct_H => (some (.inl (r.1) : ct_PV), r.2))) (some (.inl v6)) rfl rfl rfl ⟨rfl, Or.inl rfl⟩
def l_X7_pass_31 (G : ct_G) (o : Nat) (a1 : Int) (a2 : Int) : Nat → (Int × ct_H) → Option (Int × ct_H)
  | 0, _ => none
  | n7 + 1, b6 => (ct_rd G b6.2 (G.1 o 16) a1).bind fun v8 => (ct_rd G b6.2 (G.1 o 16) a2).bind fun v9 => if v8 = v9 then (some (b6.1, b6.2)) else (f_X7_layLands G b6.2 o (ct_wr (b6.1 + (-1)))).bind fun r10 => l_X7_pass_31 G o a1 a2 n7 ((ct_wr (b6.1 + (-1))), r10)
set_option maxRecDepth 100000 in
theorem zl_X7_pass_31 {x : ct_Ctx} {d : Nat} {G : ct_G} (C : ct_c x m_X7_pass G (d + 6)) (o : Nat) (a1 : Int) (a2 : Int) : ∀ (n7 : Nat) (b6 : Int × ct_H), ct_Z x m_X7_pass G 31 [(0, .inr (.inr (7, o))), (1, .inl a1), (2, .inl a2), (3, .inl (b6.1))] [] b6.2 (fun a => ct_q x G ((fun r : Int × ct_H => (some (.inl (r.1) : ct_PV), r.2)) a)) (l_X7_pass_31 G o a1 a2 n7 b6) := by
  intro n7
  induction n7 with
  | zero => intro b6; exact ct_znone
  | succ n7 ih =>
    intro b6
    rw [l_X7_pass_31]
    refine ct_zrun C (k' := 34) (y := ([(0, .inr (.inr (7, o))), (1, .inl a1), (2, .inl a2), (3, .inl (b6.1))], [.inl a1, .inr (.inr (8, (G.1 o 16)))], b6.2)) 3 rfl rfl rfl ?_
    refine ct_zrd C (pc := 56) (aux := 0) (ins := .iaload) (cd := 8) rfl rfl (Or.inl ⟨rfl, rfl⟩) (fun v8 => ?_)
    refine ct_zrun C (k' := 38) (y := ([(0, .inr (.inr (7, o))), (1, .inl a1), (2, .inl a2), (3, .inl (b6.1))], [.inl a2, .inr (.inr (8, (G.1 o 16))), .inl v8], b6.2)) 3 rfl rfl rfl ?_
    refine ct_zrd C (pc := 62) (aux := 0) (ins := .iaload) (cd := 8) rfl rfl (Or.inl ⟨rfl, rfl⟩) (fun v9 => ?_)
    refine ct_zt C (pc := 63) (aux := 0) (cn := .eq) (off := 14) (k' := 45) (a := v8) (b := v9) Iff.rfl rfl rfl rfl (fun e11 => ?_) (fun e11 => ?_)
    · refine ct_zrun C (k' := 46) (y := ([(0, .inr (.inr (7, o))), (1, .inl a1), (2, .inl a2), (3, .inl (b6.1))], [.inl (b6.1)], b6.2)) 1 rfl rfl rfl ?_
      exact ct_zret C (pc := 78) (aux := 0) (ins := .ireturn) (ρ := (fun r : Int × ct_H => (some (.inl (r.1) : ct_PV), r.2))) (some (.inl (b6.1))) rfl rfl rfl ⟨rfl, Or.inl rfl⟩
    · refine ct_zrun C (k' := 43) (y := ([(3, .inl (ct_wr (b6.1 + (-1)))), (0, .inr (.inr (7, o))), (1, .inl a1), (2, .inl a2)], [.inl (ct_wr (b6.1 + (-1))), .inr (.inr (7, o))], b6.2)) 3 rfl rfl rfl ?_
      refine ct_zV C (pc := 71) (aux := 0) [.inl (ct_wr (b6.1 + (-1)))] [] ok_X7_layLands lk_X7_328 (e_X7_layLands o (ct_wr (b6.1 + (-1)))) rfl rfl rfl rfl rfl rfl rfl rfl (fun r10 => ?_)
      refine ct_zgoto C (pc := 74) (aux := 0) (off := (-23)) (k' := 31) rfl rfl ?_
      exact ct_zsub [1, 2, 3, 0] rfl (ih ((ct_wr (b6.1 + (-1))), r10))
def f_X7_pass (G : ct_G) (h : ct_H) (o : Nat) (a1 : Int) (a2 : Int) : Option (Int × ct_H) := (f_X7_isPoint G h o a1).bind fun v1 => if v1 = 0 then (some ((-1), h)) else (f_X7_isPoint G h o a2).bind fun v2 => if v2 = 0 then (some ((-1), h)) else if a1 = a2 then ((ct_rd G h (G.1 o 3) a1).bind fun v12 => some (v12, h)) else (ct_rd G h (G.1 o 3) a1).bind fun v3 => (ct_rd G h (G.1 o 3) a2).bind fun v4 => (f_X7_layLands G h o (ct_min v3 v4)).bind fun r5 => l_X7_pass_31 G o a1 a2 200 ((ct_min v3 v4), r5)
set_option maxRecDepth 100000 in
theorem e_X7_pass {d : Nat} {G : ct_G} {h : ct_H} (o : Nat) (a1 : Int) (a2 : Int) : ct_E m_X7_pass (d + 6) G (ct_args 0 [.inr (.inr (7, o)), .inl a1, .inl a2]) h (fun r : Int × ct_H => (some (.inl (r.1) : ct_PV), r.2)) (f_X7_pass G h o a1 a2) := by
  intro x C
  unfold f_X7_pass
  show ct_Z x m_X7_pass G 0 [(0, .inr (.inr (7, o))), (1, .inl a1), (2, .inl a2)] [] h (fun a => ct_q x G ((fun r : Int × ct_H => (some (.inl (r.1) : ct_PV), r.2)) a)) _
  refine ct_zrun C (k' := 2) (y := ([(0, .inr (.inr (7, o))), (1, .inl a1), (2, .inl a2)], [.inl a1, .inr (.inr (7, o))], h)) 2 rfl rfl rfl ?_
  refine ct_zV C (pc := 2) (aux := 0) [.inl a1] [] ok_X7_isPoint lk_X7_108 (e_X7_isPoint o a1) rfl rfl rfl rfl rfl rfl rfl rfl (fun v1 => ?_)
  refine ct_zt0 C (pc := 5) (aux := 0) (cn := .eq) (off := 11) (k' := 8) (a := v1) Iff.rfl rfl rfl rfl (fun e15 => ?_) (fun e15 => ?_)
  · refine ct_zrun C (k' := 9) (y := ([(0, .inr (.inr (7, o))), (1, .inl a1), (2, .inl a2)], [.inl (-1)], h)) 1 rfl rfl rfl ?_
    exact ct_zret C (pc := 17) (aux := 0) (ins := .ireturn) (ρ := (fun r : Int × ct_H => (some (.inl (r.1) : ct_PV), r.2))) (some (.inl (-1))) rfl rfl rfl ⟨rfl, Or.inl rfl⟩
  · refine ct_zrun C (k' := 6) (y := ([(0, .inr (.inr (7, o))), (1, .inl a1), (2, .inl a2)], [.inl a2, .inr (.inr (7, o))], h)) 2 rfl rfl rfl ?_
    refine ct_zV C (pc := 10) (aux := 0) [.inl a2] [] ok_X7_isPoint lk_X7_108 (e_X7_isPoint o a2) rfl rfl rfl rfl rfl rfl rfl rfl (fun v2 => ?_)
    refine ct_zf0 C (pc := 13) (aux := 0) (cn := .ne) (off := 5) (k' := 10) (a := v2) Iff.rfl rfl rfl rfl (fun e14 => ?_) (fun e14 => ?_)
    · refine ct_zrun C (k' := 9) (y := ([(0, .inr (.inr (7, o))), (1, .inl a1), (2, .inl a2)], [.inl (-1)], h)) 1 rfl rfl rfl ?_
      exact ct_zret C (pc := 17) (aux := 0) (ins := .ireturn) (ρ := (fun r : Int × ct_H => (some (.inl (r.1) : ct_PV), r.2))) (some (.inl (-1))) rfl rfl rfl ⟨rfl, Or.inl rfl⟩
    · refine ct_zrun C (k' := 12) (y := ([(0, .inr (.inr (7, o))), (1, .inl a1), (2, .inl a2)], [.inl a2, .inl a1], h)) 2 rfl rfl rfl ?_
      refine ct_zf C (pc := 20) (aux := 0) (cn := .ne) (off := 10) (k' := 18) (a := a1) (b := a2) Iff.rfl rfl rfl rfl (fun e13 => ?_) (fun e13 => ?_)
      · refine ct_zrun C (k' := 16) (y := ([(0, .inr (.inr (7, o))), (1, .inl a1), (2, .inl a2)], [.inl a1, .inr (.inr (8, (G.1 o 3)))], h)) 3 rfl rfl rfl ?_
        refine ct_zrd C (pc := 28) (aux := 0) (ins := .iaload) (cd := 8) rfl rfl (Or.inl ⟨rfl, rfl⟩) (fun v12 => ?_)
        exact ct_zret C (pc := 29) (aux := 0) (ins := .ireturn) (ρ := (fun r : Int × ct_H => (some (.inl (r.1) : ct_PV), r.2))) (some (.inl v12)) rfl rfl rfl ⟨rfl, Or.inl rfl⟩
      · refine ct_zrun C (k' := 21) (y := ([(0, .inr (.inr (7, o))), (1, .inl a1), (2, .inl a2)], [.inl a1, .inr (.inr (8, (G.1 o 3)))], h)) 3 rfl rfl rfl ?_
        refine ct_zrd C (pc := 35) (aux := 0) (ins := .iaload) (cd := 8) rfl rfl (Or.inl ⟨rfl, rfl⟩) (fun v3 => ?_)
        refine ct_zrun C (k' := 25) (y := ([(0, .inr (.inr (7, o))), (1, .inl a1), (2, .inl a2)], [.inl a2, .inr (.inr (8, (G.1 o 3))), .inl v3], h)) 3 rfl rfl rfl ?_
        refine ct_zrd C (pc := 41) (aux := 0) (ins := .iaload) (cd := 8) rfl rfl (Or.inl ⟨rfl, rfl⟩) (fun v4 => ?_)
        refine ct_zmin C (pc := 42) (aux := 0) lk_X7_278 rfl rfl rfl ?_
        refine ct_zrun C (k' := 30) (y := ([(3, .inl (ct_min v3 v4)), (0, .inr (.inr (7, o))), (1, .inl a1), (2, .inl a2)], [.inl (ct_min v3 v4), .inr (.inr (7, o))], h)) 3 rfl rfl rfl ?_
        refine ct_zV C (pc := 48) (aux := 0) [.inl (ct_min v3 v4)] [] ok_X7_layLands lk_X7_328 (e_X7_layLands o (ct_min v3 v4)) rfl rfl rfl rfl rfl rfl rfl rfl (fun r5 => ?_)
        exact ct_zsub [1, 2, 3, 0] rfl (zl_X7_pass_31 C o a1 a2 200 ((ct_min v3 v4), r5))
def l_X7_isWithHigher_2 (G : ct_G) (o : Nat) (a1 : Int) (h : ct_H) : Nat → Int → Option (Int)
  | 0, _ => none
  | n2 + 1, b1 => (f_X7_points G h o).bind fun v3 => if v3 ≤ b1 then (some 0) else (ct_rd G h (G.1 o 16) b1).bind fun v4 => (ct_rd G h (G.1 o 16) a1).bind fun v5 => ct_jn (β := Unit) (fun k7 => if v4 = v5 then ((ct_rd G h (G.1 o 3) b1).bind fun v9 => (ct_rd G h (G.1 o 3) a1).bind fun v10 => if v9 ≤ v10 then (k7 ()) else some 1) else k7 ()) (fun b6 => l_X7_isWithHigher_2 G o a1 h n2 (ct_wr (b1 + 1)))
set_option maxRecDepth 100000 in
theorem zl_X7_isWithHigher_2 {x : ct_Ctx} {d : Nat} {G : ct_G} (C : ct_c x m_X7_isWithHigher G (d + 1)) (o : Nat) (a1 : Int) (h : ct_H) : ∀ (n2 : Nat) (b1 : Int), ct_Z x m_X7_isWithHigher G 2 [(0, .inr (.inr (7, o))), (1, .inl a1), (2, .inl b1)] [] h (fun a => ct_q x G ((fun r : Int => (some (.inl r : ct_PV), h)) a)) (l_X7_isWithHigher_2 G o a1 h n2 b1) := by
  intro n2
  induction n2 with
  | zero => intro b1; exact ct_znone
  | succ n2 ih =>
    intro b1
    rw [l_X7_isWithHigher_2]
    refine ct_zrun C (k' := 4) (y := ([(0, .inr (.inr (7, o))), (1, .inl a1), (2, .inl b1)], [.inr (.inr (7, o)), .inl b1], h)) 2 rfl rfl rfl ?_
    refine ct_zV C (pc := 4) (aux := 0) [] [.inl b1] ok_X7_points lk_X7_104 (e_X7_points o) rfl rfl rfl rfl rfl rfl rfl rfl (fun v3 => ?_)
    refine ct_zt C (pc := 7) (aux := 0) (cn := .ge) (off := 41) (k' := 28) (a := b1) (b := v3) Iff.rfl rfl rfl rfl (fun e13 => ?_) (fun e13 => ?_)
    · refine ct_zrun C (k' := 29) (y := ([(0, .inr (.inr (7, o))), (1, .inl a1), (2, .inl b1)], [.inl 0], h)) 1 rfl rfl rfl ?_
      exact ct_zret C (pc := 49) (aux := 0) (ins := .ireturn) (ρ := (fun r : Int => (some (.inl r : ct_PV), h))) (some (.inl 0)) rfl rfl rfl ⟨rfl, Or.inr ⟨rfl, Or.inl rfl⟩⟩
    · refine ct_zrun C (k' := 9) (y := ([(0, .inr (.inr (7, o))), (1, .inl a1), (2, .inl b1)], [.inl b1, .inr (.inr (8, (G.1 o 16)))], h)) 3 rfl rfl rfl ?_
      refine ct_zrd C (pc := 15) (aux := 0) (ins := .iaload) (cd := 8) rfl rfl (Or.inl ⟨rfl, rfl⟩) (fun v4 => ?_)
      refine ct_zrun C (k' := 13) (y := ([(0, .inr (.inr (7, o))), (1, .inl a1), (2, .inl b1)], [.inl a1, .inr (.inr (8, (G.1 o 16))), .inl v4], h)) 3 rfl rfl rfl ?_
      refine ct_zrd C (pc := 21) (aux := 0) (ins := .iaload) (cd := 8) rfl rfl (Or.inl ⟨rfl, rfl⟩) (fun v5 => ?_)
      refine ct_zjn (β := Unit) (kJ := 26) (L := fun b6 => [(0, .inr (.inr (7, o))), (1, .inl a1), (2, .inl b1)]) (S := fun b6 => []) (Hh := fun b6 => h) (fun b6 => ?_) (fun k7 z8 => ?_)
      · refine ct_zrun C (k' := 27) (y := ([(2, .inl (ct_wr (b1 + 1))), (0, .inr (.inr (7, o))), (1, .inl a1)], [], h)) 1 rfl rfl rfl ?_
        refine ct_zgoto C (pc := 45) (aux := 0) (off := (-43)) (k' := 2) rfl rfl ?_
        exact ct_zsub [1, 2, 0] rfl (ih (ct_wr (b1 + 1)))
      · refine ct_zf C (pc := 22) (aux := 0) (cn := .ne) (off := 20) (k' := 26) (a := v4) (b := v5) Iff.rfl rfl rfl rfl (fun e12 => ?_) (fun e12 => ?_)
        · refine ct_zrun C (k' := 18) (y := ([(0, .inr (.inr (7, o))), (1, .inl a1), (2, .inl b1)], [.inl b1, .inr (.inr (8, (G.1 o 3)))], h)) 3 rfl rfl rfl ?_
          refine ct_zrd C (pc := 30) (aux := 0) (ins := .iaload) (cd := 8) rfl rfl (Or.inl ⟨rfl, rfl⟩) (fun v9 => ?_)
          refine ct_zrun C (k' := 22) (y := ([(0, .inr (.inr (7, o))), (1, .inl a1), (2, .inl b1)], [.inl a1, .inr (.inr (8, (G.1 o 3))), .inl v9], h)) 3 rfl rfl rfl ?_
          refine ct_zrd C (pc := 36) (aux := 0) (ins := .iaload) (cd := 8) rfl rfl (Or.inl ⟨rfl, rfl⟩) (fun v10 => ?_)
          refine ct_zt C (pc := 37) (aux := 0) (cn := .le) (off := 5) (k' := 26) (a := v9) (b := v10) Iff.rfl rfl rfl rfl (fun e11 => ?_) (fun e11 => ?_)
          · exact ct_zsub [0, 1, 2] rfl (z8 ())
          · refine ct_zrun C (k' := 25) (y := ([(0, .inr (.inr (7, o))), (1, .inl a1), (2, .inl b1)], [.inl 1], h)) 1 rfl rfl rfl ?_
            exact ct_zret C (pc := 41) (aux := 0) (ins := .ireturn) (ρ := (fun r : Int => (some (.inl r : ct_PV), h))) (some (.inl 1)) rfl rfl rfl ⟨rfl, Or.inr ⟨rfl, Or.inr rfl⟩⟩
        · exact ct_zsub [0, 1, 2] rfl (z8 ())
def f_X7_isWithHigher (G : ct_G) (h : ct_H) (o : Nat) (a1 : Int) : Option (Int) := l_X7_isWithHigher_2 G o a1 h 200 0
set_option maxRecDepth 100000 in
theorem e_X7_isWithHigher {d : Nat} {G : ct_G} {h : ct_H} (o : Nat) (a1 : Int) : ct_E m_X7_isWithHigher (d + 1) G (ct_args 0 [.inr (.inr (7, o)), .inl a1]) h (fun r : Int => (some (.inl r : ct_PV), h)) (f_X7_isWithHigher G h o a1) := by
  intro x C
  unfold f_X7_isWithHigher
  show ct_Z x m_X7_isWithHigher G 0 [(0, .inr (.inr (7, o))), (1, .inl a1)] [] h (fun a => ct_q x G ((fun r : Int => (some (.inl r : ct_PV), h)) a)) _
  refine ct_zrun C (k' := 2) (y := ([(2, .inl 0), (0, .inr (.inr (7, o))), (1, .inl a1)], [], h)) 2 rfl rfl rfl ?_
  exact ct_zsub [1, 2, 0] rfl (zl_X7_isWithHigher_2 C o a1 h 200 0)
def l_X7_stands_11 (G : ct_G) (o : Nat) (a1 : Int) (k5 : ct_H → Option (Int × ct_H)) (k8 : (Int × ct_H) → Option (Int × ct_H)) : Nat → (Int × ct_H) → Option (Int × ct_H)
  | 0, _ => none
  | n4 + 1, b3 => if b3.1 < 0 then (k5 (b3.2)) else (f_X7_layLands G b3.2 o b3.1).bind fun r11 => (f_X7_isWithHigher G r11 o a1).bind fun v12 => if v12 = 0 then (l_X7_stands_11 G o a1 k5 k8 n4 ((ct_wr (b3.1 + (-1))), r11)) else k8 (b3.1, r11)
set_option maxRecDepth 100000 in
theorem zl_X7_stands_11 {x : ct_Ctx} {d : Nat} {G : ct_G} (C : ct_c x m_X7_stands G (d + 6)) (o : Nat) (a1 : Int) (k5 : ct_H → Option (Int × ct_H)) (k8 : (Int × ct_H) → Option (Int × ct_H)) (z6 : ∀ b7 : ct_H, ct_Z x m_X7_stands G 29 [(0, .inr (.inr (7, o))), (1, .inl a1)] [] b7 (fun a => ct_q x G ((fun r : Int × ct_H => (some (.inl (r.1) : ct_PV), r.2)) a)) (k5 b7)) (z9 : ∀ b10 : Int × ct_H, ct_Z x m_X7_stands G 20 [(0, .inr (.inr (7, o))), (1, .inl a1), (2, .inl (b10.1))] [] b10.2 (fun a => ct_q x G ((fun r : Int × ct_H => (some (.inl (r.1) : ct_PV), r.2)) a)) (k8 b10)) : ∀ (n4 : Nat) (b3 : Int × ct_H), ct_Z x m_X7_stands G 11 [(0, .inr (.inr (7, o))), (1, .inl a1), (2, .inl (b3.1))] [] b3.2 (fun a => ct_q x G ((fun r : Int × ct_H => (some (.inl (r.1) : ct_PV), r.2)) a)) (l_X7_stands_11 G o a1 k5 k8 n4 b3) := by
  intro n4
  induction n4 with
  | zero => intro b3; exact ct_znone
  | succ n4 ih =>
    intro b3
    rw [l_X7_stands_11]
    refine ct_zrun C (k' := 12) (y := ([(0, .inr (.inr (7, o))), (1, .inl a1), (2, .inl (b3.1))], [.inl (b3.1)], b3.2)) 1 rfl rfl rfl ?_
    refine ct_zt0 C (pc := 18) (aux := 0) (cn := .lt) (off := 31) (k' := 29) (a := b3.1) Iff.rfl rfl rfl rfl (fun e14 => ?_) (fun e14 => ?_)
    · exact ct_zsub [0, 1] rfl (z6 (b3.2))
    · refine ct_zrun C (k' := 15) (y := ([(0, .inr (.inr (7, o))), (1, .inl a1), (2, .inl (b3.1))], [.inl (b3.1), .inr (.inr (7, o))], b3.2)) 2 rfl rfl rfl ?_
      refine ct_zV C (pc := 23) (aux := 0) [.inl (b3.1)] [] ok_X7_layLands lk_X7_328 (e_X7_layLands o (b3.1)) rfl rfl rfl rfl rfl rfl rfl rfl (fun r11 => ?_)
      refine ct_zrun C (k' := 18) (y := ([(0, .inr (.inr (7, o))), (1, .inl a1), (2, .inl (b3.1))], [.inl a1, .inr (.inr (7, o))], r11)) 2 rfl rfl rfl ?_
      refine ct_zV C (pc := 28) (aux := 0) [.inl a1] [] ok_X7_isWithHigher lk_X7_374 (e_X7_isWithHigher o a1) rfl rfl rfl rfl rfl rfl rfl rfl (fun v12 => ?_)
      refine ct_zt0 C (pc := 31) (aux := 0) (cn := .eq) (off := 12) (k' := 27) (a := v12) Iff.rfl rfl rfl rfl (fun e13 => ?_) (fun e13 => ?_)
      · refine ct_zrun C (k' := 28) (y := ([(2, .inl (ct_wr (b3.1 + (-1)))), (0, .inr (.inr (7, o))), (1, .inl a1)], [], r11)) 1 rfl rfl rfl ?_
        refine ct_zgoto C (pc := 46) (aux := 0) (off := (-29)) (k' := 11) rfl rfl ?_
        exact ct_zsub [1, 2, 0] rfl (ih ((ct_wr (b3.1 + (-1))), r11))
      · exact ct_zsub [0, 1, 2] rfl (z9 (b3.1, r11))
def f_X7_stands (G : ct_G) (h : ct_H) (o : Nat) (a1 : Int) : Option (Int × ct_H) := (f_X7_isPoint G h o a1).bind fun v1 => if v1 = 0 then (some ((-1), h)) else (ct_rd G h (G.1 o 3) a1).bind fun v2 => l_X7_stands_11 G o a1 (fun b15 => (ct_rd G b15 (G.1 o 3) a1).bind fun v16 => some (v16, b15)) (fun b17 => (ct_rd G b17.2 (G.1 o 3) a1).bind fun v18 => some ((ct_wr (v18 - b17.1)), b17.2)) 200 (v2, h)
set_option maxRecDepth 100000 in
theorem e_X7_stands {d : Nat} {G : ct_G} {h : ct_H} (o : Nat) (a1 : Int) : ct_E m_X7_stands (d + 6) G (ct_args 0 [.inr (.inr (7, o)), .inl a1]) h (fun r : Int × ct_H => (some (.inl (r.1) : ct_PV), r.2)) (f_X7_stands G h o a1) := by
  intro x C
  unfold f_X7_stands
  show ct_Z x m_X7_stands G 0 [(0, .inr (.inr (7, o))), (1, .inl a1)] [] h (fun a => ct_q x G ((fun r : Int × ct_H => (some (.inl (r.1) : ct_PV), r.2)) a)) _
  refine ct_zrun C (k' := 2) (y := ([(0, .inr (.inr (7, o))), (1, .inl a1)], [.inl a1, .inr (.inr (7, o))], h)) 2 rfl rfl rfl ?_
  refine ct_zV C (pc := 2) (aux := 0) [.inl a1] [] ok_X7_isPoint lk_X7_108 (e_X7_isPoint o a1) rfl rfl rfl rfl rfl rfl rfl rfl (fun v1 => ?_)
  refine ct_zf0 C (pc := 5) (aux := 0) (cn := .ne) (off := 5) (k' := 6) (a := v1) Iff.rfl rfl rfl rfl (fun e19 => ?_) (fun e19 => ?_)
  · refine ct_zrun C (k' := 5) (y := ([(0, .inr (.inr (7, o))), (1, .inl a1)], [.inl (-1)], h)) 1 rfl rfl rfl ?_
    exact ct_zret C (pc := 9) (aux := 0) (ins := .ireturn) (ρ := (fun r : Int × ct_H => (some (.inl (r.1) : ct_PV), r.2))) (some (.inl (-1))) rfl rfl rfl ⟨rfl, Or.inl rfl⟩
  · refine ct_zrun C (k' := 9) (y := ([(0, .inr (.inr (7, o))), (1, .inl a1)], [.inl a1, .inr (.inr (8, (G.1 o 3)))], h)) 3 rfl rfl rfl ?_
    refine ct_zrd C (pc := 15) (aux := 0) (ins := .iaload) (cd := 8) rfl rfl (Or.inl ⟨rfl, rfl⟩) (fun v2 => ?_)
    refine ct_zrun C (k' := 11) (y := ([(2, .inl v2), (0, .inr (.inr (7, o))), (1, .inl a1)], [], h)) 1 rfl rfl rfl ?_
    refine ct_zsub [1, 2, 0] rfl (zl_X7_stands_11 C o a1 _ _ (fun b15 => ?_) (fun b17 => ?_) 200 (v2, h))
    · refine ct_zrun C (k' := 32) (y := ([(0, .inr (.inr (7, o))), (1, .inl a1)], [.inl a1, .inr (.inr (8, (G.1 o 3)))], b15)) 3 rfl rfl rfl ?_
      refine ct_zrd C (pc := 54) (aux := 0) (ins := .iaload) (cd := 8) rfl rfl (Or.inl ⟨rfl, rfl⟩) (fun v16 => ?_)
      exact ct_zret C (pc := 55) (aux := 0) (ins := .ireturn) (ρ := (fun r : Int × ct_H => (some (.inl (r.1) : ct_PV), r.2))) (some (.inl v16)) rfl rfl rfl ⟨rfl, Or.inl rfl⟩
    · refine ct_zrun C (k' := 23) (y := ([(0, .inr (.inr (7, o))), (1, .inl a1), (2, .inl (b17.1))], [.inl a1, .inr (.inr (8, (G.1 o 3)))], b17.2)) 3 rfl rfl rfl ?_
      refine ct_zrd C (pc := 39) (aux := 0) (ins := .iaload) (cd := 8) rfl rfl (Or.inl ⟨rfl, rfl⟩) (fun v18 => ?_)
      refine ct_zrun C (k' := 26) (y := ([(0, .inr (.inr (7, o))), (1, .inl a1), (2, .inl (b17.1))], [.inl (ct_wr (v18 - b17.1))], b17.2)) 2 rfl rfl rfl ?_
      exact ct_zret C (pc := 42) (aux := 0) (ins := .ireturn) (ρ := (fun r : Int × ct_H => (some (.inl (r.1) : ct_PV), r.2))) (some (.inl (ct_wr (v18 - b17.1)))) rfl rfl rfl ⟨rfl, Or.inl rfl⟩
def l_X7_leavesOf_4 (G : ct_G) (o : Nat) (a1 : Int) (h : ct_H) : Nat → (Int × Int) → Option (Int)
  | 0, _ => none
  | n2 + 1, b1 => if a1 ≤ b1.2 then (some (b1.1)) else (ct_rd G h (G.1 o 21) b1.2).bind fun v3 => ct_jn (β := Int) (fun k5 => if v3 = 0 then (k5 (ct_wr (b1.1 + 1))) else k5 (b1.1)) (fun b4 => l_X7_leavesOf_4 G o a1 h n2 (b4, (ct_wr (b1.2 + 1))))
set_option maxRecDepth 100000 in
theorem zl_X7_leavesOf_4 {x : ct_Ctx} {d : Nat} {G : ct_G} (C : ct_c x m_X7_leavesOf G d) (o : Nat) (a1 : Int) (h : ct_H) : ∀ (n2 : Nat) (b1 : Int × Int), ct_Z x m_X7_leavesOf G 4 [(0, .inr (.inr (7, o))), (1, .inl a1), (2, .inl (b1.1)), (3, .inl (b1.2))] [] h (fun a => ct_q x G ((fun r : Int => (some (.inl r : ct_PV), h)) a)) (l_X7_leavesOf_4 G o a1 h n2 b1) := by
  intro n2
  induction n2 with
  | zero => intro b1; exact ct_znone
  | succ n2 ih =>
    intro b1
    rw [l_X7_leavesOf_4]
    refine ct_zrun C (k' := 6) (y := ([(0, .inr (.inr (7, o))), (1, .inl a1), (2, .inl (b1.1)), (3, .inl (b1.2))], [.inl a1, .inl (b1.2)], h)) 2 rfl rfl rfl ?_
    refine ct_zt C (pc := 6) (aux := 0) (cn := .ge) (off := 21) (k' := 15) (a := b1.2) (b := a1) Iff.rfl rfl rfl rfl (fun e8 => ?_) (fun e8 => ?_)
    · refine ct_zrun C (k' := 16) (y := ([(0, .inr (.inr (7, o))), (1, .inl a1), (2, .inl (b1.1)), (3, .inl (b1.2))], [.inl (b1.1)], h)) 1 rfl rfl rfl ?_
      exact ct_zret C (pc := 28) (aux := 0) (ins := .ireturn) (ρ := (fun r : Int => (some (.inl r : ct_PV), h))) (some (.inl (b1.1))) rfl rfl rfl ⟨rfl, Or.inl rfl⟩
    · refine ct_zrun C (k' := 10) (y := ([(0, .inr (.inr (7, o))), (1, .inl a1), (2, .inl (b1.1)), (3, .inl (b1.2))], [.inl (b1.2), .inr (.inr (8, (G.1 o 21)))], h)) 3 rfl rfl rfl ?_
      refine ct_zrd C (pc := 14) (aux := 0) (ins := .iaload) (cd := 8) rfl rfl (Or.inl ⟨rfl, rfl⟩) (fun v3 => ?_)
      refine ct_zjn (β := Int) (kJ := 13) (L := fun b4 => [(0, .inr (.inr (7, o))), (1, .inl a1), (2, .inl b4), (3, .inl (b1.2))]) (S := fun b4 => []) (Hh := fun b4 => h) (fun b4 => ?_) (fun k5 z6 => ?_)
      · refine ct_zrun C (k' := 14) (y := ([(3, .inl (ct_wr (b1.2 + 1))), (0, .inr (.inr (7, o))), (1, .inl a1), (2, .inl b4)], [], h)) 1 rfl rfl rfl ?_
        refine ct_zgoto C (pc := 24) (aux := 0) (off := (-20)) (k' := 4) rfl rfl ?_
        exact ct_zsub [1, 2, 3, 0] rfl (ih (b4, (ct_wr (b1.2 + 1))))
      · refine ct_zf0 C (pc := 15) (aux := 0) (cn := .ne) (off := 6) (k' := 13) (a := v3) Iff.rfl rfl rfl rfl (fun e7 => ?_) (fun e7 => ?_)
        · refine ct_zrun C (k' := 13) (y := ([(2, .inl (ct_wr (b1.1 + 1))), (0, .inr (.inr (7, o))), (1, .inl a1), (3, .inl (b1.2))], [], h)) 1 rfl rfl rfl ?_
          exact ct_zsub [1, 2, 0, 3] rfl (z6 (ct_wr (b1.1 + 1)))
        · exact ct_zsub [0, 1, 2, 3] rfl (z6 (b1.1))
def f_X7_leavesOf (G : ct_G) (h : ct_H) (o : Nat) (a1 : Int) : Option (Int) := l_X7_leavesOf_4 G o a1 h 200 (0, 0)
set_option maxRecDepth 100000 in
theorem e_X7_leavesOf {d : Nat} {G : ct_G} {h : ct_H} (o : Nat) (a1 : Int) : ct_E m_X7_leavesOf d G (ct_args 0 [.inr (.inr (7, o)), .inl a1]) h (fun r : Int => (some (.inl r : ct_PV), h)) (f_X7_leavesOf G h o a1) := by
  intro x C
  unfold f_X7_leavesOf
  show ct_Z x m_X7_leavesOf G 0 [(0, .inr (.inr (7, o))), (1, .inl a1)] [] h (fun a => ct_q x G ((fun r : Int => (some (.inl r : ct_PV), h)) a)) _
  refine ct_zrun C (k' := 4) (y := ([(3, .inl 0), (2, .inl 0), (0, .inr (.inr (7, o))), (1, .inl a1)], [], h)) 4 rfl rfl rfl ?_
  exact ct_zsub [2, 3, 1, 0] rfl (zl_X7_leavesOf_4 C o a1 h 200 (0, 0))
def l_X7_forksOf_4 (G : ct_G) (o : Nat) (a1 : Int) (h : ct_H) : Nat → (Int × Int) → Option (Int)
  | 0, _ => none
  | n2 + 1, b1 => if a1 ≤ b1.2 then (some (b1.1)) else (ct_rd G h (G.1 o 21) b1.2).bind fun v3 => ct_jn (β := Int) (fun k5 => if v3 ≤ 1 then (k5 (b1.1)) else k5 (ct_wr (b1.1 + 1))) (fun b4 => l_X7_forksOf_4 G o a1 h n2 (b4, (ct_wr (b1.2 + 1))))
set_option maxRecDepth 100000 in
theorem zl_X7_forksOf_4 {x : ct_Ctx} {d : Nat} {G : ct_G} (C : ct_c x m_X7_forksOf G d) (o : Nat) (a1 : Int) (h : ct_H) : ∀ (n2 : Nat) (b1 : Int × Int), ct_Z x m_X7_forksOf G 4 [(0, .inr (.inr (7, o))), (1, .inl a1), (2, .inl (b1.1)), (3, .inl (b1.2))] [] h (fun a => ct_q x G ((fun r : Int => (some (.inl r : ct_PV), h)) a)) (l_X7_forksOf_4 G o a1 h n2 b1) := by
  intro n2
  induction n2 with
  | zero => intro b1; exact ct_znone
  | succ n2 ih =>
    intro b1
    rw [l_X7_forksOf_4]
    refine ct_zrun C (k' := 6) (y := ([(0, .inr (.inr (7, o))), (1, .inl a1), (2, .inl (b1.1)), (3, .inl (b1.2))], [.inl a1, .inl (b1.2)], h)) 2 rfl rfl rfl ?_
    refine ct_zt C (pc := 6) (aux := 0) (cn := .ge) (off := 22) (k' := 16) (a := b1.2) (b := a1) Iff.rfl rfl rfl rfl (fun e8 => ?_) (fun e8 => ?_)
    · refine ct_zrun C (k' := 17) (y := ([(0, .inr (.inr (7, o))), (1, .inl a1), (2, .inl (b1.1)), (3, .inl (b1.2))], [.inl (b1.1)], h)) 1 rfl rfl rfl ?_
      exact ct_zret C (pc := 29) (aux := 0) (ins := .ireturn) (ρ := (fun r : Int => (some (.inl r : ct_PV), h))) (some (.inl (b1.1))) rfl rfl rfl ⟨rfl, Or.inl rfl⟩
    · refine ct_zrun C (k' := 10) (y := ([(0, .inr (.inr (7, o))), (1, .inl a1), (2, .inl (b1.1)), (3, .inl (b1.2))], [.inl (b1.2), .inr (.inr (8, (G.1 o 21)))], h)) 3 rfl rfl rfl ?_
      refine ct_zrd C (pc := 14) (aux := 0) (ins := .iaload) (cd := 8) rfl rfl (Or.inl ⟨rfl, rfl⟩) (fun v3 => ?_)
      refine ct_zrun C (k' := 12) (y := ([(0, .inr (.inr (7, o))), (1, .inl a1), (2, .inl (b1.1)), (3, .inl (b1.2))], [.inl 1, .inl v3], h)) 1 rfl rfl rfl ?_
      refine ct_zjn (β := Int) (kJ := 14) (L := fun b4 => [(0, .inr (.inr (7, o))), (1, .inl a1), (2, .inl b4), (3, .inl (b1.2))]) (S := fun b4 => []) (Hh := fun b4 => h) (fun b4 => ?_) (fun k5 z6 => ?_)
      · refine ct_zrun C (k' := 15) (y := ([(3, .inl (ct_wr (b1.2 + 1))), (0, .inr (.inr (7, o))), (1, .inl a1), (2, .inl b4)], [], h)) 1 rfl rfl rfl ?_
        refine ct_zgoto C (pc := 25) (aux := 0) (off := (-21)) (k' := 4) rfl rfl ?_
        exact ct_zsub [1, 2, 3, 0] rfl (ih (b4, (ct_wr (b1.2 + 1))))
      · refine ct_zt C (pc := 16) (aux := 0) (cn := .le) (off := 6) (k' := 14) (a := v3) (b := 1) Iff.rfl rfl rfl rfl (fun e7 => ?_) (fun e7 => ?_)
        · exact ct_zsub [0, 1, 2, 3] rfl (z6 (b1.1))
        · refine ct_zrun C (k' := 14) (y := ([(2, .inl (ct_wr (b1.1 + 1))), (0, .inr (.inr (7, o))), (1, .inl a1), (3, .inl (b1.2))], [], h)) 1 rfl rfl rfl ?_
          exact ct_zsub [1, 2, 0, 3] rfl (z6 (ct_wr (b1.1 + 1)))
def f_X7_forksOf (G : ct_G) (h : ct_H) (o : Nat) (a1 : Int) : Option (Int) := l_X7_forksOf_4 G o a1 h 200 (0, 0)
set_option maxRecDepth 100000 in
theorem e_X7_forksOf {d : Nat} {G : ct_G} {h : ct_H} (o : Nat) (a1 : Int) : ct_E m_X7_forksOf d G (ct_args 0 [.inr (.inr (7, o)), .inl a1]) h (fun r : Int => (some (.inl r : ct_PV), h)) (f_X7_forksOf G h o a1) := by
  intro x C
  unfold f_X7_forksOf
  show ct_Z x m_X7_forksOf G 0 [(0, .inr (.inr (7, o))), (1, .inl a1)] [] h (fun a => ct_q x G ((fun r : Int => (some (.inl r : ct_PV), h)) a)) _
  refine ct_zrun C (k' := 4) (y := ([(3, .inl 0), (2, .inl 0), (0, .inr (.inr (7, o))), (1, .inl a1)], [], h)) 4 rfl rfl rfl ?_
  exact ct_zsub [2, 3, 1, 0] rfl (zl_X7_forksOf_4 C o a1 h 200 (0, 0))
def l_X7_tree_32 (G : ct_G) (o : Nat) (p12 : Int) (k16 : ct_H → Option (Int × ct_H)) : Nat → (Int × ct_H) → Option (Int × ct_H)
  | 0, _ => none
  | n15 + 1, b14 => if p12 ≤ b14.1 then (k16 (b14.2)) else (ct_wt G b14.2 (G.1 o 21) b14.1 0).bind fun h19 => l_X7_tree_32 G o p12 k16 n15 ((ct_wr (b14.1 + 1)), h19)
set_option maxRecDepth 100000 in
theorem zl_X7_tree_32 {x : ct_Ctx} {d : Nat} {G : ct_G} (C : ct_c x m_X7_tree G (d + 6)) (o : Nat) (a1 : Int) (a2 : Int) (p9 : Int) (p10 : Int) (p11 : Int) (p12 : Int) (p13 : Int) (k16 : ct_H → Option (Int × ct_H)) (z17 : ∀ b18 : ct_H, ct_Z x m_X7_tree G 42 [(0, .inr (.inr (7, o))), (1, .inl a1), (2, .inl a2), (3, .inl p9), (4, .inl p10), (5, .inl p11), (6, .inl p12), (7, .inl p13)] [] b18 (fun a => ct_q x G ((fun r : Int × ct_H => (some (.inl (r.1) : ct_PV), r.2)) a)) (k16 b18)) : ∀ (n15 : Nat) (b14 : Int × ct_H), ct_Z x m_X7_tree G 32 [(0, .inr (.inr (7, o))), (1, .inl a1), (2, .inl a2), (3, .inl p9), (4, .inl p10), (5, .inl p11), (6, .inl p12), (7, .inl p13), (8, .inl (b14.1))] [] b14.2 (fun a => ct_q x G ((fun r : Int × ct_H => (some (.inl (r.1) : ct_PV), r.2)) a)) (l_X7_tree_32 G o p12 k16 n15 b14) := by
  intro n15
  induction n15 with
  | zero => intro b14; exact ct_znone
  | succ n15 ih =>
    intro b14
    rw [l_X7_tree_32]
    refine ct_zrun C (k' := 34) (y := ([(0, .inr (.inr (7, o))), (1, .inl a1), (2, .inl a2), (3, .inl p9), (4, .inl p10), (5, .inl p11), (6, .inl p12), (7, .inl p13), (8, .inl (b14.1))], [.inl p12, .inl (b14.1)], b14.2)) 2 rfl rfl rfl ?_
    refine ct_zt C (pc := 58) (aux := 0) (cn := .ge) (off := 17) (k' := 42) (a := b14.1) (b := p12) Iff.rfl rfl rfl rfl (fun e20 => ?_) (fun e20 => ?_)
    · exact ct_zsub [0, 1, 2, 3, 4, 5, 6, 7] rfl (z17 (b14.2))
    · refine ct_zrun C (k' := 39) (y := ([(0, .inr (.inr (7, o))), (1, .inl a1), (2, .inl a2), (3, .inl p9), (4, .inl p10), (5, .inl p11), (6, .inl p12), (7, .inl p13), (8, .inl (b14.1))], [.inl 0, .inl (b14.1), .inr (.inr (8, (G.1 o 21)))], b14.2)) 4 rfl rfl rfl ?_
      refine ct_zwt C (pc := 68) (aux := 0) rfl rfl (fun h19 => ?_)
      refine ct_zrun C (k' := 41) (y := ([(8, .inl (ct_wr (b14.1 + 1))), (0, .inr (.inr (7, o))), (1, .inl a1), (2, .inl a2), (3, .inl p9), (4, .inl p10), (5, .inl p11), (6, .inl p12), (7, .inl p13)], [], h19)) 1 rfl rfl rfl ?_
      refine ct_zgoto C (pc := 72) (aux := 0) (off := (-18)) (k' := 32) rfl rfl ?_
      exact ct_zsub [1, 2, 3, 4, 5, 6, 7, 8, 0] rfl (ih ((ct_wr (b14.1 + 1)), h19))
def l_X7_tree_44 (G : ct_G) (o : Nat) (p26 : Int) (k29 : ct_H → Option (Int × ct_H)) : Nat → (Int × ct_H) → Option (Int × ct_H)
  | 0, _ => none
  | n28 + 1, b27 => if (b27.2.1 o 18) ≤ b27.1 then (k29 (b27.2)) else if p26 ≤ 0 then (k29 (b27.2)) else (f_X7_leastOf G b27.2 o b27.1).bind fun v32 => (ct_rd G b27.2 (G.1 o 20) v32).bind fun v33 => (ct_rd G b27.2 (G.1 o 21) v33).bind fun v34 => (ct_wt G b27.2 (G.1 o 21) v33 (ct_wr (v34 + 1))).bind fun h35 => l_X7_tree_44 G o p26 k29 n28 ((ct_wr (b27.1 + 1)), h35)
set_option maxRecDepth 100000 in
theorem zl_X7_tree_44 {x : ct_Ctx} {d : Nat} {G : ct_G} (C : ct_c x m_X7_tree G (d + 6)) (o : Nat) (a1 : Int) (a2 : Int) (p22 : Int) (p23 : Int) (p24 : Int) (p25 : Int) (p26 : Int) (k29 : ct_H → Option (Int × ct_H)) (z30 : ∀ b31 : ct_H, ct_Z x m_X7_tree G 65 [(0, .inr (.inr (7, o))), (1, .inl a1), (2, .inl a2), (3, .inl p22), (4, .inl p23), (5, .inl p24), (6, .inl p25), (7, .inl p26)] [] b31 (fun a => ct_q x G ((fun r : Int × ct_H => (some (.inl (r.1) : ct_PV), r.2)) a)) (k29 b31)) : ∀ (n28 : Nat) (b27 : Int × ct_H), ct_Z x m_X7_tree G 44 [(0, .inr (.inr (7, o))), (1, .inl a1), (2, .inl a2), (3, .inl p22), (4, .inl p23), (5, .inl p24), (6, .inl p25), (7, .inl p26), (8, .inl (b27.1))] [] b27.2 (fun a => ct_q x G ((fun r : Int × ct_H => (some (.inl (r.1) : ct_PV), r.2)) a)) (l_X7_tree_44 G o p26 k29 n28 b27) := by
  intro n28
  induction n28 with
  | zero => intro b27; exact ct_znone
  | succ n28 ih =>
    intro b27
    rw [l_X7_tree_44]
    refine ct_zrun C (k' := 47) (y := ([(0, .inr (.inr (7, o))), (1, .inl a1), (2, .inl a2), (3, .inl p22), (4, .inl p23), (5, .inl p24), (6, .inl p25), (7, .inl p26), (8, .inl (b27.1))], [.inl (b27.2.1 o 18), .inl (b27.1)], b27.2)) 3 rfl rfl rfl ?_
    refine ct_zt C (pc := 84) (aux := 0) (cn := .ge) (off := 34) (k' := 65) (a := b27.1) (b := (b27.2.1 o 18)) Iff.rfl rfl rfl rfl (fun e37 => ?_) (fun e37 => ?_)
    · exact ct_zsub [0, 1, 2, 3, 4, 5, 6, 7] rfl (z30 (b27.2))
    · refine ct_zrun C (k' := 49) (y := ([(0, .inr (.inr (7, o))), (1, .inl a1), (2, .inl a2), (3, .inl p22), (4, .inl p23), (5, .inl p24), (6, .inl p25), (7, .inl p26), (8, .inl (b27.1))], [.inl p26], b27.2)) 1 rfl rfl rfl ?_
      refine ct_zt0 C (pc := 89) (aux := 0) (cn := .le) (off := 29) (k' := 65) (a := p26) Iff.rfl rfl rfl rfl (fun e36 => ?_) (fun e36 => ?_)
      · exact ct_zsub [0, 1, 2, 3, 4, 5, 6, 7] rfl (z30 (b27.2))
      · refine ct_zrun C (k' := 56) (y := ([(0, .inr (.inr (7, o))), (1, .inl a1), (2, .inl a2), (3, .inl p22), (4, .inl p23), (5, .inl p24), (6, .inl p25), (7, .inl p26), (8, .inl (b27.1))], [.inl (b27.1), .inr (.inr (7, o)), .inr (.inr (8, (G.1 o 20))), .inr (.inr (8, (G.1 o 21)))], b27.2)) 6 rfl rfl rfl ?_
        refine ct_zV C (pc := 103) (aux := 0) [.inl (b27.1)] [.inr (.inr (8, (G.1 o 20))), .inr (.inr (8, (G.1 o 21)))] ok_X7_leastOf lk_X7_362 (e_X7_leastOf o (b27.1)) rfl rfl rfl rfl rfl rfl rfl rfl (fun v32 => ?_)
        refine ct_zrd C (pc := 106) (aux := 0) (ins := .iaload) (cd := 8) rfl rfl (Or.inl ⟨rfl, rfl⟩) (fun v33 => ?_)
        refine ct_zrun C (k' := 59) (y := ([(0, .inr (.inr (7, o))), (1, .inl a1), (2, .inl a2), (3, .inl p22), (4, .inl p23), (5, .inl p24), (6, .inl p25), (7, .inl p26), (8, .inl (b27.1))], [.inl v33, .inr (.inr (8, (G.1 o 21))), .inl v33, .inr (.inr (8, (G.1 o 21)))], b27.2)) 1 rfl rfl rfl ?_
        refine ct_zrd C (pc := 108) (aux := 0) (ins := .iaload) (cd := 8) rfl rfl (Or.inl ⟨rfl, rfl⟩) (fun v34 => ?_)
        refine ct_zrun C (k' := 62) (y := ([(0, .inr (.inr (7, o))), (1, .inl a1), (2, .inl a2), (3, .inl p22), (4, .inl p23), (5, .inl p24), (6, .inl p25), (7, .inl p26), (8, .inl (b27.1))], [.inl (ct_wr (v34 + 1)), .inl v33, .inr (.inr (8, (G.1 o 21)))], b27.2)) 2 rfl rfl rfl ?_
        refine ct_zwt C (pc := 111) (aux := 0) rfl rfl (fun h35 => ?_)
        refine ct_zrun C (k' := 64) (y := ([(8, .inl (ct_wr (b27.1 + 1))), (0, .inr (.inr (7, o))), (1, .inl a1), (2, .inl a2), (3, .inl p22), (4, .inl p23), (5, .inl p24), (6, .inl p25), (7, .inl p26)], [], h35)) 1 rfl rfl rfl ?_
        refine ct_zgoto C (pc := 115) (aux := 0) (off := (-37)) (k' := 44) rfl rfl ?_
        exact ct_zsub [1, 2, 3, 4, 5, 6, 7, 8, 0] rfl (ih ((ct_wr (b27.1 + 1)), h35))
def l_X7_tree_24 (G : ct_G) (o : Nat) (a1 : Int) (k5 : (Int × Int × Int × Int × ct_H) → Option (Int × ct_H)) : Nat → (Int × Int × Int × Int × Int × ct_H) → Option (Int × ct_H)
  | 0, _ => none
  | n4 + 1, b3 => if 99 < b3.2.2.2.2.1 then (k5 (b3.1, b3.2.1, b3.2.2.1, b3.2.2.2.1, b3.2.2.2.2.2)) else (f_X7_layLands G b3.2.2.2.2.2 o b3.2.2.2.2.1).bind fun r8 => l_X7_tree_32 G o (b3.2.2.2.1) (fun b21 => l_X7_tree_44 G o (b3.2.2.2.2.1) (fun b38 => (f_X7_leavesOf G b38 o b3.2.2.2.1).bind fun v39 => ct_lt (ct_wr (b3.2.1 + v39)) fun v40 => (f_X7_forksOf G b38 o b3.2.2.2.1).bind fun v41 => ct_lt (ct_wr (b3.2.2.1 + v41)) fun v42 => ct_lt (ct_wr (b3.1 + (b38.1 o 18))) fun v43 => (ct_cpI G b38 (G.1 o 16) 0 (G.1 o 20) 0 49).bind fun h44 => ct_lt (ct_wr (b3.2.2.2.2.1 + a1)) fun v45 => l_X7_tree_24 G o a1 k5 n4 (v43, v40, v42, (b38.1 o 18), v45, h44)) 200 (0, b21)) 200 (0, r8)
set_option maxRecDepth 100000 in
theorem zl_X7_tree_24 {x : ct_Ctx} {d : Nat} {G : ct_G} (C : ct_c x m_X7_tree G (d + 6)) (o : Nat) (a1 : Int) (a2 : Int) (k5 : (Int × Int × Int × Int × ct_H) → Option (Int × ct_H)) (z6 : ∀ b7 : Int × Int × Int × Int × ct_H, ct_Z x m_X7_tree G 98 [(2, .inl a2), (3, .inl (b7.1)), (4, .inl (b7.2.1)), (5, .inl (b7.2.2.1)), (6, .inl (b7.2.2.2.1))] [] b7.2.2.2.2 (fun a => ct_q x G ((fun r : Int × ct_H => (some (.inl (r.1) : ct_PV), r.2)) a)) (k5 b7)) : ∀ (n4 : Nat) (b3 : Int × Int × Int × Int × Int × ct_H), ct_Z x m_X7_tree G 24 [(0, .inr (.inr (7, o))), (1, .inl a1), (2, .inl a2), (3, .inl (b3.1)), (4, .inl (b3.2.1)), (5, .inl (b3.2.2.1)), (6, .inl (b3.2.2.2.1)), (7, .inl (b3.2.2.2.2.1))] [] b3.2.2.2.2.2 (fun a => ct_q x G ((fun r : Int × ct_H => (some (.inl (r.1) : ct_PV), r.2)) a)) (l_X7_tree_24 G o a1 k5 n4 b3) := by
  intro n4
  induction n4 with
  | zero => intro b3; exact ct_znone
  | succ n4 ih =>
    intro b3
    rw [l_X7_tree_24]
    refine ct_zrun C (k' := 26) (y := ([(0, .inr (.inr (7, o))), (1, .inl a1), (2, .inl a2), (3, .inl (b3.1)), (4, .inl (b3.2.1)), (5, .inl (b3.2.2.1)), (6, .inl (b3.2.2.2.1)), (7, .inl (b3.2.2.2.2.1))], [.inl 99, .inl (b3.2.2.2.2.1)], b3.2.2.2.2.2)) 2 rfl rfl rfl ?_
    refine ct_zt C (pc := 42) (aux := 0) (cn := .gt) (off := 135) (k' := 98) (a := b3.2.2.2.2.1) (b := 99) Iff.rfl rfl rfl rfl (fun e46 => ?_) (fun e46 => ?_)
    · exact ct_zsub [2, 3, 4, 5, 6] rfl (z6 (b3.1, b3.2.1, b3.2.2.1, b3.2.2.2.1, b3.2.2.2.2.2))
    · refine ct_zrun C (k' := 29) (y := ([(0, .inr (.inr (7, o))), (1, .inl a1), (2, .inl a2), (3, .inl (b3.1)), (4, .inl (b3.2.1)), (5, .inl (b3.2.2.1)), (6, .inl (b3.2.2.2.1)), (7, .inl (b3.2.2.2.2.1))], [.inl (b3.2.2.2.2.1), .inr (.inr (7, o))], b3.2.2.2.2.2)) 2 rfl rfl rfl ?_
      refine ct_zV C (pc := 48) (aux := 0) [.inl (b3.2.2.2.2.1)] [] ok_X7_layLands lk_X7_328 (e_X7_layLands o (b3.2.2.2.2.1)) rfl rfl rfl rfl rfl rfl rfl rfl (fun r8 => ?_)
      refine ct_zrun C (k' := 32) (y := ([(8, .inl 0), (0, .inr (.inr (7, o))), (1, .inl a1), (2, .inl a2), (3, .inl (b3.1)), (4, .inl (b3.2.1)), (5, .inl (b3.2.2.1)), (6, .inl (b3.2.2.2.1)), (7, .inl (b3.2.2.2.2.1))], [], r8)) 2 rfl rfl rfl ?_
      refine ct_zsub [1, 2, 3, 4, 5, 6, 7, 8, 0] rfl (zl_X7_tree_32 C o a1 a2 (b3.1) (b3.2.1) (b3.2.2.1) (b3.2.2.2.1) (b3.2.2.2.2.1) _ (fun b21 => ?_) 200 (0, r8))
      refine ct_zrun C (k' := 44) (y := ([(8, .inl 0), (0, .inr (.inr (7, o))), (1, .inl a1), (2, .inl a2), (3, .inl (b3.1)), (4, .inl (b3.2.1)), (5, .inl (b3.2.2.1)), (6, .inl (b3.2.2.2.1)), (7, .inl (b3.2.2.2.2.1))], [], b21)) 2 rfl rfl rfl ?_
      refine ct_zsub [1, 2, 3, 4, 5, 6, 7, 8, 0] rfl (zl_X7_tree_44 C o a1 a2 (b3.1) (b3.2.1) (b3.2.2.1) (b3.2.2.2.1) (b3.2.2.2.2.1) _ (fun b38 => ?_) 200 (0, b21))
      refine ct_zrun C (k' := 68) (y := ([(0, .inr (.inr (7, o))), (1, .inl a1), (2, .inl a2), (3, .inl (b3.1)), (4, .inl (b3.2.1)), (5, .inl (b3.2.2.1)), (6, .inl (b3.2.2.2.1)), (7, .inl (b3.2.2.2.2.1))], [.inl (b3.2.2.2.1), .inr (.inr (7, o)), .inl (b3.2.1)], b38)) 3 rfl rfl rfl ?_
      refine ct_zV C (pc := 123) (aux := 0) [.inl (b3.2.2.2.1)] [.inl (b3.2.1)] ok_X7_leavesOf lk_X7_377 (e_X7_leavesOf o (b3.2.2.2.1)) rfl rfl rfl rfl rfl rfl rfl rfl (fun v39 => ?_)
      refine ct_zrun C (k' := 71) (y := ([(4, .inl (ct_wr (b3.2.1 + v39))), (0, .inr (.inr (7, o))), (1, .inl a1), (2, .inl a2), (3, .inl (b3.1)), (5, .inl (b3.2.2.1)), (6, .inl (b3.2.2.2.1)), (7, .inl (b3.2.2.2.2.1))], [], b38)) 2 rfl rfl rfl ?_
      refine ct_zlet (L := fun v40 => [(4, .inl v40), (0, .inr (.inr (7, o))), (1, .inl a1), (2, .inl a2), (3, .inl (b3.1)), (5, .inl (b3.2.2.1)), (6, .inl (b3.2.2.2.1)), (7, .inl (b3.2.2.2.2.1))]) (S := fun _ => []) (Hh := fun _ => b38) (a := (ct_wr (b3.2.1 + v39))) (fun v40 => ?_)
      refine ct_zrun C (k' := 74) (y := ([(4, .inl v40), (0, .inr (.inr (7, o))), (1, .inl a1), (2, .inl a2), (3, .inl (b3.1)), (5, .inl (b3.2.2.1)), (6, .inl (b3.2.2.2.1)), (7, .inl (b3.2.2.2.2.1))], [.inl (b3.2.2.2.1), .inr (.inr (7, o)), .inl (b3.2.2.1)], b38)) 3 rfl rfl rfl ?_
      refine ct_zV C (pc := 134) (aux := 0) [.inl (b3.2.2.2.1)] [.inl (b3.2.2.1)] ok_X7_forksOf lk_X7_380 (e_X7_forksOf o (b3.2.2.2.1)) rfl rfl rfl rfl rfl rfl rfl rfl (fun v41 => ?_)
      refine ct_zrun C (k' := 77) (y := ([(5, .inl (ct_wr (b3.2.2.1 + v41))), (4, .inl v40), (0, .inr (.inr (7, o))), (1, .inl a1), (2, .inl a2), (3, .inl (b3.1)), (6, .inl (b3.2.2.2.1)), (7, .inl (b3.2.2.2.2.1))], [], b38)) 2 rfl rfl rfl ?_
      refine ct_zlet (L := fun v42 => [(5, .inl v42), (4, .inl v40), (0, .inr (.inr (7, o))), (1, .inl a1), (2, .inl a2), (3, .inl (b3.1)), (6, .inl (b3.2.2.2.1)), (7, .inl (b3.2.2.2.2.1))]) (S := fun _ => []) (Hh := fun _ => b38) (a := (ct_wr (b3.2.2.1 + v41))) (fun v42 => ?_)
      refine ct_zrun C (k' := 82) (y := ([(3, .inl (ct_wr (b3.1 + (b38.1 o 18)))), (5, .inl v42), (4, .inl v40), (0, .inr (.inr (7, o))), (1, .inl a1), (2, .inl a2), (6, .inl (b3.2.2.2.1)), (7, .inl (b3.2.2.2.2.1))], [], b38)) 5 rfl rfl rfl ?_
      refine ct_zlet (L := fun v43 => [(3, .inl v43), (5, .inl v42), (4, .inl v40), (0, .inr (.inr (7, o))), (1, .inl a1), (2, .inl a2), (6, .inl (b3.2.2.2.1)), (7, .inl (b3.2.2.2.2.1))]) (S := fun _ => []) (Hh := fun _ => b38) (a := (ct_wr (b3.1 + (b38.1 o 18)))) (fun v43 => ?_)
      refine ct_zrun C (k' := 92) (y := ([(6, .inl (b38.1 o 18)), (3, .inl v43), (5, .inl v42), (4, .inl v40), (0, .inr (.inr (7, o))), (1, .inl a1), (2, .inl a2), (7, .inl (b3.2.2.2.2.1))], [.inl 49, .inl 0, .inr (.inr (8, (G.1 o 20))), .inl 0, .inr (.inr (8, (G.1 o 16)))], b38)) 10 rfl rfl rfl ?_
      refine ct_zcopy C (pc := 165) (aux := 0) lk_X7_383 ct_gsys rfl rfl rfl (fun h44 => ?_)
      refine ct_zrun C (k' := 97) (y := ([(7, .inl (ct_wr (b3.2.2.2.2.1 + a1))), (6, .inl (b38.1 o 18)), (3, .inl v43), (5, .inl v42), (4, .inl v40), (0, .inr (.inr (7, o))), (1, .inl a1), (2, .inl a2)], [], h44)) 4 rfl rfl rfl ?_
      refine ct_zlet (L := fun v45 => [(7, .inl v45), (6, .inl (b38.1 o 18)), (3, .inl v43), (5, .inl v42), (4, .inl v40), (0, .inr (.inr (7, o))), (1, .inl a1), (2, .inl a2)]) (S := fun _ => []) (Hh := fun _ => h44) (a := (ct_wr (b3.2.2.2.2.1 + a1))) (fun v45 => ?_)
      refine ct_zgoto C (pc := 174) (aux := 0) (off := (-136)) (k' := 24) rfl rfl ?_
      exact ct_zsub [5, 6, 7, 2, 4, 3, 1, 0] rfl (ih (v43, v40, v42, (b38.1 o 18), v45, h44))
def f_X7_tree (G : ct_G) (h : ct_H) (o : Nat) (a1 : Int) (a2 : Int) : Option (Int × ct_H) := (f_X7_in G h a1 1 50).bind fun v1 => if v1 = 0 then (some ((-2), h)) else (f_X7_in G h a2 0 2).bind fun v2 => if v2 = 0 then (some ((-1), h)) else l_X7_tree_24 G o a1 (fun b47 => if a2 = 0 then (some (b47.1, b47.2.2.2.2)) else if a2 = 1 then (some ((ct_wr (b47.2.1 + b47.2.2.2.1)), b47.2.2.2.2)) else some (b47.2.2.1, b47.2.2.2.2)) 200 (0, 0, 0, 0, 0, h)
set_option maxRecDepth 100000 in
theorem e_X7_tree {d : Nat} {G : ct_G} {h : ct_H} (o : Nat) (a1 : Int) (a2 : Int) : ct_E m_X7_tree (d + 6) G (ct_args 0 [.inr (.inr (7, o)), .inl a1, .inl a2]) h (fun r : Int × ct_H => (some (.inl (r.1) : ct_PV), r.2)) (f_X7_tree G h o a1 a2) := by
  intro x C
  unfold f_X7_tree
  show ct_Z x m_X7_tree G 0 [(0, .inr (.inr (7, o))), (1, .inl a1), (2, .inl a2)] [] h (fun a => ct_q x G ((fun r : Int × ct_H => (some (.inl (r.1) : ct_PV), r.2)) a)) _
  refine ct_zrun C (k' := 3) (y := ([(0, .inr (.inr (7, o))), (1, .inl a1), (2, .inl a2)], [.inl 50, .inl 1, .inl a1], h)) 3 rfl rfl rfl ?_
  refine ct_zS C (pc := 4) (aux := 0) [.inl a1, .inl 1, .inl 50] [] ok_X7_in lk_X7_100 (e_X7_in a1 1 50) rfl rfl rfl rfl rfl rfl (fun v1 => ?_)
  refine ct_zf0 C (pc := 7) (aux := 0) (cn := .ne) (off := 6) (k' := 7) (a := v1) Iff.rfl rfl rfl rfl (fun e51 => ?_) (fun e51 => ?_)
  · refine ct_zrun C (k' := 6) (y := ([(0, .inr (.inr (7, o))), (1, .inl a1), (2, .inl a2)], [.inl (-2)], h)) 1 rfl rfl rfl ?_
    exact ct_zret C (pc := 12) (aux := 0) (ins := .ireturn) (ρ := (fun r : Int × ct_H => (some (.inl (r.1) : ct_PV), r.2))) (some (.inl (-2))) rfl rfl rfl ⟨rfl, Or.inl rfl⟩
  · refine ct_zrun C (k' := 10) (y := ([(0, .inr (.inr (7, o))), (1, .inl a1), (2, .inl a2)], [.inl 2, .inl 0, .inl a2], h)) 3 rfl rfl rfl ?_
    refine ct_zS C (pc := 16) (aux := 0) [.inl a2, .inl 0, .inl 2] [] ok_X7_in lk_X7_100 (e_X7_in a2 0 2) rfl rfl rfl rfl rfl rfl (fun v2 => ?_)
    refine ct_zf0 C (pc := 19) (aux := 0) (cn := .ne) (off := 5) (k' := 14) (a := v2) Iff.rfl rfl rfl rfl (fun e50 => ?_) (fun e50 => ?_)
    · refine ct_zrun C (k' := 13) (y := ([(0, .inr (.inr (7, o))), (1, .inl a1), (2, .inl a2)], [.inl (-1)], h)) 1 rfl rfl rfl ?_
      exact ct_zret C (pc := 23) (aux := 0) (ins := .ireturn) (ρ := (fun r : Int × ct_H => (some (.inl (r.1) : ct_PV), r.2))) (some (.inl (-1))) rfl rfl rfl ⟨rfl, Or.inl rfl⟩
    · refine ct_zrun C (k' := 24) (y := ([(7, .inl 0), (6, .inl 0), (5, .inl 0), (4, .inl 0), (3, .inl 0), (0, .inr (.inr (7, o))), (1, .inl a1), (2, .inl a2)], [], h)) 10 rfl rfl rfl ?_
      refine ct_zsub [5, 6, 7, 4, 3, 2, 1, 0] rfl (zl_X7_tree_24 C o a1 a2 _ (fun b47 => ?_) 200 (0, 0, 0, 0, 0, h))
      refine ct_zrun C (k' := 99) (y := ([(2, .inl a2), (3, .inl (b47.1)), (4, .inl (b47.2.1)), (5, .inl (b47.2.2.1)), (6, .inl (b47.2.2.2.1))], [.inl a2], b47.2.2.2.2)) 1 rfl rfl rfl ?_
      refine ct_zf0 C (pc := 178) (aux := 0) (cn := .ne) (off := 7) (k' := 102) (a := a2) Iff.rfl rfl rfl rfl (fun e49 => ?_) (fun e49 => ?_)
      · refine ct_zrun C (k' := 101) (y := ([(2, .inl a2), (3, .inl (b47.1)), (4, .inl (b47.2.1)), (5, .inl (b47.2.2.1)), (6, .inl (b47.2.2.2.1))], [.inl (b47.1)], b47.2.2.2.2)) 1 rfl rfl rfl ?_
        refine ct_zgoto C (pc := 182) (aux := 0) (off := 18) (k' := 110) rfl rfl ?_
        exact ct_zret C (pc := 200) (aux := 0) (ins := .ireturn) (ρ := (fun r : Int × ct_H => (some (.inl (r.1) : ct_PV), r.2))) (some (.inl (b47.1))) rfl rfl rfl ⟨rfl, Or.inl rfl⟩
      · refine ct_zrun C (k' := 104) (y := ([(2, .inl a2), (3, .inl (b47.1)), (4, .inl (b47.2.1)), (5, .inl (b47.2.2.1)), (6, .inl (b47.2.2.2.1))], [.inl 1, .inl a2], b47.2.2.2.2)) 2 rfl rfl rfl ?_
        refine ct_zf C (pc := 187) (aux := 0) (cn := .ne) (off := 11) (k' := 109) (a := a2) (b := 1) Iff.rfl rfl rfl rfl (fun e48 => ?_) (fun e48 => ?_)
        · refine ct_zrun C (k' := 108) (y := ([(2, .inl a2), (3, .inl (b47.1)), (4, .inl (b47.2.1)), (5, .inl (b47.2.2.1)), (6, .inl (b47.2.2.2.1))], [.inl (ct_wr (b47.2.1 + b47.2.2.2.1))], b47.2.2.2.2)) 3 rfl rfl rfl ?_
          refine ct_zgoto C (pc := 195) (aux := 0) (off := 5) (k' := 110) rfl rfl ?_
          exact ct_zret C (pc := 200) (aux := 0) (ins := .ireturn) (ρ := (fun r : Int × ct_H => (some (.inl (r.1) : ct_PV), r.2))) (some (.inl (ct_wr (b47.2.1 + b47.2.2.2.1)))) rfl rfl rfl ⟨rfl, Or.inl rfl⟩
        · refine ct_zrun C (k' := 110) (y := ([(2, .inl a2), (3, .inl (b47.1)), (4, .inl (b47.2.1)), (5, .inl (b47.2.2.1)), (6, .inl (b47.2.2.2.1))], [.inl (b47.2.2.1)], b47.2.2.2.2)) 1 rfl rfl rfl ?_
          exact ct_zret C (pc := 200) (aux := 0) (ins := .ireturn) (ρ := (fun r : Int × ct_H => (some (.inl (r.1) : ct_PV), r.2))) (some (.inl (b47.2.2.1))) rfl rfl rfl ⟨rfl, Or.inl rfl⟩
def f_X7_between (G : ct_G) (h : ct_H) (o : Nat) (a1 : Int) (a2 : Int) : Option (Int) := (f_X7_isLevel G h a1).bind fun v1 => if v1 = 0 then (some (-2)) else (f_X7_isLevel G h a2).bind fun v2 => if v2 = 0 then (some (-2)) else (f_X7_volume G h o (ct_min a1 a2)).bind fun v3 => (f_X7_volume G h o (ct_max a1 a2)).bind fun v4 => some (ct_wr (v3 - v4))
set_option maxRecDepth 100000 in
theorem e_X7_between {d : Nat} {G : ct_G} {h : ct_H} (o : Nat) (a1 : Int) (a2 : Int) : ct_E m_X7_between (d + 3) G (ct_args 0 [.inr (.inr (7, o)), .inl a1, .inl a2]) h (fun r : Int => (some (.inl r : ct_PV), h)) (f_X7_between G h o a1 a2) := by
  intro x C
  unfold f_X7_between
  show ct_Z x m_X7_between G 0 [(0, .inr (.inr (7, o))), (1, .inl a1), (2, .inl a2)] [] h (fun a => ct_q x G ((fun r : Int => (some (.inl r : ct_PV), h)) a)) _
  refine ct_zrun C (k' := 1) (y := ([(0, .inr (.inr (7, o))), (1, .inl a1), (2, .inl a2)], [.inl a1], h)) 1 rfl rfl rfl ?_
  refine ct_zS C (pc := 1) (aux := 0) [.inl a1] [] ok_X7_isLevel lk_X7_325 (e_X7_isLevel a1) rfl rfl rfl rfl rfl rfl (fun v1 => ?_)
  refine ct_zt0 C (pc := 4) (aux := 0) (cn := .eq) (off := 10) (k' := 6) (a := v1) Iff.rfl rfl rfl rfl (fun e6 => ?_) (fun e6 => ?_)
  · refine ct_zrun C (k' := 7) (y := ([(0, .inr (.inr (7, o))), (1, .inl a1), (2, .inl a2)], [.inl (-2)], h)) 1 rfl rfl rfl ?_
    exact ct_zret C (pc := 16) (aux := 0) (ins := .ireturn) (ρ := (fun r : Int => (some (.inl r : ct_PV), h))) (some (.inl (-2))) rfl rfl rfl ⟨rfl, Or.inl rfl⟩
  · refine ct_zrun C (k' := 4) (y := ([(0, .inr (.inr (7, o))), (1, .inl a1), (2, .inl a2)], [.inl a2], h)) 1 rfl rfl rfl ?_
    refine ct_zS C (pc := 8) (aux := 0) [.inl a2] [] ok_X7_isLevel lk_X7_325 (e_X7_isLevel a2) rfl rfl rfl rfl rfl rfl (fun v2 => ?_)
    refine ct_zf0 C (pc := 11) (aux := 0) (cn := .ne) (off := 6) (k' := 8) (a := v2) Iff.rfl rfl rfl rfl (fun e5 => ?_) (fun e5 => ?_)
    · refine ct_zrun C (k' := 7) (y := ([(0, .inr (.inr (7, o))), (1, .inl a1), (2, .inl a2)], [.inl (-2)], h)) 1 rfl rfl rfl ?_
      exact ct_zret C (pc := 16) (aux := 0) (ins := .ireturn) (ρ := (fun r : Int => (some (.inl r : ct_PV), h))) (some (.inl (-2))) rfl rfl rfl ⟨rfl, Or.inl rfl⟩
    · refine ct_zrun C (k' := 11) (y := ([(0, .inr (.inr (7, o))), (1, .inl a1), (2, .inl a2)], [.inl a2, .inl a1, .inr (.inr (7, o))], h)) 3 rfl rfl rfl ?_
      refine ct_zmin C (pc := 20) (aux := 0) lk_X7_278 rfl rfl rfl ?_
      refine ct_zV C (pc := 23) (aux := 0) [.inl (ct_min a1 a2)] [] ok_X7_volume lk_X7_303 (e_X7_volume o (ct_min a1 a2)) rfl rfl rfl rfl rfl rfl rfl rfl (fun v3 => ?_)
      refine ct_zrun C (k' := 16) (y := ([(0, .inr (.inr (7, o))), (1, .inl a1), (2, .inl a2)], [.inl a2, .inl a1, .inr (.inr (7, o)), .inl v3], h)) 3 rfl rfl rfl ?_
      refine ct_zmax C (pc := 29) (aux := 0) lk_X7_121 rfl rfl rfl ?_
      refine ct_zV C (pc := 32) (aux := 0) [.inl (ct_max a1 a2)] [.inl v3] ok_X7_volume lk_X7_303 (e_X7_volume o (ct_max a1 a2)) rfl rfl rfl rfl rfl rfl rfl rfl (fun v4 => ?_)
      refine ct_zrun C (k' := 19) (y := ([(0, .inr (.inr (7, o))), (1, .inl a1), (2, .inl a2)], [.inl (ct_wr (v3 - v4))], h)) 1 rfl rfl rfl ?_
      exact ct_zret C (pc := 36) (aux := 0) (ins := .ireturn) (ρ := (fun r : Int => (some (.inl r : ct_PV), h))) (some (.inl (ct_wr (v3 - v4)))) rfl rfl rfl ⟨rfl, Or.inl rfl⟩
def f_X7_see (G : ct_G) (h : ct_H) (o : Nat) (a1 : Int) (a2 : Int) : Option (Int × ct_H) := if a1 = (-1) then (ct_lt (ct_wF h o 24 0) fun h9 => some (0, h9)) else (f_X7_isPoint G h o a1).bind fun v1 => if v1 = 0 then (some ((-1), h)) else (f_X7_in G h a2 0 1).bind fun v2 => if v2 = 0 then (some ((-2), h)) else if (h.1 o 24) = 6 then (some ((-4), h)) else (ct_wt G h (G.1 o 22) (h.1 o 24) a1).bind fun h3 => (ct_wt G h3 (G.1 o 23) (h3.1 o 24) a2).bind fun h4 => ct_lt (ct_wF h4 o 24 (ct_wr ((h4.1 o 24) + 1))) fun h5 => some ((h5.1 o 24), h5)
set_option maxRecDepth 100000 in
theorem e_X7_see {d : Nat} {G : ct_G} {h : ct_H} (o : Nat) (a1 : Int) (a2 : Int) : ct_E m_X7_see (d + 2) G (ct_args 0 [.inr (.inr (7, o)), .inl a1, .inl a2]) h (fun r : Int × ct_H => (some (.inl (r.1) : ct_PV), r.2)) (f_X7_see G h o a1 a2) := by
  intro x C
  unfold f_X7_see
  show ct_Z x m_X7_see G 0 [(0, .inr (.inr (7, o))), (1, .inl a1), (2, .inl a2)] [] h (fun a => ct_q x G ((fun r : Int × ct_H => (some (.inl (r.1) : ct_PV), r.2)) a)) _
  refine ct_zrun C (k' := 2) (y := ([(0, .inr (.inr (7, o))), (1, .inl a1), (2, .inl a2)], [.inl (-1), .inl a1], h)) 2 rfl rfl rfl ?_
  refine ct_zf C (pc := 2) (aux := 0) (cn := .ne) (off := 10) (k' := 8) (a := a1) (b := (-1)) Iff.rfl rfl rfl rfl (fun e10 => ?_) (fun e10 => ?_)
  · refine ct_zrun C (k' := 6) (y := ([(0, .inr (.inr (7, o))), (1, .inl a1), (2, .inl a2)], [], (ct_wF h o 24 0))) 3 rfl rfl rfl ?_
    refine ct_zlet (L := fun _ => [(0, .inr (.inr (7, o))), (1, .inl a1), (2, .inl a2)]) (S := fun _ => []) (Hh := fun h9 => h9) (a := (ct_wF h o 24 0)) (fun h9 => ?_)
    refine ct_zrun C (k' := 7) (y := ([(0, .inr (.inr (7, o))), (1, .inl a1), (2, .inl a2)], [.inl 0], h9)) 1 rfl rfl rfl ?_
    exact ct_zret C (pc := 11) (aux := 0) (ins := .ireturn) (ρ := (fun r : Int × ct_H => (some (.inl (r.1) : ct_PV), r.2))) (some (.inl 0)) rfl rfl rfl ⟨rfl, Or.inl rfl⟩
  · refine ct_zrun C (k' := 10) (y := ([(0, .inr (.inr (7, o))), (1, .inl a1), (2, .inl a2)], [.inl a1, .inr (.inr (7, o))], h)) 2 rfl rfl rfl ?_
    refine ct_zV C (pc := 14) (aux := 0) [.inl a1] [] ok_X7_isPoint lk_X7_108 (e_X7_isPoint o a1) rfl rfl rfl rfl rfl rfl rfl rfl (fun v1 => ?_)
    refine ct_zf0 C (pc := 17) (aux := 0) (cn := .ne) (off := 5) (k' := 14) (a := v1) Iff.rfl rfl rfl rfl (fun e8 => ?_) (fun e8 => ?_)
    · refine ct_zrun C (k' := 13) (y := ([(0, .inr (.inr (7, o))), (1, .inl a1), (2, .inl a2)], [.inl (-1)], h)) 1 rfl rfl rfl ?_
      exact ct_zret C (pc := 21) (aux := 0) (ins := .ireturn) (ρ := (fun r : Int × ct_H => (some (.inl (r.1) : ct_PV), r.2))) (some (.inl (-1))) rfl rfl rfl ⟨rfl, Or.inl rfl⟩
    · refine ct_zrun C (k' := 17) (y := ([(0, .inr (.inr (7, o))), (1, .inl a1), (2, .inl a2)], [.inl 1, .inl 0, .inl a2], h)) 3 rfl rfl rfl ?_
      refine ct_zS C (pc := 25) (aux := 0) [.inl a2, .inl 0, .inl 1] [] ok_X7_in lk_X7_100 (e_X7_in a2 0 1) rfl rfl rfl rfl rfl rfl (fun v2 => ?_)
      refine ct_zf0 C (pc := 28) (aux := 0) (cn := .ne) (off := 6) (k' := 21) (a := v2) Iff.rfl rfl rfl rfl (fun e7 => ?_) (fun e7 => ?_)
      · refine ct_zrun C (k' := 20) (y := ([(0, .inr (.inr (7, o))), (1, .inl a1), (2, .inl a2)], [.inl (-2)], h)) 1 rfl rfl rfl ?_
        exact ct_zret C (pc := 33) (aux := 0) (ins := .ireturn) (ρ := (fun r : Int × ct_H => (some (.inl (r.1) : ct_PV), r.2))) (some (.inl (-2))) rfl rfl rfl ⟨rfl, Or.inl rfl⟩
      · refine ct_zrun C (k' := 24) (y := ([(0, .inr (.inr (7, o))), (1, .inl a1), (2, .inl a2)], [.inl 6, .inl (h.1 o 24)], h)) 3 rfl rfl rfl ?_
        refine ct_zf C (pc := 40) (aux := 0) (cn := .ne) (off := 6) (k' := 27) (a := (h.1 o 24)) (b := 6) Iff.rfl rfl rfl rfl (fun e6 => ?_) (fun e6 => ?_)
        · refine ct_zrun C (k' := 26) (y := ([(0, .inr (.inr (7, o))), (1, .inl a1), (2, .inl a2)], [.inl (-4)], h)) 1 rfl rfl rfl ?_
          exact ct_zret C (pc := 45) (aux := 0) (ins := .ireturn) (ρ := (fun r : Int × ct_H => (some (.inl (r.1) : ct_PV), r.2))) (some (.inl (-4))) rfl rfl rfl ⟨rfl, Or.inl rfl⟩
        · refine ct_zrun C (k' := 32) (y := ([(0, .inr (.inr (7, o))), (1, .inl a1), (2, .inl a2)], [.inl a1, .inl (h.1 o 24), .inr (.inr (8, (G.1 o 22)))], h)) 5 rfl rfl rfl ?_
          refine ct_zwt C (pc := 55) (aux := 0) rfl rfl (fun h3 => ?_)
          refine ct_zrun C (k' := 38) (y := ([(0, .inr (.inr (7, o))), (1, .inl a1), (2, .inl a2)], [.inl a2, .inl (h3.1 o 24), .inr (.inr (8, (G.1 o 23)))], h3)) 5 rfl rfl rfl ?_
          refine ct_zwt C (pc := 65) (aux := 0) rfl rfl (fun h4 => ?_)
          refine ct_zrun C (k' := 45) (y := ([(0, .inr (.inr (7, o))), (1, .inl a1), (2, .inl a2)], [], (ct_wF h4 o 24 (ct_wr ((h4.1 o 24) + 1))))) 6 rfl rfl rfl ?_
          refine ct_zlet (L := fun _ => [(0, .inr (.inr (7, o))), (1, .inl a1), (2, .inl a2)]) (S := fun _ => []) (Hh := fun h5 => h5) (a := (ct_wF h4 o 24 (ct_wr ((h4.1 o 24) + 1)))) (fun h5 => ?_)
          refine ct_zrun C (k' := 47) (y := ([(0, .inr (.inr (7, o))), (1, .inl a1), (2, .inl a2)], [.inl (h5.1 o 24)], h5)) 2 rfl rfl rfl ?_
          exact ct_zret C (pc := 80) (aux := 0) (ins := .ireturn) (ρ := (fun r : Int × ct_H => (some (.inl (r.1) : ct_PV), r.2))) (some (.inl (h5.1 o 24))) rfl rfl rfl ⟨rfl, Or.inl rfl⟩
def l_X7_isSo_2 (G : ct_G) (o : Nat) (a1 : Int) (h : ct_H) : Nat → Int → Option (Int)
  | 0, _ => none
  | n2 + 1, b1 => if (h.1 o 24) ≤ b1 then (some 1) else (ct_rd G h (G.1 o 22) b1).bind fun v3 => (f_X7_isPoint G h o v3).bind fun v4 => if v4 = 0 then (some 0) else (ct_rd G h (G.1 o 3) v3).bind fun v5 => ct_jn (β := Int) (fun k7 => if v5 < a1 then (k7 0) else k7 1) (fun b6 => (ct_rd G h (G.1 o 23) b1).bind fun v9 => ct_jn (β := Int) (fun k11 => if v9 = 1 then (k11 1) else k11 0) (fun b10 => if b6 = b10 then (l_X7_isSo_2 G o a1 h n2 (ct_wr (b1 + 1))) else some 0))
set_option maxRecDepth 100000 in
theorem zl_X7_isSo_2 {x : ct_Ctx} {d : Nat} {G : ct_G} (C : ct_c x m_X7_isSo G (d + 2)) (o : Nat) (a1 : Int) (h : ct_H) : ∀ (n2 : Nat) (b1 : Int), ct_Z x m_X7_isSo G 2 [(0, .inr (.inr (7, o))), (1, .inl a1), (2, .inl b1)] [] h (fun a => ct_q x G ((fun r : Int => (some (.inl r : ct_PV), h)) a)) (l_X7_isSo_2 G o a1 h n2 b1) := by
  intro n2
  induction n2 with
  | zero => intro b1; exact ct_znone
  | succ n2 ih =>
    intro b1
    rw [l_X7_isSo_2]
    refine ct_zrun C (k' := 5) (y := ([(0, .inr (.inr (7, o))), (1, .inl a1), (2, .inl b1)], [.inl (h.1 o 24), .inl b1], h)) 3 rfl rfl rfl ?_
    refine ct_zt C (pc := 7) (aux := 0) (cn := .ge) (off := 59) (k' := 38) (a := b1) (b := (h.1 o 24)) Iff.rfl rfl rfl rfl (fun e17 => ?_) (fun e17 => ?_)
    · refine ct_zrun C (k' := 39) (y := ([(0, .inr (.inr (7, o))), (1, .inl a1), (2, .inl b1)], [.inl 1], h)) 1 rfl rfl rfl ?_
      exact ct_zret C (pc := 67) (aux := 0) (ins := .ireturn) (ρ := (fun r : Int => (some (.inl r : ct_PV), h))) (some (.inl 1)) rfl rfl rfl ⟨rfl, Or.inr ⟨rfl, Or.inr rfl⟩⟩
    · refine ct_zrun C (k' := 9) (y := ([(0, .inr (.inr (7, o))), (1, .inl a1), (2, .inl b1)], [.inl b1, .inr (.inr (8, (G.1 o 22)))], h)) 3 rfl rfl rfl ?_
      refine ct_zrd C (pc := 15) (aux := 0) (ins := .iaload) (cd := 8) rfl rfl (Or.inl ⟨rfl, rfl⟩) (fun v3 => ?_)
      refine ct_zrun C (k' := 13) (y := ([(3, .inl v3), (0, .inr (.inr (7, o))), (1, .inl a1), (2, .inl b1)], [.inl v3, .inr (.inr (7, o))], h)) 3 rfl rfl rfl ?_
      refine ct_zV C (pc := 19) (aux := 0) [.inl v3] [] ok_X7_isPoint lk_X7_108 (e_X7_isPoint o v3) rfl rfl rfl rfl rfl rfl rfl rfl (fun v4 => ?_)
      refine ct_zt0 C (pc := 22) (aux := 0) (cn := .eq) (off := 36) (k' := 34) (a := v4) Iff.rfl rfl rfl rfl (fun e16 => ?_) (fun e16 => ?_)
      · refine ct_zrun C (k' := 35) (y := ([(3, .inl v3), (0, .inr (.inr (7, o))), (1, .inl a1), (2, .inl b1)], [.inl 0], h)) 1 rfl rfl rfl ?_
        exact ct_zret C (pc := 59) (aux := 0) (ins := .ireturn) (ρ := (fun r : Int => (some (.inl r : ct_PV), h))) (some (.inl 0)) rfl rfl rfl ⟨rfl, Or.inr ⟨rfl, Or.inl rfl⟩⟩
      · refine ct_zrun C (k' := 18) (y := ([(3, .inl v3), (0, .inr (.inr (7, o))), (1, .inl a1), (2, .inl b1)], [.inl v3, .inr (.inr (8, (G.1 o 3)))], h)) 3 rfl rfl rfl ?_
        refine ct_zrd C (pc := 30) (aux := 0) (ins := .iaload) (cd := 8) rfl rfl (Or.inl ⟨rfl, rfl⟩) (fun v5 => ?_)
        refine ct_zrun C (k' := 20) (y := ([(3, .inl v3), (0, .inr (.inr (7, o))), (1, .inl a1), (2, .inl b1)], [.inl a1, .inl v5], h)) 1 rfl rfl rfl ?_
        refine ct_zjn (β := Int) (kJ := 24) (L := fun b6 => [(0, .inr (.inr (7, o))), (1, .inl a1), (2, .inl b1)]) (S := fun b6 => [.inl b6]) (Hh := fun b6 => h) (fun b6 => ?_) (fun k7 z8 => ?_)
        · refine ct_zrun C (k' := 27) (y := ([(0, .inr (.inr (7, o))), (1, .inl a1), (2, .inl b1)], [.inl b1, .inr (.inr (8, (G.1 o 23))), .inl b6], h)) 3 rfl rfl rfl ?_
          refine ct_zrd C (pc := 45) (aux := 0) (ins := .iaload) (cd := 8) rfl rfl (Or.inl ⟨rfl, rfl⟩) (fun v9 => ?_)
          refine ct_zrun C (k' := 29) (y := ([(0, .inr (.inr (7, o))), (1, .inl a1), (2, .inl b1)], [.inl 1, .inl v9, .inl b6], h)) 1 rfl rfl rfl ?_
          refine ct_zjn (β := Int) (kJ := 33) (L := fun b10 => [(0, .inr (.inr (7, o))), (1, .inl a1), (2, .inl b1)]) (S := fun b10 => [.inl b10, .inl b6]) (Hh := fun b10 => h) (fun b10 => ?_) (fun k11 z12 => ?_)
          · refine ct_zt C (pc := 55) (aux := 0) (cn := .eq) (off := 5) (k' := 36) (a := b6) (b := b10) Iff.rfl rfl rfl rfl (fun e13 => ?_) (fun e13 => ?_)
            · refine ct_zrun C (k' := 37) (y := ([(2, .inl (ct_wr (b1 + 1))), (0, .inr (.inr (7, o))), (1, .inl a1)], [], h)) 1 rfl rfl rfl ?_
              refine ct_zgoto C (pc := 63) (aux := 0) (off := (-61)) (k' := 2) rfl rfl ?_
              exact ct_zsub [1, 2, 0] rfl (ih (ct_wr (b1 + 1)))
            · refine ct_zrun C (k' := 35) (y := ([(0, .inr (.inr (7, o))), (1, .inl a1), (2, .inl b1)], [.inl 0], h)) 1 rfl rfl rfl ?_
              exact ct_zret C (pc := 59) (aux := 0) (ins := .ireturn) (ρ := (fun r : Int => (some (.inl r : ct_PV), h))) (some (.inl 0)) rfl rfl rfl ⟨rfl, Or.inr ⟨rfl, Or.inl rfl⟩⟩
          · refine ct_zf C (pc := 47) (aux := 0) (cn := .ne) (off := 7) (k' := 32) (a := v9) (b := 1) Iff.rfl rfl rfl rfl (fun e14 => ?_) (fun e14 => ?_)
            · refine ct_zrun C (k' := 31) (y := ([(0, .inr (.inr (7, o))), (1, .inl a1), (2, .inl b1)], [.inl 1, .inl b6], h)) 1 rfl rfl rfl ?_
              refine ct_zgoto C (pc := 51) (aux := 0) (off := 4) (k' := 33) rfl rfl ?_
              exact ct_zsub [0, 1, 2] rfl (z12 1)
            · refine ct_zrun C (k' := 33) (y := ([(0, .inr (.inr (7, o))), (1, .inl a1), (2, .inl b1)], [.inl 0, .inl b6], h)) 1 rfl rfl rfl ?_
              exact ct_zsub [0, 1, 2] rfl (z12 0)
        · refine ct_zt C (pc := 32) (aux := 0) (cn := .lt) (off := 7) (k' := 23) (a := v5) (b := a1) Iff.rfl rfl rfl rfl (fun e15 => ?_) (fun e15 => ?_)
          · refine ct_zrun C (k' := 24) (y := ([(3, .inl v3), (0, .inr (.inr (7, o))), (1, .inl a1), (2, .inl b1)], [.inl 0], h)) 1 rfl rfl rfl ?_
            exact ct_zsub [1, 2, 3] rfl (z8 0)
          · refine ct_zrun C (k' := 22) (y := ([(3, .inl v3), (0, .inr (.inr (7, o))), (1, .inl a1), (2, .inl b1)], [.inl 1], h)) 1 rfl rfl rfl ?_
            refine ct_zgoto C (pc := 36) (aux := 0) (off := 4) (k' := 24) rfl rfl ?_
            exact ct_zsub [1, 2, 3] rfl (z8 1)
def f_X7_isSo (G : ct_G) (h : ct_H) (o : Nat) (a1 : Int) : Option (Int) := l_X7_isSo_2 G o a1 h 200 0
set_option maxRecDepth 100000 in
theorem e_X7_isSo {d : Nat} {G : ct_G} {h : ct_H} (o : Nat) (a1 : Int) : ct_E m_X7_isSo (d + 2) G (ct_args 0 [.inr (.inr (7, o)), .inl a1]) h (fun r : Int => (some (.inl r : ct_PV), h)) (f_X7_isSo G h o a1) := by
  intro x C
  unfold f_X7_isSo
  show ct_Z x m_X7_isSo G 0 [(0, .inr (.inr (7, o))), (1, .inl a1)] [] h (fun a => ct_q x G ((fun r : Int => (some (.inl r : ct_PV), h)) a)) _
  refine ct_zrun C (k' := 2) (y := ([(2, .inl 0), (0, .inr (.inr (7, o))), (1, .inl a1)], [], h)) 2 rfl rfl rfl ?_
  exact ct_zsub [1, 2, 0] rfl (zl_X7_isSo_2 C o a1 h 200 0)
def l_X7_fits_13 (G : ct_G) (o : Nat) (h : ct_H) (k4 : (Int × Int) → Option (Int)) : Nat → (Int × Int × Int) → Option (Int)
  | 0, _ => none
  | n3 + 1, b2 => if b2.2.2 < 0 then (k4 (b2.1, b2.2.1)) else (f_X7_isSo G h o b2.2.2).bind fun v7 => ct_jn (β := Int × Int) (fun k9 => if v7 = 0 then (k9 (b2.1, b2.2.1)) else k9 ((ct_wr (b2.1 + 1)), b2.2.2)) (fun b8 => l_X7_fits_13 G o h k4 n3 (b8.1, b8.2, (ct_wr (b2.2.2 + (-1)))))
set_option maxRecDepth 100000 in
theorem zl_X7_fits_13 {x : ct_Ctx} {d : Nat} {G : ct_G} (C : ct_c x m_X7_fits G (d + 3)) (o : Nat) (a1 : Int) (h : ct_H) (k4 : (Int × Int) → Option (Int)) (z5 : ∀ b6 : Int × Int, ct_Z x m_X7_fits G 25 [(1, .inl a1), (2, .inl (b6.1)), (3, .inl (b6.2))] [] h (fun a => ct_q x G ((fun r : Int => (some (.inl r : ct_PV), h)) a)) (k4 b6)) : ∀ (n3 : Nat) (b2 : Int × Int × Int), ct_Z x m_X7_fits G 13 [(0, .inr (.inr (7, o))), (1, .inl a1), (2, .inl (b2.1)), (3, .inl (b2.2.1)), (4, .inl (b2.2.2))] [] h (fun a => ct_q x G ((fun r : Int => (some (.inl r : ct_PV), h)) a)) (l_X7_fits_13 G o h k4 n3 b2) := by
  intro n3
  induction n3 with
  | zero => intro b2; exact ct_znone
  | succ n3 ih =>
    intro b2
    rw [l_X7_fits_13]
    refine ct_zrun C (k' := 14) (y := ([(0, .inr (.inr (7, o))), (1, .inl a1), (2, .inl (b2.1)), (3, .inl (b2.2.1)), (4, .inl (b2.2.2))], [.inl (b2.2.2)], h)) 1 rfl rfl rfl ?_
    refine ct_zt0 C (pc := 22) (aux := 0) (cn := .lt) (off := 27) (k' := 25) (a := b2.2.2) Iff.rfl rfl rfl rfl (fun e12 => ?_) (fun e12 => ?_)
    · exact ct_zsub [1, 2, 3] rfl (z5 (b2.1, b2.2.1))
    · refine ct_zrun C (k' := 17) (y := ([(0, .inr (.inr (7, o))), (1, .inl a1), (2, .inl (b2.1)), (3, .inl (b2.2.1)), (4, .inl (b2.2.2))], [.inl (b2.2.2), .inr (.inr (7, o))], h)) 2 rfl rfl rfl ?_
      refine ct_zV C (pc := 28) (aux := 0) [.inl (b2.2.2)] [] ok_X7_isSo lk_X7_392 (e_X7_isSo o (b2.2.2)) rfl rfl rfl rfl rfl rfl rfl rfl (fun v7 => ?_)
      refine ct_zjn (β := Int × Int) (kJ := 23) (L := fun b8 => [(0, .inr (.inr (7, o))), (1, .inl a1), (2, .inl (b8.1)), (3, .inl (b8.2)), (4, .inl (b2.2.2))]) (S := fun b8 => []) (Hh := fun b8 => h) (fun b8 => ?_) (fun k9 z10 => ?_)
      · refine ct_zrun C (k' := 24) (y := ([(4, .inl (ct_wr (b2.2.2 + (-1)))), (0, .inr (.inr (7, o))), (1, .inl a1), (2, .inl (b8.1)), (3, .inl (b8.2))], [], h)) 1 rfl rfl rfl ?_
        refine ct_zgoto C (pc := 46) (aux := 0) (off := (-26)) (k' := 13) rfl rfl ?_
        exact ct_zsub [1, 2, 3, 4, 0] rfl (ih (b8.1, b8.2, (ct_wr (b2.2.2 + (-1)))))
      · refine ct_zf0 C (pc := 31) (aux := 0) (cn := .ne) (off := 6) (k' := 20) (a := v7) Iff.rfl rfl rfl rfl (fun e11 => ?_) (fun e11 => ?_)
        · refine ct_zgoto C (pc := 34) (aux := 0) (off := 9) (k' := 23) rfl rfl ?_
          exact ct_zsub [0, 1, 2, 3, 4] rfl (z10 (b2.1, b2.2.1))
        · refine ct_zrun C (k' := 23) (y := ([(3, .inl (b2.2.2)), (2, .inl (ct_wr (b2.1 + 1))), (0, .inr (.inr (7, o))), (1, .inl a1), (4, .inl (b2.2.2))], [], h)) 3 rfl rfl rfl ?_
          exact ct_zsub [2, 3, 1, 0, 4] rfl (z10 ((ct_wr (b2.1 + 1)), b2.2.2))
def f_X7_fits (G : ct_G) (h : ct_H) (o : Nat) (a1 : Int) : Option (Int) := (f_X7_in G h a1 0 1).bind fun v1 => if v1 = 0 then (some (-1)) else l_X7_fits_13 G o h (fun b13 => if a1 = 0 then (some (b13.1)) else some (b13.2)) 200 (0, (-5), 99)
set_option maxRecDepth 100000 in
theorem e_X7_fits {d : Nat} {G : ct_G} {h : ct_H} (o : Nat) (a1 : Int) : ct_E m_X7_fits (d + 3) G (ct_args 0 [.inr (.inr (7, o)), .inl a1]) h (fun r : Int => (some (.inl r : ct_PV), h)) (f_X7_fits G h o a1) := by
  intro x C
  unfold f_X7_fits
  show ct_Z x m_X7_fits G 0 [(0, .inr (.inr (7, o))), (1, .inl a1)] [] h (fun a => ct_q x G ((fun r : Int => (some (.inl r : ct_PV), h)) a)) _
  refine ct_zrun C (k' := 3) (y := ([(0, .inr (.inr (7, o))), (1, .inl a1)], [.inl 1, .inl 0, .inl a1], h)) 3 rfl rfl rfl ?_
  refine ct_zS C (pc := 3) (aux := 0) [.inl a1, .inl 0, .inl 1] [] ok_X7_in lk_X7_100 (e_X7_in a1 0 1) rfl rfl rfl rfl rfl rfl (fun v1 => ?_)
  refine ct_zf0 C (pc := 6) (aux := 0) (cn := .ne) (off := 5) (k' := 7) (a := v1) Iff.rfl rfl rfl rfl (fun e15 => ?_) (fun e15 => ?_)
  · refine ct_zrun C (k' := 6) (y := ([(0, .inr (.inr (7, o))), (1, .inl a1)], [.inl (-1)], h)) 1 rfl rfl rfl ?_
    exact ct_zret C (pc := 10) (aux := 0) (ins := .ireturn) (ρ := (fun r : Int => (some (.inl r : ct_PV), h))) (some (.inl (-1))) rfl rfl rfl ⟨rfl, Or.inl rfl⟩
  · refine ct_zrun C (k' := 13) (y := ([(4, .inl 99), (3, .inl (-5)), (2, .inl 0), (0, .inr (.inr (7, o))), (1, .inl a1)], [], h)) 6 rfl rfl rfl ?_
    refine ct_zsub [3, 4, 2, 1, 0] rfl (zl_X7_fits_13 C o a1 h _ (fun b13 => ?_) 200 (0, (-5), 99))
    refine ct_zrun C (k' := 26) (y := ([(1, .inl a1), (2, .inl (b13.1)), (3, .inl (b13.2))], [.inl a1], h)) 1 rfl rfl rfl ?_
    refine ct_zf0 C (pc := 50) (aux := 0) (cn := .ne) (off := 7) (k' := 29) (a := a1) Iff.rfl rfl rfl rfl (fun e14 => ?_) (fun e14 => ?_)
    · refine ct_zrun C (k' := 28) (y := ([(1, .inl a1), (2, .inl (b13.1)), (3, .inl (b13.2))], [.inl (b13.1)], h)) 1 rfl rfl rfl ?_
      refine ct_zgoto C (pc := 54) (aux := 0) (off := 4) (k' := 30) rfl rfl ?_
      exact ct_zret C (pc := 58) (aux := 0) (ins := .ireturn) (ρ := (fun r : Int => (some (.inl r : ct_PV), h))) (some (.inl (b13.1))) rfl rfl rfl ⟨rfl, Or.inl rfl⟩
    · refine ct_zrun C (k' := 30) (y := ([(1, .inl a1), (2, .inl (b13.1)), (3, .inl (b13.2))], [.inl (b13.2)], h)) 1 rfl rfl rfl ?_
      exact ct_zret C (pc := 58) (aux := 0) (ins := .ireturn) (ρ := (fun r : Int => (some (.inl r : ct_PV), h))) (some (.inl (b13.2))) rfl rfl rfl ⟨rfl, Or.inl rfl⟩
def f_X7_common_n (G : ct_G) (h : ct_H) : Nat → Int → Int → Option Int
  | 0, _, _ => none
  | n + 1, a0, a1 => if a1 = 0 then (some a0) else (ct_md a0 a1).bind fun v1 => (f_X7_common_n G h n a1 v1).bind fun v2 => some v2
set_option maxRecDepth 100000 in
theorem e_X7_common_n {d : Nat} {G : ct_G} {h : ct_H} : ∀ (n : Nat) (a0 : Int) (a1 : Int), ct_E m_X7_common (d + n) G (ct_args 0 [.inl a0, .inl a1]) h (fun r : Int => (some (.inl r : ct_PV), h)) (f_X7_common_n G h n a0 a1) := by
  intro n
  induction n with
  | zero => intro a0 a1 x C; exact ct_znone
  | succ n ih =>
    intro a0 a1 x C
    rw [f_X7_common_n]
    show ct_Z x m_X7_common G 0 [(0, .inl a0), (1, .inl a1)] [] h (fun a => ct_q x G ((fun r : Int => (some (.inl r : ct_PV), h)) a)) _
    refine ct_zrun C (k' := 1) (y := ([(0, .inl a0), (1, .inl a1)], [.inl a1], h)) 1 rfl rfl rfl ?_
    refine ct_zf0 C (pc := 1) (aux := 0) (cn := .ne) (off := 7) (k' := 4) (a := a1) Iff.rfl rfl rfl rfl (fun e1 => ?_) (fun e1 => ?_)
    · refine ct_zrun C (k' := 3) (y := ([(0, .inl a0), (1, .inl a1)], [.inl a0], h)) 1 rfl rfl rfl ?_
      refine ct_zgoto C (pc := 5) (aux := 0) (off := 10) (k' := 9) rfl rfl ?_
      exact ct_zret C (pc := 15) (aux := 0) (ins := .ireturn) (ρ := (fun r : Int => (some (.inl r : ct_PV), h))) (some (.inl a0)) rfl rfl rfl ⟨rfl, Or.inl rfl⟩
    · refine ct_zrun C (k' := 7) (y := ([(0, .inl a0), (1, .inl a1)], [.inl a1, .inl a0, .inl a1], h)) 3 rfl rfl rfl ?_
      refine ct_zmd C (pc := 11) (aux := 0) rfl rfl (fun v1 => ?_)
      refine ct_zS (d := d + n) C (pc := 12) (aux := 0) [.inl a1, .inl v1] [] ok_X7_common lk_X7_395 (ih a1 v1) rfl rfl rfl rfl rfl rfl (fun v2 => ?_)
      exact ct_zret C (pc := 15) (aux := 0) (ins := .ireturn) (ρ := (fun r : Int => (some (.inl r : ct_PV), h))) (some (.inl v2)) rfl rfl rfl ⟨rfl, Or.inl rfl⟩
def f_X7_common (G : ct_G) (h : ct_H) (a0 : Int) (a1 : Int) : Option Int := f_X7_common_n G h 20 a0 a1
set_option maxRecDepth 100000 in
theorem e_X7_common {d : Nat} {G : ct_G} {h : ct_H} (a0 : Int) (a1 : Int) : ct_E m_X7_common (d + 20) G (ct_args 0 [.inl a0, .inl a1]) h (fun r : Int => (some (.inl r : ct_PV), h)) (f_X7_common G h a0 a1) := e_X7_common_n 20 a0 a1
def f_X7_lowest (G : ct_G) (h : ct_H) (a0 : Int) (a1 : Int) (a2 : Int) : Option (Int64) := (f_X7_common G h a0 a1).bind fun v1 => if a2 = 0 then ((ct_dv a0 v1).bind fun v3 => some ((Int32.ofInt v3).toInt64)) else (ct_dv a1 v1).bind fun v2 => some ((Int32.ofInt v2).toInt64)
set_option maxRecDepth 100000 in
theorem e_X7_lowest {d : Nat} {G : ct_G} {h : ct_H} (a0 : Int) (a1 : Int) (a2 : Int) : ct_E m_X7_lowest (d + 21) G (ct_args 0 [.inl a0, .inl a1, .inl a2]) h (fun r : Int64 => (some (.inr (.inl r) : ct_PV), h)) (f_X7_lowest G h a0 a1 a2) := by
  intro x C
  unfold f_X7_lowest
  show ct_Z x m_X7_lowest G 0 [(0, .inl a0), (1, .inl a1), (2, .inl a2)] [] h (fun a => ct_q x G ((fun r : Int64 => (some (.inr (.inl r) : ct_PV), h)) a)) _
  refine ct_zrun C (k' := 2) (y := ([(0, .inl a0), (1, .inl a1), (2, .inl a2)], [.inl a1, .inl a0], h)) 2 rfl rfl rfl ?_
  refine ct_zS C (pc := 2) (aux := 0) [.inl a0, .inl a1] [] ok_X7_common lk_X7_395 (e_X7_common a0 a1) rfl rfl rfl rfl rfl rfl (fun v1 => ?_)
  refine ct_zrun C (k' := 5) (y := ([(3, .inl v1), (0, .inl a0), (1, .inl a1), (2, .inl a2)], [.inl a2], h)) 2 rfl rfl rfl ?_
  refine ct_zf0 C (pc := 7) (aux := 0) (cn := .ne) (off := 10) (k' := 11) (a := a2) Iff.rfl rfl rfl rfl (fun e4 => ?_) (fun e4 => ?_)
  · refine ct_zrun C (k' := 8) (y := ([(3, .inl v1), (0, .inl a0), (1, .inl a1), (2, .inl a2)], [.inl v1, .inl a0], h)) 2 rfl rfl rfl ?_
    refine ct_zdv C (pc := 12) (aux := 0) rfl rfl (fun v3 => ?_)
    refine ct_zrun C (k' := 10) (y := ([(3, .inl v1), (0, .inl a0), (1, .inl a1), (2, .inl a2)], [.inr (.inl ((Int32.ofInt v3).toInt64))], h)) 1 rfl rfl rfl ?_
    refine ct_zgoto C (pc := 14) (aux := 0) (off := 7) (k' := 15) rfl rfl ?_
    exact ct_zret C (pc := 21) (aux := 0) (ins := .lreturn) (ρ := (fun r : Int64 => (some (.inr (.inl r) : ct_PV), h))) (some (.inr (.inl ((Int32.ofInt v3).toInt64)))) rfl rfl rfl ⟨rfl, rfl⟩
  · refine ct_zrun C (k' := 13) (y := ([(3, .inl v1), (0, .inl a0), (1, .inl a1), (2, .inl a2)], [.inl v1, .inl a1], h)) 2 rfl rfl rfl ?_
    refine ct_zdv C (pc := 19) (aux := 0) rfl rfl (fun v2 => ?_)
    refine ct_zrun C (k' := 15) (y := ([(3, .inl v1), (0, .inl a0), (1, .inl a1), (2, .inl a2)], [.inr (.inl ((Int32.ofInt v2).toInt64))], h)) 1 rfl rfl rfl ?_
    exact ct_zret C (pc := 21) (aux := 0) (ins := .lreturn) (ρ := (fun r : Int64 => (some (.inr (.inl r) : ct_PV), h))) (some (.inr (.inl ((Int32.ofInt v2).toInt64)))) rfl rfl rfl ⟨rfl, rfl⟩
def f_X7_odds (G : ct_G) (h : ct_H) (o : Nat) (a1 : Int) (a2 : Int) : Option (Int64) := (f_X7_isPoint G h o a1).bind fun v1 => ct_jn (β := Unit) (fun k3 => if v1 = 0 then (k3 ()) else (f_X7_in G h a2 0 1).bind fun v5 => if v5 = 0 then (k3 ()) else (ct_rd G h (G.1 o 3) a1).bind fun v6 => (f_X7_lowest G h (ct_wr (v6 + 1)) 100 a2).bind fun v7 => some v7) (fun b2 => some (-9223372036854775808 : Int64))
set_option maxRecDepth 100000 in
theorem e_X7_odds {d : Nat} {G : ct_G} {h : ct_H} (o : Nat) (a1 : Int) (a2 : Int) : ct_E m_X7_odds (d + 22) G (ct_args 0 [.inr (.inr (7, o)), .inl a1, .inl a2]) h (fun r : Int64 => (some (.inr (.inl r) : ct_PV), h)) (f_X7_odds G h o a1 a2) := by
  intro x C
  unfold f_X7_odds
  show ct_Z x m_X7_odds G 0 [(0, .inr (.inr (7, o))), (1, .inl a1), (2, .inl a2)] [] h (fun a => ct_q x G ((fun r : Int64 => (some (.inr (.inl r) : ct_PV), h)) a)) _
  refine ct_zrun C (k' := 2) (y := ([(0, .inr (.inr (7, o))), (1, .inl a1), (2, .inl a2)], [.inl a1, .inr (.inr (7, o))], h)) 2 rfl rfl rfl ?_
  refine ct_zV C (pc := 2) (aux := 0) [.inl a1] [] ok_X7_isPoint lk_X7_108 (e_X7_isPoint o a1) rfl rfl rfl rfl rfl rfl rfl rfl (fun v1 => ?_)
  refine ct_zjn (β := Unit) (kJ := 9) (L := fun b2 => []) (S := fun b2 => []) (Hh := fun b2 => h) (fun b2 => ?_) (fun k3 z4 => ?_)
  · refine ct_zldc2 C (pc := 17) (aux := 0) (v := -9223372036854775808) lc_X7_398 rfl rfl ?_
    exact ct_zret C (pc := 20) (aux := 0) (ins := .lreturn) (ρ := (fun r : Int64 => (some (.inr (.inl r) : ct_PV), h))) (some (.inr (.inl (-9223372036854775808 : Int64)))) rfl rfl rfl ⟨rfl, rfl⟩
  · refine ct_zt0 C (pc := 5) (aux := 0) (cn := .eq) (off := 12) (k' := 9) (a := v1) Iff.rfl rfl rfl rfl (fun e9 => ?_) (fun e9 => ?_)
    · exact ct_zsub [] rfl (z4 ())
    · refine ct_zrun C (k' := 7) (y := ([(0, .inr (.inr (7, o))), (1, .inl a1), (2, .inl a2)], [.inl 1, .inl 0, .inl a2], h)) 3 rfl rfl rfl ?_
      refine ct_zS C (pc := 11) (aux := 0) [.inl a2, .inl 0, .inl 1] [] ok_X7_in lk_X7_100 (e_X7_in a2 0 1) rfl rfl rfl rfl rfl rfl (fun v5 => ?_)
      refine ct_zf0 C (pc := 14) (aux := 0) (cn := .ne) (off := 7) (k' := 11) (a := v5) Iff.rfl rfl rfl rfl (fun e8 => ?_) (fun e8 => ?_)
      · exact ct_zsub [] rfl (z4 ())
      · refine ct_zrun C (k' := 14) (y := ([(0, .inr (.inr (7, o))), (1, .inl a1), (2, .inl a2)], [.inl a1, .inr (.inr (8, (G.1 o 3)))], h)) 3 rfl rfl rfl ?_
        refine ct_zrd C (pc := 26) (aux := 0) (ins := .iaload) (cd := 8) rfl rfl (Or.inl ⟨rfl, rfl⟩) (fun v6 => ?_)
        refine ct_zrun C (k' := 19) (y := ([(0, .inr (.inr (7, o))), (1, .inl a1), (2, .inl a2)], [.inl a2, .inl 100, .inl (ct_wr (v6 + 1))], h)) 4 rfl rfl rfl ?_
        refine ct_zS C (pc := 32) (aux := 0) [.inl (ct_wr (v6 + 1)), .inl 100, .inl a2] [] ok_X7_lowest lk_X7_400 (e_X7_lowest (ct_wr (v6 + 1)) 100 a2) rfl rfl rfl rfl rfl rfl (fun v7 => ?_)
        exact ct_zret C (pc := 35) (aux := 0) (ins := .lreturn) (ρ := (fun r : Int64 => (some (.inr (.inl r) : ct_PV), h))) (some (.inr (.inl v7))) rfl rfl rfl ⟨rfl, rfl⟩
def l_X7_mean_11 (G : ct_G) (o : Nat) (k4 : (Int × ct_H) → Option (Int64 × ct_H)) : Nat → (Int × Int × ct_H) → Option (Int64 × ct_H)
  | 0, _ => none
  | n3 + 1, b2 => if 100 ≤ b2.2.1 then (k4 (b2.1, b2.2.2)) else (f_X7_linesAt G b2.2.2 o b2.2.1).bind fun r7 => ct_lt (ct_wr (b2.1 + r7.1)) fun v8 => l_X7_mean_11 G o k4 n3 (v8, (ct_wr (b2.2.1 + 1)), r7.2)
set_option maxRecDepth 100000 in
theorem zl_X7_mean_11 {x : ct_Ctx} {d : Nat} {G : ct_G} (C : ct_c x m_X7_mean G (d + 22)) (o : Nat) (a1 : Int) (k4 : (Int × ct_H) → Option (Int64 × ct_H)) (z5 : ∀ b6 : Int × ct_H, ct_Z x m_X7_mean G 22 [(1, .inl a1), (2, .inl (b6.1))] [] b6.2 (fun a => ct_q x G ((fun r : Int64 × ct_H => (some (.inr (.inl (r.1)) : ct_PV), r.2)) a)) (k4 b6)) : ∀ (n3 : Nat) (b2 : Int × Int × ct_H), ct_Z x m_X7_mean G 11 [(0, .inr (.inr (7, o))), (1, .inl a1), (2, .inl (b2.1)), (3, .inl (b2.2.1))] [] b2.2.2 (fun a => ct_q x G ((fun r : Int64 × ct_H => (some (.inr (.inl (r.1)) : ct_PV), r.2)) a)) (l_X7_mean_11 G o k4 n3 b2) := by
  intro n3
  induction n3 with
  | zero => intro b2; exact ct_znone
  | succ n3 ih =>
    intro b2
    rw [l_X7_mean_11]
    refine ct_zrun C (k' := 13) (y := ([(0, .inr (.inr (7, o))), (1, .inl a1), (2, .inl (b2.1)), (3, .inl (b2.2.1))], [.inl 100, .inl (b2.2.1)], b2.2.2)) 2 rfl rfl rfl ?_
    refine ct_zt C (pc := 20) (aux := 0) (cn := .ge) (off := 17) (k' := 22) (a := b2.2.1) (b := 100) Iff.rfl rfl rfl rfl (fun e9 => ?_) (fun e9 => ?_)
    · exact ct_zsub [1, 2] rfl (z5 (b2.1, b2.2.2))
    · refine ct_zrun C (k' := 17) (y := ([(0, .inr (.inr (7, o))), (1, .inl a1), (2, .inl (b2.1)), (3, .inl (b2.2.1))], [.inl (b2.2.1), .inr (.inr (7, o)), .inl (b2.1)], b2.2.2)) 3 rfl rfl rfl ?_
      refine ct_zV C (pc := 26) (aux := 0) [.inl (b2.2.1)] [.inl (b2.1)] ok_X7_linesAt lk_X7_310 (e_X7_linesAt o (b2.2.1)) rfl rfl rfl rfl rfl rfl rfl rfl (fun r7 => ?_)
      refine ct_zrun C (k' := 20) (y := ([(2, .inl (ct_wr (b2.1 + r7.1))), (0, .inr (.inr (7, o))), (1, .inl a1), (3, .inl (b2.2.1))], [], r7.2)) 2 rfl rfl rfl ?_
      refine ct_zlet (L := fun v8 => [(2, .inl v8), (0, .inr (.inr (7, o))), (1, .inl a1), (3, .inl (b2.2.1))]) (S := fun _ => []) (Hh := fun _ => r7.2) (a := (ct_wr (b2.1 + r7.1))) (fun v8 => ?_)
      refine ct_zrun C (k' := 21) (y := ([(3, .inl (ct_wr (b2.2.1 + 1))), (2, .inl v8), (0, .inr (.inr (7, o))), (1, .inl a1)], [], r7.2)) 1 rfl rfl rfl ?_
      refine ct_zgoto C (pc := 34) (aux := 0) (off := (-17)) (k' := 11) rfl rfl ?_
      exact ct_zsub [2, 3, 1, 0] rfl (ih (v8, (ct_wr (b2.2.1 + 1)), r7.2))
def f_X7_mean (G : ct_G) (h : ct_H) (o : Nat) (a1 : Int) : Option (Int64 × ct_H) := (f_X7_in G h a1 0 1).bind fun v1 => if v1 = 0 then (some ((-9223372036854775808 : Int64), h)) else l_X7_mean_11 G o (fun b10 => (f_X7_lowest G b10.2 b10.1 100 a1).bind fun v11 => some (v11, b10.2)) 200 (0, 0, h)
set_option maxRecDepth 100000 in
theorem e_X7_mean {d : Nat} {G : ct_G} {h : ct_H} (o : Nat) (a1 : Int) : ct_E m_X7_mean (d + 22) G (ct_args 0 [.inr (.inr (7, o)), .inl a1]) h (fun r : Int64 × ct_H => (some (.inr (.inl (r.1)) : ct_PV), r.2)) (f_X7_mean G h o a1) := by
  intro x C
  unfold f_X7_mean
  show ct_Z x m_X7_mean G 0 [(0, .inr (.inr (7, o))), (1, .inl a1)] [] h (fun a => ct_q x G ((fun r : Int64 × ct_H => (some (.inr (.inl (r.1)) : ct_PV), r.2)) a)) _
  refine ct_zrun C (k' := 3) (y := ([(0, .inr (.inr (7, o))), (1, .inl a1)], [.inl 1, .inl 0, .inl a1], h)) 3 rfl rfl rfl ?_
  refine ct_zS C (pc := 3) (aux := 0) [.inl a1, .inl 0, .inl 1] [] ok_X7_in lk_X7_100 (e_X7_in a1 0 1) rfl rfl rfl rfl rfl rfl (fun v1 => ?_)
  refine ct_zf0 C (pc := 6) (aux := 0) (cn := .ne) (off := 7) (k' := 7) (a := v1) Iff.rfl rfl rfl rfl (fun e12 => ?_) (fun e12 => ?_)
  · refine ct_zldc2 C (pc := 9) (aux := 0) (v := -9223372036854775808) lc_X7_398 rfl rfl ?_
    exact ct_zret C (pc := 12) (aux := 0) (ins := .lreturn) (ρ := (fun r : Int64 × ct_H => (some (.inr (.inl (r.1)) : ct_PV), r.2))) (some (.inr (.inl (-9223372036854775808 : Int64)))) rfl rfl rfl ⟨rfl, rfl⟩
  · refine ct_zrun C (k' := 11) (y := ([(3, .inl 0), (2, .inl 0), (0, .inr (.inr (7, o))), (1, .inl a1)], [], h)) 4 rfl rfl rfl ?_
    refine ct_zsub [2, 3, 1, 0] rfl (zl_X7_mean_11 C o a1 _ (fun b10 => ?_) 200 (0, 0, h))
    refine ct_zrun C (k' := 25) (y := ([(1, .inl a1), (2, .inl (b10.1))], [.inl a1, .inl 100, .inl (b10.1)], b10.2)) 3 rfl rfl rfl ?_
    refine ct_zS C (pc := 41) (aux := 0) [.inl (b10.1), .inl 100, .inl a1] [] ok_X7_lowest lk_X7_400 (e_X7_lowest (b10.1) 100 a1) rfl rfl rfl rfl rfl rfl (fun v11 => ?_)
    exact ct_zret C (pc := 44) (aux := 0) (ins := .lreturn) (ρ := (fun r : Int64 × ct_H => (some (.inr (.inl (r.1)) : ct_PV), r.2))) (some (.inr (.inl v11))) rfl rfl rfl ⟨rfl, rfl⟩
def f_X7_isNumber (G : ct_G) (h : ct_H) (a0 : Int) (a1 : Int) : Option (Int) := if a0 = 2 then ((f_X7_in G h a1 0 99).bind fun v6 => (ct_bz v6).bind fun _ => some v6) else if a0 = 3 then ((f_X7_in G h a1 0 4).bind fun v3 => (ct_bz v3).bind fun _ => some v3) else if a0 = 4 then (if a1 = 0 then (some 1) else some 0) else some 1
set_option maxRecDepth 100000 in
theorem e_X7_isNumber {d : Nat} {G : ct_G} {h : ct_H} (a0 : Int) (a1 : Int) : ct_E m_X7_isNumber (d + 1) G (ct_args 0 [.inl a0, .inl a1]) h (fun r : Int => (some (.inl r : ct_PV), h)) (f_X7_isNumber G h a0 a1) := by
  intro x C
  unfold f_X7_isNumber
  show ct_Z x m_X7_isNumber G 0 [(0, .inl a0), (1, .inl a1)] [] h (fun a => ct_q x G ((fun r : Int => (some (.inl r : ct_PV), h)) a)) _
  refine ct_zrun C (k' := 2) (y := ([(0, .inl a0), (1, .inl a1)], [.inl 2, .inl a0], h)) 2 rfl rfl rfl ?_
  refine ct_zf C (pc := 2) (aux := 0) (cn := .ne) (off := 13) (k' := 8) (a := a0) (b := 2) Iff.rfl rfl rfl rfl (fun e8 => ?_) (fun e8 => ?_)
  · refine ct_zrun C (k' := 6) (y := ([(0, .inl a0), (1, .inl a1)], [.inl 99, .inl 0, .inl a1], h)) 3 rfl rfl rfl ?_
    refine ct_zS C (pc := 9) (aux := 0) [.inl a1, .inl 0, .inl 99] [] ok_X7_in lk_X7_100 (e_X7_in a1 0 99) rfl rfl rfl rfl rfl rfl (fun v6 => ?_)
    refine ct_zgoto C (pc := 12) (aux := 0) (off := 31) (k' := 24) rfl rfl ?_
    refine ct_zbz (F := fun _ => some v6) (fun z7 => ?_)
    exact ct_zret C (pc := 43) (aux := 0) (ins := .ireturn) (ρ := (fun r : Int => (some (.inl r : ct_PV), h))) (some (.inl v6)) rfl rfl rfl ⟨rfl, Or.inr ⟨rfl, z7⟩⟩
  · refine ct_zrun C (k' := 10) (y := ([(0, .inl a0), (1, .inl a1)], [.inl 3, .inl a0], h)) 2 rfl rfl rfl ?_
    refine ct_zf C (pc := 17) (aux := 0) (cn := .ne) (off := 12) (k' := 16) (a := a0) (b := 3) Iff.rfl rfl rfl rfl (fun e5 => ?_) (fun e5 => ?_)
    · refine ct_zrun C (k' := 14) (y := ([(0, .inl a0), (1, .inl a1)], [.inl 4, .inl 0, .inl a1], h)) 3 rfl rfl rfl ?_
      refine ct_zS C (pc := 23) (aux := 0) [.inl a1, .inl 0, .inl 4] [] ok_X7_in lk_X7_100 (e_X7_in a1 0 4) rfl rfl rfl rfl rfl rfl (fun v3 => ?_)
      refine ct_zgoto C (pc := 26) (aux := 0) (off := 17) (k' := 24) rfl rfl ?_
      refine ct_zbz (F := fun _ => some v3) (fun z4 => ?_)
      exact ct_zret C (pc := 43) (aux := 0) (ins := .ireturn) (ρ := (fun r : Int => (some (.inl r : ct_PV), h))) (some (.inl v3)) rfl rfl rfl ⟨rfl, Or.inr ⟨rfl, z4⟩⟩
    · refine ct_zrun C (k' := 18) (y := ([(0, .inl a0), (1, .inl a1)], [.inl 4, .inl a0], h)) 2 rfl rfl rfl ?_
      refine ct_zf C (pc := 31) (aux := 0) (cn := .ne) (off := 7) (k' := 21) (a := a0) (b := 4) Iff.rfl rfl rfl rfl (fun e2 => ?_) (fun e2 => ?_)
      · refine ct_zrun C (k' := 20) (y := ([(0, .inl a0), (1, .inl a1)], [.inl a1], h)) 1 rfl rfl rfl ?_
        refine ct_zf0 C (pc := 35) (aux := 0) (cn := .ne) (off := 7) (k' := 23) (a := a1) Iff.rfl rfl rfl rfl (fun e1 => ?_) (fun e1 => ?_)
        · refine ct_zrun C (k' := 22) (y := ([(0, .inl a0), (1, .inl a1)], [.inl 1], h)) 1 rfl rfl rfl ?_
          refine ct_zgoto C (pc := 39) (aux := 0) (off := 4) (k' := 24) rfl rfl ?_
          exact ct_zret C (pc := 43) (aux := 0) (ins := .ireturn) (ρ := (fun r : Int => (some (.inl r : ct_PV), h))) (some (.inl 1)) rfl rfl rfl ⟨rfl, Or.inr ⟨rfl, Or.inr rfl⟩⟩
        · refine ct_zrun C (k' := 24) (y := ([(0, .inl a0), (1, .inl a1)], [.inl 0], h)) 1 rfl rfl rfl ?_
          exact ct_zret C (pc := 43) (aux := 0) (ins := .ireturn) (ρ := (fun r : Int => (some (.inl r : ct_PV), h))) (some (.inl 0)) rfl rfl rfl ⟨rfl, Or.inr ⟨rfl, Or.inl rfl⟩⟩
      · refine ct_zrun C (k' := 22) (y := ([(0, .inl a0), (1, .inl a1)], [.inl 1], h)) 1 rfl rfl rfl ?_
        refine ct_zgoto C (pc := 39) (aux := 0) (off := 4) (k' := 24) rfl rfl ?_
        exact ct_zret C (pc := 43) (aux := 0) (ins := .ireturn) (ρ := (fun r : Int => (some (.inl r : ct_PV), h))) (some (.inl 1)) rfl rfl rfl ⟨rfl, Or.inr ⟨rfl, Or.inr rfl⟩⟩
def f_X7_event (G : ct_G) (h : ct_H) (o : Nat) (a1 : Int) (a2 : Int) : Option (Int × ct_H) := if a1 = (-1) then (ct_lt (ct_wF h o 27 0) fun h15 => some (0, h15)) else (f_X7_in G h a1 0 4).bind fun v1 => if v1 = 0 then (some ((-1), h)) else ct_jn (β := Unit) (fun k3 => if 2 ≤ a1 then (k3 ()) else (f_X7_isPoint G h o a2).bind fun v11 => if v11 = 0 then (some ((-1), h)) else k3 ()) (fun b2 => (f_X7_isNumber G h a1 a2).bind fun v5 => if v5 = 0 then (some ((-2), h)) else if (h.1 o 27) = 8 then (some ((-4), h)) else (ct_wt G h (G.1 o 25) (h.1 o 27) a1).bind fun h6 => (ct_wt G h6 (G.1 o 26) (h6.1 o 27) a2).bind fun h7 => ct_lt (ct_wF h7 o 27 (ct_wr ((h7.1 o 27) + 1))) fun h8 => some ((h8.1 o 27), h8))
set_option maxRecDepth 100000 in
theorem e_X7_event {d : Nat} {G : ct_G} {h : ct_H} (o : Nat) (a1 : Int) (a2 : Int) : ct_E m_X7_event (d + 2) G (ct_args 0 [.inr (.inr (7, o)), .inl a1, .inl a2]) h (fun r : Int × ct_H => (some (.inl (r.1) : ct_PV), r.2)) (f_X7_event G h o a1 a2) := by
  intro x C
  unfold f_X7_event
  show ct_Z x m_X7_event G 0 [(0, .inr (.inr (7, o))), (1, .inl a1), (2, .inl a2)] [] h (fun a => ct_q x G ((fun r : Int × ct_H => (some (.inl (r.1) : ct_PV), r.2)) a)) _
  refine ct_zrun C (k' := 2) (y := ([(0, .inr (.inr (7, o))), (1, .inl a1), (2, .inl a2)], [.inl (-1), .inl a1], h)) 2 rfl rfl rfl ?_
  refine ct_zf C (pc := 2) (aux := 0) (cn := .ne) (off := 10) (k' := 8) (a := a1) (b := (-1)) Iff.rfl rfl rfl rfl (fun e16 => ?_) (fun e16 => ?_)
  · refine ct_zrun C (k' := 6) (y := ([(0, .inr (.inr (7, o))), (1, .inl a1), (2, .inl a2)], [], (ct_wF h o 27 0))) 3 rfl rfl rfl ?_
    refine ct_zlet (L := fun _ => [(0, .inr (.inr (7, o))), (1, .inl a1), (2, .inl a2)]) (S := fun _ => []) (Hh := fun h15 => h15) (a := (ct_wF h o 27 0)) (fun h15 => ?_)
    refine ct_zrun C (k' := 7) (y := ([(0, .inr (.inr (7, o))), (1, .inl a1), (2, .inl a2)], [.inl 0], h15)) 1 rfl rfl rfl ?_
    exact ct_zret C (pc := 11) (aux := 0) (ins := .ireturn) (ρ := (fun r : Int × ct_H => (some (.inl (r.1) : ct_PV), r.2))) (some (.inl 0)) rfl rfl rfl ⟨rfl, Or.inl rfl⟩
  · refine ct_zrun C (k' := 11) (y := ([(0, .inr (.inr (7, o))), (1, .inl a1), (2, .inl a2)], [.inl 4, .inl 0, .inl a1], h)) 3 rfl rfl rfl ?_
    refine ct_zS C (pc := 15) (aux := 0) [.inl a1, .inl 0, .inl 4] [] ok_X7_in lk_X7_100 (e_X7_in a1 0 4) rfl rfl rfl rfl rfl rfl (fun v1 => ?_)
    refine ct_zt0 C (pc := 18) (aux := 0) (cn := .eq) (off := 16) (k' := 20) (a := v1) Iff.rfl rfl rfl rfl (fun e14 => ?_) (fun e14 => ?_)
    · refine ct_zrun C (k' := 21) (y := ([(0, .inr (.inr (7, o))), (1, .inl a1), (2, .inl a2)], [.inl (-1)], h)) 1 rfl rfl rfl ?_
      exact ct_zret C (pc := 35) (aux := 0) (ins := .ireturn) (ρ := (fun r : Int × ct_H => (some (.inl (r.1) : ct_PV), r.2))) (some (.inl (-1))) rfl rfl rfl ⟨rfl, Or.inl rfl⟩
    · refine ct_zrun C (k' := 15) (y := ([(0, .inr (.inr (7, o))), (1, .inl a1), (2, .inl a2)], [.inl 2, .inl a1], h)) 2 rfl rfl rfl ?_
      refine ct_zjn (β := Unit) (kJ := 22) (L := fun b2 => [(0, .inr (.inr (7, o))), (1, .inl a1), (2, .inl a2)]) (S := fun b2 => []) (Hh := fun b2 => h) (fun b2 => ?_) (fun k3 z4 => ?_)
      · refine ct_zrun C (k' := 24) (y := ([(0, .inr (.inr (7, o))), (1, .inl a1), (2, .inl a2)], [.inl a2, .inl a1], h)) 2 rfl rfl rfl ?_
        refine ct_zS C (pc := 38) (aux := 0) [.inl a1, .inl a2] [] ok_X7_isNumber lk_X7_407 (e_X7_isNumber a1 a2) rfl rfl rfl rfl rfl rfl (fun v5 => ?_)
        refine ct_zf0 C (pc := 41) (aux := 0) (cn := .ne) (off := 6) (k' := 28) (a := v5) Iff.rfl rfl rfl rfl (fun e10 => ?_) (fun e10 => ?_)
        · refine ct_zrun C (k' := 27) (y := ([(0, .inr (.inr (7, o))), (1, .inl a1), (2, .inl a2)], [.inl (-2)], h)) 1 rfl rfl rfl ?_
          exact ct_zret C (pc := 46) (aux := 0) (ins := .ireturn) (ρ := (fun r : Int × ct_H => (some (.inl (r.1) : ct_PV), r.2))) (some (.inl (-2))) rfl rfl rfl ⟨rfl, Or.inl rfl⟩
        · refine ct_zrun C (k' := 31) (y := ([(0, .inr (.inr (7, o))), (1, .inl a1), (2, .inl a2)], [.inl 8, .inl (h.1 o 27)], h)) 3 rfl rfl rfl ?_
          refine ct_zf C (pc := 53) (aux := 0) (cn := .ne) (off := 6) (k' := 34) (a := (h.1 o 27)) (b := 8) Iff.rfl rfl rfl rfl (fun e9 => ?_) (fun e9 => ?_)
          · refine ct_zrun C (k' := 33) (y := ([(0, .inr (.inr (7, o))), (1, .inl a1), (2, .inl a2)], [.inl (-4)], h)) 1 rfl rfl rfl ?_
            exact ct_zret C (pc := 58) (aux := 0) (ins := .ireturn) (ρ := (fun r : Int × ct_H => (some (.inl (r.1) : ct_PV), r.2))) (some (.inl (-4))) rfl rfl rfl ⟨rfl, Or.inl rfl⟩
          · refine ct_zrun C (k' := 39) (y := ([(0, .inr (.inr (7, o))), (1, .inl a1), (2, .inl a2)], [.inl a1, .inl (h.1 o 27), .inr (.inr (8, (G.1 o 25)))], h)) 5 rfl rfl rfl ?_
            refine ct_zwt C (pc := 68) (aux := 0) rfl rfl (fun h6 => ?_)
            refine ct_zrun C (k' := 45) (y := ([(0, .inr (.inr (7, o))), (1, .inl a1), (2, .inl a2)], [.inl a2, .inl (h6.1 o 27), .inr (.inr (8, (G.1 o 26)))], h6)) 5 rfl rfl rfl ?_
            refine ct_zwt C (pc := 78) (aux := 0) rfl rfl (fun h7 => ?_)
            refine ct_zrun C (k' := 52) (y := ([(0, .inr (.inr (7, o))), (1, .inl a1), (2, .inl a2)], [], (ct_wF h7 o 27 (ct_wr ((h7.1 o 27) + 1))))) 6 rfl rfl rfl ?_
            refine ct_zlet (L := fun _ => [(0, .inr (.inr (7, o))), (1, .inl a1), (2, .inl a2)]) (S := fun _ => []) (Hh := fun h8 => h8) (a := (ct_wF h7 o 27 (ct_wr ((h7.1 o 27) + 1)))) (fun h8 => ?_)
            refine ct_zrun C (k' := 54) (y := ([(0, .inr (.inr (7, o))), (1, .inl a1), (2, .inl a2)], [.inl (h8.1 o 27)], h8)) 2 rfl rfl rfl ?_
            exact ct_zret C (pc := 93) (aux := 0) (ins := .ireturn) (ρ := (fun r : Int × ct_H => (some (.inl (r.1) : ct_PV), r.2))) (some (.inl (h8.1 o 27))) rfl rfl rfl ⟨rfl, Or.inl rfl⟩
      · refine ct_zt C (pc := 23) (aux := 0) (cn := .ge) (off := 13) (k' := 22) (a := a1) (b := 2) Iff.rfl rfl rfl rfl (fun e13 => ?_) (fun e13 => ?_)
        · exact ct_zsub [0, 1, 2] rfl (z4 ())
        · refine ct_zrun C (k' := 18) (y := ([(0, .inr (.inr (7, o))), (1, .inl a1), (2, .inl a2)], [.inl a2, .inr (.inr (7, o))], h)) 2 rfl rfl rfl ?_
          refine ct_zV C (pc := 28) (aux := 0) [.inl a2] [] ok_X7_isPoint lk_X7_108 (e_X7_isPoint o a2) rfl rfl rfl rfl rfl rfl rfl rfl (fun v11 => ?_)
          refine ct_zf0 C (pc := 31) (aux := 0) (cn := .ne) (off := 5) (k' := 22) (a := v11) Iff.rfl rfl rfl rfl (fun e12 => ?_) (fun e12 => ?_)
          · refine ct_zrun C (k' := 21) (y := ([(0, .inr (.inr (7, o))), (1, .inl a1), (2, .inl a2)], [.inl (-1)], h)) 1 rfl rfl rfl ?_
            exact ct_zret C (pc := 35) (aux := 0) (ins := .ireturn) (ρ := (fun r : Int × ct_H => (some (.inl (r.1) : ct_PV), r.2))) (some (.inl (-1))) rfl rfl rfl ⟨rfl, Or.inl rfl⟩
          · exact ct_zsub [0, 1, 2] rfl (z4 ())
def l_X7_happens_31 (G : ct_G) (o : Nat) (a2 : Int) : Nat → (Int × ct_H) → Option (ct_H)
  | 0, _ => none
  | n10 + 1, b9 => (f_X7_points G b9.2 o).bind fun v11 => if v11 ≤ b9.1 then (some (b9.2)) else (ct_rd G b9.2 (G.1 o 3) b9.1).bind fun v12 => (ct_wt G b9.2 (G.1 o 3) b9.1 (ct_max 0 (ct_wr (v12 - a2)))).bind fun h13 => l_X7_happens_31 G o a2 n10 ((ct_wr (b9.1 + 1)), h13)
set_option maxRecDepth 100000 in
theorem zl_X7_happens_31 {x : ct_Ctx} {d : Nat} {G : ct_G} (C : ct_c x m_X7_happens G (d + 2)) (o : Nat) (a2 : Int) : ∀ (n10 : Nat) (b9 : Int × ct_H), ct_Z x m_X7_happens G 31 [(0, .inr (.inr (7, o))), (2, .inl a2), (3, .inl (b9.1))] [] b9.2 (fun a => ct_q x G ((fun r : ct_H => ((none : Option ct_PV), r)) a)) (l_X7_happens_31 G o a2 n10 b9) := by
  intro n10
  induction n10 with
  | zero => intro b9; exact ct_znone
  | succ n10 ih =>
    intro b9
    rw [l_X7_happens_31]
    refine ct_zrun C (k' := 33) (y := ([(0, .inr (.inr (7, o))), (2, .inl a2), (3, .inl (b9.1))], [.inr (.inr (7, o)), .inl (b9.1)], b9.2)) 2 rfl rfl rfl ?_
    refine ct_zV C (pc := 81) (aux := 0) [] [.inl (b9.1)] ok_X7_points lk_X7_104 (e_X7_points o) rfl rfl rfl rfl rfl rfl rfl rfl (fun v11 => ?_)
    refine ct_zt C (pc := 84) (aux := 0) (cn := .ge) (off := 27) (k' := 49) (a := b9.1) (b := v11) Iff.rfl rfl rfl rfl (fun e14 => ?_) (fun e14 => ?_)
    · refine ct_zgoto C (pc := 111) (aux := 0) (off := 42) (k' := 72) rfl rfl ?_
      exact ct_zret C (pc := 153) (aux := 0) (ins := .return_) (ρ := (fun r : ct_H => ((none : Option ct_PV), r))) none rfl rfl rfl ⟨rfl, rfl⟩
    · refine ct_zrun C (k' := 42) (y := ([(0, .inr (.inr (7, o))), (2, .inl a2), (3, .inl (b9.1))], [.inl (b9.1), .inr (.inr (8, (G.1 o 3))), .inl 0, .inl (b9.1), .inr (.inr (8, (G.1 o 3)))], b9.2)) 7 rfl rfl rfl ?_
      refine ct_zrd C (pc := 98) (aux := 0) (ins := .iaload) (cd := 8) rfl rfl (Or.inl ⟨rfl, rfl⟩) (fun v12 => ?_)
      refine ct_zrun C (k' := 45) (y := ([(0, .inr (.inr (7, o))), (2, .inl a2), (3, .inl (b9.1))], [.inl (ct_wr (v12 - a2)), .inl 0, .inl (b9.1), .inr (.inr (8, (G.1 o 3)))], b9.2)) 2 rfl rfl rfl ?_
      refine ct_zmax C (pc := 101) (aux := 0) lk_X7_121 rfl rfl rfl ?_
      refine ct_zwt C (pc := 104) (aux := 0) rfl rfl (fun h13 => ?_)
      refine ct_zrun C (k' := 48) (y := ([(3, .inl (ct_wr (b9.1 + 1))), (0, .inr (.inr (7, o))), (2, .inl a2)], [], h13)) 1 rfl rfl rfl ?_
      refine ct_zgoto C (pc := 108) (aux := 0) (off := (-29)) (k' := 31) rfl rfl ?_
      exact ct_zsub [1, 2, 0] rfl (ih ((ct_wr (b9.1 + 1)), h13))
def l_X7_happens_56 (G : ct_G) (o : Nat) : Nat → (Int × ct_H) → Option (ct_H)
  | 0, _ => none
  | n19 + 1, b18 => (f_X7_points G b18.2 o).bind fun v20 => if v20 ≤ b18.1 then (some (b18.2)) else (ct_rd G b18.2 (G.1 o 3) b18.1).bind fun v21 => (ct_wt G b18.2 (G.1 o 3) b18.1 (ct_wr (99 - v21))).bind fun h22 => l_X7_happens_56 G o n19 ((ct_wr (b18.1 + 1)), h22)
set_option maxRecDepth 100000 in
theorem zl_X7_happens_56 {x : ct_Ctx} {d : Nat} {G : ct_G} (C : ct_c x m_X7_happens G (d + 2)) (o : Nat) : ∀ (n19 : Nat) (b18 : Int × ct_H), ct_Z x m_X7_happens G 56 [(0, .inr (.inr (7, o))), (3, .inl (b18.1))] [] b18.2 (fun a => ct_q x G ((fun r : ct_H => ((none : Option ct_PV), r)) a)) (l_X7_happens_56 G o n19 b18) := by
  intro n19
  induction n19 with
  | zero => intro b18; exact ct_znone
  | succ n19 ih =>
    intro b18
    rw [l_X7_happens_56]
    refine ct_zrun C (k' := 58) (y := ([(0, .inr (.inr (7, o))), (3, .inl (b18.1))], [.inr (.inr (7, o)), .inl (b18.1)], b18.2)) 2 rfl rfl rfl ?_
    refine ct_zV C (pc := 126) (aux := 0) [] [.inl (b18.1)] ok_X7_points lk_X7_104 (e_X7_points o) rfl rfl rfl rfl rfl rfl rfl rfl (fun v20 => ?_)
    refine ct_zt C (pc := 129) (aux := 0) (cn := .ge) (off := 24) (k' := 72) (a := b18.1) (b := v20) Iff.rfl rfl rfl rfl (fun e23 => ?_) (fun e23 => ?_)
    · exact ct_zret C (pc := 153) (aux := 0) (ins := .return_) (ρ := (fun r : ct_H => ((none : Option ct_PV), r))) none rfl rfl rfl ⟨rfl, rfl⟩
    · refine ct_zrun C (k' := 67) (y := ([(0, .inr (.inr (7, o))), (3, .inl (b18.1))], [.inl (b18.1), .inr (.inr (8, (G.1 o 3))), .inl 99, .inl (b18.1), .inr (.inr (8, (G.1 o 3)))], b18.2)) 7 rfl rfl rfl ?_
      refine ct_zrd C (pc := 144) (aux := 0) (ins := .iaload) (cd := 8) rfl rfl (Or.inl ⟨rfl, rfl⟩) (fun v21 => ?_)
      refine ct_zrun C (k' := 69) (y := ([(0, .inr (.inr (7, o))), (3, .inl (b18.1))], [.inl (ct_wr (99 - v21)), .inl (b18.1), .inr (.inr (8, (G.1 o 3)))], b18.2)) 1 rfl rfl rfl ?_
      refine ct_zwt C (pc := 146) (aux := 0) rfl rfl (fun h22 => ?_)
      refine ct_zrun C (k' := 71) (y := ([(3, .inl (ct_wr (b18.1 + 1))), (0, .inr (.inr (7, o)))], [], h22)) 1 rfl rfl rfl ?_
      refine ct_zgoto C (pc := 150) (aux := 0) (off := (-26)) (k' := 56) rfl rfl ?_
      exact ct_zsub [1, 0] rfl (ih ((ct_wr (b18.1 + 1)), h22))
def f_X7_happens (G : ct_G) (h : ct_H) (o : Nat) (a1 : Int) (a2 : Int) : Option (ct_H) := ct_jn (β := Unit) (fun k2 => if 2 ≤ a1 then (k2 ()) else (f_X7_isPoint G h o a2).bind fun v24 => if v24 = 0 then (some h) else k2 ()) (fun b1 => if a1 = 0 then ((ct_rd G h (G.1 o 3) a2).bind fun v4 => (ct_wt G h (G.1 o 3) a2 (ct_min 99 (ct_wr (v4 + 10)))).bind fun h5 => some h5) else if a1 = 1 then ((ct_wt G h (G.1 o 3) a2 0).bind fun h7 => some h7) else if a1 = 2 then (l_X7_happens_31 G o a2 200 (0, h)) else if a1 = 3 then (ct_lt (ct_wF h o 2 a2) fun h16 => some h16) else l_X7_happens_56 G o 200 (0, h))
set_option maxRecDepth 100000 in
theorem e_X7_happens {d : Nat} {G : ct_G} {h : ct_H} (o : Nat) (a1 : Int) (a2 : Int) : ct_E m_X7_happens (d + 2) G (ct_args 0 [.inr (.inr (7, o)), .inl a1, .inl a2]) h (fun r : ct_H => ((none : Option ct_PV), r)) (f_X7_happens G h o a1 a2) := by
  intro x C
  unfold f_X7_happens
  show ct_Z x m_X7_happens G 0 [(0, .inr (.inr (7, o))), (1, .inl a1), (2, .inl a2)] [] h (fun a => ct_q x G ((fun r : ct_H => ((none : Option ct_PV), r)) a)) _
  refine ct_zrun C (k' := 2) (y := ([(0, .inr (.inr (7, o))), (1, .inl a1), (2, .inl a2)], [.inl 2, .inl a1], h)) 2 rfl rfl rfl ?_
  refine ct_zjn (β := Unit) (kJ := 8) (L := fun b1 => [(0, .inr (.inr (7, o))), (1, .inl a1), (2, .inl a2)]) (S := fun b1 => []) (Hh := fun b1 => h) (fun b1 => ?_) (fun k2 z3 => ?_)
  · refine ct_zrun C (k' := 9) (y := ([(0, .inr (.inr (7, o))), (1, .inl a1), (2, .inl a2)], [.inl a1], h)) 1 rfl rfl rfl ?_
    refine ct_zsplit (fun e6 => ?_) (fun e6 => ?_)
    · refine ct_zsw C (off := 29) (k' := 10) rfl (by rw [e6]; rfl) rfl ?_
      refine ct_zrun C (k' := 17) (y := ([(0, .inr (.inr (7, o))), (1, .inl a1), (2, .inl a2)], [.inl a2, .inr (.inr (8, (G.1 o 3))), .inl 99, .inl a2, .inr (.inr (8, (G.1 o 3)))], h)) 7 rfl rfl rfl ?_
      refine ct_zrd C (pc := 56) (aux := 0) (ins := .iaload) (cd := 8) rfl rfl (Or.inl ⟨rfl, rfl⟩) (fun v4 => ?_)
      refine ct_zrun C (k' := 20) (y := ([(0, .inr (.inr (7, o))), (1, .inl a1), (2, .inl a2)], [.inl (ct_wr (v4 + 10)), .inl 99, .inl a2, .inr (.inr (8, (G.1 o 3)))], h)) 2 rfl rfl rfl ?_
      refine ct_zmin C (pc := 60) (aux := 0) lk_X7_278 rfl rfl rfl ?_
      refine ct_zwt C (pc := 63) (aux := 0) rfl rfl (fun h5 => ?_)
      refine ct_zgoto C (pc := 64) (aux := 0) (off := 89) (k' := 72) rfl rfl ?_
      exact ct_zret C (pc := 153) (aux := 0) (ins := .return_) (ρ := (fun r : ct_H => ((none : Option ct_PV), r))) none rfl rfl rfl ⟨rfl, rfl⟩
    · refine ct_zsplit (fun e8 => ?_) (fun e8 => ?_)
      · refine ct_zsw C (off := 52) (k' := 23) rfl (by rw [e8]; rfl) rfl ?_
        refine ct_zrun C (k' := 27) (y := ([(0, .inr (.inr (7, o))), (1, .inl a1), (2, .inl a2)], [.inl 0, .inl a2, .inr (.inr (8, (G.1 o 3)))], h)) 4 rfl rfl rfl ?_
        refine ct_zwt C (pc := 73) (aux := 0) rfl rfl (fun h7 => ?_)
        refine ct_zgoto C (pc := 74) (aux := 0) (off := 79) (k' := 72) rfl rfl ?_
        exact ct_zret C (pc := 153) (aux := 0) (ins := .return_) (ρ := (fun r : ct_H => ((none : Option ct_PV), r))) none rfl rfl rfl ⟨rfl, rfl⟩
      · refine ct_zsplit (fun e15 => ?_) (fun e15 => ?_)
        · refine ct_zsw C (off := 62) (k' := 29) rfl (by rw [e15]; rfl) rfl ?_
          refine ct_zrun C (k' := 31) (y := ([(3, .inl 0), (0, .inr (.inr (7, o))), (1, .inl a1), (2, .inl a2)], [], h)) 2 rfl rfl rfl ?_
          exact ct_zsub [1, 3, 0] rfl (zl_X7_happens_31 C o a2 200 (0, h))
        · refine ct_zsplit (fun e17 => ?_) (fun e17 => ?_)
          · refine ct_zsw C (off := 99) (k' := 50) rfl (by rw [e17]; rfl) rfl ?_
            refine ct_zrun C (k' := 53) (y := ([(0, .inr (.inr (7, o))), (1, .inl a1), (2, .inl a2)], [], (ct_wF h o 2 a2))) 3 rfl rfl rfl ?_
            refine ct_zlet (L := fun _ => [(0, .inr (.inr (7, o))), (1, .inl a1), (2, .inl a2)]) (S := fun _ => []) (Hh := fun h16 => h16) (a := (ct_wF h o 2 a2)) (fun h16 => ?_)
            refine ct_zgoto C (pc := 119) (aux := 0) (off := 34) (k' := 72) rfl rfl ?_
            exact ct_zret C (pc := 153) (aux := 0) (ins := .return_) (ρ := (fun r : ct_H => ((none : Option ct_PV), r))) none rfl rfl rfl ⟨rfl, rfl⟩
          · refine ct_zsw C (off := 107) (k' := 54) rfl (by show (if _ then _ else _) = _; rw [if_pos (by omega)]) rfl ?_
            refine ct_zrun C (k' := 56) (y := ([(3, .inl 0), (0, .inr (.inr (7, o))), (1, .inl a1), (2, .inl a2)], [], h)) 2 rfl rfl rfl ?_
            exact ct_zsub [1, 0] rfl (zl_X7_happens_56 C o 200 (0, h))
  · refine ct_zt C (pc := 2) (aux := 0) (cn := .ge) (off := 12) (k' := 8) (a := a1) (b := 2) Iff.rfl rfl rfl rfl (fun e26 => ?_) (fun e26 => ?_)
    · exact ct_zsub [0, 1, 2] rfl (z3 ())
    · refine ct_zrun C (k' := 5) (y := ([(0, .inr (.inr (7, o))), (1, .inl a1), (2, .inl a2)], [.inl a2, .inr (.inr (7, o))], h)) 2 rfl rfl rfl ?_
      refine ct_zV C (pc := 7) (aux := 0) [.inl a2] [] ok_X7_isPoint lk_X7_108 (e_X7_isPoint o a2) rfl rfl rfl rfl rfl rfl rfl rfl (fun v24 => ?_)
      refine ct_zf0 C (pc := 10) (aux := 0) (cn := .ne) (off := 4) (k' := 8) (a := v24) Iff.rfl rfl rfl rfl (fun e25 => ?_) (fun e25 => ?_)
      · exact ct_zret C (pc := 13) (aux := 0) (ins := .return_) (ρ := (fun r : ct_H => ((none : Option ct_PV), r))) none rfl rfl rfl ⟨rfl, rfl⟩
      · exact ct_zsub [0, 1, 2] rfl (z3 ())
def l_X7_after_25 (G : ct_G) (o : Nat) (k7 : ct_H → Option (Int × ct_H)) : Nat → (Int × ct_H) → Option (Int × ct_H)
  | 0, _ => none
  | n6 + 1, b5 => if (b5.2.1 o 27) ≤ b5.1 then (k7 (b5.2)) else (ct_rd G b5.2 (G.1 o 25) b5.1).bind fun v10 => (ct_rd G b5.2 (G.1 o 26) b5.1).bind fun v11 => (f_X7_happens G b5.2 o v10 v11).bind fun r12 => l_X7_after_25 G o k7 n6 ((ct_wr (b5.1 + 1)), r12)
set_option maxRecDepth 100000 in
theorem zl_X7_after_25 {x : ct_Ctx} {d : Nat} {G : ct_G} (C : ct_c x m_X7_after G (d + 6)) (o : Nat) (a1 : Int) (a2 : Int) (p4 : Int) (k7 : ct_H → Option (Int × ct_H)) (z8 : ∀ b9 : ct_H, ct_Z x m_X7_after G 41 [(0, .inr (.inr (7, o))), (1, .inl a1), (2, .inl a2), (3, .inl p4)] [] b9 (fun a => ct_q x G ((fun r : Int × ct_H => (some (.inl (r.1) : ct_PV), r.2)) a)) (k7 b9)) : ∀ (n6 : Nat) (b5 : Int × ct_H), ct_Z x m_X7_after G 25 [(0, .inr (.inr (7, o))), (1, .inl a1), (2, .inl a2), (3, .inl p4), (4, .inl (b5.1))] [] b5.2 (fun a => ct_q x G ((fun r : Int × ct_H => (some (.inl (r.1) : ct_PV), r.2)) a)) (l_X7_after_25 G o k7 n6 b5) := by
  intro n6
  induction n6 with
  | zero => intro b5; exact ct_znone
  | succ n6 ih =>
    intro b5
    rw [l_X7_after_25]
    refine ct_zrun C (k' := 28) (y := ([(0, .inr (.inr (7, o))), (1, .inl a1), (2, .inl a2), (3, .inl p4), (4, .inl (b5.1))], [.inl (b5.2.1 o 27), .inl (b5.1)], b5.2)) 3 rfl rfl rfl ?_
    refine ct_zt C (pc := 50) (aux := 0) (cn := .ge) (off := 27) (k' := 41) (a := b5.1) (b := (b5.2.1 o 27)) Iff.rfl rfl rfl rfl (fun e13 => ?_) (fun e13 => ?_)
    · exact ct_zsub [0, 1, 2, 3] rfl (z8 (b5.2))
    · refine ct_zrun C (k' := 33) (y := ([(0, .inr (.inr (7, o))), (1, .inl a1), (2, .inl a2), (3, .inl p4), (4, .inl (b5.1))], [.inl (b5.1), .inr (.inr (8, (G.1 o 25))), .inr (.inr (7, o))], b5.2)) 4 rfl rfl rfl ?_
      refine ct_zrd C (pc := 60) (aux := 0) (ins := .iaload) (cd := 8) rfl rfl (Or.inl ⟨rfl, rfl⟩) (fun v10 => ?_)
      refine ct_zrun C (k' := 37) (y := ([(0, .inr (.inr (7, o))), (1, .inl a1), (2, .inl a2), (3, .inl p4), (4, .inl (b5.1))], [.inl (b5.1), .inr (.inr (8, (G.1 o 26))), .inl v10, .inr (.inr (7, o))], b5.2)) 3 rfl rfl rfl ?_
      refine ct_zrd C (pc := 67) (aux := 0) (ins := .iaload) (cd := 8) rfl rfl (Or.inl ⟨rfl, rfl⟩) (fun v11 => ?_)
      refine ct_zV C (pc := 68) (aux := 0) [.inl v10, .inl v11] [] ok_X7_happens lk_X7_410 (e_X7_happens o v10 v11) rfl rfl rfl rfl rfl rfl rfl rfl (fun r12 => ?_)
      refine ct_zrun C (k' := 40) (y := ([(4, .inl (ct_wr (b5.1 + 1))), (0, .inr (.inr (7, o))), (1, .inl a1), (2, .inl a2), (3, .inl p4)], [], r12)) 1 rfl rfl rfl ?_
      refine ct_zgoto C (pc := 74) (aux := 0) (off := (-30)) (k' := 25) rfl rfl ?_
      exact ct_zsub [1, 2, 3, 4, 0] rfl (ih ((ct_wr (b5.1 + 1)), r12))
def f_X7_after (G : ct_G) (h : ct_H) (o : Nat) (a1 : Int) (a2 : Int) : Option (Int × ct_H) := (f_X7_isLevel G h a1).bind fun v1 => if v1 = 0 then (some ((-2), h)) else (f_X7_in G h a2 0 2).bind fun v2 => if v2 = 0 then (some ((-1), h)) else (ct_cpI G h (G.1 o 3) 0 (G.1 o 28) 0 49).bind fun h3 => l_X7_after_25 G o (fun b14 => (f_X7_layLines G b14 o a1).bind fun r15 => (f_X7_layLands G r15 o a1).bind fun r16 => ct_jn (β := Int) (fun k18 => if a2 = 0 then (k18 (r16.1 o 14)) else if a2 = 1 then (k18 (r16.1 o 18)) else (f_X7_volume G r16 o a1).bind fun v22 => k18 v22) (fun b17 => (ct_cpI G r16 (G.1 o 28) 0 (G.1 o 3) 0 49).bind fun h20 => ct_lt (ct_wF h20 o 2 (h3.1 o 2)) fun h21 => some (b17, h21))) 200 (0, h3)
set_option maxRecDepth 100000 in
theorem e_X7_after {d : Nat} {G : ct_G} {h : ct_H} (o : Nat) (a1 : Int) (a2 : Int) : ct_E m_X7_after (d + 6) G (ct_args 0 [.inr (.inr (7, o)), .inl a1, .inl a2]) h (fun r : Int × ct_H => (some (.inl (r.1) : ct_PV), r.2)) (f_X7_after G h o a1 a2) := by
  intro x C
  unfold f_X7_after
  show ct_Z x m_X7_after G 0 [(0, .inr (.inr (7, o))), (1, .inl a1), (2, .inl a2)] [] h (fun a => ct_q x G ((fun r : Int × ct_H => (some (.inl (r.1) : ct_PV), r.2)) a)) _
  refine ct_zrun C (k' := 1) (y := ([(0, .inr (.inr (7, o))), (1, .inl a1), (2, .inl a2)], [.inl a1], h)) 1 rfl rfl rfl ?_
  refine ct_zS C (pc := 1) (aux := 0) [.inl a1] [] ok_X7_isLevel lk_X7_325 (e_X7_isLevel a1) rfl rfl rfl rfl rfl rfl (fun v1 => ?_)
  refine ct_zf0 C (pc := 4) (aux := 0) (cn := .ne) (off := 6) (k' := 5) (a := v1) Iff.rfl rfl rfl rfl (fun e26 => ?_) (fun e26 => ?_)
  · refine ct_zrun C (k' := 4) (y := ([(0, .inr (.inr (7, o))), (1, .inl a1), (2, .inl a2)], [.inl (-2)], h)) 1 rfl rfl rfl ?_
    exact ct_zret C (pc := 9) (aux := 0) (ins := .ireturn) (ρ := (fun r : Int × ct_H => (some (.inl (r.1) : ct_PV), r.2))) (some (.inl (-2))) rfl rfl rfl ⟨rfl, Or.inl rfl⟩
  · refine ct_zrun C (k' := 8) (y := ([(0, .inr (.inr (7, o))), (1, .inl a1), (2, .inl a2)], [.inl 2, .inl 0, .inl a2], h)) 3 rfl rfl rfl ?_
    refine ct_zS C (pc := 13) (aux := 0) [.inl a2, .inl 0, .inl 2] [] ok_X7_in lk_X7_100 (e_X7_in a2 0 2) rfl rfl rfl rfl rfl rfl (fun v2 => ?_)
    refine ct_zf0 C (pc := 16) (aux := 0) (cn := .ne) (off := 5) (k' := 12) (a := v2) Iff.rfl rfl rfl rfl (fun e25 => ?_) (fun e25 => ?_)
    · refine ct_zrun C (k' := 11) (y := ([(0, .inr (.inr (7, o))), (1, .inl a1), (2, .inl a2)], [.inl (-1)], h)) 1 rfl rfl rfl ?_
      exact ct_zret C (pc := 20) (aux := 0) (ins := .ireturn) (ρ := (fun r : Int × ct_H => (some (.inl (r.1) : ct_PV), r.2))) (some (.inl (-1))) rfl rfl rfl ⟨rfl, Or.inl rfl⟩
    · refine ct_zrun C (k' := 19) (y := ([(0, .inr (.inr (7, o))), (1, .inl a1), (2, .inl a2)], [.inl 49, .inl 0, .inr (.inr (8, (G.1 o 28))), .inl 0, .inr (.inr (8, (G.1 o 3)))], h)) 7 rfl rfl rfl ?_
      refine ct_zcopy C (pc := 33) (aux := 0) lk_X7_383 ct_gsys rfl rfl rfl (fun h3 => ?_)
      refine ct_zrun C (k' := 25) (y := ([(4, .inl 0), (3, .inl (h3.1 o 2)), (0, .inr (.inr (7, o))), (1, .inl a1), (2, .inl a2)], [], h3)) 5 rfl rfl rfl ?_
      refine ct_zsub [2, 3, 4, 1, 0] rfl (zl_X7_after_25 C o a1 a2 (h3.1 o 2) _ (fun b14 => ?_) 200 (0, h3))
      refine ct_zrun C (k' := 43) (y := ([(0, .inr (.inr (7, o))), (1, .inl a1), (2, .inl a2), (3, .inl (h3.1 o 2))], [.inl a1, .inr (.inr (7, o))], b14)) 2 rfl rfl rfl ?_
      refine ct_zV C (pc := 79) (aux := 0) [.inl a1] [] ok_X7_layLines lk_X7_306 (e_X7_layLines o a1) rfl rfl rfl rfl rfl rfl rfl rfl (fun r15 => ?_)
      refine ct_zrun C (k' := 46) (y := ([(0, .inr (.inr (7, o))), (1, .inl a1), (2, .inl a2), (3, .inl (h3.1 o 2))], [.inl a1, .inr (.inr (7, o))], r15)) 2 rfl rfl rfl ?_
      refine ct_zV C (pc := 84) (aux := 0) [.inl a1] [] ok_X7_layLands lk_X7_328 (e_X7_layLands o a1) rfl rfl rfl rfl rfl rfl rfl rfl (fun r16 => ?_)
      refine ct_zrun C (k' := 48) (y := ([(0, .inr (.inr (7, o))), (1, .inl a1), (2, .inl a2), (3, .inl (h3.1 o 2))], [.inl a2], r16)) 1 rfl rfl rfl ?_
      refine ct_zjn (β := Int) (kJ := 61) (L := fun b17 => [(0, .inr (.inr (7, o))), (3, .inl (h3.1 o 2))]) (S := fun b17 => [.inl b17]) (Hh := fun b17 => r16) (fun b17 => ?_) (fun k18 z19 => ?_)
      · refine ct_zrun C (k' := 69) (y := ([(4, .inl b17), (0, .inr (.inr (7, o))), (3, .inl (h3.1 o 2))], [.inl 49, .inl 0, .inr (.inr (8, (G.1 o 3))), .inl 0, .inr (.inr (8, (G.1 o 28)))], r16)) 8 rfl rfl rfl ?_
        refine ct_zcopy C (pc := 129) (aux := 0) lk_X7_383 ct_gsys rfl rfl rfl (fun h20 => ?_)
        refine ct_zrun C (k' := 73) (y := ([(4, .inl b17), (0, .inr (.inr (7, o))), (3, .inl (h3.1 o 2))], [], (ct_wF h20 o 2 (h3.1 o 2)))) 3 rfl rfl rfl ?_
        refine ct_zlet (L := fun _ => [(4, .inl b17), (0, .inr (.inr (7, o))), (3, .inl (h3.1 o 2))]) (S := fun _ => []) (Hh := fun h21 => h21) (a := (ct_wF h20 o 2 (h3.1 o 2))) (fun h21 => ?_)
        refine ct_zrun C (k' := 74) (y := ([(4, .inl b17), (0, .inr (.inr (7, o))), (3, .inl (h3.1 o 2))], [.inl b17], h21)) 1 rfl rfl rfl ?_
        exact ct_zret C (pc := 139) (aux := 0) (ins := .ireturn) (ρ := (fun r : Int × ct_H => (some (.inl (r.1) : ct_PV), r.2))) (some (.inl b17)) rfl rfl rfl ⟨rfl, Or.inl rfl⟩
      · refine ct_zf0 C (pc := 88) (aux := 0) (cn := .ne) (off := 10) (k' := 52) (a := a2) Iff.rfl rfl rfl rfl (fun e24 => ?_) (fun e24 => ?_)
        · refine ct_zrun C (k' := 51) (y := ([(0, .inr (.inr (7, o))), (1, .inl a1), (2, .inl a2), (3, .inl (h3.1 o 2))], [.inl (r16.1 o 14)], r16)) 2 rfl rfl rfl ?_
          refine ct_zgoto C (pc := 95) (aux := 0) (off := 20) (k' := 61) rfl rfl ?_
          exact ct_zsub [0, 3] rfl (z19 (r16.1 o 14))
        · refine ct_zrun C (k' := 54) (y := ([(0, .inr (.inr (7, o))), (1, .inl a1), (2, .inl a2), (3, .inl (h3.1 o 2))], [.inl 1, .inl a2], r16)) 2 rfl rfl rfl ?_
          refine ct_zf C (pc := 100) (aux := 0) (cn := .ne) (off := 10) (k' := 58) (a := a2) (b := 1) Iff.rfl rfl rfl rfl (fun e23 => ?_) (fun e23 => ?_)
          · refine ct_zrun C (k' := 57) (y := ([(0, .inr (.inr (7, o))), (1, .inl a1), (2, .inl a2), (3, .inl (h3.1 o 2))], [.inl (r16.1 o 18)], r16)) 2 rfl rfl rfl ?_
            refine ct_zgoto C (pc := 107) (aux := 0) (off := 8) (k' := 61) rfl rfl ?_
            exact ct_zsub [0, 3] rfl (z19 (r16.1 o 18))
          · refine ct_zrun C (k' := 60) (y := ([(0, .inr (.inr (7, o))), (1, .inl a1), (2, .inl a2), (3, .inl (h3.1 o 2))], [.inl a1, .inr (.inr (7, o))], r16)) 2 rfl rfl rfl ?_
            refine ct_zV C (pc := 112) (aux := 0) [.inl a1] [] ok_X7_volume lk_X7_303 (e_X7_volume o a1) rfl rfl rfl rfl rfl rfl rfl rfl (fun v22 => ?_)
            exact ct_zsub [0, 3] rfl (z19 v22)
def f_X7_book (G : ct_G) (h : ct_H) (o : Nat) (a1 : Int) (a2 : Int) : Option (Int × ct_H) := if a1 = (-1) then (ct_lt (ct_wF h o 31 0) fun h9 => some (0, h9)) else (f_X7_isPoint G h o a1).bind fun v1 => if v1 = 0 then (some ((-1), h)) else (f_X7_in G h a2 0 99).bind fun v2 => if v2 = 0 then (some ((-2), h)) else if (h.1 o 31) = 8 then (some ((-4), h)) else (ct_wt G h (G.1 o 29) (h.1 o 31) a1).bind fun h3 => (ct_wt G h3 (G.1 o 30) (h3.1 o 31) a2).bind fun h4 => ct_lt (ct_wF h4 o 31 (ct_wr ((h4.1 o 31) + 1))) fun h5 => some ((h5.1 o 31), h5)
set_option maxRecDepth 100000 in
theorem e_X7_book {d : Nat} {G : ct_G} {h : ct_H} (o : Nat) (a1 : Int) (a2 : Int) : ct_E m_X7_book (d + 2) G (ct_args 0 [.inr (.inr (7, o)), .inl a1, .inl a2]) h (fun r : Int × ct_H => (some (.inl (r.1) : ct_PV), r.2)) (f_X7_book G h o a1 a2) := by
  intro x C
  unfold f_X7_book
  show ct_Z x m_X7_book G 0 [(0, .inr (.inr (7, o))), (1, .inl a1), (2, .inl a2)] [] h (fun a => ct_q x G ((fun r : Int × ct_H => (some (.inl (r.1) : ct_PV), r.2)) a)) _
  refine ct_zrun C (k' := 2) (y := ([(0, .inr (.inr (7, o))), (1, .inl a1), (2, .inl a2)], [.inl (-1), .inl a1], h)) 2 rfl rfl rfl ?_
  refine ct_zf C (pc := 2) (aux := 0) (cn := .ne) (off := 10) (k' := 8) (a := a1) (b := (-1)) Iff.rfl rfl rfl rfl (fun e10 => ?_) (fun e10 => ?_)
  · refine ct_zrun C (k' := 6) (y := ([(0, .inr (.inr (7, o))), (1, .inl a1), (2, .inl a2)], [], (ct_wF h o 31 0))) 3 rfl rfl rfl ?_
    refine ct_zlet (L := fun _ => [(0, .inr (.inr (7, o))), (1, .inl a1), (2, .inl a2)]) (S := fun _ => []) (Hh := fun h9 => h9) (a := (ct_wF h o 31 0)) (fun h9 => ?_)
    refine ct_zrun C (k' := 7) (y := ([(0, .inr (.inr (7, o))), (1, .inl a1), (2, .inl a2)], [.inl 0], h9)) 1 rfl rfl rfl ?_
    exact ct_zret C (pc := 11) (aux := 0) (ins := .ireturn) (ρ := (fun r : Int × ct_H => (some (.inl (r.1) : ct_PV), r.2))) (some (.inl 0)) rfl rfl rfl ⟨rfl, Or.inl rfl⟩
  · refine ct_zrun C (k' := 10) (y := ([(0, .inr (.inr (7, o))), (1, .inl a1), (2, .inl a2)], [.inl a1, .inr (.inr (7, o))], h)) 2 rfl rfl rfl ?_
    refine ct_zV C (pc := 14) (aux := 0) [.inl a1] [] ok_X7_isPoint lk_X7_108 (e_X7_isPoint o a1) rfl rfl rfl rfl rfl rfl rfl rfl (fun v1 => ?_)
    refine ct_zf0 C (pc := 17) (aux := 0) (cn := .ne) (off := 5) (k' := 14) (a := v1) Iff.rfl rfl rfl rfl (fun e8 => ?_) (fun e8 => ?_)
    · refine ct_zrun C (k' := 13) (y := ([(0, .inr (.inr (7, o))), (1, .inl a1), (2, .inl a2)], [.inl (-1)], h)) 1 rfl rfl rfl ?_
      exact ct_zret C (pc := 21) (aux := 0) (ins := .ireturn) (ρ := (fun r : Int × ct_H => (some (.inl (r.1) : ct_PV), r.2))) (some (.inl (-1))) rfl rfl rfl ⟨rfl, Or.inl rfl⟩
    · refine ct_zrun C (k' := 17) (y := ([(0, .inr (.inr (7, o))), (1, .inl a1), (2, .inl a2)], [.inl 99, .inl 0, .inl a2], h)) 3 rfl rfl rfl ?_
      refine ct_zS C (pc := 26) (aux := 0) [.inl a2, .inl 0, .inl 99] [] ok_X7_in lk_X7_100 (e_X7_in a2 0 99) rfl rfl rfl rfl rfl rfl (fun v2 => ?_)
      refine ct_zf0 C (pc := 29) (aux := 0) (cn := .ne) (off := 6) (k' := 21) (a := v2) Iff.rfl rfl rfl rfl (fun e7 => ?_) (fun e7 => ?_)
      · refine ct_zrun C (k' := 20) (y := ([(0, .inr (.inr (7, o))), (1, .inl a1), (2, .inl a2)], [.inl (-2)], h)) 1 rfl rfl rfl ?_
        exact ct_zret C (pc := 34) (aux := 0) (ins := .ireturn) (ρ := (fun r : Int × ct_H => (some (.inl (r.1) : ct_PV), r.2))) (some (.inl (-2))) rfl rfl rfl ⟨rfl, Or.inl rfl⟩
      · refine ct_zrun C (k' := 24) (y := ([(0, .inr (.inr (7, o))), (1, .inl a1), (2, .inl a2)], [.inl 8, .inl (h.1 o 31)], h)) 3 rfl rfl rfl ?_
        refine ct_zf C (pc := 41) (aux := 0) (cn := .ne) (off := 6) (k' := 27) (a := (h.1 o 31)) (b := 8) Iff.rfl rfl rfl rfl (fun e6 => ?_) (fun e6 => ?_)
        · refine ct_zrun C (k' := 26) (y := ([(0, .inr (.inr (7, o))), (1, .inl a1), (2, .inl a2)], [.inl (-4)], h)) 1 rfl rfl rfl ?_
          exact ct_zret C (pc := 46) (aux := 0) (ins := .ireturn) (ρ := (fun r : Int × ct_H => (some (.inl (r.1) : ct_PV), r.2))) (some (.inl (-4))) rfl rfl rfl ⟨rfl, Or.inl rfl⟩
        · refine ct_zrun C (k' := 32) (y := ([(0, .inr (.inr (7, o))), (1, .inl a1), (2, .inl a2)], [.inl a1, .inl (h.1 o 31), .inr (.inr (8, (G.1 o 29)))], h)) 5 rfl rfl rfl ?_
          refine ct_zwt C (pc := 56) (aux := 0) rfl rfl (fun h3 => ?_)
          refine ct_zrun C (k' := 38) (y := ([(0, .inr (.inr (7, o))), (1, .inl a1), (2, .inl a2)], [.inl a2, .inl (h3.1 o 31), .inr (.inr (8, (G.1 o 30)))], h3)) 5 rfl rfl rfl ?_
          refine ct_zwt C (pc := 66) (aux := 0) rfl rfl (fun h4 => ?_)
          refine ct_zrun C (k' := 45) (y := ([(0, .inr (.inr (7, o))), (1, .inl a1), (2, .inl a2)], [], (ct_wF h4 o 31 (ct_wr ((h4.1 o 31) + 1))))) 6 rfl rfl rfl ?_
          refine ct_zlet (L := fun _ => [(0, .inr (.inr (7, o))), (1, .inl a1), (2, .inl a2)]) (S := fun _ => []) (Hh := fun h5 => h5) (a := (ct_wF h4 o 31 (ct_wr ((h4.1 o 31) + 1)))) (fun h5 => ?_)
          refine ct_zrun C (k' := 47) (y := ([(0, .inr (.inr (7, o))), (1, .inl a1), (2, .inl a2)], [.inl (h5.1 o 31)], h5)) 2 rfl rfl rfl ?_
          exact ct_zret C (pc := 81) (aux := 0) (ins := .ireturn) (ρ := (fun r : Int × ct_H => (some (.inl (r.1) : ct_PV), r.2))) (some (.inl (h5.1 o 31))) rfl rfl rfl ⟨rfl, Or.inl rfl⟩
def l_X7_looked_2 (G : ct_G) (o : Nat) (h : ct_H) : Nat → Int → Option (Int)
  | 0, _ => none
  | n2 + 1, b1 => if (h.1 o 31) ≤ b1 then (some (-5)) else (ct_rd G h (G.1 o 29) b1).bind fun v3 => (f_X7_isPoint G h o v3).bind fun v4 => if v4 = 0 then (some b1) else (ct_rd G h (G.1 o 29) b1).bind fun v5 => (ct_rd G h (G.1 o 3) v5).bind fun v6 => (ct_rd G h (G.1 o 30) b1).bind fun v7 => if v6 = v7 then (l_X7_looked_2 G o h n2 (ct_wr (b1 + 1))) else some b1
set_option maxRecDepth 100000 in
theorem zl_X7_looked_2 {x : ct_Ctx} {d : Nat} {G : ct_G} (C : ct_c x m_X7_looked G (d + 2)) (o : Nat) (h : ct_H) : ∀ (n2 : Nat) (b1 : Int), ct_Z x m_X7_looked G 2 [(0, .inr (.inr (7, o))), (1, .inl b1)] [] h (fun a => ct_q x G ((fun r : Int => (some (.inl r : ct_PV), h)) a)) (l_X7_looked_2 G o h n2 b1) := by
  intro n2
  induction n2 with
  | zero => intro b1; exact ct_znone
  | succ n2 ih =>
    intro b1
    rw [l_X7_looked_2]
    refine ct_zrun C (k' := 5) (y := ([(0, .inr (.inr (7, o))), (1, .inl b1)], [.inl (h.1 o 31), .inl b1], h)) 3 rfl rfl rfl ?_
    refine ct_zt C (pc := 7) (aux := 0) (cn := .ge) (off := 44) (k' := 29) (a := b1) (b := (h.1 o 31)) Iff.rfl rfl rfl rfl (fun e10 => ?_) (fun e10 => ?_)
    · refine ct_zrun C (k' := 30) (y := ([(0, .inr (.inr (7, o))), (1, .inl b1)], [.inl (-5)], h)) 1 rfl rfl rfl ?_
      exact ct_zret C (pc := 53) (aux := 0) (ins := .ireturn) (ρ := (fun r : Int => (some (.inl r : ct_PV), h))) (some (.inl (-5))) rfl rfl rfl ⟨rfl, Or.inl rfl⟩
    · refine ct_zrun C (k' := 10) (y := ([(0, .inr (.inr (7, o))), (1, .inl b1)], [.inl b1, .inr (.inr (8, (G.1 o 29))), .inr (.inr (7, o))], h)) 4 rfl rfl rfl ?_
      refine ct_zrd C (pc := 16) (aux := 0) (ins := .iaload) (cd := 8) rfl rfl (Or.inl ⟨rfl, rfl⟩) (fun v3 => ?_)
      refine ct_zV C (pc := 17) (aux := 0) [.inl v3] [] ok_X7_isPoint lk_X7_108 (e_X7_isPoint o v3) rfl rfl rfl rfl rfl rfl rfl rfl (fun v4 => ?_)
      refine ct_zt0 C (pc := 20) (aux := 0) (cn := .eq) (off := 23) (k' := 25) (a := v4) Iff.rfl rfl rfl rfl (fun e9 => ?_) (fun e9 => ?_)
      · refine ct_zrun C (k' := 26) (y := ([(0, .inr (.inr (7, o))), (1, .inl b1)], [.inl b1], h)) 1 rfl rfl rfl ?_
        exact ct_zret C (pc := 44) (aux := 0) (ins := .ireturn) (ρ := (fun r : Int => (some (.inl r : ct_PV), h))) (some (.inl b1)) rfl rfl rfl ⟨rfl, Or.inl rfl⟩
      · refine ct_zrun C (k' := 18) (y := ([(0, .inr (.inr (7, o))), (1, .inl b1)], [.inl b1, .inr (.inr (8, (G.1 o 29))), .inr (.inr (8, (G.1 o 3)))], h)) 5 rfl rfl rfl ?_
        refine ct_zrd C (pc := 32) (aux := 0) (ins := .iaload) (cd := 8) rfl rfl (Or.inl ⟨rfl, rfl⟩) (fun v5 => ?_)
        refine ct_zrd C (pc := 33) (aux := 0) (ins := .iaload) (cd := 8) rfl rfl (Or.inl ⟨rfl, rfl⟩) (fun v6 => ?_)
        refine ct_zrun C (k' := 23) (y := ([(0, .inr (.inr (7, o))), (1, .inl b1)], [.inl b1, .inr (.inr (8, (G.1 o 30))), .inl v6], h)) 3 rfl rfl rfl ?_
        refine ct_zrd C (pc := 39) (aux := 0) (ins := .iaload) (cd := 8) rfl rfl (Or.inl ⟨rfl, rfl⟩) (fun v7 => ?_)
        refine ct_zt C (pc := 40) (aux := 0) (cn := .eq) (off := 5) (k' := 27) (a := v6) (b := v7) Iff.rfl rfl rfl rfl (fun e8 => ?_) (fun e8 => ?_)
        · refine ct_zrun C (k' := 28) (y := ([(1, .inl (ct_wr (b1 + 1))), (0, .inr (.inr (7, o)))], [], h)) 1 rfl rfl rfl ?_
          refine ct_zgoto C (pc := 48) (aux := 0) (off := (-46)) (k' := 2) rfl rfl ?_
          exact ct_zsub [1, 0] rfl (ih (ct_wr (b1 + 1)))
        · refine ct_zrun C (k' := 26) (y := ([(0, .inr (.inr (7, o))), (1, .inl b1)], [.inl b1], h)) 1 rfl rfl rfl ?_
          exact ct_zret C (pc := 44) (aux := 0) (ins := .ireturn) (ρ := (fun r : Int => (some (.inl r : ct_PV), h))) (some (.inl b1)) rfl rfl rfl ⟨rfl, Or.inl rfl⟩
def f_X7_looked (G : ct_G) (h : ct_H) (o : Nat) : Option (Int) := l_X7_looked_2 G o h 200 0
set_option maxRecDepth 100000 in
theorem e_X7_looked {d : Nat} {G : ct_G} {h : ct_H} (o : Nat) : ct_E m_X7_looked (d + 2) G (ct_args 0 [.inr (.inr (7, o))]) h (fun r : Int => (some (.inl r : ct_PV), h)) (f_X7_looked G h o) := by
  intro x C
  unfold f_X7_looked
  show ct_Z x m_X7_looked G 0 [(0, .inr (.inr (7, o)))] [] h (fun a => ct_q x G ((fun r : Int => (some (.inl r : ct_PV), h)) a)) _
  refine ct_zrun C (k' := 2) (y := ([(1, .inl 0), (0, .inr (.inr (7, o)))], [], h)) 2 rfl rfl rfl ?_
  exact ct_zsub [1, 0] rfl (zl_X7_looked_2 C o h 200 0)
def f_X7_isTape (G : ct_G) (h : ct_H) (a0 : Int) : Option (Int) := (f_X7_in G h a0 0 5).bind fun v1 => (ct_bz v1).bind fun _ => some v1
set_option maxRecDepth 100000 in
theorem e_X7_isTape {d : Nat} {G : ct_G} {h : ct_H} (a0 : Int) : ct_E m_X7_isTape (d + 1) G (ct_args 0 [.inl a0]) h (fun r : Int => (some (.inl r : ct_PV), h)) (f_X7_isTape G h a0) := by
  intro x C
  unfold f_X7_isTape
  show ct_Z x m_X7_isTape G 0 [(0, .inl a0)] [] h (fun a => ct_q x G ((fun r : Int => (some (.inl r : ct_PV), h)) a)) _
  refine ct_zrun C (k' := 3) (y := ([(0, .inl a0)], [.inl 5, .inl 0, .inl a0], h)) 3 rfl rfl rfl ?_
  refine ct_zS C (pc := 3) (aux := 0) [.inl a0, .inl 0, .inl 5] [] ok_X7_in lk_X7_100 (e_X7_in a0 0 5) rfl rfl rfl rfl rfl rfl (fun v1 => ?_)
  refine ct_zbz (F := fun _ => some v1) (fun z2 => ?_)
  exact ct_zret C (pc := 6) (aux := 0) (ins := .ireturn) (ρ := (fun r : Int => (some (.inl r : ct_PV), h))) (some (.inl v1)) rfl rfl rfl ⟨rfl, Or.inr ⟨rfl, z2⟩⟩
def l_X7_judge_14 (G : ct_G) (o : Nat) (a1 : Int) (a2 : Int) (h : ct_H) : Nat → Int → Option (Int)
  | 0, _ => none
  | n4 + 1, b3 => (f_X7_points G h o).bind fun v5 => if v5 ≤ b3 then (some (-5)) else (ct_rd G h (G.1 o 36) a1).bind fun v6 => if v6 < 0 then (some (ct_wr (100 + b3))) else if a2 < 0 then (some (ct_wr (100 + b3))) else (ct_rd G h (G.1 o 37) a1).bind fun v7 => if b3 < (ct_wr (v7 - a2)) then ((ct_rdR G (G.1 o 38) a1).bind fun q8 => (ct_rdL G h q8 (ct_wr (a2 + b3))).bind fun v9 => (ct_rd G h (G.1 o 3) b3).bind fun v10 => if ((lg_cmp v9 ((Int32.ofInt v10).toInt64)).toInt) = 0 then (l_X7_judge_14 G o a1 a2 h n4 (ct_wr (b3 + 1))) else some b3) else some (ct_wr (100 + b3))
set_option maxRecDepth 100000 in
theorem zl_X7_judge_14 {x : ct_Ctx} {d : Nat} {G : ct_G} (C : ct_c x m_X7_judge G (d + 2)) (o : Nat) (a1 : Int) (a2 : Int) (h : ct_H) : ∀ (n4 : Nat) (b3 : Int), ct_Z x m_X7_judge G 14 [(0, .inr (.inr (7, o))), (1, .inl a1), (2, .inl a2), (3, .inl b3)] [] h (fun a => ct_q x G ((fun r : Int => (some (.inl r : ct_PV), h)) a)) (l_X7_judge_14 G o a1 a2 h n4 b3) := by
  intro n4
  induction n4 with
  | zero => intro b3; exact ct_znone
  | succ n4 ih =>
    intro b3
    rw [l_X7_judge_14]
    refine ct_zrun C (k' := 16) (y := ([(0, .inr (.inr (7, o))), (1, .inl a1), (2, .inl a2), (3, .inl b3)], [.inr (.inr (7, o)), .inl b3], h)) 2 rfl rfl rfl ?_
    refine ct_zV C (pc := 25) (aux := 0) [] [.inl b3] ok_X7_points lk_X7_104 (e_X7_points o) rfl rfl rfl rfl rfl rfl rfl rfl (fun v5 => ?_)
    refine ct_zt C (pc := 28) (aux := 0) (cn := .ge) (off := 62) (k' := 56) (a := b3) (b := v5) Iff.rfl rfl rfl rfl (fun e15 => ?_) (fun e15 => ?_)
    · refine ct_zrun C (k' := 57) (y := ([(0, .inr (.inr (7, o))), (1, .inl a1), (2, .inl a2), (3, .inl b3)], [.inl (-5)], h)) 1 rfl rfl rfl ?_
      exact ct_zret C (pc := 92) (aux := 0) (ins := .ireturn) (ρ := (fun r : Int => (some (.inl r : ct_PV), h))) (some (.inl (-5))) rfl rfl rfl ⟨rfl, Or.inl rfl⟩
    · refine ct_zrun C (k' := 21) (y := ([(0, .inr (.inr (7, o))), (1, .inl a1), (2, .inl a2), (3, .inl b3)], [.inl a1, .inr (.inr (8, (G.1 o 36)))], h)) 3 rfl rfl rfl ?_
      refine ct_zrd C (pc := 36) (aux := 0) (ins := .iaload) (cd := 8) rfl rfl (Or.inl ⟨rfl, rfl⟩) (fun v6 => ?_)
      refine ct_zt0 C (pc := 37) (aux := 0) (cn := .lt) (off := 19) (k' := 33) (a := v6) Iff.rfl rfl rfl rfl (fun e14 => ?_) (fun e14 => ?_)
      · refine ct_zrun C (k' := 36) (y := ([(0, .inr (.inr (7, o))), (1, .inl a1), (2, .inl a2), (3, .inl b3)], [.inl (ct_wr (100 + b3))], h)) 3 rfl rfl rfl ?_
        exact ct_zret C (pc := 60) (aux := 0) (ins := .ireturn) (ρ := (fun r : Int => (some (.inl r : ct_PV), h))) (some (.inl (ct_wr (100 + b3)))) rfl rfl rfl ⟨rfl, Or.inl rfl⟩
      · refine ct_zrun C (k' := 24) (y := ([(0, .inr (.inr (7, o))), (1, .inl a1), (2, .inl a2), (3, .inl b3)], [.inl a2], h)) 1 rfl rfl rfl ?_
        refine ct_zt0 C (pc := 41) (aux := 0) (cn := .lt) (off := 15) (k' := 33) (a := a2) Iff.rfl rfl rfl rfl (fun e13 => ?_) (fun e13 => ?_)
        · refine ct_zrun C (k' := 36) (y := ([(0, .inr (.inr (7, o))), (1, .inl a1), (2, .inl a2), (3, .inl b3)], [.inl (ct_wr (100 + b3))], h)) 3 rfl rfl rfl ?_
          exact ct_zret C (pc := 60) (aux := 0) (ins := .ireturn) (ρ := (fun r : Int => (some (.inl r : ct_PV), h))) (some (.inl (ct_wr (100 + b3)))) rfl rfl rfl ⟨rfl, Or.inl rfl⟩
        · refine ct_zrun C (k' := 29) (y := ([(0, .inr (.inr (7, o))), (1, .inl a1), (2, .inl a2), (3, .inl b3)], [.inl a1, .inr (.inr (8, (G.1 o 37))), .inl b3], h)) 4 rfl rfl rfl ?_
          refine ct_zrd C (pc := 50) (aux := 0) (ins := .iaload) (cd := 8) rfl rfl (Or.inl ⟨rfl, rfl⟩) (fun v7 => ?_)
          refine ct_zrun C (k' := 32) (y := ([(0, .inr (.inr (7, o))), (1, .inl a1), (2, .inl a2), (3, .inl b3)], [.inl (ct_wr (v7 - a2)), .inl b3], h)) 2 rfl rfl rfl ?_
          refine ct_zt C (pc := 53) (aux := 0) (cn := .lt) (off := 8) (k' := 37) (a := b3) (b := (ct_wr (v7 - a2))) Iff.rfl rfl rfl rfl (fun e12 => ?_) (fun e12 => ?_)
          · refine ct_zrun C (k' := 40) (y := ([(0, .inr (.inr (7, o))), (1, .inl a1), (2, .inl a2), (3, .inl b3)], [.inl a1, .inr (.inr (14, (G.1 o 38)))], h)) 3 rfl rfl rfl ?_
            refine ct_zrdR C (pc := 66) (aux := 0) (cd := 14) rfl rfl (Or.inr (Or.inr rfl)) (fun q8 => ?_)
            refine ct_zrun C (k' := 44) (y := ([(0, .inr (.inr (7, o))), (1, .inl a1), (2, .inl a2), (3, .inl b3)], [.inl (ct_wr (a2 + b3)), .inr (.inr (11, q8))], h)) 3 rfl rfl rfl ?_
            refine ct_zrdL C (pc := 70) (aux := 0) rfl rfl (fun v9 => ?_)
            refine ct_zrun C (k' := 48) (y := ([(0, .inr (.inr (7, o))), (1, .inl a1), (2, .inl a2), (3, .inl b3)], [.inl b3, .inr (.inr (8, (G.1 o 3))), .inr (.inl v9)], h)) 3 rfl rfl rfl ?_
            refine ct_zrd C (pc := 76) (aux := 0) (ins := .iaload) (cd := 8) rfl rfl (Or.inl ⟨rfl, rfl⟩) (fun v10 => ?_)
            refine ct_zrun C (k' := 51) (y := ([(0, .inr (.inr (7, o))), (1, .inl a1), (2, .inl a2), (3, .inl b3)], [.inl ((lg_cmp v9 ((Int32.ofInt v10).toInt64)).toInt)], h)) 2 rfl rfl rfl ?_
            refine ct_zt0 C (pc := 79) (aux := 0) (cn := .eq) (off := 5) (k' := 54) (a := ((lg_cmp v9 ((Int32.ofInt v10).toInt64)).toInt)) Iff.rfl rfl rfl rfl (fun e11 => ?_) (fun e11 => ?_)
            · refine ct_zrun C (k' := 55) (y := ([(3, .inl (ct_wr (b3 + 1))), (0, .inr (.inr (7, o))), (1, .inl a1), (2, .inl a2)], [], h)) 1 rfl rfl rfl ?_
              refine ct_zgoto C (pc := 87) (aux := 0) (off := (-64)) (k' := 14) rfl rfl ?_
              exact ct_zsub [1, 2, 3, 0] rfl (ih (ct_wr (b3 + 1)))
            · refine ct_zrun C (k' := 53) (y := ([(0, .inr (.inr (7, o))), (1, .inl a1), (2, .inl a2), (3, .inl b3)], [.inl b3], h)) 1 rfl rfl rfl ?_
              exact ct_zret C (pc := 83) (aux := 0) (ins := .ireturn) (ρ := (fun r : Int => (some (.inl r : ct_PV), h))) (some (.inl b3)) rfl rfl rfl ⟨rfl, Or.inl rfl⟩
          · refine ct_zrun C (k' := 36) (y := ([(0, .inr (.inr (7, o))), (1, .inl a1), (2, .inl a2), (3, .inl b3)], [.inl (ct_wr (100 + b3))], h)) 3 rfl rfl rfl ?_
            exact ct_zret C (pc := 60) (aux := 0) (ins := .ireturn) (ρ := (fun r : Int => (some (.inl r : ct_PV), h))) (some (.inl (ct_wr (100 + b3)))) rfl rfl rfl ⟨rfl, Or.inl rfl⟩
def f_X7_judge (G : ct_G) (h : ct_H) (o : Nat) (a1 : Int) (a2 : Int) : Option (Int) := (f_X7_isTape G h a1).bind fun v1 => if v1 = 0 then (some (-1)) else (ct_rd G h (G.1 o 36) a1).bind fun v2 => if v2 ≤ 0 then (l_X7_judge_14 G o a1 a2 h 200 0) else some (-12)
set_option maxRecDepth 100000 in
theorem e_X7_judge {d : Nat} {G : ct_G} {h : ct_H} (o : Nat) (a1 : Int) (a2 : Int) : ct_E m_X7_judge (d + 2) G (ct_args 0 [.inr (.inr (7, o)), .inl a1, .inl a2]) h (fun r : Int => (some (.inl r : ct_PV), h)) (f_X7_judge G h o a1 a2) := by
  intro x C
  unfold f_X7_judge
  show ct_Z x m_X7_judge G 0 [(0, .inr (.inr (7, o))), (1, .inl a1), (2, .inl a2)] [] h (fun a => ct_q x G ((fun r : Int => (some (.inl r : ct_PV), h)) a)) _
  refine ct_zrun C (k' := 1) (y := ([(0, .inr (.inr (7, o))), (1, .inl a1), (2, .inl a2)], [.inl a1], h)) 1 rfl rfl rfl ?_
  refine ct_zS C (pc := 1) (aux := 0) [.inl a1] [] ok_X7_isTape lk_X7_417 (e_X7_isTape a1) rfl rfl rfl rfl rfl rfl (fun v1 => ?_)
  refine ct_zf0 C (pc := 4) (aux := 0) (cn := .ne) (off := 5) (k' := 5) (a := v1) Iff.rfl rfl rfl rfl (fun e17 => ?_) (fun e17 => ?_)
  · refine ct_zrun C (k' := 4) (y := ([(0, .inr (.inr (7, o))), (1, .inl a1), (2, .inl a2)], [.inl (-1)], h)) 1 rfl rfl rfl ?_
    exact ct_zret C (pc := 8) (aux := 0) (ins := .ireturn) (ρ := (fun r : Int => (some (.inl r : ct_PV), h))) (some (.inl (-1))) rfl rfl rfl ⟨rfl, Or.inl rfl⟩
  · refine ct_zrun C (k' := 8) (y := ([(0, .inr (.inr (7, o))), (1, .inl a1), (2, .inl a2)], [.inl a1, .inr (.inr (8, (G.1 o 36)))], h)) 3 rfl rfl rfl ?_
    refine ct_zrd C (pc := 14) (aux := 0) (ins := .iaload) (cd := 8) rfl rfl (Or.inl ⟨rfl, rfl⟩) (fun v2 => ?_)
    refine ct_zt0 C (pc := 15) (aux := 0) (cn := .le) (off := 6) (k' := 12) (a := v2) Iff.rfl rfl rfl rfl (fun e16 => ?_) (fun e16 => ?_)
    · refine ct_zrun C (k' := 14) (y := ([(3, .inl 0), (0, .inr (.inr (7, o))), (1, .inl a1), (2, .inl a2)], [], h)) 2 rfl rfl rfl ?_
      exact ct_zsub [1, 2, 3, 0] rfl (zl_X7_judge_14 C o a1 a2 h 200 0)
    · refine ct_zrun C (k' := 11) (y := ([(0, .inr (.inr (7, o))), (1, .inl a1), (2, .inl a2)], [.inl (-12)], h)) 1 rfl rfl rfl ?_
      exact ct_zret C (pc := 20) (aux := 0) (ins := .ireturn) (ρ := (fun r : Int => (some (.inl r : ct_PV), h))) (some (.inl (-12))) rfl rfl rfl ⟨rfl, Or.inl rfl⟩
def l_X7_together_4 (G : ct_G) (o : Nat) (h : ct_H) : Nat → (Int × Int) → Option (Int)
  | 0, _ => none
  | n2 + 1, b1 => (f_X7_points G h o).bind fun v3 => if v3 ≤ b1.2 then (some (b1.1)) else (ct_rd G h (G.1 o 3) b1.2).bind fun v4 => ct_lt (ct_wr (b1.1 + v4)) fun v5 => l_X7_together_4 G o h n2 (v5, (ct_wr (b1.2 + 1)))
set_option maxRecDepth 100000 in
theorem zl_X7_together_4 {x : ct_Ctx} {d : Nat} {G : ct_G} (C : ct_c x m_X7_together G (d + 1)) (o : Nat) (h : ct_H) : ∀ (n2 : Nat) (b1 : Int × Int), ct_Z x m_X7_together G 4 [(0, .inr (.inr (7, o))), (1, .inl (b1.1)), (2, .inl (b1.2))] [] h (fun a => ct_q x G ((fun r : Int => (some (.inl r : ct_PV), h)) a)) (l_X7_together_4 G o h n2 b1) := by
  intro n2
  induction n2 with
  | zero => intro b1; exact ct_znone
  | succ n2 ih =>
    intro b1
    rw [l_X7_together_4]
    refine ct_zrun C (k' := 6) (y := ([(0, .inr (.inr (7, o))), (1, .inl (b1.1)), (2, .inl (b1.2))], [.inr (.inr (7, o)), .inl (b1.2)], h)) 2 rfl rfl rfl ?_
    refine ct_zV C (pc := 6) (aux := 0) [] [.inl (b1.2)] ok_X7_points lk_X7_104 (e_X7_points o) rfl rfl rfl rfl rfl rfl rfl rfl (fun v3 => ?_)
    refine ct_zt C (pc := 9) (aux := 0) (cn := .ge) (off := 18) (k' := 17) (a := b1.2) (b := v3) Iff.rfl rfl rfl rfl (fun e6 => ?_) (fun e6 => ?_)
    · refine ct_zrun C (k' := 18) (y := ([(0, .inr (.inr (7, o))), (1, .inl (b1.1)), (2, .inl (b1.2))], [.inl (b1.1)], h)) 1 rfl rfl rfl ?_
      exact ct_zret C (pc := 28) (aux := 0) (ins := .ireturn) (ρ := (fun r : Int => (some (.inl r : ct_PV), h))) (some (.inl (b1.1))) rfl rfl rfl ⟨rfl, Or.inl rfl⟩
    · refine ct_zrun C (k' := 12) (y := ([(0, .inr (.inr (7, o))), (1, .inl (b1.1)), (2, .inl (b1.2))], [.inl (b1.2), .inr (.inr (8, (G.1 o 3))), .inl (b1.1)], h)) 4 rfl rfl rfl ?_
      refine ct_zrd C (pc := 18) (aux := 0) (ins := .iaload) (cd := 8) rfl rfl (Or.inl ⟨rfl, rfl⟩) (fun v4 => ?_)
      refine ct_zrun C (k' := 15) (y := ([(1, .inl (ct_wr (b1.1 + v4))), (0, .inr (.inr (7, o))), (2, .inl (b1.2))], [], h)) 2 rfl rfl rfl ?_
      refine ct_zlet (L := fun v5 => [(1, .inl v5), (0, .inr (.inr (7, o))), (2, .inl (b1.2))]) (S := fun _ => []) (Hh := fun _ => h) (a := (ct_wr (b1.1 + v4))) (fun v5 => ?_)
      refine ct_zrun C (k' := 16) (y := ([(2, .inl (ct_wr (b1.2 + 1))), (1, .inl v5), (0, .inr (.inr (7, o)))], [], h)) 1 rfl rfl rfl ?_
      refine ct_zgoto C (pc := 24) (aux := 0) (off := (-20)) (k' := 4) rfl rfl ?_
      exact ct_zsub [2, 1, 0] rfl (ih (v5, (ct_wr (b1.2 + 1))))
def f_X7_together (G : ct_G) (h : ct_H) (o : Nat) : Option (Int) := l_X7_together_4 G o h 200 (0, 0)
set_option maxRecDepth 100000 in
theorem e_X7_together {d : Nat} {G : ct_G} {h : ct_H} (o : Nat) : ct_E m_X7_together (d + 1) G (ct_args 0 [.inr (.inr (7, o))]) h (fun r : Int => (some (.inl r : ct_PV), h)) (f_X7_together G h o) := by
  intro x C
  unfold f_X7_together
  show ct_Z x m_X7_together G 0 [(0, .inr (.inr (7, o)))] [] h (fun a => ct_q x G ((fun r : Int => (some (.inl r : ct_PV), h)) a)) _
  refine ct_zrun C (k' := 4) (y := ([(2, .inl 0), (1, .inl 0), (0, .inr (.inr (7, o)))], [], h)) 4 rfl rfl rfl ?_
  exact ct_zsub [2, 1, 0] rfl (zl_X7_together_4 C o h 200 (0, 0))
def f_X7_rowsOf (G : ct_G) (h : ct_H) (o : Nat) (a1 : Int) : Option (Nat) := if a1 = 0 then (some (G.1 o 22)) else if a1 = 1 then (some (G.1 o 23)) else if a1 = 2 then (some (G.1 o 25)) else if a1 = 3 then (some (G.1 o 26)) else if a1 = 4 then (some (G.1 o 29)) else some (G.1 o 30)
set_option maxRecDepth 100000 in
theorem e_X7_rowsOf {d : Nat} {G : ct_G} {h : ct_H} (o : Nat) (a1 : Int) : ct_E m_X7_rowsOf d G (ct_args 0 [.inr (.inr (7, o)), .inl a1]) h (fun r : Nat => (some (.inr (.inr (8, r)) : ct_PV), h)) (f_X7_rowsOf G h o a1) := by
  intro x C
  unfold f_X7_rowsOf
  show ct_Z x m_X7_rowsOf G 0 [(0, .inr (.inr (7, o))), (1, .inl a1)] [] h (fun a => ct_q x G ((fun r : Nat => (some (.inr (.inr (8, r)) : ct_PV), h)) a)) _
  refine ct_zrun C (k' := 1) (y := ([(0, .inr (.inr (7, o))), (1, .inl a1)], [.inl a1], h)) 1 rfl rfl rfl ?_
  refine ct_zsplit (fun e1 => ?_) (fun e1 => ?_)
  · refine ct_zsw C (off := 35) (k' := 2) rfl (by rw [e1]; rfl) rfl ?_
    refine ct_zrun C (k' := 4) (y := ([(0, .inr (.inr (7, o))), (1, .inl a1)], [.inr (.inr (8, (G.1 o 22)))], h)) 2 rfl rfl rfl ?_
    exact ct_zret C (pc := 40) (aux := 0) (ins := .areturn) (ρ := (fun r : Nat => (some (.inr (.inr (8, r)) : ct_PV), h))) (some (.inr (.inr (8, (G.1 o 22))))) rfl rfl rfl ⟨rfl, _, rfl, Or.inr ⟨_, rfl⟩⟩
  · refine ct_zsplit (fun e2 => ?_) (fun e2 => ?_)
    · refine ct_zsw C (off := 40) (k' := 5) rfl (by rw [e2]; rfl) rfl ?_
      refine ct_zrun C (k' := 7) (y := ([(0, .inr (.inr (7, o))), (1, .inl a1)], [.inr (.inr (8, (G.1 o 23)))], h)) 2 rfl rfl rfl ?_
      exact ct_zret C (pc := 45) (aux := 0) (ins := .areturn) (ρ := (fun r : Nat => (some (.inr (.inr (8, r)) : ct_PV), h))) (some (.inr (.inr (8, (G.1 o 23))))) rfl rfl rfl ⟨rfl, _, rfl, Or.inr ⟨_, rfl⟩⟩
    · refine ct_zsplit (fun e3 => ?_) (fun e3 => ?_)
      · refine ct_zsw C (off := 45) (k' := 8) rfl (by rw [e3]; rfl) rfl ?_
        refine ct_zrun C (k' := 10) (y := ([(0, .inr (.inr (7, o))), (1, .inl a1)], [.inr (.inr (8, (G.1 o 25)))], h)) 2 rfl rfl rfl ?_
        exact ct_zret C (pc := 50) (aux := 0) (ins := .areturn) (ρ := (fun r : Nat => (some (.inr (.inr (8, r)) : ct_PV), h))) (some (.inr (.inr (8, (G.1 o 25))))) rfl rfl rfl ⟨rfl, _, rfl, Or.inr ⟨_, rfl⟩⟩
      · refine ct_zsplit (fun e4 => ?_) (fun e4 => ?_)
        · refine ct_zsw C (off := 50) (k' := 11) rfl (by rw [e4]; rfl) rfl ?_
          refine ct_zrun C (k' := 13) (y := ([(0, .inr (.inr (7, o))), (1, .inl a1)], [.inr (.inr (8, (G.1 o 26)))], h)) 2 rfl rfl rfl ?_
          exact ct_zret C (pc := 55) (aux := 0) (ins := .areturn) (ρ := (fun r : Nat => (some (.inr (.inr (8, r)) : ct_PV), h))) (some (.inr (.inr (8, (G.1 o 26))))) rfl rfl rfl ⟨rfl, _, rfl, Or.inr ⟨_, rfl⟩⟩
        · refine ct_zsplit (fun e5 => ?_) (fun e5 => ?_)
          · refine ct_zsw C (off := 55) (k' := 14) rfl (by rw [e5]; rfl) rfl ?_
            refine ct_zrun C (k' := 16) (y := ([(0, .inr (.inr (7, o))), (1, .inl a1)], [.inr (.inr (8, (G.1 o 29)))], h)) 2 rfl rfl rfl ?_
            exact ct_zret C (pc := 60) (aux := 0) (ins := .areturn) (ρ := (fun r : Nat => (some (.inr (.inr (8, r)) : ct_PV), h))) (some (.inr (.inr (8, (G.1 o 29))))) rfl rfl rfl ⟨rfl, _, rfl, Or.inr ⟨_, rfl⟩⟩
          · refine ct_zsw C (off := 60) (k' := 17) rfl (by show (if _ then _ else _) = _; rw [if_pos (by omega)]) rfl ?_
            refine ct_zrun C (k' := 19) (y := ([(0, .inr (.inr (7, o))), (1, .inl a1)], [.inr (.inr (8, (G.1 o 30)))], h)) 2 rfl rfl rfl ?_
            exact ct_zret C (pc := 65) (aux := 0) (ins := .areturn) (ρ := (fun r : Nat => (some (.inr (.inr (8, r)) : ct_PV), h))) (some (.inr (.inr (8, (G.1 o 30))))) rfl rfl rfl ⟨rfl, _, rfl, Or.inr ⟨_, rfl⟩⟩
def l_X7_image_49 (G : ct_G) (o : Nat) (k11 : ct_H → Option (Int × ct_H)) : Nat → (Int × ct_H) → Option (Int × ct_H)
  | 0, _ => none
  | n10 + 1, b9 => if 6 ≤ b9.1 then (k11 (b9.2)) else (f_X7_rowsOf G b9.2 o b9.1).bind fun v14 => (ct_rdR G (G.1 o 34) b9.1).bind fun q15 => (f_X7_rowsOf G b9.2 o b9.1).bind fun v16 => (ct_cpI G b9.2 v14 0 q15 0 ((G.2 v16 : Nat) : Int)).bind fun h17 => l_X7_image_49 G o k11 n10 ((ct_wr (b9.1 + 1)), h17)
set_option maxRecDepth 100000 in
theorem zl_X7_image_49 {x : ct_Ctx} {d : Nat} {G : ct_G} (C : ct_c x m_X7_image G (d + 2)) (o : Nat) (k11 : ct_H → Option (Int × ct_H)) (z12 : ∀ b13 : ct_H, ct_Z x m_X7_image G 68 [(0, .inr (.inr (7, o)))] [] b13 (fun a => ct_q x G ((fun r : Int × ct_H => (some (.inl (r.1) : ct_PV), r.2)) a)) (k11 b13)) : ∀ (n10 : Nat) (b9 : Int × ct_H), ct_Z x m_X7_image G 49 [(0, .inr (.inr (7, o))), (1, .inl (b9.1))] [] b9.2 (fun a => ct_q x G ((fun r : Int × ct_H => (some (.inl (r.1) : ct_PV), r.2)) a)) (l_X7_image_49 G o k11 n10 b9) := by
  intro n10
  induction n10 with
  | zero => intro b9; exact ct_znone
  | succ n10 ih =>
    intro b9
    rw [l_X7_image_49]
    refine ct_zrun C (k' := 51) (y := ([(0, .inr (.inr (7, o))), (1, .inl (b9.1))], [.inl 6, .inl (b9.1)], b9.2)) 2 rfl rfl rfl ?_
    refine ct_zt C (pc := 85) (aux := 0) (cn := .ge) (off := 31) (k' := 68) (a := b9.1) (b := 6) Iff.rfl rfl rfl rfl (fun e18 => ?_) (fun e18 => ?_)
    · exact ct_zsub [0] rfl (z12 (b9.2))
    · refine ct_zrun C (k' := 54) (y := ([(0, .inr (.inr (7, o))), (1, .inl (b9.1))], [.inl (b9.1), .inr (.inr (7, o))], b9.2)) 2 rfl rfl rfl ?_
      refine ct_zV C (pc := 90) (aux := 0) [.inl (b9.1)] [] ok_X7_rowsOf lk_X7_424 (e_X7_rowsOf o (b9.1)) rfl rfl rfl rfl rfl rfl rfl rfl (fun v14 => ?_)
      refine ct_zrun C (k' := 59) (y := ([(0, .inr (.inr (7, o))), (1, .inl (b9.1))], [.inl (b9.1), .inr (.inr (13, (G.1 o 34))), .inl 0, .inr (.inr (8, v14))], b9.2)) 4 rfl rfl rfl ?_
      refine ct_zrdR C (pc := 99) (aux := 0) (cd := 13) rfl rfl (Or.inr (Or.inl rfl)) (fun q15 => ?_)
      refine ct_zrun C (k' := 63) (y := ([(0, .inr (.inr (7, o))), (1, .inl (b9.1))], [.inl (b9.1), .inr (.inr (7, o)), .inl 0, .inr (.inr (8, q15)), .inl 0, .inr (.inr (8, v14))], b9.2)) 3 rfl rfl rfl ?_
      refine ct_zV C (pc := 103) (aux := 0) [.inl (b9.1)] [.inl 0, .inr (.inr (8, q15)), .inl 0, .inr (.inr (8, v14))] ok_X7_rowsOf lk_X7_424 (e_X7_rowsOf o (b9.1)) rfl rfl rfl rfl rfl rfl rfl rfl (fun v16 => ?_)
      refine ct_zrun C (k' := 65) (y := ([(0, .inr (.inr (7, o))), (1, .inl (b9.1))], [.inl ((G.2 v16 : Nat) : Int), .inl 0, .inr (.inr (8, q15)), .inl 0, .inr (.inr (8, v14))], b9.2)) 1 rfl rfl rfl ?_
      refine ct_zcopy C (pc := 107) (aux := 0) lk_X7_383 ct_gsys rfl rfl rfl (fun h17 => ?_)
      refine ct_zrun C (k' := 67) (y := ([(1, .inl (ct_wr (b9.1 + 1))), (0, .inr (.inr (7, o)))], [], h17)) 1 rfl rfl rfl ?_
      refine ct_zgoto C (pc := 113) (aux := 0) (off := (-31)) (k' := 49) rfl rfl ?_
      exact ct_zsub [1, 0] rfl (ih ((ct_wr (b9.1 + 1)), h17))
def f_X7_image (G : ct_G) (h : ct_H) (o : Nat) : Option (Int × ct_H) := ct_lt (ct_wF h o 35 1) fun h1 => (ct_wt G h1 (G.1 o 32) 0 (h1.1 o 0)).bind fun h2 => (ct_wt G h2 (G.1 o 32) 1 (h2.1 o 1)).bind fun h3 => (ct_wt G h3 (G.1 o 32) 2 (h3.1 o 2)).bind fun h4 => (ct_wt G h4 (G.1 o 32) 3 (h4.1 o 24)).bind fun h5 => (ct_wt G h5 (G.1 o 32) 4 (h5.1 o 27)).bind fun h6 => (ct_wt G h6 (G.1 o 32) 5 (h6.1 o 31)).bind fun h7 => (ct_cpI G h7 (G.1 o 3) 0 (G.1 o 33) 0 49).bind fun h8 => l_X7_image_49 G o (fun b19 => (f_X7_together G b19 o).bind fun v20 => some (v20, b19)) 200 (0, h8)
set_option maxRecDepth 100000 in
theorem e_X7_image {d : Nat} {G : ct_G} {h : ct_H} (o : Nat) : ct_E m_X7_image (d + 2) G (ct_args 0 [.inr (.inr (7, o))]) h (fun r : Int × ct_H => (some (.inl (r.1) : ct_PV), r.2)) (f_X7_image G h o) := by
  intro x C
  unfold f_X7_image
  show ct_Z x m_X7_image G 0 [(0, .inr (.inr (7, o)))] [] h (fun a => ct_q x G ((fun r : Int × ct_H => (some (.inl (r.1) : ct_PV), r.2)) a)) _
  refine ct_zrun C (k' := 3) (y := ([(0, .inr (.inr (7, o)))], [], (ct_wF h o 35 1))) 3 rfl rfl rfl ?_
  refine ct_zlet (L := fun _ => [(0, .inr (.inr (7, o)))]) (S := fun _ => []) (Hh := fun h1 => h1) (a := (ct_wF h o 35 1)) (fun h1 => ?_)
  refine ct_zrun C (k' := 8) (y := ([(0, .inr (.inr (7, o)))], [.inl (h1.1 o 0), .inl 0, .inr (.inr (8, (G.1 o 32)))], h1)) 5 rfl rfl rfl ?_
  refine ct_zwt C (pc := 14) (aux := 0) rfl rfl (fun h2 => ?_)
  refine ct_zrun C (k' := 14) (y := ([(0, .inr (.inr (7, o)))], [.inl (h2.1 o 1), .inl 1, .inr (.inr (8, (G.1 o 32)))], h2)) 5 rfl rfl rfl ?_
  refine ct_zwt C (pc := 24) (aux := 0) rfl rfl (fun h3 => ?_)
  refine ct_zrun C (k' := 20) (y := ([(0, .inr (.inr (7, o)))], [.inl (h3.1 o 2), .inl 2, .inr (.inr (8, (G.1 o 32)))], h3)) 5 rfl rfl rfl ?_
  refine ct_zwt C (pc := 34) (aux := 0) rfl rfl (fun h4 => ?_)
  refine ct_zrun C (k' := 26) (y := ([(0, .inr (.inr (7, o)))], [.inl (h4.1 o 24), .inl 3, .inr (.inr (8, (G.1 o 32)))], h4)) 5 rfl rfl rfl ?_
  refine ct_zwt C (pc := 44) (aux := 0) rfl rfl (fun h5 => ?_)
  refine ct_zrun C (k' := 32) (y := ([(0, .inr (.inr (7, o)))], [.inl (h5.1 o 27), .inl 4, .inr (.inr (8, (G.1 o 32)))], h5)) 5 rfl rfl rfl ?_
  refine ct_zwt C (pc := 54) (aux := 0) rfl rfl (fun h6 => ?_)
  refine ct_zrun C (k' := 38) (y := ([(0, .inr (.inr (7, o)))], [.inl (h6.1 o 31), .inl 5, .inr (.inr (8, (G.1 o 32)))], h6)) 5 rfl rfl rfl ?_
  refine ct_zwt C (pc := 64) (aux := 0) rfl rfl (fun h7 => ?_)
  refine ct_zrun C (k' := 46) (y := ([(0, .inr (.inr (7, o)))], [.inl 49, .inl 0, .inr (.inr (8, (G.1 o 33))), .inl 0, .inr (.inr (8, (G.1 o 3)))], h7)) 7 rfl rfl rfl ?_
  refine ct_zcopy C (pc := 77) (aux := 0) lk_X7_383 ct_gsys rfl rfl rfl (fun h8 => ?_)
  refine ct_zrun C (k' := 49) (y := ([(1, .inl 0), (0, .inr (.inr (7, o)))], [], h8)) 2 rfl rfl rfl ?_
  refine ct_zsub [1, 0] rfl (zl_X7_image_49 C o _ (fun b19 => ?_) 200 (0, h8))
  refine ct_zrun C (k' := 69) (y := ([(0, .inr (.inr (7, o)))], [.inr (.inr (7, o))], b19)) 1 rfl rfl rfl ?_
  refine ct_zV C (pc := 117) (aux := 0) [] [] ok_X7_together lk_X7_428 (e_X7_together o) rfl rfl rfl rfl rfl rfl rfl rfl (fun v20 => ?_)
  exact ct_zret C (pc := 120) (aux := 0) (ins := .ireturn) (ρ := (fun r : Int × ct_H => (some (.inl (r.1) : ct_PV), r.2))) (some (.inl v20)) rfl rfl rfl ⟨rfl, Or.inl rfl⟩
def l_X7_undo_51 (G : ct_G) (o : Nat) (k16 : ct_H → Option (Int × ct_H)) : Nat → (Int × ct_H) → Option (Int × ct_H)
  | 0, _ => none
  | n15 + 1, b14 => if 6 ≤ b14.1 then (k16 (b14.2)) else (ct_rdR G (G.1 o 34) b14.1).bind fun q19 => (f_X7_rowsOf G b14.2 o b14.1).bind fun v20 => (f_X7_rowsOf G b14.2 o b14.1).bind fun v21 => (ct_cpI G b14.2 q19 0 v20 0 ((G.2 v21 : Nat) : Int)).bind fun h22 => l_X7_undo_51 G o k16 n15 ((ct_wr (b14.1 + 1)), h22)
set_option maxRecDepth 100000 in
theorem zl_X7_undo_51 {x : ct_Ctx} {d : Nat} {G : ct_G} (C : ct_c x m_X7_undo G (d + 2)) (o : Nat) (k16 : ct_H → Option (Int × ct_H)) (z17 : ∀ b18 : ct_H, ct_Z x m_X7_undo G 70 [(0, .inr (.inr (7, o)))] [] b18 (fun a => ct_q x G ((fun r : Int × ct_H => (some (.inl (r.1) : ct_PV), r.2)) a)) (k16 b18)) : ∀ (n15 : Nat) (b14 : Int × ct_H), ct_Z x m_X7_undo G 51 [(0, .inr (.inr (7, o))), (1, .inl (b14.1))] [] b14.2 (fun a => ct_q x G ((fun r : Int × ct_H => (some (.inl (r.1) : ct_PV), r.2)) a)) (l_X7_undo_51 G o k16 n15 b14) := by
  intro n15
  induction n15 with
  | zero => intro b14; exact ct_znone
  | succ n15 ih =>
    intro b14
    rw [l_X7_undo_51]
    refine ct_zrun C (k' := 53) (y := ([(0, .inr (.inr (7, o))), (1, .inl (b14.1))], [.inl 6, .inl (b14.1)], b14.2)) 2 rfl rfl rfl ?_
    refine ct_zt C (pc := 90) (aux := 0) (cn := .ge) (off := 31) (k' := 70) (a := b14.1) (b := 6) Iff.rfl rfl rfl rfl (fun e23 => ?_) (fun e23 => ?_)
    · exact ct_zsub [0] rfl (z17 (b14.2))
    · refine ct_zrun C (k' := 57) (y := ([(0, .inr (.inr (7, o))), (1, .inl (b14.1))], [.inl (b14.1), .inr (.inr (13, (G.1 o 34)))], b14.2)) 3 rfl rfl rfl ?_
      refine ct_zrdR C (pc := 98) (aux := 0) (cd := 13) rfl rfl (Or.inr (Or.inl rfl)) (fun q19 => ?_)
      refine ct_zrun C (k' := 61) (y := ([(0, .inr (.inr (7, o))), (1, .inl (b14.1))], [.inl (b14.1), .inr (.inr (7, o)), .inl 0, .inr (.inr (8, q19))], b14.2)) 3 rfl rfl rfl ?_
      refine ct_zV C (pc := 102) (aux := 0) [.inl (b14.1)] [.inl 0, .inr (.inr (8, q19))] ok_X7_rowsOf lk_X7_424 (e_X7_rowsOf o (b14.1)) rfl rfl rfl rfl rfl rfl rfl rfl (fun v20 => ?_)
      refine ct_zrun C (k' := 65) (y := ([(0, .inr (.inr (7, o))), (1, .inl (b14.1))], [.inl (b14.1), .inr (.inr (7, o)), .inl 0, .inr (.inr (8, v20)), .inl 0, .inr (.inr (8, q19))], b14.2)) 3 rfl rfl rfl ?_
      refine ct_zV C (pc := 108) (aux := 0) [.inl (b14.1)] [.inl 0, .inr (.inr (8, v20)), .inl 0, .inr (.inr (8, q19))] ok_X7_rowsOf lk_X7_424 (e_X7_rowsOf o (b14.1)) rfl rfl rfl rfl rfl rfl rfl rfl (fun v21 => ?_)
      refine ct_zrun C (k' := 67) (y := ([(0, .inr (.inr (7, o))), (1, .inl (b14.1))], [.inl ((G.2 v21 : Nat) : Int), .inl 0, .inr (.inr (8, v20)), .inl 0, .inr (.inr (8, q19))], b14.2)) 1 rfl rfl rfl ?_
      refine ct_zcopy C (pc := 112) (aux := 0) lk_X7_383 ct_gsys rfl rfl rfl (fun h22 => ?_)
      refine ct_zrun C (k' := 69) (y := ([(1, .inl (ct_wr (b14.1 + 1))), (0, .inr (.inr (7, o)))], [], h22)) 1 rfl rfl rfl ?_
      refine ct_zgoto C (pc := 118) (aux := 0) (off := (-31)) (k' := 51) rfl rfl ?_
      exact ct_zsub [1, 0] rfl (ih ((ct_wr (b14.1 + 1)), h22))
def f_X7_undo (G : ct_G) (h : ct_H) (o : Nat) : Option (Int × ct_H) := if (h.1 o 35) = 0 then (some ((-3), h)) else (ct_rd G h (G.1 o 32) 0).bind fun v1 => ct_lt (ct_wF h o 0 v1) fun h2 => (ct_rd G h2 (G.1 o 32) 1).bind fun v3 => ct_lt (ct_wF h2 o 1 v3) fun h4 => (ct_rd G h4 (G.1 o 32) 2).bind fun v5 => ct_lt (ct_wF h4 o 2 v5) fun h6 => (ct_rd G h6 (G.1 o 32) 3).bind fun v7 => ct_lt (ct_wF h6 o 24 v7) fun h8 => (ct_rd G h8 (G.1 o 32) 4).bind fun v9 => ct_lt (ct_wF h8 o 27 v9) fun h10 => (ct_rd G h10 (G.1 o 32) 5).bind fun v11 => ct_lt (ct_wF h10 o 31 v11) fun h12 => (ct_cpI G h12 (G.1 o 33) 0 (G.1 o 3) 0 49).bind fun h13 => l_X7_undo_51 G o (fun b24 => (f_X7_together G b24 o).bind fun v25 => some (v25, b24)) 200 (0, h13)
set_option maxRecDepth 100000 in
theorem e_X7_undo {d : Nat} {G : ct_G} {h : ct_H} (o : Nat) : ct_E m_X7_undo (d + 2) G (ct_args 0 [.inr (.inr (7, o))]) h (fun r : Int × ct_H => (some (.inl (r.1) : ct_PV), r.2)) (f_X7_undo G h o) := by
  intro x C
  unfold f_X7_undo
  show ct_Z x m_X7_undo G 0 [(0, .inr (.inr (7, o)))] [] h (fun a => ct_q x G ((fun r : Int × ct_H => (some (.inl (r.1) : ct_PV), r.2)) a)) _
  refine ct_zrun C (k' := 2) (y := ([(0, .inr (.inr (7, o)))], [.inl (h.1 o 35)], h)) 2 rfl rfl rfl ?_
  refine ct_zf0 C (pc := 4) (aux := 0) (cn := .ne) (off := 6) (k' := 5) (a := (h.1 o 35)) Iff.rfl rfl rfl rfl (fun e26 => ?_) (fun e26 => ?_)
  · refine ct_zrun C (k' := 4) (y := ([(0, .inr (.inr (7, o)))], [.inl (-3)], h)) 1 rfl rfl rfl ?_
    exact ct_zret C (pc := 9) (aux := 0) (ins := .ireturn) (ρ := (fun r : Int × ct_H => (some (.inl (r.1) : ct_PV), r.2))) (some (.inl (-3))) rfl rfl rfl ⟨rfl, Or.inl rfl⟩
  · refine ct_zrun C (k' := 9) (y := ([(0, .inr (.inr (7, o)))], [.inl 0, .inr (.inr (8, (G.1 o 32))), .inr (.inr (7, o))], h)) 4 rfl rfl rfl ?_
    refine ct_zrd C (pc := 16) (aux := 0) (ins := .iaload) (cd := 8) rfl rfl (Or.inl ⟨rfl, rfl⟩) (fun v1 => ?_)
    refine ct_zrun C (k' := 11) (y := ([(0, .inr (.inr (7, o)))], [], (ct_wF h o 0 v1))) 1 rfl rfl rfl ?_
    refine ct_zlet (L := fun _ => [(0, .inr (.inr (7, o)))]) (S := fun _ => []) (Hh := fun h2 => h2) (a := (ct_wF h o 0 v1)) (fun h2 => ?_)
    refine ct_zrun C (k' := 15) (y := ([(0, .inr (.inr (7, o)))], [.inl 1, .inr (.inr (8, (G.1 o 32))), .inr (.inr (7, o))], h2)) 4 rfl rfl rfl ?_
    refine ct_zrd C (pc := 26) (aux := 0) (ins := .iaload) (cd := 8) rfl rfl (Or.inl ⟨rfl, rfl⟩) (fun v3 => ?_)
    refine ct_zrun C (k' := 17) (y := ([(0, .inr (.inr (7, o)))], [], (ct_wF h2 o 1 v3))) 1 rfl rfl rfl ?_
    refine ct_zlet (L := fun _ => [(0, .inr (.inr (7, o)))]) (S := fun _ => []) (Hh := fun h4 => h4) (a := (ct_wF h2 o 1 v3)) (fun h4 => ?_)
    refine ct_zrun C (k' := 21) (y := ([(0, .inr (.inr (7, o)))], [.inl 2, .inr (.inr (8, (G.1 o 32))), .inr (.inr (7, o))], h4)) 4 rfl rfl rfl ?_
    refine ct_zrd C (pc := 36) (aux := 0) (ins := .iaload) (cd := 8) rfl rfl (Or.inl ⟨rfl, rfl⟩) (fun v5 => ?_)
    refine ct_zrun C (k' := 23) (y := ([(0, .inr (.inr (7, o)))], [], (ct_wF h4 o 2 v5))) 1 rfl rfl rfl ?_
    refine ct_zlet (L := fun _ => [(0, .inr (.inr (7, o)))]) (S := fun _ => []) (Hh := fun h6 => h6) (a := (ct_wF h4 o 2 v5)) (fun h6 => ?_)
    refine ct_zrun C (k' := 27) (y := ([(0, .inr (.inr (7, o)))], [.inl 3, .inr (.inr (8, (G.1 o 32))), .inr (.inr (7, o))], h6)) 4 rfl rfl rfl ?_
    refine ct_zrd C (pc := 46) (aux := 0) (ins := .iaload) (cd := 8) rfl rfl (Or.inl ⟨rfl, rfl⟩) (fun v7 => ?_)
    refine ct_zrun C (k' := 29) (y := ([(0, .inr (.inr (7, o)))], [], (ct_wF h6 o 24 v7))) 1 rfl rfl rfl ?_
    refine ct_zlet (L := fun _ => [(0, .inr (.inr (7, o)))]) (S := fun _ => []) (Hh := fun h8 => h8) (a := (ct_wF h6 o 24 v7)) (fun h8 => ?_)
    refine ct_zrun C (k' := 33) (y := ([(0, .inr (.inr (7, o)))], [.inl 4, .inr (.inr (8, (G.1 o 32))), .inr (.inr (7, o))], h8)) 4 rfl rfl rfl ?_
    refine ct_zrd C (pc := 56) (aux := 0) (ins := .iaload) (cd := 8) rfl rfl (Or.inl ⟨rfl, rfl⟩) (fun v9 => ?_)
    refine ct_zrun C (k' := 35) (y := ([(0, .inr (.inr (7, o)))], [], (ct_wF h8 o 27 v9))) 1 rfl rfl rfl ?_
    refine ct_zlet (L := fun _ => [(0, .inr (.inr (7, o)))]) (S := fun _ => []) (Hh := fun h10 => h10) (a := (ct_wF h8 o 27 v9)) (fun h10 => ?_)
    refine ct_zrun C (k' := 39) (y := ([(0, .inr (.inr (7, o)))], [.inl 5, .inr (.inr (8, (G.1 o 32))), .inr (.inr (7, o))], h10)) 4 rfl rfl rfl ?_
    refine ct_zrd C (pc := 66) (aux := 0) (ins := .iaload) (cd := 8) rfl rfl (Or.inl ⟨rfl, rfl⟩) (fun v11 => ?_)
    refine ct_zrun C (k' := 41) (y := ([(0, .inr (.inr (7, o)))], [], (ct_wF h10 o 31 v11))) 1 rfl rfl rfl ?_
    refine ct_zlet (L := fun _ => [(0, .inr (.inr (7, o)))]) (S := fun _ => []) (Hh := fun h12 => h12) (a := (ct_wF h10 o 31 v11)) (fun h12 => ?_)
    refine ct_zrun C (k' := 48) (y := ([(0, .inr (.inr (7, o)))], [.inl 49, .inl 0, .inr (.inr (8, (G.1 o 3))), .inl 0, .inr (.inr (8, (G.1 o 33)))], h12)) 7 rfl rfl rfl ?_
    refine ct_zcopy C (pc := 82) (aux := 0) lk_X7_383 ct_gsys rfl rfl rfl (fun h13 => ?_)
    refine ct_zrun C (k' := 51) (y := ([(1, .inl 0), (0, .inr (.inr (7, o)))], [], h13)) 2 rfl rfl rfl ?_
    refine ct_zsub [1, 0] rfl (zl_X7_undo_51 C o _ (fun b24 => ?_) 200 (0, h13))
    refine ct_zrun C (k' := 71) (y := ([(0, .inr (.inr (7, o)))], [.inr (.inr (7, o))], b24)) 1 rfl rfl rfl ?_
    refine ct_zV C (pc := 122) (aux := 0) [] [] ok_X7_together lk_X7_428 (e_X7_together o) rfl rfl rfl rfl rfl rfl rfl rfl (fun v25 => ?_)
    exact ct_zret C (pc := 125) (aux := 0) (ins := .ireturn) (ρ := (fun r : Int × ct_H => (some (.inl (r.1) : ct_PV), r.2))) (some (.inl v25)) rfl rfl rfl ⟨rfl, Or.inl rfl⟩
def f_X7_count (G : ct_G) (h : ct_H) (o : Nat) (a1 : Int) : Option (Int) := if a1 = 0 then (some (h.1 o 24)) else if a1 = 1 then (some (h.1 o 27)) else if a1 = 2 then (some (h.1 o 31)) else if a1 = 3 then (some (h.1 o 5)) else some (-2)
set_option maxRecDepth 100000 in
theorem e_X7_count {d : Nat} {G : ct_G} {h : ct_H} (o : Nat) (a1 : Int) : ct_E m_X7_count d G (ct_args 0 [.inr (.inr (7, o)), .inl a1]) h (fun r : Int => (some (.inl r : ct_PV), h)) (f_X7_count G h o a1) := by
  intro x C
  unfold f_X7_count
  show ct_Z x m_X7_count G 0 [(0, .inr (.inr (7, o))), (1, .inl a1)] [] h (fun a => ct_q x G ((fun r : Int => (some (.inl r : ct_PV), h)) a)) _
  refine ct_zrun C (k' := 1) (y := ([(0, .inr (.inr (7, o))), (1, .inl a1)], [.inl a1], h)) 1 rfl rfl rfl ?_
  refine ct_zf0 C (pc := 1) (aux := 0) (cn := .ne) (off := 10) (k' := 5) (a := a1) Iff.rfl rfl rfl rfl (fun e4 => ?_) (fun e4 => ?_)
  · refine ct_zrun C (k' := 4) (y := ([(0, .inr (.inr (7, o))), (1, .inl a1)], [.inl (h.1 o 24)], h)) 2 rfl rfl rfl ?_
    refine ct_zgoto C (pc := 8) (aux := 0) (off := 41) (k' := 24) rfl rfl ?_
    exact ct_zret C (pc := 49) (aux := 0) (ins := .ireturn) (ρ := (fun r : Int => (some (.inl r : ct_PV), h))) (some (.inl (h.1 o 24))) rfl rfl rfl ⟨rfl, Or.inl rfl⟩
  · refine ct_zrun C (k' := 7) (y := ([(0, .inr (.inr (7, o))), (1, .inl a1)], [.inl 1, .inl a1], h)) 2 rfl rfl rfl ?_
    refine ct_zf C (pc := 13) (aux := 0) (cn := .ne) (off := 10) (k' := 11) (a := a1) (b := 1) Iff.rfl rfl rfl rfl (fun e3 => ?_) (fun e3 => ?_)
    · refine ct_zrun C (k' := 10) (y := ([(0, .inr (.inr (7, o))), (1, .inl a1)], [.inl (h.1 o 27)], h)) 2 rfl rfl rfl ?_
      refine ct_zgoto C (pc := 20) (aux := 0) (off := 29) (k' := 24) rfl rfl ?_
      exact ct_zret C (pc := 49) (aux := 0) (ins := .ireturn) (ρ := (fun r : Int => (some (.inl r : ct_PV), h))) (some (.inl (h.1 o 27))) rfl rfl rfl ⟨rfl, Or.inl rfl⟩
    · refine ct_zrun C (k' := 13) (y := ([(0, .inr (.inr (7, o))), (1, .inl a1)], [.inl 2, .inl a1], h)) 2 rfl rfl rfl ?_
      refine ct_zf C (pc := 25) (aux := 0) (cn := .ne) (off := 10) (k' := 17) (a := a1) (b := 2) Iff.rfl rfl rfl rfl (fun e2 => ?_) (fun e2 => ?_)
      · refine ct_zrun C (k' := 16) (y := ([(0, .inr (.inr (7, o))), (1, .inl a1)], [.inl (h.1 o 31)], h)) 2 rfl rfl rfl ?_
        refine ct_zgoto C (pc := 32) (aux := 0) (off := 17) (k' := 24) rfl rfl ?_
        exact ct_zret C (pc := 49) (aux := 0) (ins := .ireturn) (ρ := (fun r : Int => (some (.inl r : ct_PV), h))) (some (.inl (h.1 o 31))) rfl rfl rfl ⟨rfl, Or.inl rfl⟩
      · refine ct_zrun C (k' := 19) (y := ([(0, .inr (.inr (7, o))), (1, .inl a1)], [.inl 3, .inl a1], h)) 2 rfl rfl rfl ?_
        refine ct_zf C (pc := 37) (aux := 0) (cn := .ne) (off := 10) (k' := 23) (a := a1) (b := 3) Iff.rfl rfl rfl rfl (fun e1 => ?_) (fun e1 => ?_)
        · refine ct_zrun C (k' := 22) (y := ([(0, .inr (.inr (7, o))), (1, .inl a1)], [.inl (h.1 o 5)], h)) 2 rfl rfl rfl ?_
          refine ct_zgoto C (pc := 44) (aux := 0) (off := 5) (k' := 24) rfl rfl ?_
          exact ct_zret C (pc := 49) (aux := 0) (ins := .ireturn) (ρ := (fun r : Int => (some (.inl r : ct_PV), h))) (some (.inl (h.1 o 5))) rfl rfl rfl ⟨rfl, Or.inl rfl⟩
        · refine ct_zrun C (k' := 24) (y := ([(0, .inr (.inr (7, o))), (1, .inl a1)], [.inl (-2)], h)) 1 rfl rfl rfl ?_
          exact ct_zret C (pc := 49) (aux := 0) (ins := .ireturn) (ρ := (fun r : Int => (some (.inl r : ct_PV), h))) (some (.inl (-2))) rfl rfl rfl ⟨rfl, Or.inl rfl⟩
def l_X7_tape_39 (G : ct_G) (o : Nat) (a1 : Int) : Nat → (Int × ct_H) → Option (Int × ct_H)
  | 0, _ => none
  | n15 + 1, b14 => if 60 ≤ b14.1 then (some (1, b14.2)) else (ct_rdR G (G.1 o 38) a1).bind fun q16 => (ct_wtL G b14.2 q16 b14.1 (Int64.ofNat 0)).bind fun h17 => l_X7_tape_39 G o a1 n15 ((ct_wr (b14.1 + 1)), h17)
set_option maxRecDepth 100000 in
theorem zl_X7_tape_39 {x : ct_Ctx} {d : Nat} {G : ct_G} (C : ct_c x m_X7_tape G (d + 2)) (o : Nat) (a1 : Int) : ∀ (n15 : Nat) (b14 : Int × ct_H), ct_Z x m_X7_tape G 39 [(0, .inr (.inr (7, o))), (1, .inl a1), (4, .inl (b14.1))] [] b14.2 (fun a => ct_q x G ((fun r : Int × ct_H => (some (.inl (r.1) : ct_PV), r.2)) a)) (l_X7_tape_39 G o a1 n15 b14) := by
  intro n15
  induction n15 with
  | zero => intro b14; exact ct_znone
  | succ n15 ih =>
    intro b14
    rw [l_X7_tape_39]
    refine ct_zrun C (k' := 41) (y := ([(0, .inr (.inr (7, o))), (1, .inl a1), (4, .inl (b14.1))], [.inl 60, .inl (b14.1)], b14.2)) 2 rfl rfl rfl ?_
    refine ct_zt C (pc := 71) (aux := 0) (cn := .ge) (off := 19) (k' := 51) (a := b14.1) (b := 60) Iff.rfl rfl rfl rfl (fun e18 => ?_) (fun e18 => ?_)
    · refine ct_zrun C (k' := 52) (y := ([(0, .inr (.inr (7, o))), (1, .inl a1), (4, .inl (b14.1))], [.inl 1], b14.2)) 1 rfl rfl rfl ?_
      exact ct_zret C (pc := 91) (aux := 0) (ins := .ireturn) (ρ := (fun r : Int × ct_H => (some (.inl (r.1) : ct_PV), r.2))) (some (.inl 1)) rfl rfl rfl ⟨rfl, Or.inl rfl⟩
    · refine ct_zrun C (k' := 45) (y := ([(0, .inr (.inr (7, o))), (1, .inl a1), (4, .inl (b14.1))], [.inl a1, .inr (.inr (14, (G.1 o 38)))], b14.2)) 3 rfl rfl rfl ?_
      refine ct_zrdR C (pc := 79) (aux := 0) (cd := 14) rfl rfl (Or.inr (Or.inr rfl)) (fun q16 => ?_)
      refine ct_zrun C (k' := 48) (y := ([(0, .inr (.inr (7, o))), (1, .inl a1), (4, .inl (b14.1))], [.inr (.inl (Int64.ofNat 0)), .inl (b14.1), .inr (.inr (11, q16))], b14.2)) 2 rfl rfl rfl ?_
      refine ct_zwtL C (pc := 83) (aux := 0) rfl rfl (fun h17 => ?_)
      refine ct_zrun C (k' := 50) (y := ([(4, .inl (ct_wr (b14.1 + 1))), (0, .inr (.inr (7, o))), (1, .inl a1)], [], h17)) 1 rfl rfl rfl ?_
      refine ct_zgoto C (pc := 87) (aux := 0) (off := (-20)) (k' := 39) rfl rfl ?_
      exact ct_zsub [1, 2, 0] rfl (ih ((ct_wr (b14.1 + 1)), h17))
def f_X7_tape (G : ct_G) (h : ct_H) (o : Nat) (a1 : Int) (a2 : Int) (a3 : Int) : Option (Int × ct_H) := (f_X7_isTape G h a1).bind fun v1 => if v1 = 0 then (some ((-1), h)) else (f_X7_in G h a2 (-1) 4).bind fun v2 => if v2 = 0 then (some ((-2), h)) else ct_jn (β := Unit) (fun k4 => if a2 < 0 then (k4 ()) else if a3 ≤ 60 then (k4 ()) else some ((-2), h)) (fun b3 => ct_jn (β := Unit) (fun k7 => if a2 < 0 then (k7 ()) else if 0 ≤ a3 then (k7 ()) else some ((-14), h)) (fun b6 => (ct_wt G h (G.1 o 36) a1 a2).bind fun h9 => ct_jn (β := Int) (fun k11 => if 0 ≤ a2 then (k11 a3) else k11 0) (fun b10 => (ct_wt G h9 (G.1 o 37) a1 b10).bind fun h13 => l_X7_tape_39 G o a1 200 (0, h13))))
set_option maxRecDepth 100000 in
theorem e_X7_tape {d : Nat} {G : ct_G} {h : ct_H} (o : Nat) (a1 : Int) (a2 : Int) (a3 : Int) : ct_E m_X7_tape (d + 2) G (ct_args 0 [.inr (.inr (7, o)), .inl a1, .inl a2, .inl a3]) h (fun r : Int × ct_H => (some (.inl (r.1) : ct_PV), r.2)) (f_X7_tape G h o a1 a2 a3) := by
  intro x C
  unfold f_X7_tape
  show ct_Z x m_X7_tape G 0 [(0, .inr (.inr (7, o))), (1, .inl a1), (2, .inl a2), (3, .inl a3)] [] h (fun a => ct_q x G ((fun r : Int × ct_H => (some (.inl (r.1) : ct_PV), r.2)) a)) _
  refine ct_zrun C (k' := 1) (y := ([(0, .inr (.inr (7, o))), (1, .inl a1), (2, .inl a2), (3, .inl a3)], [.inl a1], h)) 1 rfl rfl rfl ?_
  refine ct_zS C (pc := 1) (aux := 0) [.inl a1] [] ok_X7_isTape lk_X7_417 (e_X7_isTape a1) rfl rfl rfl rfl rfl rfl (fun v1 => ?_)
  refine ct_zf0 C (pc := 4) (aux := 0) (cn := .ne) (off := 5) (k' := 5) (a := v1) Iff.rfl rfl rfl rfl (fun e25 => ?_) (fun e25 => ?_)
  · refine ct_zrun C (k' := 4) (y := ([(0, .inr (.inr (7, o))), (1, .inl a1), (2, .inl a2), (3, .inl a3)], [.inl (-1)], h)) 1 rfl rfl rfl ?_
    exact ct_zret C (pc := 8) (aux := 0) (ins := .ireturn) (ρ := (fun r : Int × ct_H => (some (.inl (r.1) : ct_PV), r.2))) (some (.inl (-1))) rfl rfl rfl ⟨rfl, Or.inl rfl⟩
  · refine ct_zrun C (k' := 8) (y := ([(0, .inr (.inr (7, o))), (1, .inl a1), (2, .inl a2), (3, .inl a3)], [.inl 4, .inl (-1), .inl a2], h)) 3 rfl rfl rfl ?_
    refine ct_zS C (pc := 12) (aux := 0) [.inl a2, .inl (-1), .inl 4] [] ok_X7_in lk_X7_100 (e_X7_in a2 (-1) 4) rfl rfl rfl rfl rfl rfl (fun v2 => ?_)
    refine ct_zt0 C (pc := 15) (aux := 0) (cn := .eq) (off := 13) (k' := 15) (a := v2) Iff.rfl rfl rfl rfl (fun e24 => ?_) (fun e24 => ?_)
    · refine ct_zrun C (k' := 16) (y := ([(0, .inr (.inr (7, o))), (1, .inl a1), (2, .inl a2), (3, .inl a3)], [.inl (-2)], h)) 1 rfl rfl rfl ?_
      exact ct_zret C (pc := 30) (aux := 0) (ins := .ireturn) (ρ := (fun r : Int × ct_H => (some (.inl (r.1) : ct_PV), r.2))) (some (.inl (-2))) rfl rfl rfl ⟨rfl, Or.inl rfl⟩
    · refine ct_zrun C (k' := 11) (y := ([(0, .inr (.inr (7, o))), (1, .inl a1), (2, .inl a2), (3, .inl a3)], [.inl a2], h)) 1 rfl rfl rfl ?_
      refine ct_zjn (β := Unit) (kJ := 17) (L := fun b3 => [(0, .inr (.inr (7, o))), (1, .inl a1), (2, .inl a2), (3, .inl a3)]) (S := fun b3 => []) (Hh := fun b3 => h) (fun b3 => ?_) (fun k4 z5 => ?_)
      · refine ct_zrun C (k' := 18) (y := ([(0, .inr (.inr (7, o))), (1, .inl a1), (2, .inl a2), (3, .inl a3)], [.inl a2], h)) 1 rfl rfl rfl ?_
        refine ct_zjn (β := Unit) (kJ := 23) (L := fun b6 => [(0, .inr (.inr (7, o))), (1, .inl a1), (2, .inl a2), (3, .inl a3)]) (S := fun b6 => []) (Hh := fun b6 => h) (fun b6 => ?_) (fun k7 z8 => ?_)
        · refine ct_zrun C (k' := 27) (y := ([(0, .inr (.inr (7, o))), (1, .inl a1), (2, .inl a2), (3, .inl a3)], [.inl a2, .inl a1, .inr (.inr (8, (G.1 o 36)))], h)) 4 rfl rfl rfl ?_
          refine ct_zwt C (pc := 48) (aux := 0) rfl rfl (fun h9 => ?_)
          refine ct_zrun C (k' := 32) (y := ([(0, .inr (.inr (7, o))), (1, .inl a1), (2, .inl a2), (3, .inl a3)], [.inl a2, .inl a1, .inr (.inr (8, (G.1 o 37)))], h9)) 4 rfl rfl rfl ?_
          refine ct_zjn (β := Int) (kJ := 36) (L := fun b10 => [(0, .inr (.inr (7, o))), (1, .inl a1)]) (S := fun b10 => [.inl b10, .inl a1, .inr (.inr (8, (G.1 o 37)))]) (Hh := fun b10 => h9) (fun b10 => ?_) (fun k11 z12 => ?_)
          · refine ct_zwt C (pc := 63) (aux := 0) rfl rfl (fun h13 => ?_)
            refine ct_zrun C (k' := 39) (y := ([(4, .inl 0), (0, .inr (.inr (7, o))), (1, .inl a1)], [], h13)) 2 rfl rfl rfl ?_
            exact ct_zsub [1, 2, 0] rfl (zl_X7_tape_39 C o a1 200 (0, h13))
          · refine ct_zt0 C (pc := 55) (aux := 0) (cn := .ge) (off := 7) (k' := 35) (a := a2) Iff.rfl rfl rfl rfl (fun e19 => ?_) (fun e19 => ?_)
            · refine ct_zrun C (k' := 36) (y := ([(0, .inr (.inr (7, o))), (1, .inl a1), (2, .inl a2), (3, .inl a3)], [.inl a3, .inl a1, .inr (.inr (8, (G.1 o 37)))], h9)) 1 rfl rfl rfl ?_
              exact ct_zsub [0, 1] rfl (z12 a3)
            · refine ct_zrun C (k' := 34) (y := ([(0, .inr (.inr (7, o))), (1, .inl a1), (2, .inl a2), (3, .inl a3)], [.inl 0, .inl a1, .inr (.inr (8, (G.1 o 37)))], h9)) 1 rfl rfl rfl ?_
              refine ct_zgoto C (pc := 59) (aux := 0) (off := 4) (k' := 36) rfl rfl ?_
              exact ct_zsub [0, 1] rfl (z12 0)
        · refine ct_zt0 C (pc := 32) (aux := 0) (cn := .lt) (off := 10) (k' := 23) (a := a2) Iff.rfl rfl rfl rfl (fun e21 => ?_) (fun e21 => ?_)
          · exact ct_zsub [0, 1, 2, 3] rfl (z8 ())
          · refine ct_zrun C (k' := 20) (y := ([(0, .inr (.inr (7, o))), (1, .inl a1), (2, .inl a2), (3, .inl a3)], [.inl a3], h)) 1 rfl rfl rfl ?_
            refine ct_zt0 C (pc := 36) (aux := 0) (cn := .ge) (off := 6) (k' := 23) (a := a3) Iff.rfl rfl rfl rfl (fun e20 => ?_) (fun e20 => ?_)
            · exact ct_zsub [0, 1, 2, 3] rfl (z8 ())
            · refine ct_zrun C (k' := 22) (y := ([(0, .inr (.inr (7, o))), (1, .inl a1), (2, .inl a2), (3, .inl a3)], [.inl (-14)], h)) 1 rfl rfl rfl ?_
              exact ct_zret C (pc := 41) (aux := 0) (ins := .ireturn) (ρ := (fun r : Int × ct_H => (some (.inl (r.1) : ct_PV), r.2))) (some (.inl (-14))) rfl rfl rfl ⟨rfl, Or.inl rfl⟩
      · refine ct_zt0 C (pc := 19) (aux := 0) (cn := .lt) (off := 12) (k' := 17) (a := a2) Iff.rfl rfl rfl rfl (fun e23 => ?_) (fun e23 => ?_)
        · exact ct_zsub [0, 1, 2, 3] rfl (z5 ())
        · refine ct_zrun C (k' := 14) (y := ([(0, .inr (.inr (7, o))), (1, .inl a1), (2, .inl a2), (3, .inl a3)], [.inl 60, .inl a3], h)) 2 rfl rfl rfl ?_
          refine ct_zt C (pc := 25) (aux := 0) (cn := .le) (off := 6) (k' := 17) (a := a3) (b := 60) Iff.rfl rfl rfl rfl (fun e22 => ?_) (fun e22 => ?_)
          · exact ct_zsub [0, 1, 2, 3] rfl (z5 ())
          · refine ct_zrun C (k' := 16) (y := ([(0, .inr (.inr (7, o))), (1, .inl a1), (2, .inl a2), (3, .inl a3)], [.inl (-2)], h)) 1 rfl rfl rfl ?_
            exact ct_zret C (pc := 30) (aux := 0) (ins := .ireturn) (ρ := (fun r : Int × ct_H => (some (.inl (r.1) : ct_PV), r.2))) (some (.inl (-2))) rfl rfl rfl ⟨rfl, Or.inl rfl⟩
def f_X7_asItem (G : ct_G) (h : ct_H) (a0 : Int) (a1 : Int64) : Option (Int64) := if a0 = 0 then (some ((Int32.ofInt ((Int32.ofInt ((a1).toInt32.toInt)).toInt8.toInt32.toInt)).toInt64)) else if a0 = 1 then (some ((Int32.ofInt ((Int32.ofInt ((a1).toInt32.toInt)).toInt16.toInt32.toInt)).toInt64)) else if a0 = 2 then (some ((Int32.ofInt ((a1).toInt32.toInt)).toInt64)) else if a0 = 3 then (some a1) else if ((lg_cmp a1 (Int64.ofNat 0)).toInt) = 0 then (some (Int64.ofNat 0)) else some (Int64.ofNat 1)
set_option maxRecDepth 100000 in
theorem e_X7_asItem {d : Nat} {G : ct_G} {h : ct_H} (a0 : Int) (a1 : Int64) : ct_E m_X7_asItem d G (ct_args 0 [.inl a0, .inr (.inl a1)]) h (fun r : Int64 => (some (.inr (.inl r) : ct_PV), h)) (f_X7_asItem G h a0 a1) := by
  intro x C
  unfold f_X7_asItem
  show ct_Z x m_X7_asItem G 0 [(0, .inl a0), (1, .inr (.inl a1))] [] h (fun a => ct_q x G ((fun r : Int64 => (some (.inr (.inl r) : ct_PV), h)) a)) _
  refine ct_zrun C (k' := 1) (y := ([(0, .inl a0), (1, .inr (.inl a1))], [.inl a0], h)) 1 rfl rfl rfl ?_
  refine ct_zsplit (fun e1 => ?_) (fun e1 => ?_)
  · refine ct_zsw C (off := 31) (k' := 2) rfl (by rw [e1]; rfl) rfl ?_
    refine ct_zrun C (k' := 6) (y := ([(0, .inl a0), (1, .inr (.inl a1))], [.inr (.inl ((Int32.ofInt ((Int32.ofInt ((a1).toInt32.toInt)).toInt8.toInt32.toInt)).toInt64))], h)) 4 rfl rfl rfl ?_
    exact ct_zret C (pc := 36) (aux := 0) (ins := .lreturn) (ρ := (fun r : Int64 => (some (.inr (.inl r) : ct_PV), h))) (some (.inr (.inl ((Int32.ofInt ((Int32.ofInt ((a1).toInt32.toInt)).toInt8.toInt32.toInt)).toInt64)))) rfl rfl rfl ⟨rfl, rfl⟩
  · refine ct_zsplit (fun e2 => ?_) (fun e2 => ?_)
    · refine ct_zsw C (off := 36) (k' := 7) rfl (by rw [e2]; rfl) rfl ?_
      refine ct_zrun C (k' := 11) (y := ([(0, .inl a0), (1, .inr (.inl a1))], [.inr (.inl ((Int32.ofInt ((Int32.ofInt ((a1).toInt32.toInt)).toInt16.toInt32.toInt)).toInt64))], h)) 4 rfl rfl rfl ?_
      exact ct_zret C (pc := 41) (aux := 0) (ins := .lreturn) (ρ := (fun r : Int64 => (some (.inr (.inl r) : ct_PV), h))) (some (.inr (.inl ((Int32.ofInt ((Int32.ofInt ((a1).toInt32.toInt)).toInt16.toInt32.toInt)).toInt64)))) rfl rfl rfl ⟨rfl, rfl⟩
    · refine ct_zsplit (fun e3 => ?_) (fun e3 => ?_)
      · refine ct_zsw C (off := 41) (k' := 12) rfl (by rw [e3]; rfl) rfl ?_
        refine ct_zrun C (k' := 15) (y := ([(0, .inl a0), (1, .inr (.inl a1))], [.inr (.inl ((Int32.ofInt ((a1).toInt32.toInt)).toInt64))], h)) 3 rfl rfl rfl ?_
        exact ct_zret C (pc := 45) (aux := 0) (ins := .lreturn) (ρ := (fun r : Int64 => (some (.inr (.inl r) : ct_PV), h))) (some (.inr (.inl ((Int32.ofInt ((a1).toInt32.toInt)).toInt64)))) rfl rfl rfl ⟨rfl, rfl⟩
      · refine ct_zsplit (fun e4 => ?_) (fun e4 => ?_)
        · refine ct_zsw C (off := 45) (k' := 16) rfl (by rw [e4]; rfl) rfl ?_
          refine ct_zrun C (k' := 17) (y := ([(0, .inl a0), (1, .inr (.inl a1))], [.inr (.inl a1)], h)) 1 rfl rfl rfl ?_
          exact ct_zret C (pc := 47) (aux := 0) (ins := .lreturn) (ρ := (fun r : Int64 => (some (.inr (.inl r) : ct_PV), h))) (some (.inr (.inl a1))) rfl rfl rfl ⟨rfl, rfl⟩
        · refine ct_zsw C (off := 47) (k' := 18) rfl (by show (if _ then _ else _) = _; rw [if_pos (by omega)]) rfl ?_
          refine ct_zrun C (k' := 21) (y := ([(0, .inl a0), (1, .inr (.inl a1))], [.inl ((lg_cmp a1 (Int64.ofNat 0)).toInt)], h)) 3 rfl rfl rfl ?_
          refine ct_zt0 C (pc := 51) (aux := 0) (cn := .eq) (off := 7) (k' := 24) (a := ((lg_cmp a1 (Int64.ofNat 0)).toInt)) Iff.rfl rfl rfl rfl (fun e5 => ?_) (fun e5 => ?_)
          · refine ct_zrun C (k' := 25) (y := ([(0, .inl a0), (1, .inr (.inl a1))], [.inr (.inl (Int64.ofNat 0))], h)) 1 rfl rfl rfl ?_
            exact ct_zret C (pc := 59) (aux := 0) (ins := .lreturn) (ρ := (fun r : Int64 => (some (.inr (.inl r) : ct_PV), h))) (some (.inr (.inl (Int64.ofNat 0)))) rfl rfl rfl ⟨rfl, rfl⟩
          · refine ct_zrun C (k' := 23) (y := ([(0, .inl a0), (1, .inr (.inl a1))], [.inr (.inl (Int64.ofNat 1))], h)) 1 rfl rfl rfl ?_
            refine ct_zgoto C (pc := 55) (aux := 0) (off := 4) (k' := 25) rfl rfl ?_
            exact ct_zret C (pc := 59) (aux := 0) (ins := .lreturn) (ρ := (fun r : Int64 => (some (.inr (.inl r) : ct_PV), h))) (some (.inr (.inl (Int64.ofNat 1)))) rfl rfl rfl ⟨rfl, rfl⟩
def f_X7_item (G : ct_G) (h : ct_H) (o : Nat) (a1 : Int) (a2 : Int) (a3 : Int64) : Option (Int × ct_H) := (f_X7_isTape G h a1).bind fun v1 => if v1 = 0 then (some ((-1), h)) else (ct_rd G h (G.1 o 36) a1).bind fun v2 => if 0 ≤ v2 then ((ct_rd G h (G.1 o 37) a1).bind fun v3 => (f_X7_in G h a2 0 (ct_wr (v3 - 1))).bind fun v4 => if v4 = 0 then (some ((-13), h)) else (ct_rdR G (G.1 o 38) a1).bind fun q5 => (ct_rd G h (G.1 o 36) a1).bind fun v6 => (f_X7_asItem G h v6 a3).bind fun v7 => (ct_wtL G h q5 a2 v7).bind fun h8 => some (1, h8)) else some ((-11), h)
set_option maxRecDepth 100000 in
theorem e_X7_item {d : Nat} {G : ct_G} {h : ct_H} (o : Nat) (a1 : Int) (a2 : Int) (a3 : Int64) : ct_E m_X7_item (d + 2) G (ct_args 0 [.inr (.inr (7, o)), .inl a1, .inl a2, .inr (.inl a3)]) h (fun r : Int × ct_H => (some (.inl (r.1) : ct_PV), r.2)) (f_X7_item G h o a1 a2 a3) := by
  intro x C
  unfold f_X7_item
  show ct_Z x m_X7_item G 0 [(0, .inr (.inr (7, o))), (1, .inl a1), (2, .inl a2), (3, .inr (.inl a3))] [] h (fun a => ct_q x G ((fun r : Int × ct_H => (some (.inl (r.1) : ct_PV), r.2)) a)) _
  refine ct_zrun C (k' := 1) (y := ([(0, .inr (.inr (7, o))), (1, .inl a1), (2, .inl a2), (3, .inr (.inl a3))], [.inl a1], h)) 1 rfl rfl rfl ?_
  refine ct_zS C (pc := 1) (aux := 0) [.inl a1] [] ok_X7_isTape lk_X7_417 (e_X7_isTape a1) rfl rfl rfl rfl rfl rfl (fun v1 => ?_)
  refine ct_zf0 C (pc := 4) (aux := 0) (cn := .ne) (off := 5) (k' := 5) (a := v1) Iff.rfl rfl rfl rfl (fun e11 => ?_) (fun e11 => ?_)
  · refine ct_zrun C (k' := 4) (y := ([(0, .inr (.inr (7, o))), (1, .inl a1), (2, .inl a2), (3, .inr (.inl a3))], [.inl (-1)], h)) 1 rfl rfl rfl ?_
    exact ct_zret C (pc := 8) (aux := 0) (ins := .ireturn) (ρ := (fun r : Int × ct_H => (some (.inl (r.1) : ct_PV), r.2))) (some (.inl (-1))) rfl rfl rfl ⟨rfl, Or.inl rfl⟩
  · refine ct_zrun C (k' := 8) (y := ([(0, .inr (.inr (7, o))), (1, .inl a1), (2, .inl a2), (3, .inr (.inl a3))], [.inl a1, .inr (.inr (8, (G.1 o 36)))], h)) 3 rfl rfl rfl ?_
    refine ct_zrd C (pc := 14) (aux := 0) (ins := .iaload) (cd := 8) rfl rfl (Or.inl ⟨rfl, rfl⟩) (fun v2 => ?_)
    refine ct_zt0 C (pc := 15) (aux := 0) (cn := .ge) (off := 6) (k' := 12) (a := v2) Iff.rfl rfl rfl rfl (fun e10 => ?_) (fun e10 => ?_)
    · refine ct_zrun C (k' := 17) (y := ([(0, .inr (.inr (7, o))), (1, .inl a1), (2, .inl a2), (3, .inr (.inl a3))], [.inl a1, .inr (.inr (8, (G.1 o 37))), .inl 0, .inl a2], h)) 5 rfl rfl rfl ?_
      refine ct_zrd C (pc := 28) (aux := 0) (ins := .iaload) (cd := 8) rfl rfl (Or.inl ⟨rfl, rfl⟩) (fun v3 => ?_)
      refine ct_zrun C (k' := 20) (y := ([(0, .inr (.inr (7, o))), (1, .inl a1), (2, .inl a2), (3, .inr (.inl a3))], [.inl (ct_wr (v3 - 1)), .inl 0, .inl a2], h)) 2 rfl rfl rfl ?_
      refine ct_zS C (pc := 31) (aux := 0) [.inl a2, .inl 0, .inl (ct_wr (v3 - 1))] [] ok_X7_in lk_X7_100 (e_X7_in a2 0 (ct_wr (v3 - 1))) rfl rfl rfl rfl rfl rfl (fun v4 => ?_)
      refine ct_zf0 C (pc := 34) (aux := 0) (cn := .ne) (off := 6) (k' := 24) (a := v4) Iff.rfl rfl rfl rfl (fun e9 => ?_) (fun e9 => ?_)
      · refine ct_zrun C (k' := 23) (y := ([(0, .inr (.inr (7, o))), (1, .inl a1), (2, .inl a2), (3, .inr (.inl a3))], [.inl (-13)], h)) 1 rfl rfl rfl ?_
        exact ct_zret C (pc := 39) (aux := 0) (ins := .ireturn) (ρ := (fun r : Int × ct_H => (some (.inl (r.1) : ct_PV), r.2))) (some (.inl (-13))) rfl rfl rfl ⟨rfl, Or.inl rfl⟩
      · refine ct_zrun C (k' := 27) (y := ([(0, .inr (.inr (7, o))), (1, .inl a1), (2, .inl a2), (3, .inr (.inl a3))], [.inl a1, .inr (.inr (14, (G.1 o 38)))], h)) 3 rfl rfl rfl ?_
        refine ct_zrdR C (pc := 45) (aux := 0) (cd := 14) rfl rfl (Or.inr (Or.inr rfl)) (fun q5 => ?_)
        refine ct_zrun C (k' := 32) (y := ([(0, .inr (.inr (7, o))), (1, .inl a1), (2, .inl a2), (3, .inr (.inl a3))], [.inl a1, .inr (.inr (8, (G.1 o 36))), .inl a2, .inr (.inr (11, q5))], h)) 4 rfl rfl rfl ?_
        refine ct_zrd C (pc := 52) (aux := 0) (ins := .iaload) (cd := 8) rfl rfl (Or.inl ⟨rfl, rfl⟩) (fun v6 => ?_)
        refine ct_zrun C (k' := 34) (y := ([(0, .inr (.inr (7, o))), (1, .inl a1), (2, .inl a2), (3, .inr (.inl a3))], [.inr (.inl a3), .inl v6, .inl a2, .inr (.inr (11, q5))], h)) 1 rfl rfl rfl ?_
        refine ct_zS C (pc := 54) (aux := 0) [.inl v6, .inr (.inl a3)] [.inl a2, .inr (.inr (11, q5))] ok_X7_asItem lk_X7_431 (e_X7_asItem v6 a3) rfl rfl rfl rfl rfl rfl (fun v7 => ?_)
        refine ct_zwtL C (pc := 57) (aux := 0) rfl rfl (fun h8 => ?_)
        refine ct_zrun C (k' := 37) (y := ([(0, .inr (.inr (7, o))), (1, .inl a1), (2, .inl a2), (3, .inr (.inl a3))], [.inl 1], h8)) 1 rfl rfl rfl ?_
        exact ct_zret C (pc := 59) (aux := 0) (ins := .ireturn) (ρ := (fun r : Int × ct_H => (some (.inl (r.1) : ct_PV), r.2))) (some (.inl 1)) rfl rfl rfl ⟨rfl, Or.inl rfl⟩
    · refine ct_zrun C (k' := 11) (y := ([(0, .inr (.inr (7, o))), (1, .inl a1), (2, .inl a2), (3, .inr (.inl a3))], [.inl (-11)], h)) 1 rfl rfl rfl ?_
      exact ct_zret C (pc := 20) (aux := 0) (ins := .ireturn) (ρ := (fun r : Int × ct_H => (some (.inl (r.1) : ct_PV), r.2))) (some (.inl (-11))) rfl rfl rfl ⟨rfl, Or.inl rfl⟩
def f_X7_peek (G : ct_G) (h : ct_H) (o : Nat) (a1 : Int) (a2 : Int) : Option (Int64) := (f_X7_isTape G h a1).bind fun v1 => ct_jn (β := Unit) (fun k3 => if v1 = 0 then (k3 ()) else (ct_rd G h (G.1 o 36) a1).bind fun v5 => if v5 < 0 then (k3 ()) else (ct_rd G h (G.1 o 37) a1).bind fun v6 => (f_X7_in G h a2 0 (ct_wr (v6 - 1))).bind fun v7 => if v7 = 0 then (k3 ()) else (ct_rdR G (G.1 o 38) a1).bind fun q8 => (ct_rdL G h q8 a2).bind fun v9 => some v9) (fun b2 => some (-9223372036854775808 : Int64))
set_option maxRecDepth 100000 in
theorem e_X7_peek {d : Nat} {G : ct_G} {h : ct_H} (o : Nat) (a1 : Int) (a2 : Int) : ct_E m_X7_peek (d + 2) G (ct_args 0 [.inr (.inr (7, o)), .inl a1, .inl a2]) h (fun r : Int64 => (some (.inr (.inl r) : ct_PV), h)) (f_X7_peek G h o a1 a2) := by
  intro x C
  unfold f_X7_peek
  show ct_Z x m_X7_peek G 0 [(0, .inr (.inr (7, o))), (1, .inl a1), (2, .inl a2)] [] h (fun a => ct_q x G ((fun r : Int64 => (some (.inr (.inl r) : ct_PV), h)) a)) _
  refine ct_zrun C (k' := 1) (y := ([(0, .inr (.inr (7, o))), (1, .inl a1), (2, .inl a2)], [.inl a1], h)) 1 rfl rfl rfl ?_
  refine ct_zS C (pc := 1) (aux := 0) [.inl a1] [] ok_X7_isTape lk_X7_417 (e_X7_isTape a1) rfl rfl rfl rfl rfl rfl (fun v1 => ?_)
  refine ct_zjn (β := Unit) (kJ := 25) (L := fun b2 => []) (S := fun b2 => []) (Hh := fun b2 => h) (fun b2 => ?_) (fun k3 z4 => ?_)
  · refine ct_zldc2 C (pc := 43) (aux := 0) (v := -9223372036854775808) lc_X7_398 rfl rfl ?_
    exact ct_zret C (pc := 46) (aux := 0) (ins := .lreturn) (ρ := (fun r : Int64 => (some (.inr (.inl r) : ct_PV), h))) (some (.inr (.inl (-9223372036854775808 : Int64)))) rfl rfl rfl ⟨rfl, rfl⟩
  · refine ct_zt0 C (pc := 4) (aux := 0) (cn := .eq) (off := 39) (k' := 25) (a := v1) Iff.rfl rfl rfl rfl (fun e12 => ?_) (fun e12 => ?_)
    · exact ct_zsub [] rfl (z4 ())
    · refine ct_zrun C (k' := 6) (y := ([(0, .inr (.inr (7, o))), (1, .inl a1), (2, .inl a2)], [.inl a1, .inr (.inr (8, (G.1 o 36)))], h)) 3 rfl rfl rfl ?_
      refine ct_zrd C (pc := 12) (aux := 0) (ins := .iaload) (cd := 8) rfl rfl (Or.inl ⟨rfl, rfl⟩) (fun v5 => ?_)
      refine ct_zt0 C (pc := 13) (aux := 0) (cn := .lt) (off := 30) (k' := 25) (a := v5) Iff.rfl rfl rfl rfl (fun e11 => ?_) (fun e11 => ?_)
      · exact ct_zsub [] rfl (z4 ())
      · refine ct_zrun C (k' := 13) (y := ([(0, .inr (.inr (7, o))), (1, .inl a1), (2, .inl a2)], [.inl a1, .inr (.inr (8, (G.1 o 37))), .inl 0, .inl a2], h)) 5 rfl rfl rfl ?_
        refine ct_zrd C (pc := 23) (aux := 0) (ins := .iaload) (cd := 8) rfl rfl (Or.inl ⟨rfl, rfl⟩) (fun v6 => ?_)
        refine ct_zrun C (k' := 16) (y := ([(0, .inr (.inr (7, o))), (1, .inl a1), (2, .inl a2)], [.inl (ct_wr (v6 - 1)), .inl 0, .inl a2], h)) 2 rfl rfl rfl ?_
        refine ct_zS C (pc := 26) (aux := 0) [.inl a2, .inl 0, .inl (ct_wr (v6 - 1))] [] ok_X7_in lk_X7_100 (e_X7_in a2 0 (ct_wr (v6 - 1))) rfl rfl rfl rfl rfl rfl (fun v7 => ?_)
        refine ct_zt0 C (pc := 29) (aux := 0) (cn := .eq) (off := 14) (k' := 25) (a := v7) Iff.rfl rfl rfl rfl (fun e10 => ?_) (fun e10 => ?_)
        · exact ct_zsub [] rfl (z4 ())
        · refine ct_zrun C (k' := 21) (y := ([(0, .inr (.inr (7, o))), (1, .inl a1), (2, .inl a2)], [.inl a1, .inr (.inr (14, (G.1 o 38)))], h)) 3 rfl rfl rfl ?_
          refine ct_zrdR C (pc := 37) (aux := 0) (cd := 14) rfl rfl (Or.inr (Or.inr rfl)) (fun q8 => ?_)
          refine ct_zrun C (k' := 23) (y := ([(0, .inr (.inr (7, o))), (1, .inl a1), (2, .inl a2)], [.inl a2, .inr (.inr (11, q8))], h)) 1 rfl rfl rfl ?_
          refine ct_zrdL C (pc := 39) (aux := 0) rfl rfl (fun v9 => ?_)
          refine ct_zgoto C (pc := 40) (aux := 0) (off := 6) (k' := 26) rfl rfl ?_
          exact ct_zret C (pc := 46) (aux := 0) (ins := .lreturn) (ρ := (fun r : Int64 => (some (.inr (.inl r) : ct_PV), h))) (some (.inr (.inl v9))) rfl rfl rfl ⟨rfl, rfl⟩
def f_X7_isWithin (G : ct_G) (h : ct_H) (o : Nat) (a1 : Int) (a2 : Int) (a3 : Int) : Option (Int) := if a2 < 0 then (some 0) else (ct_rd G h (G.1 o 37) a1).bind fun v1 => if (ct_wr (v1 - a3)) < a2 then (some 0) else some 1
set_option maxRecDepth 100000 in
theorem e_X7_isWithin {d : Nat} {G : ct_G} {h : ct_H} (o : Nat) (a1 : Int) (a2 : Int) (a3 : Int) : ct_E m_X7_isWithin d G (ct_args 0 [.inr (.inr (7, o)), .inl a1, .inl a2, .inl a3]) h (fun r : Int => (some (.inl r : ct_PV), h)) (f_X7_isWithin G h o a1 a2 a3) := by
  intro x C
  unfold f_X7_isWithin
  show ct_Z x m_X7_isWithin G 0 [(0, .inr (.inr (7, o))), (1, .inl a1), (2, .inl a2), (3, .inl a3)] [] h (fun a => ct_q x G ((fun r : Int => (some (.inl r : ct_PV), h)) a)) _
  refine ct_zrun C (k' := 1) (y := ([(0, .inr (.inr (7, o))), (1, .inl a1), (2, .inl a2), (3, .inl a3)], [.inl a2], h)) 1 rfl rfl rfl ?_
  refine ct_zt0 C (pc := 1) (aux := 0) (cn := .lt) (off := 19) (k' := 12) (a := a2) Iff.rfl rfl rfl rfl (fun e3 => ?_) (fun e3 => ?_)
  · refine ct_zrun C (k' := 13) (y := ([(0, .inr (.inr (7, o))), (1, .inl a1), (2, .inl a2), (3, .inl a3)], [.inl 0], h)) 1 rfl rfl rfl ?_
    exact ct_zret C (pc := 21) (aux := 0) (ins := .ireturn) (ρ := (fun r : Int => (some (.inl r : ct_PV), h))) (some (.inl 0)) rfl rfl rfl ⟨rfl, Or.inr ⟨rfl, Or.inl rfl⟩⟩
  · refine ct_zrun C (k' := 6) (y := ([(0, .inr (.inr (7, o))), (1, .inl a1), (2, .inl a2), (3, .inl a3)], [.inl a1, .inr (.inr (8, (G.1 o 37))), .inl a2], h)) 4 rfl rfl rfl ?_
    refine ct_zrd C (pc := 10) (aux := 0) (ins := .iaload) (cd := 8) rfl rfl (Or.inl ⟨rfl, rfl⟩) (fun v1 => ?_)
    refine ct_zrun C (k' := 9) (y := ([(0, .inr (.inr (7, o))), (1, .inl a1), (2, .inl a2), (3, .inl a3)], [.inl (ct_wr (v1 - a3)), .inl a2], h)) 2 rfl rfl rfl ?_
    refine ct_zt C (pc := 13) (aux := 0) (cn := .gt) (off := 7) (k' := 12) (a := a2) (b := (ct_wr (v1 - a3))) Iff.rfl rfl rfl rfl (fun e2 => ?_) (fun e2 => ?_)
    · refine ct_zrun C (k' := 13) (y := ([(0, .inr (.inr (7, o))), (1, .inl a1), (2, .inl a2), (3, .inl a3)], [.inl 0], h)) 1 rfl rfl rfl ?_
      exact ct_zret C (pc := 21) (aux := 0) (ins := .ireturn) (ρ := (fun r : Int => (some (.inl r : ct_PV), h))) (some (.inl 0)) rfl rfl rfl ⟨rfl, Or.inr ⟨rfl, Or.inl rfl⟩⟩
    · refine ct_zrun C (k' := 11) (y := ([(0, .inr (.inr (7, o))), (1, .inl a1), (2, .inl a2), (3, .inl a3)], [.inl 1], h)) 1 rfl rfl rfl ?_
      refine ct_zgoto C (pc := 17) (aux := 0) (off := 4) (k' := 13) rfl rfl ?_
      exact ct_zret C (pc := 21) (aux := 0) (ins := .ireturn) (ρ := (fun r : Int => (some (.inl r : ct_PV), h))) (some (.inl 1)) rfl rfl rfl ⟨rfl, Or.inr ⟨rfl, Or.inr rfl⟩⟩
def f_X7_shift (G : ct_G) (h : ct_H) (o : Nat) (a1 : Int) (a2 : Int) (a3 : Int) (a4 : Int) (a5 : Int) : Option (Int × ct_H) := (f_X7_isTape G h a1).bind fun v1 => if v1 = 0 then (some ((-1), h)) else (f_X7_isTape G h a3).bind fun v2 => if v2 = 0 then (some ((-1), h)) else (ct_rd G h (G.1 o 36) a1).bind fun v3 => if v3 < 0 then (some ((-11), h)) else (ct_rd G h (G.1 o 36) a3).bind fun v4 => if 0 ≤ v4 then ((ct_rd G h (G.1 o 36) a1).bind fun v5 => (ct_rd G h (G.1 o 36) a3).bind fun v6 => if v5 = v6 then (if a5 < 0 then (some ((-13), h)) else (f_X7_isWithin G h o a1 a2 a5).bind fun v7 => if v7 = 0 then (some ((-13), h)) else (f_X7_isWithin G h o a3 a4 a5).bind fun v8 => if v8 = 0 then (some ((-13), h)) else (ct_rdR G (G.1 o 38) a1).bind fun q9 => (ct_rdR G (G.1 o 38) a3).bind fun q10 => (ct_cpL G h q9 a2 q10 a4 a5).bind fun h11 => some (a5, h11)) else some ((-12), h)) else some ((-11), h)
set_option maxRecDepth 100000 in
theorem e_X7_shift {d : Nat} {G : ct_G} {h : ct_H} (o : Nat) (a1 : Int) (a2 : Int) (a3 : Int) (a4 : Int) (a5 : Int) : ct_E m_X7_shift (d + 2) G (ct_args 0 [.inr (.inr (7, o)), .inl a1, .inl a2, .inl a3, .inl a4, .inl a5]) h (fun r : Int × ct_H => (some (.inl (r.1) : ct_PV), r.2)) (f_X7_shift G h o a1 a2 a3 a4 a5) := by
  intro x C
  unfold f_X7_shift
  show ct_Z x m_X7_shift G 0 [(0, .inr (.inr (7, o))), (1, .inl a1), (2, .inl a2), (3, .inl a3), (4, .inl a4), (5, .inl a5)] [] h (fun a => ct_q x G ((fun r : Int × ct_H => (some (.inl (r.1) : ct_PV), r.2)) a)) _
  refine ct_zrun C (k' := 1) (y := ([(0, .inr (.inr (7, o))), (1, .inl a1), (2, .inl a2), (3, .inl a3), (4, .inl a4), (5, .inl a5)], [.inl a1], h)) 1 rfl rfl rfl ?_
  refine ct_zS C (pc := 1) (aux := 0) [.inl a1] [] ok_X7_isTape lk_X7_417 (e_X7_isTape a1) rfl rfl rfl rfl rfl rfl (fun v1 => ?_)
  refine ct_zt0 C (pc := 4) (aux := 0) (cn := .eq) (off := 10) (k' := 6) (a := v1) Iff.rfl rfl rfl rfl (fun e19 => ?_) (fun e19 => ?_)
  · refine ct_zrun C (k' := 7) (y := ([(0, .inr (.inr (7, o))), (1, .inl a1), (2, .inl a2), (3, .inl a3), (4, .inl a4), (5, .inl a5)], [.inl (-1)], h)) 1 rfl rfl rfl ?_
    exact ct_zret C (pc := 15) (aux := 0) (ins := .ireturn) (ρ := (fun r : Int × ct_H => (some (.inl (r.1) : ct_PV), r.2))) (some (.inl (-1))) rfl rfl rfl ⟨rfl, Or.inl rfl⟩
  · refine ct_zrun C (k' := 4) (y := ([(0, .inr (.inr (7, o))), (1, .inl a1), (2, .inl a2), (3, .inl a3), (4, .inl a4), (5, .inl a5)], [.inl a3], h)) 1 rfl rfl rfl ?_
    refine ct_zS C (pc := 8) (aux := 0) [.inl a3] [] ok_X7_isTape lk_X7_417 (e_X7_isTape a3) rfl rfl rfl rfl rfl rfl (fun v2 => ?_)
    refine ct_zf0 C (pc := 11) (aux := 0) (cn := .ne) (off := 5) (k' := 8) (a := v2) Iff.rfl rfl rfl rfl (fun e18 => ?_) (fun e18 => ?_)
    · refine ct_zrun C (k' := 7) (y := ([(0, .inr (.inr (7, o))), (1, .inl a1), (2, .inl a2), (3, .inl a3), (4, .inl a4), (5, .inl a5)], [.inl (-1)], h)) 1 rfl rfl rfl ?_
      exact ct_zret C (pc := 15) (aux := 0) (ins := .ireturn) (ρ := (fun r : Int × ct_H => (some (.inl (r.1) : ct_PV), r.2))) (some (.inl (-1))) rfl rfl rfl ⟨rfl, Or.inl rfl⟩
    · refine ct_zrun C (k' := 11) (y := ([(0, .inr (.inr (7, o))), (1, .inl a1), (2, .inl a2), (3, .inl a3), (4, .inl a4), (5, .inl a5)], [.inl a1, .inr (.inr (8, (G.1 o 36)))], h)) 3 rfl rfl rfl ?_
      refine ct_zrd C (pc := 21) (aux := 0) (ins := .iaload) (cd := 8) rfl rfl (Or.inl ⟨rfl, rfl⟩) (fun v3 => ?_)
      refine ct_zt0 C (pc := 22) (aux := 0) (cn := .lt) (off := 12) (k' := 18) (a := v3) Iff.rfl rfl rfl rfl (fun e17 => ?_) (fun e17 => ?_)
      · refine ct_zrun C (k' := 19) (y := ([(0, .inr (.inr (7, o))), (1, .inl a1), (2, .inl a2), (3, .inl a3), (4, .inl a4), (5, .inl a5)], [.inl (-11)], h)) 1 rfl rfl rfl ?_
        exact ct_zret C (pc := 36) (aux := 0) (ins := .ireturn) (ρ := (fun r : Int × ct_H => (some (.inl (r.1) : ct_PV), r.2))) (some (.inl (-11))) rfl rfl rfl ⟨rfl, Or.inl rfl⟩
      · refine ct_zrun C (k' := 16) (y := ([(0, .inr (.inr (7, o))), (1, .inl a1), (2, .inl a2), (3, .inl a3), (4, .inl a4), (5, .inl a5)], [.inl a3, .inr (.inr (8, (G.1 o 36)))], h)) 3 rfl rfl rfl ?_
        refine ct_zrd C (pc := 30) (aux := 0) (ins := .iaload) (cd := 8) rfl rfl (Or.inl ⟨rfl, rfl⟩) (fun v4 => ?_)
        refine ct_zt0 C (pc := 31) (aux := 0) (cn := .ge) (off := 6) (k' := 20) (a := v4) Iff.rfl rfl rfl rfl (fun e16 => ?_) (fun e16 => ?_)
        · refine ct_zrun C (k' := 23) (y := ([(0, .inr (.inr (7, o))), (1, .inl a1), (2, .inl a2), (3, .inl a3), (4, .inl a4), (5, .inl a5)], [.inl a1, .inr (.inr (8, (G.1 o 36)))], h)) 3 rfl rfl rfl ?_
          refine ct_zrd C (pc := 42) (aux := 0) (ins := .iaload) (cd := 8) rfl rfl (Or.inl ⟨rfl, rfl⟩) (fun v5 => ?_)
          refine ct_zrun C (k' := 27) (y := ([(0, .inr (.inr (7, o))), (1, .inl a1), (2, .inl a2), (3, .inl a3), (4, .inl a4), (5, .inl a5)], [.inl a3, .inr (.inr (8, (G.1 o 36))), .inl v5], h)) 3 rfl rfl rfl ?_
          refine ct_zrd C (pc := 48) (aux := 0) (ins := .iaload) (cd := 8) rfl rfl (Or.inl ⟨rfl, rfl⟩) (fun v6 => ?_)
          refine ct_zt C (pc := 49) (aux := 0) (cn := .eq) (off := 6) (k' := 31) (a := v5) (b := v6) Iff.rfl rfl rfl rfl (fun e15 => ?_) (fun e15 => ?_)
          · refine ct_zrun C (k' := 32) (y := ([(0, .inr (.inr (7, o))), (1, .inl a1), (2, .inl a2), (3, .inl a3), (4, .inl a4), (5, .inl a5)], [.inl a5], h)) 1 rfl rfl rfl ?_
            refine ct_zt0 C (pc := 57) (aux := 0) (cn := .lt) (off := 26) (k' := 45) (a := a5) Iff.rfl rfl rfl rfl (fun e14 => ?_) (fun e14 => ?_)
            · refine ct_zrun C (k' := 46) (y := ([(0, .inr (.inr (7, o))), (1, .inl a1), (2, .inl a2), (3, .inl a3), (4, .inl a4), (5, .inl a5)], [.inl (-13)], h)) 1 rfl rfl rfl ?_
              exact ct_zret C (pc := 85) (aux := 0) (ins := .ireturn) (ρ := (fun r : Int × ct_H => (some (.inl (r.1) : ct_PV), r.2))) (some (.inl (-13))) rfl rfl rfl ⟨rfl, Or.inl rfl⟩
            · refine ct_zrun C (k' := 37) (y := ([(0, .inr (.inr (7, o))), (1, .inl a1), (2, .inl a2), (3, .inl a3), (4, .inl a4), (5, .inl a5)], [.inl a5, .inl a2, .inl a1, .inr (.inr (7, o))], h)) 4 rfl rfl rfl ?_
              refine ct_zV C (pc := 65) (aux := 0) [.inl a1, .inl a2, .inl a5] [] ok_X7_isWithin lk_X7_435 (e_X7_isWithin o a1 a2 a5) rfl rfl rfl rfl rfl rfl rfl rfl (fun v7 => ?_)
              refine ct_zt0 C (pc := 68) (aux := 0) (cn := .eq) (off := 15) (k' := 45) (a := v7) Iff.rfl rfl rfl rfl (fun e13 => ?_) (fun e13 => ?_)
              · refine ct_zrun C (k' := 46) (y := ([(0, .inr (.inr (7, o))), (1, .inl a1), (2, .inl a2), (3, .inl a3), (4, .inl a4), (5, .inl a5)], [.inl (-13)], h)) 1 rfl rfl rfl ?_
                exact ct_zret C (pc := 85) (aux := 0) (ins := .ireturn) (ρ := (fun r : Int × ct_H => (some (.inl (r.1) : ct_PV), r.2))) (some (.inl (-13))) rfl rfl rfl ⟨rfl, Or.inl rfl⟩
              · refine ct_zrun C (k' := 43) (y := ([(0, .inr (.inr (7, o))), (1, .inl a1), (2, .inl a2), (3, .inl a3), (4, .inl a4), (5, .inl a5)], [.inl a5, .inl a4, .inl a3, .inr (.inr (7, o))], h)) 4 rfl rfl rfl ?_
                refine ct_zV C (pc := 77) (aux := 0) [.inl a3, .inl a4, .inl a5] [] ok_X7_isWithin lk_X7_435 (e_X7_isWithin o a3 a4 a5) rfl rfl rfl rfl rfl rfl rfl rfl (fun v8 => ?_)
                refine ct_zf0 C (pc := 80) (aux := 0) (cn := .ne) (off := 6) (k' := 47) (a := v8) Iff.rfl rfl rfl rfl (fun e12 => ?_) (fun e12 => ?_)
                · refine ct_zrun C (k' := 46) (y := ([(0, .inr (.inr (7, o))), (1, .inl a1), (2, .inl a2), (3, .inl a3), (4, .inl a4), (5, .inl a5)], [.inl (-13)], h)) 1 rfl rfl rfl ?_
                  exact ct_zret C (pc := 85) (aux := 0) (ins := .ireturn) (ρ := (fun r : Int × ct_H => (some (.inl (r.1) : ct_PV), r.2))) (some (.inl (-13))) rfl rfl rfl ⟨rfl, Or.inl rfl⟩
                · refine ct_zrun C (k' := 50) (y := ([(0, .inr (.inr (7, o))), (1, .inl a1), (2, .inl a2), (3, .inl a3), (4, .inl a4), (5, .inl a5)], [.inl a1, .inr (.inr (14, (G.1 o 38)))], h)) 3 rfl rfl rfl ?_
                  refine ct_zrdR C (pc := 91) (aux := 0) (cd := 14) rfl rfl (Or.inr (Or.inr rfl)) (fun q9 => ?_)
                  refine ct_zrun C (k' := 55) (y := ([(0, .inr (.inr (7, o))), (1, .inl a1), (2, .inl a2), (3, .inl a3), (4, .inl a4), (5, .inl a5)], [.inl a3, .inr (.inr (14, (G.1 o 38))), .inl a2, .inr (.inr (11, q9))], h)) 4 rfl rfl rfl ?_
                  refine ct_zrdR C (pc := 98) (aux := 0) (cd := 14) rfl rfl (Or.inr (Or.inr rfl)) (fun q10 => ?_)
                  refine ct_zrun C (k' := 58) (y := ([(0, .inr (.inr (7, o))), (1, .inl a1), (2, .inl a2), (3, .inl a3), (4, .inl a4), (5, .inl a5)], [.inl a5, .inl a4, .inr (.inr (11, q10)), .inl a2, .inr (.inr (11, q9))], h)) 2 rfl rfl rfl ?_
                  refine ct_zcopyL C (pc := 103) (aux := 0) lk_X7_383 ct_gsys rfl rfl rfl (fun h11 => ?_)
                  refine ct_zrun C (k' := 60) (y := ([(0, .inr (.inr (7, o))), (1, .inl a1), (2, .inl a2), (3, .inl a3), (4, .inl a4), (5, .inl a5)], [.inl a5], h11)) 1 rfl rfl rfl ?_
                  exact ct_zret C (pc := 108) (aux := 0) (ins := .ireturn) (ρ := (fun r : Int × ct_H => (some (.inl (r.1) : ct_PV), r.2))) (some (.inl a5)) rfl rfl rfl ⟨rfl, Or.inl rfl⟩
          · refine ct_zrun C (k' := 30) (y := ([(0, .inr (.inr (7, o))), (1, .inl a1), (2, .inl a2), (3, .inl a3), (4, .inl a4), (5, .inl a5)], [.inl (-12)], h)) 1 rfl rfl rfl ?_
            exact ct_zret C (pc := 54) (aux := 0) (ins := .ireturn) (ρ := (fun r : Int × ct_H => (some (.inl (r.1) : ct_PV), r.2))) (some (.inl (-12))) rfl rfl rfl ⟨rfl, Or.inl rfl⟩
        · refine ct_zrun C (k' := 19) (y := ([(0, .inr (.inr (7, o))), (1, .inl a1), (2, .inl a2), (3, .inl a3), (4, .inl a4), (5, .inl a5)], [.inl (-11)], h)) 1 rfl rfl rfl ?_
          exact ct_zret C (pc := 36) (aux := 0) (ins := .ireturn) (ρ := (fun r : Int × ct_H => (some (.inl (r.1) : ct_PV), r.2))) (some (.inl (-11))) rfl rfl rfl ⟨rfl, Or.inl rfl⟩
