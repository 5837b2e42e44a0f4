/-! ===== the law: a case at a time ===== -/
def nz (y : Int) : Int := if y = 0 then 0 else 1
theorem nz_inR (y : Int) : inR (nz y) := by unfold nz; split <;> decide
theorem nz_B (y : Int) : isB (nz y) := by unfold nz; split; exact Or.inl rfl; exact Or.inr rfl
section LROWS
variable {p : Program} {l : Launch} {e : Env} {R : Room} {s : State} {m : MethodId} {args : Array Value} {below : List Frame} {meth : Method} {c : Code} {H : Heap} {locs : List Loc} {cells slots : Nat} {Q : State → Prop}
variable {cc : ByteArray} {nL : Nat} {own : String} {D : va_G} {cy : Nat → ClassId} {ad : Nat → Nat} {nm nv : Nat} {A : Nat → Prop} {σ : St} {pc : Nat} {ls : Array Slot} {rest : List Value}
theorem m_nz {y : Int} (hx : p.tables.exec = Jvm.exec) (hb : c.code = cc) (h : inR y) (d0 : decode cc pc = .ok (.ifCond .eq 7, 3)) (d3 : decode cc (pc + 3) = .ok (.iconst 1, 1)) (d4 : decode cc (pc + 4) = .ok (.goto 4, 3)) (d7 : decode cc (pc + 7) = .ok (.iconst 0, 1)) (k : W p l e R s m args below meth c H locs cells slots Q (F0 m (pc + 8) ls (.int (i32 (nz y)) :: rest))) : W p l e R s m args below meth c H locs cells slots Q (F0 m pc ls (.int (i32 y) :: rest)) := by
  refine lv_if_eq (tgt := pc + 7) hx hb d0 (by omega) (fun q => ?_) (fun q => ?_)
  · have e : nz y = 0 := if_pos ((i32_eq h z0).mp q)
    rw [e] at k
    exact m_const (v := 0) hx hb d7 rfl k
  · have e : nz y = 1 := if_neg (fun z => q (by rw [z]; rfl))
    rw [e] at k
    exact m_const (v := 1) hx hb d3 rfl (lv_goto (tgt := pc + 8) hx hb d4 (by omega) k)
theorem m_nzl {y : Int} (hx : p.tables.exec = Jvm.exec) (hb : c.code = cc) (h : inR y) (d0 : decode cc pc = .ok (.ifCond .eq 7, 3)) (d3 : decode cc (pc + 3) = .ok (.lconst 1, 1)) (d4 : decode cc (pc + 4) = .ok (.goto 4, 3)) (d7 : decode cc (pc + 7) = .ok (.lconst 0, 1)) (k : W p l e R s m args below meth c H locs cells slots Q (F0 m (pc + 8) ls (.long (i64 (nz y)) :: rest))) : W p l e R s m args below meth c H locs cells slots Q (F0 m pc ls (.int (i32 y) :: rest)) := by
  refine lv_if_eq (tgt := pc + 7) hx hb d0 (by omega) (fun q => ?_) (fun q => ?_)
  · have e : nz y = 0 := if_pos ((i32_eq h z0).mp q)
    rw [e] at k
    exact m_lconst (v := 0) hx hb rfl d7 k
  · have e : nz y = 1 := if_neg (fun z => q (by rw [z]; rfl))
    rw [e] at k
    exact m_lconst (v := 1) hx hb rfl d3 (lv_goto (tgt := pc + 8) hx hb d4 (by omega) k)
theorem m_add {x y : Int} (hx : p.tables.exec = Jvm.exec) (hb : c.code = cc) (hdg : decode cc pc = .ok (.iadd, 1)) (k : W p l e R s m args below meth c H locs cells slots Q (F0 m (pc + 1) ls (.int (i32 (x + y)) :: rest))) : W p l e R s m args below meth c H locs cells slots Q (F0 m pc ls (.int (i32 y) :: .int (i32 x) :: rest)) := lv_iadd hx hb hdg (by rw [i32_add]; exact k)
theorem m_sld {b L j : Nat} {xs : Nat → Int32} {x y : Int} (hx : p.tables.exec = Jvm.exec) (hb : c.code = cc) (hX : va_X b L xs s s.heap) (hbl : b < s.heap.size) (hbA : ¬ A b) (hS : va_S A s.heap H locs) (hj : j < L) (hL : L ≤ 2048) (hxj : x = (j : Int)) (hy : (xs j).toInt = y) (hdg : decode cc pc = .ok (.iaload, 1)) (k : W p l e R s m args below meth c H locs cells slots Q (F0 m (pc + 1) ls (.int (i32 y) :: rest))) : W p l e R s m args below meth c H locs cells slots Q (F0 m pc ls (.int (i32 x) :: .ref b :: rest)) := by
  subst hxj
  have hr : inR (j : Int) := ⟨by omega, by omega⟩
  refine va_sld hx hb hX hbl hbA hS ((i32_in hr).mpr ⟨by omega, by omega⟩) hdg ?_
  rw [i32_clamp hr, Int.toNat_natCast]
  rw [← hy, i32_of] at k
  exact k
end LROWS
theorem gc_L_159 : GoodIn GW (wsV RL 159 RX6 yX6_type (wsG yX6_type cX6_type 3 (some .int))) := cg_V mw1186 mw1187 mw1188 mw6 mw1189
theorem gc_L_160 : GoodIn GW (wsV RL 160 RX6 yX6_thrown (wsG yX6_thrown cX6_thrown 1 (some .int))) := cg_V mw1182 mw1183 mw1184 mw6 mw1185
theorem gc_L_167 : GoodIn GW (wsV RL 167 RX6 yX6_split (wsG yX6_split cX6_split 2 (some .int))) := cg_V mw1284 mw1285 mw1286 mw6 mw1287
theorem gc_L_170 : GoodIn GW (wsV RL 170 RX6 yX6_erase (wsG yX6_erase cX6_erase 7 (some .int))) := cg_V mw1292 mw1293 mw1294 mw6 mw1295
theorem gc_L_174 : GoodIn GW (wsV RL 174 RX6 yX6_moveTo (wsG yX6_moveTo cX6_moveTo 4 (some .int))) := cg_V mw1312 mw1313 mw1314 mw6 mw1315
theorem gc_L_177 : GoodIn GW (wsV RL 177 RX6 yX6_extend (wsG yX6_extend cX6_extend 3 (some .int))) := cg_V mw1320 mw1321 mw1322 mw6 mw1323
theorem gc_L_181 : GoodIn GW (wsV RL 181 RX6 yX6_mark (wsG yX6_mark cX6_mark 5 (some .int))) := cg_V mw1324 mw1325 mw1326 mw6 mw1327
theorem gc_L_184 : GoodIn GW (wsV RL 184 RX6 yX6_comment (wsG yX6_comment cX6_comment 3 (some .int))) := cg_V mw1328 mw1329 mw1330 mw6 mw1331
theorem gc_L_188 : GoodIn GW (wsV RL 188 RX6 yX6_setKind (wsG yX6_setKind cX6_setKind 4 (some .int))) := cg_V mw1332 mw1333 mw1334 mw6 mw1335
theorem gc_L_191 : GoodIn GW (wsV RL 191 RX6 yX6_nest (wsG yX6_nest cX6_nest 4 (some .int))) := cg_V mw1348 mw1349 mw1350 mw6 mw1351
theorem gc_L_195 : GoodIn GW (wsV RL 195 RX6 yX6_propose (wsG yX6_propose cX6_propose 4 (some .boolean))) := cg_V mw1352 mw1353 mw1354 mw6 mw1355
theorem gc_L_198 : GoodIn GW (wsV RL 198 RX6 yX6_decide (wsG yX6_decide cX6_decide 5 (some .int))) := cg_V mw1356 mw1357 mw1358 mw6 mw1359
theorem gc_L_201 : GoodIn GW (wsV RL 201 RX6 yX6_allow (wsG yX6_allow cX6_allow 4 (some .int))) := cg_V mw1364 mw1365 mw1366 mw6 mw1367
theorem gc_L_204 : GoodIn GW (wsV RL 204 RX6 yX6_undo (wsG yX6_undo cX6_undo 5 (some .int))) := cg_V mw1368 mw1369 mw1370 mw6 mw1371
theorem gc_L_207 : GoodIn GW (wsV RL 207 RX6 yX6_redo (wsG yX6_redo cX6_redo 6 (some .int))) := cg_V mw1372 mw1373 mw1374 mw6 mw1375
theorem gc_L_210 : GoodIn GW (wsV RL 210 RX6 yX6_send (wsG yX6_send cX6_send 5 (some .int))) := cg_V mw1376 mw1377 mw1378 mw6 mw1379
theorem gc_L_213 : GoodIn GW (wsV RL 213 RX6 yX6_deliver (wsG yX6_deliver cX6_deliver 5 (some .int))) := cg_V mw1388 mw1389 mw1390 mw6 mw1391
theorem gc_L_216 : GoodIn GW (wsV RL 216 RX6 yX6_save (wsG yX6_save cX6_save 3 (some .int))) := cg_V mw1392 mw1393 mw1394 mw6 mw1395
theorem gc_L_219 : GoodIn GW (wsV RL 219 RX6 yX6_crash (wsG yX6_crash cX6_crash 5 (some .int))) := cg_V mw1396 mw1397 mw1398 mw6 mw1399
theorem gc_L_222 : GoodIn GW (wsV RL 222 RX6 yX6_name (wsG yX6_name cX6_name 3 (some .int))) := cg_V mw1400 mw1401 mw1402 mw6 mw1403
theorem gc_L_225 : GoodIn GW (wsV RL 225 RX6 yX6_bringBack (wsG yX6_bringBack cX6_bringBack 7 (some .int))) := cg_V mw1404 mw1405 mw1406 mw6 mw1407
theorem gc_L_228 : GoodIn GW (wsV RL 228 RX6 yX6_differ (wsG yX6_differ cX6_differ 6 (some .int))) := cg_V mw1416 mw1417 mw1418 mw6 mw1419
theorem gc_L_231 : GoodIn GW (wsV RL 231 RX6 yX6_length (wsG yX6_length cX6_length 2 (some .int))) := cg_V mw1420 mw1421 mw1422 mw6 mw1423
theorem gc_L_234 : GoodIn GW (wsV RL 234 RX6 yX6_shown (wsG yX6_shown cX6_shown 4 (some .int))) := cg_V mw1424 mw1425 mw1426 mw6 mw1427
theorem gc_L_237 : GoodIn GW (wsV RL 237 RX6 yX6_element (wsG yX6_element cX6_element 3 (some .int))) := cg_V mw1428 mw1429 mw1430 mw6 mw1431
theorem gc_L_240 : GoodIn GW (wsV RL 240 RX6 yX6_elementAnew (wsG yX6_elementAnew cX6_elementAnew 3 (some .int))) := cg_V mw1436 mw1437 mw1438 mw6 mw1439
theorem gc_L_243 : GoodIn GW (wsV RL 243 RX6 yX6_letter (wsG yX6_letter cX6_letter 3 (some .char))) := cg_V mw1441 mw1442 mw1443 mw6 mw1444
theorem gc_L_246 : GoodIn GW (wsV RL 246 RX6 yX6_proposed (wsG yX6_proposed cX6_proposed 6 (some .int))) := cg_V mw1445 mw1446 mw1447 mw6 mw1448
theorem gc_L_249 : GoodIn GW (wsV RL 249 RX6 yX6_open (wsG yX6_open cX6_open 4 (some .int))) := cg_V mw1449 mw1450 mw1451 mw6 mw1452
theorem gc_L_252 : GoodIn GW (wsV RL 252 RX6 yX6_isMarked (wsG yX6_isMarked cX6_isMarked 4 (some .boolean))) := cg_V mw1453 mw1454 mw1455 mw6 mw1456
theorem gc_L_255 : GoodIn GW (wsV RL 255 RX6 yX6_covered (wsG yX6_covered cX6_covered 5 (some .int))) := cg_V mw1457 mw1458 mw1459 mw6 mw1460
theorem gc_L_258 : GoodIn GW (wsV RL 258 RX6 yX6_blocks (wsG yX6_blocks cX6_blocks 2 (some .int))) := cg_V mw1461 mw1462 mw1463 mw6 mw1464
theorem gc_L_261 : GoodIn GW (wsV RL 261 RX6 yX6_kind (wsG yX6_kind cX6_kind 3 (some .int))) := cg_V mw1465 mw1466 mw1467 mw6 mw1468
theorem gc_L_264 : GoodIn GW (wsV RL 264 RX6 yX6_depth (wsG yX6_depth cX6_depth 5 (some .int))) := cg_V mw1469 mw1470 mw1471 mw6 mw1472
theorem gc_L_267 : GoodIn GW (wsV RL 267 RX6 yX6_level (wsG yX6_level cX6_level 3 (some .int))) := cg_V mw1473 mw1474 mw1475 mw6 mw1476
theorem gc_L_270 : GoodIn GW (wsV RL 270 RX6 yX6_cursor (wsG yX6_cursor cX6_cursor 2 (some .int))) := cg_V mw1477 mw1478 mw1479 mw6 mw1480
theorem gc_L_273 : GoodIn GW (wsV RL 273 RX6 yX6_tail (wsG yX6_tail cX6_tail 2 (some .int))) := cg_V mw1481 mw1482 mw1483 mw6 mw1484
theorem gc_L_276 : GoodIn GW (wsV RL 276 RX6 yX6_graves (wsG yX6_graves cX6_graves 2 (some .int))) := cg_V mw1485 mw1486 mw1487 mw6 mw1488
theorem gc_L_279 : GoodIn GW (wsV RL 279 RX6 yX6_buried (wsG yX6_buried cX6_buried 4 (some .int))) := cg_V mw1489 mw1490 mw1491 mw6 mw1492
theorem gc_L_280 : GoodIn GW (wsV RL 280 RX5 yX5_acts (wsG yX5_acts cX5_acts 1 (some .int))) := cg_V mw214 mw215 mw216 mw1 mw217
theorem gc_L_283 : GoodIn GW (wsV RL 283 RX6 yX6_acts (wsG yX6_acts cX6_acts 1 (some .int))) := cg_V mw1493 mw1494 mw1495 mw6 mw1496
theorem gc_L_286 : GoodIn GW (wsV RL 286 RX6 yX6_has (wsG yX6_has cX6_has 2 (some .int))) := cg_V mw1497 mw1498 mw1499 mw6 mw1500
theorem gc_L_289 : GoodIn GW (wsV RL 289 RX6 yX6_actAt (wsG yX6_actAt cX6_actAt 3 (some .int))) := cg_V mw1501 mw1502 mw1503 mw6 mw1504
theorem gc_L_292 : GoodIn GW (wsV RL 292 RX6 yX6_act (wsG yX6_act cX6_act 2 (some .int))) := cg_V mw1505 mw1506 mw1507 mw6 mw1508
theorem gc_L_295 : GoodIn GW (wsV RL 295 RX6 yX6_isUndone (wsG yX6_isUndone cX6_isUndone 3 (some .boolean))) := cg_V mw1509 mw1510 mw1511 mw6 mw1512
theorem hd_X6_type : yX6_type.cls = RX6 ∧ yX6_type.cls ≠ "java/lang/invoke/MethodHandle" ∧ yX6_type.cls ≠ "java/lang/invoke/VarHandle" ∧ (parseMethodDescriptor yX6_type.desc).map (fun d => d.parameters.length) = some 2 := by decide +kernel
theorem hd_X6_thrown : yX6_thrown.cls = RX6 ∧ yX6_thrown.cls ≠ "java/lang/invoke/MethodHandle" ∧ yX6_thrown.cls ≠ "java/lang/invoke/VarHandle" ∧ (parseMethodDescriptor yX6_thrown.desc).map (fun d => d.parameters.length) = some 0 := by decide +kernel
theorem hd_X6_split : yX6_split.cls = RX6 ∧ yX6_split.cls ≠ "java/lang/invoke/MethodHandle" ∧ yX6_split.cls ≠ "java/lang/invoke/VarHandle" ∧ (parseMethodDescriptor yX6_split.desc).map (fun d => d.parameters.length) = some 1 := by decide +kernel
theorem hd_X6_erase : yX6_erase.cls = RX6 ∧ yX6_erase.cls ≠ "java/lang/invoke/MethodHandle" ∧ yX6_erase.cls ≠ "java/lang/invoke/VarHandle" ∧ (parseMethodDescriptor yX6_erase.desc).map (fun d => d.parameters.length) = some 1 := by decide +kernel
theorem hd_X6_moveTo : yX6_moveTo.cls = RX6 ∧ yX6_moveTo.cls ≠ "java/lang/invoke/MethodHandle" ∧ yX6_moveTo.cls ≠ "java/lang/invoke/VarHandle" ∧ (parseMethodDescriptor yX6_moveTo.desc).map (fun d => d.parameters.length) = some 2 := by decide +kernel
theorem hd_X6_extend : yX6_extend.cls = RX6 ∧ yX6_extend.cls ≠ "java/lang/invoke/MethodHandle" ∧ yX6_extend.cls ≠ "java/lang/invoke/VarHandle" ∧ (parseMethodDescriptor yX6_extend.desc).map (fun d => d.parameters.length) = some 2 := by decide +kernel
theorem hd_X6_mark : yX6_mark.cls = RX6 ∧ yX6_mark.cls ≠ "java/lang/invoke/MethodHandle" ∧ yX6_mark.cls ≠ "java/lang/invoke/VarHandle" ∧ (parseMethodDescriptor yX6_mark.desc).map (fun d => d.parameters.length) = some 3 := by decide +kernel
theorem hd_X6_comment : yX6_comment.cls = RX6 ∧ yX6_comment.cls ≠ "java/lang/invoke/MethodHandle" ∧ yX6_comment.cls ≠ "java/lang/invoke/VarHandle" ∧ (parseMethodDescriptor yX6_comment.desc).map (fun d => d.parameters.length) = some 1 := by decide +kernel
theorem hd_X6_setKind : yX6_setKind.cls = RX6 ∧ yX6_setKind.cls ≠ "java/lang/invoke/MethodHandle" ∧ yX6_setKind.cls ≠ "java/lang/invoke/VarHandle" ∧ (parseMethodDescriptor yX6_setKind.desc).map (fun d => d.parameters.length) = some 3 := by decide +kernel
theorem hd_X6_nest : yX6_nest.cls = RX6 ∧ yX6_nest.cls ≠ "java/lang/invoke/MethodHandle" ∧ yX6_nest.cls ≠ "java/lang/invoke/VarHandle" ∧ (parseMethodDescriptor yX6_nest.desc).map (fun d => d.parameters.length) = some 3 := by decide +kernel
theorem hd_X6_propose : yX6_propose.cls = RX6 ∧ yX6_propose.cls ≠ "java/lang/invoke/MethodHandle" ∧ yX6_propose.cls ≠ "java/lang/invoke/VarHandle" ∧ (parseMethodDescriptor yX6_propose.desc).map (fun d => d.parameters.length) = some 2 := by decide +kernel
theorem hd_X6_decide : yX6_decide.cls = RX6 ∧ yX6_decide.cls ≠ "java/lang/invoke/MethodHandle" ∧ yX6_decide.cls ≠ "java/lang/invoke/VarHandle" ∧ (parseMethodDescriptor yX6_decide.desc).map (fun d => d.parameters.length) = some 3 := by decide +kernel
theorem hd_X6_allow : yX6_allow.cls = RX6 ∧ yX6_allow.cls ≠ "java/lang/invoke/MethodHandle" ∧ yX6_allow.cls ≠ "java/lang/invoke/VarHandle" ∧ (parseMethodDescriptor yX6_allow.desc).map (fun d => d.parameters.length) = some 3 := by decide +kernel
theorem hd_X6_undo : yX6_undo.cls = RX6 ∧ yX6_undo.cls ≠ "java/lang/invoke/MethodHandle" ∧ yX6_undo.cls ≠ "java/lang/invoke/VarHandle" ∧ (parseMethodDescriptor yX6_undo.desc).map (fun d => d.parameters.length) = some 1 := by decide +kernel
theorem hd_X6_redo : yX6_redo.cls = RX6 ∧ yX6_redo.cls ≠ "java/lang/invoke/MethodHandle" ∧ yX6_redo.cls ≠ "java/lang/invoke/VarHandle" ∧ (parseMethodDescriptor yX6_redo.desc).map (fun d => d.parameters.length) = some 1 := by decide +kernel
theorem hd_X6_send : yX6_send.cls = RX6 ∧ yX6_send.cls ≠ "java/lang/invoke/MethodHandle" ∧ yX6_send.cls ≠ "java/lang/invoke/VarHandle" ∧ (parseMethodDescriptor yX6_send.desc).map (fun d => d.parameters.length) = some 2 := by decide +kernel
theorem hd_X6_deliver : yX6_deliver.cls = RX6 ∧ yX6_deliver.cls ≠ "java/lang/invoke/MethodHandle" ∧ yX6_deliver.cls ≠ "java/lang/invoke/VarHandle" ∧ (parseMethodDescriptor yX6_deliver.desc).map (fun d => d.parameters.length) = some 1 := by decide +kernel
theorem hd_X6_save : yX6_save.cls = RX6 ∧ yX6_save.cls ≠ "java/lang/invoke/MethodHandle" ∧ yX6_save.cls ≠ "java/lang/invoke/VarHandle" ∧ (parseMethodDescriptor yX6_save.desc).map (fun d => d.parameters.length) = some 1 := by decide +kernel
theorem hd_X6_crash : yX6_crash.cls = RX6 ∧ yX6_crash.cls ≠ "java/lang/invoke/MethodHandle" ∧ yX6_crash.cls ≠ "java/lang/invoke/VarHandle" ∧ (parseMethodDescriptor yX6_crash.desc).map (fun d => d.parameters.length) = some 2 := by decide +kernel
theorem hd_X6_name : yX6_name.cls = RX6 ∧ yX6_name.cls ≠ "java/lang/invoke/MethodHandle" ∧ yX6_name.cls ≠ "java/lang/invoke/VarHandle" ∧ (parseMethodDescriptor yX6_name.desc).map (fun d => d.parameters.length) = some 1 := by decide +kernel
theorem hd_X6_bringBack : yX6_bringBack.cls = RX6 ∧ yX6_bringBack.cls ≠ "java/lang/invoke/MethodHandle" ∧ yX6_bringBack.cls ≠ "java/lang/invoke/VarHandle" ∧ (parseMethodDescriptor yX6_bringBack.desc).map (fun d => d.parameters.length) = some 2 := by decide +kernel
theorem hd_X6_differ : yX6_differ.cls = RX6 ∧ yX6_differ.cls ≠ "java/lang/invoke/MethodHandle" ∧ yX6_differ.cls ≠ "java/lang/invoke/VarHandle" ∧ (parseMethodDescriptor yX6_differ.desc).map (fun d => d.parameters.length) = some 2 := by decide +kernel
theorem hd_X6_length : yX6_length.cls = RX6 ∧ yX6_length.cls ≠ "java/lang/invoke/MethodHandle" ∧ yX6_length.cls ≠ "java/lang/invoke/VarHandle" ∧ (parseMethodDescriptor yX6_length.desc).map (fun d => d.parameters.length) = some 1 := by decide +kernel
theorem hd_X6_shown : yX6_shown.cls = RX6 ∧ yX6_shown.cls ≠ "java/lang/invoke/MethodHandle" ∧ yX6_shown.cls ≠ "java/lang/invoke/VarHandle" ∧ (parseMethodDescriptor yX6_shown.desc).map (fun d => d.parameters.length) = some 1 := by decide +kernel
theorem hd_X6_elementAnew : yX6_elementAnew.cls = RX6 ∧ yX6_elementAnew.cls ≠ "java/lang/invoke/MethodHandle" ∧ yX6_elementAnew.cls ≠ "java/lang/invoke/VarHandle" ∧ (parseMethodDescriptor yX6_elementAnew.desc).map (fun d => d.parameters.length) = some 2 := by decide +kernel
theorem hd_X6_letter : yX6_letter.cls = RX6 ∧ yX6_letter.cls ≠ "java/lang/invoke/MethodHandle" ∧ yX6_letter.cls ≠ "java/lang/invoke/VarHandle" ∧ (parseMethodDescriptor yX6_letter.desc).map (fun d => d.parameters.length) = some 2 := by decide +kernel
theorem hd_X6_proposed : yX6_proposed.cls = RX6 ∧ yX6_proposed.cls ≠ "java/lang/invoke/MethodHandle" ∧ yX6_proposed.cls ≠ "java/lang/invoke/VarHandle" ∧ (parseMethodDescriptor yX6_proposed.desc).map (fun d => d.parameters.length) = some 2 := by decide +kernel
theorem hd_X6_open : yX6_open.cls = RX6 ∧ yX6_open.cls ≠ "java/lang/invoke/MethodHandle" ∧ yX6_open.cls ≠ "java/lang/invoke/VarHandle" ∧ (parseMethodDescriptor yX6_open.desc).map (fun d => d.parameters.length) = some 1 := by decide +kernel
theorem hd_X6_isMarked : yX6_isMarked.cls = RX6 ∧ yX6_isMarked.cls ≠ "java/lang/invoke/MethodHandle" ∧ yX6_isMarked.cls ≠ "java/lang/invoke/VarHandle" ∧ (parseMethodDescriptor yX6_isMarked.desc).map (fun d => d.parameters.length) = some 3 := by decide +kernel
theorem hd_X6_covered : yX6_covered.cls = RX6 ∧ yX6_covered.cls ≠ "java/lang/invoke/MethodHandle" ∧ yX6_covered.cls ≠ "java/lang/invoke/VarHandle" ∧ (parseMethodDescriptor yX6_covered.desc).map (fun d => d.parameters.length) = some 2 := by decide +kernel
theorem hd_X6_blocks : yX6_blocks.cls = RX6 ∧ yX6_blocks.cls ≠ "java/lang/invoke/MethodHandle" ∧ yX6_blocks.cls ≠ "java/lang/invoke/VarHandle" ∧ (parseMethodDescriptor yX6_blocks.desc).map (fun d => d.parameters.length) = some 1 := by decide +kernel
theorem hd_X6_kind : yX6_kind.cls = RX6 ∧ yX6_kind.cls ≠ "java/lang/invoke/MethodHandle" ∧ yX6_kind.cls ≠ "java/lang/invoke/VarHandle" ∧ (parseMethodDescriptor yX6_kind.desc).map (fun d => d.parameters.length) = some 2 := by decide +kernel
theorem hd_X6_depth : yX6_depth.cls = RX6 ∧ yX6_depth.cls ≠ "java/lang/invoke/MethodHandle" ∧ yX6_depth.cls ≠ "java/lang/invoke/VarHandle" ∧ (parseMethodDescriptor yX6_depth.desc).map (fun d => d.parameters.length) = some 2 := by decide +kernel
theorem hd_X6_level : yX6_level.cls = RX6 ∧ yX6_level.cls ≠ "java/lang/invoke/MethodHandle" ∧ yX6_level.cls ≠ "java/lang/invoke/VarHandle" ∧ (parseMethodDescriptor yX6_level.desc).map (fun d => d.parameters.length) = some 2 := by decide +kernel
theorem hd_X6_cursor : yX6_cursor.cls = RX6 ∧ yX6_cursor.cls ≠ "java/lang/invoke/MethodHandle" ∧ yX6_cursor.cls ≠ "java/lang/invoke/VarHandle" ∧ (parseMethodDescriptor yX6_cursor.desc).map (fun d => d.parameters.length) = some 1 := by decide +kernel
theorem hd_X6_tail : yX6_tail.cls = RX6 ∧ yX6_tail.cls ≠ "java/lang/invoke/MethodHandle" ∧ yX6_tail.cls ≠ "java/lang/invoke/VarHandle" ∧ (parseMethodDescriptor yX6_tail.desc).map (fun d => d.parameters.length) = some 1 := by decide +kernel
theorem hd_X6_graves : yX6_graves.cls = RX6 ∧ yX6_graves.cls ≠ "java/lang/invoke/MethodHandle" ∧ yX6_graves.cls ≠ "java/lang/invoke/VarHandle" ∧ (parseMethodDescriptor yX6_graves.desc).map (fun d => d.parameters.length) = some 1 := by decide +kernel
theorem hd_X6_buried : yX6_buried.cls = RX6 ∧ yX6_buried.cls ≠ "java/lang/invoke/MethodHandle" ∧ yX6_buried.cls ≠ "java/lang/invoke/VarHandle" ∧ (parseMethodDescriptor yX6_buried.desc).map (fun d => d.parameters.length) = some 1 := by decide +kernel
theorem hd_X5_acts : yX5_acts.cls = RX5 ∧ yX5_acts.cls ≠ "java/lang/invoke/MethodHandle" ∧ yX5_acts.cls ≠ "java/lang/invoke/VarHandle" ∧ (parseMethodDescriptor yX5_acts.desc).map (fun d => d.parameters.length) = some 0 := by decide +kernel
theorem hd_X6_acts : yX6_acts.cls = RX6 ∧ yX6_acts.cls ≠ "java/lang/invoke/MethodHandle" ∧ yX6_acts.cls ≠ "java/lang/invoke/VarHandle" ∧ (parseMethodDescriptor yX6_acts.desc).map (fun d => d.parameters.length) = some 0 := by decide +kernel
theorem hd_X6_has : yX6_has.cls = RX6 ∧ yX6_has.cls ≠ "java/lang/invoke/MethodHandle" ∧ yX6_has.cls ≠ "java/lang/invoke/VarHandle" ∧ (parseMethodDescriptor yX6_has.desc).map (fun d => d.parameters.length) = some 1 := by decide +kernel
theorem hd_X6_actAt : yX6_actAt.cls = RX6 ∧ yX6_actAt.cls ≠ "java/lang/invoke/MethodHandle" ∧ yX6_actAt.cls ≠ "java/lang/invoke/VarHandle" ∧ (parseMethodDescriptor yX6_actAt.desc).map (fun d => d.parameters.length) = some 2 := by decide +kernel
theorem hd_X6_act : yX6_act.cls = RX6 ∧ yX6_act.cls ≠ "java/lang/invoke/MethodHandle" ∧ yX6_act.cls ≠ "java/lang/invoke/VarHandle" ∧ (parseMethodDescriptor yX6_act.desc).map (fun d => d.parameters.length) = some 1 := by decide +kernel
theorem hd_X6_isUndone : yX6_isUndone.cls = RX6 ∧ yX6_isUndone.cls ≠ "java/lang/invoke/MethodHandle" ∧ yX6_isUndone.cls ≠ "java/lang/invoke/VarHandle" ∧ (parseMethodDescriptor yX6_isUndone.desc).map (fun d => d.parameters.length) = some 2 := by decide +kernel
theorem hdn_L_type : yL_type.cls ≠ "java/lang/invoke/MethodHandle" ∧ yL_type.cls ≠ "java/lang/invoke/VarHandle" ∧ (parseMethodDescriptor yL_type.desc).map (fun d => d.parameters.length) = some 4 := by decide +kernel
theorem hdn_L_split : yL_split.cls ≠ "java/lang/invoke/MethodHandle" ∧ yL_split.cls ≠ "java/lang/invoke/VarHandle" ∧ (parseMethodDescriptor yL_split.desc).map (fun d => d.parameters.length) = some 3 := by decide +kernel
theorem hdn_L_erase : yL_erase.cls ≠ "java/lang/invoke/MethodHandle" ∧ yL_erase.cls ≠ "java/lang/invoke/VarHandle" ∧ (parseMethodDescriptor yL_erase.desc).map (fun d => d.parameters.length) = some 3 := by decide +kernel
theorem hdn_L_moveTo : yL_moveTo.cls ≠ "java/lang/invoke/MethodHandle" ∧ yL_moveTo.cls ≠ "java/lang/invoke/VarHandle" ∧ (parseMethodDescriptor yL_moveTo.desc).map (fun d => d.parameters.length) = some 4 := by decide +kernel
theorem hdn_L_extend : yL_extend.cls ≠ "java/lang/invoke/MethodHandle" ∧ yL_extend.cls ≠ "java/lang/invoke/VarHandle" ∧ (parseMethodDescriptor yL_extend.desc).map (fun d => d.parameters.length) = some 4 := by decide +kernel
theorem hdn_L_mark : yL_mark.cls ≠ "java/lang/invoke/MethodHandle" ∧ yL_mark.cls ≠ "java/lang/invoke/VarHandle" ∧ (parseMethodDescriptor yL_mark.desc).map (fun d => d.parameters.length) = some 5 := by decide +kernel
theorem hdn_L_comment : yL_comment.cls ≠ "java/lang/invoke/MethodHandle" ∧ yL_comment.cls ≠ "java/lang/invoke/VarHandle" ∧ (parseMethodDescriptor yL_comment.desc).map (fun d => d.parameters.length) = some 3 := by decide +kernel
theorem hdn_L_setKind : yL_setKind.cls ≠ "java/lang/invoke/MethodHandle" ∧ yL_setKind.cls ≠ "java/lang/invoke/VarHandle" ∧ (parseMethodDescriptor yL_setKind.desc).map (fun d => d.parameters.length) = some 5 := by decide +kernel
theorem hdn_L_nest : yL_nest.cls ≠ "java/lang/invoke/MethodHandle" ∧ yL_nest.cls ≠ "java/lang/invoke/VarHandle" ∧ (parseMethodDescriptor yL_nest.desc).map (fun d => d.parameters.length) = some 5 := by decide +kernel
theorem hdn_L_propose : yL_propose.cls ≠ "java/lang/invoke/MethodHandle" ∧ yL_propose.cls ≠ "java/lang/invoke/VarHandle" ∧ (parseMethodDescriptor yL_propose.desc).map (fun d => d.parameters.length) = some 4 := by decide +kernel
theorem hdn_L_decide : yL_decide.cls ≠ "java/lang/invoke/MethodHandle" ∧ yL_decide.cls ≠ "java/lang/invoke/VarHandle" ∧ (parseMethodDescriptor yL_decide.desc).map (fun d => d.parameters.length) = some 5 := by decide +kernel
theorem hdn_L_allow : yL_allow.cls ≠ "java/lang/invoke/MethodHandle" ∧ yL_allow.cls ≠ "java/lang/invoke/VarHandle" ∧ (parseMethodDescriptor yL_allow.desc).map (fun d => d.parameters.length) = some 5 := by decide +kernel
theorem hdn_L_undo : yL_undo.cls ≠ "java/lang/invoke/MethodHandle" ∧ yL_undo.cls ≠ "java/lang/invoke/VarHandle" ∧ (parseMethodDescriptor yL_undo.desc).map (fun d => d.parameters.length) = some 3 := by decide +kernel
theorem hdn_L_redo : yL_redo.cls ≠ "java/lang/invoke/MethodHandle" ∧ yL_redo.cls ≠ "java/lang/invoke/VarHandle" ∧ (parseMethodDescriptor yL_redo.desc).map (fun d => d.parameters.length) = some 3 := by decide +kernel
theorem hdn_L_deliver : yL_deliver.cls ≠ "java/lang/invoke/MethodHandle" ∧ yL_deliver.cls ≠ "java/lang/invoke/VarHandle" ∧ (parseMethodDescriptor yL_deliver.desc).map (fun d => d.parameters.length) = some 3 := by decide +kernel
theorem hdn_L_save : yL_save.cls ≠ "java/lang/invoke/MethodHandle" ∧ yL_save.cls ≠ "java/lang/invoke/VarHandle" ∧ (parseMethodDescriptor yL_save.desc).map (fun d => d.parameters.length) = some 3 := by decide +kernel
theorem hdn_L_crash : yL_crash.cls ≠ "java/lang/invoke/MethodHandle" ∧ yL_crash.cls ≠ "java/lang/invoke/VarHandle" ∧ (parseMethodDescriptor yL_crash.desc).map (fun d => d.parameters.length) = some 4 := by decide +kernel
theorem hdn_L_bringBack : yL_bringBack.cls ≠ "java/lang/invoke/MethodHandle" ∧ yL_bringBack.cls ≠ "java/lang/invoke/VarHandle" ∧ (parseMethodDescriptor yL_bringBack.desc).map (fun d => d.parameters.length) = some 4 := by decide +kernel
theorem hdn_L_differ : yL_differ.cls ≠ "java/lang/invoke/MethodHandle" ∧ yL_differ.cls ≠ "java/lang/invoke/VarHandle" ∧ (parseMethodDescriptor yL_differ.desc).map (fun d => d.parameters.length) = some 4 := by decide +kernel
theorem hdn_L_length : yL_length.cls ≠ "java/lang/invoke/MethodHandle" ∧ yL_length.cls ≠ "java/lang/invoke/VarHandle" ∧ (parseMethodDescriptor yL_length.desc).map (fun d => d.parameters.length) = some 3 := by decide +kernel
theorem hdn_L_shown : yL_shown.cls ≠ "java/lang/invoke/MethodHandle" ∧ yL_shown.cls ≠ "java/lang/invoke/VarHandle" ∧ (parseMethodDescriptor yL_shown.desc).map (fun d => d.parameters.length) = some 3 := by decide +kernel
theorem hdn_L_element : yL_element.cls ≠ "java/lang/invoke/MethodHandle" ∧ yL_element.cls ≠ "java/lang/invoke/VarHandle" ∧ (parseMethodDescriptor yL_element.desc).map (fun d => d.parameters.length) = some 4 := by decide +kernel
theorem hdn_L_elementAnew : yL_elementAnew.cls ≠ "java/lang/invoke/MethodHandle" ∧ yL_elementAnew.cls ≠ "java/lang/invoke/VarHandle" ∧ (parseMethodDescriptor yL_elementAnew.desc).map (fun d => d.parameters.length) = some 4 := by decide +kernel
theorem hdn_L_letter : yL_letter.cls ≠ "java/lang/invoke/MethodHandle" ∧ yL_letter.cls ≠ "java/lang/invoke/VarHandle" ∧ (parseMethodDescriptor yL_letter.desc).map (fun d => d.parameters.length) = some 4 := by decide +kernel
theorem hdn_L_proposed : yL_proposed.cls ≠ "java/lang/invoke/MethodHandle" ∧ yL_proposed.cls ≠ "java/lang/invoke/VarHandle" ∧ (parseMethodDescriptor yL_proposed.desc).map (fun d => d.parameters.length) = some 4 := by decide +kernel
theorem hdn_L_open : yL_open.cls ≠ "java/lang/invoke/MethodHandle" ∧ yL_open.cls ≠ "java/lang/invoke/VarHandle" ∧ (parseMethodDescriptor yL_open.desc).map (fun d => d.parameters.length) = some 3 := by decide +kernel
theorem hdn_L_isMarked : yL_isMarked.cls ≠ "java/lang/invoke/MethodHandle" ∧ yL_isMarked.cls ≠ "java/lang/invoke/VarHandle" ∧ (parseMethodDescriptor yL_isMarked.desc).map (fun d => d.parameters.length) = some 5 := by decide +kernel
theorem hdn_L_covered : yL_covered.cls ≠ "java/lang/invoke/MethodHandle" ∧ yL_covered.cls ≠ "java/lang/invoke/VarHandle" ∧ (parseMethodDescriptor yL_covered.desc).map (fun d => d.parameters.length) = some 4 := by decide +kernel
theorem hdn_L_blocks : yL_blocks.cls ≠ "java/lang/invoke/MethodHandle" ∧ yL_blocks.cls ≠ "java/lang/invoke/VarHandle" ∧ (parseMethodDescriptor yL_blocks.desc).map (fun d => d.parameters.length) = some 3 := by decide +kernel
theorem hdn_L_kind : yL_kind.cls ≠ "java/lang/invoke/MethodHandle" ∧ yL_kind.cls ≠ "java/lang/invoke/VarHandle" ∧ (parseMethodDescriptor yL_kind.desc).map (fun d => d.parameters.length) = some 4 := by decide +kernel
theorem hdn_L_depth : yL_depth.cls ≠ "java/lang/invoke/MethodHandle" ∧ yL_depth.cls ≠ "java/lang/invoke/VarHandle" ∧ (parseMethodDescriptor yL_depth.desc).map (fun d => d.parameters.length) = some 4 := by decide +kernel
theorem hdn_L_level : yL_level.cls ≠ "java/lang/invoke/MethodHandle" ∧ yL_level.cls ≠ "java/lang/invoke/VarHandle" ∧ (parseMethodDescriptor yL_level.desc).map (fun d => d.parameters.length) = some 4 := by decide +kernel
theorem hdn_L_cursor : yL_cursor.cls ≠ "java/lang/invoke/MethodHandle" ∧ yL_cursor.cls ≠ "java/lang/invoke/VarHandle" ∧ (parseMethodDescriptor yL_cursor.desc).map (fun d => d.parameters.length) = some 3 := by decide +kernel
theorem hdn_L_tail : yL_tail.cls ≠ "java/lang/invoke/MethodHandle" ∧ yL_tail.cls ≠ "java/lang/invoke/VarHandle" ∧ (parseMethodDescriptor yL_tail.desc).map (fun d => d.parameters.length) = some 3 := by decide +kernel
theorem hdn_L_graves : yL_graves.cls ≠ "java/lang/invoke/MethodHandle" ∧ yL_graves.cls ≠ "java/lang/invoke/VarHandle" ∧ (parseMethodDescriptor yL_graves.desc).map (fun d => d.parameters.length) = some 3 := by decide +kernel
theorem hdn_L_buried : yL_buried.cls ≠ "java/lang/invoke/MethodHandle" ∧ yL_buried.cls ≠ "java/lang/invoke/VarHandle" ∧ (parseMethodDescriptor yL_buried.desc).map (fun d => d.parameters.length) = some 3 := by decide +kernel
theorem hdn_L_has : yL_has.cls ≠ "java/lang/invoke/MethodHandle" ∧ yL_has.cls ≠ "java/lang/invoke/VarHandle" ∧ (parseMethodDescriptor yL_has.desc).map (fun d => d.parameters.length) = some 3 := by decide +kernel
theorem hdn_L_actAt : yL_actAt.cls ≠ "java/lang/invoke/MethodHandle" ∧ yL_actAt.cls ≠ "java/lang/invoke/VarHandle" ∧ (parseMethodDescriptor yL_actAt.desc).map (fun d => d.parameters.length) = some 4 := by decide +kernel
theorem hdn_L_act : yL_act.cls ≠ "java/lang/invoke/MethodHandle" ∧ yL_act.cls ≠ "java/lang/invoke/VarHandle" ∧ (parseMethodDescriptor yL_act.desc).map (fun d => d.parameters.length) = some 3 := by decide +kernel
theorem hdn_L_isUndone : yL_isUndone.cls ≠ "java/lang/invoke/MethodHandle" ∧ yL_isUndone.cls ≠ "java/lang/invoke/VarHandle" ∧ (parseMethodDescriptor yL_isUndone.desc).map (fun d => d.parameters.length) = some 4 := by decide +kernel
theorem cw_L_type : GoodIn GW (va_wsS RL 154 yL_type (wsH yL_type cL_type 5 (some .int) [(0, 10, 13, 13), (0, 10, 17, 15), (0, 10, 21, 17)])) := cg_H mw218 mw219 mw0 mw220
theorem cw_L_split : GoodIn GW (va_wsS RL 164 yL_split (wsH yL_split cL_split 4 (some .int) [(0, 9, 12, 13), (0, 9, 15, 17)])) := cg_H mw520 mw521 mw0 mw522
theorem cw_L_erase : GoodIn GW (va_wsS RL 168 yL_erase (wsH yL_erase cL_erase 4 (some .int) [(0, 9, 12, 13), (0, 9, 15, 17)])) := cg_H mw527 mw528 mw0 mw529
theorem cw_L_moveTo : GoodIn GW (va_wsS RL 171 yL_moveTo (wsH yL_moveTo cL_moveTo 5 (some .int) [(0, 10, 13, 13)])) := cg_H mw547 mw548 mw0 mw549
theorem cw_L_extend : GoodIn GW (va_wsS RL 175 yL_extend (wsH yL_extend cL_extend 5 (some .int) [(0, 10, 13, 13)])) := cg_H mw565 mw566 mw0 mw567
theorem cw_L_mark : GoodIn GW (va_wsS RL 178 yL_mark (wsH yL_mark cL_mark 6 (some .int) [(0, 12, 15, 13), (0, 12, 19, 15), (0, 12, 23, 17)])) := cg_H mw572 mw573 mw0 mw574
theorem cw_L_comment : GoodIn GW (va_wsS RL 182 yL_comment (wsH yL_comment cL_comment 4 (some .int) [(0, 9, 12, 13), (0, 9, 15, 17)])) := cg_H mw588 mw589 mw0 mw590
theorem cw_L_setKind : GoodIn GW (va_wsS RL 185 yL_setKind (wsH yL_setKind cL_setKind 6 (some .int) [(0, 12, 15, 13), (0, 12, 19, 15), (0, 12, 23, 17)])) := cg_H mw596 mw597 mw0 mw598
theorem cw_L_nest : GoodIn GW (va_wsS RL 189 yL_nest (wsH yL_nest cL_nest 6 (some .int) [(0, 12, 15, 13), (0, 12, 19, 17)])) := cg_H mw617 mw618 mw0 mw619
theorem cw_L_propose : GoodIn GW (va_wsS RL 192 yL_propose (wsH yL_propose cL_propose 5 (some .int) [(0, 17, 20, 13)])) := cg_H mw624 mw625 mw0 mw626
theorem cw_L_decide : GoodIn GW (va_wsS RL 196 yL_decide (wsH yL_decide cL_decide 6 (some .int) [(0, 12, 15, 13), (0, 12, 19, 17)])) := cg_H mw631 mw632 mw0 mw633
theorem cw_L_allow : GoodIn GW (va_wsS RL 199 yL_allow (wsH yL_allow cL_allow 6 (some .int) [(0, 12, 15, 13), (0, 12, 19, 15), (0, 12, 23, 17)])) := cg_H mw648 mw649 mw0 mw650
theorem cw_L_undo : GoodIn GW (va_wsS RL 202 yL_undo (wsH yL_undo cL_undo 4 (some .int) [(0, 9, 12, 13), (0, 9, 15, 17)])) := cg_H mw656 mw657 mw0 mw658
theorem cw_L_redo : GoodIn GW (va_wsS RL 205 yL_redo (wsH yL_redo cL_redo 4 (some .int) [(0, 9, 12, 13), (0, 9, 15, 17)])) := cg_H mw679 mw680 mw0 mw681
theorem cw_L_deliver : GoodIn GW (va_wsS RL 211 yL_deliver (wsH yL_deliver cL_deliver 4 (some .int) [(0, 9, 12, 13)])) := cg_H mw734 mw735 mw0 mw736
theorem cw_L_save : GoodIn GW (va_wsS RL 214 yL_save (wsH yL_save cL_save 4 (some .int) [(0, 9, 12, 13)])) := cg_H mw751 mw752 mw0 mw753
theorem cw_L_crash : GoodIn GW (va_wsS RL 217 yL_crash (wsH yL_crash cL_crash 5 (some .int) [(0, 10, 13, 13), (0, 10, 17, 15)])) := cg_H mw770 mw771 mw0 mw772
theorem cw_L_bringBack : GoodIn GW (va_wsS RL 223 yL_bringBack (wsH yL_bringBack cL_bringBack 5 (some .int) [(0, 10, 13, 13), (0, 10, 17, 17)])) := cg_H mw795 mw796 mw0 mw797
theorem cw_L_differ : GoodIn GW (va_wsS RL 226 yL_differ (wsH yL_differ cL_differ 5 (some .int) [(0, 10, 13, 13)])) := cg_H mw821 mw822 mw0 mw823
theorem cw_L_length : GoodIn GW (va_wsS RL 229 yL_length (wsH yL_length cL_length 4 (some .int) [(0, 9, 12, 13)])) := cg_H mw828 mw829 mw0 mw830
theorem cw_L_shown : GoodIn GW (va_wsS RL 232 yL_shown (wsH yL_shown cL_shown 4 (some .int) [(0, 9, 12, 13)])) := cg_H mw839 mw840 mw0 mw841
theorem cw_L_element : GoodIn GW (va_wsS RL 235 yL_element (wsH yL_element cL_element 5 (some .int) [(0, 10, 13, 13)])) := cg_H mw850 mw851 mw0 mw852
theorem cw_L_elementAnew : GoodIn GW (va_wsS RL 238 yL_elementAnew (wsH yL_elementAnew cL_elementAnew 5 (some .int) [(0, 10, 13, 13)])) := cg_H mw857 mw858 mw0 mw859
theorem cw_L_letter : GoodIn GW (va_wsS RL 241 yL_letter (wsH yL_letter cL_letter 5 (some .int) [(0, 10, 13, 13)])) := cg_H mw864 mw865 mw0 mw866
theorem cw_L_proposed : GoodIn GW (va_wsS RL 244 yL_proposed (wsH yL_proposed cL_proposed 5 (some .int) [(0, 10, 13, 13)])) := cg_H mw872 mw873 mw0 mw874
theorem cw_L_open : GoodIn GW (va_wsS RL 247 yL_open (wsH yL_open cL_open 4 (some .int) [(0, 9, 12, 13)])) := cg_H mw883 mw884 mw0 mw885
theorem cw_L_isMarked : GoodIn GW (va_wsS RL 250 yL_isMarked (wsH yL_isMarked cL_isMarked 6 (some .int) [(0, 19, 22, 13), (0, 19, 26, 15)])) := cg_H mw894 mw895 mw0 mw896
theorem cw_L_covered : GoodIn GW (va_wsS RL 253 yL_covered (wsH yL_covered cL_covered 5 (some .int) [(0, 10, 13, 13)])) := cg_H mw905 mw906 mw0 mw907
theorem cw_L_blocks : GoodIn GW (va_wsS RL 256 yL_blocks (wsH yL_blocks cL_blocks 4 (some .int) [(0, 9, 12, 13)])) := cg_H mw918 mw919 mw0 mw920
theorem cw_L_kind : GoodIn GW (va_wsS RL 259 yL_kind (wsH yL_kind cL_kind 5 (some .int) [(0, 10, 13, 13)])) := cg_H mw929 mw930 mw0 mw931
theorem cw_L_depth : GoodIn GW (va_wsS RL 262 yL_depth (wsH yL_depth cL_depth 5 (some .int) [(0, 10, 13, 13)])) := cg_H mw940 mw941 mw0 mw942
theorem cw_L_level : GoodIn GW (va_wsS RL 265 yL_level (wsH yL_level cL_level 5 (some .int) [(0, 10, 13, 13)])) := cg_H mw951 mw952 mw0 mw953
theorem cw_L_cursor : GoodIn GW (va_wsS RL 268 yL_cursor (wsH yL_cursor cL_cursor 4 (some .int) [(0, 9, 12, 13)])) := cg_H mw958 mw959 mw0 mw960
theorem cw_L_tail : GoodIn GW (va_wsS RL 271 yL_tail (wsH yL_tail cL_tail 4 (some .int) [(0, 9, 12, 13)])) := cg_H mw965 mw966 mw0 mw967
theorem cw_L_graves : GoodIn GW (va_wsS RL 274 yL_graves (wsH yL_graves cL_graves 4 (some .int) [(0, 9, 12, 13)])) := cg_H mw972 mw973 mw0 mw974
theorem cw_L_buried : GoodIn GW (va_wsS RL 277 yL_buried (wsH yL_buried cL_buried 4 (some .int) [(0, 9, 12, 13)])) := cg_H mw984 mw985 mw0 mw986
theorem cw_L_has : GoodIn GW (va_wsS RL 284 yL_has (wsH yL_has cL_has 4 (some .int) [(0, 9, 12, 13)])) := cg_H mw1009 mw1010 mw0 mw1011
theorem cw_L_actAt : GoodIn GW (va_wsS RL 287 yL_actAt (wsH yL_actAt cL_actAt 5 (some .int) [(0, 10, 13, 13)])) := cg_H mw1016 mw1017 mw0 mw1018
theorem cw_L_act : GoodIn GW (va_wsS RL 290 yL_act (wsH yL_act cL_act 4 (some .int) [(0, 9, 12, 13)])) := cg_H mw1024 mw1025 mw0 mw1026
theorem cw_L_isUndone : GoodIn GW (va_wsS RL 293 yL_isUndone (wsH yL_isUndone cL_isUndone 5 (some .int) [(0, 17, 20, 13)])) := cg_H mw1032 mw1033 mw0 mw1034
set_option maxRecDepth 100000 in
set_option maxHeartbeats 4000000 in
theorem case_type {p : Program} {l : Launch} {e : Env} {s : State} {m : MethodId} {args : Array Value} {below : List Frame} {meth : Method} {c : Code} {H : Heap} {locs : List Loc} {cells slots : Nat} {Q : State → Prop} {D : va_G} {cy : Nat → ClassId} {ad : Nat → Nat} {nm nv : Nat} {A : Nat → Prop} {σ : St} {ls : Array Slot} {b L i0 : Nat} {xs : Nat → Int32} {y1 y2 y3 k v : Int} {σ1 σ2 : St} {n : Nat} (X : Cx p s m args c cL_law 7 RL D cy ad nm nv A) (Y : TX A s) (Z : NCs s) (hst : l.stackTraces = false) (hX : va_X b L xs s s.heap) (hbl : b < s.heap.size) (hbA : ¬ A b) (hL : L ≤ 2048) (hiL : i0 + 4 ≤ L) (e1 : (xs (i0 + 1)).toInt = y1) (e2 : (xs (i0 + 2)).toInt = y2) (e3 : (xs (i0 + 3)).toInt = y3) (hW : Wd D cy ad nm nv σ H) (hS : va_S A s.heap H locs) (hl : lv_has ls 7 [(0, .ref b), (1, .ref (ad 0)), (2, .ref (ad 230)), (3, .ref (ad 290)), (4, .int (i32 (i0 : Int)))]) (hce : cells + 2 ≤ 601024) (hsl : slots + 12 ≤ 7293034) (hk : fL_type n σ y1 (y2 % 65536) = some (k, σ1)) (hm : fX6_type n σ1 y1 (y2 % 65536) = some (v, σ2)) (ht : fX6_thrown σ2 = some k) (ho : k = 0 → (σ2 290 0) = v) (kk : ∀ (H1 : Heap) (locs1 : List Loc) (ls1 : Array Slot), Wd D cy ad nm nv σ2 H1 → va_S A s.heap H1 locs1 → lv_has ls1 7 [(0, .ref b), (1, .ref (ad 0)), (2, .ref (ad 230)), (3, .ref (ad 290)), (4, .int (i32 (i0 : Int)))] → W p l e room_1 s m args below meth c H1 locs1 (cells + 2) (slots + 12) Q (F0 m 3020 ls1 [])) : W p l e room_1 s m args below meth c H locs cells slots Q (F0 m 224 ls []) := by
  have hx := X.1
  have hb := X.2.1
  have hi0 : inR (i0 : Int) := ⟨by omega, by omega⟩
  have hy1 : inR y1 := by rw [← e1]; exact i32_inR _
  have hy2 : inR y2 := by rw [← e2]; exact i32_inR _
  have hy3 : inR y3 := by rw [← e3]; exact i32_inR _
  refine lv_aload_n hx hb dL_law_224 rfl (lv_at hl 1 rfl) ?_
  refine lv_aload_n hx hb dL_law_225 rfl (lv_at hl 0 rfl) ?_
  refine lv_iload hx hb dL_law_226 (lv_at hl 4 rfl) ?_
  refine m_const (v := 1) hx hb dL_law_228 rfl ?_
  refine m_add hx hb dL_law_229 ?_
  refine m_sld (j := i0 + 1) hx hb hX hbl hbA hS (by omega) hL (by omega) e1 dL_law_230 ?_
  refine lv_aload_n hx hb dL_law_231 rfl (lv_at hl 0 rfl) ?_
  refine lv_iload hx hb dL_law_232 (lv_at hl 4 rfl) ?_
  refine m_const (v := 2) hx hb dL_law_234 rfl ?_
  refine m_add hx hb dL_law_235 ?_
  refine m_sld (j := i0 + 2) hx hb hX hbl hbA hS (by omega) hL (by omega) e2 dL_law_236 ?_
  refine lv_i2c hx hb dL_law_237 (i32_c _) ?_
  refine lv_aload_n hx hb dL_law_238 rfl (lv_at hl 3 rfl) ?_
  refine l_callS (As := [.ref (ad 0), .int (i32 y1), .int (i32 (y2 % 65536)), .ref (ad 290)]) (rest := []) (κ := fun v q => some (v, q)) (r := (k, σ1)) X Y Z hW hS hl.1 cw_L_type hdn_L_type ⟨rfl, rfl, (Nat.le_of_ble_eq_true rfl), (Nat.le_of_ble_eq_true rfl)⟩ (fun v σ2 q => ok_L_type hy1 ⟨by omega, by omega⟩ q hst) (by rw [hk]; rfl) rfl rfl (Nat.le_of_ble_eq_true rfl) dL_law_239 ⟨hce, hsl⟩ (fun v s1 H locs hv hW1 hS1 hf => ?_)
  cases hf
  refine lv_istore (lv' := [(5, .int (i32 k)), (0, .ref b), (1, .ref (ad 0)), (2, .ref (ad 230)), (3, .ref (ad 290)), (4, .int (i32 (i0 : Int)))]) hx hb dL_law_242 hl (by decide) rfl (fun ls hl => ?_)
  refine lv_aload_n hx hb dL_law_244 rfl (lv_at hl 3 rfl) ?_
  refine lv_aload_n hx hb dL_law_245 rfl (lv_at hl 1 rfl) ?_
  refine lv_iload hx hb dL_law_246 (lv_at hl 5 rfl) ?_
  refine m_const (v := 1) hx hb dL_law_248 rfl ?_
  refine m_add hx hb dL_law_249 ?_
  refine m_sld (j := i0 + 1) hx hb hX hbl hbA hS1 (by omega) hL (by omega) e1 dL_law_250 ?_
  refine lv_aload_n hx hb dL_law_251 rfl (lv_at hl 1 rfl) ?_
  refine lv_iload hx hb dL_law_252 (lv_at hl 5 rfl) ?_
  refine m_const (v := 2) hx hb dL_law_254 rfl ?_
  refine m_add hx hb dL_law_255 ?_
  refine m_sld (j := i0 + 2) hx hb hX hbl hbA hS1 (by omega) hL (by omega) e2 dL_law_256 ?_
  refine lv_i2c hx hb dL_law_257 (i32_c _) ?_
  refine m_callVi (z := false) (As := [.int (i32 y1), .int (i32 (y2 % 65536))]) (rest := []) (k := fun v q => some (v, q)) (r := (v, σ2)) X hW1 hS1 hl.1 gc_L_159 hd_X6_type ⟨rfl, rfl, (Nat.le_of_ble_eq_true rfl), (Nat.le_of_ble_eq_true rfl)⟩ (rc_X6 X hW1) (fun v s2 q => ok_X6_type hy1 ⟨by omega, by omega⟩ q) (by rw [hm]; rfl) rfl rfl (Nat.le_of_ble_eq_true rfl) dL_law_258 ⟨hce, hsl⟩ (fun w s2 H locs hv2 z2 hW2 hS2 hf => ?_)
  cases hf
  refine lv_istore (lv' := [(6, .int (i32 v)), (5, .int (i32 k)), (0, .ref b), (1, .ref (ad 0)), (2, .ref (ad 230)), (3, .ref (ad 290)), (4, .int (i32 (i0 : Int)))]) hx hb dL_law_261 hl (by decide) rfl (fun ls hl => ?_)
  refine lv_aload_n hx hb dL_law_263 rfl (lv_at hl 4 rfl) ?_
  refine m_callVi1 (z := false) (As := []) (rest := []) (k := fun v => some v) (r := k) X hW2 hS2 hl.1 gc_L_160 hd_X6_thrown ⟨rfl, rfl, (Nat.le_of_ble_eq_true rfl), (Nat.le_of_ble_eq_true rfl)⟩ (rc_X6 X hW2) (fun v q => ok_X6_thrown  q) (by rw [ht]; rfl) rfl rfl (Nat.le_of_ble_eq_true rfl) dL_law_264 ⟨hce, hsl⟩ (fun v H locs hv3 z3 hW3 hS3 hf => ?_)
  cases hf
  refine lv_iload hx hb dL_law_267 (lv_at hl 1 rfl) ?_
  refine lv_icmp_eq (tgt := 274) hx hb dL_law_269 (by decide) (fun _ => ?_) (fun q => absurd rfl q)
  refine lv_iload hx hb dL_law_274 (lv_at hl 1 rfl) ?_
  refine lv_if_ne (tgt := 291) hx hb dL_law_276 (by decide) (fun qk => ?_) (fun qk => ?_)
  · refine lv_goto (tgt := 3020) hx hb dL_law_291 (by decide) ?_
    exact kk _ _ _ hW3 hS3 (lv_sub hl [2, 3, 4, 5, 6] rfl)
  · have qk := (i32_eq hv z0).mp qk
    refine lv_aload_n hx hb dL_law_279 rfl (lv_at hl 5 rfl) ?_
    refine m_const (v := 0) hx hb dL_law_280 rfl ?_
    refine m_lald X hW3 dL_law_281 ?_
    refine lv_iload hx hb dL_law_282 (lv_at hl 0 rfl) ?_
    refine m_i2l hx hb hv2 dL_law_284 ?_
    refine m_lcmp hx hb (hW3.2.1 _ _) hv2 dL_law_285 ?_
    refine lv_if_eq (tgt := 291) hx hb dL_law_286 (by decide) (fun _ => ?_) (fun q => absurd (by rw [ho qk]; unfold lcm; rw [if_neg (Int.lt_irrefl _), if_pos rfl]; rfl) q)
    refine lv_goto (tgt := 3020) hx hb dL_law_291 (by decide) ?_
    exact kk _ _ _ hW3 hS3 (lv_sub hl [2, 3, 4, 5, 6] rfl)
set_option maxRecDepth 100000 in
set_option maxHeartbeats 4000000 in
theorem case_split {p : Program} {l : Launch} {e : Env} {s : State} {m : MethodId} {args : Array Value} {below : List Frame} {meth : Method} {c : Code} {H : Heap} {locs : List Loc} {cells slots : Nat} {Q : State → Prop} {D : va_G} {cy : Nat → ClassId} {ad : Nat → Nat} {nm nv : Nat} {A : Nat → Prop} {σ : St} {ls : Array Slot} {b L i0 : Nat} {xs : Nat → Int32} {y1 y2 y3 k v : Int} {σ1 σ2 : St} {n : Nat} (X : Cx p s m args c cL_law 7 RL D cy ad nm nv A) (Y : TX A s) (Z : NCs s) (hst : l.stackTraces = false) (hX : va_X b L xs s s.heap) (hbl : b < s.heap.size) (hbA : ¬ A b) (hL : L ≤ 2048) (hiL : i0 + 4 ≤ L) (e1 : (xs (i0 + 1)).toInt = y1) (e2 : (xs (i0 + 2)).toInt = y2) (e3 : (xs (i0 + 3)).toInt = y3) (hW : Wd D cy ad nm nv σ H) (hS : va_S A s.heap H locs) (hl : lv_has ls 7 [(0, .ref b), (1, .ref (ad 0)), (2, .ref (ad 230)), (3, .ref (ad 290)), (4, .int (i32 (i0 : Int)))]) (hce : cells + 2 ≤ 601024) (hsl : slots + 12 ≤ 7293034) (hk : fL_split n σ y1 = some (k, σ1)) (hm : fX6_split n σ1 y1 = some (v, σ2)) (ht : fX6_thrown σ2 = some k) (ho : k = 0 → (σ2 290 0) = v) (kk : ∀ (H1 : Heap) (locs1 : List Loc) (ls1 : Array Slot), Wd D cy ad nm nv σ2 H1 → va_S A s.heap H1 locs1 → lv_has ls1 7 [(0, .ref b), (1, .ref (ad 0)), (2, .ref (ad 230)), (3, .ref (ad 290)), (4, .int (i32 (i0 : Int)))] → W p l e room_1 s m args below meth c H1 locs1 (cells + 2) (slots + 12) Q (F0 m 3020 ls1 [])) : W p l e room_1 s m args below meth c H locs cells slots Q (F0 m 294 ls []) := by
  have hx := X.1
  have hb := X.2.1
  have hi0 : inR (i0 : Int) := ⟨by omega, by omega⟩
  have hy1 : inR y1 := by rw [← e1]; exact i32_inR _
  have hy2 : inR y2 := by rw [← e2]; exact i32_inR _
  have hy3 : inR y3 := by rw [← e3]; exact i32_inR _
  refine lv_aload_n hx hb dL_law_294 rfl (lv_at hl 1 rfl) ?_
  refine lv_aload_n hx hb dL_law_295 rfl (lv_at hl 0 rfl) ?_
  refine lv_iload hx hb dL_law_296 (lv_at hl 4 rfl) ?_
  refine m_const (v := 1) hx hb dL_law_298 rfl ?_
  refine m_add hx hb dL_law_299 ?_
  refine m_sld (j := i0 + 1) hx hb hX hbl hbA hS (by omega) hL (by omega) e1 dL_law_300 ?_
  refine lv_aload_n hx hb dL_law_301 rfl (lv_at hl 3 rfl) ?_
  refine l_callS (As := [.ref (ad 0), .int (i32 y1), .ref (ad 290)]) (rest := []) (κ := fun v q => some (v, q)) (r := (k, σ1)) X Y Z hW hS hl.1 cw_L_split hdn_L_split ⟨rfl, rfl, (Nat.le_of_ble_eq_true rfl), (Nat.le_of_ble_eq_true rfl)⟩ (fun v σ2 q => ok_L_split hy1 q hst) (by rw [hk]; rfl) rfl rfl (Nat.le_of_ble_eq_true rfl) dL_law_302 ⟨hce, hsl⟩ (fun v s1 H locs hv hW1 hS1 hf => ?_)
  cases hf
  refine lv_istore (lv' := [(5, .int (i32 k)), (0, .ref b), (1, .ref (ad 0)), (2, .ref (ad 230)), (3, .ref (ad 290)), (4, .int (i32 (i0 : Int)))]) hx hb dL_law_305 hl (by decide) rfl (fun ls hl => ?_)
  refine lv_aload_n hx hb dL_law_307 rfl (lv_at hl 3 rfl) ?_
  refine lv_aload_n hx hb dL_law_308 rfl (lv_at hl 1 rfl) ?_
  refine lv_iload hx hb dL_law_309 (lv_at hl 5 rfl) ?_
  refine m_const (v := 1) hx hb dL_law_311 rfl ?_
  refine m_add hx hb dL_law_312 ?_
  refine m_sld (j := i0 + 1) hx hb hX hbl hbA hS1 (by omega) hL (by omega) e1 dL_law_313 ?_
  refine m_callVi (z := false) (As := [.int (i32 y1)]) (rest := []) (k := fun v q => some (v, q)) (r := (v, σ2)) X hW1 hS1 hl.1 gc_L_167 hd_X6_split ⟨rfl, rfl, (Nat.le_of_ble_eq_true rfl), (Nat.le_of_ble_eq_true rfl)⟩ (rc_X6 X hW1) (fun v s2 q => ok_X6_split hy1 q) (by rw [hm]; rfl) rfl rfl (Nat.le_of_ble_eq_true rfl) dL_law_314 ⟨hce, hsl⟩ (fun w s2 H locs hv2 z2 hW2 hS2 hf => ?_)
  cases hf
  refine lv_istore (lv' := [(6, .int (i32 v)), (5, .int (i32 k)), (0, .ref b), (1, .ref (ad 0)), (2, .ref (ad 230)), (3, .ref (ad 290)), (4, .int (i32 (i0 : Int)))]) hx hb dL_law_317 hl (by decide) rfl (fun ls hl => ?_)
  refine lv_aload_n hx hb dL_law_319 rfl (lv_at hl 4 rfl) ?_
  refine m_callVi1 (z := false) (As := []) (rest := []) (k := fun v => some v) (r := k) X hW2 hS2 hl.1 gc_L_160 hd_X6_thrown ⟨rfl, rfl, (Nat.le_of_ble_eq_true rfl), (Nat.le_of_ble_eq_true rfl)⟩ (rc_X6 X hW2) (fun v q => ok_X6_thrown  q) (by rw [ht]; rfl) rfl rfl (Nat.le_of_ble_eq_true rfl) dL_law_320 ⟨hce, hsl⟩ (fun v H locs hv3 z3 hW3 hS3 hf => ?_)
  cases hf
  refine lv_iload hx hb dL_law_323 (lv_at hl 1 rfl) ?_
  refine lv_icmp_eq (tgt := 330) hx hb dL_law_325 (by decide) (fun _ => ?_) (fun q => absurd rfl q)
  refine lv_iload hx hb dL_law_330 (lv_at hl 1 rfl) ?_
  refine lv_if_ne (tgt := 347) hx hb dL_law_332 (by decide) (fun qk => ?_) (fun qk => ?_)
  · refine lv_goto (tgt := 3020) hx hb dL_law_347 (by decide) ?_
    exact kk _ _ _ hW3 hS3 (lv_sub hl [2, 3, 4, 5, 6] rfl)
  · have qk := (i32_eq hv z0).mp qk
    refine lv_aload_n hx hb dL_law_335 rfl (lv_at hl 5 rfl) ?_
    refine m_const (v := 0) hx hb dL_law_336 rfl ?_
    refine m_lald X hW3 dL_law_337 ?_
    refine lv_iload hx hb dL_law_338 (lv_at hl 0 rfl) ?_
    refine m_i2l hx hb hv2 dL_law_340 ?_
    refine m_lcmp hx hb (hW3.2.1 _ _) hv2 dL_law_341 ?_
    refine lv_if_eq (tgt := 347) hx hb dL_law_342 (by decide) (fun _ => ?_) (fun q => absurd (by rw [ho qk]; unfold lcm; rw [if_neg (Int.lt_irrefl _), if_pos rfl]; rfl) q)
    refine lv_goto (tgt := 3020) hx hb dL_law_347 (by decide) ?_
    exact kk _ _ _ hW3 hS3 (lv_sub hl [2, 3, 4, 5, 6] rfl)
set_option maxRecDepth 100000 in
set_option maxHeartbeats 4000000 in
theorem case_erase {p : Program} {l : Launch} {e : Env} {s : State} {m : MethodId} {args : Array Value} {below : List Frame} {meth : Method} {c : Code} {H : Heap} {locs : List Loc} {cells slots : Nat} {Q : State → Prop} {D : va_G} {cy : Nat → ClassId} {ad : Nat → Nat} {nm nv : Nat} {A : Nat → Prop} {σ : St} {ls : Array Slot} {b L i0 : Nat} {xs : Nat → Int32} {y1 y2 y3 k v : Int} {σ1 σ2 : St} {n : Nat} (X : Cx p s m args c cL_law 7 RL D cy ad nm nv A) (Y : TX A s) (Z : NCs s) (hst : l.stackTraces = false) (hX : va_X b L xs s s.heap) (hbl : b < s.heap.size) (hbA : ¬ A b) (hL : L ≤ 2048) (hiL : i0 + 4 ≤ L) (e1 : (xs (i0 + 1)).toInt = y1) (e2 : (xs (i0 + 2)).toInt = y2) (e3 : (xs (i0 + 3)).toInt = y3) (hW : Wd D cy ad nm nv σ H) (hS : va_S A s.heap H locs) (hl : lv_has ls 7 [(0, .ref b), (1, .ref (ad 0)), (2, .ref (ad 230)), (3, .ref (ad 290)), (4, .int (i32 (i0 : Int)))]) (hce : cells + 2 ≤ 601024) (hsl : slots + 12 ≤ 7293034) (hk : fL_erase n σ y1 = some (k, σ1)) (hm : fX6_erase n σ1 y1 = some (v, σ2)) (ht : fX6_thrown σ2 = some k) (ho : k = 0 → (σ2 290 0) = v) (kk : ∀ (H1 : Heap) (locs1 : List Loc) (ls1 : Array Slot), Wd D cy ad nm nv σ2 H1 → va_S A s.heap H1 locs1 → lv_has ls1 7 [(0, .ref b), (1, .ref (ad 0)), (2, .ref (ad 230)), (3, .ref (ad 290)), (4, .int (i32 (i0 : Int)))] → W p l e room_1 s m args below meth c H1 locs1 (cells + 2) (slots + 12) Q (F0 m 3020 ls1 [])) : W p l e room_1 s m args below meth c H locs cells slots Q (F0 m 350 ls []) := by
  have hx := X.1
  have hb := X.2.1
  have hi0 : inR (i0 : Int) := ⟨by omega, by omega⟩
  have hy1 : inR y1 := by rw [← e1]; exact i32_inR _
  have hy2 : inR y2 := by rw [← e2]; exact i32_inR _
  have hy3 : inR y3 := by rw [← e3]; exact i32_inR _
  refine lv_aload_n hx hb dL_law_350 rfl (lv_at hl 1 rfl) ?_
  refine lv_aload_n hx hb dL_law_351 rfl (lv_at hl 0 rfl) ?_
  refine lv_iload hx hb dL_law_352 (lv_at hl 4 rfl) ?_
  refine m_const (v := 1) hx hb dL_law_354 rfl ?_
  refine m_add hx hb dL_law_355 ?_
  refine m_sld (j := i0 + 1) hx hb hX hbl hbA hS (by omega) hL (by omega) e1 dL_law_356 ?_
  refine lv_aload_n hx hb dL_law_357 rfl (lv_at hl 3 rfl) ?_
  refine l_callS (As := [.ref (ad 0), .int (i32 y1), .ref (ad 290)]) (rest := []) (κ := fun v q => some (v, q)) (r := (k, σ1)) X Y Z hW hS hl.1 cw_L_erase hdn_L_erase ⟨rfl, rfl, (Nat.le_of_ble_eq_true rfl), (Nat.le_of_ble_eq_true rfl)⟩ (fun v σ2 q => ok_L_erase hy1 q hst) (by rw [hk]; rfl) rfl rfl (Nat.le_of_ble_eq_true rfl) dL_law_358 ⟨hce, hsl⟩ (fun v s1 H locs hv hW1 hS1 hf => ?_)
  cases hf
  refine lv_istore (lv' := [(5, .int (i32 k)), (0, .ref b), (1, .ref (ad 0)), (2, .ref (ad 230)), (3, .ref (ad 290)), (4, .int (i32 (i0 : Int)))]) hx hb dL_law_361 hl (by decide) rfl (fun ls hl => ?_)
  refine lv_aload_n hx hb dL_law_363 rfl (lv_at hl 3 rfl) ?_
  refine lv_aload_n hx hb dL_law_364 rfl (lv_at hl 1 rfl) ?_
  refine lv_iload hx hb dL_law_365 (lv_at hl 5 rfl) ?_
  refine m_const (v := 1) hx hb dL_law_367 rfl ?_
  refine m_add hx hb dL_law_368 ?_
  refine m_sld (j := i0 + 1) hx hb hX hbl hbA hS1 (by omega) hL (by omega) e1 dL_law_369 ?_
  refine m_callVi (z := false) (As := [.int (i32 y1)]) (rest := []) (k := fun v q => some (v, q)) (r := (v, σ2)) X hW1 hS1 hl.1 gc_L_170 hd_X6_erase ⟨rfl, rfl, (Nat.le_of_ble_eq_true rfl), (Nat.le_of_ble_eq_true rfl)⟩ (rc_X6 X hW1) (fun v s2 q => ok_X6_erase hy1 q) (by rw [hm]; rfl) rfl rfl (Nat.le_of_ble_eq_true rfl) dL_law_370 ⟨hce, hsl⟩ (fun w s2 H locs hv2 z2 hW2 hS2 hf => ?_)
  cases hf
  refine lv_istore (lv' := [(6, .int (i32 v)), (5, .int (i32 k)), (0, .ref b), (1, .ref (ad 0)), (2, .ref (ad 230)), (3, .ref (ad 290)), (4, .int (i32 (i0 : Int)))]) hx hb dL_law_373 hl (by decide) rfl (fun ls hl => ?_)
  refine lv_aload_n hx hb dL_law_375 rfl (lv_at hl 4 rfl) ?_
  refine m_callVi1 (z := false) (As := []) (rest := []) (k := fun v => some v) (r := k) X hW2 hS2 hl.1 gc_L_160 hd_X6_thrown ⟨rfl, rfl, (Nat.le_of_ble_eq_true rfl), (Nat.le_of_ble_eq_true rfl)⟩ (rc_X6 X hW2) (fun v q => ok_X6_thrown  q) (by rw [ht]; rfl) rfl rfl (Nat.le_of_ble_eq_true rfl) dL_law_376 ⟨hce, hsl⟩ (fun v H locs hv3 z3 hW3 hS3 hf => ?_)
  cases hf
  refine lv_iload hx hb dL_law_379 (lv_at hl 1 rfl) ?_
  refine lv_icmp_eq (tgt := 386) hx hb dL_law_381 (by decide) (fun _ => ?_) (fun q => absurd rfl q)
  refine lv_iload hx hb dL_law_386 (lv_at hl 1 rfl) ?_
  refine lv_if_ne (tgt := 403) hx hb dL_law_388 (by decide) (fun qk => ?_) (fun qk => ?_)
  · refine lv_goto (tgt := 3020) hx hb dL_law_403 (by decide) ?_
    exact kk _ _ _ hW3 hS3 (lv_sub hl [2, 3, 4, 5, 6] rfl)
  · have qk := (i32_eq hv z0).mp qk
    refine lv_aload_n hx hb dL_law_391 rfl (lv_at hl 5 rfl) ?_
    refine m_const (v := 0) hx hb dL_law_392 rfl ?_
    refine m_lald X hW3 dL_law_393 ?_
    refine lv_iload hx hb dL_law_394 (lv_at hl 0 rfl) ?_
    refine m_i2l hx hb hv2 dL_law_396 ?_
    refine m_lcmp hx hb (hW3.2.1 _ _) hv2 dL_law_397 ?_
    refine lv_if_eq (tgt := 403) hx hb dL_law_398 (by decide) (fun _ => ?_) (fun q => absurd (by rw [ho qk]; unfold lcm; rw [if_neg (Int.lt_irrefl _), if_pos rfl]; rfl) q)
    refine lv_goto (tgt := 3020) hx hb dL_law_403 (by decide) ?_
    exact kk _ _ _ hW3 hS3 (lv_sub hl [2, 3, 4, 5, 6] rfl)
set_option maxRecDepth 100000 in
set_option maxHeartbeats 4000000 in
theorem case_moveTo {p : Program} {l : Launch} {e : Env} {s : State} {m : MethodId} {args : Array Value} {below : List Frame} {meth : Method} {c : Code} {H : Heap} {locs : List Loc} {cells slots : Nat} {Q : State → Prop} {D : va_G} {cy : Nat → ClassId} {ad : Nat → Nat} {nm nv : Nat} {A : Nat → Prop} {σ : St} {ls : Array Slot} {b L i0 : Nat} {xs : Nat → Int32} {y1 y2 y3 k v : Int} {σ1 σ2 : St} {n : Nat} (X : Cx p s m args c cL_law 7 RL D cy ad nm nv A) (Y : TX A s) (Z : NCs s) (hst : l.stackTraces = false) (hX : va_X b L xs s s.heap) (hbl : b < s.heap.size) (hbA : ¬ A b) (hL : L ≤ 2048) (hiL : i0 + 4 ≤ L) (e1 : (xs (i0 + 1)).toInt = y1) (e2 : (xs (i0 + 2)).toInt = y2) (e3 : (xs (i0 + 3)).toInt = y3) (hW : Wd D cy ad nm nv σ H) (hS : va_S A s.heap H locs) (hl : lv_has ls 7 [(0, .ref b), (1, .ref (ad 0)), (2, .ref (ad 230)), (3, .ref (ad 290)), (4, .int (i32 (i0 : Int)))]) (hce : cells + 2 ≤ 601024) (hsl : slots + 12 ≤ 7293034) (hk : fL_moveTo n σ y1 y2 = some (k, σ1)) (hm : fX6_moveTo n σ1 y1 y2 = some (v, σ2)) (ht : fX6_thrown σ2 = some k) (ho : k = 0 → (σ2 290 0) = v) (kk : ∀ (H1 : Heap) (locs1 : List Loc) (ls1 : Array Slot), Wd D cy ad nm nv σ2 H1 → va_S A s.heap H1 locs1 → lv_has ls1 7 [(0, .ref b), (1, .ref (ad 0)), (2, .ref (ad 230)), (3, .ref (ad 290)), (4, .int (i32 (i0 : Int)))] → W p l e room_1 s m args below meth c H1 locs1 (cells + 2) (slots + 12) Q (F0 m 3020 ls1 [])) : W p l e room_1 s m args below meth c H locs cells slots Q (F0 m 406 ls []) := by
  have hx := X.1
  have hb := X.2.1
  have hi0 : inR (i0 : Int) := ⟨by omega, by omega⟩
  have hy1 : inR y1 := by rw [← e1]; exact i32_inR _
  have hy2 : inR y2 := by rw [← e2]; exact i32_inR _
  have hy3 : inR y3 := by rw [← e3]; exact i32_inR _
  refine lv_aload_n hx hb dL_law_406 rfl (lv_at hl 1 rfl) ?_
  refine lv_aload_n hx hb dL_law_407 rfl (lv_at hl 0 rfl) ?_
  refine lv_iload hx hb dL_law_408 (lv_at hl 4 rfl) ?_
  refine m_const (v := 1) hx hb dL_law_410 rfl ?_
  refine m_add hx hb dL_law_411 ?_
  refine m_sld (j := i0 + 1) hx hb hX hbl hbA hS (by omega) hL (by omega) e1 dL_law_412 ?_
  refine lv_aload_n hx hb dL_law_413 rfl (lv_at hl 0 rfl) ?_
  refine lv_iload hx hb dL_law_414 (lv_at hl 4 rfl) ?_
  refine m_const (v := 2) hx hb dL_law_416 rfl ?_
  refine m_add hx hb dL_law_417 ?_
  refine m_sld (j := i0 + 2) hx hb hX hbl hbA hS (by omega) hL (by omega) e2 dL_law_418 ?_
  refine lv_aload_n hx hb dL_law_419 rfl (lv_at hl 3 rfl) ?_
  refine l_callS (As := [.ref (ad 0), .int (i32 y1), .int (i32 y2), .ref (ad 290)]) (rest := []) (κ := fun v q => some (v, q)) (r := (k, σ1)) X Y Z hW hS hl.1 cw_L_moveTo hdn_L_moveTo ⟨rfl, rfl, (Nat.le_of_ble_eq_true rfl), (Nat.le_of_ble_eq_true rfl)⟩ (fun v σ2 q => ok_L_moveTo hy1 hy2 q hst) (by rw [hk]; rfl) rfl rfl (Nat.le_of_ble_eq_true rfl) dL_law_420 ⟨hce, hsl⟩ (fun v s1 H locs hv hW1 hS1 hf => ?_)
  cases hf
  refine lv_istore (lv' := [(5, .int (i32 k)), (0, .ref b), (1, .ref (ad 0)), (2, .ref (ad 230)), (3, .ref (ad 290)), (4, .int (i32 (i0 : Int)))]) hx hb dL_law_423 hl (by decide) rfl (fun ls hl => ?_)
  refine lv_aload_n hx hb dL_law_425 rfl (lv_at hl 3 rfl) ?_
  refine lv_aload_n hx hb dL_law_426 rfl (lv_at hl 1 rfl) ?_
  refine lv_iload hx hb dL_law_427 (lv_at hl 5 rfl) ?_
  refine m_const (v := 1) hx hb dL_law_429 rfl ?_
  refine m_add hx hb dL_law_430 ?_
  refine m_sld (j := i0 + 1) hx hb hX hbl hbA hS1 (by omega) hL (by omega) e1 dL_law_431 ?_
  refine lv_aload_n hx hb dL_law_432 rfl (lv_at hl 1 rfl) ?_
  refine lv_iload hx hb dL_law_433 (lv_at hl 5 rfl) ?_
  refine m_const (v := 2) hx hb dL_law_435 rfl ?_
  refine m_add hx hb dL_law_436 ?_
  refine m_sld (j := i0 + 2) hx hb hX hbl hbA hS1 (by omega) hL (by omega) e2 dL_law_437 ?_
  refine m_callVi (z := false) (As := [.int (i32 y1), .int (i32 y2)]) (rest := []) (k := fun v q => some (v, q)) (r := (v, σ2)) X hW1 hS1 hl.1 gc_L_174 hd_X6_moveTo ⟨rfl, rfl, (Nat.le_of_ble_eq_true rfl), (Nat.le_of_ble_eq_true rfl)⟩ (rc_X6 X hW1) (fun v s2 q => ok_X6_moveTo hy1 hy2 q) (by rw [hm]; rfl) rfl rfl (Nat.le_of_ble_eq_true rfl) dL_law_438 ⟨hce, hsl⟩ (fun w s2 H locs hv2 z2 hW2 hS2 hf => ?_)
  cases hf
  refine lv_istore (lv' := [(6, .int (i32 v)), (5, .int (i32 k)), (0, .ref b), (1, .ref (ad 0)), (2, .ref (ad 230)), (3, .ref (ad 290)), (4, .int (i32 (i0 : Int)))]) hx hb dL_law_441 hl (by decide) rfl (fun ls hl => ?_)
  refine lv_aload_n hx hb dL_law_443 rfl (lv_at hl 4 rfl) ?_
  refine m_callVi1 (z := false) (As := []) (rest := []) (k := fun v => some v) (r := k) X hW2 hS2 hl.1 gc_L_160 hd_X6_thrown ⟨rfl, rfl, (Nat.le_of_ble_eq_true rfl), (Nat.le_of_ble_eq_true rfl)⟩ (rc_X6 X hW2) (fun v q => ok_X6_thrown  q) (by rw [ht]; rfl) rfl rfl (Nat.le_of_ble_eq_true rfl) dL_law_444 ⟨hce, hsl⟩ (fun v H locs hv3 z3 hW3 hS3 hf => ?_)
  cases hf
  refine lv_iload hx hb dL_law_447 (lv_at hl 1 rfl) ?_
  refine lv_icmp_eq (tgt := 454) hx hb dL_law_449 (by decide) (fun _ => ?_) (fun q => absurd rfl q)
  refine lv_iload hx hb dL_law_454 (lv_at hl 1 rfl) ?_
  refine lv_if_ne (tgt := 471) hx hb dL_law_456 (by decide) (fun qk => ?_) (fun qk => ?_)
  · refine lv_goto (tgt := 3020) hx hb dL_law_471 (by decide) ?_
    exact kk _ _ _ hW3 hS3 (lv_sub hl [2, 3, 4, 5, 6] rfl)
  · have qk := (i32_eq hv z0).mp qk
    refine lv_aload_n hx hb dL_law_459 rfl (lv_at hl 5 rfl) ?_
    refine m_const (v := 0) hx hb dL_law_460 rfl ?_
    refine m_lald X hW3 dL_law_461 ?_
    refine lv_iload hx hb dL_law_462 (lv_at hl 0 rfl) ?_
    refine m_i2l hx hb hv2 dL_law_464 ?_
    refine m_lcmp hx hb (hW3.2.1 _ _) hv2 dL_law_465 ?_
    refine lv_if_eq (tgt := 471) hx hb dL_law_466 (by decide) (fun _ => ?_) (fun q => absurd (by rw [ho qk]; unfold lcm; rw [if_neg (Int.lt_irrefl _), if_pos rfl]; rfl) q)
    refine lv_goto (tgt := 3020) hx hb dL_law_471 (by decide) ?_
    exact kk _ _ _ hW3 hS3 (lv_sub hl [2, 3, 4, 5, 6] rfl)
set_option maxRecDepth 100000 in
set_option maxHeartbeats 4000000 in
theorem case_extend {p : Program} {l : Launch} {e : Env} {s : State} {m : MethodId} {args : Array Value} {below : List Frame} {meth : Method} {c : Code} {H : Heap} {locs : List Loc} {cells slots : Nat} {Q : State → Prop} {D : va_G} {cy : Nat → ClassId} {ad : Nat → Nat} {nm nv : Nat} {A : Nat → Prop} {σ : St} {ls : Array Slot} {b L i0 : Nat} {xs : Nat → Int32} {y1 y2 y3 k v : Int} {σ1 σ2 : St} {n : Nat} (X : Cx p s m args c cL_law 7 RL D cy ad nm nv A) (Y : TX A s) (Z : NCs s) (hst : l.stackTraces = false) (hX : va_X b L xs s s.heap) (hbl : b < s.heap.size) (hbA : ¬ A b) (hL : L ≤ 2048) (hiL : i0 + 4 ≤ L) (e1 : (xs (i0 + 1)).toInt = y1) (e2 : (xs (i0 + 2)).toInt = y2) (e3 : (xs (i0 + 3)).toInt = y3) (hW : Wd D cy ad nm nv σ H) (hS : va_S A s.heap H locs) (hl : lv_has ls 7 [(0, .ref b), (1, .ref (ad 0)), (2, .ref (ad 230)), (3, .ref (ad 290)), (4, .int (i32 (i0 : Int)))]) (hce : cells + 2 ≤ 601024) (hsl : slots + 12 ≤ 7293034) (hk : fL_extend n σ y1 y2 = some (k, σ1)) (hm : fX6_extend n σ1 y1 y2 = some (v, σ2)) (ht : fX6_thrown σ2 = some k) (ho : k = 0 → (σ2 290 0) = v) (kk : ∀ (H1 : Heap) (locs1 : List Loc) (ls1 : Array Slot), Wd D cy ad nm nv σ2 H1 → va_S A s.heap H1 locs1 → lv_has ls1 7 [(0, .ref b), (1, .ref (ad 0)), (2, .ref (ad 230)), (3, .ref (ad 290)), (4, .int (i32 (i0 : Int)))] → W p l e room_1 s m args below meth c H1 locs1 (cells + 2) (slots + 12) Q (F0 m 3020 ls1 [])) : W p l e room_1 s m args below meth c H locs cells slots Q (F0 m 474 ls []) := by
  have hx := X.1
  have hb := X.2.1
  have hi0 : inR (i0 : Int) := ⟨by omega, by omega⟩
  have hy1 : inR y1 := by rw [← e1]; exact i32_inR _
  have hy2 : inR y2 := by rw [← e2]; exact i32_inR _
  have hy3 : inR y3 := by rw [← e3]; exact i32_inR _
  refine lv_aload_n hx hb dL_law_474 rfl (lv_at hl 1 rfl) ?_
  refine lv_aload_n hx hb dL_law_475 rfl (lv_at hl 0 rfl) ?_
  refine lv_iload hx hb dL_law_476 (lv_at hl 4 rfl) ?_
  refine m_const (v := 1) hx hb dL_law_478 rfl ?_
  refine m_add hx hb dL_law_479 ?_
  refine m_sld (j := i0 + 1) hx hb hX hbl hbA hS (by omega) hL (by omega) e1 dL_law_480 ?_
  refine lv_aload_n hx hb dL_law_481 rfl (lv_at hl 0 rfl) ?_
  refine lv_iload hx hb dL_law_482 (lv_at hl 4 rfl) ?_
  refine m_const (v := 2) hx hb dL_law_484 rfl ?_
  refine m_add hx hb dL_law_485 ?_
  refine m_sld (j := i0 + 2) hx hb hX hbl hbA hS (by omega) hL (by omega) e2 dL_law_486 ?_
  refine lv_aload_n hx hb dL_law_487 rfl (lv_at hl 3 rfl) ?_
  refine l_callS (As := [.ref (ad 0), .int (i32 y1), .int (i32 y2), .ref (ad 290)]) (rest := []) (κ := fun v q => some (v, q)) (r := (k, σ1)) X Y Z hW hS hl.1 cw_L_extend hdn_L_extend ⟨rfl, rfl, (Nat.le_of_ble_eq_true rfl), (Nat.le_of_ble_eq_true rfl)⟩ (fun v σ2 q => ok_L_extend hy1 hy2 q hst) (by rw [hk]; rfl) rfl rfl (Nat.le_of_ble_eq_true rfl) dL_law_488 ⟨hce, hsl⟩ (fun v s1 H locs hv hW1 hS1 hf => ?_)
  cases hf
  refine lv_istore (lv' := [(5, .int (i32 k)), (0, .ref b), (1, .ref (ad 0)), (2, .ref (ad 230)), (3, .ref (ad 290)), (4, .int (i32 (i0 : Int)))]) hx hb dL_law_491 hl (by decide) rfl (fun ls hl => ?_)
  refine lv_aload_n hx hb dL_law_493 rfl (lv_at hl 3 rfl) ?_
  refine lv_aload_n hx hb dL_law_494 rfl (lv_at hl 1 rfl) ?_
  refine lv_iload hx hb dL_law_495 (lv_at hl 5 rfl) ?_
  refine m_const (v := 1) hx hb dL_law_497 rfl ?_
  refine m_add hx hb dL_law_498 ?_
  refine m_sld (j := i0 + 1) hx hb hX hbl hbA hS1 (by omega) hL (by omega) e1 dL_law_499 ?_
  refine lv_aload_n hx hb dL_law_500 rfl (lv_at hl 1 rfl) ?_
  refine lv_iload hx hb dL_law_501 (lv_at hl 5 rfl) ?_
  refine m_const (v := 2) hx hb dL_law_503 rfl ?_
  refine m_add hx hb dL_law_504 ?_
  refine m_sld (j := i0 + 2) hx hb hX hbl hbA hS1 (by omega) hL (by omega) e2 dL_law_505 ?_
  refine m_callVi (z := false) (As := [.int (i32 y1), .int (i32 y2)]) (rest := []) (k := fun v q => some (v, q)) (r := (v, σ2)) X hW1 hS1 hl.1 gc_L_177 hd_X6_extend ⟨rfl, rfl, (Nat.le_of_ble_eq_true rfl), (Nat.le_of_ble_eq_true rfl)⟩ (rc_X6 X hW1) (fun v s2 q => ok_X6_extend hy1 hy2 q) (by rw [hm]; rfl) rfl rfl (Nat.le_of_ble_eq_true rfl) dL_law_506 ⟨hce, hsl⟩ (fun w s2 H locs hv2 z2 hW2 hS2 hf => ?_)
  cases hf
  refine lv_istore (lv' := [(6, .int (i32 v)), (5, .int (i32 k)), (0, .ref b), (1, .ref (ad 0)), (2, .ref (ad 230)), (3, .ref (ad 290)), (4, .int (i32 (i0 : Int)))]) hx hb dL_law_509 hl (by decide) rfl (fun ls hl => ?_)
  refine lv_aload_n hx hb dL_law_511 rfl (lv_at hl 4 rfl) ?_
  refine m_callVi1 (z := false) (As := []) (rest := []) (k := fun v => some v) (r := k) X hW2 hS2 hl.1 gc_L_160 hd_X6_thrown ⟨rfl, rfl, (Nat.le_of_ble_eq_true rfl), (Nat.le_of_ble_eq_true rfl)⟩ (rc_X6 X hW2) (fun v q => ok_X6_thrown  q) (by rw [ht]; rfl) rfl rfl (Nat.le_of_ble_eq_true rfl) dL_law_512 ⟨hce, hsl⟩ (fun v H locs hv3 z3 hW3 hS3 hf => ?_)
  cases hf
  refine lv_iload hx hb dL_law_515 (lv_at hl 1 rfl) ?_
  refine lv_icmp_eq (tgt := 522) hx hb dL_law_517 (by decide) (fun _ => ?_) (fun q => absurd rfl q)
  refine lv_iload hx hb dL_law_522 (lv_at hl 1 rfl) ?_
  refine lv_if_ne (tgt := 539) hx hb dL_law_524 (by decide) (fun qk => ?_) (fun qk => ?_)
  · refine lv_goto (tgt := 3020) hx hb dL_law_539 (by decide) ?_
    exact kk _ _ _ hW3 hS3 (lv_sub hl [2, 3, 4, 5, 6] rfl)
  · have qk := (i32_eq hv z0).mp qk
    refine lv_aload_n hx hb dL_law_527 rfl (lv_at hl 5 rfl) ?_
    refine m_const (v := 0) hx hb dL_law_528 rfl ?_
    refine m_lald X hW3 dL_law_529 ?_
    refine lv_iload hx hb dL_law_530 (lv_at hl 0 rfl) ?_
    refine m_i2l hx hb hv2 dL_law_532 ?_
    refine m_lcmp hx hb (hW3.2.1 _ _) hv2 dL_law_533 ?_
    refine lv_if_eq (tgt := 539) hx hb dL_law_534 (by decide) (fun _ => ?_) (fun q => absurd (by rw [ho qk]; unfold lcm; rw [if_neg (Int.lt_irrefl _), if_pos rfl]; rfl) q)
    refine lv_goto (tgt := 3020) hx hb dL_law_539 (by decide) ?_
    exact kk _ _ _ hW3 hS3 (lv_sub hl [2, 3, 4, 5, 6] rfl)
set_option maxRecDepth 100000 in
set_option maxHeartbeats 4000000 in
theorem case_mark {p : Program} {l : Launch} {e : Env} {s : State} {m : MethodId} {args : Array Value} {below : List Frame} {meth : Method} {c : Code} {H : Heap} {locs : List Loc} {cells slots : Nat} {Q : State → Prop} {D : va_G} {cy : Nat → ClassId} {ad : Nat → Nat} {nm nv : Nat} {A : Nat → Prop} {σ : St} {ls : Array Slot} {b L i0 : Nat} {xs : Nat → Int32} {y1 y2 y3 k v : Int} {σ1 σ2 : St} {n : Nat} (X : Cx p s m args c cL_law 7 RL D cy ad nm nv A) (Y : TX A s) (Z : NCs s) (hst : l.stackTraces = false) (hX : va_X b L xs s s.heap) (hbl : b < s.heap.size) (hbA : ¬ A b) (hL : L ≤ 2048) (hiL : i0 + 4 ≤ L) (e1 : (xs (i0 + 1)).toInt = y1) (e2 : (xs (i0 + 2)).toInt = y2) (e3 : (xs (i0 + 3)).toInt = y3) (hW : Wd D cy ad nm nv σ H) (hS : va_S A s.heap H locs) (hl : lv_has ls 7 [(0, .ref b), (1, .ref (ad 0)), (2, .ref (ad 230)), (3, .ref (ad 290)), (4, .int (i32 (i0 : Int)))]) (hce : cells + 3 ≤ 601024) (hsl : slots + 18 ≤ 7293034) (hk : fL_mark n σ y1 y2 (nz y3) = some (k, σ1)) (hm : fX6_mark n σ1 y1 y2 (nz y3) = some (v, σ2)) (ht : fX6_thrown σ2 = some k) (ho : k = 0 → (σ2 290 0) = v) (kk : ∀ (H1 : Heap) (locs1 : List Loc) (ls1 : Array Slot), Wd D cy ad nm nv σ2 H1 → va_S A s.heap H1 locs1 → lv_has ls1 7 [(0, .ref b), (1, .ref (ad 0)), (2, .ref (ad 230)), (3, .ref (ad 290)), (4, .int (i32 (i0 : Int)))] → W p l e room_1 s m args below meth c H1 locs1 (cells + 3) (slots + 18) Q (F0 m 3020 ls1 [])) : W p l e room_1 s m args below meth c H locs cells slots Q (F0 m 542 ls []) := by
  have hx := X.1
  have hb := X.2.1
  have hi0 : inR (i0 : Int) := ⟨by omega, by omega⟩
  have hy1 : inR y1 := by rw [← e1]; exact i32_inR _
  have hy2 : inR y2 := by rw [← e2]; exact i32_inR _
  have hy3 : inR y3 := by rw [← e3]; exact i32_inR _
  refine lv_aload_n hx hb dL_law_542 rfl (lv_at hl 1 rfl) ?_
  refine lv_aload_n hx hb dL_law_543 rfl (lv_at hl 0 rfl) ?_
  refine lv_iload hx hb dL_law_544 (lv_at hl 4 rfl) ?_
  refine m_const (v := 1) hx hb dL_law_546 rfl ?_
  refine m_add hx hb dL_law_547 ?_
  refine m_sld (j := i0 + 1) hx hb hX hbl hbA hS (by omega) hL (by omega) e1 dL_law_548 ?_
  refine lv_aload_n hx hb dL_law_549 rfl (lv_at hl 0 rfl) ?_
  refine lv_iload hx hb dL_law_550 (lv_at hl 4 rfl) ?_
  refine m_const (v := 2) hx hb dL_law_552 rfl ?_
  refine m_add hx hb dL_law_553 ?_
  refine m_sld (j := i0 + 2) hx hb hX hbl hbA hS (by omega) hL (by omega) e2 dL_law_554 ?_
  refine lv_aload_n hx hb dL_law_555 rfl (lv_at hl 0 rfl) ?_
  refine lv_iload hx hb dL_law_556 (lv_at hl 4 rfl) ?_
  refine m_const (v := 3) hx hb dL_law_558 rfl ?_
  refine m_add hx hb dL_law_559 ?_
  refine m_sld (j := i0 + 3) hx hb hX hbl hbA hS (by omega) hL (by omega) e3 dL_law_560 ?_
  refine m_nz hx hb hy3 dL_law_561 dL_law_564 dL_law_565 dL_law_568 ?_
  refine lv_aload_n hx hb dL_law_569 rfl (lv_at hl 3 rfl) ?_
  refine l_callS (As := [.ref (ad 0), .int (i32 y1), .int (i32 y2), .int (i32 (nz y3)), .ref (ad 290)]) (rest := []) (κ := fun v q => some (v, q)) (r := (k, σ1)) X Y Z hW hS hl.1 cw_L_mark hdn_L_mark ⟨rfl, rfl, (Nat.le_of_ble_eq_true rfl), (Nat.le_of_ble_eq_true rfl)⟩ (fun v σ2 q => ok_L_mark hy1 hy2 (nz_inR _) q hst) (by rw [hk]; rfl) rfl rfl (Nat.le_of_ble_eq_true rfl) dL_law_570 ⟨hce, hsl⟩ (fun v s1 H locs hv hW1 hS1 hf => ?_)
  cases hf
  refine lv_istore (lv' := [(5, .int (i32 k)), (0, .ref b), (1, .ref (ad 0)), (2, .ref (ad 230)), (3, .ref (ad 290)), (4, .int (i32 (i0 : Int)))]) hx hb dL_law_573 hl (by decide) rfl (fun ls hl => ?_)
  refine lv_aload_n hx hb dL_law_575 rfl (lv_at hl 3 rfl) ?_
  refine lv_aload_n hx hb dL_law_576 rfl (lv_at hl 1 rfl) ?_
  refine lv_iload hx hb dL_law_577 (lv_at hl 5 rfl) ?_
  refine m_const (v := 1) hx hb dL_law_579 rfl ?_
  refine m_add hx hb dL_law_580 ?_
  refine m_sld (j := i0 + 1) hx hb hX hbl hbA hS1 (by omega) hL (by omega) e1 dL_law_581 ?_
  refine lv_aload_n hx hb dL_law_582 rfl (lv_at hl 1 rfl) ?_
  refine lv_iload hx hb dL_law_583 (lv_at hl 5 rfl) ?_
  refine m_const (v := 2) hx hb dL_law_585 rfl ?_
  refine m_add hx hb dL_law_586 ?_
  refine m_sld (j := i0 + 2) hx hb hX hbl hbA hS1 (by omega) hL (by omega) e2 dL_law_587 ?_
  refine lv_aload_n hx hb dL_law_588 rfl (lv_at hl 1 rfl) ?_
  refine lv_iload hx hb dL_law_589 (lv_at hl 5 rfl) ?_
  refine m_const (v := 3) hx hb dL_law_591 rfl ?_
  refine m_add hx hb dL_law_592 ?_
  refine m_sld (j := i0 + 3) hx hb hX hbl hbA hS1 (by omega) hL (by omega) e3 dL_law_593 ?_
  refine m_nz hx hb hy3 dL_law_594 dL_law_597 dL_law_598 dL_law_601 ?_
  refine m_callVi (z := false) (As := [.int (i32 y1), .int (i32 y2), .int (i32 (nz y3))]) (rest := []) (k := fun v q => some (v, q)) (r := (v, σ2)) X hW1 hS1 hl.1 gc_L_181 hd_X6_mark ⟨rfl, rfl, (Nat.le_of_ble_eq_true rfl), (Nat.le_of_ble_eq_true rfl)⟩ (rc_X6 X hW1) (fun v s2 q => ok_X6_mark hy1 hy2 (nz_inR _) q) (by rw [hm]; rfl) rfl rfl (Nat.le_of_ble_eq_true rfl) dL_law_602 ⟨hce, hsl⟩ (fun w s2 H locs hv2 z2 hW2 hS2 hf => ?_)
  cases hf
  refine lv_istore (lv' := [(6, .int (i32 v)), (5, .int (i32 k)), (0, .ref b), (1, .ref (ad 0)), (2, .ref (ad 230)), (3, .ref (ad 290)), (4, .int (i32 (i0 : Int)))]) hx hb dL_law_605 hl (by decide) rfl (fun ls hl => ?_)
  refine lv_aload_n hx hb dL_law_607 rfl (lv_at hl 4 rfl) ?_
  refine m_callVi1 (z := false) (As := []) (rest := []) (k := fun v => some v) (r := k) X hW2 hS2 hl.1 gc_L_160 hd_X6_thrown ⟨rfl, rfl, (Nat.le_of_ble_eq_true rfl), (Nat.le_of_ble_eq_true rfl)⟩ (rc_X6 X hW2) (fun v q => ok_X6_thrown  q) (by rw [ht]; rfl) rfl rfl (Nat.le_of_ble_eq_true rfl) dL_law_608 ⟨hce, hsl⟩ (fun v H locs hv3 z3 hW3 hS3 hf => ?_)
  cases hf
  refine lv_iload hx hb dL_law_611 (lv_at hl 1 rfl) ?_
  refine lv_icmp_eq (tgt := 618) hx hb dL_law_613 (by decide) (fun _ => ?_) (fun q => absurd rfl q)
  refine lv_iload hx hb dL_law_618 (lv_at hl 1 rfl) ?_
  refine lv_if_ne (tgt := 635) hx hb dL_law_620 (by decide) (fun qk => ?_) (fun qk => ?_)
  · refine lv_goto (tgt := 3020) hx hb dL_law_635 (by decide) ?_
    exact kk _ _ _ hW3 hS3 (lv_sub hl [2, 3, 4, 5, 6] rfl)
  · have qk := (i32_eq hv z0).mp qk
    refine lv_aload_n hx hb dL_law_623 rfl (lv_at hl 5 rfl) ?_
    refine m_const (v := 0) hx hb dL_law_624 rfl ?_
    refine m_lald X hW3 dL_law_625 ?_
    refine lv_iload hx hb dL_law_626 (lv_at hl 0 rfl) ?_
    refine m_i2l hx hb hv2 dL_law_628 ?_
    refine m_lcmp hx hb (hW3.2.1 _ _) hv2 dL_law_629 ?_
    refine lv_if_eq (tgt := 635) hx hb dL_law_630 (by decide) (fun _ => ?_) (fun q => absurd (by rw [ho qk]; unfold lcm; rw [if_neg (Int.lt_irrefl _), if_pos rfl]; rfl) q)
    refine lv_goto (tgt := 3020) hx hb dL_law_635 (by decide) ?_
    exact kk _ _ _ hW3 hS3 (lv_sub hl [2, 3, 4, 5, 6] rfl)
set_option maxRecDepth 100000 in
set_option maxHeartbeats 4000000 in
theorem case_comment {p : Program} {l : Launch} {e : Env} {s : State} {m : MethodId} {args : Array Value} {below : List Frame} {meth : Method} {c : Code} {H : Heap} {locs : List Loc} {cells slots : Nat} {Q : State → Prop} {D : va_G} {cy : Nat → ClassId} {ad : Nat → Nat} {nm nv : Nat} {A : Nat → Prop} {σ : St} {ls : Array Slot} {b L i0 : Nat} {xs : Nat → Int32} {y1 y2 y3 k v : Int} {σ1 σ2 : St} {n : Nat} (X : Cx p s m args c cL_law 7 RL D cy ad nm nv A) (Y : TX A s) (Z : NCs s) (hst : l.stackTraces = false) (hX : va_X b L xs s s.heap) (hbl : b < s.heap.size) (hbA : ¬ A b) (hL : L ≤ 2048) (hiL : i0 + 4 ≤ L) (e1 : (xs (i0 + 1)).toInt = y1) (e2 : (xs (i0 + 2)).toInt = y2) (e3 : (xs (i0 + 3)).toInt = y3) (hW : Wd D cy ad nm nv σ H) (hS : va_S A s.heap H locs) (hl : lv_has ls 7 [(0, .ref b), (1, .ref (ad 0)), (2, .ref (ad 230)), (3, .ref (ad 290)), (4, .int (i32 (i0 : Int)))]) (hce : cells + 2 ≤ 601024) (hsl : slots + 12 ≤ 7293034) (hk : fL_comment n σ y1 = some (k, σ1)) (hm : fX6_comment n σ1 y1 = some (v, σ2)) (ht : fX6_thrown σ2 = some k) (ho : k = 0 → (σ2 290 0) = v) (kk : ∀ (H1 : Heap) (locs1 : List Loc) (ls1 : Array Slot), Wd D cy ad nm nv σ2 H1 → va_S A s.heap H1 locs1 → lv_has ls1 7 [(0, .ref b), (1, .ref (ad 0)), (2, .ref (ad 230)), (3, .ref (ad 290)), (4, .int (i32 (i0 : Int)))] → W p l e room_1 s m args below meth c H1 locs1 (cells + 2) (slots + 12) Q (F0 m 3020 ls1 [])) : W p l e room_1 s m args below meth c H locs cells slots Q (F0 m 638 ls []) := by
  have hx := X.1
  have hb := X.2.1
  have hi0 : inR (i0 : Int) := ⟨by omega, by omega⟩
  have hy1 : inR y1 := by rw [← e1]; exact i32_inR _
  have hy2 : inR y2 := by rw [← e2]; exact i32_inR _
  have hy3 : inR y3 := by rw [← e3]; exact i32_inR _
  refine lv_aload_n hx hb dL_law_638 rfl (lv_at hl 1 rfl) ?_
  refine lv_aload_n hx hb dL_law_639 rfl (lv_at hl 0 rfl) ?_
  refine lv_iload hx hb dL_law_640 (lv_at hl 4 rfl) ?_
  refine m_const (v := 1) hx hb dL_law_642 rfl ?_
  refine m_add hx hb dL_law_643 ?_
  refine m_sld (j := i0 + 1) hx hb hX hbl hbA hS (by omega) hL (by omega) e1 dL_law_644 ?_
  refine lv_aload_n hx hb dL_law_645 rfl (lv_at hl 3 rfl) ?_
  refine l_callS (As := [.ref (ad 0), .int (i32 y1), .ref (ad 290)]) (rest := []) (κ := fun v q => some (v, q)) (r := (k, σ1)) X Y Z hW hS hl.1 cw_L_comment hdn_L_comment ⟨rfl, rfl, (Nat.le_of_ble_eq_true rfl), (Nat.le_of_ble_eq_true rfl)⟩ (fun v σ2 q => ok_L_comment hy1 q hst) (by rw [hk]; rfl) rfl rfl (Nat.le_of_ble_eq_true rfl) dL_law_646 ⟨hce, hsl⟩ (fun v s1 H locs hv hW1 hS1 hf => ?_)
  cases hf
  refine lv_istore (lv' := [(5, .int (i32 k)), (0, .ref b), (1, .ref (ad 0)), (2, .ref (ad 230)), (3, .ref (ad 290)), (4, .int (i32 (i0 : Int)))]) hx hb dL_law_649 hl (by decide) rfl (fun ls hl => ?_)
  refine lv_aload_n hx hb dL_law_651 rfl (lv_at hl 3 rfl) ?_
  refine lv_aload_n hx hb dL_law_652 rfl (lv_at hl 1 rfl) ?_
  refine lv_iload hx hb dL_law_653 (lv_at hl 5 rfl) ?_
  refine m_const (v := 1) hx hb dL_law_655 rfl ?_
  refine m_add hx hb dL_law_656 ?_
  refine m_sld (j := i0 + 1) hx hb hX hbl hbA hS1 (by omega) hL (by omega) e1 dL_law_657 ?_
  refine m_callVi (z := false) (As := [.int (i32 y1)]) (rest := []) (k := fun v q => some (v, q)) (r := (v, σ2)) X hW1 hS1 hl.1 gc_L_184 hd_X6_comment ⟨rfl, rfl, (Nat.le_of_ble_eq_true rfl), (Nat.le_of_ble_eq_true rfl)⟩ (rc_X6 X hW1) (fun v s2 q => ok_X6_comment hy1 q) (by rw [hm]; rfl) rfl rfl (Nat.le_of_ble_eq_true rfl) dL_law_658 ⟨hce, hsl⟩ (fun w s2 H locs hv2 z2 hW2 hS2 hf => ?_)
  cases hf
  refine lv_istore (lv' := [(6, .int (i32 v)), (5, .int (i32 k)), (0, .ref b), (1, .ref (ad 0)), (2, .ref (ad 230)), (3, .ref (ad 290)), (4, .int (i32 (i0 : Int)))]) hx hb dL_law_661 hl (by decide) rfl (fun ls hl => ?_)
  refine lv_aload_n hx hb dL_law_663 rfl (lv_at hl 4 rfl) ?_
  refine m_callVi1 (z := false) (As := []) (rest := []) (k := fun v => some v) (r := k) X hW2 hS2 hl.1 gc_L_160 hd_X6_thrown ⟨rfl, rfl, (Nat.le_of_ble_eq_true rfl), (Nat.le_of_ble_eq_true rfl)⟩ (rc_X6 X hW2) (fun v q => ok_X6_thrown  q) (by rw [ht]; rfl) rfl rfl (Nat.le_of_ble_eq_true rfl) dL_law_664 ⟨hce, hsl⟩ (fun v H locs hv3 z3 hW3 hS3 hf => ?_)
  cases hf
  refine lv_iload hx hb dL_law_667 (lv_at hl 1 rfl) ?_
  refine lv_icmp_eq (tgt := 674) hx hb dL_law_669 (by decide) (fun _ => ?_) (fun q => absurd rfl q)
  refine lv_iload hx hb dL_law_674 (lv_at hl 1 rfl) ?_
  refine lv_if_ne (tgt := 691) hx hb dL_law_676 (by decide) (fun qk => ?_) (fun qk => ?_)
  · refine lv_goto (tgt := 3020) hx hb dL_law_691 (by decide) ?_
    exact kk _ _ _ hW3 hS3 (lv_sub hl [2, 3, 4, 5, 6] rfl)
  · have qk := (i32_eq hv z0).mp qk
    refine lv_aload_n hx hb dL_law_679 rfl (lv_at hl 5 rfl) ?_
    refine m_const (v := 0) hx hb dL_law_680 rfl ?_
    refine m_lald X hW3 dL_law_681 ?_
    refine lv_iload hx hb dL_law_682 (lv_at hl 0 rfl) ?_
    refine m_i2l hx hb hv2 dL_law_684 ?_
    refine m_lcmp hx hb (hW3.2.1 _ _) hv2 dL_law_685 ?_
    refine lv_if_eq (tgt := 691) hx hb dL_law_686 (by decide) (fun _ => ?_) (fun q => absurd (by rw [ho qk]; unfold lcm; rw [if_neg (Int.lt_irrefl _), if_pos rfl]; rfl) q)
    refine lv_goto (tgt := 3020) hx hb dL_law_691 (by decide) ?_
    exact kk _ _ _ hW3 hS3 (lv_sub hl [2, 3, 4, 5, 6] rfl)
set_option maxRecDepth 100000 in
set_option maxHeartbeats 4000000 in
theorem case_setKind {p : Program} {l : Launch} {e : Env} {s : State} {m : MethodId} {args : Array Value} {below : List Frame} {meth : Method} {c : Code} {H : Heap} {locs : List Loc} {cells slots : Nat} {Q : State → Prop} {D : va_G} {cy : Nat → ClassId} {ad : Nat → Nat} {nm nv : Nat} {A : Nat → Prop} {σ : St} {ls : Array Slot} {b L i0 : Nat} {xs : Nat → Int32} {y1 y2 y3 k v : Int} {σ1 σ2 : St} {n : Nat} (X : Cx p s m args c cL_law 7 RL D cy ad nm nv A) (Y : TX A s) (Z : NCs s) (hst : l.stackTraces = false) (hX : va_X b L xs s s.heap) (hbl : b < s.heap.size) (hbA : ¬ A b) (hL : L ≤ 2048) (hiL : i0 + 4 ≤ L) (e1 : (xs (i0 + 1)).toInt = y1) (e2 : (xs (i0 + 2)).toInt = y2) (e3 : (xs (i0 + 3)).toInt = y3) (hW : Wd D cy ad nm nv σ H) (hS : va_S A s.heap H locs) (hl : lv_has ls 7 [(0, .ref b), (1, .ref (ad 0)), (2, .ref (ad 230)), (3, .ref (ad 290)), (4, .int (i32 (i0 : Int)))]) (hce : cells + 3 ≤ 601024) (hsl : slots + 18 ≤ 7293034) (hk : fL_setKind n σ y1 y2 y3 = some (k, σ1)) (hm : fX6_setKind n σ1 y1 y2 y3 = some (v, σ2)) (ht : fX6_thrown σ2 = some k) (ho : k = 0 → (σ2 290 0) = v) (kk : ∀ (H1 : Heap) (locs1 : List Loc) (ls1 : Array Slot), Wd D cy ad nm nv σ2 H1 → va_S A s.heap H1 locs1 → lv_has ls1 7 [(0, .ref b), (1, .ref (ad 0)), (2, .ref (ad 230)), (3, .ref (ad 290)), (4, .int (i32 (i0 : Int)))] → W p l e room_1 s m args below meth c H1 locs1 (cells + 3) (slots + 18) Q (F0 m 3020 ls1 [])) : W p l e room_1 s m args below meth c H locs cells slots Q (F0 m 694 ls []) := by
  have hx := X.1
  have hb := X.2.1
  have hi0 : inR (i0 : Int) := ⟨by omega, by omega⟩
  have hy1 : inR y1 := by rw [← e1]; exact i32_inR _
  have hy2 : inR y2 := by rw [← e2]; exact i32_inR _
  have hy3 : inR y3 := by rw [← e3]; exact i32_inR _
  refine lv_aload_n hx hb dL_law_694 rfl (lv_at hl 1 rfl) ?_
  refine lv_aload_n hx hb dL_law_695 rfl (lv_at hl 0 rfl) ?_
  refine lv_iload hx hb dL_law_696 (lv_at hl 4 rfl) ?_
  refine m_const (v := 1) hx hb dL_law_698 rfl ?_
  refine m_add hx hb dL_law_699 ?_
  refine m_sld (j := i0 + 1) hx hb hX hbl hbA hS (by omega) hL (by omega) e1 dL_law_700 ?_
  refine lv_aload_n hx hb dL_law_701 rfl (lv_at hl 0 rfl) ?_
  refine lv_iload hx hb dL_law_702 (lv_at hl 4 rfl) ?_
  refine m_const (v := 2) hx hb dL_law_704 rfl ?_
  refine m_add hx hb dL_law_705 ?_
  refine m_sld (j := i0 + 2) hx hb hX hbl hbA hS (by omega) hL (by omega) e2 dL_law_706 ?_
  refine lv_aload_n hx hb dL_law_707 rfl (lv_at hl 0 rfl) ?_
  refine lv_iload hx hb dL_law_708 (lv_at hl 4 rfl) ?_
  refine m_const (v := 3) hx hb dL_law_710 rfl ?_
  refine m_add hx hb dL_law_711 ?_
  refine m_sld (j := i0 + 3) hx hb hX hbl hbA hS (by omega) hL (by omega) e3 dL_law_712 ?_
  refine lv_aload_n hx hb dL_law_713 rfl (lv_at hl 3 rfl) ?_
  refine l_callS (As := [.ref (ad 0), .int (i32 y1), .int (i32 y2), .int (i32 y3), .ref (ad 290)]) (rest := []) (κ := fun v q => some (v, q)) (r := (k, σ1)) X Y Z hW hS hl.1 cw_L_setKind hdn_L_setKind ⟨rfl, rfl, (Nat.le_of_ble_eq_true rfl), (Nat.le_of_ble_eq_true rfl)⟩ (fun v σ2 q => ok_L_setKind hy1 hy2 hy3 q hst) (by rw [hk]; rfl) rfl rfl (Nat.le_of_ble_eq_true rfl) dL_law_714 ⟨hce, hsl⟩ (fun v s1 H locs hv hW1 hS1 hf => ?_)
  cases hf
  refine lv_istore (lv' := [(5, .int (i32 k)), (0, .ref b), (1, .ref (ad 0)), (2, .ref (ad 230)), (3, .ref (ad 290)), (4, .int (i32 (i0 : Int)))]) hx hb dL_law_717 hl (by decide) rfl (fun ls hl => ?_)
  refine lv_aload_n hx hb dL_law_719 rfl (lv_at hl 3 rfl) ?_
  refine lv_aload_n hx hb dL_law_720 rfl (lv_at hl 1 rfl) ?_
  refine lv_iload hx hb dL_law_721 (lv_at hl 5 rfl) ?_
  refine m_const (v := 1) hx hb dL_law_723 rfl ?_
  refine m_add hx hb dL_law_724 ?_
  refine m_sld (j := i0 + 1) hx hb hX hbl hbA hS1 (by omega) hL (by omega) e1 dL_law_725 ?_
  refine lv_aload_n hx hb dL_law_726 rfl (lv_at hl 1 rfl) ?_
  refine lv_iload hx hb dL_law_727 (lv_at hl 5 rfl) ?_
  refine m_const (v := 2) hx hb dL_law_729 rfl ?_
  refine m_add hx hb dL_law_730 ?_
  refine m_sld (j := i0 + 2) hx hb hX hbl hbA hS1 (by omega) hL (by omega) e2 dL_law_731 ?_
  refine lv_aload_n hx hb dL_law_732 rfl (lv_at hl 1 rfl) ?_
  refine lv_iload hx hb dL_law_733 (lv_at hl 5 rfl) ?_
  refine m_const (v := 3) hx hb dL_law_735 rfl ?_
  refine m_add hx hb dL_law_736 ?_
  refine m_sld (j := i0 + 3) hx hb hX hbl hbA hS1 (by omega) hL (by omega) e3 dL_law_737 ?_
  refine m_callVi (z := false) (As := [.int (i32 y1), .int (i32 y2), .int (i32 y3)]) (rest := []) (k := fun v q => some (v, q)) (r := (v, σ2)) X hW1 hS1 hl.1 gc_L_188 hd_X6_setKind ⟨rfl, rfl, (Nat.le_of_ble_eq_true rfl), (Nat.le_of_ble_eq_true rfl)⟩ (rc_X6 X hW1) (fun v s2 q => ok_X6_setKind hy1 hy2 hy3 q) (by rw [hm]; rfl) rfl rfl (Nat.le_of_ble_eq_true rfl) dL_law_738 ⟨hce, hsl⟩ (fun w s2 H locs hv2 z2 hW2 hS2 hf => ?_)
  cases hf
  refine lv_istore (lv' := [(6, .int (i32 v)), (5, .int (i32 k)), (0, .ref b), (1, .ref (ad 0)), (2, .ref (ad 230)), (3, .ref (ad 290)), (4, .int (i32 (i0 : Int)))]) hx hb dL_law_741 hl (by decide) rfl (fun ls hl => ?_)
  refine lv_aload_n hx hb dL_law_743 rfl (lv_at hl 4 rfl) ?_
  refine m_callVi1 (z := false) (As := []) (rest := []) (k := fun v => some v) (r := k) X hW2 hS2 hl.1 gc_L_160 hd_X6_thrown ⟨rfl, rfl, (Nat.le_of_ble_eq_true rfl), (Nat.le_of_ble_eq_true rfl)⟩ (rc_X6 X hW2) (fun v q => ok_X6_thrown  q) (by rw [ht]; rfl) rfl rfl (Nat.le_of_ble_eq_true rfl) dL_law_744 ⟨hce, hsl⟩ (fun v H locs hv3 z3 hW3 hS3 hf => ?_)
  cases hf
  refine lv_iload hx hb dL_law_747 (lv_at hl 1 rfl) ?_
  refine lv_icmp_eq (tgt := 754) hx hb dL_law_749 (by decide) (fun _ => ?_) (fun q => absurd rfl q)
  refine lv_iload hx hb dL_law_754 (lv_at hl 1 rfl) ?_
  refine lv_if_ne (tgt := 771) hx hb dL_law_756 (by decide) (fun qk => ?_) (fun qk => ?_)
  · refine lv_goto (tgt := 3020) hx hb dL_law_771 (by decide) ?_
    exact kk _ _ _ hW3 hS3 (lv_sub hl [2, 3, 4, 5, 6] rfl)
  · have qk := (i32_eq hv z0).mp qk
    refine lv_aload_n hx hb dL_law_759 rfl (lv_at hl 5 rfl) ?_
    refine m_const (v := 0) hx hb dL_law_760 rfl ?_
    refine m_lald X hW3 dL_law_761 ?_
    refine lv_iload hx hb dL_law_762 (lv_at hl 0 rfl) ?_
    refine m_i2l hx hb hv2 dL_law_764 ?_
    refine m_lcmp hx hb (hW3.2.1 _ _) hv2 dL_law_765 ?_
    refine lv_if_eq (tgt := 771) hx hb dL_law_766 (by decide) (fun _ => ?_) (fun q => absurd (by rw [ho qk]; unfold lcm; rw [if_neg (Int.lt_irrefl _), if_pos rfl]; rfl) q)
    refine lv_goto (tgt := 3020) hx hb dL_law_771 (by decide) ?_
    exact kk _ _ _ hW3 hS3 (lv_sub hl [2, 3, 4, 5, 6] rfl)
set_option maxRecDepth 100000 in
set_option maxHeartbeats 4000000 in
theorem case_nest {p : Program} {l : Launch} {e : Env} {s : State} {m : MethodId} {args : Array Value} {below : List Frame} {meth : Method} {c : Code} {H : Heap} {locs : List Loc} {cells slots : Nat} {Q : State → Prop} {D : va_G} {cy : Nat → ClassId} {ad : Nat → Nat} {nm nv : Nat} {A : Nat → Prop} {σ : St} {ls : Array Slot} {b L i0 : Nat} {xs : Nat → Int32} {y1 y2 y3 k v : Int} {σ1 σ2 : St} {n : Nat} (X : Cx p s m args c cL_law 7 RL D cy ad nm nv A) (Y : TX A s) (Z : NCs s) (hst : l.stackTraces = false) (hX : va_X b L xs s s.heap) (hbl : b < s.heap.size) (hbA : ¬ A b) (hL : L ≤ 2048) (hiL : i0 + 4 ≤ L) (e1 : (xs (i0 + 1)).toInt = y1) (e2 : (xs (i0 + 2)).toInt = y2) (e3 : (xs (i0 + 3)).toInt = y3) (hW : Wd D cy ad nm nv σ H) (hS : va_S A s.heap H locs) (hl : lv_has ls 7 [(0, .ref b), (1, .ref (ad 0)), (2, .ref (ad 230)), (3, .ref (ad 290)), (4, .int (i32 (i0 : Int)))]) (hce : cells + 4 ≤ 601024) (hsl : slots + 24 ≤ 7293034) (hk : fL_nest n σ y1 y2 y3 = some (k, σ1)) (hm : fX6_nest n σ1 y1 y2 y3 = some (v, σ2)) (ht : fX6_thrown σ2 = some k) (ho : k = 0 → (σ2 290 0) = v) (kk : ∀ (H1 : Heap) (locs1 : List Loc) (ls1 : Array Slot), Wd D cy ad nm nv σ2 H1 → va_S A s.heap H1 locs1 → lv_has ls1 7 [(0, .ref b), (1, .ref (ad 0)), (2, .ref (ad 230)), (3, .ref (ad 290)), (4, .int (i32 (i0 : Int)))] → W p l e room_1 s m args below meth c H1 locs1 (cells + 4) (slots + 24) Q (F0 m 3020 ls1 [])) : W p l e room_1 s m args below meth c H locs cells slots Q (F0 m 774 ls []) := by
  have hx := X.1
  have hb := X.2.1
  have hi0 : inR (i0 : Int) := ⟨by omega, by omega⟩
  have hy1 : inR y1 := by rw [← e1]; exact i32_inR _
  have hy2 : inR y2 := by rw [← e2]; exact i32_inR _
  have hy3 : inR y3 := by rw [← e3]; exact i32_inR _
  refine lv_aload_n hx hb dL_law_774 rfl (lv_at hl 1 rfl) ?_
  refine lv_aload_n hx hb dL_law_775 rfl (lv_at hl 0 rfl) ?_
  refine lv_iload hx hb dL_law_776 (lv_at hl 4 rfl) ?_
  refine m_const (v := 1) hx hb dL_law_778 rfl ?_
  refine m_add hx hb dL_law_779 ?_
  refine m_sld (j := i0 + 1) hx hb hX hbl hbA hS (by omega) hL (by omega) e1 dL_law_780 ?_
  refine lv_aload_n hx hb dL_law_781 rfl (lv_at hl 0 rfl) ?_
  refine lv_iload hx hb dL_law_782 (lv_at hl 4 rfl) ?_
  refine m_const (v := 2) hx hb dL_law_784 rfl ?_
  refine m_add hx hb dL_law_785 ?_
  refine m_sld (j := i0 + 2) hx hb hX hbl hbA hS (by omega) hL (by omega) e2 dL_law_786 ?_
  refine lv_aload_n hx hb dL_law_787 rfl (lv_at hl 0 rfl) ?_
  refine lv_iload hx hb dL_law_788 (lv_at hl 4 rfl) ?_
  refine m_const (v := 3) hx hb dL_law_790 rfl ?_
  refine m_add hx hb dL_law_791 ?_
  refine m_sld (j := i0 + 3) hx hb hX hbl hbA hS (by omega) hL (by omega) e3 dL_law_792 ?_
  refine lv_aload_n hx hb dL_law_793 rfl (lv_at hl 3 rfl) ?_
  refine l_callS (As := [.ref (ad 0), .int (i32 y1), .int (i32 y2), .int (i32 y3), .ref (ad 290)]) (rest := []) (κ := fun v q => some (v, q)) (r := (k, σ1)) X Y Z hW hS hl.1 cw_L_nest hdn_L_nest ⟨rfl, rfl, (Nat.le_of_ble_eq_true rfl), (Nat.le_of_ble_eq_true rfl)⟩ (fun v σ2 q => ok_L_nest hy1 hy2 hy3 q hst) (by rw [hk]; rfl) rfl rfl (Nat.le_of_ble_eq_true rfl) dL_law_794 ⟨hce, hsl⟩ (fun v s1 H locs hv hW1 hS1 hf => ?_)
  cases hf
  refine lv_istore (lv' := [(5, .int (i32 k)), (0, .ref b), (1, .ref (ad 0)), (2, .ref (ad 230)), (3, .ref (ad 290)), (4, .int (i32 (i0 : Int)))]) hx hb dL_law_797 hl (by decide) rfl (fun ls hl => ?_)
  refine lv_aload_n hx hb dL_law_799 rfl (lv_at hl 3 rfl) ?_
  refine lv_aload_n hx hb dL_law_800 rfl (lv_at hl 1 rfl) ?_
  refine lv_iload hx hb dL_law_801 (lv_at hl 5 rfl) ?_
  refine m_const (v := 1) hx hb dL_law_803 rfl ?_
  refine m_add hx hb dL_law_804 ?_
  refine m_sld (j := i0 + 1) hx hb hX hbl hbA hS1 (by omega) hL (by omega) e1 dL_law_805 ?_
  refine lv_aload_n hx hb dL_law_806 rfl (lv_at hl 1 rfl) ?_
  refine lv_iload hx hb dL_law_807 (lv_at hl 5 rfl) ?_
  refine m_const (v := 2) hx hb dL_law_809 rfl ?_
  refine m_add hx hb dL_law_810 ?_
  refine m_sld (j := i0 + 2) hx hb hX hbl hbA hS1 (by omega) hL (by omega) e2 dL_law_811 ?_
  refine lv_aload_n hx hb dL_law_812 rfl (lv_at hl 1 rfl) ?_
  refine lv_iload hx hb dL_law_813 (lv_at hl 5 rfl) ?_
  refine m_const (v := 3) hx hb dL_law_815 rfl ?_
  refine m_add hx hb dL_law_816 ?_
  refine m_sld (j := i0 + 3) hx hb hX hbl hbA hS1 (by omega) hL (by omega) e3 dL_law_817 ?_
  refine m_callVi (z := false) (As := [.int (i32 y1), .int (i32 y2), .int (i32 y3)]) (rest := []) (k := fun v q => some (v, q)) (r := (v, σ2)) X hW1 hS1 hl.1 gc_L_191 hd_X6_nest ⟨rfl, rfl, (Nat.le_of_ble_eq_true rfl), (Nat.le_of_ble_eq_true rfl)⟩ (rc_X6 X hW1) (fun v s2 q => ok_X6_nest hy1 hy2 hy3 q) (by rw [hm]; rfl) rfl rfl (Nat.le_of_ble_eq_true rfl) dL_law_818 ⟨hce, hsl⟩ (fun w s2 H locs hv2 z2 hW2 hS2 hf => ?_)
  cases hf
  refine lv_istore (lv' := [(6, .int (i32 v)), (5, .int (i32 k)), (0, .ref b), (1, .ref (ad 0)), (2, .ref (ad 230)), (3, .ref (ad 290)), (4, .int (i32 (i0 : Int)))]) hx hb dL_law_821 hl (by decide) rfl (fun ls hl => ?_)
  refine lv_aload_n hx hb dL_law_823 rfl (lv_at hl 4 rfl) ?_
  refine m_callVi1 (z := false) (As := []) (rest := []) (k := fun v => some v) (r := k) X hW2 hS2 hl.1 gc_L_160 hd_X6_thrown ⟨rfl, rfl, (Nat.le_of_ble_eq_true rfl), (Nat.le_of_ble_eq_true rfl)⟩ (rc_X6 X hW2) (fun v q => ok_X6_thrown  q) (by rw [ht]; rfl) rfl rfl (Nat.le_of_ble_eq_true rfl) dL_law_824 ⟨hce, hsl⟩ (fun v H locs hv3 z3 hW3 hS3 hf => ?_)
  cases hf
  refine lv_iload hx hb dL_law_827 (lv_at hl 1 rfl) ?_
  refine lv_icmp_eq (tgt := 834) hx hb dL_law_829 (by decide) (fun _ => ?_) (fun q => absurd rfl q)
  refine lv_iload hx hb dL_law_834 (lv_at hl 1 rfl) ?_
  refine lv_if_ne (tgt := 851) hx hb dL_law_836 (by decide) (fun qk => ?_) (fun qk => ?_)
  · refine lv_goto (tgt := 3020) hx hb dL_law_851 (by decide) ?_
    exact kk _ _ _ hW3 hS3 (lv_sub hl [2, 3, 4, 5, 6] rfl)
  · have qk := (i32_eq hv z0).mp qk
    refine lv_aload_n hx hb dL_law_839 rfl (lv_at hl 5 rfl) ?_
    refine m_const (v := 0) hx hb dL_law_840 rfl ?_
    refine m_lald X hW3 dL_law_841 ?_
    refine lv_iload hx hb dL_law_842 (lv_at hl 0 rfl) ?_
    refine m_i2l hx hb hv2 dL_law_844 ?_
    refine m_lcmp hx hb (hW3.2.1 _ _) hv2 dL_law_845 ?_
    refine lv_if_eq (tgt := 851) hx hb dL_law_846 (by decide) (fun _ => ?_) (fun q => absurd (by rw [ho qk]; unfold lcm; rw [if_neg (Int.lt_irrefl _), if_pos rfl]; rfl) q)
    refine lv_goto (tgt := 3020) hx hb dL_law_851 (by decide) ?_
    exact kk _ _ _ hW3 hS3 (lv_sub hl [2, 3, 4, 5, 6] rfl)
set_option maxRecDepth 100000 in
set_option maxHeartbeats 4000000 in
theorem case_propose {p : Program} {l : Launch} {e : Env} {s : State} {m : MethodId} {args : Array Value} {below : List Frame} {meth : Method} {c : Code} {H : Heap} {locs : List Loc} {cells slots : Nat} {Q : State → Prop} {D : va_G} {cy : Nat → ClassId} {ad : Nat → Nat} {nm nv : Nat} {A : Nat → Prop} {σ : St} {ls : Array Slot} {b L i0 : Nat} {xs : Nat → Int32} {y1 y2 y3 k v : Int} {σ1 σ2 : St} (X : Cx p s m args c cL_law 7 RL D cy ad nm nv A) (Y : TX A s) (Z : NCs s) (hst : l.stackTraces = false) (hX : va_X b L xs s s.heap) (hbl : b < s.heap.size) (hbA : ¬ A b) (hL : L ≤ 2048) (hiL : i0 + 4 ≤ L) (e1 : (xs (i0 + 1)).toInt = y1) (e2 : (xs (i0 + 2)).toInt = y2) (e3 : (xs (i0 + 3)).toInt = y3) (hW : Wd D cy ad nm nv σ H) (hS : va_S A s.heap H locs) (hl : lv_has ls 7 [(0, .ref b), (1, .ref (ad 0)), (2, .ref (ad 230)), (3, .ref (ad 290)), (4, .int (i32 (i0 : Int)))]) (hce : cells + 1 ≤ 601024) (hsl : slots + 6 ≤ 7293034) (hk : fL_propose σ y1 (nz y2) = some (k, σ1)) (hm : fX6_propose σ1 y1 (nz y2) = some (v, σ2)) (ht : fX6_thrown σ2 = some k) (ho : k = 0 → (σ2 290 0) = (nz v)) (kk : ∀ (H1 : Heap) (locs1 : List Loc) (ls1 : Array Slot), Wd D cy ad nm nv σ2 H1 → va_S A s.heap H1 locs1 → lv_has ls1 7 [(0, .ref b), (1, .ref (ad 0)), (2, .ref (ad 230)), (3, .ref (ad 290)), (4, .int (i32 (i0 : Int)))] → W p l e room_1 s m args below meth c H1 locs1 (cells + 1) (slots + 6) Q (F0 m 3020 ls1 [])) : W p l e room_1 s m args below meth c H locs cells slots Q (F0 m 854 ls []) := by
  have hx := X.1
  have hb := X.2.1
  have hi0 : inR (i0 : Int) := ⟨by omega, by omega⟩
  have hy1 : inR y1 := by rw [← e1]; exact i32_inR _
  have hy2 : inR y2 := by rw [← e2]; exact i32_inR _
  have hy3 : inR y3 := by rw [← e3]; exact i32_inR _
  refine lv_aload_n hx hb dL_law_854 rfl (lv_at hl 1 rfl) ?_
  refine lv_aload_n hx hb dL_law_855 rfl (lv_at hl 0 rfl) ?_
  refine lv_iload hx hb dL_law_856 (lv_at hl 4 rfl) ?_
  refine m_const (v := 1) hx hb dL_law_858 rfl ?_
  refine m_add hx hb dL_law_859 ?_
  refine m_sld (j := i0 + 1) hx hb hX hbl hbA hS (by omega) hL (by omega) e1 dL_law_860 ?_
  refine lv_aload_n hx hb dL_law_861 rfl (lv_at hl 0 rfl) ?_
  refine lv_iload hx hb dL_law_862 (lv_at hl 4 rfl) ?_
  refine m_const (v := 2) hx hb dL_law_864 rfl ?_
  refine m_add hx hb dL_law_865 ?_
  refine m_sld (j := i0 + 2) hx hb hX hbl hbA hS (by omega) hL (by omega) e2 dL_law_866 ?_
  refine m_nz hx hb hy2 dL_law_867 dL_law_870 dL_law_871 dL_law_874 ?_
  refine lv_aload_n hx hb dL_law_875 rfl (lv_at hl 3 rfl) ?_
  refine l_callS (As := [.ref (ad 0), .int (i32 y1), .int (i32 (nz y2)), .ref (ad 290)]) (rest := []) (κ := fun v q => some (v, q)) (r := (k, σ1)) X Y Z hW hS hl.1 cw_L_propose hdn_L_propose ⟨rfl, rfl, (Nat.le_of_ble_eq_true rfl), (Nat.le_of_ble_eq_true rfl)⟩ (fun v σ2 q => ok_L_propose hy1 (nz_inR _) q hst) (by rw [hk]; rfl) rfl rfl (Nat.le_of_ble_eq_true rfl) dL_law_876 ⟨hce, hsl⟩ (fun v s1 H locs hv hW1 hS1 hf => ?_)
  cases hf
  refine lv_istore (lv' := [(5, .int (i32 k)), (0, .ref b), (1, .ref (ad 0)), (2, .ref (ad 230)), (3, .ref (ad 290)), (4, .int (i32 (i0 : Int)))]) hx hb dL_law_879 hl (by decide) rfl (fun ls hl => ?_)
  refine lv_aload_n hx hb dL_law_881 rfl (lv_at hl 3 rfl) ?_
  refine lv_aload_n hx hb dL_law_882 rfl (lv_at hl 1 rfl) ?_
  refine lv_iload hx hb dL_law_883 (lv_at hl 5 rfl) ?_
  refine m_const (v := 1) hx hb dL_law_885 rfl ?_
  refine m_add hx hb dL_law_886 ?_
  refine m_sld (j := i0 + 1) hx hb hX hbl hbA hS1 (by omega) hL (by omega) e1 dL_law_887 ?_
  refine lv_aload_n hx hb dL_law_888 rfl (lv_at hl 1 rfl) ?_
  refine lv_iload hx hb dL_law_889 (lv_at hl 5 rfl) ?_
  refine m_const (v := 2) hx hb dL_law_891 rfl ?_
  refine m_add hx hb dL_law_892 ?_
  refine m_sld (j := i0 + 2) hx hb hX hbl hbA hS1 (by omega) hL (by omega) e2 dL_law_893 ?_
  refine m_nz hx hb hy2 dL_law_894 dL_law_897 dL_law_898 dL_law_901 ?_
  refine m_callVi (z := true) (As := [.int (i32 y1), .int (i32 (nz y2))]) (rest := []) (k := fun v q => some (v, q)) (r := (v, σ2)) X hW1 hS1 hl.1 gc_L_195 hd_X6_propose ⟨rfl, rfl, (Nat.le_of_ble_eq_true rfl), (Nat.le_of_ble_eq_true rfl)⟩ (rc_X6 X hW1) (fun v s2 q => ok_X6_propose hy1 (nz_inR _) q) (by rw [hm]; rfl) rfl rfl (Nat.le_of_ble_eq_true rfl) dL_law_902 ⟨hce, hsl⟩ (fun w s2 H locs hv2 z2 hW2 hS2 hf => ?_)
  cases hf
  refine lv_istore (lv' := [(6, .int (i32 v)), (5, .int (i32 k)), (0, .ref b), (1, .ref (ad 0)), (2, .ref (ad 230)), (3, .ref (ad 290)), (4, .int (i32 (i0 : Int)))]) hx hb dL_law_905 hl (by decide) rfl (fun ls hl => ?_)
  refine lv_aload_n hx hb dL_law_907 rfl (lv_at hl 4 rfl) ?_
  refine m_callVi1 (z := false) (As := []) (rest := []) (k := fun v => some v) (r := k) X hW2 hS2 hl.1 gc_L_160 hd_X6_thrown ⟨rfl, rfl, (Nat.le_of_ble_eq_true rfl), (Nat.le_of_ble_eq_true rfl)⟩ (rc_X6 X hW2) (fun v q => ok_X6_thrown  q) (by rw [ht]; rfl) rfl rfl (Nat.le_of_ble_eq_true rfl) dL_law_908 ⟨hce, hsl⟩ (fun v H locs hv3 z3 hW3 hS3 hf => ?_)
  cases hf
  refine lv_iload hx hb dL_law_911 (lv_at hl 1 rfl) ?_
  refine lv_icmp_eq (tgt := 918) hx hb dL_law_913 (by decide) (fun _ => ?_) (fun q => absurd rfl q)
  refine lv_iload hx hb dL_law_918 (lv_at hl 1 rfl) ?_
  refine lv_if_ne (tgt := 942) hx hb dL_law_920 (by decide) (fun qk => ?_) (fun qk => ?_)
  · refine lv_goto (tgt := 3020) hx hb dL_law_942 (by decide) ?_
    exact kk _ _ _ hW3 hS3 (lv_sub hl [2, 3, 4, 5, 6] rfl)
  · have qk := (i32_eq hv z0).mp qk
    refine lv_aload_n hx hb dL_law_923 rfl (lv_at hl 5 rfl) ?_
    refine m_const (v := 0) hx hb dL_law_924 rfl ?_
    refine m_lald X hW3 dL_law_925 ?_
    refine lv_iload hx hb dL_law_926 (lv_at hl 0 rfl) ?_
    refine m_nzl hx hb hv2 dL_law_928 dL_law_931 dL_law_932 dL_law_935 ?_
    refine m_lcmp hx hb (hW3.2.1 _ _) (nz_inR _) dL_law_936 ?_
    refine lv_if_eq (tgt := 942) hx hb dL_law_937 (by decide) (fun _ => ?_) (fun q => absurd (by rw [ho qk]; unfold lcm; rw [if_neg (Int.lt_irrefl _), if_pos rfl]; rfl) q)
    refine lv_goto (tgt := 3020) hx hb dL_law_942 (by decide) ?_
    exact kk _ _ _ hW3 hS3 (lv_sub hl [2, 3, 4, 5, 6] rfl)
set_option maxRecDepth 100000 in
set_option maxHeartbeats 4000000 in
theorem case_decide {p : Program} {l : Launch} {e : Env} {s : State} {m : MethodId} {args : Array Value} {below : List Frame} {meth : Method} {c : Code} {H : Heap} {locs : List Loc} {cells slots : Nat} {Q : State → Prop} {D : va_G} {cy : Nat → ClassId} {ad : Nat → Nat} {nm nv : Nat} {A : Nat → Prop} {σ : St} {ls : Array Slot} {b L i0 : Nat} {xs : Nat → Int32} {y1 y2 y3 k v : Int} {σ1 σ2 : St} {n : Nat} (X : Cx p s m args c cL_law 7 RL D cy ad nm nv A) (Y : TX A s) (Z : NCs s) (hst : l.stackTraces = false) (hX : va_X b L xs s s.heap) (hbl : b < s.heap.size) (hbA : ¬ A b) (hL : L ≤ 2048) (hiL : i0 + 4 ≤ L) (e1 : (xs (i0 + 1)).toInt = y1) (e2 : (xs (i0 + 2)).toInt = y2) (e3 : (xs (i0 + 3)).toInt = y3) (hW : Wd D cy ad nm nv σ H) (hS : va_S A s.heap H locs) (hl : lv_has ls 7 [(0, .ref b), (1, .ref (ad 0)), (2, .ref (ad 230)), (3, .ref (ad 290)), (4, .int (i32 (i0 : Int)))]) (hce : cells + 3 ≤ 601024) (hsl : slots + 18 ≤ 7293034) (hk : fL_decide n σ y1 y2 (nz y3) = some (k, σ1)) (hm : fX6_decide n σ1 y1 y2 (nz y3) = some (v, σ2)) (ht : fX6_thrown σ2 = some k) (ho : k = 0 → (σ2 290 0) = v) (kk : ∀ (H1 : Heap) (locs1 : List Loc) (ls1 : Array Slot), Wd D cy ad nm nv σ2 H1 → va_S A s.heap H1 locs1 → lv_has ls1 7 [(0, .ref b), (1, .ref (ad 0)), (2, .ref (ad 230)), (3, .ref (ad 290)), (4, .int (i32 (i0 : Int)))] → W p l e room_1 s m args below meth c H1 locs1 (cells + 3) (slots + 18) Q (F0 m 3020 ls1 [])) : W p l e room_1 s m args below meth c H locs cells slots Q (F0 m 945 ls []) := by
  have hx := X.1
  have hb := X.2.1
  have hi0 : inR (i0 : Int) := ⟨by omega, by omega⟩
  have hy1 : inR y1 := by rw [← e1]; exact i32_inR _
  have hy2 : inR y2 := by rw [← e2]; exact i32_inR _
  have hy3 : inR y3 := by rw [← e3]; exact i32_inR _
  refine lv_aload_n hx hb dL_law_945 rfl (lv_at hl 1 rfl) ?_
  refine lv_aload_n hx hb dL_law_946 rfl (lv_at hl 0 rfl) ?_
  refine lv_iload hx hb dL_law_947 (lv_at hl 4 rfl) ?_
  refine m_const (v := 1) hx hb dL_law_949 rfl ?_
  refine m_add hx hb dL_law_950 ?_
  refine m_sld (j := i0 + 1) hx hb hX hbl hbA hS (by omega) hL (by omega) e1 dL_law_951 ?_
  refine lv_aload_n hx hb dL_law_952 rfl (lv_at hl 0 rfl) ?_
  refine lv_iload hx hb dL_law_953 (lv_at hl 4 rfl) ?_
  refine m_const (v := 2) hx hb dL_law_955 rfl ?_
  refine m_add hx hb dL_law_956 ?_
  refine m_sld (j := i0 + 2) hx hb hX hbl hbA hS (by omega) hL (by omega) e2 dL_law_957 ?_
  refine lv_aload_n hx hb dL_law_958 rfl (lv_at hl 0 rfl) ?_
  refine lv_iload hx hb dL_law_959 (lv_at hl 4 rfl) ?_
  refine m_const (v := 3) hx hb dL_law_961 rfl ?_
  refine m_add hx hb dL_law_962 ?_
  refine m_sld (j := i0 + 3) hx hb hX hbl hbA hS (by omega) hL (by omega) e3 dL_law_963 ?_
  refine m_nz hx hb hy3 dL_law_964 dL_law_967 dL_law_968 dL_law_971 ?_
  refine lv_aload_n hx hb dL_law_972 rfl (lv_at hl 3 rfl) ?_
  refine l_callS (As := [.ref (ad 0), .int (i32 y1), .int (i32 y2), .int (i32 (nz y3)), .ref (ad 290)]) (rest := []) (κ := fun v q => some (v, q)) (r := (k, σ1)) X Y Z hW hS hl.1 cw_L_decide hdn_L_decide ⟨rfl, rfl, (Nat.le_of_ble_eq_true rfl), (Nat.le_of_ble_eq_true rfl)⟩ (fun v σ2 q => ok_L_decide hy1 hy2 (nz_inR _) q hst) (by rw [hk]; rfl) rfl rfl (Nat.le_of_ble_eq_true rfl) dL_law_973 ⟨hce, hsl⟩ (fun v s1 H locs hv hW1 hS1 hf => ?_)
  cases hf
  refine lv_istore (lv' := [(5, .int (i32 k)), (0, .ref b), (1, .ref (ad 0)), (2, .ref (ad 230)), (3, .ref (ad 290)), (4, .int (i32 (i0 : Int)))]) hx hb dL_law_976 hl (by decide) rfl (fun ls hl => ?_)
  refine lv_aload_n hx hb dL_law_978 rfl (lv_at hl 3 rfl) ?_
  refine lv_aload_n hx hb dL_law_979 rfl (lv_at hl 1 rfl) ?_
  refine lv_iload hx hb dL_law_980 (lv_at hl 5 rfl) ?_
  refine m_const (v := 1) hx hb dL_law_982 rfl ?_
  refine m_add hx hb dL_law_983 ?_
  refine m_sld (j := i0 + 1) hx hb hX hbl hbA hS1 (by omega) hL (by omega) e1 dL_law_984 ?_
  refine lv_aload_n hx hb dL_law_985 rfl (lv_at hl 1 rfl) ?_
  refine lv_iload hx hb dL_law_986 (lv_at hl 5 rfl) ?_
  refine m_const (v := 2) hx hb dL_law_988 rfl ?_
  refine m_add hx hb dL_law_989 ?_
  refine m_sld (j := i0 + 2) hx hb hX hbl hbA hS1 (by omega) hL (by omega) e2 dL_law_990 ?_
  refine lv_aload_n hx hb dL_law_991 rfl (lv_at hl 1 rfl) ?_
  refine lv_iload hx hb dL_law_992 (lv_at hl 5 rfl) ?_
  refine m_const (v := 3) hx hb dL_law_994 rfl ?_
  refine m_add hx hb dL_law_995 ?_
  refine m_sld (j := i0 + 3) hx hb hX hbl hbA hS1 (by omega) hL (by omega) e3 dL_law_996 ?_
  refine m_nz hx hb hy3 dL_law_997 dL_law_1000 dL_law_1001 dL_law_1004 ?_
  refine m_callVi (z := false) (As := [.int (i32 y1), .int (i32 y2), .int (i32 (nz y3))]) (rest := []) (k := fun v q => some (v, q)) (r := (v, σ2)) X hW1 hS1 hl.1 gc_L_198 hd_X6_decide ⟨rfl, rfl, (Nat.le_of_ble_eq_true rfl), (Nat.le_of_ble_eq_true rfl)⟩ (rc_X6 X hW1) (fun v s2 q => ok_X6_decide hy1 hy2 (nz_inR _) q) (by rw [hm]; rfl) rfl rfl (Nat.le_of_ble_eq_true rfl) dL_law_1005 ⟨hce, hsl⟩ (fun w s2 H locs hv2 z2 hW2 hS2 hf => ?_)
  cases hf
  refine lv_istore (lv' := [(6, .int (i32 v)), (5, .int (i32 k)), (0, .ref b), (1, .ref (ad 0)), (2, .ref (ad 230)), (3, .ref (ad 290)), (4, .int (i32 (i0 : Int)))]) hx hb dL_law_1008 hl (by decide) rfl (fun ls hl => ?_)
  refine lv_aload_n hx hb dL_law_1010 rfl (lv_at hl 4 rfl) ?_
  refine m_callVi1 (z := false) (As := []) (rest := []) (k := fun v => some v) (r := k) X hW2 hS2 hl.1 gc_L_160 hd_X6_thrown ⟨rfl, rfl, (Nat.le_of_ble_eq_true rfl), (Nat.le_of_ble_eq_true rfl)⟩ (rc_X6 X hW2) (fun v q => ok_X6_thrown  q) (by rw [ht]; rfl) rfl rfl (Nat.le_of_ble_eq_true rfl) dL_law_1011 ⟨hce, hsl⟩ (fun v H locs hv3 z3 hW3 hS3 hf => ?_)
  cases hf
  refine lv_iload hx hb dL_law_1014 (lv_at hl 1 rfl) ?_
  refine lv_icmp_eq (tgt := 1021) hx hb dL_law_1016 (by decide) (fun _ => ?_) (fun q => absurd rfl q)
  refine lv_iload hx hb dL_law_1021 (lv_at hl 1 rfl) ?_
  refine lv_if_ne (tgt := 1038) hx hb dL_law_1023 (by decide) (fun qk => ?_) (fun qk => ?_)
  · refine lv_goto (tgt := 3020) hx hb dL_law_1038 (by decide) ?_
    exact kk _ _ _ hW3 hS3 (lv_sub hl [2, 3, 4, 5, 6] rfl)
  · have qk := (i32_eq hv z0).mp qk
    refine lv_aload_n hx hb dL_law_1026 rfl (lv_at hl 5 rfl) ?_
    refine m_const (v := 0) hx hb dL_law_1027 rfl ?_
    refine m_lald X hW3 dL_law_1028 ?_
    refine lv_iload hx hb dL_law_1029 (lv_at hl 0 rfl) ?_
    refine m_i2l hx hb hv2 dL_law_1031 ?_
    refine m_lcmp hx hb (hW3.2.1 _ _) hv2 dL_law_1032 ?_
    refine lv_if_eq (tgt := 1038) hx hb dL_law_1033 (by decide) (fun _ => ?_) (fun q => absurd (by rw [ho qk]; unfold lcm; rw [if_neg (Int.lt_irrefl _), if_pos rfl]; rfl) q)
    refine lv_goto (tgt := 3020) hx hb dL_law_1038 (by decide) ?_
    exact kk _ _ _ hW3 hS3 (lv_sub hl [2, 3, 4, 5, 6] rfl)
set_option maxRecDepth 100000 in
set_option maxHeartbeats 4000000 in
theorem case_allow {p : Program} {l : Launch} {e : Env} {s : State} {m : MethodId} {args : Array Value} {below : List Frame} {meth : Method} {c : Code} {H : Heap} {locs : List Loc} {cells slots : Nat} {Q : State → Prop} {D : va_G} {cy : Nat → ClassId} {ad : Nat → Nat} {nm nv : Nat} {A : Nat → Prop} {σ : St} {ls : Array Slot} {b L i0 : Nat} {xs : Nat → Int32} {y1 y2 y3 k v : Int} {σ1 σ2 : St} {n : Nat} (X : Cx p s m args c cL_law 7 RL D cy ad nm nv A) (Y : TX A s) (Z : NCs s) (hst : l.stackTraces = false) (hX : va_X b L xs s s.heap) (hbl : b < s.heap.size) (hbA : ¬ A b) (hL : L ≤ 2048) (hiL : i0 + 4 ≤ L) (e1 : (xs (i0 + 1)).toInt = y1) (e2 : (xs (i0 + 2)).toInt = y2) (e3 : (xs (i0 + 3)).toInt = y3) (hW : Wd D cy ad nm nv σ H) (hS : va_S A s.heap H locs) (hl : lv_has ls 7 [(0, .ref b), (1, .ref (ad 0)), (2, .ref (ad 230)), (3, .ref (ad 290)), (4, .int (i32 (i0 : Int)))]) (hce : cells + 3 ≤ 601024) (hsl : slots + 18 ≤ 7293034) (hk : fL_allow n σ y1 y2 y3 = some (k, σ1)) (hm : fX6_allow n σ1 y1 y2 y3 = some (v, σ2)) (ht : fX6_thrown σ2 = some k) (ho : k = 0 → (σ2 290 0) = v) (kk : ∀ (H1 : Heap) (locs1 : List Loc) (ls1 : Array Slot), Wd D cy ad nm nv σ2 H1 → va_S A s.heap H1 locs1 → lv_has ls1 7 [(0, .ref b), (1, .ref (ad 0)), (2, .ref (ad 230)), (3, .ref (ad 290)), (4, .int (i32 (i0 : Int)))] → W p l e room_1 s m args below meth c H1 locs1 (cells + 3) (slots + 18) Q (F0 m 3020 ls1 [])) : W p l e room_1 s m args below meth c H locs cells slots Q (F0 m 1041 ls []) := by
  have hx := X.1
  have hb := X.2.1
  have hi0 : inR (i0 : Int) := ⟨by omega, by omega⟩
  have hy1 : inR y1 := by rw [← e1]; exact i32_inR _
  have hy2 : inR y2 := by rw [← e2]; exact i32_inR _
  have hy3 : inR y3 := by rw [← e3]; exact i32_inR _
  refine lv_aload_n hx hb dL_law_1041 rfl (lv_at hl 1 rfl) ?_
  refine lv_aload_n hx hb dL_law_1042 rfl (lv_at hl 0 rfl) ?_
  refine lv_iload hx hb dL_law_1043 (lv_at hl 4 rfl) ?_
  refine m_const (v := 1) hx hb dL_law_1045 rfl ?_
  refine m_add hx hb dL_law_1046 ?_
  refine m_sld (j := i0 + 1) hx hb hX hbl hbA hS (by omega) hL (by omega) e1 dL_law_1047 ?_
  refine lv_aload_n hx hb dL_law_1048 rfl (lv_at hl 0 rfl) ?_
  refine lv_iload hx hb dL_law_1049 (lv_at hl 4 rfl) ?_
  refine m_const (v := 2) hx hb dL_law_1051 rfl ?_
  refine m_add hx hb dL_law_1052 ?_
  refine m_sld (j := i0 + 2) hx hb hX hbl hbA hS (by omega) hL (by omega) e2 dL_law_1053 ?_
  refine lv_aload_n hx hb dL_law_1054 rfl (lv_at hl 0 rfl) ?_
  refine lv_iload hx hb dL_law_1055 (lv_at hl 4 rfl) ?_
  refine m_const (v := 3) hx hb dL_law_1057 rfl ?_
  refine m_add hx hb dL_law_1058 ?_
  refine m_sld (j := i0 + 3) hx hb hX hbl hbA hS (by omega) hL (by omega) e3 dL_law_1059 ?_
  refine lv_aload_n hx hb dL_law_1060 rfl (lv_at hl 3 rfl) ?_
  refine l_callS (As := [.ref (ad 0), .int (i32 y1), .int (i32 y2), .int (i32 y3), .ref (ad 290)]) (rest := []) (κ := fun v q => some (v, q)) (r := (k, σ1)) X Y Z hW hS hl.1 cw_L_allow hdn_L_allow ⟨rfl, rfl, (Nat.le_of_ble_eq_true rfl), (Nat.le_of_ble_eq_true rfl)⟩ (fun v σ2 q => ok_L_allow hy1 hy2 hy3 q hst) (by rw [hk]; rfl) rfl rfl (Nat.le_of_ble_eq_true rfl) dL_law_1061 ⟨hce, hsl⟩ (fun v s1 H locs hv hW1 hS1 hf => ?_)
  cases hf
  refine lv_istore (lv' := [(5, .int (i32 k)), (0, .ref b), (1, .ref (ad 0)), (2, .ref (ad 230)), (3, .ref (ad 290)), (4, .int (i32 (i0 : Int)))]) hx hb dL_law_1064 hl (by decide) rfl (fun ls hl => ?_)
  refine lv_aload_n hx hb dL_law_1066 rfl (lv_at hl 3 rfl) ?_
  refine lv_aload_n hx hb dL_law_1067 rfl (lv_at hl 1 rfl) ?_
  refine lv_iload hx hb dL_law_1068 (lv_at hl 5 rfl) ?_
  refine m_const (v := 1) hx hb dL_law_1070 rfl ?_
  refine m_add hx hb dL_law_1071 ?_
  refine m_sld (j := i0 + 1) hx hb hX hbl hbA hS1 (by omega) hL (by omega) e1 dL_law_1072 ?_
  refine lv_aload_n hx hb dL_law_1073 rfl (lv_at hl 1 rfl) ?_
  refine lv_iload hx hb dL_law_1074 (lv_at hl 5 rfl) ?_
  refine m_const (v := 2) hx hb dL_law_1076 rfl ?_
  refine m_add hx hb dL_law_1077 ?_
  refine m_sld (j := i0 + 2) hx hb hX hbl hbA hS1 (by omega) hL (by omega) e2 dL_law_1078 ?_
  refine lv_aload_n hx hb dL_law_1079 rfl (lv_at hl 1 rfl) ?_
  refine lv_iload hx hb dL_law_1080 (lv_at hl 5 rfl) ?_
  refine m_const (v := 3) hx hb dL_law_1082 rfl ?_
  refine m_add hx hb dL_law_1083 ?_
  refine m_sld (j := i0 + 3) hx hb hX hbl hbA hS1 (by omega) hL (by omega) e3 dL_law_1084 ?_
  refine m_callVi (z := false) (As := [.int (i32 y1), .int (i32 y2), .int (i32 y3)]) (rest := []) (k := fun v q => some (v, q)) (r := (v, σ2)) X hW1 hS1 hl.1 gc_L_201 hd_X6_allow ⟨rfl, rfl, (Nat.le_of_ble_eq_true rfl), (Nat.le_of_ble_eq_true rfl)⟩ (rc_X6 X hW1) (fun v s2 q => ok_X6_allow hy1 hy2 hy3 q) (by rw [hm]; rfl) rfl rfl (Nat.le_of_ble_eq_true rfl) dL_law_1085 ⟨hce, hsl⟩ (fun w s2 H locs hv2 z2 hW2 hS2 hf => ?_)
  cases hf
  refine lv_istore (lv' := [(6, .int (i32 v)), (5, .int (i32 k)), (0, .ref b), (1, .ref (ad 0)), (2, .ref (ad 230)), (3, .ref (ad 290)), (4, .int (i32 (i0 : Int)))]) hx hb dL_law_1088 hl (by decide) rfl (fun ls hl => ?_)
  refine lv_aload_n hx hb dL_law_1090 rfl (lv_at hl 4 rfl) ?_
  refine m_callVi1 (z := false) (As := []) (rest := []) (k := fun v => some v) (r := k) X hW2 hS2 hl.1 gc_L_160 hd_X6_thrown ⟨rfl, rfl, (Nat.le_of_ble_eq_true rfl), (Nat.le_of_ble_eq_true rfl)⟩ (rc_X6 X hW2) (fun v q => ok_X6_thrown  q) (by rw [ht]; rfl) rfl rfl (Nat.le_of_ble_eq_true rfl) dL_law_1091 ⟨hce, hsl⟩ (fun v H locs hv3 z3 hW3 hS3 hf => ?_)
  cases hf
  refine lv_iload hx hb dL_law_1094 (lv_at hl 1 rfl) ?_
  refine lv_icmp_eq (tgt := 1101) hx hb dL_law_1096 (by decide) (fun _ => ?_) (fun q => absurd rfl q)
  refine lv_iload hx hb dL_law_1101 (lv_at hl 1 rfl) ?_
  refine lv_if_ne (tgt := 1118) hx hb dL_law_1103 (by decide) (fun qk => ?_) (fun qk => ?_)
  · refine lv_goto (tgt := 3020) hx hb dL_law_1118 (by decide) ?_
    exact kk _ _ _ hW3 hS3 (lv_sub hl [2, 3, 4, 5, 6] rfl)
  · have qk := (i32_eq hv z0).mp qk
    refine lv_aload_n hx hb dL_law_1106 rfl (lv_at hl 5 rfl) ?_
    refine m_const (v := 0) hx hb dL_law_1107 rfl ?_
    refine m_lald X hW3 dL_law_1108 ?_
    refine lv_iload hx hb dL_law_1109 (lv_at hl 0 rfl) ?_
    refine m_i2l hx hb hv2 dL_law_1111 ?_
    refine m_lcmp hx hb (hW3.2.1 _ _) hv2 dL_law_1112 ?_
    refine lv_if_eq (tgt := 1118) hx hb dL_law_1113 (by decide) (fun _ => ?_) (fun q => absurd (by rw [ho qk]; unfold lcm; rw [if_neg (Int.lt_irrefl _), if_pos rfl]; rfl) q)
    refine lv_goto (tgt := 3020) hx hb dL_law_1118 (by decide) ?_
    exact kk _ _ _ hW3 hS3 (lv_sub hl [2, 3, 4, 5, 6] rfl)
set_option maxRecDepth 100000 in
set_option maxHeartbeats 4000000 in
theorem case_undo {p : Program} {l : Launch} {e : Env} {s : State} {m : MethodId} {args : Array Value} {below : List Frame} {meth : Method} {c : Code} {H : Heap} {locs : List Loc} {cells slots : Nat} {Q : State → Prop} {D : va_G} {cy : Nat → ClassId} {ad : Nat → Nat} {nm nv : Nat} {A : Nat → Prop} {σ : St} {ls : Array Slot} {b L i0 : Nat} {xs : Nat → Int32} {y1 y2 y3 k v : Int} {σ1 σ2 : St} {n : Nat} (X : Cx p s m args c cL_law 7 RL D cy ad nm nv A) (Y : TX A s) (Z : NCs s) (hst : l.stackTraces = false) (hX : va_X b L xs s s.heap) (hbl : b < s.heap.size) (hbA : ¬ A b) (hL : L ≤ 2048) (hiL : i0 + 4 ≤ L) (e1 : (xs (i0 + 1)).toInt = y1) (e2 : (xs (i0 + 2)).toInt = y2) (e3 : (xs (i0 + 3)).toInt = y3) (hW : Wd D cy ad nm nv σ H) (hS : va_S A s.heap H locs) (hl : lv_has ls 7 [(0, .ref b), (1, .ref (ad 0)), (2, .ref (ad 230)), (3, .ref (ad 290)), (4, .int (i32 (i0 : Int)))]) (hce : cells + 2 ≤ 601024) (hsl : slots + 12 ≤ 7293034) (hk : fL_undo n σ y1 = some (k, σ1)) (hm : fX6_undo n σ1 y1 = some (v, σ2)) (ht : fX6_thrown σ2 = some k) (ho : k = 0 → (σ2 290 0) = v) (kk : ∀ (H1 : Heap) (locs1 : List Loc) (ls1 : Array Slot), Wd D cy ad nm nv σ2 H1 → va_S A s.heap H1 locs1 → lv_has ls1 7 [(0, .ref b), (1, .ref (ad 0)), (2, .ref (ad 230)), (3, .ref (ad 290)), (4, .int (i32 (i0 : Int)))] → W p l e room_1 s m args below meth c H1 locs1 (cells + 2) (slots + 12) Q (F0 m 3020 ls1 [])) : W p l e room_1 s m args below meth c H locs cells slots Q (F0 m 1121 ls []) := by
  have hx := X.1
  have hb := X.2.1
  have hi0 : inR (i0 : Int) := ⟨by omega, by omega⟩
  have hy1 : inR y1 := by rw [← e1]; exact i32_inR _
  have hy2 : inR y2 := by rw [← e2]; exact i32_inR _
  have hy3 : inR y3 := by rw [← e3]; exact i32_inR _
  refine lv_aload_n hx hb dL_law_1121 rfl (lv_at hl 1 rfl) ?_
  refine lv_aload_n hx hb dL_law_1122 rfl (lv_at hl 0 rfl) ?_
  refine lv_iload hx hb dL_law_1123 (lv_at hl 4 rfl) ?_
  refine m_const (v := 1) hx hb dL_law_1125 rfl ?_
  refine m_add hx hb dL_law_1126 ?_
  refine m_sld (j := i0 + 1) hx hb hX hbl hbA hS (by omega) hL (by omega) e1 dL_law_1127 ?_
  refine lv_aload_n hx hb dL_law_1128 rfl (lv_at hl 3 rfl) ?_
  refine l_callS (As := [.ref (ad 0), .int (i32 y1), .ref (ad 290)]) (rest := []) (κ := fun v q => some (v, q)) (r := (k, σ1)) X Y Z hW hS hl.1 cw_L_undo hdn_L_undo ⟨rfl, rfl, (Nat.le_of_ble_eq_true rfl), (Nat.le_of_ble_eq_true rfl)⟩ (fun v σ2 q => ok_L_undo hy1 q hst) (by rw [hk]; rfl) rfl rfl (Nat.le_of_ble_eq_true rfl) dL_law_1129 ⟨hce, hsl⟩ (fun v s1 H locs hv hW1 hS1 hf => ?_)
  cases hf
  refine lv_istore (lv' := [(5, .int (i32 k)), (0, .ref b), (1, .ref (ad 0)), (2, .ref (ad 230)), (3, .ref (ad 290)), (4, .int (i32 (i0 : Int)))]) hx hb dL_law_1132 hl (by decide) rfl (fun ls hl => ?_)
  refine lv_aload_n hx hb dL_law_1134 rfl (lv_at hl 3 rfl) ?_
  refine lv_aload_n hx hb dL_law_1135 rfl (lv_at hl 1 rfl) ?_
  refine lv_iload hx hb dL_law_1136 (lv_at hl 5 rfl) ?_
  refine m_const (v := 1) hx hb dL_law_1138 rfl ?_
  refine m_add hx hb dL_law_1139 ?_
  refine m_sld (j := i0 + 1) hx hb hX hbl hbA hS1 (by omega) hL (by omega) e1 dL_law_1140 ?_
  refine m_callVi (z := false) (As := [.int (i32 y1)]) (rest := []) (k := fun v q => some (v, q)) (r := (v, σ2)) X hW1 hS1 hl.1 gc_L_204 hd_X6_undo ⟨rfl, rfl, (Nat.le_of_ble_eq_true rfl), (Nat.le_of_ble_eq_true rfl)⟩ (rc_X6 X hW1) (fun v s2 q => ok_X6_undo hy1 q) (by rw [hm]; rfl) rfl rfl (Nat.le_of_ble_eq_true rfl) dL_law_1141 ⟨hce, hsl⟩ (fun w s2 H locs hv2 z2 hW2 hS2 hf => ?_)
  cases hf
  refine lv_istore (lv' := [(6, .int (i32 v)), (5, .int (i32 k)), (0, .ref b), (1, .ref (ad 0)), (2, .ref (ad 230)), (3, .ref (ad 290)), (4, .int (i32 (i0 : Int)))]) hx hb dL_law_1144 hl (by decide) rfl (fun ls hl => ?_)
  refine lv_aload_n hx hb dL_law_1146 rfl (lv_at hl 4 rfl) ?_
  refine m_callVi1 (z := false) (As := []) (rest := []) (k := fun v => some v) (r := k) X hW2 hS2 hl.1 gc_L_160 hd_X6_thrown ⟨rfl, rfl, (Nat.le_of_ble_eq_true rfl), (Nat.le_of_ble_eq_true rfl)⟩ (rc_X6 X hW2) (fun v q => ok_X6_thrown  q) (by rw [ht]; rfl) rfl rfl (Nat.le_of_ble_eq_true rfl) dL_law_1147 ⟨hce, hsl⟩ (fun v H locs hv3 z3 hW3 hS3 hf => ?_)
  cases hf
  refine lv_iload hx hb dL_law_1150 (lv_at hl 1 rfl) ?_
  refine lv_icmp_eq (tgt := 1157) hx hb dL_law_1152 (by decide) (fun _ => ?_) (fun q => absurd rfl q)
  refine lv_iload hx hb dL_law_1157 (lv_at hl 1 rfl) ?_
  refine lv_if_ne (tgt := 1174) hx hb dL_law_1159 (by decide) (fun qk => ?_) (fun qk => ?_)
  · refine lv_goto (tgt := 3020) hx hb dL_law_1174 (by decide) ?_
    exact kk _ _ _ hW3 hS3 (lv_sub hl [2, 3, 4, 5, 6] rfl)
  · have qk := (i32_eq hv z0).mp qk
    refine lv_aload_n hx hb dL_law_1162 rfl (lv_at hl 5 rfl) ?_
    refine m_const (v := 0) hx hb dL_law_1163 rfl ?_
    refine m_lald X hW3 dL_law_1164 ?_
    refine lv_iload hx hb dL_law_1165 (lv_at hl 0 rfl) ?_
    refine m_i2l hx hb hv2 dL_law_1167 ?_
    refine m_lcmp hx hb (hW3.2.1 _ _) hv2 dL_law_1168 ?_
    refine lv_if_eq (tgt := 1174) hx hb dL_law_1169 (by decide) (fun _ => ?_) (fun q => absurd (by rw [ho qk]; unfold lcm; rw [if_neg (Int.lt_irrefl _), if_pos rfl]; rfl) q)
    refine lv_goto (tgt := 3020) hx hb dL_law_1174 (by decide) ?_
    exact kk _ _ _ hW3 hS3 (lv_sub hl [2, 3, 4, 5, 6] rfl)
set_option maxRecDepth 100000 in
set_option maxHeartbeats 4000000 in
theorem case_redo {p : Program} {l : Launch} {e : Env} {s : State} {m : MethodId} {args : Array Value} {below : List Frame} {meth : Method} {c : Code} {H : Heap} {locs : List Loc} {cells slots : Nat} {Q : State → Prop} {D : va_G} {cy : Nat → ClassId} {ad : Nat → Nat} {nm nv : Nat} {A : Nat → Prop} {σ : St} {ls : Array Slot} {b L i0 : Nat} {xs : Nat → Int32} {y1 y2 y3 k v : Int} {σ1 σ2 : St} {n : Nat} (X : Cx p s m args c cL_law 7 RL D cy ad nm nv A) (Y : TX A s) (Z : NCs s) (hst : l.stackTraces = false) (hX : va_X b L xs s s.heap) (hbl : b < s.heap.size) (hbA : ¬ A b) (hL : L ≤ 2048) (hiL : i0 + 4 ≤ L) (e1 : (xs (i0 + 1)).toInt = y1) (e2 : (xs (i0 + 2)).toInt = y2) (e3 : (xs (i0 + 3)).toInt = y3) (hW : Wd D cy ad nm nv σ H) (hS : va_S A s.heap H locs) (hl : lv_has ls 7 [(0, .ref b), (1, .ref (ad 0)), (2, .ref (ad 230)), (3, .ref (ad 290)), (4, .int (i32 (i0 : Int)))]) (hce : cells + 2 ≤ 601024) (hsl : slots + 12 ≤ 7293034) (hk : fL_redo n σ y1 = some (k, σ1)) (hm : fX6_redo n σ1 y1 = some (v, σ2)) (ht : fX6_thrown σ2 = some k) (ho : k = 0 → (σ2 290 0) = v) (kk : ∀ (H1 : Heap) (locs1 : List Loc) (ls1 : Array Slot), Wd D cy ad nm nv σ2 H1 → va_S A s.heap H1 locs1 → lv_has ls1 7 [(0, .ref b), (1, .ref (ad 0)), (2, .ref (ad 230)), (3, .ref (ad 290)), (4, .int (i32 (i0 : Int)))] → W p l e room_1 s m args below meth c H1 locs1 (cells + 2) (slots + 12) Q (F0 m 3020 ls1 [])) : W p l e room_1 s m args below meth c H locs cells slots Q (F0 m 1177 ls []) := by
  have hx := X.1
  have hb := X.2.1
  have hi0 : inR (i0 : Int) := ⟨by omega, by omega⟩
  have hy1 : inR y1 := by rw [← e1]; exact i32_inR _
  have hy2 : inR y2 := by rw [← e2]; exact i32_inR _
  have hy3 : inR y3 := by rw [← e3]; exact i32_inR _
  refine lv_aload_n hx hb dL_law_1177 rfl (lv_at hl 1 rfl) ?_
  refine lv_aload_n hx hb dL_law_1178 rfl (lv_at hl 0 rfl) ?_
  refine lv_iload hx hb dL_law_1179 (lv_at hl 4 rfl) ?_
  refine m_const (v := 1) hx hb dL_law_1181 rfl ?_
  refine m_add hx hb dL_law_1182 ?_
  refine m_sld (j := i0 + 1) hx hb hX hbl hbA hS (by omega) hL (by omega) e1 dL_law_1183 ?_
  refine lv_aload_n hx hb dL_law_1184 rfl (lv_at hl 3 rfl) ?_
  refine l_callS (As := [.ref (ad 0), .int (i32 y1), .ref (ad 290)]) (rest := []) (κ := fun v q => some (v, q)) (r := (k, σ1)) X Y Z hW hS hl.1 cw_L_redo hdn_L_redo ⟨rfl, rfl, (Nat.le_of_ble_eq_true rfl), (Nat.le_of_ble_eq_true rfl)⟩ (fun v σ2 q => ok_L_redo hy1 q hst) (by rw [hk]; rfl) rfl rfl (Nat.le_of_ble_eq_true rfl) dL_law_1185 ⟨hce, hsl⟩ (fun v s1 H locs hv hW1 hS1 hf => ?_)
  cases hf
  refine lv_istore (lv' := [(5, .int (i32 k)), (0, .ref b), (1, .ref (ad 0)), (2, .ref (ad 230)), (3, .ref (ad 290)), (4, .int (i32 (i0 : Int)))]) hx hb dL_law_1188 hl (by decide) rfl (fun ls hl => ?_)
  refine lv_aload_n hx hb dL_law_1190 rfl (lv_at hl 3 rfl) ?_
  refine lv_aload_n hx hb dL_law_1191 rfl (lv_at hl 1 rfl) ?_
  refine lv_iload hx hb dL_law_1192 (lv_at hl 5 rfl) ?_
  refine m_const (v := 1) hx hb dL_law_1194 rfl ?_
  refine m_add hx hb dL_law_1195 ?_
  refine m_sld (j := i0 + 1) hx hb hX hbl hbA hS1 (by omega) hL (by omega) e1 dL_law_1196 ?_
  refine m_callVi (z := false) (As := [.int (i32 y1)]) (rest := []) (k := fun v q => some (v, q)) (r := (v, σ2)) X hW1 hS1 hl.1 gc_L_207 hd_X6_redo ⟨rfl, rfl, (Nat.le_of_ble_eq_true rfl), (Nat.le_of_ble_eq_true rfl)⟩ (rc_X6 X hW1) (fun v s2 q => ok_X6_redo hy1 q) (by rw [hm]; rfl) rfl rfl (Nat.le_of_ble_eq_true rfl) dL_law_1197 ⟨hce, hsl⟩ (fun w s2 H locs hv2 z2 hW2 hS2 hf => ?_)
  cases hf
  refine lv_istore (lv' := [(6, .int (i32 v)), (5, .int (i32 k)), (0, .ref b), (1, .ref (ad 0)), (2, .ref (ad 230)), (3, .ref (ad 290)), (4, .int (i32 (i0 : Int)))]) hx hb dL_law_1200 hl (by decide) rfl (fun ls hl => ?_)
  refine lv_aload_n hx hb dL_law_1202 rfl (lv_at hl 4 rfl) ?_
  refine m_callVi1 (z := false) (As := []) (rest := []) (k := fun v => some v) (r := k) X hW2 hS2 hl.1 gc_L_160 hd_X6_thrown ⟨rfl, rfl, (Nat.le_of_ble_eq_true rfl), (Nat.le_of_ble_eq_true rfl)⟩ (rc_X6 X hW2) (fun v q => ok_X6_thrown  q) (by rw [ht]; rfl) rfl rfl (Nat.le_of_ble_eq_true rfl) dL_law_1203 ⟨hce, hsl⟩ (fun v H locs hv3 z3 hW3 hS3 hf => ?_)
  cases hf
  refine lv_iload hx hb dL_law_1206 (lv_at hl 1 rfl) ?_
  refine lv_icmp_eq (tgt := 1213) hx hb dL_law_1208 (by decide) (fun _ => ?_) (fun q => absurd rfl q)
  refine lv_iload hx hb dL_law_1213 (lv_at hl 1 rfl) ?_
  refine lv_if_ne (tgt := 1230) hx hb dL_law_1215 (by decide) (fun qk => ?_) (fun qk => ?_)
  · refine lv_goto (tgt := 3020) hx hb dL_law_1230 (by decide) ?_
    exact kk _ _ _ hW3 hS3 (lv_sub hl [2, 3, 4, 5, 6] rfl)
  · have qk := (i32_eq hv z0).mp qk
    refine lv_aload_n hx hb dL_law_1218 rfl (lv_at hl 5 rfl) ?_
    refine m_const (v := 0) hx hb dL_law_1219 rfl ?_
    refine m_lald X hW3 dL_law_1220 ?_
    refine lv_iload hx hb dL_law_1221 (lv_at hl 0 rfl) ?_
    refine m_i2l hx hb hv2 dL_law_1223 ?_
    refine m_lcmp hx hb (hW3.2.1 _ _) hv2 dL_law_1224 ?_
    refine lv_if_eq (tgt := 1230) hx hb dL_law_1225 (by decide) (fun _ => ?_) (fun q => absurd (by rw [ho qk]; unfold lcm; rw [if_neg (Int.lt_irrefl _), if_pos rfl]; rfl) q)
    refine lv_goto (tgt := 3020) hx hb dL_law_1230 (by decide) ?_
    exact kk _ _ _ hW3 hS3 (lv_sub hl [2, 3, 4, 5, 6] rfl)
set_option maxRecDepth 100000 in
set_option maxHeartbeats 4000000 in
theorem case_deliver {p : Program} {l : Launch} {e : Env} {s : State} {m : MethodId} {args : Array Value} {below : List Frame} {meth : Method} {c : Code} {H : Heap} {locs : List Loc} {cells slots : Nat} {Q : State → Prop} {D : va_G} {cy : Nat → ClassId} {ad : Nat → Nat} {nm nv : Nat} {A : Nat → Prop} {σ : St} {ls : Array Slot} {b L i0 : Nat} {xs : Nat → Int32} {y1 y2 y3 k v : Int} {σ1 σ2 : St} {n : Nat} (X : Cx p s m args c cL_law 7 RL D cy ad nm nv A) (Y : TX A s) (Z : NCs s) (hst : l.stackTraces = false) (hX : va_X b L xs s s.heap) (hbl : b < s.heap.size) (hbA : ¬ A b) (hL : L ≤ 2048) (hiL : i0 + 4 ≤ L) (e1 : (xs (i0 + 1)).toInt = y1) (e2 : (xs (i0 + 2)).toInt = y2) (e3 : (xs (i0 + 3)).toInt = y3) (hW : Wd D cy ad nm nv σ H) (hS : va_S A s.heap H locs) (hl : lv_has ls 7 [(0, .ref b), (1, .ref (ad 0)), (2, .ref (ad 230)), (3, .ref (ad 290)), (4, .int (i32 (i0 : Int)))]) (hce : cells + 2 ≤ 601024) (hsl : slots + 12 ≤ 7293034) (hk : fL_deliver n σ y1 = some (k, σ1)) (hm : fX6_deliver n σ1 y1 = some (v, σ2)) (ht : fX6_thrown σ2 = some k) (ho : k = 0 → (σ2 290 0) = v) (kk : ∀ (H1 : Heap) (locs1 : List Loc) (ls1 : Array Slot), Wd D cy ad nm nv σ2 H1 → va_S A s.heap H1 locs1 → lv_has ls1 7 [(0, .ref b), (1, .ref (ad 0)), (2, .ref (ad 230)), (3, .ref (ad 290)), (4, .int (i32 (i0 : Int)))] → W p l e room_1 s m args below meth c H1 locs1 (cells + 2) (slots + 12) Q (F0 m 3020 ls1 [])) : W p l e room_1 s m args below meth c H locs cells slots Q (F0 m 1301 ls []) := by
  have hx := X.1
  have hb := X.2.1
  have hi0 : inR (i0 : Int) := ⟨by omega, by omega⟩
  have hy1 : inR y1 := by rw [← e1]; exact i32_inR _
  have hy2 : inR y2 := by rw [← e2]; exact i32_inR _
  have hy3 : inR y3 := by rw [← e3]; exact i32_inR _
  refine lv_aload_n hx hb dL_law_1301 rfl (lv_at hl 1 rfl) ?_
  refine lv_aload_n hx hb dL_law_1302 rfl (lv_at hl 0 rfl) ?_
  refine lv_iload hx hb dL_law_1303 (lv_at hl 4 rfl) ?_
  refine m_const (v := 1) hx hb dL_law_1305 rfl ?_
  refine m_add hx hb dL_law_1306 ?_
  refine m_sld (j := i0 + 1) hx hb hX hbl hbA hS (by omega) hL (by omega) e1 dL_law_1307 ?_
  refine lv_aload_n hx hb dL_law_1308 rfl (lv_at hl 3 rfl) ?_
  refine l_callS (As := [.ref (ad 0), .int (i32 y1), .ref (ad 290)]) (rest := []) (κ := fun v q => some (v, q)) (r := (k, σ1)) X Y Z hW hS hl.1 cw_L_deliver hdn_L_deliver ⟨rfl, rfl, (Nat.le_of_ble_eq_true rfl), (Nat.le_of_ble_eq_true rfl)⟩ (fun v σ2 q => ok_L_deliver hy1 q hst) (by rw [hk]; rfl) rfl rfl (Nat.le_of_ble_eq_true rfl) dL_law_1309 ⟨hce, hsl⟩ (fun v s1 H locs hv hW1 hS1 hf => ?_)
  cases hf
  refine lv_istore (lv' := [(5, .int (i32 k)), (0, .ref b), (1, .ref (ad 0)), (2, .ref (ad 230)), (3, .ref (ad 290)), (4, .int (i32 (i0 : Int)))]) hx hb dL_law_1312 hl (by decide) rfl (fun ls hl => ?_)
  refine lv_aload_n hx hb dL_law_1314 rfl (lv_at hl 3 rfl) ?_
  refine lv_aload_n hx hb dL_law_1315 rfl (lv_at hl 1 rfl) ?_
  refine lv_iload hx hb dL_law_1316 (lv_at hl 5 rfl) ?_
  refine m_const (v := 1) hx hb dL_law_1318 rfl ?_
  refine m_add hx hb dL_law_1319 ?_
  refine m_sld (j := i0 + 1) hx hb hX hbl hbA hS1 (by omega) hL (by omega) e1 dL_law_1320 ?_
  refine m_callVi (z := false) (As := [.int (i32 y1)]) (rest := []) (k := fun v q => some (v, q)) (r := (v, σ2)) X hW1 hS1 hl.1 gc_L_213 hd_X6_deliver ⟨rfl, rfl, (Nat.le_of_ble_eq_true rfl), (Nat.le_of_ble_eq_true rfl)⟩ (rc_X6 X hW1) (fun v s2 q => ok_X6_deliver hy1 q) (by rw [hm]; rfl) rfl rfl (Nat.le_of_ble_eq_true rfl) dL_law_1321 ⟨hce, hsl⟩ (fun w s2 H locs hv2 z2 hW2 hS2 hf => ?_)
  cases hf
  refine lv_istore (lv' := [(6, .int (i32 v)), (5, .int (i32 k)), (0, .ref b), (1, .ref (ad 0)), (2, .ref (ad 230)), (3, .ref (ad 290)), (4, .int (i32 (i0 : Int)))]) hx hb dL_law_1324 hl (by decide) rfl (fun ls hl => ?_)
  refine lv_aload_n hx hb dL_law_1326 rfl (lv_at hl 4 rfl) ?_
  refine m_callVi1 (z := false) (As := []) (rest := []) (k := fun v => some v) (r := k) X hW2 hS2 hl.1 gc_L_160 hd_X6_thrown ⟨rfl, rfl, (Nat.le_of_ble_eq_true rfl), (Nat.le_of_ble_eq_true rfl)⟩ (rc_X6 X hW2) (fun v q => ok_X6_thrown  q) (by rw [ht]; rfl) rfl rfl (Nat.le_of_ble_eq_true rfl) dL_law_1327 ⟨hce, hsl⟩ (fun v H locs hv3 z3 hW3 hS3 hf => ?_)
  cases hf
  refine lv_iload hx hb dL_law_1330 (lv_at hl 1 rfl) ?_
  refine lv_icmp_eq (tgt := 1337) hx hb dL_law_1332 (by decide) (fun _ => ?_) (fun q => absurd rfl q)
  refine lv_iload hx hb dL_law_1337 (lv_at hl 1 rfl) ?_
  refine lv_if_ne (tgt := 1354) hx hb dL_law_1339 (by decide) (fun qk => ?_) (fun qk => ?_)
  · refine lv_goto (tgt := 3020) hx hb dL_law_1354 (by decide) ?_
    exact kk _ _ _ hW3 hS3 (lv_sub hl [2, 3, 4, 5, 6] rfl)
  · have qk := (i32_eq hv z0).mp qk
    refine lv_aload_n hx hb dL_law_1342 rfl (lv_at hl 5 rfl) ?_
    refine m_const (v := 0) hx hb dL_law_1343 rfl ?_
    refine m_lald X hW3 dL_law_1344 ?_
    refine lv_iload hx hb dL_law_1345 (lv_at hl 0 rfl) ?_
    refine m_i2l hx hb hv2 dL_law_1347 ?_
    refine m_lcmp hx hb (hW3.2.1 _ _) hv2 dL_law_1348 ?_
    refine lv_if_eq (tgt := 1354) hx hb dL_law_1349 (by decide) (fun _ => ?_) (fun q => absurd (by rw [ho qk]; unfold lcm; rw [if_neg (Int.lt_irrefl _), if_pos rfl]; rfl) q)
    refine lv_goto (tgt := 3020) hx hb dL_law_1354 (by decide) ?_
    exact kk _ _ _ hW3 hS3 (lv_sub hl [2, 3, 4, 5, 6] rfl)
set_option maxRecDepth 100000 in
set_option maxHeartbeats 4000000 in
theorem case_save {p : Program} {l : Launch} {e : Env} {s : State} {m : MethodId} {args : Array Value} {below : List Frame} {meth : Method} {c : Code} {H : Heap} {locs : List Loc} {cells slots : Nat} {Q : State → Prop} {D : va_G} {cy : Nat → ClassId} {ad : Nat → Nat} {nm nv : Nat} {A : Nat → Prop} {σ : St} {ls : Array Slot} {b L i0 : Nat} {xs : Nat → Int32} {y1 y2 y3 k v : Int} {σ1 σ2 : St} (X : Cx p s m args c cL_law 7 RL D cy ad nm nv A) (Y : TX A s) (Z : NCs s) (hst : l.stackTraces = false) (hX : va_X b L xs s s.heap) (hbl : b < s.heap.size) (hbA : ¬ A b) (hL : L ≤ 2048) (hiL : i0 + 4 ≤ L) (e1 : (xs (i0 + 1)).toInt = y1) (e2 : (xs (i0 + 2)).toInt = y2) (e3 : (xs (i0 + 3)).toInt = y3) (hW : Wd D cy ad nm nv σ H) (hS : va_S A s.heap H locs) (hl : lv_has ls 7 [(0, .ref b), (1, .ref (ad 0)), (2, .ref (ad 230)), (3, .ref (ad 290)), (4, .int (i32 (i0 : Int)))]) (hce : cells + 1 ≤ 601024) (hsl : slots + 6 ≤ 7293034) (hk : fL_save σ y1 = some (k, σ1)) (hm : fX6_save σ1 y1 = some (v, σ2)) (ht : fX6_thrown σ2 = some k) (ho : k = 0 → (σ2 290 0) = v) (kk : ∀ (H1 : Heap) (locs1 : List Loc) (ls1 : Array Slot), Wd D cy ad nm nv σ2 H1 → va_S A s.heap H1 locs1 → lv_has ls1 7 [(0, .ref b), (1, .ref (ad 0)), (2, .ref (ad 230)), (3, .ref (ad 290)), (4, .int (i32 (i0 : Int)))] → W p l e room_1 s m args below meth c H1 locs1 (cells + 1) (slots + 6) Q (F0 m 3020 ls1 [])) : W p l e room_1 s m args below meth c H locs cells slots Q (F0 m 1357 ls []) := by
  have hx := X.1
  have hb := X.2.1
  have hi0 : inR (i0 : Int) := ⟨by omega, by omega⟩
  have hy1 : inR y1 := by rw [← e1]; exact i32_inR _
  have hy2 : inR y2 := by rw [← e2]; exact i32_inR _
  have hy3 : inR y3 := by rw [← e3]; exact i32_inR _
  refine lv_aload_n hx hb dL_law_1357 rfl (lv_at hl 1 rfl) ?_
  refine lv_aload_n hx hb dL_law_1358 rfl (lv_at hl 0 rfl) ?_
  refine lv_iload hx hb dL_law_1359 (lv_at hl 4 rfl) ?_
  refine m_const (v := 1) hx hb dL_law_1361 rfl ?_
  refine m_add hx hb dL_law_1362 ?_
  refine m_sld (j := i0 + 1) hx hb hX hbl hbA hS (by omega) hL (by omega) e1 dL_law_1363 ?_
  refine lv_aload_n hx hb dL_law_1364 rfl (lv_at hl 3 rfl) ?_
  refine l_callS (As := [.ref (ad 0), .int (i32 y1), .ref (ad 290)]) (rest := []) (κ := fun v q => some (v, q)) (r := (k, σ1)) X Y Z hW hS hl.1 cw_L_save hdn_L_save ⟨rfl, rfl, (Nat.le_of_ble_eq_true rfl), (Nat.le_of_ble_eq_true rfl)⟩ (fun v σ2 q => ok_L_save hy1 q hst) (by rw [hk]; rfl) rfl rfl (Nat.le_of_ble_eq_true rfl) dL_law_1365 ⟨hce, hsl⟩ (fun v s1 H locs hv hW1 hS1 hf => ?_)
  cases hf
  refine lv_istore (lv' := [(5, .int (i32 k)), (0, .ref b), (1, .ref (ad 0)), (2, .ref (ad 230)), (3, .ref (ad 290)), (4, .int (i32 (i0 : Int)))]) hx hb dL_law_1368 hl (by decide) rfl (fun ls hl => ?_)
  refine lv_aload_n hx hb dL_law_1370 rfl (lv_at hl 3 rfl) ?_
  refine lv_aload_n hx hb dL_law_1371 rfl (lv_at hl 1 rfl) ?_
  refine lv_iload hx hb dL_law_1372 (lv_at hl 5 rfl) ?_
  refine m_const (v := 1) hx hb dL_law_1374 rfl ?_
  refine m_add hx hb dL_law_1375 ?_
  refine m_sld (j := i0 + 1) hx hb hX hbl hbA hS1 (by omega) hL (by omega) e1 dL_law_1376 ?_
  refine m_callVi (z := false) (As := [.int (i32 y1)]) (rest := []) (k := fun v q => some (v, q)) (r := (v, σ2)) X hW1 hS1 hl.1 gc_L_216 hd_X6_save ⟨rfl, rfl, (Nat.le_of_ble_eq_true rfl), (Nat.le_of_ble_eq_true rfl)⟩ (rc_X6 X hW1) (fun v s2 q => ok_X6_save hy1 q) (by rw [hm]; rfl) rfl rfl (Nat.le_of_ble_eq_true rfl) dL_law_1377 ⟨hce, hsl⟩ (fun w s2 H locs hv2 z2 hW2 hS2 hf => ?_)
  cases hf
  refine lv_istore (lv' := [(6, .int (i32 v)), (5, .int (i32 k)), (0, .ref b), (1, .ref (ad 0)), (2, .ref (ad 230)), (3, .ref (ad 290)), (4, .int (i32 (i0 : Int)))]) hx hb dL_law_1380 hl (by decide) rfl (fun ls hl => ?_)
  refine lv_aload_n hx hb dL_law_1382 rfl (lv_at hl 4 rfl) ?_
  refine m_callVi1 (z := false) (As := []) (rest := []) (k := fun v => some v) (r := k) X hW2 hS2 hl.1 gc_L_160 hd_X6_thrown ⟨rfl, rfl, (Nat.le_of_ble_eq_true rfl), (Nat.le_of_ble_eq_true rfl)⟩ (rc_X6 X hW2) (fun v q => ok_X6_thrown  q) (by rw [ht]; rfl) rfl rfl (Nat.le_of_ble_eq_true rfl) dL_law_1383 ⟨hce, hsl⟩ (fun v H locs hv3 z3 hW3 hS3 hf => ?_)
  cases hf
  refine lv_iload hx hb dL_law_1386 (lv_at hl 1 rfl) ?_
  refine lv_icmp_eq (tgt := 1393) hx hb dL_law_1388 (by decide) (fun _ => ?_) (fun q => absurd rfl q)
  refine lv_iload hx hb dL_law_1393 (lv_at hl 1 rfl) ?_
  refine lv_if_ne (tgt := 1410) hx hb dL_law_1395 (by decide) (fun qk => ?_) (fun qk => ?_)
  · refine lv_goto (tgt := 3020) hx hb dL_law_1410 (by decide) ?_
    exact kk _ _ _ hW3 hS3 (lv_sub hl [2, 3, 4, 5, 6] rfl)
  · have qk := (i32_eq hv z0).mp qk
    refine lv_aload_n hx hb dL_law_1398 rfl (lv_at hl 5 rfl) ?_
    refine m_const (v := 0) hx hb dL_law_1399 rfl ?_
    refine m_lald X hW3 dL_law_1400 ?_
    refine lv_iload hx hb dL_law_1401 (lv_at hl 0 rfl) ?_
    refine m_i2l hx hb hv2 dL_law_1403 ?_
    refine m_lcmp hx hb (hW3.2.1 _ _) hv2 dL_law_1404 ?_
    refine lv_if_eq (tgt := 1410) hx hb dL_law_1405 (by decide) (fun _ => ?_) (fun q => absurd (by rw [ho qk]; unfold lcm; rw [if_neg (Int.lt_irrefl _), if_pos rfl]; rfl) q)
    refine lv_goto (tgt := 3020) hx hb dL_law_1410 (by decide) ?_
    exact kk _ _ _ hW3 hS3 (lv_sub hl [2, 3, 4, 5, 6] rfl)
set_option maxRecDepth 100000 in
set_option maxHeartbeats 4000000 in
theorem case_crash {p : Program} {l : Launch} {e : Env} {s : State} {m : MethodId} {args : Array Value} {below : List Frame} {meth : Method} {c : Code} {H : Heap} {locs : List Loc} {cells slots : Nat} {Q : State → Prop} {D : va_G} {cy : Nat → ClassId} {ad : Nat → Nat} {nm nv : Nat} {A : Nat → Prop} {σ : St} {ls : Array Slot} {b L i0 : Nat} {xs : Nat → Int32} {y1 y2 y3 k v : Int} {σ1 σ2 : St} {n : Nat} (X : Cx p s m args c cL_law 7 RL D cy ad nm nv A) (Y : TX A s) (Z : NCs s) (hst : l.stackTraces = false) (hX : va_X b L xs s s.heap) (hbl : b < s.heap.size) (hbA : ¬ A b) (hL : L ≤ 2048) (hiL : i0 + 4 ≤ L) (e1 : (xs (i0 + 1)).toInt = y1) (e2 : (xs (i0 + 2)).toInt = y2) (e3 : (xs (i0 + 3)).toInt = y3) (hW : Wd D cy ad nm nv σ H) (hS : va_S A s.heap H locs) (hl : lv_has ls 7 [(0, .ref b), (1, .ref (ad 0)), (2, .ref (ad 230)), (3, .ref (ad 290)), (4, .int (i32 (i0 : Int)))]) (hce : cells + 2 ≤ 601024) (hsl : slots + 12 ≤ 7293034) (hk : fL_crash n σ y1 y2 = some (k, σ1)) (hm : fX6_crash n σ1 y1 y2 = some (v, σ2)) (ht : fX6_thrown σ2 = some k) (ho : k = 0 → (σ2 290 0) = v) (kk : ∀ (H1 : Heap) (locs1 : List Loc) (ls1 : Array Slot), Wd D cy ad nm nv σ2 H1 → va_S A s.heap H1 locs1 → lv_has ls1 7 [(0, .ref b), (1, .ref (ad 0)), (2, .ref (ad 230)), (3, .ref (ad 290)), (4, .int (i32 (i0 : Int)))] → W p l e room_1 s m args below meth c H1 locs1 (cells + 2) (slots + 12) Q (F0 m 3020 ls1 [])) : W p l e room_1 s m args below meth c H locs cells slots Q (F0 m 1413 ls []) := by
  have hx := X.1
  have hb := X.2.1
  have hi0 : inR (i0 : Int) := ⟨by omega, by omega⟩
  have hy1 : inR y1 := by rw [← e1]; exact i32_inR _
  have hy2 : inR y2 := by rw [← e2]; exact i32_inR _
  have hy3 : inR y3 := by rw [← e3]; exact i32_inR _
  refine lv_aload_n hx hb dL_law_1413 rfl (lv_at hl 1 rfl) ?_
  refine lv_aload_n hx hb dL_law_1414 rfl (lv_at hl 0 rfl) ?_
  refine lv_iload hx hb dL_law_1415 (lv_at hl 4 rfl) ?_
  refine m_const (v := 1) hx hb dL_law_1417 rfl ?_
  refine m_add hx hb dL_law_1418 ?_
  refine m_sld (j := i0 + 1) hx hb hX hbl hbA hS (by omega) hL (by omega) e1 dL_law_1419 ?_
  refine lv_aload_n hx hb dL_law_1420 rfl (lv_at hl 0 rfl) ?_
  refine lv_iload hx hb dL_law_1421 (lv_at hl 4 rfl) ?_
  refine m_const (v := 2) hx hb dL_law_1423 rfl ?_
  refine m_add hx hb dL_law_1424 ?_
  refine m_sld (j := i0 + 2) hx hb hX hbl hbA hS (by omega) hL (by omega) e2 dL_law_1425 ?_
  refine lv_aload_n hx hb dL_law_1426 rfl (lv_at hl 3 rfl) ?_
  refine l_callS (As := [.ref (ad 0), .int (i32 y1), .int (i32 y2), .ref (ad 290)]) (rest := []) (κ := fun v q => some (v, q)) (r := (k, σ1)) X Y Z hW hS hl.1 cw_L_crash hdn_L_crash ⟨rfl, rfl, (Nat.le_of_ble_eq_true rfl), (Nat.le_of_ble_eq_true rfl)⟩ (fun v σ2 q => ok_L_crash hy1 hy2 q hst) (by rw [hk]; rfl) rfl rfl (Nat.le_of_ble_eq_true rfl) dL_law_1427 ⟨hce, hsl⟩ (fun v s1 H locs hv hW1 hS1 hf => ?_)
  cases hf
  refine lv_istore (lv' := [(5, .int (i32 k)), (0, .ref b), (1, .ref (ad 0)), (2, .ref (ad 230)), (3, .ref (ad 290)), (4, .int (i32 (i0 : Int)))]) hx hb dL_law_1430 hl (by decide) rfl (fun ls hl => ?_)
  refine lv_aload_n hx hb dL_law_1432 rfl (lv_at hl 3 rfl) ?_
  refine lv_aload_n hx hb dL_law_1433 rfl (lv_at hl 1 rfl) ?_
  refine lv_iload hx hb dL_law_1434 (lv_at hl 5 rfl) ?_
  refine m_const (v := 1) hx hb dL_law_1436 rfl ?_
  refine m_add hx hb dL_law_1437 ?_
  refine m_sld (j := i0 + 1) hx hb hX hbl hbA hS1 (by omega) hL (by omega) e1 dL_law_1438 ?_
  refine lv_aload_n hx hb dL_law_1439 rfl (lv_at hl 1 rfl) ?_
  refine lv_iload hx hb dL_law_1440 (lv_at hl 5 rfl) ?_
  refine m_const (v := 2) hx hb dL_law_1442 rfl ?_
  refine m_add hx hb dL_law_1443 ?_
  refine m_sld (j := i0 + 2) hx hb hX hbl hbA hS1 (by omega) hL (by omega) e2 dL_law_1444 ?_
  refine m_callVi (z := false) (As := [.int (i32 y1), .int (i32 y2)]) (rest := []) (k := fun v q => some (v, q)) (r := (v, σ2)) X hW1 hS1 hl.1 gc_L_219 hd_X6_crash ⟨rfl, rfl, (Nat.le_of_ble_eq_true rfl), (Nat.le_of_ble_eq_true rfl)⟩ (rc_X6 X hW1) (fun v s2 q => ok_X6_crash hy1 hy2 q) (by rw [hm]; rfl) rfl rfl (Nat.le_of_ble_eq_true rfl) dL_law_1445 ⟨hce, hsl⟩ (fun w s2 H locs hv2 z2 hW2 hS2 hf => ?_)
  cases hf
  refine lv_istore (lv' := [(6, .int (i32 v)), (5, .int (i32 k)), (0, .ref b), (1, .ref (ad 0)), (2, .ref (ad 230)), (3, .ref (ad 290)), (4, .int (i32 (i0 : Int)))]) hx hb dL_law_1448 hl (by decide) rfl (fun ls hl => ?_)
  refine lv_aload_n hx hb dL_law_1450 rfl (lv_at hl 4 rfl) ?_
  refine m_callVi1 (z := false) (As := []) (rest := []) (k := fun v => some v) (r := k) X hW2 hS2 hl.1 gc_L_160 hd_X6_thrown ⟨rfl, rfl, (Nat.le_of_ble_eq_true rfl), (Nat.le_of_ble_eq_true rfl)⟩ (rc_X6 X hW2) (fun v q => ok_X6_thrown  q) (by rw [ht]; rfl) rfl rfl (Nat.le_of_ble_eq_true rfl) dL_law_1451 ⟨hce, hsl⟩ (fun v H locs hv3 z3 hW3 hS3 hf => ?_)
  cases hf
  refine lv_iload hx hb dL_law_1454 (lv_at hl 1 rfl) ?_
  refine lv_icmp_eq (tgt := 1461) hx hb dL_law_1456 (by decide) (fun _ => ?_) (fun q => absurd rfl q)
  refine lv_iload hx hb dL_law_1461 (lv_at hl 1 rfl) ?_
  refine lv_if_ne (tgt := 1478) hx hb dL_law_1463 (by decide) (fun qk => ?_) (fun qk => ?_)
  · refine lv_goto (tgt := 3020) hx hb dL_law_1478 (by decide) ?_
    exact kk _ _ _ hW3 hS3 (lv_sub hl [2, 3, 4, 5, 6] rfl)
  · have qk := (i32_eq hv z0).mp qk
    refine lv_aload_n hx hb dL_law_1466 rfl (lv_at hl 5 rfl) ?_
    refine m_const (v := 0) hx hb dL_law_1467 rfl ?_
    refine m_lald X hW3 dL_law_1468 ?_
    refine lv_iload hx hb dL_law_1469 (lv_at hl 0 rfl) ?_
    refine m_i2l hx hb hv2 dL_law_1471 ?_
    refine m_lcmp hx hb (hW3.2.1 _ _) hv2 dL_law_1472 ?_
    refine lv_if_eq (tgt := 1478) hx hb dL_law_1473 (by decide) (fun _ => ?_) (fun q => absurd (by rw [ho qk]; unfold lcm; rw [if_neg (Int.lt_irrefl _), if_pos rfl]; rfl) q)
    refine lv_goto (tgt := 3020) hx hb dL_law_1478 (by decide) ?_
    exact kk _ _ _ hW3 hS3 (lv_sub hl [2, 3, 4, 5, 6] rfl)
set_option maxRecDepth 100000 in
set_option maxHeartbeats 4000000 in
theorem case_bringBack {p : Program} {l : Launch} {e : Env} {s : State} {m : MethodId} {args : Array Value} {below : List Frame} {meth : Method} {c : Code} {H : Heap} {locs : List Loc} {cells slots : Nat} {Q : State → Prop} {D : va_G} {cy : Nat → ClassId} {ad : Nat → Nat} {nm nv : Nat} {A : Nat → Prop} {σ : St} {ls : Array Slot} {b L i0 : Nat} {xs : Nat → Int32} {y1 y2 y3 k v : Int} {σ1 σ2 : St} {n : Nat} (X : Cx p s m args c cL_law 7 RL D cy ad nm nv A) (Y : TX A s) (Z : NCs s) (hst : l.stackTraces = false) (hX : va_X b L xs s s.heap) (hbl : b < s.heap.size) (hbA : ¬ A b) (hL : L ≤ 2048) (hiL : i0 + 4 ≤ L) (e1 : (xs (i0 + 1)).toInt = y1) (e2 : (xs (i0 + 2)).toInt = y2) (e3 : (xs (i0 + 3)).toInt = y3) (hW : Wd D cy ad nm nv σ H) (hS : va_S A s.heap H locs) (hl : lv_has ls 7 [(0, .ref b), (1, .ref (ad 0)), (2, .ref (ad 230)), (3, .ref (ad 290)), (4, .int (i32 (i0 : Int)))]) (hce : cells + 3 ≤ 601024) (hsl : slots + 18 ≤ 7293034) (hk : fL_bringBack n σ y1 y2 = some (k, σ1)) (hm : fX6_bringBack n σ1 y1 y2 = some (v, σ2)) (ht : fX6_thrown σ2 = some k) (ho : k = 0 → (σ2 290 0) = v) (kk : ∀ (H1 : Heap) (locs1 : List Loc) (ls1 : Array Slot), Wd D cy ad nm nv σ2 H1 → va_S A s.heap H1 locs1 → lv_has ls1 7 [(0, .ref b), (1, .ref (ad 0)), (2, .ref (ad 230)), (3, .ref (ad 290)), (4, .int (i32 (i0 : Int)))] → W p l e room_1 s m args below meth c H1 locs1 (cells + 3) (slots + 18) Q (F0 m 3020 ls1 [])) : W p l e room_1 s m args below meth c H locs cells slots Q (F0 m 1537 ls []) := by
  have hx := X.1
  have hb := X.2.1
  have hi0 : inR (i0 : Int) := ⟨by omega, by omega⟩
  have hy1 : inR y1 := by rw [← e1]; exact i32_inR _
  have hy2 : inR y2 := by rw [← e2]; exact i32_inR _
  have hy3 : inR y3 := by rw [← e3]; exact i32_inR _
  refine lv_aload_n hx hb dL_law_1537 rfl (lv_at hl 1 rfl) ?_
  refine lv_aload_n hx hb dL_law_1538 rfl (lv_at hl 0 rfl) ?_
  refine lv_iload hx hb dL_law_1539 (lv_at hl 4 rfl) ?_
  refine m_const (v := 1) hx hb dL_law_1541 rfl ?_
  refine m_add hx hb dL_law_1542 ?_
  refine m_sld (j := i0 + 1) hx hb hX hbl hbA hS (by omega) hL (by omega) e1 dL_law_1543 ?_
  refine lv_aload_n hx hb dL_law_1544 rfl (lv_at hl 0 rfl) ?_
  refine lv_iload hx hb dL_law_1545 (lv_at hl 4 rfl) ?_
  refine m_const (v := 2) hx hb dL_law_1547 rfl ?_
  refine m_add hx hb dL_law_1548 ?_
  refine m_sld (j := i0 + 2) hx hb hX hbl hbA hS (by omega) hL (by omega) e2 dL_law_1549 ?_
  refine lv_aload_n hx hb dL_law_1550 rfl (lv_at hl 3 rfl) ?_
  refine l_callS (As := [.ref (ad 0), .int (i32 y1), .int (i32 y2), .ref (ad 290)]) (rest := []) (κ := fun v q => some (v, q)) (r := (k, σ1)) X Y Z hW hS hl.1 cw_L_bringBack hdn_L_bringBack ⟨rfl, rfl, (Nat.le_of_ble_eq_true rfl), (Nat.le_of_ble_eq_true rfl)⟩ (fun v σ2 q => ok_L_bringBack hy1 hy2 q hst) (by rw [hk]; rfl) rfl rfl (Nat.le_of_ble_eq_true rfl) dL_law_1551 ⟨hce, hsl⟩ (fun v s1 H locs hv hW1 hS1 hf => ?_)
  cases hf
  refine lv_istore (lv' := [(5, .int (i32 k)), (0, .ref b), (1, .ref (ad 0)), (2, .ref (ad 230)), (3, .ref (ad 290)), (4, .int (i32 (i0 : Int)))]) hx hb dL_law_1554 hl (by decide) rfl (fun ls hl => ?_)
  refine lv_aload_n hx hb dL_law_1556 rfl (lv_at hl 3 rfl) ?_
  refine lv_aload_n hx hb dL_law_1557 rfl (lv_at hl 1 rfl) ?_
  refine lv_iload hx hb dL_law_1558 (lv_at hl 5 rfl) ?_
  refine m_const (v := 1) hx hb dL_law_1560 rfl ?_
  refine m_add hx hb dL_law_1561 ?_
  refine m_sld (j := i0 + 1) hx hb hX hbl hbA hS1 (by omega) hL (by omega) e1 dL_law_1562 ?_
  refine lv_aload_n hx hb dL_law_1563 rfl (lv_at hl 1 rfl) ?_
  refine lv_iload hx hb dL_law_1564 (lv_at hl 5 rfl) ?_
  refine m_const (v := 2) hx hb dL_law_1566 rfl ?_
  refine m_add hx hb dL_law_1567 ?_
  refine m_sld (j := i0 + 2) hx hb hX hbl hbA hS1 (by omega) hL (by omega) e2 dL_law_1568 ?_
  refine m_callVi (z := false) (As := [.int (i32 y1), .int (i32 y2)]) (rest := []) (k := fun v q => some (v, q)) (r := (v, σ2)) X hW1 hS1 hl.1 gc_L_225 hd_X6_bringBack ⟨rfl, rfl, (Nat.le_of_ble_eq_true rfl), (Nat.le_of_ble_eq_true rfl)⟩ (rc_X6 X hW1) (fun v s2 q => ok_X6_bringBack hy1 hy2 q) (by rw [hm]; rfl) rfl rfl (Nat.le_of_ble_eq_true rfl) dL_law_1569 ⟨hce, hsl⟩ (fun w s2 H locs hv2 z2 hW2 hS2 hf => ?_)
  cases hf
  refine lv_istore (lv' := [(6, .int (i32 v)), (5, .int (i32 k)), (0, .ref b), (1, .ref (ad 0)), (2, .ref (ad 230)), (3, .ref (ad 290)), (4, .int (i32 (i0 : Int)))]) hx hb dL_law_1572 hl (by decide) rfl (fun ls hl => ?_)
  refine lv_aload_n hx hb dL_law_1574 rfl (lv_at hl 4 rfl) ?_
  refine m_callVi1 (z := false) (As := []) (rest := []) (k := fun v => some v) (r := k) X hW2 hS2 hl.1 gc_L_160 hd_X6_thrown ⟨rfl, rfl, (Nat.le_of_ble_eq_true rfl), (Nat.le_of_ble_eq_true rfl)⟩ (rc_X6 X hW2) (fun v q => ok_X6_thrown  q) (by rw [ht]; rfl) rfl rfl (Nat.le_of_ble_eq_true rfl) dL_law_1575 ⟨hce, hsl⟩ (fun v H locs hv3 z3 hW3 hS3 hf => ?_)
  cases hf
  refine lv_iload hx hb dL_law_1578 (lv_at hl 1 rfl) ?_
  refine lv_icmp_eq (tgt := 1585) hx hb dL_law_1580 (by decide) (fun _ => ?_) (fun q => absurd rfl q)
  refine lv_iload hx hb dL_law_1585 (lv_at hl 1 rfl) ?_
  refine lv_if_ne (tgt := 1602) hx hb dL_law_1587 (by decide) (fun qk => ?_) (fun qk => ?_)
  · refine lv_goto (tgt := 3020) hx hb dL_law_1602 (by decide) ?_
    exact kk _ _ _ hW3 hS3 (lv_sub hl [2, 3, 4, 5, 6] rfl)
  · have qk := (i32_eq hv z0).mp qk
    refine lv_aload_n hx hb dL_law_1590 rfl (lv_at hl 5 rfl) ?_
    refine m_const (v := 0) hx hb dL_law_1591 rfl ?_
    refine m_lald X hW3 dL_law_1592 ?_
    refine lv_iload hx hb dL_law_1593 (lv_at hl 0 rfl) ?_
    refine m_i2l hx hb hv2 dL_law_1595 ?_
    refine m_lcmp hx hb (hW3.2.1 _ _) hv2 dL_law_1596 ?_
    refine lv_if_eq (tgt := 1602) hx hb dL_law_1597 (by decide) (fun _ => ?_) (fun q => absurd (by rw [ho qk]; unfold lcm; rw [if_neg (Int.lt_irrefl _), if_pos rfl]; rfl) q)
    refine lv_goto (tgt := 3020) hx hb dL_law_1602 (by decide) ?_
    exact kk _ _ _ hW3 hS3 (lv_sub hl [2, 3, 4, 5, 6] rfl)
set_option maxRecDepth 100000 in
set_option maxHeartbeats 4000000 in
theorem case_differ {p : Program} {l : Launch} {e : Env} {s : State} {m : MethodId} {args : Array Value} {below : List Frame} {meth : Method} {c : Code} {H : Heap} {locs : List Loc} {cells slots : Nat} {Q : State → Prop} {D : va_G} {cy : Nat → ClassId} {ad : Nat → Nat} {nm nv : Nat} {A : Nat → Prop} {σ : St} {ls : Array Slot} {b L i0 : Nat} {xs : Nat → Int32} {y1 y2 y3 k v : Int} {σ1 σ2 : St} {n : Nat} (X : Cx p s m args c cL_law 7 RL D cy ad nm nv A) (Y : TX A s) (Z : NCs s) (hst : l.stackTraces = false) (hX : va_X b L xs s s.heap) (hbl : b < s.heap.size) (hbA : ¬ A b) (hL : L ≤ 2048) (hiL : i0 + 4 ≤ L) (e1 : (xs (i0 + 1)).toInt = y1) (e2 : (xs (i0 + 2)).toInt = y2) (e3 : (xs (i0 + 3)).toInt = y3) (hW : Wd D cy ad nm nv σ H) (hS : va_S A s.heap H locs) (hl : lv_has ls 7 [(0, .ref b), (1, .ref (ad 0)), (2, .ref (ad 230)), (3, .ref (ad 290)), (4, .int (i32 (i0 : Int)))]) (hce : cells + 2 ≤ 601024) (hsl : slots + 12 ≤ 7293034) (hk : fL_differ n σ y1 y2 = some (k, σ1)) (hm : fX6_differ n σ1 y1 y2 = some (v, σ2)) (ht : fX6_thrown σ2 = some k) (ho : k = 0 → (σ2 290 0) = v) (kk : ∀ (H1 : Heap) (locs1 : List Loc) (ls1 : Array Slot), Wd D cy ad nm nv σ2 H1 → va_S A s.heap H1 locs1 → lv_has ls1 7 [(0, .ref b), (1, .ref (ad 0)), (2, .ref (ad 230)), (3, .ref (ad 290)), (4, .int (i32 (i0 : Int)))] → W p l e room_1 s m args below meth c H1 locs1 (cells + 2) (slots + 12) Q (F0 m 3020 ls1 [])) : W p l e room_1 s m args below meth c H locs cells slots Q (F0 m 1605 ls []) := by
  have hx := X.1
  have hb := X.2.1
  have hi0 : inR (i0 : Int) := ⟨by omega, by omega⟩
  have hy1 : inR y1 := by rw [← e1]; exact i32_inR _
  have hy2 : inR y2 := by rw [← e2]; exact i32_inR _
  have hy3 : inR y3 := by rw [← e3]; exact i32_inR _
  refine lv_aload_n hx hb dL_law_1605 rfl (lv_at hl 1 rfl) ?_
  refine lv_aload_n hx hb dL_law_1606 rfl (lv_at hl 0 rfl) ?_
  refine lv_iload hx hb dL_law_1607 (lv_at hl 4 rfl) ?_
  refine m_const (v := 1) hx hb dL_law_1609 rfl ?_
  refine m_add hx hb dL_law_1610 ?_
  refine m_sld (j := i0 + 1) hx hb hX hbl hbA hS (by omega) hL (by omega) e1 dL_law_1611 ?_
  refine lv_aload_n hx hb dL_law_1612 rfl (lv_at hl 0 rfl) ?_
  refine lv_iload hx hb dL_law_1613 (lv_at hl 4 rfl) ?_
  refine m_const (v := 2) hx hb dL_law_1615 rfl ?_
  refine m_add hx hb dL_law_1616 ?_
  refine m_sld (j := i0 + 2) hx hb hX hbl hbA hS (by omega) hL (by omega) e2 dL_law_1617 ?_
  refine lv_aload_n hx hb dL_law_1618 rfl (lv_at hl 3 rfl) ?_
  refine l_callS (As := [.ref (ad 0), .int (i32 y1), .int (i32 y2), .ref (ad 290)]) (rest := []) (κ := fun v q => some (v, q)) (r := (k, σ1)) X Y Z hW hS hl.1 cw_L_differ hdn_L_differ ⟨rfl, rfl, (Nat.le_of_ble_eq_true rfl), (Nat.le_of_ble_eq_true rfl)⟩ (fun v σ2 q => ok_L_differ hy1 hy2 q hst) (by rw [hk]; rfl) rfl rfl (Nat.le_of_ble_eq_true rfl) dL_law_1619 ⟨hce, hsl⟩ (fun v s1 H locs hv hW1 hS1 hf => ?_)
  cases hf
  refine lv_istore (lv' := [(5, .int (i32 k)), (0, .ref b), (1, .ref (ad 0)), (2, .ref (ad 230)), (3, .ref (ad 290)), (4, .int (i32 (i0 : Int)))]) hx hb dL_law_1622 hl (by decide) rfl (fun ls hl => ?_)
  refine lv_aload_n hx hb dL_law_1624 rfl (lv_at hl 3 rfl) ?_
  refine lv_aload_n hx hb dL_law_1625 rfl (lv_at hl 1 rfl) ?_
  refine lv_iload hx hb dL_law_1626 (lv_at hl 5 rfl) ?_
  refine m_const (v := 1) hx hb dL_law_1628 rfl ?_
  refine m_add hx hb dL_law_1629 ?_
  refine m_sld (j := i0 + 1) hx hb hX hbl hbA hS1 (by omega) hL (by omega) e1 dL_law_1630 ?_
  refine lv_aload_n hx hb dL_law_1631 rfl (lv_at hl 1 rfl) ?_
  refine lv_iload hx hb dL_law_1632 (lv_at hl 5 rfl) ?_
  refine m_const (v := 2) hx hb dL_law_1634 rfl ?_
  refine m_add hx hb dL_law_1635 ?_
  refine m_sld (j := i0 + 2) hx hb hX hbl hbA hS1 (by omega) hL (by omega) e2 dL_law_1636 ?_
  refine m_callVi (z := false) (As := [.int (i32 y1), .int (i32 y2)]) (rest := []) (k := fun v q => some (v, q)) (r := (v, σ2)) X hW1 hS1 hl.1 gc_L_228 hd_X6_differ ⟨rfl, rfl, (Nat.le_of_ble_eq_true rfl), (Nat.le_of_ble_eq_true rfl)⟩ (rc_X6 X hW1) (fun v s2 q => ok_X6_differ hy1 hy2 q) (by rw [hm]; rfl) rfl rfl (Nat.le_of_ble_eq_true rfl) dL_law_1637 ⟨hce, hsl⟩ (fun w s2 H locs hv2 z2 hW2 hS2 hf => ?_)
  cases hf
  refine lv_istore (lv' := [(6, .int (i32 v)), (5, .int (i32 k)), (0, .ref b), (1, .ref (ad 0)), (2, .ref (ad 230)), (3, .ref (ad 290)), (4, .int (i32 (i0 : Int)))]) hx hb dL_law_1640 hl (by decide) rfl (fun ls hl => ?_)
  refine lv_aload_n hx hb dL_law_1642 rfl (lv_at hl 4 rfl) ?_
  refine m_callVi1 (z := false) (As := []) (rest := []) (k := fun v => some v) (r := k) X hW2 hS2 hl.1 gc_L_160 hd_X6_thrown ⟨rfl, rfl, (Nat.le_of_ble_eq_true rfl), (Nat.le_of_ble_eq_true rfl)⟩ (rc_X6 X hW2) (fun v q => ok_X6_thrown  q) (by rw [ht]; rfl) rfl rfl (Nat.le_of_ble_eq_true rfl) dL_law_1643 ⟨hce, hsl⟩ (fun v H locs hv3 z3 hW3 hS3 hf => ?_)
  cases hf
  refine lv_iload hx hb dL_law_1646 (lv_at hl 1 rfl) ?_
  refine lv_icmp_eq (tgt := 1653) hx hb dL_law_1648 (by decide) (fun _ => ?_) (fun q => absurd rfl q)
  refine lv_iload hx hb dL_law_1653 (lv_at hl 1 rfl) ?_
  refine lv_if_ne (tgt := 1670) hx hb dL_law_1655 (by decide) (fun qk => ?_) (fun qk => ?_)
  · refine lv_goto (tgt := 3020) hx hb dL_law_1670 (by decide) ?_
    exact kk _ _ _ hW3 hS3 (lv_sub hl [2, 3, 4, 5, 6] rfl)
  · have qk := (i32_eq hv z0).mp qk
    refine lv_aload_n hx hb dL_law_1658 rfl (lv_at hl 5 rfl) ?_
    refine m_const (v := 0) hx hb dL_law_1659 rfl ?_
    refine m_lald X hW3 dL_law_1660 ?_
    refine lv_iload hx hb dL_law_1661 (lv_at hl 0 rfl) ?_
    refine m_i2l hx hb hv2 dL_law_1663 ?_
    refine m_lcmp hx hb (hW3.2.1 _ _) hv2 dL_law_1664 ?_
    refine lv_if_eq (tgt := 1670) hx hb dL_law_1665 (by decide) (fun _ => ?_) (fun q => absurd (by rw [ho qk]; unfold lcm; rw [if_neg (Int.lt_irrefl _), if_pos rfl]; rfl) q)
    refine lv_goto (tgt := 3020) hx hb dL_law_1670 (by decide) ?_
    exact kk _ _ _ hW3 hS3 (lv_sub hl [2, 3, 4, 5, 6] rfl)
set_option maxRecDepth 100000 in
set_option maxHeartbeats 4000000 in
theorem case_length {p : Program} {l : Launch} {e : Env} {s : State} {m : MethodId} {args : Array Value} {below : List Frame} {meth : Method} {c : Code} {H : Heap} {locs : List Loc} {cells slots : Nat} {Q : State → Prop} {D : va_G} {cy : Nat → ClassId} {ad : Nat → Nat} {nm nv : Nat} {A : Nat → Prop} {σ : St} {ls : Array Slot} {b L i0 : Nat} {xs : Nat → Int32} {y1 y2 y3 k v : Int} {σ1 σ2 : St} {n : Nat} (X : Cx p s m args c cL_law 7 RL D cy ad nm nv A) (Y : TX A s) (Z : NCs s) (hst : l.stackTraces = false) (hX : va_X b L xs s s.heap) (hbl : b < s.heap.size) (hbA : ¬ A b) (hL : L ≤ 2048) (hiL : i0 + 4 ≤ L) (e1 : (xs (i0 + 1)).toInt = y1) (e2 : (xs (i0 + 2)).toInt = y2) (e3 : (xs (i0 + 3)).toInt = y3) (hW : Wd D cy ad nm nv σ H) (hS : va_S A s.heap H locs) (hl : lv_has ls 7 [(0, .ref b), (1, .ref (ad 0)), (2, .ref (ad 230)), (3, .ref (ad 290)), (4, .int (i32 (i0 : Int)))]) (hce : cells + 1 ≤ 601024) (hsl : slots + 6 ≤ 7293034) (hk : fL_length n σ y1 = some (k, σ1)) (hm : fX6_length n σ1 y1 = some (v, σ2)) (ht : fX6_thrown σ2 = some k) (ho : k = 0 → (σ2 290 0) = v) (kk : ∀ (H1 : Heap) (locs1 : List Loc) (ls1 : Array Slot), Wd D cy ad nm nv σ2 H1 → va_S A s.heap H1 locs1 → lv_has ls1 7 [(0, .ref b), (1, .ref (ad 0)), (2, .ref (ad 230)), (3, .ref (ad 290)), (4, .int (i32 (i0 : Int)))] → W p l e room_1 s m args below meth c H1 locs1 (cells + 1) (slots + 6) Q (F0 m 3020 ls1 [])) : W p l e room_1 s m args below meth c H locs cells slots Q (F0 m 1673 ls []) := by
  have hx := X.1
  have hb := X.2.1
  have hi0 : inR (i0 : Int) := ⟨by omega, by omega⟩
  have hy1 : inR y1 := by rw [← e1]; exact i32_inR _
  have hy2 : inR y2 := by rw [← e2]; exact i32_inR _
  have hy3 : inR y3 := by rw [← e3]; exact i32_inR _
  refine lv_aload_n hx hb dL_law_1673 rfl (lv_at hl 1 rfl) ?_
  refine lv_aload_n hx hb dL_law_1674 rfl (lv_at hl 0 rfl) ?_
  refine lv_iload hx hb dL_law_1675 (lv_at hl 4 rfl) ?_
  refine m_const (v := 1) hx hb dL_law_1677 rfl ?_
  refine m_add hx hb dL_law_1678 ?_
  refine m_sld (j := i0 + 1) hx hb hX hbl hbA hS (by omega) hL (by omega) e1 dL_law_1679 ?_
  refine lv_aload_n hx hb dL_law_1680 rfl (lv_at hl 3 rfl) ?_
  refine l_callS (As := [.ref (ad 0), .int (i32 y1), .ref (ad 290)]) (rest := []) (κ := fun v q => some (v, q)) (r := (k, σ1)) X Y Z hW hS hl.1 cw_L_length hdn_L_length ⟨rfl, rfl, (Nat.le_of_ble_eq_true rfl), (Nat.le_of_ble_eq_true rfl)⟩ (fun v σ2 q => ok_L_length hy1 q hst) (by rw [hk]; rfl) rfl rfl (Nat.le_of_ble_eq_true rfl) dL_law_1681 ⟨hce, hsl⟩ (fun v s1 H locs hv hW1 hS1 hf => ?_)
  cases hf
  refine lv_istore (lv' := [(5, .int (i32 k)), (0, .ref b), (1, .ref (ad 0)), (2, .ref (ad 230)), (3, .ref (ad 290)), (4, .int (i32 (i0 : Int)))]) hx hb dL_law_1684 hl (by decide) rfl (fun ls hl => ?_)
  refine lv_aload_n hx hb dL_law_1686 rfl (lv_at hl 3 rfl) ?_
  refine lv_aload_n hx hb dL_law_1687 rfl (lv_at hl 1 rfl) ?_
  refine lv_iload hx hb dL_law_1688 (lv_at hl 5 rfl) ?_
  refine m_const (v := 1) hx hb dL_law_1690 rfl ?_
  refine m_add hx hb dL_law_1691 ?_
  refine m_sld (j := i0 + 1) hx hb hX hbl hbA hS1 (by omega) hL (by omega) e1 dL_law_1692 ?_
  refine m_callVi (z := false) (As := [.int (i32 y1)]) (rest := []) (k := fun v q => some (v, q)) (r := (v, σ2)) X hW1 hS1 hl.1 gc_L_231 hd_X6_length ⟨rfl, rfl, (Nat.le_of_ble_eq_true rfl), (Nat.le_of_ble_eq_true rfl)⟩ (rc_X6 X hW1) (fun v s2 q => ok_X6_length hy1 q) (by rw [hm]; rfl) rfl rfl (Nat.le_of_ble_eq_true rfl) dL_law_1693 ⟨hce, hsl⟩ (fun w s2 H locs hv2 z2 hW2 hS2 hf => ?_)
  cases hf
  refine lv_istore (lv' := [(6, .int (i32 v)), (5, .int (i32 k)), (0, .ref b), (1, .ref (ad 0)), (2, .ref (ad 230)), (3, .ref (ad 290)), (4, .int (i32 (i0 : Int)))]) hx hb dL_law_1696 hl (by decide) rfl (fun ls hl => ?_)
  refine lv_aload_n hx hb dL_law_1698 rfl (lv_at hl 4 rfl) ?_
  refine m_callVi1 (z := false) (As := []) (rest := []) (k := fun v => some v) (r := k) X hW2 hS2 hl.1 gc_L_160 hd_X6_thrown ⟨rfl, rfl, (Nat.le_of_ble_eq_true rfl), (Nat.le_of_ble_eq_true rfl)⟩ (rc_X6 X hW2) (fun v q => ok_X6_thrown  q) (by rw [ht]; rfl) rfl rfl (Nat.le_of_ble_eq_true rfl) dL_law_1699 ⟨hce, hsl⟩ (fun v H locs hv3 z3 hW3 hS3 hf => ?_)
  cases hf
  refine lv_iload hx hb dL_law_1702 (lv_at hl 1 rfl) ?_
  refine lv_icmp_eq (tgt := 1709) hx hb dL_law_1704 (by decide) (fun _ => ?_) (fun q => absurd rfl q)
  refine lv_iload hx hb dL_law_1709 (lv_at hl 1 rfl) ?_
  refine lv_if_ne (tgt := 1726) hx hb dL_law_1711 (by decide) (fun qk => ?_) (fun qk => ?_)
  · refine lv_goto (tgt := 3020) hx hb dL_law_1726 (by decide) ?_
    exact kk _ _ _ hW3 hS3 (lv_sub hl [2, 3, 4, 5, 6] rfl)
  · have qk := (i32_eq hv z0).mp qk
    refine lv_aload_n hx hb dL_law_1714 rfl (lv_at hl 5 rfl) ?_
    refine m_const (v := 0) hx hb dL_law_1715 rfl ?_
    refine m_lald X hW3 dL_law_1716 ?_
    refine lv_iload hx hb dL_law_1717 (lv_at hl 0 rfl) ?_
    refine m_i2l hx hb hv2 dL_law_1719 ?_
    refine m_lcmp hx hb (hW3.2.1 _ _) hv2 dL_law_1720 ?_
    refine lv_if_eq (tgt := 1726) hx hb dL_law_1721 (by decide) (fun _ => ?_) (fun q => absurd (by rw [ho qk]; unfold lcm; rw [if_neg (Int.lt_irrefl _), if_pos rfl]; rfl) q)
    refine lv_goto (tgt := 3020) hx hb dL_law_1726 (by decide) ?_
    exact kk _ _ _ hW3 hS3 (lv_sub hl [2, 3, 4, 5, 6] rfl)
set_option maxRecDepth 100000 in
set_option maxHeartbeats 4000000 in
theorem case_shown {p : Program} {l : Launch} {e : Env} {s : State} {m : MethodId} {args : Array Value} {below : List Frame} {meth : Method} {c : Code} {H : Heap} {locs : List Loc} {cells slots : Nat} {Q : State → Prop} {D : va_G} {cy : Nat → ClassId} {ad : Nat → Nat} {nm nv : Nat} {A : Nat → Prop} {σ : St} {ls : Array Slot} {b L i0 : Nat} {xs : Nat → Int32} {y1 y2 y3 k v : Int} {σ1 σ2 : St} {n : Nat} (X : Cx p s m args c cL_law 7 RL D cy ad nm nv A) (Y : TX A s) (Z : NCs s) (hst : l.stackTraces = false) (hX : va_X b L xs s s.heap) (hbl : b < s.heap.size) (hbA : ¬ A b) (hL : L ≤ 2048) (hiL : i0 + 4 ≤ L) (e1 : (xs (i0 + 1)).toInt = y1) (e2 : (xs (i0 + 2)).toInt = y2) (e3 : (xs (i0 + 3)).toInt = y3) (hW : Wd D cy ad nm nv σ H) (hS : va_S A s.heap H locs) (hl : lv_has ls 7 [(0, .ref b), (1, .ref (ad 0)), (2, .ref (ad 230)), (3, .ref (ad 290)), (4, .int (i32 (i0 : Int)))]) (hce : cells + 1 ≤ 601024) (hsl : slots + 6 ≤ 7293034) (hk : fL_shown n σ y1 = some (k, σ1)) (hm : fX6_shown n σ1 y1 = some (v, σ2)) (ht : fX6_thrown σ2 = some k) (ho : k = 0 → (σ2 290 0) = v) (kk : ∀ (H1 : Heap) (locs1 : List Loc) (ls1 : Array Slot), Wd D cy ad nm nv σ2 H1 → va_S A s.heap H1 locs1 → lv_has ls1 7 [(0, .ref b), (1, .ref (ad 0)), (2, .ref (ad 230)), (3, .ref (ad 290)), (4, .int (i32 (i0 : Int)))] → W p l e room_1 s m args below meth c H1 locs1 (cells + 1) (slots + 6) Q (F0 m 3020 ls1 [])) : W p l e room_1 s m args below meth c H locs cells slots Q (F0 m 1729 ls []) := by
  have hx := X.1
  have hb := X.2.1
  have hi0 : inR (i0 : Int) := ⟨by omega, by omega⟩
  have hy1 : inR y1 := by rw [← e1]; exact i32_inR _
  have hy2 : inR y2 := by rw [← e2]; exact i32_inR _
  have hy3 : inR y3 := by rw [← e3]; exact i32_inR _
  refine lv_aload_n hx hb dL_law_1729 rfl (lv_at hl 1 rfl) ?_
  refine lv_aload_n hx hb dL_law_1730 rfl (lv_at hl 0 rfl) ?_
  refine lv_iload hx hb dL_law_1731 (lv_at hl 4 rfl) ?_
  refine m_const (v := 1) hx hb dL_law_1733 rfl ?_
  refine m_add hx hb dL_law_1734 ?_
  refine m_sld (j := i0 + 1) hx hb hX hbl hbA hS (by omega) hL (by omega) e1 dL_law_1735 ?_
  refine lv_aload_n hx hb dL_law_1736 rfl (lv_at hl 3 rfl) ?_
  refine l_callS (As := [.ref (ad 0), .int (i32 y1), .ref (ad 290)]) (rest := []) (κ := fun v q => some (v, q)) (r := (k, σ1)) X Y Z hW hS hl.1 cw_L_shown hdn_L_shown ⟨rfl, rfl, (Nat.le_of_ble_eq_true rfl), (Nat.le_of_ble_eq_true rfl)⟩ (fun v σ2 q => ok_L_shown hy1 q hst) (by rw [hk]; rfl) rfl rfl (Nat.le_of_ble_eq_true rfl) dL_law_1737 ⟨hce, hsl⟩ (fun v s1 H locs hv hW1 hS1 hf => ?_)
  cases hf
  refine lv_istore (lv' := [(5, .int (i32 k)), (0, .ref b), (1, .ref (ad 0)), (2, .ref (ad 230)), (3, .ref (ad 290)), (4, .int (i32 (i0 : Int)))]) hx hb dL_law_1740 hl (by decide) rfl (fun ls hl => ?_)
  refine lv_aload_n hx hb dL_law_1742 rfl (lv_at hl 3 rfl) ?_
  refine lv_aload_n hx hb dL_law_1743 rfl (lv_at hl 1 rfl) ?_
  refine lv_iload hx hb dL_law_1744 (lv_at hl 5 rfl) ?_
  refine m_const (v := 1) hx hb dL_law_1746 rfl ?_
  refine m_add hx hb dL_law_1747 ?_
  refine m_sld (j := i0 + 1) hx hb hX hbl hbA hS1 (by omega) hL (by omega) e1 dL_law_1748 ?_
  refine m_callVi (z := false) (As := [.int (i32 y1)]) (rest := []) (k := fun v q => some (v, q)) (r := (v, σ2)) X hW1 hS1 hl.1 gc_L_234 hd_X6_shown ⟨rfl, rfl, (Nat.le_of_ble_eq_true rfl), (Nat.le_of_ble_eq_true rfl)⟩ (rc_X6 X hW1) (fun v s2 q => ok_X6_shown hy1 q) (by rw [hm]; rfl) rfl rfl (Nat.le_of_ble_eq_true rfl) dL_law_1749 ⟨hce, hsl⟩ (fun w s2 H locs hv2 z2 hW2 hS2 hf => ?_)
  cases hf
  refine lv_istore (lv' := [(6, .int (i32 v)), (5, .int (i32 k)), (0, .ref b), (1, .ref (ad 0)), (2, .ref (ad 230)), (3, .ref (ad 290)), (4, .int (i32 (i0 : Int)))]) hx hb dL_law_1752 hl (by decide) rfl (fun ls hl => ?_)
  refine lv_aload_n hx hb dL_law_1754 rfl (lv_at hl 4 rfl) ?_
  refine m_callVi1 (z := false) (As := []) (rest := []) (k := fun v => some v) (r := k) X hW2 hS2 hl.1 gc_L_160 hd_X6_thrown ⟨rfl, rfl, (Nat.le_of_ble_eq_true rfl), (Nat.le_of_ble_eq_true rfl)⟩ (rc_X6 X hW2) (fun v q => ok_X6_thrown  q) (by rw [ht]; rfl) rfl rfl (Nat.le_of_ble_eq_true rfl) dL_law_1755 ⟨hce, hsl⟩ (fun v H locs hv3 z3 hW3 hS3 hf => ?_)
  cases hf
  refine lv_iload hx hb dL_law_1758 (lv_at hl 1 rfl) ?_
  refine lv_icmp_eq (tgt := 1765) hx hb dL_law_1760 (by decide) (fun _ => ?_) (fun q => absurd rfl q)
  refine lv_iload hx hb dL_law_1765 (lv_at hl 1 rfl) ?_
  refine lv_if_ne (tgt := 1782) hx hb dL_law_1767 (by decide) (fun qk => ?_) (fun qk => ?_)
  · refine lv_goto (tgt := 3020) hx hb dL_law_1782 (by decide) ?_
    exact kk _ _ _ hW3 hS3 (lv_sub hl [2, 3, 4, 5, 6] rfl)
  · have qk := (i32_eq hv z0).mp qk
    refine lv_aload_n hx hb dL_law_1770 rfl (lv_at hl 5 rfl) ?_
    refine m_const (v := 0) hx hb dL_law_1771 rfl ?_
    refine m_lald X hW3 dL_law_1772 ?_
    refine lv_iload hx hb dL_law_1773 (lv_at hl 0 rfl) ?_
    refine m_i2l hx hb hv2 dL_law_1775 ?_
    refine m_lcmp hx hb (hW3.2.1 _ _) hv2 dL_law_1776 ?_
    refine lv_if_eq (tgt := 1782) hx hb dL_law_1777 (by decide) (fun _ => ?_) (fun q => absurd (by rw [ho qk]; unfold lcm; rw [if_neg (Int.lt_irrefl _), if_pos rfl]; rfl) q)
    refine lv_goto (tgt := 3020) hx hb dL_law_1782 (by decide) ?_
    exact kk _ _ _ hW3 hS3 (lv_sub hl [2, 3, 4, 5, 6] rfl)
set_option maxRecDepth 100000 in
set_option maxHeartbeats 4000000 in
theorem case_element {p : Program} {l : Launch} {e : Env} {s : State} {m : MethodId} {args : Array Value} {below : List Frame} {meth : Method} {c : Code} {H : Heap} {locs : List Loc} {cells slots : Nat} {Q : State → Prop} {D : va_G} {cy : Nat → ClassId} {ad : Nat → Nat} {nm nv : Nat} {A : Nat → Prop} {σ : St} {ls : Array Slot} {b L i0 : Nat} {xs : Nat → Int32} {y1 y2 y3 k v : Int} {σ1 σ2 : St} {n : Nat} (X : Cx p s m args c cL_law 7 RL D cy ad nm nv A) (Y : TX A s) (Z : NCs s) (hst : l.stackTraces = false) (hX : va_X b L xs s s.heap) (hbl : b < s.heap.size) (hbA : ¬ A b) (hL : L ≤ 2048) (hiL : i0 + 4 ≤ L) (e1 : (xs (i0 + 1)).toInt = y1) (e2 : (xs (i0 + 2)).toInt = y2) (e3 : (xs (i0 + 3)).toInt = y3) (hW : Wd D cy ad nm nv σ H) (hS : va_S A s.heap H locs) (hl : lv_has ls 7 [(0, .ref b), (1, .ref (ad 0)), (2, .ref (ad 230)), (3, .ref (ad 290)), (4, .int (i32 (i0 : Int)))]) (hce : cells + 2 ≤ 601024) (hsl : slots + 12 ≤ 7293034) (hk : fL_element n σ y1 y2 = some (k, σ1)) (hm : fX6_element n σ1 y1 y2 = some (v, σ2)) (ht : fX6_thrown σ2 = some k) (ho : k = 0 → (σ2 290 0) = v) (kk : ∀ (H1 : Heap) (locs1 : List Loc) (ls1 : Array Slot), Wd D cy ad nm nv σ2 H1 → va_S A s.heap H1 locs1 → lv_has ls1 7 [(0, .ref b), (1, .ref (ad 0)), (2, .ref (ad 230)), (3, .ref (ad 290)), (4, .int (i32 (i0 : Int)))] → W p l e room_1 s m args below meth c H1 locs1 (cells + 2) (slots + 12) Q (F0 m 3020 ls1 [])) : W p l e room_1 s m args below meth c H locs cells slots Q (F0 m 1785 ls []) := by
  have hx := X.1
  have hb := X.2.1
  have hi0 : inR (i0 : Int) := ⟨by omega, by omega⟩
  have hy1 : inR y1 := by rw [← e1]; exact i32_inR _
  have hy2 : inR y2 := by rw [← e2]; exact i32_inR _
  have hy3 : inR y3 := by rw [← e3]; exact i32_inR _
  refine lv_aload_n hx hb dL_law_1785 rfl (lv_at hl 1 rfl) ?_
  refine lv_aload_n hx hb dL_law_1786 rfl (lv_at hl 0 rfl) ?_
  refine lv_iload hx hb dL_law_1787 (lv_at hl 4 rfl) ?_
  refine m_const (v := 1) hx hb dL_law_1789 rfl ?_
  refine m_add hx hb dL_law_1790 ?_
  refine m_sld (j := i0 + 1) hx hb hX hbl hbA hS (by omega) hL (by omega) e1 dL_law_1791 ?_
  refine lv_aload_n hx hb dL_law_1792 rfl (lv_at hl 0 rfl) ?_
  refine lv_iload hx hb dL_law_1793 (lv_at hl 4 rfl) ?_
  refine m_const (v := 2) hx hb dL_law_1795 rfl ?_
  refine m_add hx hb dL_law_1796 ?_
  refine m_sld (j := i0 + 2) hx hb hX hbl hbA hS (by omega) hL (by omega) e2 dL_law_1797 ?_
  refine lv_aload_n hx hb dL_law_1798 rfl (lv_at hl 3 rfl) ?_
  refine l_callS (As := [.ref (ad 0), .int (i32 y1), .int (i32 y2), .ref (ad 290)]) (rest := []) (κ := fun v q => some (v, q)) (r := (k, σ1)) X Y Z hW hS hl.1 cw_L_element hdn_L_element ⟨rfl, rfl, (Nat.le_of_ble_eq_true rfl), (Nat.le_of_ble_eq_true rfl)⟩ (fun v σ2 q => ok_L_element hy1 hy2 q hst) (by rw [hk]; rfl) rfl rfl (Nat.le_of_ble_eq_true rfl) dL_law_1799 ⟨hce, hsl⟩ (fun v s1 H locs hv hW1 hS1 hf => ?_)
  cases hf
  refine lv_istore (lv' := [(5, .int (i32 k)), (0, .ref b), (1, .ref (ad 0)), (2, .ref (ad 230)), (3, .ref (ad 290)), (4, .int (i32 (i0 : Int)))]) hx hb dL_law_1802 hl (by decide) rfl (fun ls hl => ?_)
  refine lv_aload_n hx hb dL_law_1804 rfl (lv_at hl 3 rfl) ?_
  refine lv_aload_n hx hb dL_law_1805 rfl (lv_at hl 1 rfl) ?_
  refine lv_iload hx hb dL_law_1806 (lv_at hl 5 rfl) ?_
  refine m_const (v := 1) hx hb dL_law_1808 rfl ?_
  refine m_add hx hb dL_law_1809 ?_
  refine m_sld (j := i0 + 1) hx hb hX hbl hbA hS1 (by omega) hL (by omega) e1 dL_law_1810 ?_
  refine lv_aload_n hx hb dL_law_1811 rfl (lv_at hl 1 rfl) ?_
  refine lv_iload hx hb dL_law_1812 (lv_at hl 5 rfl) ?_
  refine m_const (v := 2) hx hb dL_law_1814 rfl ?_
  refine m_add hx hb dL_law_1815 ?_
  refine m_sld (j := i0 + 2) hx hb hX hbl hbA hS1 (by omega) hL (by omega) e2 dL_law_1816 ?_
  refine m_callVi (z := false) (As := [.int (i32 y1), .int (i32 y2)]) (rest := []) (k := fun v q => some (v, q)) (r := (v, σ2)) X hW1 hS1 hl.1 gc_L_237 hd_X6_element ⟨rfl, rfl, (Nat.le_of_ble_eq_true rfl), (Nat.le_of_ble_eq_true rfl)⟩ (rc_X6 X hW1) (fun v s2 q => ok_X6_element hy1 hy2 q) (by rw [hm]; rfl) rfl rfl (Nat.le_of_ble_eq_true rfl) dL_law_1817 ⟨hce, hsl⟩ (fun w s2 H locs hv2 z2 hW2 hS2 hf => ?_)
  cases hf
  refine lv_istore (lv' := [(6, .int (i32 v)), (5, .int (i32 k)), (0, .ref b), (1, .ref (ad 0)), (2, .ref (ad 230)), (3, .ref (ad 290)), (4, .int (i32 (i0 : Int)))]) hx hb dL_law_1820 hl (by decide) rfl (fun ls hl => ?_)
  refine lv_aload_n hx hb dL_law_1822 rfl (lv_at hl 4 rfl) ?_
  refine m_callVi1 (z := false) (As := []) (rest := []) (k := fun v => some v) (r := k) X hW2 hS2 hl.1 gc_L_160 hd_X6_thrown ⟨rfl, rfl, (Nat.le_of_ble_eq_true rfl), (Nat.le_of_ble_eq_true rfl)⟩ (rc_X6 X hW2) (fun v q => ok_X6_thrown  q) (by rw [ht]; rfl) rfl rfl (Nat.le_of_ble_eq_true rfl) dL_law_1823 ⟨hce, hsl⟩ (fun v H locs hv3 z3 hW3 hS3 hf => ?_)
  cases hf
  refine lv_iload hx hb dL_law_1826 (lv_at hl 1 rfl) ?_
  refine lv_icmp_eq (tgt := 1833) hx hb dL_law_1828 (by decide) (fun _ => ?_) (fun q => absurd rfl q)
  refine lv_iload hx hb dL_law_1833 (lv_at hl 1 rfl) ?_
  refine lv_if_ne (tgt := 1850) hx hb dL_law_1835 (by decide) (fun qk => ?_) (fun qk => ?_)
  · refine lv_goto (tgt := 3020) hx hb dL_law_1850 (by decide) ?_
    exact kk _ _ _ hW3 hS3 (lv_sub hl [2, 3, 4, 5, 6] rfl)
  · have qk := (i32_eq hv z0).mp qk
    refine lv_aload_n hx hb dL_law_1838 rfl (lv_at hl 5 rfl) ?_
    refine m_const (v := 0) hx hb dL_law_1839 rfl ?_
    refine m_lald X hW3 dL_law_1840 ?_
    refine lv_iload hx hb dL_law_1841 (lv_at hl 0 rfl) ?_
    refine m_i2l hx hb hv2 dL_law_1843 ?_
    refine m_lcmp hx hb (hW3.2.1 _ _) hv2 dL_law_1844 ?_
    refine lv_if_eq (tgt := 1850) hx hb dL_law_1845 (by decide) (fun _ => ?_) (fun q => absurd (by rw [ho qk]; unfold lcm; rw [if_neg (Int.lt_irrefl _), if_pos rfl]; rfl) q)
    refine lv_goto (tgt := 3020) hx hb dL_law_1850 (by decide) ?_
    exact kk _ _ _ hW3 hS3 (lv_sub hl [2, 3, 4, 5, 6] rfl)
set_option maxRecDepth 100000 in
set_option maxHeartbeats 4000000 in
theorem case_elementAnew {p : Program} {l : Launch} {e : Env} {s : State} {m : MethodId} {args : Array Value} {below : List Frame} {meth : Method} {c : Code} {H : Heap} {locs : List Loc} {cells slots : Nat} {Q : State → Prop} {D : va_G} {cy : Nat → ClassId} {ad : Nat → Nat} {nm nv : Nat} {A : Nat → Prop} {σ : St} {ls : Array Slot} {b L i0 : Nat} {xs : Nat → Int32} {y1 y2 y3 k v : Int} {σ1 σ2 : St} {n : Nat} (X : Cx p s m args c cL_law 7 RL D cy ad nm nv A) (Y : TX A s) (Z : NCs s) (hst : l.stackTraces = false) (hX : va_X b L xs s s.heap) (hbl : b < s.heap.size) (hbA : ¬ A b) (hL : L ≤ 2048) (hiL : i0 + 4 ≤ L) (e1 : (xs (i0 + 1)).toInt = y1) (e2 : (xs (i0 + 2)).toInt = y2) (e3 : (xs (i0 + 3)).toInt = y3) (hW : Wd D cy ad nm nv σ H) (hS : va_S A s.heap H locs) (hl : lv_has ls 7 [(0, .ref b), (1, .ref (ad 0)), (2, .ref (ad 230)), (3, .ref (ad 290)), (4, .int (i32 (i0 : Int)))]) (hce : cells + 2 ≤ 601024) (hsl : slots + 12 ≤ 7293034) (hk : fL_elementAnew n σ y1 y2 = some (k, σ1)) (hm : fX6_elementAnew n σ1 y1 y2 = some (v, σ2)) (ht : fX6_thrown σ2 = some k) (ho : k = 0 → (σ2 290 0) = v) (kk : ∀ (H1 : Heap) (locs1 : List Loc) (ls1 : Array Slot), Wd D cy ad nm nv σ2 H1 → va_S A s.heap H1 locs1 → lv_has ls1 7 [(0, .ref b), (1, .ref (ad 0)), (2, .ref (ad 230)), (3, .ref (ad 290)), (4, .int (i32 (i0 : Int)))] → W p l e room_1 s m args below meth c H1 locs1 (cells + 2) (slots + 12) Q (F0 m 3020 ls1 [])) : W p l e room_1 s m args below meth c H locs cells slots Q (F0 m 1853 ls []) := by
  have hx := X.1
  have hb := X.2.1
  have hi0 : inR (i0 : Int) := ⟨by omega, by omega⟩
  have hy1 : inR y1 := by rw [← e1]; exact i32_inR _
  have hy2 : inR y2 := by rw [← e2]; exact i32_inR _
  have hy3 : inR y3 := by rw [← e3]; exact i32_inR _
  refine lv_aload_n hx hb dL_law_1853 rfl (lv_at hl 1 rfl) ?_
  refine lv_aload_n hx hb dL_law_1854 rfl (lv_at hl 0 rfl) ?_
  refine lv_iload hx hb dL_law_1855 (lv_at hl 4 rfl) ?_
  refine m_const (v := 1) hx hb dL_law_1857 rfl ?_
  refine m_add hx hb dL_law_1858 ?_
  refine m_sld (j := i0 + 1) hx hb hX hbl hbA hS (by omega) hL (by omega) e1 dL_law_1859 ?_
  refine lv_aload_n hx hb dL_law_1860 rfl (lv_at hl 0 rfl) ?_
  refine lv_iload hx hb dL_law_1861 (lv_at hl 4 rfl) ?_
  refine m_const (v := 2) hx hb dL_law_1863 rfl ?_
  refine m_add hx hb dL_law_1864 ?_
  refine m_sld (j := i0 + 2) hx hb hX hbl hbA hS (by omega) hL (by omega) e2 dL_law_1865 ?_
  refine lv_aload_n hx hb dL_law_1866 rfl (lv_at hl 3 rfl) ?_
  refine l_callS (As := [.ref (ad 0), .int (i32 y1), .int (i32 y2), .ref (ad 290)]) (rest := []) (κ := fun v q => some (v, q)) (r := (k, σ1)) X Y Z hW hS hl.1 cw_L_elementAnew hdn_L_elementAnew ⟨rfl, rfl, (Nat.le_of_ble_eq_true rfl), (Nat.le_of_ble_eq_true rfl)⟩ (fun v σ2 q => ok_L_elementAnew hy1 hy2 q hst) (by rw [hk]; rfl) rfl rfl (Nat.le_of_ble_eq_true rfl) dL_law_1867 ⟨hce, hsl⟩ (fun v s1 H locs hv hW1 hS1 hf => ?_)
  cases hf
  refine lv_istore (lv' := [(5, .int (i32 k)), (0, .ref b), (1, .ref (ad 0)), (2, .ref (ad 230)), (3, .ref (ad 290)), (4, .int (i32 (i0 : Int)))]) hx hb dL_law_1870 hl (by decide) rfl (fun ls hl => ?_)
  refine lv_aload_n hx hb dL_law_1872 rfl (lv_at hl 3 rfl) ?_
  refine lv_aload_n hx hb dL_law_1873 rfl (lv_at hl 1 rfl) ?_
  refine lv_iload hx hb dL_law_1874 (lv_at hl 5 rfl) ?_
  refine m_const (v := 1) hx hb dL_law_1876 rfl ?_
  refine m_add hx hb dL_law_1877 ?_
  refine m_sld (j := i0 + 1) hx hb hX hbl hbA hS1 (by omega) hL (by omega) e1 dL_law_1878 ?_
  refine lv_aload_n hx hb dL_law_1879 rfl (lv_at hl 1 rfl) ?_
  refine lv_iload hx hb dL_law_1880 (lv_at hl 5 rfl) ?_
  refine m_const (v := 2) hx hb dL_law_1882 rfl ?_
  refine m_add hx hb dL_law_1883 ?_
  refine m_sld (j := i0 + 2) hx hb hX hbl hbA hS1 (by omega) hL (by omega) e2 dL_law_1884 ?_
  refine m_callVi (z := false) (As := [.int (i32 y1), .int (i32 y2)]) (rest := []) (k := fun v q => some (v, q)) (r := (v, σ2)) X hW1 hS1 hl.1 gc_L_240 hd_X6_elementAnew ⟨rfl, rfl, (Nat.le_of_ble_eq_true rfl), (Nat.le_of_ble_eq_true rfl)⟩ (rc_X6 X hW1) (fun v s2 q => ok_X6_elementAnew hy1 hy2 q) (by rw [hm]; rfl) rfl rfl (Nat.le_of_ble_eq_true rfl) dL_law_1885 ⟨hce, hsl⟩ (fun w s2 H locs hv2 z2 hW2 hS2 hf => ?_)
  cases hf
  refine lv_istore (lv' := [(6, .int (i32 v)), (5, .int (i32 k)), (0, .ref b), (1, .ref (ad 0)), (2, .ref (ad 230)), (3, .ref (ad 290)), (4, .int (i32 (i0 : Int)))]) hx hb dL_law_1888 hl (by decide) rfl (fun ls hl => ?_)
  refine lv_aload_n hx hb dL_law_1890 rfl (lv_at hl 4 rfl) ?_
  refine m_callVi1 (z := false) (As := []) (rest := []) (k := fun v => some v) (r := k) X hW2 hS2 hl.1 gc_L_160 hd_X6_thrown ⟨rfl, rfl, (Nat.le_of_ble_eq_true rfl), (Nat.le_of_ble_eq_true rfl)⟩ (rc_X6 X hW2) (fun v q => ok_X6_thrown  q) (by rw [ht]; rfl) rfl rfl (Nat.le_of_ble_eq_true rfl) dL_law_1891 ⟨hce, hsl⟩ (fun v H locs hv3 z3 hW3 hS3 hf => ?_)
  cases hf
  refine lv_iload hx hb dL_law_1894 (lv_at hl 1 rfl) ?_
  refine lv_icmp_eq (tgt := 1901) hx hb dL_law_1896 (by decide) (fun _ => ?_) (fun q => absurd rfl q)
  refine lv_iload hx hb dL_law_1901 (lv_at hl 1 rfl) ?_
  refine lv_if_ne (tgt := 1918) hx hb dL_law_1903 (by decide) (fun qk => ?_) (fun qk => ?_)
  · refine lv_goto (tgt := 3020) hx hb dL_law_1918 (by decide) ?_
    exact kk _ _ _ hW3 hS3 (lv_sub hl [2, 3, 4, 5, 6] rfl)
  · have qk := (i32_eq hv z0).mp qk
    refine lv_aload_n hx hb dL_law_1906 rfl (lv_at hl 5 rfl) ?_
    refine m_const (v := 0) hx hb dL_law_1907 rfl ?_
    refine m_lald X hW3 dL_law_1908 ?_
    refine lv_iload hx hb dL_law_1909 (lv_at hl 0 rfl) ?_
    refine m_i2l hx hb hv2 dL_law_1911 ?_
    refine m_lcmp hx hb (hW3.2.1 _ _) hv2 dL_law_1912 ?_
    refine lv_if_eq (tgt := 1918) hx hb dL_law_1913 (by decide) (fun _ => ?_) (fun q => absurd (by rw [ho qk]; unfold lcm; rw [if_neg (Int.lt_irrefl _), if_pos rfl]; rfl) q)
    refine lv_goto (tgt := 3020) hx hb dL_law_1918 (by decide) ?_
    exact kk _ _ _ hW3 hS3 (lv_sub hl [2, 3, 4, 5, 6] rfl)
set_option maxRecDepth 100000 in
set_option maxHeartbeats 4000000 in
theorem case_letter {p : Program} {l : Launch} {e : Env} {s : State} {m : MethodId} {args : Array Value} {below : List Frame} {meth : Method} {c : Code} {H : Heap} {locs : List Loc} {cells slots : Nat} {Q : State → Prop} {D : va_G} {cy : Nat → ClassId} {ad : Nat → Nat} {nm nv : Nat} {A : Nat → Prop} {σ : St} {ls : Array Slot} {b L i0 : Nat} {xs : Nat → Int32} {y1 y2 y3 k v : Int} {σ1 σ2 : St} {n : Nat} (X : Cx p s m args c cL_law 7 RL D cy ad nm nv A) (Y : TX A s) (Z : NCs s) (hst : l.stackTraces = false) (hX : va_X b L xs s s.heap) (hbl : b < s.heap.size) (hbA : ¬ A b) (hL : L ≤ 2048) (hiL : i0 + 4 ≤ L) (e1 : (xs (i0 + 1)).toInt = y1) (e2 : (xs (i0 + 2)).toInt = y2) (e3 : (xs (i0 + 3)).toInt = y3) (hW : Wd D cy ad nm nv σ H) (hS : va_S A s.heap H locs) (hl : lv_has ls 7 [(0, .ref b), (1, .ref (ad 0)), (2, .ref (ad 230)), (3, .ref (ad 290)), (4, .int (i32 (i0 : Int)))]) (hce : cells + 2 ≤ 601024) (hsl : slots + 12 ≤ 7293034) (hk : fL_letter n σ y1 y2 = some (k, σ1)) (hm : fX6_letter n σ1 y1 y2 = some (v, σ2)) (ht : fX6_thrown σ2 = some k) (ho : k = 0 → (σ2 290 0) = v) (kk : ∀ (H1 : Heap) (locs1 : List Loc) (ls1 : Array Slot), Wd D cy ad nm nv σ2 H1 → va_S A s.heap H1 locs1 → lv_has ls1 7 [(0, .ref b), (1, .ref (ad 0)), (2, .ref (ad 230)), (3, .ref (ad 290)), (4, .int (i32 (i0 : Int)))] → W p l e room_1 s m args below meth c H1 locs1 (cells + 2) (slots + 12) Q (F0 m 3020 ls1 [])) : W p l e room_1 s m args below meth c H locs cells slots Q (F0 m 1921 ls []) := by
  have hx := X.1
  have hb := X.2.1
  have hi0 : inR (i0 : Int) := ⟨by omega, by omega⟩
  have hy1 : inR y1 := by rw [← e1]; exact i32_inR _
  have hy2 : inR y2 := by rw [← e2]; exact i32_inR _
  have hy3 : inR y3 := by rw [← e3]; exact i32_inR _
  refine lv_aload_n hx hb dL_law_1921 rfl (lv_at hl 1 rfl) ?_
  refine lv_aload_n hx hb dL_law_1922 rfl (lv_at hl 0 rfl) ?_
  refine lv_iload hx hb dL_law_1923 (lv_at hl 4 rfl) ?_
  refine m_const (v := 1) hx hb dL_law_1925 rfl ?_
  refine m_add hx hb dL_law_1926 ?_
  refine m_sld (j := i0 + 1) hx hb hX hbl hbA hS (by omega) hL (by omega) e1 dL_law_1927 ?_
  refine lv_aload_n hx hb dL_law_1928 rfl (lv_at hl 0 rfl) ?_
  refine lv_iload hx hb dL_law_1929 (lv_at hl 4 rfl) ?_
  refine m_const (v := 2) hx hb dL_law_1931 rfl ?_
  refine m_add hx hb dL_law_1932 ?_
  refine m_sld (j := i0 + 2) hx hb hX hbl hbA hS (by omega) hL (by omega) e2 dL_law_1933 ?_
  refine lv_aload_n hx hb dL_law_1934 rfl (lv_at hl 3 rfl) ?_
  refine l_callS (As := [.ref (ad 0), .int (i32 y1), .int (i32 y2), .ref (ad 290)]) (rest := []) (κ := fun v q => some (v, q)) (r := (k, σ1)) X Y Z hW hS hl.1 cw_L_letter hdn_L_letter ⟨rfl, rfl, (Nat.le_of_ble_eq_true rfl), (Nat.le_of_ble_eq_true rfl)⟩ (fun v σ2 q => ok_L_letter hy1 hy2 q hst) (by rw [hk]; rfl) rfl rfl (Nat.le_of_ble_eq_true rfl) dL_law_1935 ⟨hce, hsl⟩ (fun v s1 H locs hv hW1 hS1 hf => ?_)
  cases hf
  refine lv_istore (lv' := [(5, .int (i32 k)), (0, .ref b), (1, .ref (ad 0)), (2, .ref (ad 230)), (3, .ref (ad 290)), (4, .int (i32 (i0 : Int)))]) hx hb dL_law_1938 hl (by decide) rfl (fun ls hl => ?_)
  refine lv_aload_n hx hb dL_law_1940 rfl (lv_at hl 3 rfl) ?_
  refine lv_aload_n hx hb dL_law_1941 rfl (lv_at hl 1 rfl) ?_
  refine lv_iload hx hb dL_law_1942 (lv_at hl 5 rfl) ?_
  refine m_const (v := 1) hx hb dL_law_1944 rfl ?_
  refine m_add hx hb dL_law_1945 ?_
  refine m_sld (j := i0 + 1) hx hb hX hbl hbA hS1 (by omega) hL (by omega) e1 dL_law_1946 ?_
  refine lv_aload_n hx hb dL_law_1947 rfl (lv_at hl 1 rfl) ?_
  refine lv_iload hx hb dL_law_1948 (lv_at hl 5 rfl) ?_
  refine m_const (v := 2) hx hb dL_law_1950 rfl ?_
  refine m_add hx hb dL_law_1951 ?_
  refine m_sld (j := i0 + 2) hx hb hX hbl hbA hS1 (by omega) hL (by omega) e2 dL_law_1952 ?_
  refine m_callVi (z := false) (As := [.int (i32 y1), .int (i32 y2)]) (rest := []) (k := fun v q => some (v, q)) (r := (v, σ2)) X hW1 hS1 hl.1 gc_L_243 hd_X6_letter ⟨rfl, rfl, (Nat.le_of_ble_eq_true rfl), (Nat.le_of_ble_eq_true rfl)⟩ (rc_X6 X hW1) (fun v s2 q => ok_X6_letter hy1 hy2 q) (by rw [hm]; rfl) rfl rfl (Nat.le_of_ble_eq_true rfl) dL_law_1953 ⟨hce, hsl⟩ (fun w s2 H locs hv2 z2 hW2 hS2 hf => ?_)
  cases hf
  refine lv_istore (lv' := [(6, .int (i32 v)), (5, .int (i32 k)), (0, .ref b), (1, .ref (ad 0)), (2, .ref (ad 230)), (3, .ref (ad 290)), (4, .int (i32 (i0 : Int)))]) hx hb dL_law_1956 hl (by decide) rfl (fun ls hl => ?_)
  refine lv_aload_n hx hb dL_law_1958 rfl (lv_at hl 4 rfl) ?_
  refine m_callVi1 (z := false) (As := []) (rest := []) (k := fun v => some v) (r := k) X hW2 hS2 hl.1 gc_L_160 hd_X6_thrown ⟨rfl, rfl, (Nat.le_of_ble_eq_true rfl), (Nat.le_of_ble_eq_true rfl)⟩ (rc_X6 X hW2) (fun v q => ok_X6_thrown  q) (by rw [ht]; rfl) rfl rfl (Nat.le_of_ble_eq_true rfl) dL_law_1959 ⟨hce, hsl⟩ (fun v H locs hv3 z3 hW3 hS3 hf => ?_)
  cases hf
  refine lv_iload hx hb dL_law_1962 (lv_at hl 1 rfl) ?_
  refine lv_icmp_eq (tgt := 1969) hx hb dL_law_1964 (by decide) (fun _ => ?_) (fun q => absurd rfl q)
  refine lv_iload hx hb dL_law_1969 (lv_at hl 1 rfl) ?_
  refine lv_if_ne (tgt := 1986) hx hb dL_law_1971 (by decide) (fun qk => ?_) (fun qk => ?_)
  · refine lv_goto (tgt := 3020) hx hb dL_law_1986 (by decide) ?_
    exact kk _ _ _ hW3 hS3 (lv_sub hl [2, 3, 4, 5, 6] rfl)
  · have qk := (i32_eq hv z0).mp qk
    refine lv_aload_n hx hb dL_law_1974 rfl (lv_at hl 5 rfl) ?_
    refine m_const (v := 0) hx hb dL_law_1975 rfl ?_
    refine m_lald X hW3 dL_law_1976 ?_
    refine lv_iload hx hb dL_law_1977 (lv_at hl 0 rfl) ?_
    refine m_i2l hx hb hv2 dL_law_1979 ?_
    refine m_lcmp hx hb (hW3.2.1 _ _) hv2 dL_law_1980 ?_
    refine lv_if_eq (tgt := 1986) hx hb dL_law_1981 (by decide) (fun _ => ?_) (fun q => absurd (by rw [ho qk]; unfold lcm; rw [if_neg (Int.lt_irrefl _), if_pos rfl]; rfl) q)
    refine lv_goto (tgt := 3020) hx hb dL_law_1986 (by decide) ?_
    exact kk _ _ _ hW3 hS3 (lv_sub hl [2, 3, 4, 5, 6] rfl)
set_option maxRecDepth 100000 in
set_option maxHeartbeats 4000000 in
theorem case_proposed {p : Program} {l : Launch} {e : Env} {s : State} {m : MethodId} {args : Array Value} {below : List Frame} {meth : Method} {c : Code} {H : Heap} {locs : List Loc} {cells slots : Nat} {Q : State → Prop} {D : va_G} {cy : Nat → ClassId} {ad : Nat → Nat} {nm nv : Nat} {A : Nat → Prop} {σ : St} {ls : Array Slot} {b L i0 : Nat} {xs : Nat → Int32} {y1 y2 y3 k v : Int} {σ1 σ2 : St} {n : Nat} (X : Cx p s m args c cL_law 7 RL D cy ad nm nv A) (Y : TX A s) (Z : NCs s) (hst : l.stackTraces = false) (hX : va_X b L xs s s.heap) (hbl : b < s.heap.size) (hbA : ¬ A b) (hL : L ≤ 2048) (hiL : i0 + 4 ≤ L) (e1 : (xs (i0 + 1)).toInt = y1) (e2 : (xs (i0 + 2)).toInt = y2) (e3 : (xs (i0 + 3)).toInt = y3) (hW : Wd D cy ad nm nv σ H) (hS : va_S A s.heap H locs) (hl : lv_has ls 7 [(0, .ref b), (1, .ref (ad 0)), (2, .ref (ad 230)), (3, .ref (ad 290)), (4, .int (i32 (i0 : Int)))]) (hce : cells + 2 ≤ 601024) (hsl : slots + 12 ≤ 7293034) (hk : fL_proposed n σ y1 y2 = some (k, σ1)) (hm : fX6_proposed n σ1 y1 y2 = some (v, σ2)) (ht : fX6_thrown σ2 = some k) (ho : k = 0 → (σ2 290 0) = v) (kk : ∀ (H1 : Heap) (locs1 : List Loc) (ls1 : Array Slot), Wd D cy ad nm nv σ2 H1 → va_S A s.heap H1 locs1 → lv_has ls1 7 [(0, .ref b), (1, .ref (ad 0)), (2, .ref (ad 230)), (3, .ref (ad 290)), (4, .int (i32 (i0 : Int)))] → W p l e room_1 s m args below meth c H1 locs1 (cells + 2) (slots + 12) Q (F0 m 3020 ls1 [])) : W p l e room_1 s m args below meth c H locs cells slots Q (F0 m 1989 ls []) := by
  have hx := X.1
  have hb := X.2.1
  have hi0 : inR (i0 : Int) := ⟨by omega, by omega⟩
  have hy1 : inR y1 := by rw [← e1]; exact i32_inR _
  have hy2 : inR y2 := by rw [← e2]; exact i32_inR _
  have hy3 : inR y3 := by rw [← e3]; exact i32_inR _
  refine lv_aload_n hx hb dL_law_1989 rfl (lv_at hl 1 rfl) ?_
  refine lv_aload_n hx hb dL_law_1990 rfl (lv_at hl 0 rfl) ?_
  refine lv_iload hx hb dL_law_1991 (lv_at hl 4 rfl) ?_
  refine m_const (v := 1) hx hb dL_law_1993 rfl ?_
  refine m_add hx hb dL_law_1994 ?_
  refine m_sld (j := i0 + 1) hx hb hX hbl hbA hS (by omega) hL (by omega) e1 dL_law_1995 ?_
  refine lv_aload_n hx hb dL_law_1996 rfl (lv_at hl 0 rfl) ?_
  refine lv_iload hx hb dL_law_1997 (lv_at hl 4 rfl) ?_
  refine m_const (v := 2) hx hb dL_law_1999 rfl ?_
  refine m_add hx hb dL_law_2000 ?_
  refine m_sld (j := i0 + 2) hx hb hX hbl hbA hS (by omega) hL (by omega) e2 dL_law_2001 ?_
  refine lv_aload_n hx hb dL_law_2002 rfl (lv_at hl 3 rfl) ?_
  refine l_callS (As := [.ref (ad 0), .int (i32 y1), .int (i32 y2), .ref (ad 290)]) (rest := []) (κ := fun v q => some (v, q)) (r := (k, σ1)) X Y Z hW hS hl.1 cw_L_proposed hdn_L_proposed ⟨rfl, rfl, (Nat.le_of_ble_eq_true rfl), (Nat.le_of_ble_eq_true rfl)⟩ (fun v σ2 q => ok_L_proposed hy1 hy2 q hst) (by rw [hk]; rfl) rfl rfl (Nat.le_of_ble_eq_true rfl) dL_law_2003 ⟨hce, hsl⟩ (fun v s1 H locs hv hW1 hS1 hf => ?_)
  cases hf
  refine lv_istore (lv' := [(5, .int (i32 k)), (0, .ref b), (1, .ref (ad 0)), (2, .ref (ad 230)), (3, .ref (ad 290)), (4, .int (i32 (i0 : Int)))]) hx hb dL_law_2006 hl (by decide) rfl (fun ls hl => ?_)
  refine lv_aload_n hx hb dL_law_2008 rfl (lv_at hl 3 rfl) ?_
  refine lv_aload_n hx hb dL_law_2009 rfl (lv_at hl 1 rfl) ?_
  refine lv_iload hx hb dL_law_2010 (lv_at hl 5 rfl) ?_
  refine m_const (v := 1) hx hb dL_law_2012 rfl ?_
  refine m_add hx hb dL_law_2013 ?_
  refine m_sld (j := i0 + 1) hx hb hX hbl hbA hS1 (by omega) hL (by omega) e1 dL_law_2014 ?_
  refine lv_aload_n hx hb dL_law_2015 rfl (lv_at hl 1 rfl) ?_
  refine lv_iload hx hb dL_law_2016 (lv_at hl 5 rfl) ?_
  refine m_const (v := 2) hx hb dL_law_2018 rfl ?_
  refine m_add hx hb dL_law_2019 ?_
  refine m_sld (j := i0 + 2) hx hb hX hbl hbA hS1 (by omega) hL (by omega) e2 dL_law_2020 ?_
  refine m_callVi (z := false) (As := [.int (i32 y1), .int (i32 y2)]) (rest := []) (k := fun v q => some (v, q)) (r := (v, σ2)) X hW1 hS1 hl.1 gc_L_246 hd_X6_proposed ⟨rfl, rfl, (Nat.le_of_ble_eq_true rfl), (Nat.le_of_ble_eq_true rfl)⟩ (rc_X6 X hW1) (fun v s2 q => ok_X6_proposed hy1 hy2 q) (by rw [hm]; rfl) rfl rfl (Nat.le_of_ble_eq_true rfl) dL_law_2021 ⟨hce, hsl⟩ (fun w s2 H locs hv2 z2 hW2 hS2 hf => ?_)
  cases hf
  refine lv_istore (lv' := [(6, .int (i32 v)), (5, .int (i32 k)), (0, .ref b), (1, .ref (ad 0)), (2, .ref (ad 230)), (3, .ref (ad 290)), (4, .int (i32 (i0 : Int)))]) hx hb dL_law_2024 hl (by decide) rfl (fun ls hl => ?_)
  refine lv_aload_n hx hb dL_law_2026 rfl (lv_at hl 4 rfl) ?_
  refine m_callVi1 (z := false) (As := []) (rest := []) (k := fun v => some v) (r := k) X hW2 hS2 hl.1 gc_L_160 hd_X6_thrown ⟨rfl, rfl, (Nat.le_of_ble_eq_true rfl), (Nat.le_of_ble_eq_true rfl)⟩ (rc_X6 X hW2) (fun v q => ok_X6_thrown  q) (by rw [ht]; rfl) rfl rfl (Nat.le_of_ble_eq_true rfl) dL_law_2027 ⟨hce, hsl⟩ (fun v H locs hv3 z3 hW3 hS3 hf => ?_)
  cases hf
  refine lv_iload hx hb dL_law_2030 (lv_at hl 1 rfl) ?_
  refine lv_icmp_eq (tgt := 2037) hx hb dL_law_2032 (by decide) (fun _ => ?_) (fun q => absurd rfl q)
  refine lv_iload hx hb dL_law_2037 (lv_at hl 1 rfl) ?_
  refine lv_if_ne (tgt := 2054) hx hb dL_law_2039 (by decide) (fun qk => ?_) (fun qk => ?_)
  · refine lv_goto (tgt := 3020) hx hb dL_law_2054 (by decide) ?_
    exact kk _ _ _ hW3 hS3 (lv_sub hl [2, 3, 4, 5, 6] rfl)
  · have qk := (i32_eq hv z0).mp qk
    refine lv_aload_n hx hb dL_law_2042 rfl (lv_at hl 5 rfl) ?_
    refine m_const (v := 0) hx hb dL_law_2043 rfl ?_
    refine m_lald X hW3 dL_law_2044 ?_
    refine lv_iload hx hb dL_law_2045 (lv_at hl 0 rfl) ?_
    refine m_i2l hx hb hv2 dL_law_2047 ?_
    refine m_lcmp hx hb (hW3.2.1 _ _) hv2 dL_law_2048 ?_
    refine lv_if_eq (tgt := 2054) hx hb dL_law_2049 (by decide) (fun _ => ?_) (fun q => absurd (by rw [ho qk]; unfold lcm; rw [if_neg (Int.lt_irrefl _), if_pos rfl]; rfl) q)
    refine lv_goto (tgt := 3020) hx hb dL_law_2054 (by decide) ?_
    exact kk _ _ _ hW3 hS3 (lv_sub hl [2, 3, 4, 5, 6] rfl)
set_option maxRecDepth 100000 in
set_option maxHeartbeats 4000000 in
theorem case_open {p : Program} {l : Launch} {e : Env} {s : State} {m : MethodId} {args : Array Value} {below : List Frame} {meth : Method} {c : Code} {H : Heap} {locs : List Loc} {cells slots : Nat} {Q : State → Prop} {D : va_G} {cy : Nat → ClassId} {ad : Nat → Nat} {nm nv : Nat} {A : Nat → Prop} {σ : St} {ls : Array Slot} {b L i0 : Nat} {xs : Nat → Int32} {y1 y2 y3 k v : Int} {σ1 σ2 : St} {n : Nat} (X : Cx p s m args c cL_law 7 RL D cy ad nm nv A) (Y : TX A s) (Z : NCs s) (hst : l.stackTraces = false) (hX : va_X b L xs s s.heap) (hbl : b < s.heap.size) (hbA : ¬ A b) (hL : L ≤ 2048) (hiL : i0 + 4 ≤ L) (e1 : (xs (i0 + 1)).toInt = y1) (e2 : (xs (i0 + 2)).toInt = y2) (e3 : (xs (i0 + 3)).toInt = y3) (hW : Wd D cy ad nm nv σ H) (hS : va_S A s.heap H locs) (hl : lv_has ls 7 [(0, .ref b), (1, .ref (ad 0)), (2, .ref (ad 230)), (3, .ref (ad 290)), (4, .int (i32 (i0 : Int)))]) (hce : cells + 1 ≤ 601024) (hsl : slots + 6 ≤ 7293034) (hk : fL_open n σ y1 = some (k, σ1)) (hm : fX6_open n σ1 y1 = some (v, σ2)) (ht : fX6_thrown σ2 = some k) (ho : k = 0 → (σ2 290 0) = v) (kk : ∀ (H1 : Heap) (locs1 : List Loc) (ls1 : Array Slot), Wd D cy ad nm nv σ2 H1 → va_S A s.heap H1 locs1 → lv_has ls1 7 [(0, .ref b), (1, .ref (ad 0)), (2, .ref (ad 230)), (3, .ref (ad 290)), (4, .int (i32 (i0 : Int)))] → W p l e room_1 s m args below meth c H1 locs1 (cells + 1) (slots + 6) Q (F0 m 3020 ls1 [])) : W p l e room_1 s m args below meth c H locs cells slots Q (F0 m 2057 ls []) := by
  have hx := X.1
  have hb := X.2.1
  have hi0 : inR (i0 : Int) := ⟨by omega, by omega⟩
  have hy1 : inR y1 := by rw [← e1]; exact i32_inR _
  have hy2 : inR y2 := by rw [← e2]; exact i32_inR _
  have hy3 : inR y3 := by rw [← e3]; exact i32_inR _
  refine lv_aload_n hx hb dL_law_2057 rfl (lv_at hl 1 rfl) ?_
  refine lv_aload_n hx hb dL_law_2058 rfl (lv_at hl 0 rfl) ?_
  refine lv_iload hx hb dL_law_2059 (lv_at hl 4 rfl) ?_
  refine m_const (v := 1) hx hb dL_law_2061 rfl ?_
  refine m_add hx hb dL_law_2062 ?_
  refine m_sld (j := i0 + 1) hx hb hX hbl hbA hS (by omega) hL (by omega) e1 dL_law_2063 ?_
  refine lv_aload_n hx hb dL_law_2064 rfl (lv_at hl 3 rfl) ?_
  refine l_callS (As := [.ref (ad 0), .int (i32 y1), .ref (ad 290)]) (rest := []) (κ := fun v q => some (v, q)) (r := (k, σ1)) X Y Z hW hS hl.1 cw_L_open hdn_L_open ⟨rfl, rfl, (Nat.le_of_ble_eq_true rfl), (Nat.le_of_ble_eq_true rfl)⟩ (fun v σ2 q => ok_L_open hy1 q hst) (by rw [hk]; rfl) rfl rfl (Nat.le_of_ble_eq_true rfl) dL_law_2065 ⟨hce, hsl⟩ (fun v s1 H locs hv hW1 hS1 hf => ?_)
  cases hf
  refine lv_istore (lv' := [(5, .int (i32 k)), (0, .ref b), (1, .ref (ad 0)), (2, .ref (ad 230)), (3, .ref (ad 290)), (4, .int (i32 (i0 : Int)))]) hx hb dL_law_2068 hl (by decide) rfl (fun ls hl => ?_)
  refine lv_aload_n hx hb dL_law_2070 rfl (lv_at hl 3 rfl) ?_
  refine lv_aload_n hx hb dL_law_2071 rfl (lv_at hl 1 rfl) ?_
  refine lv_iload hx hb dL_law_2072 (lv_at hl 5 rfl) ?_
  refine m_const (v := 1) hx hb dL_law_2074 rfl ?_
  refine m_add hx hb dL_law_2075 ?_
  refine m_sld (j := i0 + 1) hx hb hX hbl hbA hS1 (by omega) hL (by omega) e1 dL_law_2076 ?_
  refine m_callVi (z := false) (As := [.int (i32 y1)]) (rest := []) (k := fun v q => some (v, q)) (r := (v, σ2)) X hW1 hS1 hl.1 gc_L_249 hd_X6_open ⟨rfl, rfl, (Nat.le_of_ble_eq_true rfl), (Nat.le_of_ble_eq_true rfl)⟩ (rc_X6 X hW1) (fun v s2 q => ok_X6_open hy1 q) (by rw [hm]; rfl) rfl rfl (Nat.le_of_ble_eq_true rfl) dL_law_2077 ⟨hce, hsl⟩ (fun w s2 H locs hv2 z2 hW2 hS2 hf => ?_)
  cases hf
  refine lv_istore (lv' := [(6, .int (i32 v)), (5, .int (i32 k)), (0, .ref b), (1, .ref (ad 0)), (2, .ref (ad 230)), (3, .ref (ad 290)), (4, .int (i32 (i0 : Int)))]) hx hb dL_law_2080 hl (by decide) rfl (fun ls hl => ?_)
  refine lv_aload_n hx hb dL_law_2082 rfl (lv_at hl 4 rfl) ?_
  refine m_callVi1 (z := false) (As := []) (rest := []) (k := fun v => some v) (r := k) X hW2 hS2 hl.1 gc_L_160 hd_X6_thrown ⟨rfl, rfl, (Nat.le_of_ble_eq_true rfl), (Nat.le_of_ble_eq_true rfl)⟩ (rc_X6 X hW2) (fun v q => ok_X6_thrown  q) (by rw [ht]; rfl) rfl rfl (Nat.le_of_ble_eq_true rfl) dL_law_2083 ⟨hce, hsl⟩ (fun v H locs hv3 z3 hW3 hS3 hf => ?_)
  cases hf
  refine lv_iload hx hb dL_law_2086 (lv_at hl 1 rfl) ?_
  refine lv_icmp_eq (tgt := 2093) hx hb dL_law_2088 (by decide) (fun _ => ?_) (fun q => absurd rfl q)
  refine lv_iload hx hb dL_law_2093 (lv_at hl 1 rfl) ?_
  refine lv_if_ne (tgt := 2110) hx hb dL_law_2095 (by decide) (fun qk => ?_) (fun qk => ?_)
  · refine lv_goto (tgt := 3020) hx hb dL_law_2110 (by decide) ?_
    exact kk _ _ _ hW3 hS3 (lv_sub hl [2, 3, 4, 5, 6] rfl)
  · have qk := (i32_eq hv z0).mp qk
    refine lv_aload_n hx hb dL_law_2098 rfl (lv_at hl 5 rfl) ?_
    refine m_const (v := 0) hx hb dL_law_2099 rfl ?_
    refine m_lald X hW3 dL_law_2100 ?_
    refine lv_iload hx hb dL_law_2101 (lv_at hl 0 rfl) ?_
    refine m_i2l hx hb hv2 dL_law_2103 ?_
    refine m_lcmp hx hb (hW3.2.1 _ _) hv2 dL_law_2104 ?_
    refine lv_if_eq (tgt := 2110) hx hb dL_law_2105 (by decide) (fun _ => ?_) (fun q => absurd (by rw [ho qk]; unfold lcm; rw [if_neg (Int.lt_irrefl _), if_pos rfl]; rfl) q)
    refine lv_goto (tgt := 3020) hx hb dL_law_2110 (by decide) ?_
    exact kk _ _ _ hW3 hS3 (lv_sub hl [2, 3, 4, 5, 6] rfl)
set_option maxRecDepth 100000 in
set_option maxHeartbeats 4000000 in
theorem case_isMarked {p : Program} {l : Launch} {e : Env} {s : State} {m : MethodId} {args : Array Value} {below : List Frame} {meth : Method} {c : Code} {H : Heap} {locs : List Loc} {cells slots : Nat} {Q : State → Prop} {D : va_G} {cy : Nat → ClassId} {ad : Nat → Nat} {nm nv : Nat} {A : Nat → Prop} {σ : St} {ls : Array Slot} {b L i0 : Nat} {xs : Nat → Int32} {y1 y2 y3 k v : Int} {σ1 σ2 : St} {n : Nat} (X : Cx p s m args c cL_law 7 RL D cy ad nm nv A) (Y : TX A s) (Z : NCs s) (hst : l.stackTraces = false) (hX : va_X b L xs s s.heap) (hbl : b < s.heap.size) (hbA : ¬ A b) (hL : L ≤ 2048) (hiL : i0 + 4 ≤ L) (e1 : (xs (i0 + 1)).toInt = y1) (e2 : (xs (i0 + 2)).toInt = y2) (e3 : (xs (i0 + 3)).toInt = y3) (hW : Wd D cy ad nm nv σ H) (hS : va_S A s.heap H locs) (hl : lv_has ls 7 [(0, .ref b), (1, .ref (ad 0)), (2, .ref (ad 230)), (3, .ref (ad 290)), (4, .int (i32 (i0 : Int)))]) (hce : cells + 3 ≤ 601024) (hsl : slots + 18 ≤ 7293034) (hk : fL_isMarked n σ y1 y2 y3 = some (k, σ1)) (hm : fX6_isMarked n σ1 y1 y2 y3 = some (v, σ2)) (ht : fX6_thrown σ2 = some k) (ho : k = 0 → (σ2 290 0) = (nz v)) (kk : ∀ (H1 : Heap) (locs1 : List Loc) (ls1 : Array Slot), Wd D cy ad nm nv σ2 H1 → va_S A s.heap H1 locs1 → lv_has ls1 7 [(0, .ref b), (1, .ref (ad 0)), (2, .ref (ad 230)), (3, .ref (ad 290)), (4, .int (i32 (i0 : Int)))] → W p l e room_1 s m args below meth c H1 locs1 (cells + 3) (slots + 18) Q (F0 m 3020 ls1 [])) : W p l e room_1 s m args below meth c H locs cells slots Q (F0 m 2113 ls []) := by
  have hx := X.1
  have hb := X.2.1
  have hi0 : inR (i0 : Int) := ⟨by omega, by omega⟩
  have hy1 : inR y1 := by rw [← e1]; exact i32_inR _
  have hy2 : inR y2 := by rw [← e2]; exact i32_inR _
  have hy3 : inR y3 := by rw [← e3]; exact i32_inR _
  refine lv_aload_n hx hb dL_law_2113 rfl (lv_at hl 1 rfl) ?_
  refine lv_aload_n hx hb dL_law_2114 rfl (lv_at hl 0 rfl) ?_
  refine lv_iload hx hb dL_law_2115 (lv_at hl 4 rfl) ?_
  refine m_const (v := 1) hx hb dL_law_2117 rfl ?_
  refine m_add hx hb dL_law_2118 ?_
  refine m_sld (j := i0 + 1) hx hb hX hbl hbA hS (by omega) hL (by omega) e1 dL_law_2119 ?_
  refine lv_aload_n hx hb dL_law_2120 rfl (lv_at hl 0 rfl) ?_
  refine lv_iload hx hb dL_law_2121 (lv_at hl 4 rfl) ?_
  refine m_const (v := 2) hx hb dL_law_2123 rfl ?_
  refine m_add hx hb dL_law_2124 ?_
  refine m_sld (j := i0 + 2) hx hb hX hbl hbA hS (by omega) hL (by omega) e2 dL_law_2125 ?_
  refine lv_aload_n hx hb dL_law_2126 rfl (lv_at hl 0 rfl) ?_
  refine lv_iload hx hb dL_law_2127 (lv_at hl 4 rfl) ?_
  refine m_const (v := 3) hx hb dL_law_2129 rfl ?_
  refine m_add hx hb dL_law_2130 ?_
  refine m_sld (j := i0 + 3) hx hb hX hbl hbA hS (by omega) hL (by omega) e3 dL_law_2131 ?_
  refine lv_aload_n hx hb dL_law_2132 rfl (lv_at hl 3 rfl) ?_
  refine l_callS (As := [.ref (ad 0), .int (i32 y1), .int (i32 y2), .int (i32 y3), .ref (ad 290)]) (rest := []) (κ := fun v q => some (v, q)) (r := (k, σ1)) X Y Z hW hS hl.1 cw_L_isMarked hdn_L_isMarked ⟨rfl, rfl, (Nat.le_of_ble_eq_true rfl), (Nat.le_of_ble_eq_true rfl)⟩ (fun v σ2 q => ok_L_isMarked hy1 hy2 hy3 q hst) (by rw [hk]; rfl) rfl rfl (Nat.le_of_ble_eq_true rfl) dL_law_2133 ⟨hce, hsl⟩ (fun v s1 H locs hv hW1 hS1 hf => ?_)
  cases hf
  refine lv_istore (lv' := [(5, .int (i32 k)), (0, .ref b), (1, .ref (ad 0)), (2, .ref (ad 230)), (3, .ref (ad 290)), (4, .int (i32 (i0 : Int)))]) hx hb dL_law_2136 hl (by decide) rfl (fun ls hl => ?_)
  refine lv_aload_n hx hb dL_law_2138 rfl (lv_at hl 3 rfl) ?_
  refine lv_aload_n hx hb dL_law_2139 rfl (lv_at hl 1 rfl) ?_
  refine lv_iload hx hb dL_law_2140 (lv_at hl 5 rfl) ?_
  refine m_const (v := 1) hx hb dL_law_2142 rfl ?_
  refine m_add hx hb dL_law_2143 ?_
  refine m_sld (j := i0 + 1) hx hb hX hbl hbA hS1 (by omega) hL (by omega) e1 dL_law_2144 ?_
  refine lv_aload_n hx hb dL_law_2145 rfl (lv_at hl 1 rfl) ?_
  refine lv_iload hx hb dL_law_2146 (lv_at hl 5 rfl) ?_
  refine m_const (v := 2) hx hb dL_law_2148 rfl ?_
  refine m_add hx hb dL_law_2149 ?_
  refine m_sld (j := i0 + 2) hx hb hX hbl hbA hS1 (by omega) hL (by omega) e2 dL_law_2150 ?_
  refine lv_aload_n hx hb dL_law_2151 rfl (lv_at hl 1 rfl) ?_
  refine lv_iload hx hb dL_law_2152 (lv_at hl 5 rfl) ?_
  refine m_const (v := 3) hx hb dL_law_2154 rfl ?_
  refine m_add hx hb dL_law_2155 ?_
  refine m_sld (j := i0 + 3) hx hb hX hbl hbA hS1 (by omega) hL (by omega) e3 dL_law_2156 ?_
  refine m_callVi (z := true) (As := [.int (i32 y1), .int (i32 y2), .int (i32 y3)]) (rest := []) (k := fun v q => some (v, q)) (r := (v, σ2)) X hW1 hS1 hl.1 gc_L_252 hd_X6_isMarked ⟨rfl, rfl, (Nat.le_of_ble_eq_true rfl), (Nat.le_of_ble_eq_true rfl)⟩ (rc_X6 X hW1) (fun v s2 q => ok_X6_isMarked hy1 hy2 hy3 q) (by rw [hm]; rfl) rfl rfl (Nat.le_of_ble_eq_true rfl) dL_law_2157 ⟨hce, hsl⟩ (fun w s2 H locs hv2 z2 hW2 hS2 hf => ?_)
  cases hf
  refine lv_istore (lv' := [(6, .int (i32 v)), (5, .int (i32 k)), (0, .ref b), (1, .ref (ad 0)), (2, .ref (ad 230)), (3, .ref (ad 290)), (4, .int (i32 (i0 : Int)))]) hx hb dL_law_2160 hl (by decide) rfl (fun ls hl => ?_)
  refine lv_aload_n hx hb dL_law_2162 rfl (lv_at hl 4 rfl) ?_
  refine m_callVi1 (z := false) (As := []) (rest := []) (k := fun v => some v) (r := k) X hW2 hS2 hl.1 gc_L_160 hd_X6_thrown ⟨rfl, rfl, (Nat.le_of_ble_eq_true rfl), (Nat.le_of_ble_eq_true rfl)⟩ (rc_X6 X hW2) (fun v q => ok_X6_thrown  q) (by rw [ht]; rfl) rfl rfl (Nat.le_of_ble_eq_true rfl) dL_law_2163 ⟨hce, hsl⟩ (fun v H locs hv3 z3 hW3 hS3 hf => ?_)
  cases hf
  refine lv_iload hx hb dL_law_2166 (lv_at hl 1 rfl) ?_
  refine lv_icmp_eq (tgt := 2173) hx hb dL_law_2168 (by decide) (fun _ => ?_) (fun q => absurd rfl q)
  refine lv_iload hx hb dL_law_2173 (lv_at hl 1 rfl) ?_
  refine lv_if_ne (tgt := 2197) hx hb dL_law_2175 (by decide) (fun qk => ?_) (fun qk => ?_)
  · refine lv_goto (tgt := 3020) hx hb dL_law_2197 (by decide) ?_
    exact kk _ _ _ hW3 hS3 (lv_sub hl [2, 3, 4, 5, 6] rfl)
  · have qk := (i32_eq hv z0).mp qk
    refine lv_aload_n hx hb dL_law_2178 rfl (lv_at hl 5 rfl) ?_
    refine m_const (v := 0) hx hb dL_law_2179 rfl ?_
    refine m_lald X hW3 dL_law_2180 ?_
    refine lv_iload hx hb dL_law_2181 (lv_at hl 0 rfl) ?_
    refine m_nzl hx hb hv2 dL_law_2183 dL_law_2186 dL_law_2187 dL_law_2190 ?_
    refine m_lcmp hx hb (hW3.2.1 _ _) (nz_inR _) dL_law_2191 ?_
    refine lv_if_eq (tgt := 2197) hx hb dL_law_2192 (by decide) (fun _ => ?_) (fun q => absurd (by rw [ho qk]; unfold lcm; rw [if_neg (Int.lt_irrefl _), if_pos rfl]; rfl) q)
    refine lv_goto (tgt := 3020) hx hb dL_law_2197 (by decide) ?_
    exact kk _ _ _ hW3 hS3 (lv_sub hl [2, 3, 4, 5, 6] rfl)
set_option maxRecDepth 100000 in
set_option maxHeartbeats 4000000 in
theorem case_covered {p : Program} {l : Launch} {e : Env} {s : State} {m : MethodId} {args : Array Value} {below : List Frame} {meth : Method} {c : Code} {H : Heap} {locs : List Loc} {cells slots : Nat} {Q : State → Prop} {D : va_G} {cy : Nat → ClassId} {ad : Nat → Nat} {nm nv : Nat} {A : Nat → Prop} {σ : St} {ls : Array Slot} {b L i0 : Nat} {xs : Nat → Int32} {y1 y2 y3 k v : Int} {σ1 σ2 : St} {n : Nat} (X : Cx p s m args c cL_law 7 RL D cy ad nm nv A) (Y : TX A s) (Z : NCs s) (hst : l.stackTraces = false) (hX : va_X b L xs s s.heap) (hbl : b < s.heap.size) (hbA : ¬ A b) (hL : L ≤ 2048) (hiL : i0 + 4 ≤ L) (e1 : (xs (i0 + 1)).toInt = y1) (e2 : (xs (i0 + 2)).toInt = y2) (e3 : (xs (i0 + 3)).toInt = y3) (hW : Wd D cy ad nm nv σ H) (hS : va_S A s.heap H locs) (hl : lv_has ls 7 [(0, .ref b), (1, .ref (ad 0)), (2, .ref (ad 230)), (3, .ref (ad 290)), (4, .int (i32 (i0 : Int)))]) (hce : cells + 2 ≤ 601024) (hsl : slots + 12 ≤ 7293034) (hk : fL_covered n σ y1 y2 = some (k, σ1)) (hm : fX6_covered n σ1 y1 y2 = some (v, σ2)) (ht : fX6_thrown σ2 = some k) (ho : k = 0 → (σ2 290 0) = v) (kk : ∀ (H1 : Heap) (locs1 : List Loc) (ls1 : Array Slot), Wd D cy ad nm nv σ2 H1 → va_S A s.heap H1 locs1 → lv_has ls1 7 [(0, .ref b), (1, .ref (ad 0)), (2, .ref (ad 230)), (3, .ref (ad 290)), (4, .int (i32 (i0 : Int)))] → W p l e room_1 s m args below meth c H1 locs1 (cells + 2) (slots + 12) Q (F0 m 3020 ls1 [])) : W p l e room_1 s m args below meth c H locs cells slots Q (F0 m 2200 ls []) := by
  have hx := X.1
  have hb := X.2.1
  have hi0 : inR (i0 : Int) := ⟨by omega, by omega⟩
  have hy1 : inR y1 := by rw [← e1]; exact i32_inR _
  have hy2 : inR y2 := by rw [← e2]; exact i32_inR _
  have hy3 : inR y3 := by rw [← e3]; exact i32_inR _
  refine lv_aload_n hx hb dL_law_2200 rfl (lv_at hl 1 rfl) ?_
  refine lv_aload_n hx hb dL_law_2201 rfl (lv_at hl 0 rfl) ?_
  refine lv_iload hx hb dL_law_2202 (lv_at hl 4 rfl) ?_
  refine m_const (v := 1) hx hb dL_law_2204 rfl ?_
  refine m_add hx hb dL_law_2205 ?_
  refine m_sld (j := i0 + 1) hx hb hX hbl hbA hS (by omega) hL (by omega) e1 dL_law_2206 ?_
  refine lv_aload_n hx hb dL_law_2207 rfl (lv_at hl 0 rfl) ?_
  refine lv_iload hx hb dL_law_2208 (lv_at hl 4 rfl) ?_
  refine m_const (v := 2) hx hb dL_law_2210 rfl ?_
  refine m_add hx hb dL_law_2211 ?_
  refine m_sld (j := i0 + 2) hx hb hX hbl hbA hS (by omega) hL (by omega) e2 dL_law_2212 ?_
  refine lv_aload_n hx hb dL_law_2213 rfl (lv_at hl 3 rfl) ?_
  refine l_callS (As := [.ref (ad 0), .int (i32 y1), .int (i32 y2), .ref (ad 290)]) (rest := []) (κ := fun v q => some (v, q)) (r := (k, σ1)) X Y Z hW hS hl.1 cw_L_covered hdn_L_covered ⟨rfl, rfl, (Nat.le_of_ble_eq_true rfl), (Nat.le_of_ble_eq_true rfl)⟩ (fun v σ2 q => ok_L_covered hy1 hy2 q hst) (by rw [hk]; rfl) rfl rfl (Nat.le_of_ble_eq_true rfl) dL_law_2214 ⟨hce, hsl⟩ (fun v s1 H locs hv hW1 hS1 hf => ?_)
  cases hf
  refine lv_istore (lv' := [(5, .int (i32 k)), (0, .ref b), (1, .ref (ad 0)), (2, .ref (ad 230)), (3, .ref (ad 290)), (4, .int (i32 (i0 : Int)))]) hx hb dL_law_2217 hl (by decide) rfl (fun ls hl => ?_)
  refine lv_aload_n hx hb dL_law_2219 rfl (lv_at hl 3 rfl) ?_
  refine lv_aload_n hx hb dL_law_2220 rfl (lv_at hl 1 rfl) ?_
  refine lv_iload hx hb dL_law_2221 (lv_at hl 5 rfl) ?_
  refine m_const (v := 1) hx hb dL_law_2223 rfl ?_
  refine m_add hx hb dL_law_2224 ?_
  refine m_sld (j := i0 + 1) hx hb hX hbl hbA hS1 (by omega) hL (by omega) e1 dL_law_2225 ?_
  refine lv_aload_n hx hb dL_law_2226 rfl (lv_at hl 1 rfl) ?_
  refine lv_iload hx hb dL_law_2227 (lv_at hl 5 rfl) ?_
  refine m_const (v := 2) hx hb dL_law_2229 rfl ?_
  refine m_add hx hb dL_law_2230 ?_
  refine m_sld (j := i0 + 2) hx hb hX hbl hbA hS1 (by omega) hL (by omega) e2 dL_law_2231 ?_
  refine m_callVi (z := false) (As := [.int (i32 y1), .int (i32 y2)]) (rest := []) (k := fun v q => some (v, q)) (r := (v, σ2)) X hW1 hS1 hl.1 gc_L_255 hd_X6_covered ⟨rfl, rfl, (Nat.le_of_ble_eq_true rfl), (Nat.le_of_ble_eq_true rfl)⟩ (rc_X6 X hW1) (fun v s2 q => ok_X6_covered hy1 hy2 q) (by rw [hm]; rfl) rfl rfl (Nat.le_of_ble_eq_true rfl) dL_law_2232 ⟨hce, hsl⟩ (fun w s2 H locs hv2 z2 hW2 hS2 hf => ?_)
  cases hf
  refine lv_istore (lv' := [(6, .int (i32 v)), (5, .int (i32 k)), (0, .ref b), (1, .ref (ad 0)), (2, .ref (ad 230)), (3, .ref (ad 290)), (4, .int (i32 (i0 : Int)))]) hx hb dL_law_2235 hl (by decide) rfl (fun ls hl => ?_)
  refine lv_aload_n hx hb dL_law_2237 rfl (lv_at hl 4 rfl) ?_
  refine m_callVi1 (z := false) (As := []) (rest := []) (k := fun v => some v) (r := k) X hW2 hS2 hl.1 gc_L_160 hd_X6_thrown ⟨rfl, rfl, (Nat.le_of_ble_eq_true rfl), (Nat.le_of_ble_eq_true rfl)⟩ (rc_X6 X hW2) (fun v q => ok_X6_thrown  q) (by rw [ht]; rfl) rfl rfl (Nat.le_of_ble_eq_true rfl) dL_law_2238 ⟨hce, hsl⟩ (fun v H locs hv3 z3 hW3 hS3 hf => ?_)
  cases hf
  refine lv_iload hx hb dL_law_2241 (lv_at hl 1 rfl) ?_
  refine lv_icmp_eq (tgt := 2248) hx hb dL_law_2243 (by decide) (fun _ => ?_) (fun q => absurd rfl q)
  refine lv_iload hx hb dL_law_2248 (lv_at hl 1 rfl) ?_
  refine lv_if_ne (tgt := 2265) hx hb dL_law_2250 (by decide) (fun qk => ?_) (fun qk => ?_)
  · refine lv_goto (tgt := 3020) hx hb dL_law_2265 (by decide) ?_
    exact kk _ _ _ hW3 hS3 (lv_sub hl [2, 3, 4, 5, 6] rfl)
  · have qk := (i32_eq hv z0).mp qk
    refine lv_aload_n hx hb dL_law_2253 rfl (lv_at hl 5 rfl) ?_
    refine m_const (v := 0) hx hb dL_law_2254 rfl ?_
    refine m_lald X hW3 dL_law_2255 ?_
    refine lv_iload hx hb dL_law_2256 (lv_at hl 0 rfl) ?_
    refine m_i2l hx hb hv2 dL_law_2258 ?_
    refine m_lcmp hx hb (hW3.2.1 _ _) hv2 dL_law_2259 ?_
    refine lv_if_eq (tgt := 2265) hx hb dL_law_2260 (by decide) (fun _ => ?_) (fun q => absurd (by rw [ho qk]; unfold lcm; rw [if_neg (Int.lt_irrefl _), if_pos rfl]; rfl) q)
    refine lv_goto (tgt := 3020) hx hb dL_law_2265 (by decide) ?_
    exact kk _ _ _ hW3 hS3 (lv_sub hl [2, 3, 4, 5, 6] rfl)
set_option maxRecDepth 100000 in
set_option maxHeartbeats 4000000 in
theorem case_blocks {p : Program} {l : Launch} {e : Env} {s : State} {m : MethodId} {args : Array Value} {below : List Frame} {meth : Method} {c : Code} {H : Heap} {locs : List Loc} {cells slots : Nat} {Q : State → Prop} {D : va_G} {cy : Nat → ClassId} {ad : Nat → Nat} {nm nv : Nat} {A : Nat → Prop} {σ : St} {ls : Array Slot} {b L i0 : Nat} {xs : Nat → Int32} {y1 y2 y3 k v : Int} {σ1 σ2 : St} {n : Nat} (X : Cx p s m args c cL_law 7 RL D cy ad nm nv A) (Y : TX A s) (Z : NCs s) (hst : l.stackTraces = false) (hX : va_X b L xs s s.heap) (hbl : b < s.heap.size) (hbA : ¬ A b) (hL : L ≤ 2048) (hiL : i0 + 4 ≤ L) (e1 : (xs (i0 + 1)).toInt = y1) (e2 : (xs (i0 + 2)).toInt = y2) (e3 : (xs (i0 + 3)).toInt = y3) (hW : Wd D cy ad nm nv σ H) (hS : va_S A s.heap H locs) (hl : lv_has ls 7 [(0, .ref b), (1, .ref (ad 0)), (2, .ref (ad 230)), (3, .ref (ad 290)), (4, .int (i32 (i0 : Int)))]) (hce : cells + 1 ≤ 601024) (hsl : slots + 6 ≤ 7293034) (hk : fL_blocks n σ y1 = some (k, σ1)) (hm : fX6_blocks n σ1 y1 = some (v, σ2)) (ht : fX6_thrown σ2 = some k) (ho : k = 0 → (σ2 290 0) = v) (kk : ∀ (H1 : Heap) (locs1 : List Loc) (ls1 : Array Slot), Wd D cy ad nm nv σ2 H1 → va_S A s.heap H1 locs1 → lv_has ls1 7 [(0, .ref b), (1, .ref (ad 0)), (2, .ref (ad 230)), (3, .ref (ad 290)), (4, .int (i32 (i0 : Int)))] → W p l e room_1 s m args below meth c H1 locs1 (cells + 1) (slots + 6) Q (F0 m 3020 ls1 [])) : W p l e room_1 s m args below meth c H locs cells slots Q (F0 m 2268 ls []) := by
  have hx := X.1
  have hb := X.2.1
  have hi0 : inR (i0 : Int) := ⟨by omega, by omega⟩
  have hy1 : inR y1 := by rw [← e1]; exact i32_inR _
  have hy2 : inR y2 := by rw [← e2]; exact i32_inR _
  have hy3 : inR y3 := by rw [← e3]; exact i32_inR _
  refine lv_aload_n hx hb dL_law_2268 rfl (lv_at hl 1 rfl) ?_
  refine lv_aload_n hx hb dL_law_2269 rfl (lv_at hl 0 rfl) ?_
  refine lv_iload hx hb dL_law_2270 (lv_at hl 4 rfl) ?_
  refine m_const (v := 1) hx hb dL_law_2272 rfl ?_
  refine m_add hx hb dL_law_2273 ?_
  refine m_sld (j := i0 + 1) hx hb hX hbl hbA hS (by omega) hL (by omega) e1 dL_law_2274 ?_
  refine lv_aload_n hx hb dL_law_2275 rfl (lv_at hl 3 rfl) ?_
  refine l_callS (As := [.ref (ad 0), .int (i32 y1), .ref (ad 290)]) (rest := []) (κ := fun v q => some (v, q)) (r := (k, σ1)) X Y Z hW hS hl.1 cw_L_blocks hdn_L_blocks ⟨rfl, rfl, (Nat.le_of_ble_eq_true rfl), (Nat.le_of_ble_eq_true rfl)⟩ (fun v σ2 q => ok_L_blocks hy1 q hst) (by rw [hk]; rfl) rfl rfl (Nat.le_of_ble_eq_true rfl) dL_law_2276 ⟨hce, hsl⟩ (fun v s1 H locs hv hW1 hS1 hf => ?_)
  cases hf
  refine lv_istore (lv' := [(5, .int (i32 k)), (0, .ref b), (1, .ref (ad 0)), (2, .ref (ad 230)), (3, .ref (ad 290)), (4, .int (i32 (i0 : Int)))]) hx hb dL_law_2279 hl (by decide) rfl (fun ls hl => ?_)
  refine lv_aload_n hx hb dL_law_2281 rfl (lv_at hl 3 rfl) ?_
  refine lv_aload_n hx hb dL_law_2282 rfl (lv_at hl 1 rfl) ?_
  refine lv_iload hx hb dL_law_2283 (lv_at hl 5 rfl) ?_
  refine m_const (v := 1) hx hb dL_law_2285 rfl ?_
  refine m_add hx hb dL_law_2286 ?_
  refine m_sld (j := i0 + 1) hx hb hX hbl hbA hS1 (by omega) hL (by omega) e1 dL_law_2287 ?_
  refine m_callVi (z := false) (As := [.int (i32 y1)]) (rest := []) (k := fun v q => some (v, q)) (r := (v, σ2)) X hW1 hS1 hl.1 gc_L_258 hd_X6_blocks ⟨rfl, rfl, (Nat.le_of_ble_eq_true rfl), (Nat.le_of_ble_eq_true rfl)⟩ (rc_X6 X hW1) (fun v s2 q => ok_X6_blocks hy1 q) (by rw [hm]; rfl) rfl rfl (Nat.le_of_ble_eq_true rfl) dL_law_2288 ⟨hce, hsl⟩ (fun w s2 H locs hv2 z2 hW2 hS2 hf => ?_)
  cases hf
  refine lv_istore (lv' := [(6, .int (i32 v)), (5, .int (i32 k)), (0, .ref b), (1, .ref (ad 0)), (2, .ref (ad 230)), (3, .ref (ad 290)), (4, .int (i32 (i0 : Int)))]) hx hb dL_law_2291 hl (by decide) rfl (fun ls hl => ?_)
  refine lv_aload_n hx hb dL_law_2293 rfl (lv_at hl 4 rfl) ?_
  refine m_callVi1 (z := false) (As := []) (rest := []) (k := fun v => some v) (r := k) X hW2 hS2 hl.1 gc_L_160 hd_X6_thrown ⟨rfl, rfl, (Nat.le_of_ble_eq_true rfl), (Nat.le_of_ble_eq_true rfl)⟩ (rc_X6 X hW2) (fun v q => ok_X6_thrown  q) (by rw [ht]; rfl) rfl rfl (Nat.le_of_ble_eq_true rfl) dL_law_2294 ⟨hce, hsl⟩ (fun v H locs hv3 z3 hW3 hS3 hf => ?_)
  cases hf
  refine lv_iload hx hb dL_law_2297 (lv_at hl 1 rfl) ?_
  refine lv_icmp_eq (tgt := 2304) hx hb dL_law_2299 (by decide) (fun _ => ?_) (fun q => absurd rfl q)
  refine lv_iload hx hb dL_law_2304 (lv_at hl 1 rfl) ?_
  refine lv_if_ne (tgt := 2321) hx hb dL_law_2306 (by decide) (fun qk => ?_) (fun qk => ?_)
  · refine lv_goto (tgt := 3020) hx hb dL_law_2321 (by decide) ?_
    exact kk _ _ _ hW3 hS3 (lv_sub hl [2, 3, 4, 5, 6] rfl)
  · have qk := (i32_eq hv z0).mp qk
    refine lv_aload_n hx hb dL_law_2309 rfl (lv_at hl 5 rfl) ?_
    refine m_const (v := 0) hx hb dL_law_2310 rfl ?_
    refine m_lald X hW3 dL_law_2311 ?_
    refine lv_iload hx hb dL_law_2312 (lv_at hl 0 rfl) ?_
    refine m_i2l hx hb hv2 dL_law_2314 ?_
    refine m_lcmp hx hb (hW3.2.1 _ _) hv2 dL_law_2315 ?_
    refine lv_if_eq (tgt := 2321) hx hb dL_law_2316 (by decide) (fun _ => ?_) (fun q => absurd (by rw [ho qk]; unfold lcm; rw [if_neg (Int.lt_irrefl _), if_pos rfl]; rfl) q)
    refine lv_goto (tgt := 3020) hx hb dL_law_2321 (by decide) ?_
    exact kk _ _ _ hW3 hS3 (lv_sub hl [2, 3, 4, 5, 6] rfl)
set_option maxRecDepth 100000 in
set_option maxHeartbeats 4000000 in
theorem case_kind {p : Program} {l : Launch} {e : Env} {s : State} {m : MethodId} {args : Array Value} {below : List Frame} {meth : Method} {c : Code} {H : Heap} {locs : List Loc} {cells slots : Nat} {Q : State → Prop} {D : va_G} {cy : Nat → ClassId} {ad : Nat → Nat} {nm nv : Nat} {A : Nat → Prop} {σ : St} {ls : Array Slot} {b L i0 : Nat} {xs : Nat → Int32} {y1 y2 y3 k v : Int} {σ1 σ2 : St} {n : Nat} (X : Cx p s m args c cL_law 7 RL D cy ad nm nv A) (Y : TX A s) (Z : NCs s) (hst : l.stackTraces = false) (hX : va_X b L xs s s.heap) (hbl : b < s.heap.size) (hbA : ¬ A b) (hL : L ≤ 2048) (hiL : i0 + 4 ≤ L) (e1 : (xs (i0 + 1)).toInt = y1) (e2 : (xs (i0 + 2)).toInt = y2) (e3 : (xs (i0 + 3)).toInt = y3) (hW : Wd D cy ad nm nv σ H) (hS : va_S A s.heap H locs) (hl : lv_has ls 7 [(0, .ref b), (1, .ref (ad 0)), (2, .ref (ad 230)), (3, .ref (ad 290)), (4, .int (i32 (i0 : Int)))]) (hce : cells + 2 ≤ 601024) (hsl : slots + 12 ≤ 7293034) (hk : fL_kind n σ y1 y2 = some (k, σ1)) (hm : fX6_kind n σ1 y1 y2 = some (v, σ2)) (ht : fX6_thrown σ2 = some k) (ho : k = 0 → (σ2 290 0) = v) (kk : ∀ (H1 : Heap) (locs1 : List Loc) (ls1 : Array Slot), Wd D cy ad nm nv σ2 H1 → va_S A s.heap H1 locs1 → lv_has ls1 7 [(0, .ref b), (1, .ref (ad 0)), (2, .ref (ad 230)), (3, .ref (ad 290)), (4, .int (i32 (i0 : Int)))] → W p l e room_1 s m args below meth c H1 locs1 (cells + 2) (slots + 12) Q (F0 m 3020 ls1 [])) : W p l e room_1 s m args below meth c H locs cells slots Q (F0 m 2324 ls []) := by
  have hx := X.1
  have hb := X.2.1
  have hi0 : inR (i0 : Int) := ⟨by omega, by omega⟩
  have hy1 : inR y1 := by rw [← e1]; exact i32_inR _
  have hy2 : inR y2 := by rw [← e2]; exact i32_inR _
  have hy3 : inR y3 := by rw [← e3]; exact i32_inR _
  refine lv_aload_n hx hb dL_law_2324 rfl (lv_at hl 1 rfl) ?_
  refine lv_aload_n hx hb dL_law_2325 rfl (lv_at hl 0 rfl) ?_
  refine lv_iload hx hb dL_law_2326 (lv_at hl 4 rfl) ?_
  refine m_const (v := 1) hx hb dL_law_2328 rfl ?_
  refine m_add hx hb dL_law_2329 ?_
  refine m_sld (j := i0 + 1) hx hb hX hbl hbA hS (by omega) hL (by omega) e1 dL_law_2330 ?_
  refine lv_aload_n hx hb dL_law_2331 rfl (lv_at hl 0 rfl) ?_
  refine lv_iload hx hb dL_law_2332 (lv_at hl 4 rfl) ?_
  refine m_const (v := 2) hx hb dL_law_2334 rfl ?_
  refine m_add hx hb dL_law_2335 ?_
  refine m_sld (j := i0 + 2) hx hb hX hbl hbA hS (by omega) hL (by omega) e2 dL_law_2336 ?_
  refine lv_aload_n hx hb dL_law_2337 rfl (lv_at hl 3 rfl) ?_
  refine l_callS (As := [.ref (ad 0), .int (i32 y1), .int (i32 y2), .ref (ad 290)]) (rest := []) (κ := fun v q => some (v, q)) (r := (k, σ1)) X Y Z hW hS hl.1 cw_L_kind hdn_L_kind ⟨rfl, rfl, (Nat.le_of_ble_eq_true rfl), (Nat.le_of_ble_eq_true rfl)⟩ (fun v σ2 q => ok_L_kind hy1 hy2 q hst) (by rw [hk]; rfl) rfl rfl (Nat.le_of_ble_eq_true rfl) dL_law_2338 ⟨hce, hsl⟩ (fun v s1 H locs hv hW1 hS1 hf => ?_)
  cases hf
  refine lv_istore (lv' := [(5, .int (i32 k)), (0, .ref b), (1, .ref (ad 0)), (2, .ref (ad 230)), (3, .ref (ad 290)), (4, .int (i32 (i0 : Int)))]) hx hb dL_law_2341 hl (by decide) rfl (fun ls hl => ?_)
  refine lv_aload_n hx hb dL_law_2343 rfl (lv_at hl 3 rfl) ?_
  refine lv_aload_n hx hb dL_law_2344 rfl (lv_at hl 1 rfl) ?_
  refine lv_iload hx hb dL_law_2345 (lv_at hl 5 rfl) ?_
  refine m_const (v := 1) hx hb dL_law_2347 rfl ?_
  refine m_add hx hb dL_law_2348 ?_
  refine m_sld (j := i0 + 1) hx hb hX hbl hbA hS1 (by omega) hL (by omega) e1 dL_law_2349 ?_
  refine lv_aload_n hx hb dL_law_2350 rfl (lv_at hl 1 rfl) ?_
  refine lv_iload hx hb dL_law_2351 (lv_at hl 5 rfl) ?_
  refine m_const (v := 2) hx hb dL_law_2353 rfl ?_
  refine m_add hx hb dL_law_2354 ?_
  refine m_sld (j := i0 + 2) hx hb hX hbl hbA hS1 (by omega) hL (by omega) e2 dL_law_2355 ?_
  refine m_callVi (z := false) (As := [.int (i32 y1), .int (i32 y2)]) (rest := []) (k := fun v q => some (v, q)) (r := (v, σ2)) X hW1 hS1 hl.1 gc_L_261 hd_X6_kind ⟨rfl, rfl, (Nat.le_of_ble_eq_true rfl), (Nat.le_of_ble_eq_true rfl)⟩ (rc_X6 X hW1) (fun v s2 q => ok_X6_kind hy1 hy2 q) (by rw [hm]; rfl) rfl rfl (Nat.le_of_ble_eq_true rfl) dL_law_2356 ⟨hce, hsl⟩ (fun w s2 H locs hv2 z2 hW2 hS2 hf => ?_)
  cases hf
  refine lv_istore (lv' := [(6, .int (i32 v)), (5, .int (i32 k)), (0, .ref b), (1, .ref (ad 0)), (2, .ref (ad 230)), (3, .ref (ad 290)), (4, .int (i32 (i0 : Int)))]) hx hb dL_law_2359 hl (by decide) rfl (fun ls hl => ?_)
  refine lv_aload_n hx hb dL_law_2361 rfl (lv_at hl 4 rfl) ?_
  refine m_callVi1 (z := false) (As := []) (rest := []) (k := fun v => some v) (r := k) X hW2 hS2 hl.1 gc_L_160 hd_X6_thrown ⟨rfl, rfl, (Nat.le_of_ble_eq_true rfl), (Nat.le_of_ble_eq_true rfl)⟩ (rc_X6 X hW2) (fun v q => ok_X6_thrown  q) (by rw [ht]; rfl) rfl rfl (Nat.le_of_ble_eq_true rfl) dL_law_2362 ⟨hce, hsl⟩ (fun v H locs hv3 z3 hW3 hS3 hf => ?_)
  cases hf
  refine lv_iload hx hb dL_law_2365 (lv_at hl 1 rfl) ?_
  refine lv_icmp_eq (tgt := 2372) hx hb dL_law_2367 (by decide) (fun _ => ?_) (fun q => absurd rfl q)
  refine lv_iload hx hb dL_law_2372 (lv_at hl 1 rfl) ?_
  refine lv_if_ne (tgt := 2389) hx hb dL_law_2374 (by decide) (fun qk => ?_) (fun qk => ?_)
  · refine lv_goto (tgt := 3020) hx hb dL_law_2389 (by decide) ?_
    exact kk _ _ _ hW3 hS3 (lv_sub hl [2, 3, 4, 5, 6] rfl)
  · have qk := (i32_eq hv z0).mp qk
    refine lv_aload_n hx hb dL_law_2377 rfl (lv_at hl 5 rfl) ?_
    refine m_const (v := 0) hx hb dL_law_2378 rfl ?_
    refine m_lald X hW3 dL_law_2379 ?_
    refine lv_iload hx hb dL_law_2380 (lv_at hl 0 rfl) ?_
    refine m_i2l hx hb hv2 dL_law_2382 ?_
    refine m_lcmp hx hb (hW3.2.1 _ _) hv2 dL_law_2383 ?_
    refine lv_if_eq (tgt := 2389) hx hb dL_law_2384 (by decide) (fun _ => ?_) (fun q => absurd (by rw [ho qk]; unfold lcm; rw [if_neg (Int.lt_irrefl _), if_pos rfl]; rfl) q)
    refine lv_goto (tgt := 3020) hx hb dL_law_2389 (by decide) ?_
    exact kk _ _ _ hW3 hS3 (lv_sub hl [2, 3, 4, 5, 6] rfl)
set_option maxRecDepth 100000 in
set_option maxHeartbeats 4000000 in
theorem case_depth {p : Program} {l : Launch} {e : Env} {s : State} {m : MethodId} {args : Array Value} {below : List Frame} {meth : Method} {c : Code} {H : Heap} {locs : List Loc} {cells slots : Nat} {Q : State → Prop} {D : va_G} {cy : Nat → ClassId} {ad : Nat → Nat} {nm nv : Nat} {A : Nat → Prop} {σ : St} {ls : Array Slot} {b L i0 : Nat} {xs : Nat → Int32} {y1 y2 y3 k v : Int} {σ1 σ2 : St} {n : Nat} (X : Cx p s m args c cL_law 7 RL D cy ad nm nv A) (Y : TX A s) (Z : NCs s) (hst : l.stackTraces = false) (hX : va_X b L xs s s.heap) (hbl : b < s.heap.size) (hbA : ¬ A b) (hL : L ≤ 2048) (hiL : i0 + 4 ≤ L) (e1 : (xs (i0 + 1)).toInt = y1) (e2 : (xs (i0 + 2)).toInt = y2) (e3 : (xs (i0 + 3)).toInt = y3) (hW : Wd D cy ad nm nv σ H) (hS : va_S A s.heap H locs) (hl : lv_has ls 7 [(0, .ref b), (1, .ref (ad 0)), (2, .ref (ad 230)), (3, .ref (ad 290)), (4, .int (i32 (i0 : Int)))]) (hce : cells + 2 ≤ 601024) (hsl : slots + 12 ≤ 7293034) (hk : fL_depth n σ y1 y2 = some (k, σ1)) (hm : fX6_depth n σ1 y1 y2 = some (v, σ2)) (ht : fX6_thrown σ2 = some k) (ho : k = 0 → (σ2 290 0) = v) (kk : ∀ (H1 : Heap) (locs1 : List Loc) (ls1 : Array Slot), Wd D cy ad nm nv σ2 H1 → va_S A s.heap H1 locs1 → lv_has ls1 7 [(0, .ref b), (1, .ref (ad 0)), (2, .ref (ad 230)), (3, .ref (ad 290)), (4, .int (i32 (i0 : Int)))] → W p l e room_1 s m args below meth c H1 locs1 (cells + 2) (slots + 12) Q (F0 m 3020 ls1 [])) : W p l e room_1 s m args below meth c H locs cells slots Q (F0 m 2392 ls []) := by
  have hx := X.1
  have hb := X.2.1
  have hi0 : inR (i0 : Int) := ⟨by omega, by omega⟩
  have hy1 : inR y1 := by rw [← e1]; exact i32_inR _
  have hy2 : inR y2 := by rw [← e2]; exact i32_inR _
  have hy3 : inR y3 := by rw [← e3]; exact i32_inR _
  refine lv_aload_n hx hb dL_law_2392 rfl (lv_at hl 1 rfl) ?_
  refine lv_aload_n hx hb dL_law_2393 rfl (lv_at hl 0 rfl) ?_
  refine lv_iload hx hb dL_law_2394 (lv_at hl 4 rfl) ?_
  refine m_const (v := 1) hx hb dL_law_2396 rfl ?_
  refine m_add hx hb dL_law_2397 ?_
  refine m_sld (j := i0 + 1) hx hb hX hbl hbA hS (by omega) hL (by omega) e1 dL_law_2398 ?_
  refine lv_aload_n hx hb dL_law_2399 rfl (lv_at hl 0 rfl) ?_
  refine lv_iload hx hb dL_law_2400 (lv_at hl 4 rfl) ?_
  refine m_const (v := 2) hx hb dL_law_2402 rfl ?_
  refine m_add hx hb dL_law_2403 ?_
  refine m_sld (j := i0 + 2) hx hb hX hbl hbA hS (by omega) hL (by omega) e2 dL_law_2404 ?_
  refine lv_aload_n hx hb dL_law_2405 rfl (lv_at hl 3 rfl) ?_
  refine l_callS (As := [.ref (ad 0), .int (i32 y1), .int (i32 y2), .ref (ad 290)]) (rest := []) (κ := fun v q => some (v, q)) (r := (k, σ1)) X Y Z hW hS hl.1 cw_L_depth hdn_L_depth ⟨rfl, rfl, (Nat.le_of_ble_eq_true rfl), (Nat.le_of_ble_eq_true rfl)⟩ (fun v σ2 q => ok_L_depth hy1 hy2 q hst) (by rw [hk]; rfl) rfl rfl (Nat.le_of_ble_eq_true rfl) dL_law_2406 ⟨hce, hsl⟩ (fun v s1 H locs hv hW1 hS1 hf => ?_)
  cases hf
  refine lv_istore (lv' := [(5, .int (i32 k)), (0, .ref b), (1, .ref (ad 0)), (2, .ref (ad 230)), (3, .ref (ad 290)), (4, .int (i32 (i0 : Int)))]) hx hb dL_law_2409 hl (by decide) rfl (fun ls hl => ?_)
  refine lv_aload_n hx hb dL_law_2411 rfl (lv_at hl 3 rfl) ?_
  refine lv_aload_n hx hb dL_law_2412 rfl (lv_at hl 1 rfl) ?_
  refine lv_iload hx hb dL_law_2413 (lv_at hl 5 rfl) ?_
  refine m_const (v := 1) hx hb dL_law_2415 rfl ?_
  refine m_add hx hb dL_law_2416 ?_
  refine m_sld (j := i0 + 1) hx hb hX hbl hbA hS1 (by omega) hL (by omega) e1 dL_law_2417 ?_
  refine lv_aload_n hx hb dL_law_2418 rfl (lv_at hl 1 rfl) ?_
  refine lv_iload hx hb dL_law_2419 (lv_at hl 5 rfl) ?_
  refine m_const (v := 2) hx hb dL_law_2421 rfl ?_
  refine m_add hx hb dL_law_2422 ?_
  refine m_sld (j := i0 + 2) hx hb hX hbl hbA hS1 (by omega) hL (by omega) e2 dL_law_2423 ?_
  refine m_callVi (z := false) (As := [.int (i32 y1), .int (i32 y2)]) (rest := []) (k := fun v q => some (v, q)) (r := (v, σ2)) X hW1 hS1 hl.1 gc_L_264 hd_X6_depth ⟨rfl, rfl, (Nat.le_of_ble_eq_true rfl), (Nat.le_of_ble_eq_true rfl)⟩ (rc_X6 X hW1) (fun v s2 q => ok_X6_depth hy1 hy2 q) (by rw [hm]; rfl) rfl rfl (Nat.le_of_ble_eq_true rfl) dL_law_2424 ⟨hce, hsl⟩ (fun w s2 H locs hv2 z2 hW2 hS2 hf => ?_)
  cases hf
  refine lv_istore (lv' := [(6, .int (i32 v)), (5, .int (i32 k)), (0, .ref b), (1, .ref (ad 0)), (2, .ref (ad 230)), (3, .ref (ad 290)), (4, .int (i32 (i0 : Int)))]) hx hb dL_law_2427 hl (by decide) rfl (fun ls hl => ?_)
  refine lv_aload_n hx hb dL_law_2429 rfl (lv_at hl 4 rfl) ?_
  refine m_callVi1 (z := false) (As := []) (rest := []) (k := fun v => some v) (r := k) X hW2 hS2 hl.1 gc_L_160 hd_X6_thrown ⟨rfl, rfl, (Nat.le_of_ble_eq_true rfl), (Nat.le_of_ble_eq_true rfl)⟩ (rc_X6 X hW2) (fun v q => ok_X6_thrown  q) (by rw [ht]; rfl) rfl rfl (Nat.le_of_ble_eq_true rfl) dL_law_2430 ⟨hce, hsl⟩ (fun v H locs hv3 z3 hW3 hS3 hf => ?_)
  cases hf
  refine lv_iload hx hb dL_law_2433 (lv_at hl 1 rfl) ?_
  refine lv_icmp_eq (tgt := 2440) hx hb dL_law_2435 (by decide) (fun _ => ?_) (fun q => absurd rfl q)
  refine lv_iload hx hb dL_law_2440 (lv_at hl 1 rfl) ?_
  refine lv_if_ne (tgt := 2457) hx hb dL_law_2442 (by decide) (fun qk => ?_) (fun qk => ?_)
  · refine lv_goto (tgt := 3020) hx hb dL_law_2457 (by decide) ?_
    exact kk _ _ _ hW3 hS3 (lv_sub hl [2, 3, 4, 5, 6] rfl)
  · have qk := (i32_eq hv z0).mp qk
    refine lv_aload_n hx hb dL_law_2445 rfl (lv_at hl 5 rfl) ?_
    refine m_const (v := 0) hx hb dL_law_2446 rfl ?_
    refine m_lald X hW3 dL_law_2447 ?_
    refine lv_iload hx hb dL_law_2448 (lv_at hl 0 rfl) ?_
    refine m_i2l hx hb hv2 dL_law_2450 ?_
    refine m_lcmp hx hb (hW3.2.1 _ _) hv2 dL_law_2451 ?_
    refine lv_if_eq (tgt := 2457) hx hb dL_law_2452 (by decide) (fun _ => ?_) (fun q => absurd (by rw [ho qk]; unfold lcm; rw [if_neg (Int.lt_irrefl _), if_pos rfl]; rfl) q)
    refine lv_goto (tgt := 3020) hx hb dL_law_2457 (by decide) ?_
    exact kk _ _ _ hW3 hS3 (lv_sub hl [2, 3, 4, 5, 6] rfl)
set_option maxRecDepth 100000 in
set_option maxHeartbeats 4000000 in
theorem case_level {p : Program} {l : Launch} {e : Env} {s : State} {m : MethodId} {args : Array Value} {below : List Frame} {meth : Method} {c : Code} {H : Heap} {locs : List Loc} {cells slots : Nat} {Q : State → Prop} {D : va_G} {cy : Nat → ClassId} {ad : Nat → Nat} {nm nv : Nat} {A : Nat → Prop} {σ : St} {ls : Array Slot} {b L i0 : Nat} {xs : Nat → Int32} {y1 y2 y3 k v : Int} {σ1 σ2 : St} {n : Nat} (X : Cx p s m args c cL_law 7 RL D cy ad nm nv A) (Y : TX A s) (Z : NCs s) (hst : l.stackTraces = false) (hX : va_X b L xs s s.heap) (hbl : b < s.heap.size) (hbA : ¬ A b) (hL : L ≤ 2048) (hiL : i0 + 4 ≤ L) (e1 : (xs (i0 + 1)).toInt = y1) (e2 : (xs (i0 + 2)).toInt = y2) (e3 : (xs (i0 + 3)).toInt = y3) (hW : Wd D cy ad nm nv σ H) (hS : va_S A s.heap H locs) (hl : lv_has ls 7 [(0, .ref b), (1, .ref (ad 0)), (2, .ref (ad 230)), (3, .ref (ad 290)), (4, .int (i32 (i0 : Int)))]) (hce : cells + 2 ≤ 601024) (hsl : slots + 12 ≤ 7293034) (hk : fL_level n σ y1 y2 = some (k, σ1)) (hm : fX6_level n σ1 y1 y2 = some (v, σ2)) (ht : fX6_thrown σ2 = some k) (ho : k = 0 → (σ2 290 0) = v) (kk : ∀ (H1 : Heap) (locs1 : List Loc) (ls1 : Array Slot), Wd D cy ad nm nv σ2 H1 → va_S A s.heap H1 locs1 → lv_has ls1 7 [(0, .ref b), (1, .ref (ad 0)), (2, .ref (ad 230)), (3, .ref (ad 290)), (4, .int (i32 (i0 : Int)))] → W p l e room_1 s m args below meth c H1 locs1 (cells + 2) (slots + 12) Q (F0 m 3020 ls1 [])) : W p l e room_1 s m args below meth c H locs cells slots Q (F0 m 2460 ls []) := by
  have hx := X.1
  have hb := X.2.1
  have hi0 : inR (i0 : Int) := ⟨by omega, by omega⟩
  have hy1 : inR y1 := by rw [← e1]; exact i32_inR _
  have hy2 : inR y2 := by rw [← e2]; exact i32_inR _
  have hy3 : inR y3 := by rw [← e3]; exact i32_inR _
  refine lv_aload_n hx hb dL_law_2460 rfl (lv_at hl 1 rfl) ?_
  refine lv_aload_n hx hb dL_law_2461 rfl (lv_at hl 0 rfl) ?_
  refine lv_iload hx hb dL_law_2462 (lv_at hl 4 rfl) ?_
  refine m_const (v := 1) hx hb dL_law_2464 rfl ?_
  refine m_add hx hb dL_law_2465 ?_
  refine m_sld (j := i0 + 1) hx hb hX hbl hbA hS (by omega) hL (by omega) e1 dL_law_2466 ?_
  refine lv_aload_n hx hb dL_law_2467 rfl (lv_at hl 0 rfl) ?_
  refine lv_iload hx hb dL_law_2468 (lv_at hl 4 rfl) ?_
  refine m_const (v := 2) hx hb dL_law_2470 rfl ?_
  refine m_add hx hb dL_law_2471 ?_
  refine m_sld (j := i0 + 2) hx hb hX hbl hbA hS (by omega) hL (by omega) e2 dL_law_2472 ?_
  refine lv_aload_n hx hb dL_law_2473 rfl (lv_at hl 3 rfl) ?_
  refine l_callS (As := [.ref (ad 0), .int (i32 y1), .int (i32 y2), .ref (ad 290)]) (rest := []) (κ := fun v q => some (v, q)) (r := (k, σ1)) X Y Z hW hS hl.1 cw_L_level hdn_L_level ⟨rfl, rfl, (Nat.le_of_ble_eq_true rfl), (Nat.le_of_ble_eq_true rfl)⟩ (fun v σ2 q => ok_L_level hy1 hy2 q hst) (by rw [hk]; rfl) rfl rfl (Nat.le_of_ble_eq_true rfl) dL_law_2474 ⟨hce, hsl⟩ (fun v s1 H locs hv hW1 hS1 hf => ?_)
  cases hf
  refine lv_istore (lv' := [(5, .int (i32 k)), (0, .ref b), (1, .ref (ad 0)), (2, .ref (ad 230)), (3, .ref (ad 290)), (4, .int (i32 (i0 : Int)))]) hx hb dL_law_2477 hl (by decide) rfl (fun ls hl => ?_)
  refine lv_aload_n hx hb dL_law_2479 rfl (lv_at hl 3 rfl) ?_
  refine lv_aload_n hx hb dL_law_2480 rfl (lv_at hl 1 rfl) ?_
  refine lv_iload hx hb dL_law_2481 (lv_at hl 5 rfl) ?_
  refine m_const (v := 1) hx hb dL_law_2483 rfl ?_
  refine m_add hx hb dL_law_2484 ?_
  refine m_sld (j := i0 + 1) hx hb hX hbl hbA hS1 (by omega) hL (by omega) e1 dL_law_2485 ?_
  refine lv_aload_n hx hb dL_law_2486 rfl (lv_at hl 1 rfl) ?_
  refine lv_iload hx hb dL_law_2487 (lv_at hl 5 rfl) ?_
  refine m_const (v := 2) hx hb dL_law_2489 rfl ?_
  refine m_add hx hb dL_law_2490 ?_
  refine m_sld (j := i0 + 2) hx hb hX hbl hbA hS1 (by omega) hL (by omega) e2 dL_law_2491 ?_
  refine m_callVi (z := false) (As := [.int (i32 y1), .int (i32 y2)]) (rest := []) (k := fun v q => some (v, q)) (r := (v, σ2)) X hW1 hS1 hl.1 gc_L_267 hd_X6_level ⟨rfl, rfl, (Nat.le_of_ble_eq_true rfl), (Nat.le_of_ble_eq_true rfl)⟩ (rc_X6 X hW1) (fun v s2 q => ok_X6_level hy1 hy2 q) (by rw [hm]; rfl) rfl rfl (Nat.le_of_ble_eq_true rfl) dL_law_2492 ⟨hce, hsl⟩ (fun w s2 H locs hv2 z2 hW2 hS2 hf => ?_)
  cases hf
  refine lv_istore (lv' := [(6, .int (i32 v)), (5, .int (i32 k)), (0, .ref b), (1, .ref (ad 0)), (2, .ref (ad 230)), (3, .ref (ad 290)), (4, .int (i32 (i0 : Int)))]) hx hb dL_law_2495 hl (by decide) rfl (fun ls hl => ?_)
  refine lv_aload_n hx hb dL_law_2497 rfl (lv_at hl 4 rfl) ?_
  refine m_callVi1 (z := false) (As := []) (rest := []) (k := fun v => some v) (r := k) X hW2 hS2 hl.1 gc_L_160 hd_X6_thrown ⟨rfl, rfl, (Nat.le_of_ble_eq_true rfl), (Nat.le_of_ble_eq_true rfl)⟩ (rc_X6 X hW2) (fun v q => ok_X6_thrown  q) (by rw [ht]; rfl) rfl rfl (Nat.le_of_ble_eq_true rfl) dL_law_2498 ⟨hce, hsl⟩ (fun v H locs hv3 z3 hW3 hS3 hf => ?_)
  cases hf
  refine lv_iload hx hb dL_law_2501 (lv_at hl 1 rfl) ?_
  refine lv_icmp_eq (tgt := 2508) hx hb dL_law_2503 (by decide) (fun _ => ?_) (fun q => absurd rfl q)
  refine lv_iload hx hb dL_law_2508 (lv_at hl 1 rfl) ?_
  refine lv_if_ne (tgt := 2525) hx hb dL_law_2510 (by decide) (fun qk => ?_) (fun qk => ?_)
  · refine lv_goto (tgt := 3020) hx hb dL_law_2525 (by decide) ?_
    exact kk _ _ _ hW3 hS3 (lv_sub hl [2, 3, 4, 5, 6] rfl)
  · have qk := (i32_eq hv z0).mp qk
    refine lv_aload_n hx hb dL_law_2513 rfl (lv_at hl 5 rfl) ?_
    refine m_const (v := 0) hx hb dL_law_2514 rfl ?_
    refine m_lald X hW3 dL_law_2515 ?_
    refine lv_iload hx hb dL_law_2516 (lv_at hl 0 rfl) ?_
    refine m_i2l hx hb hv2 dL_law_2518 ?_
    refine m_lcmp hx hb (hW3.2.1 _ _) hv2 dL_law_2519 ?_
    refine lv_if_eq (tgt := 2525) hx hb dL_law_2520 (by decide) (fun _ => ?_) (fun q => absurd (by rw [ho qk]; unfold lcm; rw [if_neg (Int.lt_irrefl _), if_pos rfl]; rfl) q)
    refine lv_goto (tgt := 3020) hx hb dL_law_2525 (by decide) ?_
    exact kk _ _ _ hW3 hS3 (lv_sub hl [2, 3, 4, 5, 6] rfl)
set_option maxRecDepth 100000 in
set_option maxHeartbeats 4000000 in
theorem case_cursor {p : Program} {l : Launch} {e : Env} {s : State} {m : MethodId} {args : Array Value} {below : List Frame} {meth : Method} {c : Code} {H : Heap} {locs : List Loc} {cells slots : Nat} {Q : State → Prop} {D : va_G} {cy : Nat → ClassId} {ad : Nat → Nat} {nm nv : Nat} {A : Nat → Prop} {σ : St} {ls : Array Slot} {b L i0 : Nat} {xs : Nat → Int32} {y1 y2 y3 k v : Int} {σ1 σ2 : St} {n : Nat} (X : Cx p s m args c cL_law 7 RL D cy ad nm nv A) (Y : TX A s) (Z : NCs s) (hst : l.stackTraces = false) (hX : va_X b L xs s s.heap) (hbl : b < s.heap.size) (hbA : ¬ A b) (hL : L ≤ 2048) (hiL : i0 + 4 ≤ L) (e1 : (xs (i0 + 1)).toInt = y1) (e2 : (xs (i0 + 2)).toInt = y2) (e3 : (xs (i0 + 3)).toInt = y3) (hW : Wd D cy ad nm nv σ H) (hS : va_S A s.heap H locs) (hl : lv_has ls 7 [(0, .ref b), (1, .ref (ad 0)), (2, .ref (ad 230)), (3, .ref (ad 290)), (4, .int (i32 (i0 : Int)))]) (hce : cells + 1 ≤ 601024) (hsl : slots + 6 ≤ 7293034) (hk : fL_cursor n σ y1 = some (k, σ1)) (hm : fX6_cursor n σ1 y1 = some (v, σ2)) (ht : fX6_thrown σ2 = some k) (ho : k = 0 → (σ2 290 0) = v) (kk : ∀ (H1 : Heap) (locs1 : List Loc) (ls1 : Array Slot), Wd D cy ad nm nv σ2 H1 → va_S A s.heap H1 locs1 → lv_has ls1 7 [(0, .ref b), (1, .ref (ad 0)), (2, .ref (ad 230)), (3, .ref (ad 290)), (4, .int (i32 (i0 : Int)))] → W p l e room_1 s m args below meth c H1 locs1 (cells + 1) (slots + 6) Q (F0 m 3020 ls1 [])) : W p l e room_1 s m args below meth c H locs cells slots Q (F0 m 2528 ls []) := by
  have hx := X.1
  have hb := X.2.1
  have hi0 : inR (i0 : Int) := ⟨by omega, by omega⟩
  have hy1 : inR y1 := by rw [← e1]; exact i32_inR _
  have hy2 : inR y2 := by rw [← e2]; exact i32_inR _
  have hy3 : inR y3 := by rw [← e3]; exact i32_inR _
  refine lv_aload_n hx hb dL_law_2528 rfl (lv_at hl 1 rfl) ?_
  refine lv_aload_n hx hb dL_law_2529 rfl (lv_at hl 0 rfl) ?_
  refine lv_iload hx hb dL_law_2530 (lv_at hl 4 rfl) ?_
  refine m_const (v := 1) hx hb dL_law_2532 rfl ?_
  refine m_add hx hb dL_law_2533 ?_
  refine m_sld (j := i0 + 1) hx hb hX hbl hbA hS (by omega) hL (by omega) e1 dL_law_2534 ?_
  refine lv_aload_n hx hb dL_law_2535 rfl (lv_at hl 3 rfl) ?_
  refine l_callS (As := [.ref (ad 0), .int (i32 y1), .ref (ad 290)]) (rest := []) (κ := fun v q => some (v, q)) (r := (k, σ1)) X Y Z hW hS hl.1 cw_L_cursor hdn_L_cursor ⟨rfl, rfl, (Nat.le_of_ble_eq_true rfl), (Nat.le_of_ble_eq_true rfl)⟩ (fun v σ2 q => ok_L_cursor hy1 q hst) (by rw [hk]; rfl) rfl rfl (Nat.le_of_ble_eq_true rfl) dL_law_2536 ⟨hce, hsl⟩ (fun v s1 H locs hv hW1 hS1 hf => ?_)
  cases hf
  refine lv_istore (lv' := [(5, .int (i32 k)), (0, .ref b), (1, .ref (ad 0)), (2, .ref (ad 230)), (3, .ref (ad 290)), (4, .int (i32 (i0 : Int)))]) hx hb dL_law_2539 hl (by decide) rfl (fun ls hl => ?_)
  refine lv_aload_n hx hb dL_law_2541 rfl (lv_at hl 3 rfl) ?_
  refine lv_aload_n hx hb dL_law_2542 rfl (lv_at hl 1 rfl) ?_
  refine lv_iload hx hb dL_law_2543 (lv_at hl 5 rfl) ?_
  refine m_const (v := 1) hx hb dL_law_2545 rfl ?_
  refine m_add hx hb dL_law_2546 ?_
  refine m_sld (j := i0 + 1) hx hb hX hbl hbA hS1 (by omega) hL (by omega) e1 dL_law_2547 ?_
  refine m_callVi (z := false) (As := [.int (i32 y1)]) (rest := []) (k := fun v q => some (v, q)) (r := (v, σ2)) X hW1 hS1 hl.1 gc_L_270 hd_X6_cursor ⟨rfl, rfl, (Nat.le_of_ble_eq_true rfl), (Nat.le_of_ble_eq_true rfl)⟩ (rc_X6 X hW1) (fun v s2 q => ok_X6_cursor hy1 q) (by rw [hm]; rfl) rfl rfl (Nat.le_of_ble_eq_true rfl) dL_law_2548 ⟨hce, hsl⟩ (fun w s2 H locs hv2 z2 hW2 hS2 hf => ?_)
  cases hf
  refine lv_istore (lv' := [(6, .int (i32 v)), (5, .int (i32 k)), (0, .ref b), (1, .ref (ad 0)), (2, .ref (ad 230)), (3, .ref (ad 290)), (4, .int (i32 (i0 : Int)))]) hx hb dL_law_2551 hl (by decide) rfl (fun ls hl => ?_)
  refine lv_aload_n hx hb dL_law_2553 rfl (lv_at hl 4 rfl) ?_
  refine m_callVi1 (z := false) (As := []) (rest := []) (k := fun v => some v) (r := k) X hW2 hS2 hl.1 gc_L_160 hd_X6_thrown ⟨rfl, rfl, (Nat.le_of_ble_eq_true rfl), (Nat.le_of_ble_eq_true rfl)⟩ (rc_X6 X hW2) (fun v q => ok_X6_thrown  q) (by rw [ht]; rfl) rfl rfl (Nat.le_of_ble_eq_true rfl) dL_law_2554 ⟨hce, hsl⟩ (fun v H locs hv3 z3 hW3 hS3 hf => ?_)
  cases hf
  refine lv_iload hx hb dL_law_2557 (lv_at hl 1 rfl) ?_
  refine lv_icmp_eq (tgt := 2564) hx hb dL_law_2559 (by decide) (fun _ => ?_) (fun q => absurd rfl q)
  refine lv_iload hx hb dL_law_2564 (lv_at hl 1 rfl) ?_
  refine lv_if_ne (tgt := 2581) hx hb dL_law_2566 (by decide) (fun qk => ?_) (fun qk => ?_)
  · refine lv_goto (tgt := 3020) hx hb dL_law_2581 (by decide) ?_
    exact kk _ _ _ hW3 hS3 (lv_sub hl [2, 3, 4, 5, 6] rfl)
  · have qk := (i32_eq hv z0).mp qk
    refine lv_aload_n hx hb dL_law_2569 rfl (lv_at hl 5 rfl) ?_
    refine m_const (v := 0) hx hb dL_law_2570 rfl ?_
    refine m_lald X hW3 dL_law_2571 ?_
    refine lv_iload hx hb dL_law_2572 (lv_at hl 0 rfl) ?_
    refine m_i2l hx hb hv2 dL_law_2574 ?_
    refine m_lcmp hx hb (hW3.2.1 _ _) hv2 dL_law_2575 ?_
    refine lv_if_eq (tgt := 2581) hx hb dL_law_2576 (by decide) (fun _ => ?_) (fun q => absurd (by rw [ho qk]; unfold lcm; rw [if_neg (Int.lt_irrefl _), if_pos rfl]; rfl) q)
    refine lv_goto (tgt := 3020) hx hb dL_law_2581 (by decide) ?_
    exact kk _ _ _ hW3 hS3 (lv_sub hl [2, 3, 4, 5, 6] rfl)
set_option maxRecDepth 100000 in
set_option maxHeartbeats 4000000 in
theorem case_tail {p : Program} {l : Launch} {e : Env} {s : State} {m : MethodId} {args : Array Value} {below : List Frame} {meth : Method} {c : Code} {H : Heap} {locs : List Loc} {cells slots : Nat} {Q : State → Prop} {D : va_G} {cy : Nat → ClassId} {ad : Nat → Nat} {nm nv : Nat} {A : Nat → Prop} {σ : St} {ls : Array Slot} {b L i0 : Nat} {xs : Nat → Int32} {y1 y2 y3 k v : Int} {σ1 σ2 : St} {n : Nat} (X : Cx p s m args c cL_law 7 RL D cy ad nm nv A) (Y : TX A s) (Z : NCs s) (hst : l.stackTraces = false) (hX : va_X b L xs s s.heap) (hbl : b < s.heap.size) (hbA : ¬ A b) (hL : L ≤ 2048) (hiL : i0 + 4 ≤ L) (e1 : (xs (i0 + 1)).toInt = y1) (e2 : (xs (i0 + 2)).toInt = y2) (e3 : (xs (i0 + 3)).toInt = y3) (hW : Wd D cy ad nm nv σ H) (hS : va_S A s.heap H locs) (hl : lv_has ls 7 [(0, .ref b), (1, .ref (ad 0)), (2, .ref (ad 230)), (3, .ref (ad 290)), (4, .int (i32 (i0 : Int)))]) (hce : cells + 1 ≤ 601024) (hsl : slots + 6 ≤ 7293034) (hk : fL_tail n σ y1 = some (k, σ1)) (hm : fX6_tail n σ1 y1 = some (v, σ2)) (ht : fX6_thrown σ2 = some k) (ho : k = 0 → (σ2 290 0) = v) (kk : ∀ (H1 : Heap) (locs1 : List Loc) (ls1 : Array Slot), Wd D cy ad nm nv σ2 H1 → va_S A s.heap H1 locs1 → lv_has ls1 7 [(0, .ref b), (1, .ref (ad 0)), (2, .ref (ad 230)), (3, .ref (ad 290)), (4, .int (i32 (i0 : Int)))] → W p l e room_1 s m args below meth c H1 locs1 (cells + 1) (slots + 6) Q (F0 m 3020 ls1 [])) : W p l e room_1 s m args below meth c H locs cells slots Q (F0 m 2584 ls []) := by
  have hx := X.1
  have hb := X.2.1
  have hi0 : inR (i0 : Int) := ⟨by omega, by omega⟩
  have hy1 : inR y1 := by rw [← e1]; exact i32_inR _
  have hy2 : inR y2 := by rw [← e2]; exact i32_inR _
  have hy3 : inR y3 := by rw [← e3]; exact i32_inR _
  refine lv_aload_n hx hb dL_law_2584 rfl (lv_at hl 1 rfl) ?_
  refine lv_aload_n hx hb dL_law_2585 rfl (lv_at hl 0 rfl) ?_
  refine lv_iload hx hb dL_law_2586 (lv_at hl 4 rfl) ?_
  refine m_const (v := 1) hx hb dL_law_2588 rfl ?_
  refine m_add hx hb dL_law_2589 ?_
  refine m_sld (j := i0 + 1) hx hb hX hbl hbA hS (by omega) hL (by omega) e1 dL_law_2590 ?_
  refine lv_aload_n hx hb dL_law_2591 rfl (lv_at hl 3 rfl) ?_
  refine l_callS (As := [.ref (ad 0), .int (i32 y1), .ref (ad 290)]) (rest := []) (κ := fun v q => some (v, q)) (r := (k, σ1)) X Y Z hW hS hl.1 cw_L_tail hdn_L_tail ⟨rfl, rfl, (Nat.le_of_ble_eq_true rfl), (Nat.le_of_ble_eq_true rfl)⟩ (fun v σ2 q => ok_L_tail hy1 q hst) (by rw [hk]; rfl) rfl rfl (Nat.le_of_ble_eq_true rfl) dL_law_2592 ⟨hce, hsl⟩ (fun v s1 H locs hv hW1 hS1 hf => ?_)
  cases hf
  refine lv_istore (lv' := [(5, .int (i32 k)), (0, .ref b), (1, .ref (ad 0)), (2, .ref (ad 230)), (3, .ref (ad 290)), (4, .int (i32 (i0 : Int)))]) hx hb dL_law_2595 hl (by decide) rfl (fun ls hl => ?_)
  refine lv_aload_n hx hb dL_law_2597 rfl (lv_at hl 3 rfl) ?_
  refine lv_aload_n hx hb dL_law_2598 rfl (lv_at hl 1 rfl) ?_
  refine lv_iload hx hb dL_law_2599 (lv_at hl 5 rfl) ?_
  refine m_const (v := 1) hx hb dL_law_2601 rfl ?_
  refine m_add hx hb dL_law_2602 ?_
  refine m_sld (j := i0 + 1) hx hb hX hbl hbA hS1 (by omega) hL (by omega) e1 dL_law_2603 ?_
  refine m_callVi (z := false) (As := [.int (i32 y1)]) (rest := []) (k := fun v q => some (v, q)) (r := (v, σ2)) X hW1 hS1 hl.1 gc_L_273 hd_X6_tail ⟨rfl, rfl, (Nat.le_of_ble_eq_true rfl), (Nat.le_of_ble_eq_true rfl)⟩ (rc_X6 X hW1) (fun v s2 q => ok_X6_tail hy1 q) (by rw [hm]; rfl) rfl rfl (Nat.le_of_ble_eq_true rfl) dL_law_2604 ⟨hce, hsl⟩ (fun w s2 H locs hv2 z2 hW2 hS2 hf => ?_)
  cases hf
  refine lv_istore (lv' := [(6, .int (i32 v)), (5, .int (i32 k)), (0, .ref b), (1, .ref (ad 0)), (2, .ref (ad 230)), (3, .ref (ad 290)), (4, .int (i32 (i0 : Int)))]) hx hb dL_law_2607 hl (by decide) rfl (fun ls hl => ?_)
  refine lv_aload_n hx hb dL_law_2609 rfl (lv_at hl 4 rfl) ?_
  refine m_callVi1 (z := false) (As := []) (rest := []) (k := fun v => some v) (r := k) X hW2 hS2 hl.1 gc_L_160 hd_X6_thrown ⟨rfl, rfl, (Nat.le_of_ble_eq_true rfl), (Nat.le_of_ble_eq_true rfl)⟩ (rc_X6 X hW2) (fun v q => ok_X6_thrown  q) (by rw [ht]; rfl) rfl rfl (Nat.le_of_ble_eq_true rfl) dL_law_2610 ⟨hce, hsl⟩ (fun v H locs hv3 z3 hW3 hS3 hf => ?_)
  cases hf
  refine lv_iload hx hb dL_law_2613 (lv_at hl 1 rfl) ?_
  refine lv_icmp_eq (tgt := 2620) hx hb dL_law_2615 (by decide) (fun _ => ?_) (fun q => absurd rfl q)
  refine lv_iload hx hb dL_law_2620 (lv_at hl 1 rfl) ?_
  refine lv_if_ne (tgt := 2637) hx hb dL_law_2622 (by decide) (fun qk => ?_) (fun qk => ?_)
  · refine lv_goto (tgt := 3020) hx hb dL_law_2637 (by decide) ?_
    exact kk _ _ _ hW3 hS3 (lv_sub hl [2, 3, 4, 5, 6] rfl)
  · have qk := (i32_eq hv z0).mp qk
    refine lv_aload_n hx hb dL_law_2625 rfl (lv_at hl 5 rfl) ?_
    refine m_const (v := 0) hx hb dL_law_2626 rfl ?_
    refine m_lald X hW3 dL_law_2627 ?_
    refine lv_iload hx hb dL_law_2628 (lv_at hl 0 rfl) ?_
    refine m_i2l hx hb hv2 dL_law_2630 ?_
    refine m_lcmp hx hb (hW3.2.1 _ _) hv2 dL_law_2631 ?_
    refine lv_if_eq (tgt := 2637) hx hb dL_law_2632 (by decide) (fun _ => ?_) (fun q => absurd (by rw [ho qk]; unfold lcm; rw [if_neg (Int.lt_irrefl _), if_pos rfl]; rfl) q)
    refine lv_goto (tgt := 3020) hx hb dL_law_2637 (by decide) ?_
    exact kk _ _ _ hW3 hS3 (lv_sub hl [2, 3, 4, 5, 6] rfl)
set_option maxRecDepth 100000 in
set_option maxHeartbeats 4000000 in
theorem case_graves {p : Program} {l : Launch} {e : Env} {s : State} {m : MethodId} {args : Array Value} {below : List Frame} {meth : Method} {c : Code} {H : Heap} {locs : List Loc} {cells slots : Nat} {Q : State → Prop} {D : va_G} {cy : Nat → ClassId} {ad : Nat → Nat} {nm nv : Nat} {A : Nat → Prop} {σ : St} {ls : Array Slot} {b L i0 : Nat} {xs : Nat → Int32} {y1 y2 y3 k v : Int} {σ1 σ2 : St} {n : Nat} (X : Cx p s m args c cL_law 7 RL D cy ad nm nv A) (Y : TX A s) (Z : NCs s) (hst : l.stackTraces = false) (hX : va_X b L xs s s.heap) (hbl : b < s.heap.size) (hbA : ¬ A b) (hL : L ≤ 2048) (hiL : i0 + 4 ≤ L) (e1 : (xs (i0 + 1)).toInt = y1) (e2 : (xs (i0 + 2)).toInt = y2) (e3 : (xs (i0 + 3)).toInt = y3) (hW : Wd D cy ad nm nv σ H) (hS : va_S A s.heap H locs) (hl : lv_has ls 7 [(0, .ref b), (1, .ref (ad 0)), (2, .ref (ad 230)), (3, .ref (ad 290)), (4, .int (i32 (i0 : Int)))]) (hce : cells + 1 ≤ 601024) (hsl : slots + 6 ≤ 7293034) (hk : fL_graves n σ y1 = some (k, σ1)) (hm : fX6_graves n σ1 y1 = some (v, σ2)) (ht : fX6_thrown σ2 = some k) (ho : k = 0 → (σ2 290 0) = v) (kk : ∀ (H1 : Heap) (locs1 : List Loc) (ls1 : Array Slot), Wd D cy ad nm nv σ2 H1 → va_S A s.heap H1 locs1 → lv_has ls1 7 [(0, .ref b), (1, .ref (ad 0)), (2, .ref (ad 230)), (3, .ref (ad 290)), (4, .int (i32 (i0 : Int)))] → W p l e room_1 s m args below meth c H1 locs1 (cells + 1) (slots + 6) Q (F0 m 3020 ls1 [])) : W p l e room_1 s m args below meth c H locs cells slots Q (F0 m 2640 ls []) := by
  have hx := X.1
  have hb := X.2.1
  have hi0 : inR (i0 : Int) := ⟨by omega, by omega⟩
  have hy1 : inR y1 := by rw [← e1]; exact i32_inR _
  have hy2 : inR y2 := by rw [← e2]; exact i32_inR _
  have hy3 : inR y3 := by rw [← e3]; exact i32_inR _
  refine lv_aload_n hx hb dL_law_2640 rfl (lv_at hl 1 rfl) ?_
  refine lv_aload_n hx hb dL_law_2641 rfl (lv_at hl 0 rfl) ?_
  refine lv_iload hx hb dL_law_2642 (lv_at hl 4 rfl) ?_
  refine m_const (v := 1) hx hb dL_law_2644 rfl ?_
  refine m_add hx hb dL_law_2645 ?_
  refine m_sld (j := i0 + 1) hx hb hX hbl hbA hS (by omega) hL (by omega) e1 dL_law_2646 ?_
  refine lv_aload_n hx hb dL_law_2647 rfl (lv_at hl 3 rfl) ?_
  refine l_callS (As := [.ref (ad 0), .int (i32 y1), .ref (ad 290)]) (rest := []) (κ := fun v q => some (v, q)) (r := (k, σ1)) X Y Z hW hS hl.1 cw_L_graves hdn_L_graves ⟨rfl, rfl, (Nat.le_of_ble_eq_true rfl), (Nat.le_of_ble_eq_true rfl)⟩ (fun v σ2 q => ok_L_graves hy1 q hst) (by rw [hk]; rfl) rfl rfl (Nat.le_of_ble_eq_true rfl) dL_law_2648 ⟨hce, hsl⟩ (fun v s1 H locs hv hW1 hS1 hf => ?_)
  cases hf
  refine lv_istore (lv' := [(5, .int (i32 k)), (0, .ref b), (1, .ref (ad 0)), (2, .ref (ad 230)), (3, .ref (ad 290)), (4, .int (i32 (i0 : Int)))]) hx hb dL_law_2651 hl (by decide) rfl (fun ls hl => ?_)
  refine lv_aload_n hx hb dL_law_2653 rfl (lv_at hl 3 rfl) ?_
  refine lv_aload_n hx hb dL_law_2654 rfl (lv_at hl 1 rfl) ?_
  refine lv_iload hx hb dL_law_2655 (lv_at hl 5 rfl) ?_
  refine m_const (v := 1) hx hb dL_law_2657 rfl ?_
  refine m_add hx hb dL_law_2658 ?_
  refine m_sld (j := i0 + 1) hx hb hX hbl hbA hS1 (by omega) hL (by omega) e1 dL_law_2659 ?_
  refine m_callVi (z := false) (As := [.int (i32 y1)]) (rest := []) (k := fun v q => some (v, q)) (r := (v, σ2)) X hW1 hS1 hl.1 gc_L_276 hd_X6_graves ⟨rfl, rfl, (Nat.le_of_ble_eq_true rfl), (Nat.le_of_ble_eq_true rfl)⟩ (rc_X6 X hW1) (fun v s2 q => ok_X6_graves hy1 q) (by rw [hm]; rfl) rfl rfl (Nat.le_of_ble_eq_true rfl) dL_law_2660 ⟨hce, hsl⟩ (fun w s2 H locs hv2 z2 hW2 hS2 hf => ?_)
  cases hf
  refine lv_istore (lv' := [(6, .int (i32 v)), (5, .int (i32 k)), (0, .ref b), (1, .ref (ad 0)), (2, .ref (ad 230)), (3, .ref (ad 290)), (4, .int (i32 (i0 : Int)))]) hx hb dL_law_2663 hl (by decide) rfl (fun ls hl => ?_)
  refine lv_aload_n hx hb dL_law_2665 rfl (lv_at hl 4 rfl) ?_
  refine m_callVi1 (z := false) (As := []) (rest := []) (k := fun v => some v) (r := k) X hW2 hS2 hl.1 gc_L_160 hd_X6_thrown ⟨rfl, rfl, (Nat.le_of_ble_eq_true rfl), (Nat.le_of_ble_eq_true rfl)⟩ (rc_X6 X hW2) (fun v q => ok_X6_thrown  q) (by rw [ht]; rfl) rfl rfl (Nat.le_of_ble_eq_true rfl) dL_law_2666 ⟨hce, hsl⟩ (fun v H locs hv3 z3 hW3 hS3 hf => ?_)
  cases hf
  refine lv_iload hx hb dL_law_2669 (lv_at hl 1 rfl) ?_
  refine lv_icmp_eq (tgt := 2676) hx hb dL_law_2671 (by decide) (fun _ => ?_) (fun q => absurd rfl q)
  refine lv_iload hx hb dL_law_2676 (lv_at hl 1 rfl) ?_
  refine lv_if_ne (tgt := 2693) hx hb dL_law_2678 (by decide) (fun qk => ?_) (fun qk => ?_)
  · refine lv_goto (tgt := 3020) hx hb dL_law_2693 (by decide) ?_
    exact kk _ _ _ hW3 hS3 (lv_sub hl [2, 3, 4, 5, 6] rfl)
  · have qk := (i32_eq hv z0).mp qk
    refine lv_aload_n hx hb dL_law_2681 rfl (lv_at hl 5 rfl) ?_
    refine m_const (v := 0) hx hb dL_law_2682 rfl ?_
    refine m_lald X hW3 dL_law_2683 ?_
    refine lv_iload hx hb dL_law_2684 (lv_at hl 0 rfl) ?_
    refine m_i2l hx hb hv2 dL_law_2686 ?_
    refine m_lcmp hx hb (hW3.2.1 _ _) hv2 dL_law_2687 ?_
    refine lv_if_eq (tgt := 2693) hx hb dL_law_2688 (by decide) (fun _ => ?_) (fun q => absurd (by rw [ho qk]; unfold lcm; rw [if_neg (Int.lt_irrefl _), if_pos rfl]; rfl) q)
    refine lv_goto (tgt := 3020) hx hb dL_law_2693 (by decide) ?_
    exact kk _ _ _ hW3 hS3 (lv_sub hl [2, 3, 4, 5, 6] rfl)
set_option maxRecDepth 100000 in
set_option maxHeartbeats 4000000 in
theorem case_buried {p : Program} {l : Launch} {e : Env} {s : State} {m : MethodId} {args : Array Value} {below : List Frame} {meth : Method} {c : Code} {H : Heap} {locs : List Loc} {cells slots : Nat} {Q : State → Prop} {D : va_G} {cy : Nat → ClassId} {ad : Nat → Nat} {nm nv : Nat} {A : Nat → Prop} {σ : St} {ls : Array Slot} {b L i0 : Nat} {xs : Nat → Int32} {y1 y2 y3 k v : Int} {σ1 σ2 : St} {n : Nat} (X : Cx p s m args c cL_law 7 RL D cy ad nm nv A) (Y : TX A s) (Z : NCs s) (hst : l.stackTraces = false) (hX : va_X b L xs s s.heap) (hbl : b < s.heap.size) (hbA : ¬ A b) (hL : L ≤ 2048) (hiL : i0 + 4 ≤ L) (e1 : (xs (i0 + 1)).toInt = y1) (e2 : (xs (i0 + 2)).toInt = y2) (e3 : (xs (i0 + 3)).toInt = y3) (hW : Wd D cy ad nm nv σ H) (hS : va_S A s.heap H locs) (hl : lv_has ls 7 [(0, .ref b), (1, .ref (ad 0)), (2, .ref (ad 230)), (3, .ref (ad 290)), (4, .int (i32 (i0 : Int)))]) (hce : cells + 1 ≤ 601024) (hsl : slots + 6 ≤ 7293034) (hk : fL_buried n σ y1 = some (k, σ1)) (hm : fX6_buried n σ1 y1 = some (v, σ2)) (ht : fX6_thrown σ2 = some k) (ho : k = 0 → (σ2 290 0) = v) (kk : ∀ (H1 : Heap) (locs1 : List Loc) (ls1 : Array Slot), Wd D cy ad nm nv σ2 H1 → va_S A s.heap H1 locs1 → lv_has ls1 7 [(0, .ref b), (1, .ref (ad 0)), (2, .ref (ad 230)), (3, .ref (ad 290)), (4, .int (i32 (i0 : Int)))] → W p l e room_1 s m args below meth c H1 locs1 (cells + 1) (slots + 6) Q (F0 m 3020 ls1 [])) : W p l e room_1 s m args below meth c H locs cells slots Q (F0 m 2696 ls []) := by
  have hx := X.1
  have hb := X.2.1
  have hi0 : inR (i0 : Int) := ⟨by omega, by omega⟩
  have hy1 : inR y1 := by rw [← e1]; exact i32_inR _
  have hy2 : inR y2 := by rw [← e2]; exact i32_inR _
  have hy3 : inR y3 := by rw [← e3]; exact i32_inR _
  refine lv_aload_n hx hb dL_law_2696 rfl (lv_at hl 1 rfl) ?_
  refine lv_aload_n hx hb dL_law_2697 rfl (lv_at hl 0 rfl) ?_
  refine lv_iload hx hb dL_law_2698 (lv_at hl 4 rfl) ?_
  refine m_const (v := 1) hx hb dL_law_2700 rfl ?_
  refine m_add hx hb dL_law_2701 ?_
  refine m_sld (j := i0 + 1) hx hb hX hbl hbA hS (by omega) hL (by omega) e1 dL_law_2702 ?_
  refine lv_aload_n hx hb dL_law_2703 rfl (lv_at hl 3 rfl) ?_
  refine l_callS (As := [.ref (ad 0), .int (i32 y1), .ref (ad 290)]) (rest := []) (κ := fun v q => some (v, q)) (r := (k, σ1)) X Y Z hW hS hl.1 cw_L_buried hdn_L_buried ⟨rfl, rfl, (Nat.le_of_ble_eq_true rfl), (Nat.le_of_ble_eq_true rfl)⟩ (fun v σ2 q => ok_L_buried hy1 q hst) (by rw [hk]; rfl) rfl rfl (Nat.le_of_ble_eq_true rfl) dL_law_2704 ⟨hce, hsl⟩ (fun v s1 H locs hv hW1 hS1 hf => ?_)
  cases hf
  refine lv_istore (lv' := [(5, .int (i32 k)), (0, .ref b), (1, .ref (ad 0)), (2, .ref (ad 230)), (3, .ref (ad 290)), (4, .int (i32 (i0 : Int)))]) hx hb dL_law_2707 hl (by decide) rfl (fun ls hl => ?_)
  refine lv_aload_n hx hb dL_law_2709 rfl (lv_at hl 3 rfl) ?_
  refine lv_aload_n hx hb dL_law_2710 rfl (lv_at hl 1 rfl) ?_
  refine lv_iload hx hb dL_law_2711 (lv_at hl 5 rfl) ?_
  refine m_const (v := 1) hx hb dL_law_2713 rfl ?_
  refine m_add hx hb dL_law_2714 ?_
  refine m_sld (j := i0 + 1) hx hb hX hbl hbA hS1 (by omega) hL (by omega) e1 dL_law_2715 ?_
  refine m_callVi (z := false) (As := [.int (i32 y1)]) (rest := []) (k := fun v q => some (v, q)) (r := (v, σ2)) X hW1 hS1 hl.1 gc_L_279 hd_X6_buried ⟨rfl, rfl, (Nat.le_of_ble_eq_true rfl), (Nat.le_of_ble_eq_true rfl)⟩ (rc_X6 X hW1) (fun v s2 q => ok_X6_buried hy1 q) (by rw [hm]; rfl) rfl rfl (Nat.le_of_ble_eq_true rfl) dL_law_2716 ⟨hce, hsl⟩ (fun w s2 H locs hv2 z2 hW2 hS2 hf => ?_)
  cases hf
  refine lv_istore (lv' := [(6, .int (i32 v)), (5, .int (i32 k)), (0, .ref b), (1, .ref (ad 0)), (2, .ref (ad 230)), (3, .ref (ad 290)), (4, .int (i32 (i0 : Int)))]) hx hb dL_law_2719 hl (by decide) rfl (fun ls hl => ?_)
  refine lv_aload_n hx hb dL_law_2721 rfl (lv_at hl 4 rfl) ?_
  refine m_callVi1 (z := false) (As := []) (rest := []) (k := fun v => some v) (r := k) X hW2 hS2 hl.1 gc_L_160 hd_X6_thrown ⟨rfl, rfl, (Nat.le_of_ble_eq_true rfl), (Nat.le_of_ble_eq_true rfl)⟩ (rc_X6 X hW2) (fun v q => ok_X6_thrown  q) (by rw [ht]; rfl) rfl rfl (Nat.le_of_ble_eq_true rfl) dL_law_2722 ⟨hce, hsl⟩ (fun v H locs hv3 z3 hW3 hS3 hf => ?_)
  cases hf
  refine lv_iload hx hb dL_law_2725 (lv_at hl 1 rfl) ?_
  refine lv_icmp_eq (tgt := 2732) hx hb dL_law_2727 (by decide) (fun _ => ?_) (fun q => absurd rfl q)
  refine lv_iload hx hb dL_law_2732 (lv_at hl 1 rfl) ?_
  refine lv_if_ne (tgt := 2749) hx hb dL_law_2734 (by decide) (fun qk => ?_) (fun qk => ?_)
  · refine lv_goto (tgt := 3020) hx hb dL_law_2749 (by decide) ?_
    exact kk _ _ _ hW3 hS3 (lv_sub hl [2, 3, 4, 5, 6] rfl)
  · have qk := (i32_eq hv z0).mp qk
    refine lv_aload_n hx hb dL_law_2737 rfl (lv_at hl 5 rfl) ?_
    refine m_const (v := 0) hx hb dL_law_2738 rfl ?_
    refine m_lald X hW3 dL_law_2739 ?_
    refine lv_iload hx hb dL_law_2740 (lv_at hl 0 rfl) ?_
    refine m_i2l hx hb hv2 dL_law_2742 ?_
    refine m_lcmp hx hb (hW3.2.1 _ _) hv2 dL_law_2743 ?_
    refine lv_if_eq (tgt := 2749) hx hb dL_law_2744 (by decide) (fun _ => ?_) (fun q => absurd (by rw [ho qk]; unfold lcm; rw [if_neg (Int.lt_irrefl _), if_pos rfl]; rfl) q)
    refine lv_goto (tgt := 3020) hx hb dL_law_2749 (by decide) ?_
    exact kk _ _ _ hW3 hS3 (lv_sub hl [2, 3, 4, 5, 6] rfl)
set_option maxRecDepth 100000 in
set_option maxHeartbeats 4000000 in
theorem case_acts {p : Program} {l : Launch} {e : Env} {s : State} {m : MethodId} {args : Array Value} {below : List Frame} {meth : Method} {c : Code} {H : Heap} {locs : List Loc} {cells slots : Nat} {Q : State → Prop} {D : va_G} {cy : Nat → ClassId} {ad : Nat → Nat} {nm nv : Nat} {A : Nat → Prop} {σ : St} {ls : Array Slot} {b L i0 : Nat} {xs : Nat → Int32} {y1 y2 y3 k v : Int} {σ2 : St} (X : Cx p s m args c cL_law 7 RL D cy ad nm nv A) (Y : TX A s) (Z : NCs s) (hst : l.stackTraces = false) (hX : va_X b L xs s s.heap) (hbl : b < s.heap.size) (hbA : ¬ A b) (hL : L ≤ 2048) (hiL : i0 + 4 ≤ L) (e1 : (xs (i0 + 1)).toInt = y1) (e2 : (xs (i0 + 2)).toInt = y2) (e3 : (xs (i0 + 3)).toInt = y3) (hW : Wd D cy ad nm nv σ H) (hS : va_S A s.heap H locs) (hl : lv_has ls 7 [(0, .ref b), (1, .ref (ad 0)), (2, .ref (ad 230)), (3, .ref (ad 290)), (4, .int (i32 (i0 : Int)))]) (hce : cells + 0 ≤ 601024) (hsl : slots + 0 ≤ 7293034) (hk : fX5_acts σ = some k) (hm : fX6_acts σ = some (v, σ2)) (ho : k = v) (kk : ∀ (H1 : Heap) (locs1 : List Loc) (ls1 : Array Slot), Wd D cy ad nm nv σ2 H1 → va_S A s.heap H1 locs1 → lv_has ls1 7 [(0, .ref b), (1, .ref (ad 0)), (2, .ref (ad 230)), (3, .ref (ad 290)), (4, .int (i32 (i0 : Int)))] → W p l e room_1 s m args below meth c H1 locs1 (cells + 0) (slots + 0) Q (F0 m 3020 ls1 [])) : W p l e room_1 s m args below meth c H locs cells slots Q (F0 m 2752 ls []) := by
  have hx := X.1
  have hb := X.2.1
  have hi0 : inR (i0 : Int) := ⟨by omega, by omega⟩
  have hy1 : inR y1 := by rw [← e1]; exact i32_inR _
  have hy2 : inR y2 := by rw [← e2]; exact i32_inR _
  have hy3 : inR y3 := by rw [← e3]; exact i32_inR _
  refine lv_aload_n hx hb dL_law_2752 rfl (lv_at hl 1 rfl) ?_
  refine m_callVi1 (z := false) (As := []) (rest := []) (k := fun v => some v) (r := k) X hW hS hl.1 gc_L_280 hd_X5_acts ⟨rfl, rfl, (Nat.le_of_ble_eq_true rfl), (Nat.le_of_ble_eq_true rfl)⟩ (rc_X5 X hW) (fun v q => ok_X5_acts  q) (by rw [hk]; rfl) rfl rfl (Nat.le_of_ble_eq_true rfl) dL_law_2753 ⟨hce, hsl⟩ (fun v H locs hv z1 hW1 hS1 hf => ?_)
  cases hf
  refine lv_aload_n hx hb dL_law_2756 rfl (lv_at hl 2 rfl) ?_
  refine m_callVi (z := false) (As := []) (rest := [.int (i32 k)]) (k := fun v q => some (v, q)) (r := (v, σ2)) X hW1 hS1 hl.1 gc_L_283 hd_X6_acts ⟨rfl, rfl, (Nat.le_of_ble_eq_true rfl), (Nat.le_of_ble_eq_true rfl)⟩ (rc_X6 X hW1) (fun v s2 q => ok_X6_acts  q) (by rw [hm]; rfl) rfl rfl (Nat.le_of_ble_eq_true rfl) dL_law_2757 ⟨hce, hsl⟩ (fun w s2 H locs hv2 z2 hW2 hS2 hf => ?_)
  cases hf
  refine lv_icmp_eq (tgt := 3020) hx hb dL_law_2760 (by decide) (fun _ => ?_) (fun q => absurd (by rw [ho]) q)
  exact kk _ _ _ hW2 hS2 (lv_sub hl [0, 1, 2, 3, 4] rfl)
set_option maxRecDepth 100000 in
set_option maxHeartbeats 4000000 in
theorem case_has {p : Program} {l : Launch} {e : Env} {s : State} {m : MethodId} {args : Array Value} {below : List Frame} {meth : Method} {c : Code} {H : Heap} {locs : List Loc} {cells slots : Nat} {Q : State → Prop} {D : va_G} {cy : Nat → ClassId} {ad : Nat → Nat} {nm nv : Nat} {A : Nat → Prop} {σ : St} {ls : Array Slot} {b L i0 : Nat} {xs : Nat → Int32} {y1 y2 y3 k v : Int} {σ1 σ2 : St} (X : Cx p s m args c cL_law 7 RL D cy ad nm nv A) (Y : TX A s) (Z : NCs s) (hst : l.stackTraces = false) (hX : va_X b L xs s s.heap) (hbl : b < s.heap.size) (hbA : ¬ A b) (hL : L ≤ 2048) (hiL : i0 + 4 ≤ L) (e1 : (xs (i0 + 1)).toInt = y1) (e2 : (xs (i0 + 2)).toInt = y2) (e3 : (xs (i0 + 3)).toInt = y3) (hW : Wd D cy ad nm nv σ H) (hS : va_S A s.heap H locs) (hl : lv_has ls 7 [(0, .ref b), (1, .ref (ad 0)), (2, .ref (ad 230)), (3, .ref (ad 290)), (4, .int (i32 (i0 : Int)))]) (hce : cells + 1 ≤ 601024) (hsl : slots + 6 ≤ 7293034) (hk : fL_has σ y1 = some (k, σ1)) (hm : fX6_has σ1 y1 = some (v, σ2)) (ht : fX6_thrown σ2 = some k) (ho : k = 0 → (σ2 290 0) = v) (kk : ∀ (H1 : Heap) (locs1 : List Loc) (ls1 : Array Slot), Wd D cy ad nm nv σ2 H1 → va_S A s.heap H1 locs1 → lv_has ls1 7 [(0, .ref b), (1, .ref (ad 0)), (2, .ref (ad 230)), (3, .ref (ad 290)), (4, .int (i32 (i0 : Int)))] → W p l e room_1 s m args below meth c H1 locs1 (cells + 1) (slots + 6) Q (F0 m 3020 ls1 [])) : W p l e room_1 s m args below meth c H locs cells slots Q (F0 m 2765 ls []) := by
  have hx := X.1
  have hb := X.2.1
  have hi0 : inR (i0 : Int) := ⟨by omega, by omega⟩
  have hy1 : inR y1 := by rw [← e1]; exact i32_inR _
  have hy2 : inR y2 := by rw [← e2]; exact i32_inR _
  have hy3 : inR y3 := by rw [← e3]; exact i32_inR _
  refine lv_aload_n hx hb dL_law_2765 rfl (lv_at hl 1 rfl) ?_
  refine lv_aload_n hx hb dL_law_2766 rfl (lv_at hl 0 rfl) ?_
  refine lv_iload hx hb dL_law_2767 (lv_at hl 4 rfl) ?_
  refine m_const (v := 1) hx hb dL_law_2769 rfl ?_
  refine m_add hx hb dL_law_2770 ?_
  refine m_sld (j := i0 + 1) hx hb hX hbl hbA hS (by omega) hL (by omega) e1 dL_law_2771 ?_
  refine lv_aload_n hx hb dL_law_2772 rfl (lv_at hl 3 rfl) ?_
  refine l_callS (As := [.ref (ad 0), .int (i32 y1), .ref (ad 290)]) (rest := []) (κ := fun v q => some (v, q)) (r := (k, σ1)) X Y Z hW hS hl.1 cw_L_has hdn_L_has ⟨rfl, rfl, (Nat.le_of_ble_eq_true rfl), (Nat.le_of_ble_eq_true rfl)⟩ (fun v σ2 q => ok_L_has hy1 q hst) (by rw [hk]; rfl) rfl rfl (Nat.le_of_ble_eq_true rfl) dL_law_2773 ⟨hce, hsl⟩ (fun v s1 H locs hv hW1 hS1 hf => ?_)
  cases hf
  refine lv_istore (lv' := [(5, .int (i32 k)), (0, .ref b), (1, .ref (ad 0)), (2, .ref (ad 230)), (3, .ref (ad 290)), (4, .int (i32 (i0 : Int)))]) hx hb dL_law_2776 hl (by decide) rfl (fun ls hl => ?_)
  refine lv_aload_n hx hb dL_law_2778 rfl (lv_at hl 3 rfl) ?_
  refine lv_aload_n hx hb dL_law_2779 rfl (lv_at hl 1 rfl) ?_
  refine lv_iload hx hb dL_law_2780 (lv_at hl 5 rfl) ?_
  refine m_const (v := 1) hx hb dL_law_2782 rfl ?_
  refine m_add hx hb dL_law_2783 ?_
  refine m_sld (j := i0 + 1) hx hb hX hbl hbA hS1 (by omega) hL (by omega) e1 dL_law_2784 ?_
  refine m_callVi (z := false) (As := [.int (i32 y1)]) (rest := []) (k := fun v q => some (v, q)) (r := (v, σ2)) X hW1 hS1 hl.1 gc_L_286 hd_X6_has ⟨rfl, rfl, (Nat.le_of_ble_eq_true rfl), (Nat.le_of_ble_eq_true rfl)⟩ (rc_X6 X hW1) (fun v s2 q => ok_X6_has hy1 q) (by rw [hm]; rfl) rfl rfl (Nat.le_of_ble_eq_true rfl) dL_law_2785 ⟨hce, hsl⟩ (fun w s2 H locs hv2 z2 hW2 hS2 hf => ?_)
  cases hf
  refine lv_istore (lv' := [(6, .int (i32 v)), (5, .int (i32 k)), (0, .ref b), (1, .ref (ad 0)), (2, .ref (ad 230)), (3, .ref (ad 290)), (4, .int (i32 (i0 : Int)))]) hx hb dL_law_2788 hl (by decide) rfl (fun ls hl => ?_)
  refine lv_aload_n hx hb dL_law_2790 rfl (lv_at hl 4 rfl) ?_
  refine m_callVi1 (z := false) (As := []) (rest := []) (k := fun v => some v) (r := k) X hW2 hS2 hl.1 gc_L_160 hd_X6_thrown ⟨rfl, rfl, (Nat.le_of_ble_eq_true rfl), (Nat.le_of_ble_eq_true rfl)⟩ (rc_X6 X hW2) (fun v q => ok_X6_thrown  q) (by rw [ht]; rfl) rfl rfl (Nat.le_of_ble_eq_true rfl) dL_law_2791 ⟨hce, hsl⟩ (fun v H locs hv3 z3 hW3 hS3 hf => ?_)
  cases hf
  refine lv_iload hx hb dL_law_2794 (lv_at hl 1 rfl) ?_
  refine lv_icmp_eq (tgt := 2801) hx hb dL_law_2796 (by decide) (fun _ => ?_) (fun q => absurd rfl q)
  refine lv_iload hx hb dL_law_2801 (lv_at hl 1 rfl) ?_
  refine lv_if_ne (tgt := 2818) hx hb dL_law_2803 (by decide) (fun qk => ?_) (fun qk => ?_)
  · refine lv_goto (tgt := 3020) hx hb dL_law_2818 (by decide) ?_
    exact kk _ _ _ hW3 hS3 (lv_sub hl [2, 3, 4, 5, 6] rfl)
  · have qk := (i32_eq hv z0).mp qk
    refine lv_aload_n hx hb dL_law_2806 rfl (lv_at hl 5 rfl) ?_
    refine m_const (v := 0) hx hb dL_law_2807 rfl ?_
    refine m_lald X hW3 dL_law_2808 ?_
    refine lv_iload hx hb dL_law_2809 (lv_at hl 0 rfl) ?_
    refine m_i2l hx hb hv2 dL_law_2811 ?_
    refine m_lcmp hx hb (hW3.2.1 _ _) hv2 dL_law_2812 ?_
    refine lv_if_eq (tgt := 2818) hx hb dL_law_2813 (by decide) (fun _ => ?_) (fun q => absurd (by rw [ho qk]; unfold lcm; rw [if_neg (Int.lt_irrefl _), if_pos rfl]; rfl) q)
    refine lv_goto (tgt := 3020) hx hb dL_law_2818 (by decide) ?_
    exact kk _ _ _ hW3 hS3 (lv_sub hl [2, 3, 4, 5, 6] rfl)
set_option maxRecDepth 100000 in
set_option maxHeartbeats 4000000 in
theorem case_actAt {p : Program} {l : Launch} {e : Env} {s : State} {m : MethodId} {args : Array Value} {below : List Frame} {meth : Method} {c : Code} {H : Heap} {locs : List Loc} {cells slots : Nat} {Q : State → Prop} {D : va_G} {cy : Nat → ClassId} {ad : Nat → Nat} {nm nv : Nat} {A : Nat → Prop} {σ : St} {ls : Array Slot} {b L i0 : Nat} {xs : Nat → Int32} {y1 y2 y3 k v : Int} {σ1 σ2 : St} {n : Nat} (X : Cx p s m args c cL_law 7 RL D cy ad nm nv A) (Y : TX A s) (Z : NCs s) (hst : l.stackTraces = false) (hX : va_X b L xs s s.heap) (hbl : b < s.heap.size) (hbA : ¬ A b) (hL : L ≤ 2048) (hiL : i0 + 4 ≤ L) (e1 : (xs (i0 + 1)).toInt = y1) (e2 : (xs (i0 + 2)).toInt = y2) (e3 : (xs (i0 + 3)).toInt = y3) (hW : Wd D cy ad nm nv σ H) (hS : va_S A s.heap H locs) (hl : lv_has ls 7 [(0, .ref b), (1, .ref (ad 0)), (2, .ref (ad 230)), (3, .ref (ad 290)), (4, .int (i32 (i0 : Int)))]) (hce : cells + 2 ≤ 601024) (hsl : slots + 12 ≤ 7293034) (hk : fL_actAt n σ y1 y2 = some (k, σ1)) (hm : fX6_actAt n σ1 y1 y2 = some (v, σ2)) (ht : fX6_thrown σ2 = some k) (ho : k = 0 → (σ2 290 0) = v) (kk : ∀ (H1 : Heap) (locs1 : List Loc) (ls1 : Array Slot), Wd D cy ad nm nv σ2 H1 → va_S A s.heap H1 locs1 → lv_has ls1 7 [(0, .ref b), (1, .ref (ad 0)), (2, .ref (ad 230)), (3, .ref (ad 290)), (4, .int (i32 (i0 : Int)))] → W p l e room_1 s m args below meth c H1 locs1 (cells + 2) (slots + 12) Q (F0 m 3020 ls1 [])) : W p l e room_1 s m args below meth c H locs cells slots Q (F0 m 2821 ls []) := by
  have hx := X.1
  have hb := X.2.1
  have hi0 : inR (i0 : Int) := ⟨by omega, by omega⟩
  have hy1 : inR y1 := by rw [← e1]; exact i32_inR _
  have hy2 : inR y2 := by rw [← e2]; exact i32_inR _
  have hy3 : inR y3 := by rw [← e3]; exact i32_inR _
  refine lv_aload_n hx hb dL_law_2821 rfl (lv_at hl 1 rfl) ?_
  refine lv_aload_n hx hb dL_law_2822 rfl (lv_at hl 0 rfl) ?_
  refine lv_iload hx hb dL_law_2823 (lv_at hl 4 rfl) ?_
  refine m_const (v := 1) hx hb dL_law_2825 rfl ?_
  refine m_add hx hb dL_law_2826 ?_
  refine m_sld (j := i0 + 1) hx hb hX hbl hbA hS (by omega) hL (by omega) e1 dL_law_2827 ?_
  refine lv_aload_n hx hb dL_law_2828 rfl (lv_at hl 0 rfl) ?_
  refine lv_iload hx hb dL_law_2829 (lv_at hl 4 rfl) ?_
  refine m_const (v := 2) hx hb dL_law_2831 rfl ?_
  refine m_add hx hb dL_law_2832 ?_
  refine m_sld (j := i0 + 2) hx hb hX hbl hbA hS (by omega) hL (by omega) e2 dL_law_2833 ?_
  refine lv_aload_n hx hb dL_law_2834 rfl (lv_at hl 3 rfl) ?_
  refine l_callS (As := [.ref (ad 0), .int (i32 y1), .int (i32 y2), .ref (ad 290)]) (rest := []) (κ := fun v q => some (v, q)) (r := (k, σ1)) X Y Z hW hS hl.1 cw_L_actAt hdn_L_actAt ⟨rfl, rfl, (Nat.le_of_ble_eq_true rfl), (Nat.le_of_ble_eq_true rfl)⟩ (fun v σ2 q => ok_L_actAt hy1 hy2 q hst) (by rw [hk]; rfl) rfl rfl (Nat.le_of_ble_eq_true rfl) dL_law_2835 ⟨hce, hsl⟩ (fun v s1 H locs hv hW1 hS1 hf => ?_)
  cases hf
  refine lv_istore (lv' := [(5, .int (i32 k)), (0, .ref b), (1, .ref (ad 0)), (2, .ref (ad 230)), (3, .ref (ad 290)), (4, .int (i32 (i0 : Int)))]) hx hb dL_law_2838 hl (by decide) rfl (fun ls hl => ?_)
  refine lv_aload_n hx hb dL_law_2840 rfl (lv_at hl 3 rfl) ?_
  refine lv_aload_n hx hb dL_law_2841 rfl (lv_at hl 1 rfl) ?_
  refine lv_iload hx hb dL_law_2842 (lv_at hl 5 rfl) ?_
  refine m_const (v := 1) hx hb dL_law_2844 rfl ?_
  refine m_add hx hb dL_law_2845 ?_
  refine m_sld (j := i0 + 1) hx hb hX hbl hbA hS1 (by omega) hL (by omega) e1 dL_law_2846 ?_
  refine lv_aload_n hx hb dL_law_2847 rfl (lv_at hl 1 rfl) ?_
  refine lv_iload hx hb dL_law_2848 (lv_at hl 5 rfl) ?_
  refine m_const (v := 2) hx hb dL_law_2850 rfl ?_
  refine m_add hx hb dL_law_2851 ?_
  refine m_sld (j := i0 + 2) hx hb hX hbl hbA hS1 (by omega) hL (by omega) e2 dL_law_2852 ?_
  refine m_callVi (z := false) (As := [.int (i32 y1), .int (i32 y2)]) (rest := []) (k := fun v q => some (v, q)) (r := (v, σ2)) X hW1 hS1 hl.1 gc_L_289 hd_X6_actAt ⟨rfl, rfl, (Nat.le_of_ble_eq_true rfl), (Nat.le_of_ble_eq_true rfl)⟩ (rc_X6 X hW1) (fun v s2 q => ok_X6_actAt hy1 hy2 q) (by rw [hm]; rfl) rfl rfl (Nat.le_of_ble_eq_true rfl) dL_law_2853 ⟨hce, hsl⟩ (fun w s2 H locs hv2 z2 hW2 hS2 hf => ?_)
  cases hf
  refine lv_istore (lv' := [(6, .int (i32 v)), (5, .int (i32 k)), (0, .ref b), (1, .ref (ad 0)), (2, .ref (ad 230)), (3, .ref (ad 290)), (4, .int (i32 (i0 : Int)))]) hx hb dL_law_2856 hl (by decide) rfl (fun ls hl => ?_)
  refine lv_aload_n hx hb dL_law_2858 rfl (lv_at hl 4 rfl) ?_
  refine m_callVi1 (z := false) (As := []) (rest := []) (k := fun v => some v) (r := k) X hW2 hS2 hl.1 gc_L_160 hd_X6_thrown ⟨rfl, rfl, (Nat.le_of_ble_eq_true rfl), (Nat.le_of_ble_eq_true rfl)⟩ (rc_X6 X hW2) (fun v q => ok_X6_thrown  q) (by rw [ht]; rfl) rfl rfl (Nat.le_of_ble_eq_true rfl) dL_law_2859 ⟨hce, hsl⟩ (fun v H locs hv3 z3 hW3 hS3 hf => ?_)
  cases hf
  refine lv_iload hx hb dL_law_2862 (lv_at hl 1 rfl) ?_
  refine lv_icmp_eq (tgt := 2869) hx hb dL_law_2864 (by decide) (fun _ => ?_) (fun q => absurd rfl q)
  refine lv_iload hx hb dL_law_2869 (lv_at hl 1 rfl) ?_
  refine lv_if_ne (tgt := 2886) hx hb dL_law_2871 (by decide) (fun qk => ?_) (fun qk => ?_)
  · refine lv_goto (tgt := 3020) hx hb dL_law_2886 (by decide) ?_
    exact kk _ _ _ hW3 hS3 (lv_sub hl [2, 3, 4, 5, 6] rfl)
  · have qk := (i32_eq hv z0).mp qk
    refine lv_aload_n hx hb dL_law_2874 rfl (lv_at hl 5 rfl) ?_
    refine m_const (v := 0) hx hb dL_law_2875 rfl ?_
    refine m_lald X hW3 dL_law_2876 ?_
    refine lv_iload hx hb dL_law_2877 (lv_at hl 0 rfl) ?_
    refine m_i2l hx hb hv2 dL_law_2879 ?_
    refine m_lcmp hx hb (hW3.2.1 _ _) hv2 dL_law_2880 ?_
    refine lv_if_eq (tgt := 2886) hx hb dL_law_2881 (by decide) (fun _ => ?_) (fun q => absurd (by rw [ho qk]; unfold lcm; rw [if_neg (Int.lt_irrefl _), if_pos rfl]; rfl) q)
    refine lv_goto (tgt := 3020) hx hb dL_law_2886 (by decide) ?_
    exact kk _ _ _ hW3 hS3 (lv_sub hl [2, 3, 4, 5, 6] rfl)
set_option maxRecDepth 100000 in
set_option maxHeartbeats 4000000 in
theorem case_act {p : Program} {l : Launch} {e : Env} {s : State} {m : MethodId} {args : Array Value} {below : List Frame} {meth : Method} {c : Code} {H : Heap} {locs : List Loc} {cells slots : Nat} {Q : State → Prop} {D : va_G} {cy : Nat → ClassId} {ad : Nat → Nat} {nm nv : Nat} {A : Nat → Prop} {σ : St} {ls : Array Slot} {b L i0 : Nat} {xs : Nat → Int32} {y1 y2 y3 k v : Int} {σ1 σ2 : St} (X : Cx p s m args c cL_law 7 RL D cy ad nm nv A) (Y : TX A s) (Z : NCs s) (hst : l.stackTraces = false) (hX : va_X b L xs s s.heap) (hbl : b < s.heap.size) (hbA : ¬ A b) (hL : L ≤ 2048) (hiL : i0 + 4 ≤ L) (e1 : (xs (i0 + 1)).toInt = y1) (e2 : (xs (i0 + 2)).toInt = y2) (e3 : (xs (i0 + 3)).toInt = y3) (hW : Wd D cy ad nm nv σ H) (hS : va_S A s.heap H locs) (hl : lv_has ls 7 [(0, .ref b), (1, .ref (ad 0)), (2, .ref (ad 230)), (3, .ref (ad 290)), (4, .int (i32 (i0 : Int)))]) (hce : cells + 1 ≤ 601024) (hsl : slots + 6 ≤ 7293034) (hk : fL_act σ y1 = some (k, σ1)) (hm : fX6_act σ1 y1 = some (v, σ2)) (ht : fX6_thrown σ2 = some k) (ho : k = 0 → (σ2 290 0) = v) (kk : ∀ (H1 : Heap) (locs1 : List Loc) (ls1 : Array Slot), Wd D cy ad nm nv σ2 H1 → va_S A s.heap H1 locs1 → lv_has ls1 7 [(0, .ref b), (1, .ref (ad 0)), (2, .ref (ad 230)), (3, .ref (ad 290)), (4, .int (i32 (i0 : Int)))] → W p l e room_1 s m args below meth c H1 locs1 (cells + 1) (slots + 6) Q (F0 m 3020 ls1 [])) : W p l e room_1 s m args below meth c H locs cells slots Q (F0 m 2889 ls []) := by
  have hx := X.1
  have hb := X.2.1
  have hi0 : inR (i0 : Int) := ⟨by omega, by omega⟩
  have hy1 : inR y1 := by rw [← e1]; exact i32_inR _
  have hy2 : inR y2 := by rw [← e2]; exact i32_inR _
  have hy3 : inR y3 := by rw [← e3]; exact i32_inR _
  refine lv_aload_n hx hb dL_law_2889 rfl (lv_at hl 1 rfl) ?_
  refine lv_aload_n hx hb dL_law_2890 rfl (lv_at hl 0 rfl) ?_
  refine lv_iload hx hb dL_law_2891 (lv_at hl 4 rfl) ?_
  refine m_const (v := 1) hx hb dL_law_2893 rfl ?_
  refine m_add hx hb dL_law_2894 ?_
  refine m_sld (j := i0 + 1) hx hb hX hbl hbA hS (by omega) hL (by omega) e1 dL_law_2895 ?_
  refine lv_aload_n hx hb dL_law_2896 rfl (lv_at hl 3 rfl) ?_
  refine l_callS (As := [.ref (ad 0), .int (i32 y1), .ref (ad 290)]) (rest := []) (κ := fun v q => some (v, q)) (r := (k, σ1)) X Y Z hW hS hl.1 cw_L_act hdn_L_act ⟨rfl, rfl, (Nat.le_of_ble_eq_true rfl), (Nat.le_of_ble_eq_true rfl)⟩ (fun v σ2 q => ok_L_act hy1 q hst) (by rw [hk]; rfl) rfl rfl (Nat.le_of_ble_eq_true rfl) dL_law_2897 ⟨hce, hsl⟩ (fun v s1 H locs hv hW1 hS1 hf => ?_)
  cases hf
  refine lv_istore (lv' := [(5, .int (i32 k)), (0, .ref b), (1, .ref (ad 0)), (2, .ref (ad 230)), (3, .ref (ad 290)), (4, .int (i32 (i0 : Int)))]) hx hb dL_law_2900 hl (by decide) rfl (fun ls hl => ?_)
  refine lv_aload_n hx hb dL_law_2902 rfl (lv_at hl 3 rfl) ?_
  refine lv_aload_n hx hb dL_law_2903 rfl (lv_at hl 1 rfl) ?_
  refine lv_iload hx hb dL_law_2904 (lv_at hl 5 rfl) ?_
  refine m_const (v := 1) hx hb dL_law_2906 rfl ?_
  refine m_add hx hb dL_law_2907 ?_
  refine m_sld (j := i0 + 1) hx hb hX hbl hbA hS1 (by omega) hL (by omega) e1 dL_law_2908 ?_
  refine m_callVi (z := false) (As := [.int (i32 y1)]) (rest := []) (k := fun v q => some (v, q)) (r := (v, σ2)) X hW1 hS1 hl.1 gc_L_292 hd_X6_act ⟨rfl, rfl, (Nat.le_of_ble_eq_true rfl), (Nat.le_of_ble_eq_true rfl)⟩ (rc_X6 X hW1) (fun v s2 q => ok_X6_act hy1 q) (by rw [hm]; rfl) rfl rfl (Nat.le_of_ble_eq_true rfl) dL_law_2909 ⟨hce, hsl⟩ (fun w s2 H locs hv2 z2 hW2 hS2 hf => ?_)
  cases hf
  refine lv_istore (lv' := [(6, .int (i32 v)), (5, .int (i32 k)), (0, .ref b), (1, .ref (ad 0)), (2, .ref (ad 230)), (3, .ref (ad 290)), (4, .int (i32 (i0 : Int)))]) hx hb dL_law_2912 hl (by decide) rfl (fun ls hl => ?_)
  refine lv_aload_n hx hb dL_law_2914 rfl (lv_at hl 4 rfl) ?_
  refine m_callVi1 (z := false) (As := []) (rest := []) (k := fun v => some v) (r := k) X hW2 hS2 hl.1 gc_L_160 hd_X6_thrown ⟨rfl, rfl, (Nat.le_of_ble_eq_true rfl), (Nat.le_of_ble_eq_true rfl)⟩ (rc_X6 X hW2) (fun v q => ok_X6_thrown  q) (by rw [ht]; rfl) rfl rfl (Nat.le_of_ble_eq_true rfl) dL_law_2915 ⟨hce, hsl⟩ (fun v H locs hv3 z3 hW3 hS3 hf => ?_)
  cases hf
  refine lv_iload hx hb dL_law_2918 (lv_at hl 1 rfl) ?_
  refine lv_icmp_eq (tgt := 2925) hx hb dL_law_2920 (by decide) (fun _ => ?_) (fun q => absurd rfl q)
  refine lv_iload hx hb dL_law_2925 (lv_at hl 1 rfl) ?_
  refine lv_if_ne (tgt := 2942) hx hb dL_law_2927 (by decide) (fun qk => ?_) (fun qk => ?_)
  · refine lv_goto (tgt := 3020) hx hb dL_law_2942 (by decide) ?_
    exact kk _ _ _ hW3 hS3 (lv_sub hl [2, 3, 4, 5, 6] rfl)
  · have qk := (i32_eq hv z0).mp qk
    refine lv_aload_n hx hb dL_law_2930 rfl (lv_at hl 5 rfl) ?_
    refine m_const (v := 0) hx hb dL_law_2931 rfl ?_
    refine m_lald X hW3 dL_law_2932 ?_
    refine lv_iload hx hb dL_law_2933 (lv_at hl 0 rfl) ?_
    refine m_i2l hx hb hv2 dL_law_2935 ?_
    refine m_lcmp hx hb (hW3.2.1 _ _) hv2 dL_law_2936 ?_
    refine lv_if_eq (tgt := 2942) hx hb dL_law_2937 (by decide) (fun _ => ?_) (fun q => absurd (by rw [ho qk]; unfold lcm; rw [if_neg (Int.lt_irrefl _), if_pos rfl]; rfl) q)
    refine lv_goto (tgt := 3020) hx hb dL_law_2942 (by decide) ?_
    exact kk _ _ _ hW3 hS3 (lv_sub hl [2, 3, 4, 5, 6] rfl)
set_option maxRecDepth 100000 in
set_option maxHeartbeats 4000000 in
theorem case_isUndone {p : Program} {l : Launch} {e : Env} {s : State} {m : MethodId} {args : Array Value} {below : List Frame} {meth : Method} {c : Code} {H : Heap} {locs : List Loc} {cells slots : Nat} {Q : State → Prop} {D : va_G} {cy : Nat → ClassId} {ad : Nat → Nat} {nm nv : Nat} {A : Nat → Prop} {σ : St} {ls : Array Slot} {b L i0 : Nat} {xs : Nat → Int32} {y1 y2 y3 k v : Int} {σ1 σ2 : St} {n : Nat} (X : Cx p s m args c cL_law 7 RL D cy ad nm nv A) (Y : TX A s) (Z : NCs s) (hst : l.stackTraces = false) (hX : va_X b L xs s s.heap) (hbl : b < s.heap.size) (hbA : ¬ A b) (hL : L ≤ 2048) (hiL : i0 + 4 ≤ L) (e1 : (xs (i0 + 1)).toInt = y1) (e2 : (xs (i0 + 2)).toInt = y2) (e3 : (xs (i0 + 3)).toInt = y3) (hW : Wd D cy ad nm nv σ H) (hS : va_S A s.heap H locs) (hl : lv_has ls 7 [(0, .ref b), (1, .ref (ad 0)), (2, .ref (ad 230)), (3, .ref (ad 290)), (4, .int (i32 (i0 : Int)))]) (hce : cells + 2 ≤ 601024) (hsl : slots + 12 ≤ 7293034) (hk : fL_isUndone n σ y1 y2 = some (k, σ1)) (hm : fX6_isUndone n σ1 y1 y2 = some (v, σ2)) (ht : fX6_thrown σ2 = some k) (ho : k = 0 → (σ2 290 0) = (nz v)) (kk : ∀ (H1 : Heap) (locs1 : List Loc) (ls1 : Array Slot), Wd D cy ad nm nv σ2 H1 → va_S A s.heap H1 locs1 → lv_has ls1 7 [(0, .ref b), (1, .ref (ad 0)), (2, .ref (ad 230)), (3, .ref (ad 290)), (4, .int (i32 (i0 : Int)))] → W p l e room_1 s m args below meth c H1 locs1 (cells + 2) (slots + 12) Q (F0 m 3020 ls1 [])) : W p l e room_1 s m args below meth c H locs cells slots Q (F0 m 2945 ls []) := by
  have hx := X.1
  have hb := X.2.1
  have hi0 : inR (i0 : Int) := ⟨by omega, by omega⟩
  have hy1 : inR y1 := by rw [← e1]; exact i32_inR _
  have hy2 : inR y2 := by rw [← e2]; exact i32_inR _
  have hy3 : inR y3 := by rw [← e3]; exact i32_inR _
  refine lv_aload_n hx hb dL_law_2945 rfl (lv_at hl 1 rfl) ?_
  refine lv_aload_n hx hb dL_law_2946 rfl (lv_at hl 0 rfl) ?_
  refine lv_iload hx hb dL_law_2947 (lv_at hl 4 rfl) ?_
  refine m_const (v := 1) hx hb dL_law_2949 rfl ?_
  refine m_add hx hb dL_law_2950 ?_
  refine m_sld (j := i0 + 1) hx hb hX hbl hbA hS (by omega) hL (by omega) e1 dL_law_2951 ?_
  refine lv_aload_n hx hb dL_law_2952 rfl (lv_at hl 0 rfl) ?_
  refine lv_iload hx hb dL_law_2953 (lv_at hl 4 rfl) ?_
  refine m_const (v := 2) hx hb dL_law_2955 rfl ?_
  refine m_add hx hb dL_law_2956 ?_
  refine m_sld (j := i0 + 2) hx hb hX hbl hbA hS (by omega) hL (by omega) e2 dL_law_2957 ?_
  refine lv_aload_n hx hb dL_law_2958 rfl (lv_at hl 3 rfl) ?_
  refine l_callS (As := [.ref (ad 0), .int (i32 y1), .int (i32 y2), .ref (ad 290)]) (rest := []) (κ := fun v q => some (v, q)) (r := (k, σ1)) X Y Z hW hS hl.1 cw_L_isUndone hdn_L_isUndone ⟨rfl, rfl, (Nat.le_of_ble_eq_true rfl), (Nat.le_of_ble_eq_true rfl)⟩ (fun v σ2 q => ok_L_isUndone hy1 hy2 q hst) (by rw [hk]; rfl) rfl rfl (Nat.le_of_ble_eq_true rfl) dL_law_2959 ⟨hce, hsl⟩ (fun v s1 H locs hv hW1 hS1 hf => ?_)
  cases hf
  refine lv_istore (lv' := [(5, .int (i32 k)), (0, .ref b), (1, .ref (ad 0)), (2, .ref (ad 230)), (3, .ref (ad 290)), (4, .int (i32 (i0 : Int)))]) hx hb dL_law_2962 hl (by decide) rfl (fun ls hl => ?_)
  refine lv_aload_n hx hb dL_law_2964 rfl (lv_at hl 3 rfl) ?_
  refine lv_aload_n hx hb dL_law_2965 rfl (lv_at hl 1 rfl) ?_
  refine lv_iload hx hb dL_law_2966 (lv_at hl 5 rfl) ?_
  refine m_const (v := 1) hx hb dL_law_2968 rfl ?_
  refine m_add hx hb dL_law_2969 ?_
  refine m_sld (j := i0 + 1) hx hb hX hbl hbA hS1 (by omega) hL (by omega) e1 dL_law_2970 ?_
  refine lv_aload_n hx hb dL_law_2971 rfl (lv_at hl 1 rfl) ?_
  refine lv_iload hx hb dL_law_2972 (lv_at hl 5 rfl) ?_
  refine m_const (v := 2) hx hb dL_law_2974 rfl ?_
  refine m_add hx hb dL_law_2975 ?_
  refine m_sld (j := i0 + 2) hx hb hX hbl hbA hS1 (by omega) hL (by omega) e2 dL_law_2976 ?_
  refine m_callVi (z := true) (As := [.int (i32 y1), .int (i32 y2)]) (rest := []) (k := fun v q => some (v, q)) (r := (v, σ2)) X hW1 hS1 hl.1 gc_L_295 hd_X6_isUndone ⟨rfl, rfl, (Nat.le_of_ble_eq_true rfl), (Nat.le_of_ble_eq_true rfl)⟩ (rc_X6 X hW1) (fun v s2 q => ok_X6_isUndone hy1 hy2 q) (by rw [hm]; rfl) rfl rfl (Nat.le_of_ble_eq_true rfl) dL_law_2977 ⟨hce, hsl⟩ (fun w s2 H locs hv2 z2 hW2 hS2 hf => ?_)
  cases hf
  refine lv_istore (lv' := [(6, .int (i32 v)), (5, .int (i32 k)), (0, .ref b), (1, .ref (ad 0)), (2, .ref (ad 230)), (3, .ref (ad 290)), (4, .int (i32 (i0 : Int)))]) hx hb dL_law_2980 hl (by decide) rfl (fun ls hl => ?_)
  refine lv_aload_n hx hb dL_law_2982 rfl (lv_at hl 4 rfl) ?_
  refine m_callVi1 (z := false) (As := []) (rest := []) (k := fun v => some v) (r := k) X hW2 hS2 hl.1 gc_L_160 hd_X6_thrown ⟨rfl, rfl, (Nat.le_of_ble_eq_true rfl), (Nat.le_of_ble_eq_true rfl)⟩ (rc_X6 X hW2) (fun v q => ok_X6_thrown  q) (by rw [ht]; rfl) rfl rfl (Nat.le_of_ble_eq_true rfl) dL_law_2983 ⟨hce, hsl⟩ (fun v H locs hv3 z3 hW3 hS3 hf => ?_)
  cases hf
  refine lv_iload hx hb dL_law_2986 (lv_at hl 1 rfl) ?_
  refine lv_icmp_eq (tgt := 2993) hx hb dL_law_2988 (by decide) (fun _ => ?_) (fun q => absurd rfl q)
  refine lv_iload hx hb dL_law_2993 (lv_at hl 1 rfl) ?_
  refine lv_if_ne (tgt := 3017) hx hb dL_law_2995 (by decide) (fun qk => ?_) (fun qk => ?_)
  · refine lv_goto (tgt := 3020) hx hb dL_law_3017 (by decide) ?_
    exact kk _ _ _ hW3 hS3 (lv_sub hl [2, 3, 4, 5, 6] rfl)
  · have qk := (i32_eq hv z0).mp qk
    refine lv_aload_n hx hb dL_law_2998 rfl (lv_at hl 5 rfl) ?_
    refine m_const (v := 0) hx hb dL_law_2999 rfl ?_
    refine m_lald X hW3 dL_law_3000 ?_
    refine lv_iload hx hb dL_law_3001 (lv_at hl 0 rfl) ?_
    refine m_nzl hx hb hv2 dL_law_3003 dL_law_3006 dL_law_3007 dL_law_3010 ?_
    refine m_lcmp hx hb (hW3.2.1 _ _) (nz_inR _) dL_law_3011 ?_
    refine lv_if_eq (tgt := 3017) hx hb dL_law_3012 (by decide) (fun _ => ?_) (fun q => absurd (by rw [ho qk]; unfold lcm; rw [if_neg (Int.lt_irrefl _), if_pos rfl]; rfl) q)
    refine lv_goto (tgt := 3020) hx hb dL_law_3017 (by decide) ?_
    exact kk _ _ _ hW3 hS3 (lv_sub hl [2, 3, 4, 5, 6] rfl)
