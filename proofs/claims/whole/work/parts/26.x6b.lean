theorem gc_X6_215 : GoodIn GW (wsS RX6 215 yX6_isSite (wsG yX6_isSite cX6_isSite 1 (some .boolean))) := cg_S mw1190 mw1191 mw6 mw1192
theorem gc_X6_218 : GoodIn GW (wsV RX6 218 RX6 yX6_writes (wsG yX6_writes cX6_writes 5 (some .int))) := cg_V mw1196 mw1198 ms33 mw6 mw1199
theorem gc_X6_222 : GoodIn GW (wsV RX6 222 RX6 yX6_fails (wsG yX6_fails cX6_fails 2 (some .int))) := cg_V mw1288 mw1290 ms55 mw6 mw1291
theorem gc_X6_225 : GoodIn GW (wsV RX6 225 RX6 yX6_placeOf (wsG yX6_placeOf cX6_placeOf 5 (some .int))) := cg_V mw1300 mw1302 ms57 mw6 mw1303
theorem gc_X6_228 : GoodIn GW (wsV RX6 228 RX6 yX6_selected (wsG yX6_selected cX6_selected 3 (some .int))) := cg_V mw1296 mw1298 ms56 mw6 mw1299
theorem gc_X6_231 : GoodIn GW (wsV RX6 231 RX6 yX6_lower (wsG yX6_lower cX6_lower 4 (some .int))) := cg_V mw1304 mw1306 ms58 mw6 mw1307
theorem gc_X6_234 : GoodIn GW (wsV RX6 234 RX6 yX6_seenAt (wsG yX6_seenAt cX6_seenAt 4 (some .int))) := cg_V mw1308 mw1310 ms59 mw6 mw1311
theorem gc_X6_237 : GoodIn GW (wsV RX6 237 RX6 yX6_seen (wsG yX6_seen cX6_seen 3 (some .int))) := cg_V mw1316 mw1318 ms60 mw6 mw1319
theorem gc_X6_244 : GoodIn GW (wsV RX6 244 RX6 yX6_shownBlocks (wsG yX6_shownBlocks cX6_shownBlocks 3 (some .int))) := cg_V mw1340 mw1342 ms62 mw6 mw1343
theorem gc_X6_247 : GoodIn GW (wsV RX6 247 RX6 yX6_isBlock (wsG yX6_isBlock cX6_isBlock 3 (some .boolean))) := cg_V mw1336 mw1338 ms61 mw6 mw1339
theorem gc_X6_250 : GoodIn GW (wsV RX6 250 RX6 yX6_blockNumber (wsG yX6_blockNumber cX6_blockNumber 5 (some .int))) := cg_V mw1344 mw1346 ms63 mw6 mw1347
theorem gc_X6_253 : GoodIn GW (wsV RX6 253 RX6 yX6_hasAct (wsG yX6_hasAct cX6_hasAct 3 (some .boolean))) := cg_V mw1360 mw1362 ms64 mw6 mw1363
theorem gc_X6_256 : GoodIn GW (wsV RX6 256 RX6 yX6_isSafe (wsG yX6_isSafe cX6_isSafe 5 (some .boolean))) := cg_V mw1384 mw1386 ms66 mw6 mw1387
theorem gc_X6_262 : GoodIn GW (wsV RX6 262 RX6 yX6_knowsOf (wsG yX6_knowsOf cX6_knowsOf 4 (some .boolean))) := cg_V mw1380 mw1382 ms65 mw6 mw1383
theorem hd_X6_isSite : yX6_isSite.cls = RX6 ∧ yX6_isSite.cls ≠ "java/lang/invoke/MethodHandle" ∧ yX6_isSite.cls ≠ "java/lang/invoke/VarHandle" ∧ (parseMethodDescriptor yX6_isSite.desc).map (fun d => d.parameters.length) = some 1 := by decide +kernel
theorem hd_X6_writes : yX6_writes.cls = RX6 ∧ yX6_writes.cls ≠ "java/lang/invoke/MethodHandle" ∧ yX6_writes.cls ≠ "java/lang/invoke/VarHandle" ∧ (parseMethodDescriptor yX6_writes.desc).map (fun d => d.parameters.length) = some 3 := by decide +kernel
theorem hd_X6_fails : yX6_fails.cls = RX6 ∧ yX6_fails.cls ≠ "java/lang/invoke/MethodHandle" ∧ yX6_fails.cls ≠ "java/lang/invoke/VarHandle" ∧ (parseMethodDescriptor yX6_fails.desc).map (fun d => d.parameters.length) = some 1 := by decide +kernel
theorem hd_X6_placeOf : yX6_placeOf.cls = RX6 ∧ yX6_placeOf.cls ≠ "java/lang/invoke/MethodHandle" ∧ yX6_placeOf.cls ≠ "java/lang/invoke/VarHandle" ∧ (parseMethodDescriptor yX6_placeOf.desc).map (fun d => d.parameters.length) = some 1 := by decide +kernel
theorem hd_X6_selected : yX6_selected.cls = RX6 ∧ yX6_selected.cls ≠ "java/lang/invoke/MethodHandle" ∧ yX6_selected.cls ≠ "java/lang/invoke/VarHandle" ∧ (parseMethodDescriptor yX6_selected.desc).map (fun d => d.parameters.length) = some 1 := by decide +kernel
theorem hd_X6_lower : yX6_lower.cls = RX6 ∧ yX6_lower.cls ≠ "java/lang/invoke/MethodHandle" ∧ yX6_lower.cls ≠ "java/lang/invoke/VarHandle" ∧ (parseMethodDescriptor yX6_lower.desc).map (fun d => d.parameters.length) = some 1 := by decide +kernel
theorem hd_X6_seenAt : yX6_seenAt.cls = RX6 ∧ yX6_seenAt.cls ≠ "java/lang/invoke/MethodHandle" ∧ yX6_seenAt.cls ≠ "java/lang/invoke/VarHandle" ∧ (parseMethodDescriptor yX6_seenAt.desc).map (fun d => d.parameters.length) = some 1 := by decide +kernel
theorem hd_X6_seen : yX6_seen.cls = RX6 ∧ yX6_seen.cls ≠ "java/lang/invoke/MethodHandle" ∧ yX6_seen.cls ≠ "java/lang/invoke/VarHandle" ∧ (parseMethodDescriptor yX6_seen.desc).map (fun d => d.parameters.length) = some 0 := by decide +kernel
theorem hd_X6_shownBlocks : yX6_shownBlocks.cls = RX6 ∧ yX6_shownBlocks.cls ≠ "java/lang/invoke/MethodHandle" ∧ yX6_shownBlocks.cls ≠ "java/lang/invoke/VarHandle" ∧ (parseMethodDescriptor yX6_shownBlocks.desc).map (fun d => d.parameters.length) = some 0 := by decide +kernel
theorem hd_X6_isBlock : yX6_isBlock.cls = RX6 ∧ yX6_isBlock.cls ≠ "java/lang/invoke/MethodHandle" ∧ yX6_isBlock.cls ≠ "java/lang/invoke/VarHandle" ∧ (parseMethodDescriptor yX6_isBlock.desc).map (fun d => d.parameters.length) = some 2 := by decide +kernel
theorem hd_X6_blockNumber : yX6_blockNumber.cls = RX6 ∧ yX6_blockNumber.cls ≠ "java/lang/invoke/MethodHandle" ∧ yX6_blockNumber.cls ≠ "java/lang/invoke/VarHandle" ∧ (parseMethodDescriptor yX6_blockNumber.desc).map (fun d => d.parameters.length) = some 1 := by decide +kernel
theorem hd_X6_hasAct : yX6_hasAct.cls = RX6 ∧ yX6_hasAct.cls ≠ "java/lang/invoke/MethodHandle" ∧ yX6_hasAct.cls ≠ "java/lang/invoke/VarHandle" ∧ (parseMethodDescriptor yX6_hasAct.desc).map (fun d => d.parameters.length) = some 2 := by decide +kernel
theorem hd_X6_isSafe : yX6_isSafe.cls = RX6 ∧ yX6_isSafe.cls ≠ "java/lang/invoke/MethodHandle" ∧ yX6_isSafe.cls ≠ "java/lang/invoke/VarHandle" ∧ (parseMethodDescriptor yX6_isSafe.desc).map (fun d => d.parameters.length) = some 2 := by decide +kernel
theorem hd_X6_knowsOf : yX6_knowsOf.cls = RX6 ∧ yX6_knowsOf.cls ≠ "java/lang/invoke/MethodHandle" ∧ yX6_knowsOf.cls ≠ "java/lang/invoke/VarHandle" ∧ (parseMethodDescriptor yX6_knowsOf.desc).map (fun d => d.parameters.length) = some 3 := by decide +kernel
noncomputable def fX6_type_J34 (n : Nat) (σ : St) (x1 : Int) (x2 : Int) (t0 : Int) : Option (Int × St) := pf σ 230 0 t0 (fun σ3 => if σ3 230 0 ≤ 0 then (b2 (fX6_writes n σ3 x1 0 x2) (fun v5 σ4 => some (v5, σ4))) else (some (0, σ3)))
noncomputable def fX6_type_J29 (n : Nat) (σ : St) (x1 : Int) (x2 : Int) : Option (Int × St) := fX6_type_J34 n σ x1 x2 0
noncomputable def fX6_type (n : Nat) (σ : St) (x1 : Int) (x2 : Int) : Option (Int × St) := b1 (fX6_isSite x1) (fun v1 => if v1 ≠ 0 then (b1 (fX6_isIn x2 97 122) (fun v2 => if v2 ≠ 0 then (fX6_type_J29 n σ x1 x2) else (if x2 ≠ 32 then (fX6_type_J34 n σ x1 x2 2) else (fX6_type_J29 n σ x1 x2)))) else (fX6_type_J34 n σ x1 x2 1))
noncomputable def fX6_split (n : Nat) (σ : St) (x1 : Int) : Option (Int × St) := b1 (fX6_isSite x1) (fun v1 => if v1 = 0 then (b2 (fX6_fails σ 1) (fun v3 σ2 => some (v3, σ2))) else (b2 (fX6_writes n σ x1 1 47) (fun v5 σ4 => some (v5, σ4))))
noncomputable def fX6_lower (n : Nat) (σ : St) (x1 : Int) : Option Int := rd σ 248 4 x1 (fun v1 => b1 (fX6_placeOf n σ v1) (fun v2 => rd σ 249 4 x1 (fun v3 => b1 (fX6_placeOf n σ v3) (fun v4 => if v4 ≤ v2 then (some v4) else (some v2)))))
noncomputable def fX6_selected (n : Nat) (σ : St) (x1 : Int) : Option Int := rd σ 248 4 x1 (fun v1 => b1 (fX6_placeOf n σ v1) (fun v2 => rd σ 249 4 x1 (fun v3 => b1 (fX6_placeOf n σ v3) (fun v4 => ck (v2 - v4) (fun v5 => if 0 ≤ v5 then (some v5) else (ck (-v5) (fun v6 => some v6)))))))
noncomputable def fX6_erase_J224 (n : Nat) (σ : St) (x1 : Int) (x4 : Int) (t0 : Int) (t1 : Int) : Option (Int × St) := wr σ 248 4 t1 t0 (fun σ27 => rd σ27 248 4 x1 (fun v28 => wr σ27 249 4 x1 v28 (fun σ29 => some (x4, σ29))))
noncomputable def fX6_erase_L159s (n : Nat) (x1 : Int) (x2 : Int) (x4 : Int) (x5 : Int) (lp159 : (St → Int → Option (Int × St))) : St → Int → Option (Int × St) := fun σ x6 => if x4 ≤ x6 then (if x2 ≤ 0 then (some (x4, σ)) else (if x5 = 0 then (rd σ 248 4 x1 (fun v20 => fX6_erase_J224 n σ x1 x4 v20 x1)) else (rd σ 249 4 x1 (fun v21 => fX6_erase_J224 n σ x1 x4 v21 x1)))) else (rd σ 274 161 x6 (fun v22 => rd σ 250 4 x1 (fun v23 => b2 (fX6_makes σ x1 2 v22 0 0 0 v23) (fun v25 σ24 => ck (x6 + 1) (fun v26 => lp159 σ24 v26)))))
noncomputable def fX6_erase_L159 (n : Nat) (x1 : Int) (x2 : Int) (x4 : Int) (x5 : Int) (k : Nat) : St → Int → Option (Int × St) := lpR (fun _ _ => none) (fX6_erase_L159s n x1 x2 x4 x5) k
noncomputable def fX6_erase_L128s (n : Nat) (x1 : Int) (x2 : Int) (x3 : Int) (x4 : Int) (x5 : Int) (lp128 : (St → Int → Option (Int × St))) : St → Int → Option (Int × St) := fun σ x6 => if x4 ≤ x6 then (fX6_erase_L159 n x1 x2 x4 x5 n σ 0) else (ck (x3 + x6) (fun v16 => b1 (fX6_seenAt n σ v16) (fun v17 => wr σ 274 161 x6 v17 (fun σ18 => ck (x6 + 1) (fun v19 => lp128 σ18 v19)))))
noncomputable def fX6_erase_L128 (n : Nat) (x1 : Int) (x2 : Int) (x3 : Int) (x4 : Int) (x5 : Int) (k : Nat) : St → Int → Option (Int × St) := lpR (fun _ _ => none) (fX6_erase_L128s n x1 x2 x3 x4 x5) k
noncomputable def fX6_erase_J83 (n : Nat) (σ : St) (x1 : Int) (x2 : Int) (x3 : Int) (x4 : Int) (t0 : Int) : Option (Int × St) := pf σ 230 0 t0 (fun σ11 => if σ11 230 0 ≤ 0 then (rd σ11 248 4 x1 (fun v12 => b1 (fX6_placeOf n σ11 v12) (fun v13 => rd σ11 249 4 x1 (fun v14 => b1 (fX6_placeOf n σ11 v14) (fun v15 => if v13 ≤ v15 then (fX6_erase_L128 n x1 x2 x3 x4 0 n σ11 0) else (fX6_erase_L128 n x1 x2 x3 x4 1 n σ11 0)))))) else (some (0, σ11)))
noncomputable def fX6_erase_J78 (n : Nat) (σ : St) (x1 : Int) (x2 : Int) (x3 : Int) (x4 : Int) : Option (Int × St) := fX6_erase_J83 n σ x1 x2 x3 x4 2
noncomputable def fX6_erase_J58 (n : Nat) (σ : St) (x1 : Int) (x2 : Int) (x3 : Int) (t0 : Int) : Option (Int × St) := if x3 < 0 then (fX6_erase_J78 n σ x1 x2 x3 t0) else (ck ((σ 230 1) + t0) (fun v10 => if v10 ≤ 160 then (fX6_erase_J83 n σ x1 x2 x3 t0 0) else (fX6_erase_J78 n σ x1 x2 x3 t0)))
noncomputable def fX6_erase_J48 (n : Nat) (σ : St) (x1 : Int) (x2 : Int) (t0 : Int) : Option (Int × St) := if x2 ≤ 0 then (fX6_erase_J58 n σ x1 x2 t0 1) else (fX6_erase_J58 n σ x1 x2 t0 x2)
noncomputable def fX6_erase (n : Nat) (σ : St) (x1 : Int) : Option (Int × St) := b1 (fX6_isSite x1) (fun v1 => if v1 ≠ 0 then (b1 (fX6_findsSite n σ x1) (fun σ2 => b1 (fX6_selected n σ2 x1) (fun v3 => if v3 ≤ 0 then (rd σ2 248 4 x1 (fun v4 => b1 (fX6_placeOf n σ2 v4) (fun v5 => ck (v5 - 1) (fun v6 => fX6_erase_J48 n σ2 x1 v3 v6)))) else (b1 (fX6_lower n σ2 x1) (fun v7 => fX6_erase_J48 n σ2 x1 v3 v7))))) else (b2 (fX6_fails σ 1) (fun v9 σ8 => some (v9, σ8))))
noncomputable def fX6_moveTo_J79 (n : Nat) (σ : St) (x1 : Int) (x2 : Int) (x3 : Int) (t0 : Int) (t1 : Int) : Option (Int × St) := wr σ 248 4 t1 t0 (fun σ12 => rd σ12 248 4 x1 (fun v13 => wr σ12 249 4 x1 v13 (fun σ14 => some (x3, σ14))))
noncomputable def fX6_moveTo_J36 (n : Nat) (σ : St) (x1 : Int) (x2 : Int) (t0 : Int) : Option (Int × St) := pf σ 230 0 t0 (fun σ7 => if σ7 230 0 ≤ 0 then (rd σ7 248 4 x1 (fun v8 => b1 (fX6_placeOf n σ7 v8) (fun v9 => if x2 ≠ 0 then (ck (x2 - 1) (fun v10 => b1 (fX6_seenAt n σ7 v10) (fun v11 => fX6_moveTo_J79 n σ7 x1 x2 v9 v11 x1))) else (fX6_moveTo_J79 n σ7 x1 x2 v9 (-1) x1)))) else (some (0, σ7)))
noncomputable def fX6_moveTo (n : Nat) (σ : St) (x1 : Int) (x2 : Int) : Option (Int × St) := b1 (fX6_isSite x1) (fun v1 => if v1 ≠ 0 then (b1 (fX6_findsSite n σ x1) (fun σ2 => b1 (fX6_seen n σ2) (fun v3 => b1 (fX6_isIn x2 0 v3) (fun v4 => if v4 = 0 then (fX6_moveTo_J36 n σ2 x1 x2 1) else (fX6_moveTo_J36 n σ2 x1 x2 0))))) else (b2 (fX6_fails σ 1) (fun v6 σ5 => some (v6, σ5))))
noncomputable def fX6_extend_J68 (n : Nat) (σ : St) (x1 : Int) (x2 : Int) (t0 : Int) (t1 : Int) : Option (Int × St) := wr σ 248 4 t1 t0 (fun σ10 => b1 (fX6_selected n σ10 x1) (fun v11 => some (v11, σ10)))
noncomputable def fX6_extend_J36 (n : Nat) (σ : St) (x1 : Int) (x2 : Int) (t0 : Int) : Option (Int × St) := pf σ 230 0 t0 (fun σ7 => if σ7 230 0 ≤ 0 then (if x2 ≠ 0 then (ck (x2 - 1) (fun v8 => b1 (fX6_seenAt n σ7 v8) (fun v9 => fX6_extend_J68 n σ7 x1 x2 v9 x1))) else (fX6_extend_J68 n σ7 x1 x2 (-1) x1)) else (some (0, σ7)))
noncomputable def fX6_extend (n : Nat) (σ : St) (x1 : Int) (x2 : Int) : Option (Int × St) := b1 (fX6_isSite x1) (fun v1 => if v1 ≠ 0 then (b1 (fX6_findsSite n σ x1) (fun σ2 => b1 (fX6_seen n σ2) (fun v3 => b1 (fX6_isIn x2 0 v3) (fun v4 => if v4 = 0 then (fX6_extend_J36 n σ2 x1 x2 1) else (fX6_extend_J36 n σ2 x1 x2 0))))) else (b2 (fX6_fails σ 1) (fun v6 σ5 => some (v6, σ5))))
noncomputable def fX6_mark_J121 (n : Nat) (σ : St) (x1 : Int) (x2 : Int) (x3 : Int) (t0 : Int) (t1 : Int) (t2 : Int) (t3 : Int) (t4 : Int) (t5 : Int) : Option (Int × St) := b2 (fX6_makes σ t5 t4 t3 t2 t1 t0 0) (fun v14 σ13 => some (v14, σ13))
noncomputable def fX6_mark_J71 (n : Nat) (σ : St) (x1 : Int) (x2 : Int) (x3 : Int) (x4 : Int) (t0 : Int) : Option (Int × St) := pf σ 230 0 t0 (fun σ6 => if σ6 230 0 ≤ 0 then (b1 (fX6_lower n σ6 x1) (fun v7 => b1 (fX6_seenAt n σ6 v7) (fun v8 => b1 (fX6_lower n σ6 x1) (fun v9 => ck (v9 + x4) (fun v10 => ck (v10 - 1) (fun v11 => b1 (fX6_seenAt n σ6 v11) (fun v12 => if x3 = 0 then (fX6_mark_J121 n σ6 x1 x2 x3 0 x2 v12 v8 4 x1) else (fX6_mark_J121 n σ6 x1 x2 x3 1 x2 v12 v8 4 x1)))))))) else (some (0, σ6)))
noncomputable def fX6_mark_J66 (n : Nat) (σ : St) (x1 : Int) (x2 : Int) (x3 : Int) (x4 : Int) : Option (Int × St) := fX6_mark_J71 n σ x1 x2 x3 x4 3
noncomputable def fX6_mark_J26 (n : Nat) (σ : St) (x1 : Int) (x2 : Int) (x3 : Int) (t0 : Int) : Option (Int × St) := pf σ 230 0 t0 (fun σ3 => if σ3 230 0 ≤ 0 then (b1 (fX6_findsSite n σ3 x1) (fun σ4 => b1 (fX6_selected n σ4 x1) (fun v5 => if v5 = 0 then (fX6_mark_J66 n σ4 x1 x2 x3 v5) else (if σ4 230 1 ≠ 160 then (fX6_mark_J71 n σ4 x1 x2 x3 v5 0) else (fX6_mark_J66 n σ4 x1 x2 x3 v5))))) else (some (0, σ3)))
noncomputable def fX6_mark (n : Nat) (σ : St) (x1 : Int) (x2 : Int) (x3 : Int) : Option (Int × St) := b1 (fX6_isSite x1) (fun v1 => if v1 ≠ 0 then (b1 (fX6_isIn x2 0 1) (fun v2 => if v2 = 0 then (fX6_mark_J26 n σ x1 x2 x3 2) else (fX6_mark_J26 n σ x1 x2 x3 0))) else (fX6_mark_J26 n σ x1 x2 x3 1))
noncomputable def fX6_comment_J53 (n : Nat) (σ : St) (x1 : Int) (x2 : Int) (t0 : Int) : Option (Int × St) := pf σ 230 0 t0 (fun σ6 => if σ6 230 0 ≤ 0 then (wr σ6 242 160 (σ6 230 1) (σ6 230 10) (fun σ7 => ck ((σ7 230 10) + 1) (fun v8 => pf σ7 230 10 v8 (fun σ9 => b1 (fX6_lower n σ9 x1) (fun v10 => b1 (fX6_seenAt n σ9 v10) (fun v11 => b1 (fX6_lower n σ9 x1) (fun v12 => ck (v12 + x2) (fun v13 => ck (v13 - 1) (fun v14 => b1 (fX6_seenAt n σ9 v14) (fun v15 => b2 (fX6_makes σ9 x1 7 v11 v15 0 0 0) (fun v17 σ16 => some (v17, σ16)))))))))))) else (some (0, σ6)))
noncomputable def fX6_comment_J48 (n : Nat) (σ : St) (x1 : Int) (x2 : Int) : Option (Int × St) := fX6_comment_J53 n σ x1 x2 2
noncomputable def fX6_comment (n : Nat) (σ : St) (x1 : Int) : Option (Int × St) := b1 (fX6_isSite x1) (fun v1 => if v1 ≠ 0 then (b1 (fX6_findsSite n σ x1) (fun σ2 => b1 (fX6_selected n σ2 x1) (fun v3 => if v3 = 0 then (fX6_comment_J48 n σ2 x1 v3) else (if σ2 230 10 = 20 then (fX6_comment_J48 n σ2 x1 v3) else (if σ2 230 1 ≠ 160 then (fX6_comment_J53 n σ2 x1 v3 0) else (fX6_comment_J48 n σ2 x1 v3)))))) else (b2 (fX6_fails σ 1) (fun v5 σ4 => some (v5, σ4))))
noncomputable def fX6_shownBlocks_L4s (n : Nat) (σ : St) (lp4 : (Int → Int → Option Int)) : Int → Int → Option Int := fun x1 x2 => if σ 230 32 ≤ x2 then (some x1) else (rd σ 264 160 x2 (fun v1 => rd σ 235 160 v1 (fun v2 => if v2 ≠ 1 then (ck (x1 + 0) (fun v3 => ck (x2 + 1) (fun v4 => lp4 v3 v4))) else (rd σ 264 160 x2 (fun v5 => b1 (fX6_isShown σ v5) (fun v6 => if v6 = 0 then (ck (x1 + 0) (fun v7 => ck (x2 + 1) (fun v8 => lp4 v7 v8))) else (ck (x1 + 1) (fun v9 => ck (x2 + 1) (fun v10 => lp4 v9 v10)))))))))
noncomputable def fX6_shownBlocks_L4 (n : Nat) (σ : St) (k : Nat) : Int → Int → Option Int := lpR (fun _ _ => none) (fX6_shownBlocks_L4s n σ) k
noncomputable def fX6_shownBlocks (n : Nat) (σ : St) : Option Int := fX6_shownBlocks_L4 n σ n 1 0
noncomputable def fX6_blockNumber_L7s (n : Nat) (σ : St) (x1 : Int) (lp7 : (Int → Int → Int → Option Int)) : Int → Int → Int → Option Int := fun x2 x3 x4 => if σ 230 32 ≤ x4 then (some x3) else (rd σ 264 160 x4 (fun v1 => rd σ 235 160 v1 (fun v2 => if v2 ≠ 1 then (ck (x4 + 1) (fun v3 => lp7 x2 x3 v3)) else (rd σ 264 160 x4 (fun v4 => b1 (fX6_isShown σ v4) (fun v5 => if v5 = 0 then (ck (x4 + 1) (fun v6 => lp7 x2 x3 v6)) else (ck (x2 + 1) (fun v7 => if v7 ≠ x1 then (ck (x4 + 1) (fun v8 => lp7 v7 x3 v8)) else (rd σ 264 160 x4 (fun v9 => ck (x4 + 1) (fun v10 => lp7 v7 v9 v10)))))))))))
noncomputable def fX6_blockNumber_L7 (n : Nat) (σ : St) (x1 : Int) (k : Nat) : Int → Int → Int → Option Int := lpR (fun _ _ _ => none) (fX6_blockNumber_L7s n σ x1) k
noncomputable def fX6_blockNumber (n : Nat) (σ : St) (x1 : Int) : Option Int := fX6_blockNumber_L7 n σ x1 n 0 (-1) 0
noncomputable def fX6_isBlock (n : Nat) (σ : St) (x1 : Int) (x2 : Int) : Option (Int × St) := b1 (fX6_isSite x1) (fun v1 => if v1 ≠ 0 then (b1 (fX6_findsSite n σ x1) (fun σ2 => b1 (fX6_shownBlocks n σ2) (fun v3 => ck (v3 - 1) (fun v4 => b1 (fX6_isIn x2 0 v4) (fun v5 => some (v5, σ2)))))) else (some (0, σ)))
noncomputable def fX6_setKind_J57 (n : Nat) (σ : St) (x1 : Int) (x2 : Int) (x3 : Int) (t0 : Int) : Option (Int × St) := pf σ 230 0 t0 (fun σ8 => if σ8 230 0 ≤ 0 then (b1 (fX6_blockNumber n σ8 x2) (fun v9 => b2 (fX6_makes σ8 x1 5 v9 x3 0 0 0) (fun v11 σ10 => some (v11, σ10)))) else (some (0, σ8)))
noncomputable def fX6_setKind_J52 (n : Nat) (σ : St) (x1 : Int) (x2 : Int) (x3 : Int) : Option (Int × St) := fX6_setKind_J57 n σ x1 x2 x3 3
noncomputable def fX6_setKind (n : Nat) (σ : St) (x1 : Int) (x2 : Int) (x3 : Int) : Option (Int × St) := b2 (fX6_isBlock n σ x1 x2) (fun v2 σ1 => if v2 ≠ 0 then (b1 (fX6_isIn x3 0 3) (fun v3 => if v3 ≠ 0 then (b1 (fX6_blockNumber n σ1 x2) (fun v4 => b1 (fX6_levelIn σ1 x1 v4) (fun v5 => if v5 ≠ 0 then (fX6_setKind_J52 n σ1 x1 x2 x3) else (if σ1 230 1 ≠ 160 then (fX6_setKind_J57 n σ1 x1 x2 x3 0) else (fX6_setKind_J52 n σ1 x1 x2 x3))))) else (fX6_setKind_J57 n σ1 x1 x2 x3 2))) else (b2 (fX6_fails σ1 1) (fun v7 σ6 => some (v7, σ6))))
noncomputable def fX6_nest_J28 (n : Nat) (σ : St) (x1 : Int) (x2 : Int) (x3 : Int) : Option (Int × St) := b2 (fX6_fails σ 1) (fun v7 σ6 => some (v7, σ6))
noncomputable def fX6_nest_J101 (n : Nat) (σ : St) (x1 : Int) (x2 : Int) (x3 : Int) (t0 : Int) (t1 : Int) (t2 : Int) (t3 : Int) : Option (Int × St) := b2 (fX6_makes σ t3 t2 t1 t0 0 0 0) (fun v14 σ13 => some (v14, σ13))
noncomputable def fX6_nest_J63 (n : Nat) (σ : St) (x1 : Int) (x2 : Int) (x3 : Int) (t0 : Int) : Option (Int × St) := pf σ 230 0 t0 (fun σ10 => if σ10 230 0 ≤ 0 then (b1 (fX6_blockNumber n σ10 x2) (fun v11 => if x3 ≠ (-1) then (b1 (fX6_blockNumber n σ10 x3) (fun v12 => fX6_nest_J101 n σ10 x1 x2 x3 v12 v11 6 x1)) else (fX6_nest_J101 n σ10 x1 x2 x3 (-2) v11 6 x1))) else (some (0, σ10)))
noncomputable def fX6_nest_J58 (n : Nat) (σ : St) (x1 : Int) (x2 : Int) (x3 : Int) : Option (Int × St) := fX6_nest_J63 n σ x1 x2 x3 2
noncomputable def fX6_nest_J34 (n : Nat) (σ : St) (x1 : Int) (x2 : Int) (x3 : Int) : Option (Int × St) := b1 (fX6_blockNumber n σ x2) (fun v8 => b1 (fX6_levelIn σ x1 v8) (fun v9 => if v9 ≠ 0 then (fX6_nest_J58 n σ x1 x2 x3) else (if σ 230 1 ≠ 160 then (fX6_nest_J63 n σ x1 x2 x3 0) else (fX6_nest_J58 n σ x1 x2 x3))))
noncomputable def fX6_nest (n : Nat) (σ : St) (x1 : Int) (x2 : Int) (x3 : Int) : Option (Int × St) := b2 (fX6_isBlock n σ x1 x2) (fun v2 σ1 => if v2 = 0 then (fX6_nest_J28 n σ1 x1 x2 x3) else (if x3 = (-1) then (fX6_nest_J34 n σ1 x1 x2 x3) else (b1 (fX6_shownBlocks n σ1) (fun v3 => ck (v3 - 1) (fun v4 => b1 (fX6_isIn x3 0 v4) (fun v5 => if v5 ≠ 0 then (fX6_nest_J34 n σ1 x1 x2 x3) else (fX6_nest_J28 n σ1 x1 x2 x3)))))))
noncomputable def fX6_propose_J13 (σ : St) (x1 : Int) (x2 : Int) (t0 : Int) : Option (Int × St) := pf σ 230 0 t0 (fun σ2 => if σ2 230 0 ≤ 0 then (rd σ2 250 4 x1 (fun v3 => wrb σ2 250 4 x1 x2 (fun σ4 => rb v3 ( some (v3, σ4))))) else (some (0, σ2)))
noncomputable def fX6_propose (σ : St) (x1 : Int) (x2 : Int) : Option (Int × St) := b1 (fX6_isSite x1) (fun v1 => if v1 = 0 then (fX6_propose_J13 σ x1 x2 1) else (fX6_propose_J13 σ x1 x2 0))
noncomputable def fX6_decide_J119 (n : Nat) (σ : St) (x1 : Int) (x2 : Int) (x3 : Int) (t0 : Int) (t1 : Int) : Option (Int × St) := b2 (fX6_makes σ t1 t0 x2 0 0 0 0) (fun v11 σ10 => some (v11, σ10))
noncomputable def fX6_decide_J92 (n : Nat) (σ : St) (x1 : Int) (x2 : Int) (x3 : Int) (t0 : Int) : Option (Int × St) := pf σ 230 0 t0 (fun σ9 => if σ9 230 0 ≤ 0 then (if x3 = 0 then (fX6_decide_J119 n σ9 x1 x2 x3 9 x1) else (fX6_decide_J119 n σ9 x1 x2 x3 8 x1)) else (some (0, σ9)))
noncomputable def fX6_decide_J79 (n : Nat) (σ : St) (x1 : Int) (x2 : Int) (x3 : Int) (t0 : Int) : Option (Int × St) := if t0 = 0 then (fX6_decide_J92 n σ x1 x2 x3 2) else (fX6_decide_J92 n σ x1 x2 x3 0)
noncomputable def fX6_decide_J78 (n : Nat) (σ : St) (x1 : Int) (x2 : Int) (x3 : Int) : Option (Int × St) := fX6_decide_J79 n σ x1 x2 x3 0
noncomputable def fX6_decide_J22 (n : Nat) (σ : St) (x1 : Int) (x2 : Int) (x3 : Int) (t0 : Int) : Option (Int × St) := pf σ 230 0 t0 (fun σ3 => if σ3 230 0 ≤ 0 then (b1 (fX6_findsSite n σ3 x1) (fun σ4 => b1 (fX6_isOpen σ4 x2) (fun v5 => if v5 = 0 then (fX6_decide_J78 n σ4 x1 x2 x3) else (b1 (fX6_elementOf σ4 x2) (fun v6 => b1 (fX6_blockOf n σ4 v6) (fun v7 => b1 (fX6_levelIn σ4 x1 v7) (fun v8 => if v8 ≠ 0 then (fX6_decide_J78 n σ4 x1 x2 x3) else (if 160 ≤ σ4 230 1 then (fX6_decide_J78 n σ4 x1 x2 x3) else (fX6_decide_J79 n σ4 x1 x2 x3 1))))))))) else (some (0, σ3)))
noncomputable def fX6_decide_J21 (n : Nat) (σ : St) (x1 : Int) (x2 : Int) (x3 : Int) : Option (Int × St) := fX6_decide_J22 n σ x1 x2 x3 1
noncomputable def fX6_decide (n : Nat) (σ : St) (x1 : Int) (x2 : Int) (x3 : Int) : Option (Int × St) := b1 (fX6_isSite x1) (fun v1 => if v1 = 0 then (fX6_decide_J21 n σ x1 x2 x3) else (b1 (fX6_hasAct σ x1 x2) (fun v2 => if v2 = 0 then (fX6_decide_J21 n σ x1 x2 x3) else (fX6_decide_J22 n σ x1 x2 x3 0))))
noncomputable def fX6_allow_J51 (n : Nat) (σ : St) (x1 : Int) (x2 : Int) (x3 : Int) (t0 : Int) : Option (Int × St) := pf σ 230 0 t0 (fun σ5 => if σ5 230 0 ≤ 0 then (b1 (fX6_blockNumber n σ5 x1) (fun v6 => b2 (fX6_makes σ5 0 10 x2 v6 x3 0 0) (fun v8 σ7 => some (v8, σ7)))) else (some (0, σ5)))
noncomputable def fX6_allow_J19 (n : Nat) (σ : St) (x1 : Int) (x2 : Int) (x3 : Int) : Option (Int × St) := fX6_allow_J51 n σ x1 x2 x3 1
noncomputable def fX6_allow (n : Nat) (σ : St) (x1 : Int) (x2 : Int) (x3 : Int) : Option (Int × St) := b2 (fX6_isBlock n σ 0 x1) (fun v2 σ1 => if v2 = 0 then (fX6_allow_J19 n σ1 x1 x2 x3) else (b1 (fX6_isIn x2 1 3) (fun v3 => if v3 ≠ 0 then (b1 (fX6_isIn x3 0 2) (fun v4 => if v4 ≠ 0 then (if σ1 230 1 ≠ 160 then (fX6_allow_J51 n σ1 x1 x2 x3 0) else (fX6_allow_J51 n σ1 x1 x2 x3 3)) else (fX6_allow_J51 n σ1 x1 x2 x3 2))) else (fX6_allow_J19 n σ1 x1 x2 x3))))
noncomputable def fX6_undo_J113 (n : Nat) (σ : St) (x1 : Int) (x2 : Int) (t0 : Int) : Option (Int × St) := pf σ 230 0 t0 (fun σ14 => if σ14 230 0 ≤ 0 then (b2 (fX6_makes σ14 x1 11 x2 0 0 0 0) (fun v16 σ15 => some (x2, σ15))) else (some (0, σ14)))
noncomputable def fX6_undo_J108 (n : Nat) (σ : St) (x1 : Int) (x2 : Int) : Option (Int × St) := fX6_undo_J113 n σ x1 x2 2
noncomputable def fX6_undo_L30s (n : Nat) (σ : St) (x1 : Int) (lp30 : (Int → Int → Option (Int × St))) : Int → Int → Option (Int × St) := fun x2 x3 => if σ 230 29 ≤ x3 then (if x2 = (-1) then (fX6_undo_J108 n σ x1 x2) else (if σ 230 1 ≠ 160 then (fX6_undo_J113 n σ x1 x2 0) else (fX6_undo_J108 n σ x1 x2))) else (rd σ 261 160 x3 (fun v6 => rd σ 233 160 v6 (fun v7 => if v7 ≠ x1 then (ck (x3 + 1) (fun v8 => lp30 x2 v8)) else (rd σ 235 160 v6 (fun v9 => if 7 < v9 then (ck (x3 + 1) (fun v10 => lp30 x2 v10)) else (rd σ 262 160 v6 (fun v11 => if v11 ≠ 0 then (ck (x3 + 1) (fun v12 => lp30 x2 v12)) else (ck (x3 + 1) (fun v13 => lp30 v6 v13)))))))))
noncomputable def fX6_undo_L30 (n : Nat) (σ : St) (x1 : Int) (k : Nat) : Int → Int → Option (Int × St) := lpR (fun _ _ => none) (fX6_undo_L30s n σ x1) k
noncomputable def fX6_undo (n : Nat) (σ : St) (x1 : Int) : Option (Int × St) := b1 (fX6_isSite x1) (fun v1 => if v1 ≠ 0 then (ck (160 * x1) (fun v2 => b1 (fX6_orders n σ 243 v2) (fun σ3 => fX6_undo_L30 n σ3 x1 n (-1) 0))) else (b2 (fX6_fails σ 1) (fun v5 σ4 => some (v5, σ4))))
noncomputable def fX6_redo_J97 (n : Nat) (lp33 : (Int → Int → Int → Option (Int × St))) (σ : St) (x1 : Int) (x2 : Int) (x3 : Int) (x4 : Int) (x5 : Int) : Option (Int × St) := rd σ 233 160 x5 (fun v17 => if v17 ≠ x1 then (ck (x4 + 1) (fun v18 => lp33 x2 x3 v18)) else (rd σ 235 160 x5 (fun v19 => if 7 < v19 then (ck (x4 + 1) (fun v20 => lp33 x2 x3 v20)) else (ck (x4 + 1) (fun v21 => lp33 x2 1 v21)))))
noncomputable def fX6_redo_J153 (n : Nat) (σ : St) (x1 : Int) (x2 : Int) (t0 : Int) : Option (Int × St) := pf σ 230 0 t0 (fun σ12 => if σ12 230 0 ≤ 0 then (rd σ12 236 160 x2 (fun v13 => b2 (fX6_makes σ12 x1 12 v13 0 0 0 0) (fun v15 σ14 => rd σ14 236 160 x2 (fun v16 => some (v16, σ14))))) else (some (0, σ12)))
noncomputable def fX6_redo_J148 (n : Nat) (σ : St) (x1 : Int) (x2 : Int) : Option (Int × St) := fX6_redo_J153 n σ x1 x2 2
noncomputable def fX6_redo_L33s (n : Nat) (σ : St) (x1 : Int) (lp33 : (Int → Int → Int → Option (Int × St))) : Int → Int → Int → Option (Int × St) := fun x2 x3 x4 => if σ 230 29 ≤ x4 then (if x2 = (-1) then (fX6_redo_J148 n σ x1 x2) else (if x3 ≠ 0 then (fX6_redo_J148 n σ x1 x2) else (if σ 230 1 ≠ 160 then (fX6_redo_J153 n σ x1 x2 0) else (fX6_redo_J148 n σ x1 x2)))) else (rd σ 261 160 x4 (fun v6 => rd σ 233 160 v6 (fun v7 => if v7 ≠ x1 then (fX6_redo_J97 n lp33 σ x1 x2 x3 x4 v6) else (rd σ 235 160 v6 (fun v8 => if v8 ≠ 11 then (fX6_redo_J97 n lp33 σ x1 x2 x3 x4 v6) else (rd σ 236 160 v6 (fun v9 => rd σ 262 160 v9 (fun v10 => if v10 = 0 then (fX6_redo_J97 n lp33 σ x1 x2 x3 x4 v6) else (ck (x4 + 1) (fun v11 => lp33 v6 0 v11))))))))))
noncomputable def fX6_redo_L33 (n : Nat) (σ : St) (x1 : Int) (k : Nat) : Int → Int → Int → Option (Int × St) := lpR (fun _ _ _ => none) (fX6_redo_L33s n σ x1) k
noncomputable def fX6_redo (n : Nat) (σ : St) (x1 : Int) : Option (Int × St) := b1 (fX6_isSite x1) (fun v1 => if v1 ≠ 0 then (ck (160 * x1) (fun v2 => b1 (fX6_orders n σ 243 v2) (fun σ3 => fX6_redo_L33 n σ3 x1 n (-1) 0 0))) else (b2 (fX6_fails σ 1) (fun v5 σ4 => some (v5, σ4))))
noncomputable def fX6_isSafe_L5s (n : Nat) (σ : St) (x1 : Int) (x2 : Int) (lp5 : (Int → Int → Option Int)) : Int → Int → Option Int := fun x3 x4 => rd σ 246 4 x1 (fun v1 => if v1 ≤ x4 then (rb x3 ( some x3)) else (if x3 ≠ 0 then (ck (x4 + 1) (fun v3 => lp5 1 v3)) else (ck (160 * x1) (fun v4 => ck (v4 + x4) (fun v5 => rd σ 244 640 v5 (fun v6 => if v6 ≠ x2 then (ck (x4 + 1) (fun v7 => lp5 0 v7)) else (ck (x4 + 1) (fun v8 => lp5 1 v8))))))))
noncomputable def fX6_isSafe_L5 (n : Nat) (σ : St) (x1 : Int) (x2 : Int) (k : Nat) : Int → Int → Option Int := lpR (fun _ _ => none) (fX6_isSafe_L5s n σ x1 x2) k
noncomputable def fX6_isSafe (n : Nat) (σ : St) (x1 : Int) (x2 : Int) : Option Int := fX6_isSafe_L5 n σ x1 x2 n 0 0
noncomputable def fX6_knowsOf (n : Nat) (σ : St) (x1 : Int) (x2 : Int) (x3 : Int) : Option Int := ck (640 * x1) (fun v1 => ck (160 * x2) (fun v2 => ck (v1 + v2) (fun v3 => ck (v3 + x3) (fun v4 => rd σ 251 2560 v4 (fun v5 => if v5 ≠ 0 then (some 1) else (if x2 ≠ x1 then (some 0) else (b1 (fX6_isSafe n σ x1 x3) (fun v6 => if v6 = 0 then (some 0) else (some 1)))))))))
noncomputable def fX6_send_L114s (n : Nat) (lp76 : (St → Int → Option (Int × St))) (x1 : Int) (x2 : Int) (x3 : Int) (lp114 : (St → Int → Option (Int × St))) : St → Int → Option (Int × St) := fun σ x4 => if 4 ≤ x4 then (ck (x3 + 1) (fun v15 => lp76 σ v15)) else (ck (640 * (σ 230 21)) (fun v16 => ck (160 * x4) (fun v17 => ck (v16 + v17) (fun v18 => ck (v18 + x3) (fun v19 => b1 (fX6_knowsOf n σ x1 x4 x3) (fun v20 => wrb σ 256 51200 v19 v20 (fun σ21 => ck (x4 + 1) (fun v22 => lp114 σ21 v22))))))))
noncomputable def fX6_send_L114 (n : Nat) (lp76 : (St → Int → Option (Int × St))) (x1 : Int) (x2 : Int) (x3 : Int) (k : Nat) : St → Int → Option (Int × St) := lpR (fun _ _ => none) (fX6_send_L114s n lp76 x1 x2 x3) k
noncomputable def fX6_send_L76s (n : Nat) (x1 : Int) (x2 : Int) (lp76 : (St → Int → Option (Int × St))) : St → Int → Option (Int × St) := fun σ x3 => if σ 230 1 ≤ x3 then (ck ((σ 230 21) + 1) (fun v6 => pf σ 230 21 v6 (fun σ7 => ck ((σ7 230 21) - 1) (fun v8 => some (v8, σ7))))) else (ck (160 * (σ 230 21)) (fun v9 => ck (v9 + x3) (fun v10 => ck (160 * x1) (fun v11 => ck (v11 + x3) (fun v12 => rd σ 243 640 v12 (fun v13 => wrb σ 255 12800 v10 v13 (fun σ14 => fX6_send_L114 n lp76 x1 x2 x3 n σ14 0)))))))
noncomputable def fX6_send_L76 (n : Nat) (x1 : Int) (x2 : Int) (k : Nat) : St → Int → Option (Int × St) := lpR (fun _ _ => none) (fX6_send_L76s n x1 x2) k
noncomputable def fX6_send_J42 (n : Nat) (σ : St) (x1 : Int) (x2 : Int) (t0 : Int) : Option (Int × St) := pf σ 230 0 t0 (fun σ3 => if σ3 230 0 ≤ 0 then (wr σ3 253 80 (σ3 230 21) x1 (fun σ4 => wr σ4 254 80 (σ4 230 21) x2 (fun σ5 => fX6_send_L76 n x1 x2 n σ5 0))) else (some (0, σ3)))
noncomputable def fX6_send_J15 (n : Nat) (σ : St) (x1 : Int) (x2 : Int) : Option (Int × St) := fX6_send_J42 n σ x1 x2 1
noncomputable def fX6_send (n : Nat) (σ : St) (x1 : Int) (x2 : Int) : Option (Int × St) := b1 (fX6_isSite x1) (fun v1 => if v1 = 0 then (fX6_send_J15 n σ x1 x2) else (b1 (fX6_isSite x2) (fun v2 => if v2 ≠ 0 then (if x1 ≠ x2 then (if σ 230 21 ≠ 80 then (fX6_send_J42 n σ x1 x2 0) else (fX6_send_J42 n σ x1 x2 3)) else (fX6_send_J42 n σ x1 x2 2)) else (fX6_send_J15 n σ x1 x2))))
noncomputable def fX6_deliver_J163 (n : Nat) (lp111 : (St → Int → Option (Int × St))) (σ : St) (x1 : Int) (x2 : Int) (x3 : Int) (x4 : Int) (t0 : Int) : Option (Int × St) := wrb σ 251 2560 t0 1 (fun σ26 => ck (x4 + 1) (fun v27 => lp111 σ26 v27))
noncomputable def fX6_deliver_L111s (n : Nat) (x1 : Int) (x2 : Int) (x3 : Int) (lp111 : (St → Int → Option (Int × St))) : St → Int → Option (Int × St) := fun σ x4 => if 640 ≤ x4 then (some (x3, σ)) else (ck (640 * x2) (fun v16 => ck (v16 + x4) (fun v17 => ck (640 * x2) (fun v18 => ck (v18 + x4) (fun v19 => rd σ 251 2560 v19 (fun v20 => if v20 ≠ 0 then (fX6_deliver_J163 n lp111 σ x1 x2 x3 x4 v17) else (ck (640 * x1) (fun v21 => ck (v21 + x4) (fun v22 => rd σ 256 51200 v22 (fun v23 => if v23 = 0 then (wrb σ 251 2560 v17 0 (fun σ24 => ck (x4 + 1) (fun v25 => lp111 σ24 v25))) else (fX6_deliver_J163 n lp111 σ x1 x2 x3 x4 v17)))))))))))
noncomputable def fX6_deliver_L111 (n : Nat) (x1 : Int) (x2 : Int) (x3 : Int) (k : Nat) : St → Int → Option (Int × St) := lpR (fun _ _ => none) (fX6_deliver_L111s n x1 x2 x3) k
noncomputable def fX6_deliver_L57s (n : Nat) (x1 : Int) (x2 : Int) (lp57 : (St → Int → Int → Option (Int × St))) : St → Int → Int → Option (Int × St) := fun σ x3 x4 => if σ 230 29 ≤ x4 then (fX6_deliver_L111 n x1 x2 x3 n σ 0) else (ck (160 * x2) (fun v7 => rd σ 261 160 x4 (fun v8 => ck (v7 + v8) (fun v9 => rd σ 243 640 v9 (fun v10 => if v10 ≠ 0 then (ck (x4 + 1) (fun v11 => lp57 σ x3 v11)) else (rd σ 261 160 x4 (fun v12 => b1 (fX6_gets σ x2 v12) (fun σ13 => ck (x3 + 1) (fun v14 => ck (x4 + 1) (fun v15 => lp57 σ13 v14 v15))))))))))
noncomputable def fX6_deliver_L57 (n : Nat) (x1 : Int) (x2 : Int) (k : Nat) : St → Int → Int → Option (Int × St) := lpR (fun _ _ _ => none) (fX6_deliver_L57s n x1 x2) k
noncomputable def fX6_deliver_J20 (n : Nat) (σ : St) (x1 : Int) (t0 : Int) : Option (Int × St) := pf σ 230 0 t0 (fun σ3 => if σ3 230 0 ≤ 0 then (rd σ3 254 80 x1 (fun v4 => ck (160 * x1) (fun v5 => b1 (fX6_orders n σ3 255 v5) (fun σ6 => fX6_deliver_L57 n x1 v4 n σ6 0 0)))) else (some (0, σ3)))
noncomputable def fX6_deliver (n : Nat) (σ : St) (x1 : Int) : Option (Int × St) := ck ((σ 230 21) - 1) (fun v1 => b1 (fX6_isIn x1 0 v1) (fun v2 => if v2 = 0 then (fX6_deliver_J20 n σ x1 1) else (fX6_deliver_J20 n σ x1 0)))
noncomputable def fX6_save (σ : St) (x1 : Int) : Option (Int × St) := b1 (fX6_isSite x1) (fun v1 => if v1 ≠ 0 then (pf σ 230 0 0 (fun σ2 => rd σ2 245 4 x1 (fun v3 => rd σ2 246 4 x1 (fun v4 => ck (v3 - v4) (fun v5 => rd σ2 245 4 x1 (fun v6 => wr σ2 246 4 x1 v6 (fun σ7 => some (v5, σ7)))))))) else (b2 (fX6_fails σ 1) (fun v9 σ8 => some (v9, σ8))))
noncomputable def fX6_crash_J126 (n : Nat) (lp52 : (St → Int → Option (Int × St))) (σ : St) (x1 : Int) (x2 : Int) (x3 : Int) (x4 : Int) (t0 : Int) (t1 : Int) : Option (Int × St) := wr σ 248 4 t1 t0 (fun σ20 => rd σ20 249 4 x1 (fun v21 => if v21 ≠ x4 then (rd σ20 249 4 x1 (fun v22 => wr σ20 249 4 x1 v22 (fun σ23 => ck (x3 + 1) (fun v24 => lp52 σ23 v24)))) else (wr σ20 249 4 x1 (-1) (fun σ25 => ck (x3 + 1) (fun v26 => lp52 σ25 v26)))))
noncomputable def fX6_crash_L52s (n : Nat) (x1 : Int) (x2 : Int) (lp52 : (St → Int → Option (Int × St))) : St → Int → Option (Int × St) := fun σ x3 => if x2 ≤ x3 then (rd σ 245 4 x1 (fun v7 => some (v7, σ))) else (rd σ 245 4 x1 (fun v8 => ck (v8 - 1) (fun v9 => wr σ 245 4 x1 v9 (fun σ10 => ck (160 * x1) (fun v11 => rd σ10 245 4 x1 (fun v12 => ck (v11 + v12) (fun v13 => rd σ10 244 640 v13 (fun v14 => ck (160 * x1) (fun v15 => ck (v15 + v14) (fun v16 => wrb σ10 243 640 v16 0 (fun σ17 => rd σ17 248 4 x1 (fun v18 => if v18 ≠ v14 then (rd σ17 248 4 x1 (fun v19 => fX6_crash_J126 n lp52 σ17 x1 x2 x3 v14 v19 x1)) else (fX6_crash_J126 n lp52 σ17 x1 x2 x3 v14 (-1) x1)))))))))))))
noncomputable def fX6_crash_L52 (n : Nat) (x1 : Int) (x2 : Int) (k : Nat) : St → Int → Option (Int × St) := lpR (fun _ _ => none) (fX6_crash_L52s n x1 x2) k
noncomputable def fX6_crash_J38 (n : Nat) (σ : St) (x1 : Int) (x2 : Int) (t0 : Int) : Option (Int × St) := pf σ 230 0 t0 (fun σ6 => if σ6 230 0 ≤ 0 then (fX6_crash_L52 n x1 x2 n σ6 0) else (some (0, σ6)))
noncomputable def fX6_crash (n : Nat) (σ : St) (x1 : Int) (x2 : Int) : Option (Int × St) := b1 (fX6_isSite x1) (fun v1 => if v1 ≠ 0 then (rd σ 245 4 x1 (fun v2 => rd σ 246 4 x1 (fun v3 => ck (v2 - v3) (fun v4 => b1 (fX6_isIn x2 0 v4) (fun v5 => if v5 = 0 then (fX6_crash_J38 n σ x1 x2 2) else (fX6_crash_J38 n σ x1 x2 0)))))) else (fX6_crash_J38 n σ x1 x2 1))
set_option maxRecDepth 100000 in
set_option maxHeartbeats 4000000 in
theorem ok_X6_type {l : Launch} {D : va_G} {cy : Nat → ClassId} {ad : Nat → Nat} {nm nv sz : Nat} {σ : St} {n : Nat} {x1 : Int} {x2 : Int} {r : Int} {σ2 : St} (hx1 : inR x1) (hx2 : inR x2) (hf : fX6_type n σ x1 x2 = some (r, σ2)) : CI l yX6_type cX6_type 3 (some .int) ({ frames := 8, cells := 0, slots := 0, locals := 180 } : Room) [.ref (ad 230), .int (i32 x1), .int (i32 x2)] D cy ad nm nv sz σ false r σ2 := by
  refine m_entry RX6 rfl (by decide +kernel) (Nat.le_of_ble_eq_true rfl) ?_
  intro p e s m args below meth c Q hQ hr hlocks X hW hS ls hl
  have hx := X.1
  have hb := X.2.1
  have hl : lv_has ls 3 [(0, .ref (ad 230)), (1, .int (i32 x1)), (2, .int (i32 x2))] := hl
  unfold fX6_type at hf
  have hc34 : ∀ (σ : St) (H : Heap) (locs : List Loc) (ls : Array Slot) (t0 : Int), inR t0 → fX6_type_J34 n σ x1 x2 t0 = some (r, σ2) → Wd D cy ad nm nv σ H → va_S (AW ad nm nv sz) s.heap H locs → lv_has ls 3 [(0, .ref (ad 230)), (1, .int (i32 x1)), (2, .int (i32 x2))] → W p l e ({ frames := 8, cells := 0, slots := 0, locals := 180 } : Room) s m args below meth c H locs 0 0 Q (F0 m 34 ls [.int (i32 t0), .ref (ad 230)]) := by
    intro σ H locs ls t0 ht0 hf hW hS hl
    unfold fX6_type_J34 at hf
    refine p_X6_thrown X hW hS ht0 hf (X.2.2.2.2.1 _ mw1046) dX6_type_34 (fun σ3 H locs hW3 hS3 hf => ?_)
    refine lv_aload_n hx hb dX6_type_37 rfl (lv_at hl 0 rfl) ?_
    refine g_X6_thrown X hW3 (X.2.2.2.2.1 _ mw1046) dX6_type_38 ?_
    refine m_if_le (tgt := 48) hx hb (hW3.2.1 _ _) hf dX6_type_41 (by decide) (fun hf => ?_) (fun hf => ?_)
    · skip
      refine lv_aload_n hx hb dX6_type_48 rfl (lv_at hl 0 rfl) ?_
      refine lv_iload_n hx hb dX6_type_49 rfl (lv_at hl 1 rfl) ?_
      refine m_const (v := 0) hx hb dX6_type_50 rfl ?_
      refine lv_iload_n hx hb dX6_type_51 rfl (lv_at hl 2 rfl) ?_
      refine m_callVi (z := false) (As := [.int (i32 x1), .int (i32 0), .int (i32 x2)]) (rest := []) X hW3 hS3 hl.1 gc_X6_218 hd_X6_writes ⟨rfl, rfl, Nat.le_of_ble_eq_true rfl, Nat.le_of_ble_eq_true rfl⟩ (rc_X6 X hW3) (fun v q9 q => ok_X6_writes hx1 (by decide) hx2 q) hf rfl rfl (Nat.le_of_ble_eq_true rfl) dX6_type_52 ⟨Nat.le_of_ble_eq_true rfl, Nat.le_of_ble_eq_true rfl⟩ (fun v5 σ4 H locs hv5 zv5 hW4 hS4 hf => ?_)
      exact m_ireti X hr hlocks rfl hv5 (fun h => Bool.noConfusion h) hW4 hS4 (congrArg Prod.fst (Option.some.inj hf)) (congrArg Prod.snd (Option.some.inj hf)) hQ dX6_type_55
    · skip
      refine m_const (v := 0) hx hb dX6_type_44 rfl ?_
      refine lv_goto (tgt := 55) hx hb dX6_type_45 (by decide) ?_
      exact m_ireti X hr hlocks rfl (by decide) (fun h => Bool.noConfusion h) hW3 hS3 (congrArg Prod.fst (Option.some.inj hf)) (congrArg Prod.snd (Option.some.inj hf)) hQ dX6_type_55
  have hc29 : ∀ (σ : St) (H : Heap) (locs : List Loc) (ls : Array Slot), fX6_type_J29 n σ x1 x2 = some (r, σ2) → Wd D cy ad nm nv σ H → va_S (AW ad nm nv sz) s.heap H locs → lv_has ls 3 [(0, .ref (ad 230)), (1, .int (i32 x1)), (2, .int (i32 x2))] → W p l e ({ frames := 8, cells := 0, slots := 0, locals := 180 } : Room) s m args below meth c H locs 0 0 Q (F0 m 29 ls [.ref (ad 230)]) := by
    intro σ H locs ls hf hW hS hl
    unfold fX6_type_J29 at hf
    refine m_const (v := 0) hx hb dX6_type_29 rfl ?_
    refine lv_goto (tgt := 34) hx hb dX6_type_30 (by decide) ?_
    exact hc34 _ _ _ _ 0 (by decide) hf hW hS (lv_sub hl [0, 1, 2] rfl)
  refine lv_aload_n hx hb dX6_type_0 rfl (lv_at hl 0 rfl) ?_
  refine lv_iload_n hx hb dX6_type_1 rfl (lv_at hl 1 rfl) ?_
  refine m_callSi1 (z := true) (As := [.int (i32 x1)]) (rest := [.ref (ad 230)]) X hW hS hl.1 gc_X6_215 hd_X6_isSite ⟨rfl, rfl, Nat.le_of_ble_eq_true rfl, Nat.le_of_ble_eq_true rfl⟩ (fun v q => ok_X6_isSite hx1 q) hf rfl rfl (Nat.le_of_ble_eq_true rfl) dX6_type_2 ⟨Nat.le_of_ble_eq_true rfl, Nat.le_of_ble_eq_true rfl⟩ (fun v1 H locs hv1 zv1 hWv1 hSv1 hf => ?_)
  refine m_if_ne (tgt := 12) hx hb hv1 hf dX6_type_5 (by decide) (fun hf => ?_) (fun hf => ?_)
  · skip
    refine lv_iload_n hx hb dX6_type_12 rfl (lv_at hl 2 rfl) ?_
    refine m_bipush (v := 97) hx hb dX6_type_13 (by decide) ?_
    refine m_bipush (v := 122) hx hb dX6_type_15 (by decide) ?_
    refine m_callSi1 (z := true) (As := [.int (i32 x2), .int (i32 97), .int (i32 122)]) (rest := [.ref (ad 230)]) X hWv1 hSv1 hl.1 gc_X6_130 hd_X6_isIn ⟨rfl, rfl, Nat.le_of_ble_eq_true rfl, Nat.le_of_ble_eq_true rfl⟩ (fun v q => ok_X6_isIn hx2 (by decide) (by decide) q) hf rfl rfl (Nat.le_of_ble_eq_true rfl) dX6_type_17 ⟨Nat.le_of_ble_eq_true rfl, Nat.le_of_ble_eq_true rfl⟩ (fun v2 H locs hv2 zv2 hWv2 hSv2 hf => ?_)
    refine m_if_ne (tgt := 29) hx hb hv2 hf dX6_type_20 (by decide) (fun hf => ?_) (fun hf => ?_)
    · skip
      exact hc29 _ _ _ _  hf hWv2 hSv2 (lv_sub hl [0, 1, 2] rfl)
    · skip
      refine lv_iload_n hx hb dX6_type_23 rfl (lv_at hl 2 rfl) ?_
      refine m_bipush (v := 32) hx hb dX6_type_24 (by decide) ?_
      refine m_icmp_ne (tgt := 33) hx hb hx2 (by decide) hf dX6_type_26 (by decide) (fun hf => ?_) (fun hf => ?_)
      · skip
        refine m_const (v := 2) hx hb dX6_type_33 rfl ?_
        exact hc34 _ _ _ _ 2 (by decide) hf hWv2 hSv2 (lv_sub hl [0, 1, 2] rfl)
      · skip
        exact hc29 _ _ _ _  hf hWv2 hSv2 (lv_sub hl [0, 1, 2] rfl)
  · skip
    refine m_const (v := 1) hx hb dX6_type_8 rfl ?_
    refine lv_goto (tgt := 34) hx hb dX6_type_9 (by decide) ?_
    exact hc34 _ _ _ _ 1 (by decide) hf hWv1 hSv1 (lv_sub hl [0, 1, 2] rfl)
set_option maxRecDepth 100000 in
set_option maxHeartbeats 4000000 in
theorem ok_X6_split {l : Launch} {D : va_G} {cy : Nat → ClassId} {ad : Nat → Nat} {nm nv sz : Nat} {σ : St} {n : Nat} {x1 : Int} {r : Int} {σ2 : St} (hx1 : inR x1) (hf : fX6_split n σ x1 = some (r, σ2)) : CI l yX6_split cX6_split 2 (some .int) ({ frames := 8, cells := 0, slots := 0, locals := 180 } : Room) [.ref (ad 230), .int (i32 x1)] D cy ad nm nv sz σ false r σ2 := by
  refine m_entry RX6 rfl (by decide +kernel) (Nat.le_of_ble_eq_true rfl) ?_
  intro p e s m args below meth c Q hQ hr hlocks X hW hS ls hl
  have hx := X.1
  have hb := X.2.1
  have hl : lv_has ls 2 [(0, .ref (ad 230)), (1, .int (i32 x1))] := hl
  unfold fX6_split at hf
  refine lv_iload_n hx hb dX6_split_0 rfl (lv_at hl 1 rfl) ?_
  refine m_callSi1 (z := true) (As := [.int (i32 x1)]) (rest := []) X hW hS hl.1 gc_X6_215 hd_X6_isSite ⟨rfl, rfl, Nat.le_of_ble_eq_true rfl, Nat.le_of_ble_eq_true rfl⟩ (fun v q => ok_X6_isSite hx1 q) hf rfl rfl (Nat.le_of_ble_eq_true rfl) dX6_split_1 ⟨Nat.le_of_ble_eq_true rfl, Nat.le_of_ble_eq_true rfl⟩ (fun v1 H locs hv1 zv1 hWv1 hSv1 hf => ?_)
  refine m_if_eq (tgt := 18) hx hb hv1 hf dX6_split_4 (by decide) (fun hf => ?_) (fun hf => ?_)
  · skip
    refine lv_aload_n hx hb dX6_split_18 rfl (lv_at hl 0 rfl) ?_
    refine m_const (v := 1) hx hb dX6_split_19 rfl ?_
    refine m_callVi (z := false) (As := [.int (i32 1)]) (rest := []) X hWv1 hSv1 hl.1 gc_X6_222 hd_X6_fails ⟨rfl, rfl, Nat.le_of_ble_eq_true rfl, Nat.le_of_ble_eq_true rfl⟩ (rc_X6 X hWv1) (fun v q9 q => ok_X6_fails (by decide) q) hf rfl rfl (Nat.le_of_ble_eq_true rfl) dX6_split_20 ⟨Nat.le_of_ble_eq_true rfl, Nat.le_of_ble_eq_true rfl⟩ (fun v3 σ2 H locs hv3 zv3 hW2 hS2 hf => ?_)
    exact m_ireti X hr hlocks rfl hv3 (fun h => Bool.noConfusion h) hW2 hS2 (congrArg Prod.fst (Option.some.inj hf)) (congrArg Prod.snd (Option.some.inj hf)) hQ dX6_split_23
  · skip
    refine lv_aload_n hx hb dX6_split_7 rfl (lv_at hl 0 rfl) ?_
    refine lv_iload_n hx hb dX6_split_8 rfl (lv_at hl 1 rfl) ?_
    refine m_const (v := 1) hx hb dX6_split_9 rfl ?_
    refine m_bipush (v := 47) hx hb dX6_split_10 (by decide) ?_
    refine m_callVi (z := false) (As := [.int (i32 x1), .int (i32 1), .int (i32 47)]) (rest := []) X hWv1 hSv1 hl.1 gc_X6_218 hd_X6_writes ⟨rfl, rfl, Nat.le_of_ble_eq_true rfl, Nat.le_of_ble_eq_true rfl⟩ (rc_X6 X hWv1) (fun v q9 q => ok_X6_writes hx1 (by decide) (by decide) q) hf rfl rfl (Nat.le_of_ble_eq_true rfl) dX6_split_12 ⟨Nat.le_of_ble_eq_true rfl, Nat.le_of_ble_eq_true rfl⟩ (fun v5 σ4 H locs hv5 zv5 hW4 hS4 hf => ?_)
    refine lv_goto (tgt := 23) hx hb dX6_split_15 (by decide) ?_
    exact m_ireti X hr hlocks rfl hv5 (fun h => Bool.noConfusion h) hW4 hS4 (congrArg Prod.fst (Option.some.inj hf)) (congrArg Prod.snd (Option.some.inj hf)) hQ dX6_split_23
set_option maxRecDepth 100000 in
set_option maxHeartbeats 4000000 in
theorem ok_X6_lower {l : Launch} {D : va_G} {cy : Nat → ClassId} {ad : Nat → Nat} {nm nv sz : Nat} {σ : St} {n : Nat} {x1 : Int} {r : Int} (hx1 : inR x1) (hf : fX6_lower n σ x1 = some r) : CI l yX6_lower cX6_lower 4 (some .int) ({ frames := 2, cells := 0, slots := 0, locals := 46 } : Room) [.ref (ad 230), .int (i32 x1)] D cy ad nm nv sz σ false r σ := by
  refine m_entry RX6 rfl (by decide +kernel) (Nat.le_of_ble_eq_true rfl) ?_
  intro p e s m args below meth c Q hQ hr hlocks X hW hS ls hl
  have hx := X.1
  have hb := X.2.1
  have hl : lv_has ls 4 [(0, .ref (ad 230)), (1, .int (i32 x1))] := hl
  unfold fX6_lower at hf
  refine lv_aload_n hx hb dX6_lower_0 rfl (lv_at hl 0 rfl) ?_
  refine lv_aload_n hx hb dX6_lower_1 rfl (lv_at hl 0 rfl) ?_
  refine g_X6_cursors X hW (X.2.2.2.2.1 _ mw1063) dX6_lower_2 ?_
  refine lv_iload_n hx hb dX6_lower_5 rfl (lv_at hl 1 rfl) ?_
  refine m_iald X hW a_X6_cursors hx1 hf dX6_lower_6 (fun v1 hv1 hf => ?_)
  refine m_callVi1 (z := false) (As := [.int (i32 v1)]) (rest := []) X hW hS hl.1 gc_X6_225 hd_X6_placeOf ⟨rfl, rfl, Nat.le_of_ble_eq_true rfl, Nat.le_of_ble_eq_true rfl⟩ (rc_X6 X hW) (fun v q => ok_X6_placeOf hv1 q) hf rfl rfl (Nat.le_of_ble_eq_true rfl) dX6_lower_7 ⟨Nat.le_of_ble_eq_true rfl, Nat.le_of_ble_eq_true rfl⟩ (fun v2 H locs hv2 zv2 hWv2 hSv2 hf => ?_)
  refine lv_istore_n (lv' := [(2, .int (i32 v2)), (0, .ref (ad 230)), (1, .int (i32 x1))]) hx hb dX6_lower_10 rfl hl (by decide) rfl (fun ls hl => ?_)
  refine lv_aload_n hx hb dX6_lower_11 rfl (lv_at hl 1 rfl) ?_
  refine lv_aload_n hx hb dX6_lower_12 rfl (lv_at hl 1 rfl) ?_
  refine g_X6_tails X hWv2 (X.2.2.2.2.1 _ mw1064) dX6_lower_13 ?_
  refine lv_iload_n hx hb dX6_lower_16 rfl (lv_at hl 2 rfl) ?_
  refine m_iald X hWv2 a_X6_tails hx1 hf dX6_lower_17 (fun v3 hv3 hf => ?_)
  refine m_callVi1 (z := false) (As := [.int (i32 v3)]) (rest := []) X hWv2 hSv2 hl.1 gc_X6_225 hd_X6_placeOf ⟨rfl, rfl, Nat.le_of_ble_eq_true rfl, Nat.le_of_ble_eq_true rfl⟩ (rc_X6 X hWv2) (fun v q => ok_X6_placeOf hv3 q) hf rfl rfl (Nat.le_of_ble_eq_true rfl) dX6_lower_18 ⟨Nat.le_of_ble_eq_true rfl, Nat.le_of_ble_eq_true rfl⟩ (fun v4 H locs hv4 zv4 hWv4 hSv4 hf => ?_)
  refine lv_istore_n (lv' := [(3, .int (i32 v4)), (2, .int (i32 v2)), (0, .ref (ad 230)), (1, .int (i32 x1))]) hx hb dX6_lower_21 rfl hl (by decide) rfl (fun ls hl => ?_)
  refine lv_iload_n hx hb dX6_lower_22 rfl (lv_at hl 1 rfl) ?_
  refine lv_iload_n hx hb dX6_lower_23 rfl (lv_at hl 0 rfl) ?_
  refine m_icmp_ge (tgt := 31) hx hb hv2 hv4 hf dX6_lower_24 (by decide) (fun hf => ?_) (fun hf => ?_)
  · skip
    refine lv_iload_n hx hb dX6_lower_31 rfl (lv_at hl 0 rfl) ?_
    exact m_ireti X hr hlocks rfl hv4 (fun h => Bool.noConfusion h) hWv4 hSv4 (Option.some.inj hf) rfl hQ dX6_lower_32
  · skip
    refine lv_iload_n hx hb dX6_lower_27 rfl (lv_at hl 1 rfl) ?_
    refine lv_goto (tgt := 32) hx hb dX6_lower_28 (by decide) ?_
    exact m_ireti X hr hlocks rfl hv2 (fun h => Bool.noConfusion h) hWv4 hSv4 (Option.some.inj hf) rfl hQ dX6_lower_32
set_option maxRecDepth 100000 in
set_option maxHeartbeats 4000000 in
theorem ok_X6_selected {l : Launch} {D : va_G} {cy : Nat → ClassId} {ad : Nat → Nat} {nm nv sz : Nat} {σ : St} {n : Nat} {x1 : Int} {r : Int} (hx1 : inR x1) (hf : fX6_selected n σ x1 = some r) : CI l yX6_selected cX6_selected 3 (some .int) ({ frames := 2, cells := 0, slots := 0, locals := 46 } : Room) [.ref (ad 230), .int (i32 x1)] D cy ad nm nv sz σ false r σ := by
  refine m_entry RX6 rfl (by decide +kernel) (Nat.le_of_ble_eq_true rfl) ?_
  intro p e s m args below meth c Q hQ hr hlocks X hW hS ls hl
  have hx := X.1
  have hb := X.2.1
  have hl : lv_has ls 3 [(0, .ref (ad 230)), (1, .int (i32 x1))] := hl
  unfold fX6_selected at hf
  refine lv_aload_n hx hb dX6_selected_0 rfl (lv_at hl 0 rfl) ?_
  refine lv_aload_n hx hb dX6_selected_1 rfl (lv_at hl 0 rfl) ?_
  refine g_X6_cursors X hW (X.2.2.2.2.1 _ mw1063) dX6_selected_2 ?_
  refine lv_iload_n hx hb dX6_selected_5 rfl (lv_at hl 1 rfl) ?_
  refine m_iald X hW a_X6_cursors hx1 hf dX6_selected_6 (fun v1 hv1 hf => ?_)
  refine m_callVi1 (z := false) (As := [.int (i32 v1)]) (rest := []) X hW hS hl.1 gc_X6_225 hd_X6_placeOf ⟨rfl, rfl, Nat.le_of_ble_eq_true rfl, Nat.le_of_ble_eq_true rfl⟩ (rc_X6 X hW) (fun v q => ok_X6_placeOf hv1 q) hf rfl rfl (Nat.le_of_ble_eq_true rfl) dX6_selected_7 ⟨Nat.le_of_ble_eq_true rfl, Nat.le_of_ble_eq_true rfl⟩ (fun v2 H locs hv2 zv2 hWv2 hSv2 hf => ?_)
  refine lv_aload_n hx hb dX6_selected_10 rfl (lv_at hl 0 rfl) ?_
  refine lv_aload_n hx hb dX6_selected_11 rfl (lv_at hl 0 rfl) ?_
  refine g_X6_tails X hWv2 (X.2.2.2.2.1 _ mw1064) dX6_selected_12 ?_
  refine lv_iload_n hx hb dX6_selected_15 rfl (lv_at hl 1 rfl) ?_
  refine m_iald X hWv2 a_X6_tails hx1 hf dX6_selected_16 (fun v3 hv3 hf => ?_)
  refine m_callVi1 (z := false) (As := [.int (i32 v3)]) (rest := [.int (i32 v2)]) X hWv2 hSv2 hl.1 gc_X6_225 hd_X6_placeOf ⟨rfl, rfl, Nat.le_of_ble_eq_true rfl, Nat.le_of_ble_eq_true rfl⟩ (rc_X6 X hWv2) (fun v q => ok_X6_placeOf hv3 q) hf rfl rfl (Nat.le_of_ble_eq_true rfl) dX6_selected_17 ⟨Nat.le_of_ble_eq_true rfl, Nat.le_of_ble_eq_true rfl⟩ (fun v4 H locs hv4 zv4 hWv4 hSv4 hf => ?_)
  refine m_isub hx hb hf dX6_selected_20 (fun v5 hv5 hf => ?_)
  refine lv_istore_n (lv' := [(2, .int (i32 v5)), (0, .ref (ad 230)), (1, .int (i32 x1))]) hx hb dX6_selected_21 rfl hl (by decide) rfl (fun ls hl => ?_)
  refine lv_iload_n hx hb dX6_selected_22 rfl (lv_at hl 0 rfl) ?_
  refine m_if_ge (tgt := 31) hx hb hv5 hf dX6_selected_23 (by decide) (fun hf => ?_) (fun hf => ?_)
  · skip
    refine lv_iload_n hx hb dX6_selected_31 rfl (lv_at hl 0 rfl) ?_
    exact m_ireti X hr hlocks rfl hv5 (fun h => Bool.noConfusion h) hWv4 hSv4 (Option.some.inj hf) rfl hQ dX6_selected_32
  · skip
    refine lv_iload_n hx hb dX6_selected_26 rfl (lv_at hl 0 rfl) ?_
    refine m_ineg hx hb hf dX6_selected_27 (fun v6 hv6 hf => ?_)
    refine lv_goto (tgt := 32) hx hb dX6_selected_28 (by decide) ?_
    exact m_ireti X hr hlocks rfl hv6 (fun h => Bool.noConfusion h) hWv4 hSv4 (Option.some.inj hf) rfl hQ dX6_selected_32
set_option maxRecDepth 100000 in
set_option maxHeartbeats 4000000 in
theorem ok_X6_erase {l : Launch} {D : va_G} {cy : Nat → ClassId} {ad : Nat → Nat} {nm nv sz : Nat} {σ : St} {n : Nat} {x1 : Int} {r : Int} {σ2 : St} (hx1 : inR x1) (hf : fX6_erase n σ x1 = some (r, σ2)) : CI l yX6_erase cX6_erase 7 (some .int) ({ frames := 7, cells := 0, slots := 0, locals := 156 } : Room) [.ref (ad 230), .int (i32 x1)] D cy ad nm nv sz σ false r σ2 := by
  refine m_entry RX6 rfl (by decide +kernel) (Nat.le_of_ble_eq_true rfl) ?_
  intro p e s m args below meth c Q hQ hr hlocks X hW hS ls hl
  have hx := X.1
  have hb := X.2.1
  have hl : lv_has ls 7 [(0, .ref (ad 230)), (1, .int (i32 x1))] := hl
  unfold fX6_erase at hf
  have hc224 : ∀ (σ : St) (H : Heap) (locs : List Loc) (ls : Array Slot) (x4 : Int) (t0 : Int) (t1 : Int), inR x4 → inR t0 → inR t1 → fX6_erase_J224 n σ x1 x4 t0 t1 = some (r, σ2) → Wd D cy ad nm nv σ H → va_S (AW ad nm nv sz) s.heap H locs → lv_has ls 7 [(0, .ref (ad 230)), (1, .int (i32 x1)), (4, .int (i32 x4))] → W p l e ({ frames := 7, cells := 0, slots := 0, locals := 156 } : Room) s m args below meth c H locs 0 0 Q (F0 m 224 ls [.int (i32 t0), .int (i32 t1), .ref (ad 248)]) := by
    intro σ H locs ls x4 t0 t1 hx4 ht0 ht1 hf hW hS hl
    unfold fX6_erase_J224 at hf
    refine m_iast X hW hS a_X6_cursors ht1 ht0 hf dX6_erase_224 (fun σ27 H locs hW27 hS27 hf => ?_)
    refine lv_aload_n hx hb dX6_erase_225 rfl (lv_at hl 0 rfl) ?_
    refine g_X6_tails X hW27 (X.2.2.2.2.1 _ mw1064) dX6_erase_226 ?_
    refine lv_iload_n hx hb dX6_erase_229 rfl (lv_at hl 1 rfl) ?_
    refine lv_aload_n hx hb dX6_erase_230 rfl (lv_at hl 0 rfl) ?_
    refine g_X6_cursors X hW27 (X.2.2.2.2.1 _ mw1063) dX6_erase_231 ?_
    refine lv_iload_n hx hb dX6_erase_234 rfl (lv_at hl 1 rfl) ?_
    refine m_iald X hW27 a_X6_cursors hx1 hf dX6_erase_235 (fun v28 hv28 hf => ?_)
    refine m_iast X hW27 hS27 a_X6_tails hx1 hv28 hf dX6_erase_236 (fun σ29 H locs hW29 hS29 hf => ?_)
    refine lv_iload hx hb dX6_erase_237 (lv_at hl 2 rfl) ?_
    exact m_ireti X hr hlocks rfl hx4 (fun h => Bool.noConfusion h) hW29 hS29 (congrArg Prod.fst (Option.some.inj hf)) (congrArg Prod.snd (Option.some.inj hf)) hQ dX6_erase_239
  have hc159 : ∀ (k159 : Nat) (σ : St) (H : Heap) (locs : List Loc) (ls : Array Slot) (x2 : Int) (x4 : Int) (x5 : Int) (x6 : Int), inR x2 → inR x4 → inR x5 → inR x6 → fX6_erase_L159 n x1 x2 x4 x5 k159 σ x6 = some (r, σ2) → Wd D cy ad nm nv σ H → va_S (AW ad nm nv sz) s.heap H locs → lv_has ls 7 [(0, .ref (ad 230)), (1, .int (i32 x1)), (2, .int (i32 x2)), (4, .int (i32 x4)), (5, .int (i32 x5)), (6, .int (i32 x6))] → W p l e ({ frames := 7, cells := 0, slots := 0, locals := 156 } : Room) s m args below meth c H locs 0 0 Q (F0 m 159 ls []) := by
    intro k159
    induction k159 with
    | zero =>
      intro σ H locs ls x2 x4 x5 x6 hx2 hx4 hx5 hx6 hf
      have hf : (none : Option (Int × St)) = some (r, σ2) := hf
      cases hf
    | succ k159 ih159 =>
      intro σ H locs ls x2 x4 x5 x6 hx2 hx4 hx5 hx6 hf hW hS hl
      have hf : fX6_erase_L159s n x1 x2 x4 x5 (fX6_erase_L159 n x1 x2 x4 x5 k159) σ x6 = some (r, σ2) := hf
      unfold fX6_erase_L159s at hf
      refine lv_iload hx hb dX6_erase_159 (lv_at hl 5 rfl) ?_
      refine lv_iload hx hb dX6_erase_161 (lv_at hl 3 rfl) ?_
      refine m_icmp_ge (tgt := 195) hx hb hx6 hx4 hf dX6_erase_163 (by decide) (fun hf => ?_) (fun hf => ?_)
      · skip
        refine lv_iload_n hx hb dX6_erase_195 rfl (lv_at hl 2 rfl) ?_
        refine m_if_le (tgt := 237) hx hb hx2 hf dX6_erase_196 (by decide) (fun hf => ?_) (fun hf => ?_)
        · skip
          refine lv_iload hx hb dX6_erase_237 (lv_at hl 3 rfl) ?_
          exact m_ireti X hr hlocks rfl hx4 (fun h => Bool.noConfusion h) hW hS (congrArg Prod.fst (Option.some.inj hf)) (congrArg Prod.snd (Option.some.inj hf)) hQ dX6_erase_239
        · skip
          refine lv_aload_n hx hb dX6_erase_199 rfl (lv_at hl 0 rfl) ?_
          refine g_X6_cursors X hW (X.2.2.2.2.1 _ mw1063) dX6_erase_200 ?_
          refine lv_iload_n hx hb dX6_erase_203 rfl (lv_at hl 1 rfl) ?_
          refine lv_iload hx hb dX6_erase_204 (lv_at hl 4 rfl) ?_
          refine m_if_eq (tgt := 218) hx hb hx5 hf dX6_erase_206 (by decide) (fun hf => ?_) (fun hf => ?_)
          · skip
            refine lv_aload_n hx hb dX6_erase_218 rfl (lv_at hl 0 rfl) ?_
            refine g_X6_cursors X hW (X.2.2.2.2.1 _ mw1063) dX6_erase_219 ?_
            refine lv_iload_n hx hb dX6_erase_222 rfl (lv_at hl 1 rfl) ?_
            refine m_iald X hW a_X6_cursors hx1 hf dX6_erase_223 (fun v20 hv20 hf => ?_)
            exact hc224 _ _ _ _ x4 v20 x1 hx4 hv20 hx1 hf hW hS (lv_sub hl [0, 1, 3] rfl)
          · skip
            refine lv_aload_n hx hb dX6_erase_209 rfl (lv_at hl 0 rfl) ?_
            refine g_X6_tails X hW (X.2.2.2.2.1 _ mw1064) dX6_erase_210 ?_
            refine lv_iload_n hx hb dX6_erase_213 rfl (lv_at hl 1 rfl) ?_
            refine m_iald X hW a_X6_tails hx1 hf dX6_erase_214 (fun v21 hv21 hf => ?_)
            refine lv_goto (tgt := 224) hx hb dX6_erase_215 (by decide) ?_
            exact hc224 _ _ _ _ x4 v21 x1 hx4 hv21 hx1 hf hW hS (lv_sub hl [0, 1, 3] rfl)
      · skip
        refine lv_aload_n hx hb dX6_erase_166 rfl (lv_at hl 0 rfl) ?_
        refine lv_iload_n hx hb dX6_erase_167 rfl (lv_at hl 1 rfl) ?_
        refine m_const (v := 2) hx hb dX6_erase_168 rfl ?_
        refine lv_aload_n hx hb dX6_erase_169 rfl (lv_at hl 0 rfl) ?_
        refine g_X6_erased X hW (X.2.2.2.2.1 _ mw1089) dX6_erase_170 ?_
        refine lv_iload hx hb dX6_erase_173 (lv_at hl 5 rfl) ?_
        refine m_iald X hW a_X6_erased hx6 hf dX6_erase_175 (fun v22 hv22 hf => ?_)
        refine m_const (v := 0) hx hb dX6_erase_176 rfl ?_
        refine m_const (v := 0) hx hb dX6_erase_177 rfl ?_
        refine m_const (v := 0) hx hb dX6_erase_178 rfl ?_
        refine lv_aload_n hx hb dX6_erase_179 rfl (lv_at hl 0 rfl) ?_
        refine g_X6_propose X hW (X.2.2.2.2.1 _ mw1065) dX6_erase_180 ?_
        refine lv_iload_n hx hb dX6_erase_183 rfl (lv_at hl 1 rfl) ?_
        refine m_zald X hW a_X6_propose hx1 hf dX6_erase_184 (fun v23 hv23 hf => ?_)
        refine m_callVi (z := false) (As := [.int (i32 x1), .int (i32 2), .int (i32 v22), .int (i32 0), .int (i32 0), .int (i32 0), .int (i32 v23)]) (rest := []) X hW hS hl.1 gc_X6_211 hd_X6_makes ⟨rfl, rfl, Nat.le_of_ble_eq_true rfl, Nat.le_of_ble_eq_true rfl⟩ (rc_X6 X hW) (fun v q9 q => ok_X6_makes hx1 (by decide) hv22 (by decide) (by decide) (by decide) hv23 q) hf rfl rfl (Nat.le_of_ble_eq_true rfl) dX6_erase_185 ⟨Nat.le_of_ble_eq_true rfl, Nat.le_of_ble_eq_true rfl⟩ (fun v25 σ24 H locs hv25 zv25 hW24 hS24 hf => ?_)
        refine lv_pop hx hb dX6_erase_188 rfl ?_
        refine m_iinc (k0 := 5) (fun v26 => [(6, .int (i32 v26)), (0, .ref (ad 230)), (1, .int (i32 x1)), (2, .int (i32 x2)), (4, .int (i32 x4)), (5, .int (i32 x5))]) hx hb hf dX6_erase_189 hl rfl (by decide) (fun _ => rfl) (fun v26 ls hv26 hf hl => ?_)
        have hl : lv_has ls 7 [(6, .int (i32 v26)), (0, .ref (ad 230)), (1, .int (i32 x1)), (2, .int (i32 x2)), (4, .int (i32 x4)), (5, .int (i32 x5))] := hl
        refine lv_goto (tgt := 159) hx hb dX6_erase_192 (by decide) ?_
        exact ih159 _ _ _ _ x2 x4 x5 v26 hx2 hx4 hx5 hv26 hf hW24 hS24 (lv_sub hl [1, 2, 3, 4, 5, 0] rfl)
  have hc128 : ∀ (k128 : Nat) (σ : St) (H : Heap) (locs : List Loc) (ls : Array Slot) (x2 : Int) (x3 : Int) (x4 : Int) (x5 : Int) (x6 : Int), inR x2 → inR x3 → inR x4 → inR x5 → inR x6 → fX6_erase_L128 n x1 x2 x3 x4 x5 k128 σ x6 = some (r, σ2) → Wd D cy ad nm nv σ H → va_S (AW ad nm nv sz) s.heap H locs → lv_has ls 7 [(0, .ref (ad 230)), (1, .int (i32 x1)), (2, .int (i32 x2)), (3, .int (i32 x3)), (4, .int (i32 x4)), (5, .int (i32 x5)), (6, .int (i32 x6))] → W p l e ({ frames := 7, cells := 0, slots := 0, locals := 156 } : Room) s m args below meth c H locs 0 0 Q (F0 m 128 ls []) := by
    intro k128
    induction k128 with
    | zero =>
      intro σ H locs ls x2 x3 x4 x5 x6 hx2 hx3 hx4 hx5 hx6 hf
      have hf : (none : Option (Int × St)) = some (r, σ2) := hf
      cases hf
    | succ k128 ih128 =>
      intro σ H locs ls x2 x3 x4 x5 x6 hx2 hx3 hx4 hx5 hx6 hf hW hS hl
      have hf : fX6_erase_L128s n x1 x2 x3 x4 x5 (fX6_erase_L128 n x1 x2 x3 x4 x5 k128) σ x6 = some (r, σ2) := hf
      unfold fX6_erase_L128s at hf
      refine lv_iload hx hb dX6_erase_128 (lv_at hl 6 rfl) ?_
      refine lv_iload hx hb dX6_erase_130 (lv_at hl 4 rfl) ?_
      refine m_icmp_ge (tgt := 156) hx hb hx6 hx4 hf dX6_erase_132 (by decide) (fun hf => ?_) (fun hf => ?_)
      · skip
        refine m_const (v := 0) hx hb dX6_erase_156 rfl ?_
        refine lv_istore (lv' := [(6, .int (i32 0)), (0, .ref (ad 230)), (1, .int (i32 x1)), (2, .int (i32 x2)), (3, .int (i32 x3)), (4, .int (i32 x4)), (5, .int (i32 x5))]) hx hb dX6_erase_157 hl (by decide) rfl (fun ls hl => ?_)
        exact hc159 n _ _ _ _ x2 x4 x5 0 hx2 hx4 hx5 (by decide) hf hW hS (lv_sub hl [1, 2, 3, 5, 6, 0] rfl)
      · skip
        refine lv_aload_n hx hb dX6_erase_135 rfl (lv_at hl 0 rfl) ?_
        refine g_X6_erased X hW (X.2.2.2.2.1 _ mw1089) dX6_erase_136 ?_
        refine lv_iload hx hb dX6_erase_139 (lv_at hl 6 rfl) ?_
        refine lv_aload_n hx hb dX6_erase_141 rfl (lv_at hl 0 rfl) ?_
        refine lv_iload_n hx hb dX6_erase_142 rfl (lv_at hl 3 rfl) ?_
        refine lv_iload hx hb dX6_erase_143 (lv_at hl 6 rfl) ?_
        refine m_iadd hx hb hf dX6_erase_145 (fun v16 hv16 hf => ?_)
        refine m_callVi1 (z := false) (As := [.int (i32 v16)]) (rest := [.int (i32 x6), .ref (ad 274)]) X hW hS hl.1 gc_X6_234 hd_X6_seenAt ⟨rfl, rfl, Nat.le_of_ble_eq_true rfl, Nat.le_of_ble_eq_true rfl⟩ (rc_X6 X hW) (fun v q => ok_X6_seenAt hv16 q) hf rfl rfl (Nat.le_of_ble_eq_true rfl) dX6_erase_146 ⟨Nat.le_of_ble_eq_true rfl, Nat.le_of_ble_eq_true rfl⟩ (fun v17 H locs hv17 zv17 hWv17 hSv17 hf => ?_)
        refine m_iast X hWv17 hSv17 a_X6_erased hx6 hv17 hf dX6_erase_149 (fun σ18 H locs hW18 hS18 hf => ?_)
        refine m_iinc (k0 := 6) (fun v19 => [(6, .int (i32 v19)), (0, .ref (ad 230)), (1, .int (i32 x1)), (2, .int (i32 x2)), (3, .int (i32 x3)), (4, .int (i32 x4)), (5, .int (i32 x5))]) hx hb hf dX6_erase_150 hl rfl (by decide) (fun _ => rfl) (fun v19 ls hv19 hf hl => ?_)
        have hl : lv_has ls 7 [(6, .int (i32 v19)), (0, .ref (ad 230)), (1, .int (i32 x1)), (2, .int (i32 x2)), (3, .int (i32 x3)), (4, .int (i32 x4)), (5, .int (i32 x5))] := hl
        refine lv_goto (tgt := 128) hx hb dX6_erase_153 (by decide) ?_
        exact ih128 _ _ _ _ x2 x3 x4 x5 v19 hx2 hx3 hx4 hx5 hv19 hf hW18 hS18 (lv_sub hl [1, 2, 3, 4, 5, 6, 0] rfl)
  have hc83 : ∀ (σ : St) (H : Heap) (locs : List Loc) (ls : Array Slot) (x2 : Int) (x3 : Int) (x4 : Int) (t0 : Int), inR x2 → inR x3 → inR x4 → inR t0 → fX6_erase_J83 n σ x1 x2 x3 x4 t0 = some (r, σ2) → Wd D cy ad nm nv σ H → va_S (AW ad nm nv sz) s.heap H locs → lv_has ls 7 [(0, .ref (ad 230)), (1, .int (i32 x1)), (2, .int (i32 x2)), (3, .int (i32 x3)), (4, .int (i32 x4))] → W p l e ({ frames := 7, cells := 0, slots := 0, locals := 156 } : Room) s m args below meth c H locs 0 0 Q (F0 m 83 ls [.int (i32 t0), .ref (ad 230)]) := by
    intro σ H locs ls x2 x3 x4 t0 hx2 hx3 hx4 ht0 hf hW hS hl
    unfold fX6_erase_J83 at hf
    refine p_X6_thrown X hW hS ht0 hf (X.2.2.2.2.1 _ mw1046) dX6_erase_83 (fun σ11 H locs hW11 hS11 hf => ?_)
    refine lv_aload_n hx hb dX6_erase_86 rfl (lv_at hl 0 rfl) ?_
    refine g_X6_thrown X hW11 (X.2.2.2.2.1 _ mw1046) dX6_erase_87 ?_
    refine m_if_le (tgt := 95) hx hb (hW11.2.1 _ _) hf dX6_erase_90 (by decide) (fun hf => ?_) (fun hf => ?_)
    · skip
      refine lv_aload_n hx hb dX6_erase_95 rfl (lv_at hl 0 rfl) ?_
      refine lv_aload_n hx hb dX6_erase_96 rfl (lv_at hl 0 rfl) ?_
      refine g_X6_cursors X hW11 (X.2.2.2.2.1 _ mw1063) dX6_erase_97 ?_
      refine lv_iload_n hx hb dX6_erase_100 rfl (lv_at hl 1 rfl) ?_
      refine m_iald X hW11 a_X6_cursors hx1 hf dX6_erase_101 (fun v12 hv12 hf => ?_)
      refine m_callVi1 (z := false) (As := [.int (i32 v12)]) (rest := []) X hW11 hS11 hl.1 gc_X6_225 hd_X6_placeOf ⟨rfl, rfl, Nat.le_of_ble_eq_true rfl, Nat.le_of_ble_eq_true rfl⟩ (rc_X6 X hW11) (fun v q => ok_X6_placeOf hv12 q) hf rfl rfl (Nat.le_of_ble_eq_true rfl) dX6_erase_102 ⟨Nat.le_of_ble_eq_true rfl, Nat.le_of_ble_eq_true rfl⟩ (fun v13 H locs hv13 zv13 hWv13 hSv13 hf => ?_)
      refine lv_aload_n hx hb dX6_erase_105 rfl (lv_at hl 0 rfl) ?_
      refine lv_aload_n hx hb dX6_erase_106 rfl (lv_at hl 0 rfl) ?_
      refine g_X6_tails X hWv13 (X.2.2.2.2.1 _ mw1064) dX6_erase_107 ?_
      refine lv_iload_n hx hb dX6_erase_110 rfl (lv_at hl 1 rfl) ?_
      refine m_iald X hWv13 a_X6_tails hx1 hf dX6_erase_111 (fun v14 hv14 hf => ?_)
      refine m_callVi1 (z := false) (As := [.int (i32 v14)]) (rest := [.int (i32 v13)]) X hWv13 hSv13 hl.1 gc_X6_225 hd_X6_placeOf ⟨rfl, rfl, Nat.le_of_ble_eq_true rfl, Nat.le_of_ble_eq_true rfl⟩ (rc_X6 X hWv13) (fun v q => ok_X6_placeOf hv14 q) hf rfl rfl (Nat.le_of_ble_eq_true rfl) dX6_erase_112 ⟨Nat.le_of_ble_eq_true rfl, Nat.le_of_ble_eq_true rfl⟩ (fun v15 H locs hv15 zv15 hWv15 hSv15 hf => ?_)
      refine m_icmp_le (tgt := 122) hx hb hv13 hv15 hf dX6_erase_115 (by decide) (fun hf => ?_) (fun hf => ?_)
      · skip
        refine m_const (v := 0) hx hb dX6_erase_122 rfl ?_
        refine lv_istore (lv' := [(5, .int (i32 0)), (0, .ref (ad 230)), (1, .int (i32 x1)), (2, .int (i32 x2)), (3, .int (i32 x3)), (4, .int (i32 x4))]) hx hb dX6_erase_123 hl (by decide) rfl (fun ls hl => ?_)
        refine m_const (v := 0) hx hb dX6_erase_125 rfl ?_
        refine lv_istore (lv' := [(6, .int (i32 0)), (5, .int (i32 0)), (0, .ref (ad 230)), (1, .int (i32 x1)), (2, .int (i32 x2)), (3, .int (i32 x3)), (4, .int (i32 x4))]) hx hb dX6_erase_126 hl (by decide) rfl (fun ls hl => ?_)
        exact hc128 n _ _ _ _ x2 x3 x4 0 0 hx2 hx3 hx4 (by decide) (by decide) hf hWv15 hSv15 (lv_sub hl [2, 3, 4, 5, 6, 1, 0] rfl)
      · skip
        refine m_const (v := 1) hx hb dX6_erase_118 rfl ?_
        refine lv_goto (tgt := 123) hx hb dX6_erase_119 (by decide) ?_
        refine lv_istore (lv' := [(5, .int (i32 1)), (0, .ref (ad 230)), (1, .int (i32 x1)), (2, .int (i32 x2)), (3, .int (i32 x3)), (4, .int (i32 x4))]) hx hb dX6_erase_123 hl (by decide) rfl (fun ls hl => ?_)
        refine m_const (v := 0) hx hb dX6_erase_125 rfl ?_
        refine lv_istore (lv' := [(6, .int (i32 0)), (5, .int (i32 1)), (0, .ref (ad 230)), (1, .int (i32 x1)), (2, .int (i32 x2)), (3, .int (i32 x3)), (4, .int (i32 x4))]) hx hb dX6_erase_126 hl (by decide) rfl (fun ls hl => ?_)
        exact hc128 n _ _ _ _ x2 x3 x4 1 0 hx2 hx3 hx4 (by decide) (by decide) hf hWv15 hSv15 (lv_sub hl [2, 3, 4, 5, 6, 1, 0] rfl)
    · skip
      refine m_const (v := 0) hx hb dX6_erase_93 rfl ?_
      exact m_ireti X hr hlocks rfl (by decide) (fun h => Bool.noConfusion h) hW11 hS11 (congrArg Prod.fst (Option.some.inj hf)) (congrArg Prod.snd (Option.some.inj hf)) hQ dX6_erase_94
  have hc78 : ∀ (σ : St) (H : Heap) (locs : List Loc) (ls : Array Slot) (x2 : Int) (x3 : Int) (x4 : Int), inR x2 → inR x3 → inR x4 → fX6_erase_J78 n σ x1 x2 x3 x4 = some (r, σ2) → Wd D cy ad nm nv σ H → va_S (AW ad nm nv sz) s.heap H locs → lv_has ls 7 [(0, .ref (ad 230)), (1, .int (i32 x1)), (2, .int (i32 x2)), (3, .int (i32 x3)), (4, .int (i32 x4))] → W p l e ({ frames := 7, cells := 0, slots := 0, locals := 156 } : Room) s m args below meth c H locs 0 0 Q (F0 m 78 ls [.ref (ad 230)]) := by
    intro σ H locs ls x2 x3 x4 hx2 hx3 hx4 hf hW hS hl
    unfold fX6_erase_J78 at hf
    refine m_const (v := 2) hx hb dX6_erase_78 rfl ?_
    refine lv_goto (tgt := 83) hx hb dX6_erase_79 (by decide) ?_
    exact hc83 _ _ _ _ x2 x3 x4 2 hx2 hx3 hx4 (by decide) hf hW hS (lv_sub hl [0, 1, 2, 3, 4] rfl)
  have hc58 : ∀ (σ : St) (H : Heap) (locs : List Loc) (ls : Array Slot) (x2 : Int) (x3 : Int) (t0 : Int), inR x2 → inR x3 → inR t0 → fX6_erase_J58 n σ x1 x2 x3 t0 = some (r, σ2) → Wd D cy ad nm nv σ H → va_S (AW ad nm nv sz) s.heap H locs → lv_has ls 7 [(0, .ref (ad 230)), (1, .int (i32 x1)), (2, .int (i32 x2)), (3, .int (i32 x3))] → W p l e ({ frames := 7, cells := 0, slots := 0, locals := 156 } : Room) s m args below meth c H locs 0 0 Q (F0 m 58 ls [.int (i32 t0)]) := by
    intro σ H locs ls x2 x3 t0 hx2 hx3 ht0 hf hW hS hl
    unfold fX6_erase_J58 at hf
    refine lv_istore (lv' := [(4, .int (i32 t0)), (0, .ref (ad 230)), (1, .int (i32 x1)), (2, .int (i32 x2)), (3, .int (i32 x3))]) hx hb dX6_erase_58 hl (by decide) rfl (fun ls hl => ?_)
    refine lv_aload_n hx hb dX6_erase_60 rfl (lv_at hl 1 rfl) ?_
    refine lv_iload_n hx hb dX6_erase_61 rfl (lv_at hl 4 rfl) ?_
    refine m_if_lt (tgt := 78) hx hb hx3 hf dX6_erase_62 (by decide) (fun hf => ?_) (fun hf => ?_)
    · skip
      exact hc78 _ _ _ _ x2 x3 t0 hx2 hx3 ht0 hf hW hS (lv_sub hl [1, 2, 3, 4, 0] rfl)
    · skip
      refine lv_aload_n hx hb dX6_erase_65 rfl (lv_at hl 1 rfl) ?_
      refine g_X6_actMany X hW (X.2.2.2.2.1 _ mw1047) dX6_erase_66 ?_
      refine lv_iload hx hb dX6_erase_69 (lv_at hl 0 rfl) ?_
      refine m_iadd hx hb hf dX6_erase_71 (fun v10 hv10 hf => ?_)
      refine m_sipush (v := 160) hx hb dX6_erase_72 (by decide) ?_
      refine m_icmp_le (tgt := 82) hx hb hv10 (by decide) hf dX6_erase_75 (by decide) (fun hf => ?_) (fun hf => ?_)
      · skip
        refine m_const (v := 0) hx hb dX6_erase_82 rfl ?_
        exact hc83 _ _ _ _ x2 x3 t0 0 hx2 hx3 ht0 (by decide) hf hW hS (lv_sub hl [1, 2, 3, 4, 0] rfl)
      · skip
        exact hc78 _ _ _ _ x2 x3 t0 hx2 hx3 ht0 hf hW hS (lv_sub hl [1, 2, 3, 4, 0] rfl)
  have hc48 : ∀ (σ : St) (H : Heap) (locs : List Loc) (ls : Array Slot) (x2 : Int) (t0 : Int), inR x2 → inR t0 → fX6_erase_J48 n σ x1 x2 t0 = some (r, σ2) → Wd D cy ad nm nv σ H → va_S (AW ad nm nv sz) s.heap H locs → lv_has ls 7 [(0, .ref (ad 230)), (1, .int (i32 x1)), (2, .int (i32 x2))] → W p l e ({ frames := 7, cells := 0, slots := 0, locals := 156 } : Room) s m args below meth c H locs 0 0 Q (F0 m 48 ls [.int (i32 t0)]) := by
    intro σ H locs ls x2 t0 hx2 ht0 hf hW hS hl
    unfold fX6_erase_J48 at hf
    refine lv_istore_n (lv' := [(3, .int (i32 t0)), (0, .ref (ad 230)), (1, .int (i32 x1)), (2, .int (i32 x2))]) hx hb dX6_erase_48 rfl hl (by decide) rfl (fun ls hl => ?_)
    refine lv_iload_n hx hb dX6_erase_49 rfl (lv_at hl 3 rfl) ?_
    refine m_if_le (tgt := 57) hx hb hx2 hf dX6_erase_50 (by decide) (fun hf => ?_) (fun hf => ?_)
    · skip
      refine m_const (v := 1) hx hb dX6_erase_57 rfl ?_
      exact hc58 _ _ _ _ x2 t0 1 hx2 ht0 (by decide) hf hW hS (lv_sub hl [1, 2, 3, 0] rfl)
    · skip
      refine lv_iload_n hx hb dX6_erase_53 rfl (lv_at hl 3 rfl) ?_
      refine lv_goto (tgt := 58) hx hb dX6_erase_54 (by decide) ?_
      exact hc58 _ _ _ _ x2 t0 x2 hx2 ht0 hx2 hf hW hS (lv_sub hl [1, 2, 3, 0] rfl)
  refine lv_iload_n hx hb dX6_erase_0 rfl (lv_at hl 1 rfl) ?_
  refine m_callSi1 (z := true) (As := [.int (i32 x1)]) (rest := []) X hW hS hl.1 gc_X6_215 hd_X6_isSite ⟨rfl, rfl, Nat.le_of_ble_eq_true rfl, Nat.le_of_ble_eq_true rfl⟩ (fun v q => ok_X6_isSite hx1 q) hf rfl rfl (Nat.le_of_ble_eq_true rfl) dX6_erase_1 ⟨Nat.le_of_ble_eq_true rfl, Nat.le_of_ble_eq_true rfl⟩ (fun v1 H locs hv1 zv1 hWv1 hSv1 hf => ?_)
  refine m_if_ne (tgt := 13) hx hb hv1 hf dX6_erase_4 (by decide) (fun hf => ?_) (fun hf => ?_)
  · skip
    refine lv_aload_n hx hb dX6_erase_13 rfl (lv_at hl 0 rfl) ?_
    refine lv_iload_n hx hb dX6_erase_14 rfl (lv_at hl 1 rfl) ?_
    refine m_callVv (As := [.int (i32 x1)]) (rest := []) X hWv1 hSv1 hl.1 gc_X6_208 hd_X6_findsSite ⟨rfl, rfl, Nat.le_of_ble_eq_true rfl, Nat.le_of_ble_eq_true rfl⟩ (rc_X6 X hWv1) (fun v q => ok_X6_findsSite hx1 q) hf rfl rfl (Nat.le_of_ble_eq_true rfl) dX6_erase_15 ⟨Nat.le_of_ble_eq_true rfl, Nat.le_of_ble_eq_true rfl⟩ (fun σ2 H locs hW2 hS2 hf => ?_)
    refine lv_aload_n hx hb dX6_erase_18 rfl (lv_at hl 0 rfl) ?_
    refine lv_iload_n hx hb dX6_erase_19 rfl (lv_at hl 1 rfl) ?_
    refine m_callVi1 (z := false) (As := [.int (i32 x1)]) (rest := []) X hW2 hS2 hl.1 gc_X6_228 hd_X6_selected ⟨rfl, rfl, Nat.le_of_ble_eq_true rfl, Nat.le_of_ble_eq_true rfl⟩ (rc_X6 X hW2) (fun v q => ok_X6_selected hx1 q) hf rfl rfl (Nat.le_of_ble_eq_true rfl) dX6_erase_20 ⟨Nat.le_of_ble_eq_true rfl, Nat.le_of_ble_eq_true rfl⟩ (fun v3 H locs hv3 zv3 hWv3 hSv3 hf => ?_)
    refine lv_istore_n (lv' := [(2, .int (i32 v3)), (0, .ref (ad 230)), (1, .int (i32 x1))]) hx hb dX6_erase_23 rfl hl (by decide) rfl (fun ls hl => ?_)
    refine lv_iload_n hx hb dX6_erase_24 rfl (lv_at hl 0 rfl) ?_
    refine m_if_le (tgt := 36) hx hb hv3 hf dX6_erase_25 (by decide) (fun hf => ?_) (fun hf => ?_)
    · skip
      refine lv_aload_n hx hb dX6_erase_36 rfl (lv_at hl 1 rfl) ?_
      refine lv_aload_n hx hb dX6_erase_37 rfl (lv_at hl 1 rfl) ?_
      refine g_X6_cursors X hWv3 (X.2.2.2.2.1 _ mw1063) dX6_erase_38 ?_
      refine lv_iload_n hx hb dX6_erase_41 rfl (lv_at hl 2 rfl) ?_
      refine m_iald X hWv3 a_X6_cursors hx1 hf dX6_erase_42 (fun v4 hv4 hf => ?_)
      refine m_callVi1 (z := false) (As := [.int (i32 v4)]) (rest := []) X hWv3 hSv3 hl.1 gc_X6_225 hd_X6_placeOf ⟨rfl, rfl, Nat.le_of_ble_eq_true rfl, Nat.le_of_ble_eq_true rfl⟩ (rc_X6 X hWv3) (fun v q => ok_X6_placeOf hv4 q) hf rfl rfl (Nat.le_of_ble_eq_true rfl) dX6_erase_43 ⟨Nat.le_of_ble_eq_true rfl, Nat.le_of_ble_eq_true rfl⟩ (fun v5 H locs hv5 zv5 hWv5 hSv5 hf => ?_)
      refine m_const (v := 1) hx hb dX6_erase_46 rfl ?_
      refine m_isub hx hb hf dX6_erase_47 (fun v6 hv6 hf => ?_)
      exact hc48 _ _ _ _ v3 v6 hv3 hv6 hf hWv5 hSv5 (lv_sub hl [1, 2, 0] rfl)
    · skip
      refine lv_aload_n hx hb dX6_erase_28 rfl (lv_at hl 1 rfl) ?_
      refine lv_iload_n hx hb dX6_erase_29 rfl (lv_at hl 2 rfl) ?_
      refine m_callVi1 (z := false) (As := [.int (i32 x1)]) (rest := []) X hWv3 hSv3 hl.1 gc_X6_231 hd_X6_lower ⟨rfl, rfl, Nat.le_of_ble_eq_true rfl, Nat.le_of_ble_eq_true rfl⟩ (rc_X6 X hWv3) (fun v q => ok_X6_lower hx1 q) hf rfl rfl (Nat.le_of_ble_eq_true rfl) dX6_erase_30 ⟨Nat.le_of_ble_eq_true rfl, Nat.le_of_ble_eq_true rfl⟩ (fun v7 H locs hv7 zv7 hWv7 hSv7 hf => ?_)
      refine lv_goto (tgt := 48) hx hb dX6_erase_33 (by decide) ?_
      exact hc48 _ _ _ _ v3 v7 hv3 hv7 hf hWv7 hSv7 (lv_sub hl [1, 2, 0] rfl)
  · skip
    refine lv_aload_n hx hb dX6_erase_7 rfl (lv_at hl 0 rfl) ?_
    refine m_const (v := 1) hx hb dX6_erase_8 rfl ?_
    refine m_callVi (z := false) (As := [.int (i32 1)]) (rest := []) X hWv1 hSv1 hl.1 gc_X6_222 hd_X6_fails ⟨rfl, rfl, Nat.le_of_ble_eq_true rfl, Nat.le_of_ble_eq_true rfl⟩ (rc_X6 X hWv1) (fun v q9 q => ok_X6_fails (by decide) q) hf rfl rfl (Nat.le_of_ble_eq_true rfl) dX6_erase_9 ⟨Nat.le_of_ble_eq_true rfl, Nat.le_of_ble_eq_true rfl⟩ (fun v9 σ8 H locs hv9 zv9 hW8 hS8 hf => ?_)
    exact m_ireti X hr hlocks rfl hv9 (fun h => Bool.noConfusion h) hW8 hS8 (congrArg Prod.fst (Option.some.inj hf)) (congrArg Prod.snd (Option.some.inj hf)) hQ dX6_erase_12
set_option maxRecDepth 100000 in
set_option maxHeartbeats 4000000 in
theorem ok_X6_moveTo {l : Launch} {D : va_G} {cy : Nat → ClassId} {ad : Nat → Nat} {nm nv sz : Nat} {σ : St} {n : Nat} {x1 : Int} {x2 : Int} {r : Int} {σ2 : St} (hx1 : inR x1) (hx2 : inR x2) (hf : fX6_moveTo n σ x1 x2 = some (r, σ2)) : CI l yX6_moveTo cX6_moveTo 4 (some .int) ({ frames := 7, cells := 0, slots := 0, locals := 156 } : Room) [.ref (ad 230), .int (i32 x1), .int (i32 x2)] D cy ad nm nv sz σ false r σ2 := by
  refine m_entry RX6 rfl (by decide +kernel) (Nat.le_of_ble_eq_true rfl) ?_
  intro p e s m args below meth c Q hQ hr hlocks X hW hS ls hl
  have hx := X.1
  have hb := X.2.1
  have hl : lv_has ls 4 [(0, .ref (ad 230)), (1, .int (i32 x1)), (2, .int (i32 x2))] := hl
  unfold fX6_moveTo at hf
  have hc79 : ∀ (σ : St) (H : Heap) (locs : List Loc) (ls : Array Slot) (x3 : Int) (t0 : Int) (t1 : Int), inR x3 → inR t0 → inR t1 → fX6_moveTo_J79 n σ x1 x2 x3 t0 t1 = some (r, σ2) → Wd D cy ad nm nv σ H → va_S (AW ad nm nv sz) s.heap H locs → lv_has ls 4 [(0, .ref (ad 230)), (1, .int (i32 x1)), (3, .int (i32 x3))] → W p l e ({ frames := 7, cells := 0, slots := 0, locals := 156 } : Room) s m args below meth c H locs 0 0 Q (F0 m 79 ls [.int (i32 t0), .int (i32 t1), .ref (ad 248)]) := by
    intro σ H locs ls x3 t0 t1 hx3 ht0 ht1 hf hW hS hl
    unfold fX6_moveTo_J79 at hf
    refine m_iast X hW hS a_X6_cursors ht1 ht0 hf dX6_moveTo_79 (fun σ12 H locs hW12 hS12 hf => ?_)
    refine lv_aload_n hx hb dX6_moveTo_80 rfl (lv_at hl 0 rfl) ?_
    refine g_X6_tails X hW12 (X.2.2.2.2.1 _ mw1064) dX6_moveTo_81 ?_
    refine lv_iload_n hx hb dX6_moveTo_84 rfl (lv_at hl 1 rfl) ?_
    refine lv_aload_n hx hb dX6_moveTo_85 rfl (lv_at hl 0 rfl) ?_
    refine g_X6_cursors X hW12 (X.2.2.2.2.1 _ mw1063) dX6_moveTo_86 ?_
    refine lv_iload_n hx hb dX6_moveTo_89 rfl (lv_at hl 1 rfl) ?_
    refine m_iald X hW12 a_X6_cursors hx1 hf dX6_moveTo_90 (fun v13 hv13 hf => ?_)
    refine m_iast X hW12 hS12 a_X6_tails hx1 hv13 hf dX6_moveTo_91 (fun σ14 H locs hW14 hS14 hf => ?_)
    refine lv_iload_n hx hb dX6_moveTo_92 rfl (lv_at hl 2 rfl) ?_
    exact m_ireti X hr hlocks rfl hx3 (fun h => Bool.noConfusion h) hW14 hS14 (congrArg Prod.fst (Option.some.inj hf)) (congrArg Prod.snd (Option.some.inj hf)) hQ dX6_moveTo_93
  have hc36 : ∀ (σ : St) (H : Heap) (locs : List Loc) (ls : Array Slot) (t0 : Int), inR t0 → fX6_moveTo_J36 n σ x1 x2 t0 = some (r, σ2) → Wd D cy ad nm nv σ H → va_S (AW ad nm nv sz) s.heap H locs → lv_has ls 4 [(0, .ref (ad 230)), (1, .int (i32 x1)), (2, .int (i32 x2))] → W p l e ({ frames := 7, cells := 0, slots := 0, locals := 156 } : Room) s m args below meth c H locs 0 0 Q (F0 m 36 ls [.int (i32 t0), .ref (ad 230)]) := by
    intro σ H locs ls t0 ht0 hf hW hS hl
    unfold fX6_moveTo_J36 at hf
    refine p_X6_thrown X hW hS ht0 hf (X.2.2.2.2.1 _ mw1046) dX6_moveTo_36 (fun σ7 H locs hW7 hS7 hf => ?_)
    refine lv_aload_n hx hb dX6_moveTo_39 rfl (lv_at hl 0 rfl) ?_
    refine g_X6_thrown X hW7 (X.2.2.2.2.1 _ mw1046) dX6_moveTo_40 ?_
    refine m_if_le (tgt := 48) hx hb (hW7.2.1 _ _) hf dX6_moveTo_43 (by decide) (fun hf => ?_) (fun hf => ?_)
    · skip
      refine lv_aload_n hx hb dX6_moveTo_48 rfl (lv_at hl 0 rfl) ?_
      refine lv_aload_n hx hb dX6_moveTo_49 rfl (lv_at hl 0 rfl) ?_
      refine g_X6_cursors X hW7 (X.2.2.2.2.1 _ mw1063) dX6_moveTo_50 ?_
      refine lv_iload_n hx hb dX6_moveTo_53 rfl (lv_at hl 1 rfl) ?_
      refine m_iald X hW7 a_X6_cursors hx1 hf dX6_moveTo_54 (fun v8 hv8 hf => ?_)
      refine m_callVi1 (z := false) (As := [.int (i32 v8)]) (rest := []) X hW7 hS7 hl.1 gc_X6_225 hd_X6_placeOf ⟨rfl, rfl, Nat.le_of_ble_eq_true rfl, Nat.le_of_ble_eq_true rfl⟩ (rc_X6 X hW7) (fun v q => ok_X6_placeOf hv8 q) hf rfl rfl (Nat.le_of_ble_eq_true rfl) dX6_moveTo_55 ⟨Nat.le_of_ble_eq_true rfl, Nat.le_of_ble_eq_true rfl⟩ (fun v9 H locs hv9 zv9 hWv9 hSv9 hf => ?_)
      refine lv_istore_n (lv' := [(3, .int (i32 v9)), (0, .ref (ad 230)), (1, .int (i32 x1)), (2, .int (i32 x2))]) hx hb dX6_moveTo_58 rfl hl (by decide) rfl (fun ls hl => ?_)
      refine lv_aload_n hx hb dX6_moveTo_59 rfl (lv_at hl 1 rfl) ?_
      refine g_X6_cursors X hWv9 (X.2.2.2.2.1 _ mw1063) dX6_moveTo_60 ?_
      refine lv_iload_n hx hb dX6_moveTo_63 rfl (lv_at hl 2 rfl) ?_
      refine lv_iload_n hx hb dX6_moveTo_64 rfl (lv_at hl 3 rfl) ?_
      refine m_if_ne (tgt := 72) hx hb hx2 hf dX6_moveTo_65 (by decide) (fun hf => ?_) (fun hf => ?_)
      · skip
        refine lv_aload_n hx hb dX6_moveTo_72 rfl (lv_at hl 1 rfl) ?_
        refine lv_iload_n hx hb dX6_moveTo_73 rfl (lv_at hl 3 rfl) ?_
        refine m_const (v := 1) hx hb dX6_moveTo_74 rfl ?_
        refine m_isub hx hb hf dX6_moveTo_75 (fun v10 hv10 hf => ?_)
        refine m_callVi1 (z := false) (As := [.int (i32 v10)]) (rest := [.int (i32 x1), .ref (ad 248)]) X hWv9 hSv9 hl.1 gc_X6_234 hd_X6_seenAt ⟨rfl, rfl, Nat.le_of_ble_eq_true rfl, Nat.le_of_ble_eq_true rfl⟩ (rc_X6 X hWv9) (fun v q => ok_X6_seenAt hv10 q) hf rfl rfl (Nat.le_of_ble_eq_true rfl) dX6_moveTo_76 ⟨Nat.le_of_ble_eq_true rfl, Nat.le_of_ble_eq_true rfl⟩ (fun v11 H locs hv11 zv11 hWv11 hSv11 hf => ?_)
        exact hc79 _ _ _ _ v9 v11 x1 hv9 hv11 hx1 hf hWv11 hSv11 (lv_sub hl [1, 2, 0] rfl)
      · skip
        refine m_const (v := (-1)) hx hb dX6_moveTo_68 rfl ?_
        refine lv_goto (tgt := 79) hx hb dX6_moveTo_69 (by decide) ?_
        exact hc79 _ _ _ _ v9 (-1) x1 hv9 (by decide) hx1 hf hWv9 hSv9 (lv_sub hl [1, 2, 0] rfl)
    · skip
      refine m_const (v := 0) hx hb dX6_moveTo_46 rfl ?_
      exact m_ireti X hr hlocks rfl (by decide) (fun h => Bool.noConfusion h) hW7 hS7 (congrArg Prod.fst (Option.some.inj hf)) (congrArg Prod.snd (Option.some.inj hf)) hQ dX6_moveTo_47
  refine lv_iload_n hx hb dX6_moveTo_0 rfl (lv_at hl 1 rfl) ?_
  refine m_callSi1 (z := true) (As := [.int (i32 x1)]) (rest := []) X hW hS hl.1 gc_X6_215 hd_X6_isSite ⟨rfl, rfl, Nat.le_of_ble_eq_true rfl, Nat.le_of_ble_eq_true rfl⟩ (fun v q => ok_X6_isSite hx1 q) hf rfl rfl (Nat.le_of_ble_eq_true rfl) dX6_moveTo_1 ⟨Nat.le_of_ble_eq_true rfl, Nat.le_of_ble_eq_true rfl⟩ (fun v1 H locs hv1 zv1 hWv1 hSv1 hf => ?_)
  refine m_if_ne (tgt := 13) hx hb hv1 hf dX6_moveTo_4 (by decide) (fun hf => ?_) (fun hf => ?_)
  · skip
    refine lv_aload_n hx hb dX6_moveTo_13 rfl (lv_at hl 0 rfl) ?_
    refine lv_iload_n hx hb dX6_moveTo_14 rfl (lv_at hl 1 rfl) ?_
    refine m_callVv (As := [.int (i32 x1)]) (rest := []) X hWv1 hSv1 hl.1 gc_X6_208 hd_X6_findsSite ⟨rfl, rfl, Nat.le_of_ble_eq_true rfl, Nat.le_of_ble_eq_true rfl⟩ (rc_X6 X hWv1) (fun v q => ok_X6_findsSite hx1 q) hf rfl rfl (Nat.le_of_ble_eq_true rfl) dX6_moveTo_15 ⟨Nat.le_of_ble_eq_true rfl, Nat.le_of_ble_eq_true rfl⟩ (fun σ2 H locs hW2 hS2 hf => ?_)
    refine lv_aload_n hx hb dX6_moveTo_18 rfl (lv_at hl 0 rfl) ?_
    refine lv_iload_n hx hb dX6_moveTo_19 rfl (lv_at hl 2 rfl) ?_
    refine m_const (v := 0) hx hb dX6_moveTo_20 rfl ?_
    refine lv_aload_n hx hb dX6_moveTo_21 rfl (lv_at hl 0 rfl) ?_
    refine m_callVi1 (z := false) (As := []) (rest := [.int (i32 0), .int (i32 x2), .ref (ad 230)]) X hW2 hS2 hl.1 gc_X6_237 hd_X6_seen ⟨rfl, rfl, Nat.le_of_ble_eq_true rfl, Nat.le_of_ble_eq_true rfl⟩ (rc_X6 X hW2) (fun v q => ok_X6_seen  q) hf rfl rfl (Nat.le_of_ble_eq_true rfl) dX6_moveTo_22 ⟨Nat.le_of_ble_eq_true rfl, Nat.le_of_ble_eq_true rfl⟩ (fun v3 H locs hv3 zv3 hWv3 hSv3 hf => ?_)
    refine m_callSi1 (z := true) (As := [.int (i32 x2), .int (i32 0), .int (i32 v3)]) (rest := [.ref (ad 230)]) X hWv3 hSv3 hl.1 gc_X6_130 hd_X6_isIn ⟨rfl, rfl, Nat.le_of_ble_eq_true rfl, Nat.le_of_ble_eq_true rfl⟩ (fun v q => ok_X6_isIn hx2 (by decide) hv3 q) hf rfl rfl (Nat.le_of_ble_eq_true rfl) dX6_moveTo_25 ⟨Nat.le_of_ble_eq_true rfl, Nat.le_of_ble_eq_true rfl⟩ (fun v4 H locs hv4 zv4 hWv4 hSv4 hf => ?_)
    refine m_if_eq (tgt := 35) hx hb hv4 hf dX6_moveTo_28 (by decide) (fun hf => ?_) (fun hf => ?_)
    · skip
      refine m_const (v := 1) hx hb dX6_moveTo_35 rfl ?_
      exact hc36 _ _ _ _ 1 (by decide) hf hWv4 hSv4 (lv_sub hl [0, 1, 2] rfl)
    · skip
      refine m_const (v := 0) hx hb dX6_moveTo_31 rfl ?_
      refine lv_goto (tgt := 36) hx hb dX6_moveTo_32 (by decide) ?_
      exact hc36 _ _ _ _ 0 (by decide) hf hWv4 hSv4 (lv_sub hl [0, 1, 2] rfl)
  · skip
    refine lv_aload_n hx hb dX6_moveTo_7 rfl (lv_at hl 0 rfl) ?_
    refine m_const (v := 1) hx hb dX6_moveTo_8 rfl ?_
    refine m_callVi (z := false) (As := [.int (i32 1)]) (rest := []) X hWv1 hSv1 hl.1 gc_X6_222 hd_X6_fails ⟨rfl, rfl, Nat.le_of_ble_eq_true rfl, Nat.le_of_ble_eq_true rfl⟩ (rc_X6 X hWv1) (fun v q9 q => ok_X6_fails (by decide) q) hf rfl rfl (Nat.le_of_ble_eq_true rfl) dX6_moveTo_9 ⟨Nat.le_of_ble_eq_true rfl, Nat.le_of_ble_eq_true rfl⟩ (fun v6 σ5 H locs hv6 zv6 hW5 hS5 hf => ?_)
    exact m_ireti X hr hlocks rfl hv6 (fun h => Bool.noConfusion h) hW5 hS5 (congrArg Prod.fst (Option.some.inj hf)) (congrArg Prod.snd (Option.some.inj hf)) hQ dX6_moveTo_12
set_option maxRecDepth 100000 in
set_option maxHeartbeats 4000000 in
theorem ok_X6_extend {l : Launch} {D : va_G} {cy : Nat → ClassId} {ad : Nat → Nat} {nm nv sz : Nat} {σ : St} {n : Nat} {x1 : Int} {x2 : Int} {r : Int} {σ2 : St} (hx1 : inR x1) (hx2 : inR x2) (hf : fX6_extend n σ x1 x2 = some (r, σ2)) : CI l yX6_extend cX6_extend 3 (some .int) ({ frames := 7, cells := 0, slots := 0, locals := 156 } : Room) [.ref (ad 230), .int (i32 x1), .int (i32 x2)] D cy ad nm nv sz σ false r σ2 := by
  refine m_entry RX6 rfl (by decide +kernel) (Nat.le_of_ble_eq_true rfl) ?_
  intro p e s m args below meth c Q hQ hr hlocks X hW hS ls hl
  have hx := X.1
  have hb := X.2.1
  have hl : lv_has ls 3 [(0, .ref (ad 230)), (1, .int (i32 x1)), (2, .int (i32 x2))] := hl
  unfold fX6_extend at hf
  have hc68 : ∀ (σ : St) (H : Heap) (locs : List Loc) (ls : Array Slot) (t0 : Int) (t1 : Int), inR t0 → inR t1 → fX6_extend_J68 n σ x1 x2 t0 t1 = some (r, σ2) → Wd D cy ad nm nv σ H → va_S (AW ad nm nv sz) s.heap H locs → lv_has ls 3 [(0, .ref (ad 230)), (1, .int (i32 x1))] → W p l e ({ frames := 7, cells := 0, slots := 0, locals := 156 } : Room) s m args below meth c H locs 0 0 Q (F0 m 68 ls [.int (i32 t0), .int (i32 t1), .ref (ad 248)]) := by
    intro σ H locs ls t0 t1 ht0 ht1 hf hW hS hl
    unfold fX6_extend_J68 at hf
    refine m_iast X hW hS a_X6_cursors ht1 ht0 hf dX6_extend_68 (fun σ10 H locs hW10 hS10 hf => ?_)
    refine lv_aload_n hx hb dX6_extend_69 rfl (lv_at hl 0 rfl) ?_
    refine lv_iload_n hx hb dX6_extend_70 rfl (lv_at hl 1 rfl) ?_
    refine m_callVi1 (z := false) (As := [.int (i32 x1)]) (rest := []) X hW10 hS10 hl.1 gc_X6_228 hd_X6_selected ⟨rfl, rfl, Nat.le_of_ble_eq_true rfl, Nat.le_of_ble_eq_true rfl⟩ (rc_X6 X hW10) (fun v q => ok_X6_selected hx1 q) hf rfl rfl (Nat.le_of_ble_eq_true rfl) dX6_extend_71 ⟨Nat.le_of_ble_eq_true rfl, Nat.le_of_ble_eq_true rfl⟩ (fun v11 H locs hv11 zv11 hWv11 hSv11 hf => ?_)
    exact m_ireti X hr hlocks rfl hv11 (fun h => Bool.noConfusion h) hWv11 hSv11 (congrArg Prod.fst (Option.some.inj hf)) (congrArg Prod.snd (Option.some.inj hf)) hQ dX6_extend_74
  have hc36 : ∀ (σ : St) (H : Heap) (locs : List Loc) (ls : Array Slot) (t0 : Int), inR t0 → fX6_extend_J36 n σ x1 x2 t0 = some (r, σ2) → Wd D cy ad nm nv σ H → va_S (AW ad nm nv sz) s.heap H locs → lv_has ls 3 [(0, .ref (ad 230)), (1, .int (i32 x1)), (2, .int (i32 x2))] → W p l e ({ frames := 7, cells := 0, slots := 0, locals := 156 } : Room) s m args below meth c H locs 0 0 Q (F0 m 36 ls [.int (i32 t0), .ref (ad 230)]) := by
    intro σ H locs ls t0 ht0 hf hW hS hl
    unfold fX6_extend_J36 at hf
    refine p_X6_thrown X hW hS ht0 hf (X.2.2.2.2.1 _ mw1046) dX6_extend_36 (fun σ7 H locs hW7 hS7 hf => ?_)
    refine lv_aload_n hx hb dX6_extend_39 rfl (lv_at hl 0 rfl) ?_
    refine g_X6_thrown X hW7 (X.2.2.2.2.1 _ mw1046) dX6_extend_40 ?_
    refine m_if_le (tgt := 48) hx hb (hW7.2.1 _ _) hf dX6_extend_43 (by decide) (fun hf => ?_) (fun hf => ?_)
    · skip
      refine lv_aload_n hx hb dX6_extend_48 rfl (lv_at hl 0 rfl) ?_
      refine g_X6_cursors X hW7 (X.2.2.2.2.1 _ mw1063) dX6_extend_49 ?_
      refine lv_iload_n hx hb dX6_extend_52 rfl (lv_at hl 1 rfl) ?_
      refine lv_iload_n hx hb dX6_extend_53 rfl (lv_at hl 2 rfl) ?_
      refine m_if_ne (tgt := 61) hx hb hx2 hf dX6_extend_54 (by decide) (fun hf => ?_) (fun hf => ?_)
      · skip
        refine lv_aload_n hx hb dX6_extend_61 rfl (lv_at hl 0 rfl) ?_
        refine lv_iload_n hx hb dX6_extend_62 rfl (lv_at hl 2 rfl) ?_
        refine m_const (v := 1) hx hb dX6_extend_63 rfl ?_
        refine m_isub hx hb hf dX6_extend_64 (fun v8 hv8 hf => ?_)
        refine m_callVi1 (z := false) (As := [.int (i32 v8)]) (rest := [.int (i32 x1), .ref (ad 248)]) X hW7 hS7 hl.1 gc_X6_234 hd_X6_seenAt ⟨rfl, rfl, Nat.le_of_ble_eq_true rfl, Nat.le_of_ble_eq_true rfl⟩ (rc_X6 X hW7) (fun v q => ok_X6_seenAt hv8 q) hf rfl rfl (Nat.le_of_ble_eq_true rfl) dX6_extend_65 ⟨Nat.le_of_ble_eq_true rfl, Nat.le_of_ble_eq_true rfl⟩ (fun v9 H locs hv9 zv9 hWv9 hSv9 hf => ?_)
        exact hc68 _ _ _ _ v9 x1 hv9 hx1 hf hWv9 hSv9 (lv_sub hl [0, 1] rfl)
      · skip
        refine m_const (v := (-1)) hx hb dX6_extend_57 rfl ?_
        refine lv_goto (tgt := 68) hx hb dX6_extend_58 (by decide) ?_
        exact hc68 _ _ _ _ (-1) x1 (by decide) hx1 hf hW7 hS7 (lv_sub hl [0, 1] rfl)
    · skip
      refine m_const (v := 0) hx hb dX6_extend_46 rfl ?_
      exact m_ireti X hr hlocks rfl (by decide) (fun h => Bool.noConfusion h) hW7 hS7 (congrArg Prod.fst (Option.some.inj hf)) (congrArg Prod.snd (Option.some.inj hf)) hQ dX6_extend_47
  refine lv_iload_n hx hb dX6_extend_0 rfl (lv_at hl 1 rfl) ?_
  refine m_callSi1 (z := true) (As := [.int (i32 x1)]) (rest := []) X hW hS hl.1 gc_X6_215 hd_X6_isSite ⟨rfl, rfl, Nat.le_of_ble_eq_true rfl, Nat.le_of_ble_eq_true rfl⟩ (fun v q => ok_X6_isSite hx1 q) hf rfl rfl (Nat.le_of_ble_eq_true rfl) dX6_extend_1 ⟨Nat.le_of_ble_eq_true rfl, Nat.le_of_ble_eq_true rfl⟩ (fun v1 H locs hv1 zv1 hWv1 hSv1 hf => ?_)
  refine m_if_ne (tgt := 13) hx hb hv1 hf dX6_extend_4 (by decide) (fun hf => ?_) (fun hf => ?_)
  · skip
    refine lv_aload_n hx hb dX6_extend_13 rfl (lv_at hl 0 rfl) ?_
    refine lv_iload_n hx hb dX6_extend_14 rfl (lv_at hl 1 rfl) ?_
    refine m_callVv (As := [.int (i32 x1)]) (rest := []) X hWv1 hSv1 hl.1 gc_X6_208 hd_X6_findsSite ⟨rfl, rfl, Nat.le_of_ble_eq_true rfl, Nat.le_of_ble_eq_true rfl⟩ (rc_X6 X hWv1) (fun v q => ok_X6_findsSite hx1 q) hf rfl rfl (Nat.le_of_ble_eq_true rfl) dX6_extend_15 ⟨Nat.le_of_ble_eq_true rfl, Nat.le_of_ble_eq_true rfl⟩ (fun σ2 H locs hW2 hS2 hf => ?_)
    refine lv_aload_n hx hb dX6_extend_18 rfl (lv_at hl 0 rfl) ?_
    refine lv_iload_n hx hb dX6_extend_19 rfl (lv_at hl 2 rfl) ?_
    refine m_const (v := 0) hx hb dX6_extend_20 rfl ?_
    refine lv_aload_n hx hb dX6_extend_21 rfl (lv_at hl 0 rfl) ?_
    refine m_callVi1 (z := false) (As := []) (rest := [.int (i32 0), .int (i32 x2), .ref (ad 230)]) X hW2 hS2 hl.1 gc_X6_237 hd_X6_seen ⟨rfl, rfl, Nat.le_of_ble_eq_true rfl, Nat.le_of_ble_eq_true rfl⟩ (rc_X6 X hW2) (fun v q => ok_X6_seen  q) hf rfl rfl (Nat.le_of_ble_eq_true rfl) dX6_extend_22 ⟨Nat.le_of_ble_eq_true rfl, Nat.le_of_ble_eq_true rfl⟩ (fun v3 H locs hv3 zv3 hWv3 hSv3 hf => ?_)
    refine m_callSi1 (z := true) (As := [.int (i32 x2), .int (i32 0), .int (i32 v3)]) (rest := [.ref (ad 230)]) X hWv3 hSv3 hl.1 gc_X6_130 hd_X6_isIn ⟨rfl, rfl, Nat.le_of_ble_eq_true rfl, Nat.le_of_ble_eq_true rfl⟩ (fun v q => ok_X6_isIn hx2 (by decide) hv3 q) hf rfl rfl (Nat.le_of_ble_eq_true rfl) dX6_extend_25 ⟨Nat.le_of_ble_eq_true rfl, Nat.le_of_ble_eq_true rfl⟩ (fun v4 H locs hv4 zv4 hWv4 hSv4 hf => ?_)
    refine m_if_eq (tgt := 35) hx hb hv4 hf dX6_extend_28 (by decide) (fun hf => ?_) (fun hf => ?_)
    · skip
      refine m_const (v := 1) hx hb dX6_extend_35 rfl ?_
      exact hc36 _ _ _ _ 1 (by decide) hf hWv4 hSv4 (lv_sub hl [0, 1, 2] rfl)
    · skip
      refine m_const (v := 0) hx hb dX6_extend_31 rfl ?_
      refine lv_goto (tgt := 36) hx hb dX6_extend_32 (by decide) ?_
      exact hc36 _ _ _ _ 0 (by decide) hf hWv4 hSv4 (lv_sub hl [0, 1, 2] rfl)
  · skip
    refine lv_aload_n hx hb dX6_extend_7 rfl (lv_at hl 0 rfl) ?_
    refine m_const (v := 1) hx hb dX6_extend_8 rfl ?_
    refine m_callVi (z := false) (As := [.int (i32 1)]) (rest := []) X hWv1 hSv1 hl.1 gc_X6_222 hd_X6_fails ⟨rfl, rfl, Nat.le_of_ble_eq_true rfl, Nat.le_of_ble_eq_true rfl⟩ (rc_X6 X hWv1) (fun v q9 q => ok_X6_fails (by decide) q) hf rfl rfl (Nat.le_of_ble_eq_true rfl) dX6_extend_9 ⟨Nat.le_of_ble_eq_true rfl, Nat.le_of_ble_eq_true rfl⟩ (fun v6 σ5 H locs hv6 zv6 hW5 hS5 hf => ?_)
    exact m_ireti X hr hlocks rfl hv6 (fun h => Bool.noConfusion h) hW5 hS5 (congrArg Prod.fst (Option.some.inj hf)) (congrArg Prod.snd (Option.some.inj hf)) hQ dX6_extend_12
set_option maxRecDepth 100000 in
set_option maxHeartbeats 4000000 in
theorem ok_X6_mark {l : Launch} {D : va_G} {cy : Nat → ClassId} {ad : Nat → Nat} {nm nv sz : Nat} {σ : St} {n : Nat} {x1 : Int} {x2 : Int} {x3 : Int} {r : Int} {σ2 : St} (hx1 : inR x1) (hx2 : inR x2) (hx3 : inR x3) (hf : fX6_mark n σ x1 x2 x3 = some (r, σ2)) : CI l yX6_mark cX6_mark 5 (some .int) ({ frames := 7, cells := 0, slots := 0, locals := 156 } : Room) [.ref (ad 230), .int (i32 x1), .int (i32 x2), .int (i32 x3)] D cy ad nm nv sz σ false r σ2 := by
  refine m_entry RX6 rfl (by decide +kernel) (Nat.le_of_ble_eq_true rfl) ?_
  intro p e s m args below meth c Q hQ hr hlocks X hW hS ls hl
  have hx := X.1
  have hb := X.2.1
  have hl : lv_has ls 5 [(0, .ref (ad 230)), (1, .int (i32 x1)), (2, .int (i32 x2)), (3, .int (i32 x3))] := hl
  unfold fX6_mark at hf
  have hc121 : ∀ (σ : St) (H : Heap) (locs : List Loc) (ls : Array Slot) (t0 : Int) (t1 : Int) (t2 : Int) (t3 : Int) (t4 : Int) (t5 : Int), inR t0 → inR t1 → inR t2 → inR t3 → inR t4 → inR t5 → fX6_mark_J121 n σ x1 x2 x3 t0 t1 t2 t3 t4 t5 = some (r, σ2) → Wd D cy ad nm nv σ H → va_S (AW ad nm nv sz) s.heap H locs → lv_has ls 5 [] → W p l e ({ frames := 7, cells := 0, slots := 0, locals := 156 } : Room) s m args below meth c H locs 0 0 Q (F0 m 121 ls [.int (i32 t0), .int (i32 t1), .int (i32 t2), .int (i32 t3), .int (i32 t4), .int (i32 t5), .ref (ad 230)]) := by
    intro σ H locs ls t0 t1 t2 t3 t4 t5 ht0 ht1 ht2 ht3 ht4 ht5 hf hW hS hl
    unfold fX6_mark_J121 at hf
    refine m_const (v := 0) hx hb dX6_mark_121 rfl ?_
    refine m_callVi (z := false) (As := [.int (i32 t5), .int (i32 t4), .int (i32 t3), .int (i32 t2), .int (i32 t1), .int (i32 t0), .int (i32 0)]) (rest := []) X hW hS hl.1 gc_X6_211 hd_X6_makes ⟨rfl, rfl, Nat.le_of_ble_eq_true rfl, Nat.le_of_ble_eq_true rfl⟩ (rc_X6 X hW) (fun v q9 q => ok_X6_makes ht5 ht4 ht3 ht2 ht1 ht0 (by decide) q) hf rfl rfl (Nat.le_of_ble_eq_true rfl) dX6_mark_122 ⟨Nat.le_of_ble_eq_true rfl, Nat.le_of_ble_eq_true rfl⟩ (fun v14 σ13 H locs hv14 zv14 hW13 hS13 hf => ?_)
    exact m_ireti X hr hlocks rfl hv14 (fun h => Bool.noConfusion h) hW13 hS13 (congrArg Prod.fst (Option.some.inj hf)) (congrArg Prod.snd (Option.some.inj hf)) hQ dX6_mark_125
  have hc71 : ∀ (σ : St) (H : Heap) (locs : List Loc) (ls : Array Slot) (x4 : Int) (t0 : Int), inR x4 → inR t0 → fX6_mark_J71 n σ x1 x2 x3 x4 t0 = some (r, σ2) → Wd D cy ad nm nv σ H → va_S (AW ad nm nv sz) s.heap H locs → lv_has ls 5 [(0, .ref (ad 230)), (1, .int (i32 x1)), (2, .int (i32 x2)), (3, .int (i32 x3)), (4, .int (i32 x4))] → W p l e ({ frames := 7, cells := 0, slots := 0, locals := 156 } : Room) s m args below meth c H locs 0 0 Q (F0 m 71 ls [.int (i32 t0), .ref (ad 230)]) := by
    intro σ H locs ls x4 t0 hx4 ht0 hf hW hS hl
    unfold fX6_mark_J71 at hf
    refine p_X6_thrown X hW hS ht0 hf (X.2.2.2.2.1 _ mw1046) dX6_mark_71 (fun σ6 H locs hW6 hS6 hf => ?_)
    refine lv_aload_n hx hb dX6_mark_74 rfl (lv_at hl 0 rfl) ?_
    refine g_X6_thrown X hW6 (X.2.2.2.2.1 _ mw1046) dX6_mark_75 ?_
    refine m_if_le (tgt := 85) hx hb (hW6.2.1 _ _) hf dX6_mark_78 (by decide) (fun hf => ?_) (fun hf => ?_)
    · skip
      refine lv_aload_n hx hb dX6_mark_85 rfl (lv_at hl 0 rfl) ?_
      refine lv_iload_n hx hb dX6_mark_86 rfl (lv_at hl 1 rfl) ?_
      refine m_const (v := 4) hx hb dX6_mark_87 rfl ?_
      refine lv_aload_n hx hb dX6_mark_88 rfl (lv_at hl 0 rfl) ?_
      refine lv_aload_n hx hb dX6_mark_89 rfl (lv_at hl 0 rfl) ?_
      refine lv_iload_n hx hb dX6_mark_90 rfl (lv_at hl 1 rfl) ?_
      refine m_callVi1 (z := false) (As := [.int (i32 x1)]) (rest := [.ref (ad 230), .int (i32 4), .int (i32 x1), .ref (ad 230)]) X hW6 hS6 hl.1 gc_X6_231 hd_X6_lower ⟨rfl, rfl, Nat.le_of_ble_eq_true rfl, Nat.le_of_ble_eq_true rfl⟩ (rc_X6 X hW6) (fun v q => ok_X6_lower hx1 q) hf rfl rfl (Nat.le_of_ble_eq_true rfl) dX6_mark_91 ⟨Nat.le_of_ble_eq_true rfl, Nat.le_of_ble_eq_true rfl⟩ (fun v7 H locs hv7 zv7 hWv7 hSv7 hf => ?_)
      refine m_callVi1 (z := false) (As := [.int (i32 v7)]) (rest := [.int (i32 4), .int (i32 x1), .ref (ad 230)]) X hWv7 hSv7 hl.1 gc_X6_234 hd_X6_seenAt ⟨rfl, rfl, Nat.le_of_ble_eq_true rfl, Nat.le_of_ble_eq_true rfl⟩ (rc_X6 X hWv7) (fun v q => ok_X6_seenAt hv7 q) hf rfl rfl (Nat.le_of_ble_eq_true rfl) dX6_mark_94 ⟨Nat.le_of_ble_eq_true rfl, Nat.le_of_ble_eq_true rfl⟩ (fun v8 H locs hv8 zv8 hWv8 hSv8 hf => ?_)
      refine lv_aload_n hx hb dX6_mark_97 rfl (lv_at hl 0 rfl) ?_
      refine lv_aload_n hx hb dX6_mark_98 rfl (lv_at hl 0 rfl) ?_
      refine lv_iload_n hx hb dX6_mark_99 rfl (lv_at hl 1 rfl) ?_
      refine m_callVi1 (z := false) (As := [.int (i32 x1)]) (rest := [.ref (ad 230), .int (i32 v8), .int (i32 4), .int (i32 x1), .ref (ad 230)]) X hWv8 hSv8 hl.1 gc_X6_231 hd_X6_lower ⟨rfl, rfl, Nat.le_of_ble_eq_true rfl, Nat.le_of_ble_eq_true rfl⟩ (rc_X6 X hWv8) (fun v q => ok_X6_lower hx1 q) hf rfl rfl (Nat.le_of_ble_eq_true rfl) dX6_mark_100 ⟨Nat.le_of_ble_eq_true rfl, Nat.le_of_ble_eq_true rfl⟩ (fun v9 H locs hv9 zv9 hWv9 hSv9 hf => ?_)
      refine lv_iload hx hb dX6_mark_103 (lv_at hl 4 rfl) ?_
      refine m_iadd hx hb hf dX6_mark_105 (fun v10 hv10 hf => ?_)
      refine m_const (v := 1) hx hb dX6_mark_106 rfl ?_
      refine m_isub hx hb hf dX6_mark_107 (fun v11 hv11 hf => ?_)
      refine m_callVi1 (z := false) (As := [.int (i32 v11)]) (rest := [.int (i32 v8), .int (i32 4), .int (i32 x1), .ref (ad 230)]) X hWv9 hSv9 hl.1 gc_X6_234 hd_X6_seenAt ⟨rfl, rfl, Nat.le_of_ble_eq_true rfl, Nat.le_of_ble_eq_true rfl⟩ (rc_X6 X hWv9) (fun v q => ok_X6_seenAt hv11 q) hf rfl rfl (Nat.le_of_ble_eq_true rfl) dX6_mark_108 ⟨Nat.le_of_ble_eq_true rfl, Nat.le_of_ble_eq_true rfl⟩ (fun v12 H locs hv12 zv12 hWv12 hSv12 hf => ?_)
      refine lv_iload_n hx hb dX6_mark_111 rfl (lv_at hl 2 rfl) ?_
      refine lv_iload_n hx hb dX6_mark_112 rfl (lv_at hl 3 rfl) ?_
      refine m_if_eq (tgt := 120) hx hb hx3 hf dX6_mark_113 (by decide) (fun hf => ?_) (fun hf => ?_)
      · skip
        refine m_const (v := 0) hx hb dX6_mark_120 rfl ?_
        exact hc121 _ _ _ _ 0 x2 v12 v8 4 x1 (by decide) hx2 hv12 hv8 (by decide) hx1 hf hWv12 hSv12 (lv_sub hl [] rfl)
      · skip
        refine m_const (v := 1) hx hb dX6_mark_116 rfl ?_
        refine lv_goto (tgt := 121) hx hb dX6_mark_117 (by decide) ?_
        exact hc121 _ _ _ _ 1 x2 v12 v8 4 x1 (by decide) hx2 hv12 hv8 (by decide) hx1 hf hWv12 hSv12 (lv_sub hl [] rfl)
    · skip
      refine m_const (v := 0) hx hb dX6_mark_81 rfl ?_
      refine lv_goto (tgt := 125) hx hb dX6_mark_82 (by decide) ?_
      exact m_ireti X hr hlocks rfl (by decide) (fun h => Bool.noConfusion h) hW6 hS6 (congrArg Prod.fst (Option.some.inj hf)) (congrArg Prod.snd (Option.some.inj hf)) hQ dX6_mark_125
  have hc66 : ∀ (σ : St) (H : Heap) (locs : List Loc) (ls : Array Slot) (x4 : Int), inR x4 → fX6_mark_J66 n σ x1 x2 x3 x4 = some (r, σ2) → Wd D cy ad nm nv σ H → va_S (AW ad nm nv sz) s.heap H locs → lv_has ls 5 [(0, .ref (ad 230)), (1, .int (i32 x1)), (2, .int (i32 x2)), (3, .int (i32 x3)), (4, .int (i32 x4))] → W p l e ({ frames := 7, cells := 0, slots := 0, locals := 156 } : Room) s m args below meth c H locs 0 0 Q (F0 m 66 ls [.ref (ad 230)]) := by
    intro σ H locs ls x4 hx4 hf hW hS hl
    unfold fX6_mark_J66 at hf
    refine m_const (v := 3) hx hb dX6_mark_66 rfl ?_
    refine lv_goto (tgt := 71) hx hb dX6_mark_67 (by decide) ?_
    exact hc71 _ _ _ _ x4 3 hx4 (by decide) hf hW hS (lv_sub hl [0, 1, 2, 3, 4] rfl)
  have hc26 : ∀ (σ : St) (H : Heap) (locs : List Loc) (ls : Array Slot) (t0 : Int), inR t0 → fX6_mark_J26 n σ x1 x2 x3 t0 = some (r, σ2) → Wd D cy ad nm nv σ H → va_S (AW ad nm nv sz) s.heap H locs → lv_has ls 5 [(0, .ref (ad 230)), (1, .int (i32 x1)), (2, .int (i32 x2)), (3, .int (i32 x3))] → W p l e ({ frames := 7, cells := 0, slots := 0, locals := 156 } : Room) s m args below meth c H locs 0 0 Q (F0 m 26 ls [.int (i32 t0), .ref (ad 230)]) := by
    intro σ H locs ls t0 ht0 hf hW hS hl
    unfold fX6_mark_J26 at hf
    refine p_X6_thrown X hW hS ht0 hf (X.2.2.2.2.1 _ mw1046) dX6_mark_26 (fun σ3 H locs hW3 hS3 hf => ?_)
    refine lv_aload_n hx hb dX6_mark_29 rfl (lv_at hl 0 rfl) ?_
    refine g_X6_thrown X hW3 (X.2.2.2.2.1 _ mw1046) dX6_mark_30 ?_
    refine m_if_le (tgt := 38) hx hb (hW3.2.1 _ _) hf dX6_mark_33 (by decide) (fun hf => ?_) (fun hf => ?_)
    · skip
      refine lv_aload_n hx hb dX6_mark_38 rfl (lv_at hl 0 rfl) ?_
      refine lv_iload_n hx hb dX6_mark_39 rfl (lv_at hl 1 rfl) ?_
      refine m_callVv (As := [.int (i32 x1)]) (rest := []) X hW3 hS3 hl.1 gc_X6_208 hd_X6_findsSite ⟨rfl, rfl, Nat.le_of_ble_eq_true rfl, Nat.le_of_ble_eq_true rfl⟩ (rc_X6 X hW3) (fun v q => ok_X6_findsSite hx1 q) hf rfl rfl (Nat.le_of_ble_eq_true rfl) dX6_mark_40 ⟨Nat.le_of_ble_eq_true rfl, Nat.le_of_ble_eq_true rfl⟩ (fun σ4 H locs hW4 hS4 hf => ?_)
      refine lv_aload_n hx hb dX6_mark_43 rfl (lv_at hl 0 rfl) ?_
      refine lv_iload_n hx hb dX6_mark_44 rfl (lv_at hl 1 rfl) ?_
      refine m_callVi1 (z := false) (As := [.int (i32 x1)]) (rest := []) X hW4 hS4 hl.1 gc_X6_228 hd_X6_selected ⟨rfl, rfl, Nat.le_of_ble_eq_true rfl, Nat.le_of_ble_eq_true rfl⟩ (rc_X6 X hW4) (fun v q => ok_X6_selected hx1 q) hf rfl rfl (Nat.le_of_ble_eq_true rfl) dX6_mark_45 ⟨Nat.le_of_ble_eq_true rfl, Nat.le_of_ble_eq_true rfl⟩ (fun v5 H locs hv5 zv5 hWv5 hSv5 hf => ?_)
      refine lv_istore (lv' := [(4, .int (i32 v5)), (0, .ref (ad 230)), (1, .int (i32 x1)), (2, .int (i32 x2)), (3, .int (i32 x3))]) hx hb dX6_mark_48 hl (by decide) rfl (fun ls hl => ?_)
      refine lv_aload_n hx hb dX6_mark_50 rfl (lv_at hl 1 rfl) ?_
      refine lv_iload hx hb dX6_mark_51 (lv_at hl 0 rfl) ?_
      refine m_if_eq (tgt := 66) hx hb hv5 hf dX6_mark_53 (by decide) (fun hf => ?_) (fun hf => ?_)
      · skip
        exact hc66 _ _ _ _ v5 hv5 hf hWv5 hSv5 (lv_sub hl [1, 2, 3, 4, 0] rfl)
      · skip
        refine lv_aload_n hx hb dX6_mark_56 rfl (lv_at hl 1 rfl) ?_
        refine g_X6_actMany X hWv5 (X.2.2.2.2.1 _ mw1047) dX6_mark_57 ?_
        refine m_sipush (v := 160) hx hb dX6_mark_60 (by decide) ?_
        refine m_icmp_ne (tgt := 70) hx hb (hWv5.2.1 _ _) (by decide) hf dX6_mark_63 (by decide) (fun hf => ?_) (fun hf => ?_)
        · skip
          refine m_const (v := 0) hx hb dX6_mark_70 rfl ?_
          exact hc71 _ _ _ _ v5 0 hv5 (by decide) hf hWv5 hSv5 (lv_sub hl [1, 2, 3, 4, 0] rfl)
        · skip
          exact hc66 _ _ _ _ v5 hv5 hf hWv5 hSv5 (lv_sub hl [1, 2, 3, 4, 0] rfl)
    · skip
      refine m_const (v := 0) hx hb dX6_mark_36 rfl ?_
      exact m_ireti X hr hlocks rfl (by decide) (fun h => Bool.noConfusion h) hW3 hS3 (congrArg Prod.fst (Option.some.inj hf)) (congrArg Prod.snd (Option.some.inj hf)) hQ dX6_mark_37
  refine lv_aload_n hx hb dX6_mark_0 rfl (lv_at hl 0 rfl) ?_
  refine lv_iload_n hx hb dX6_mark_1 rfl (lv_at hl 1 rfl) ?_
  refine m_callSi1 (z := true) (As := [.int (i32 x1)]) (rest := [.ref (ad 230)]) X hW hS hl.1 gc_X6_215 hd_X6_isSite ⟨rfl, rfl, Nat.le_of_ble_eq_true rfl, Nat.le_of_ble_eq_true rfl⟩ (fun v q => ok_X6_isSite hx1 q) hf rfl rfl (Nat.le_of_ble_eq_true rfl) dX6_mark_2 ⟨Nat.le_of_ble_eq_true rfl, Nat.le_of_ble_eq_true rfl⟩ (fun v1 H locs hv1 zv1 hWv1 hSv1 hf => ?_)
  refine m_if_ne (tgt := 12) hx hb hv1 hf dX6_mark_5 (by decide) (fun hf => ?_) (fun hf => ?_)
  · skip
    refine lv_iload_n hx hb dX6_mark_12 rfl (lv_at hl 2 rfl) ?_
    refine m_const (v := 0) hx hb dX6_mark_13 rfl ?_
    refine m_const (v := 1) hx hb dX6_mark_14 rfl ?_
    refine m_callSi1 (z := true) (As := [.int (i32 x2), .int (i32 0), .int (i32 1)]) (rest := [.ref (ad 230)]) X hWv1 hSv1 hl.1 gc_X6_130 hd_X6_isIn ⟨rfl, rfl, Nat.le_of_ble_eq_true rfl, Nat.le_of_ble_eq_true rfl⟩ (fun v q => ok_X6_isIn hx2 (by decide) (by decide) q) hf rfl rfl (Nat.le_of_ble_eq_true rfl) dX6_mark_15 ⟨Nat.le_of_ble_eq_true rfl, Nat.le_of_ble_eq_true rfl⟩ (fun v2 H locs hv2 zv2 hWv2 hSv2 hf => ?_)
    refine m_if_eq (tgt := 25) hx hb hv2 hf dX6_mark_18 (by decide) (fun hf => ?_) (fun hf => ?_)
    · skip
      refine m_const (v := 2) hx hb dX6_mark_25 rfl ?_
      exact hc26 _ _ _ _ 2 (by decide) hf hWv2 hSv2 (lv_sub hl [0, 1, 2, 3] rfl)
    · skip
      refine m_const (v := 0) hx hb dX6_mark_21 rfl ?_
      refine lv_goto (tgt := 26) hx hb dX6_mark_22 (by decide) ?_
      exact hc26 _ _ _ _ 0 (by decide) hf hWv2 hSv2 (lv_sub hl [0, 1, 2, 3] rfl)
  · skip
    refine m_const (v := 1) hx hb dX6_mark_8 rfl ?_
    refine lv_goto (tgt := 26) hx hb dX6_mark_9 (by decide) ?_
    exact hc26 _ _ _ _ 1 (by decide) hf hWv1 hSv1 (lv_sub hl [0, 1, 2, 3] rfl)
set_option maxRecDepth 100000 in
set_option maxHeartbeats 4000000 in
theorem ok_X6_comment {l : Launch} {D : va_G} {cy : Nat → ClassId} {ad : Nat → Nat} {nm nv sz : Nat} {σ : St} {n : Nat} {x1 : Int} {r : Int} {σ2 : St} (hx1 : inR x1) (hf : fX6_comment n σ x1 = some (r, σ2)) : CI l yX6_comment cX6_comment 3 (some .int) ({ frames := 7, cells := 0, slots := 0, locals := 156 } : Room) [.ref (ad 230), .int (i32 x1)] D cy ad nm nv sz σ false r σ2 := by
  refine m_entry RX6 rfl (by decide +kernel) (Nat.le_of_ble_eq_true rfl) ?_
  intro p e s m args below meth c Q hQ hr hlocks X hW hS ls hl
  have hx := X.1
  have hb := X.2.1
  have hl : lv_has ls 3 [(0, .ref (ad 230)), (1, .int (i32 x1))] := hl
  unfold fX6_comment at hf
  have hc53 : ∀ (σ : St) (H : Heap) (locs : List Loc) (ls : Array Slot) (x2 : Int) (t0 : Int), inR x2 → inR t0 → fX6_comment_J53 n σ x1 x2 t0 = some (r, σ2) → Wd D cy ad nm nv σ H → va_S (AW ad nm nv sz) s.heap H locs → lv_has ls 3 [(0, .ref (ad 230)), (1, .int (i32 x1)), (2, .int (i32 x2))] → W p l e ({ frames := 7, cells := 0, slots := 0, locals := 156 } : Room) s m args below meth c H locs 0 0 Q (F0 m 53 ls [.int (i32 t0), .ref (ad 230)]) := by
    intro σ H locs ls x2 t0 hx2 ht0 hf hW hS hl
    unfold fX6_comment_J53 at hf
    refine p_X6_thrown X hW hS ht0 hf (X.2.2.2.2.1 _ mw1046) dX6_comment_53 (fun σ6 H locs hW6 hS6 hf => ?_)
    refine lv_aload_n hx hb dX6_comment_56 rfl (lv_at hl 0 rfl) ?_
    refine g_X6_thrown X hW6 (X.2.2.2.2.1 _ mw1046) dX6_comment_57 ?_
    refine m_if_le (tgt := 65) hx hb (hW6.2.1 _ _) hf dX6_comment_60 (by decide) (fun hf => ?_) (fun hf => ?_)
    · skip
      refine lv_aload_n hx hb dX6_comment_65 rfl (lv_at hl 0 rfl) ?_
      refine g_X6_commentOf X hW6 (X.2.2.2.2.1 _ mw1057) dX6_comment_66 ?_
      refine lv_aload_n hx hb dX6_comment_69 rfl (lv_at hl 0 rfl) ?_
      refine g_X6_actMany X hW6 (X.2.2.2.2.1 _ mw1047) dX6_comment_70 ?_
      refine lv_aload_n hx hb dX6_comment_73 rfl (lv_at hl 0 rfl) ?_
      refine g_X6_commentMany X hW6 (X.2.2.2.2.1 _ mw1056) dX6_comment_74 ?_
      refine m_iast X hW6 hS6 a_X6_commentOf (hW6.2.1 _ _) (hW6.2.1 _ _) hf dX6_comment_77 (fun σ7 H locs hW7 hS7 hf => ?_)
      refine lv_aload_n hx hb dX6_comment_78 rfl (lv_at hl 0 rfl) ?_
      refine lv_dup hx hb dX6_comment_79 rfl ?_
      refine g_X6_commentMany X hW7 (X.2.2.2.2.1 _ mw1056) dX6_comment_80 ?_
      refine m_const (v := 1) hx hb dX6_comment_83 rfl ?_
      refine m_iadd hx hb hf dX6_comment_84 (fun v8 hv8 hf => ?_)
      refine p_X6_commentMany X hW7 hS7 hv8 hf (X.2.2.2.2.1 _ mw1056) dX6_comment_85 (fun σ9 H locs hW9 hS9 hf => ?_)
      refine lv_aload_n hx hb dX6_comment_88 rfl (lv_at hl 0 rfl) ?_
      refine lv_iload_n hx hb dX6_comment_89 rfl (lv_at hl 1 rfl) ?_
      refine m_bipush (v := 7) hx hb dX6_comment_90 (by decide) ?_
      refine lv_aload_n hx hb dX6_comment_92 rfl (lv_at hl 0 rfl) ?_
      refine lv_aload_n hx hb dX6_comment_93 rfl (lv_at hl 0 rfl) ?_
      refine lv_iload_n hx hb dX6_comment_94 rfl (lv_at hl 1 rfl) ?_
      refine m_callVi1 (z := false) (As := [.int (i32 x1)]) (rest := [.ref (ad 230), .int (i32 7), .int (i32 x1), .ref (ad 230)]) X hW9 hS9 hl.1 gc_X6_231 hd_X6_lower ⟨rfl, rfl, Nat.le_of_ble_eq_true rfl, Nat.le_of_ble_eq_true rfl⟩ (rc_X6 X hW9) (fun v q => ok_X6_lower hx1 q) hf rfl rfl (Nat.le_of_ble_eq_true rfl) dX6_comment_95 ⟨Nat.le_of_ble_eq_true rfl, Nat.le_of_ble_eq_true rfl⟩ (fun v10 H locs hv10 zv10 hWv10 hSv10 hf => ?_)
      refine m_callVi1 (z := false) (As := [.int (i32 v10)]) (rest := [.int (i32 7), .int (i32 x1), .ref (ad 230)]) X hWv10 hSv10 hl.1 gc_X6_234 hd_X6_seenAt ⟨rfl, rfl, Nat.le_of_ble_eq_true rfl, Nat.le_of_ble_eq_true rfl⟩ (rc_X6 X hWv10) (fun v q => ok_X6_seenAt hv10 q) hf rfl rfl (Nat.le_of_ble_eq_true rfl) dX6_comment_98 ⟨Nat.le_of_ble_eq_true rfl, Nat.le_of_ble_eq_true rfl⟩ (fun v11 H locs hv11 zv11 hWv11 hSv11 hf => ?_)
      refine lv_aload_n hx hb dX6_comment_101 rfl (lv_at hl 0 rfl) ?_
      refine lv_aload_n hx hb dX6_comment_102 rfl (lv_at hl 0 rfl) ?_
      refine lv_iload_n hx hb dX6_comment_103 rfl (lv_at hl 1 rfl) ?_
      refine m_callVi1 (z := false) (As := [.int (i32 x1)]) (rest := [.ref (ad 230), .int (i32 v11), .int (i32 7), .int (i32 x1), .ref (ad 230)]) X hWv11 hSv11 hl.1 gc_X6_231 hd_X6_lower ⟨rfl, rfl, Nat.le_of_ble_eq_true rfl, Nat.le_of_ble_eq_true rfl⟩ (rc_X6 X hWv11) (fun v q => ok_X6_lower hx1 q) hf rfl rfl (Nat.le_of_ble_eq_true rfl) dX6_comment_104 ⟨Nat.le_of_ble_eq_true rfl, Nat.le_of_ble_eq_true rfl⟩ (fun v12 H locs hv12 zv12 hWv12 hSv12 hf => ?_)
      refine lv_iload_n hx hb dX6_comment_107 rfl (lv_at hl 2 rfl) ?_
      refine m_iadd hx hb hf dX6_comment_108 (fun v13 hv13 hf => ?_)
      refine m_const (v := 1) hx hb dX6_comment_109 rfl ?_
      refine m_isub hx hb hf dX6_comment_110 (fun v14 hv14 hf => ?_)
      refine m_callVi1 (z := false) (As := [.int (i32 v14)]) (rest := [.int (i32 v11), .int (i32 7), .int (i32 x1), .ref (ad 230)]) X hWv12 hSv12 hl.1 gc_X6_234 hd_X6_seenAt ⟨rfl, rfl, Nat.le_of_ble_eq_true rfl, Nat.le_of_ble_eq_true rfl⟩ (rc_X6 X hWv12) (fun v q => ok_X6_seenAt hv14 q) hf rfl rfl (Nat.le_of_ble_eq_true rfl) dX6_comment_111 ⟨Nat.le_of_ble_eq_true rfl, Nat.le_of_ble_eq_true rfl⟩ (fun v15 H locs hv15 zv15 hWv15 hSv15 hf => ?_)
      refine m_const (v := 0) hx hb dX6_comment_114 rfl ?_
      refine m_const (v := 0) hx hb dX6_comment_115 rfl ?_
      refine m_const (v := 0) hx hb dX6_comment_116 rfl ?_
      refine m_callVi (z := false) (As := [.int (i32 x1), .int (i32 7), .int (i32 v11), .int (i32 v15), .int (i32 0), .int (i32 0), .int (i32 0)]) (rest := []) X hWv15 hSv15 hl.1 gc_X6_211 hd_X6_makes ⟨rfl, rfl, Nat.le_of_ble_eq_true rfl, Nat.le_of_ble_eq_true rfl⟩ (rc_X6 X hWv15) (fun v q9 q => ok_X6_makes hx1 (by decide) hv11 hv15 (by decide) (by decide) (by decide) q) hf rfl rfl (Nat.le_of_ble_eq_true rfl) dX6_comment_117 ⟨Nat.le_of_ble_eq_true rfl, Nat.le_of_ble_eq_true rfl⟩ (fun v17 σ16 H locs hv17 zv17 hW16 hS16 hf => ?_)
      exact m_ireti X hr hlocks rfl hv17 (fun h => Bool.noConfusion h) hW16 hS16 (congrArg Prod.fst (Option.some.inj hf)) (congrArg Prod.snd (Option.some.inj hf)) hQ dX6_comment_120
    · skip
      refine m_const (v := 0) hx hb dX6_comment_63 rfl ?_
      exact m_ireti X hr hlocks rfl (by decide) (fun h => Bool.noConfusion h) hW6 hS6 (congrArg Prod.fst (Option.some.inj hf)) (congrArg Prod.snd (Option.some.inj hf)) hQ dX6_comment_64
  have hc48 : ∀ (σ : St) (H : Heap) (locs : List Loc) (ls : Array Slot) (x2 : Int), inR x2 → fX6_comment_J48 n σ x1 x2 = some (r, σ2) → Wd D cy ad nm nv σ H → va_S (AW ad nm nv sz) s.heap H locs → lv_has ls 3 [(0, .ref (ad 230)), (1, .int (i32 x1)), (2, .int (i32 x2))] → W p l e ({ frames := 7, cells := 0, slots := 0, locals := 156 } : Room) s m args below meth c H locs 0 0 Q (F0 m 48 ls [.ref (ad 230)]) := by
    intro σ H locs ls x2 hx2 hf hW hS hl
    unfold fX6_comment_J48 at hf
    refine m_const (v := 2) hx hb dX6_comment_48 rfl ?_
    refine lv_goto (tgt := 53) hx hb dX6_comment_49 (by decide) ?_
    exact hc53 _ _ _ _ x2 2 hx2 (by decide) hf hW hS (lv_sub hl [0, 1, 2] rfl)
  refine lv_iload_n hx hb dX6_comment_0 rfl (lv_at hl 1 rfl) ?_
  refine m_callSi1 (z := true) (As := [.int (i32 x1)]) (rest := []) X hW hS hl.1 gc_X6_215 hd_X6_isSite ⟨rfl, rfl, Nat.le_of_ble_eq_true rfl, Nat.le_of_ble_eq_true rfl⟩ (fun v q => ok_X6_isSite hx1 q) hf rfl rfl (Nat.le_of_ble_eq_true rfl) dX6_comment_1 ⟨Nat.le_of_ble_eq_true rfl, Nat.le_of_ble_eq_true rfl⟩ (fun v1 H locs hv1 zv1 hWv1 hSv1 hf => ?_)
  refine m_if_ne (tgt := 13) hx hb hv1 hf dX6_comment_4 (by decide) (fun hf => ?_) (fun hf => ?_)
  · skip
    refine lv_aload_n hx hb dX6_comment_13 rfl (lv_at hl 0 rfl) ?_
    refine lv_iload_n hx hb dX6_comment_14 rfl (lv_at hl 1 rfl) ?_
    refine m_callVv (As := [.int (i32 x1)]) (rest := []) X hWv1 hSv1 hl.1 gc_X6_208 hd_X6_findsSite ⟨rfl, rfl, Nat.le_of_ble_eq_true rfl, Nat.le_of_ble_eq_true rfl⟩ (rc_X6 X hWv1) (fun v q => ok_X6_findsSite hx1 q) hf rfl rfl (Nat.le_of_ble_eq_true rfl) dX6_comment_15 ⟨Nat.le_of_ble_eq_true rfl, Nat.le_of_ble_eq_true rfl⟩ (fun σ2 H locs hW2 hS2 hf => ?_)
    refine lv_aload_n hx hb dX6_comment_18 rfl (lv_at hl 0 rfl) ?_
    refine lv_iload_n hx hb dX6_comment_19 rfl (lv_at hl 1 rfl) ?_
    refine m_callVi1 (z := false) (As := [.int (i32 x1)]) (rest := []) X hW2 hS2 hl.1 gc_X6_228 hd_X6_selected ⟨rfl, rfl, Nat.le_of_ble_eq_true rfl, Nat.le_of_ble_eq_true rfl⟩ (rc_X6 X hW2) (fun v q => ok_X6_selected hx1 q) hf rfl rfl (Nat.le_of_ble_eq_true rfl) dX6_comment_20 ⟨Nat.le_of_ble_eq_true rfl, Nat.le_of_ble_eq_true rfl⟩ (fun v3 H locs hv3 zv3 hWv3 hSv3 hf => ?_)
    refine lv_istore_n (lv' := [(2, .int (i32 v3)), (0, .ref (ad 230)), (1, .int (i32 x1))]) hx hb dX6_comment_23 rfl hl (by decide) rfl (fun ls hl => ?_)
    refine lv_aload_n hx hb dX6_comment_24 rfl (lv_at hl 1 rfl) ?_
    refine lv_iload_n hx hb dX6_comment_25 rfl (lv_at hl 0 rfl) ?_
    refine m_if_eq (tgt := 48) hx hb hv3 hf dX6_comment_26 (by decide) (fun hf => ?_) (fun hf => ?_)
    · skip
      exact hc48 _ _ _ _ v3 hv3 hf hWv3 hSv3 (lv_sub hl [1, 2, 0] rfl)
    · skip
      refine lv_aload_n hx hb dX6_comment_29 rfl (lv_at hl 1 rfl) ?_
      refine g_X6_commentMany X hWv3 (X.2.2.2.2.1 _ mw1056) dX6_comment_30 ?_
      refine m_bipush (v := 20) hx hb dX6_comment_33 (by decide) ?_
      refine m_icmp_eq (tgt := 48) hx hb (hWv3.2.1 _ _) (by decide) hf dX6_comment_35 (by decide) (fun hf => ?_) (fun hf => ?_)
      · skip
        exact hc48 _ _ _ _ v3 hv3 hf hWv3 hSv3 (lv_sub hl [1, 2, 0] rfl)
      · skip
        refine lv_aload_n hx hb dX6_comment_38 rfl (lv_at hl 1 rfl) ?_
        refine g_X6_actMany X hWv3 (X.2.2.2.2.1 _ mw1047) dX6_comment_39 ?_
        refine m_sipush (v := 160) hx hb dX6_comment_42 (by decide) ?_
        refine m_icmp_ne (tgt := 52) hx hb (hWv3.2.1 _ _) (by decide) hf dX6_comment_45 (by decide) (fun hf => ?_) (fun hf => ?_)
        · skip
          refine m_const (v := 0) hx hb dX6_comment_52 rfl ?_
          exact hc53 _ _ _ _ v3 0 hv3 (by decide) hf hWv3 hSv3 (lv_sub hl [1, 2, 0] rfl)
        · skip
          exact hc48 _ _ _ _ v3 hv3 hf hWv3 hSv3 (lv_sub hl [1, 2, 0] rfl)
  · skip
    refine lv_aload_n hx hb dX6_comment_7 rfl (lv_at hl 0 rfl) ?_
    refine m_const (v := 1) hx hb dX6_comment_8 rfl ?_
    refine m_callVi (z := false) (As := [.int (i32 1)]) (rest := []) X hWv1 hSv1 hl.1 gc_X6_222 hd_X6_fails ⟨rfl, rfl, Nat.le_of_ble_eq_true rfl, Nat.le_of_ble_eq_true rfl⟩ (rc_X6 X hWv1) (fun v q9 q => ok_X6_fails (by decide) q) hf rfl rfl (Nat.le_of_ble_eq_true rfl) dX6_comment_9 ⟨Nat.le_of_ble_eq_true rfl, Nat.le_of_ble_eq_true rfl⟩ (fun v5 σ4 H locs hv5 zv5 hW4 hS4 hf => ?_)
    exact m_ireti X hr hlocks rfl hv5 (fun h => Bool.noConfusion h) hW4 hS4 (congrArg Prod.fst (Option.some.inj hf)) (congrArg Prod.snd (Option.some.inj hf)) hQ dX6_comment_12
set_option maxRecDepth 100000 in
set_option maxHeartbeats 4000000 in
theorem ok_X6_shownBlocks {l : Launch} {D : va_G} {cy : Nat → ClassId} {ad : Nat → Nat} {nm nv sz : Nat} {σ : St} {n : Nat} {r : Int} (hf : fX6_shownBlocks n σ = some r) : CI l yX6_shownBlocks cX6_shownBlocks 3 (some .int) ({ frames := 1, cells := 0, slots := 0, locals := 21 } : Room) [.ref (ad 230)] D cy ad nm nv sz σ false r σ := by
  refine m_entry RX6 rfl (by decide +kernel) (Nat.le_of_ble_eq_true rfl) ?_
  intro p e s m args below meth c Q hQ hr hlocks X hW hS ls hl
  have hx := X.1
  have hb := X.2.1
  have hl : lv_has ls 3 [(0, .ref (ad 230))] := hl
  unfold fX6_shownBlocks at hf
  have hc4 : ∀ (k4 : Nat) (H : Heap) (locs : List Loc) (ls : Array Slot) (x1 : Int) (x2 : Int), inR x1 → inR x2 → fX6_shownBlocks_L4 n σ k4 x1 x2 = some r → Wd D cy ad nm nv σ H → va_S (AW ad nm nv sz) s.heap H locs → lv_has ls 3 [(0, .ref (ad 230)), (1, .int (i32 x1)), (2, .int (i32 x2))] → W p l e ({ frames := 1, cells := 0, slots := 0, locals := 21 } : Room) s m args below meth c H locs 0 0 Q (F0 m 4 ls []) := by
    intro k4
    induction k4 with
    | zero =>
      intro H locs ls x1 x2 hx1 hx2 hf
      have hf : (none : Option Int) = some r := hf
      cases hf
    | succ k4 ih4 =>
      intro H locs ls x1 x2 hx1 hx2 hf hW hS hl
      have hf : fX6_shownBlocks_L4s n σ (fX6_shownBlocks_L4 n σ k4) x1 x2 = some r := hf
      unfold fX6_shownBlocks_L4s at hf
      refine lv_iload_n hx hb dX6_shownBlocks_4 rfl (lv_at hl 2 rfl) ?_
      refine lv_aload_n hx hb dX6_shownBlocks_5 rfl (lv_at hl 0 rfl) ?_
      refine g_X6_rowMany X hW (X.2.2.2.2.1 _ mw1078) dX6_shownBlocks_6 ?_
      refine m_icmp_ge (tgt := 54) hx hb hx2 (hW.2.1 _ _) hf dX6_shownBlocks_9 (by decide) (fun hf => ?_) (fun hf => ?_)
      · skip
        refine lv_iload_n hx hb dX6_shownBlocks_54 rfl (lv_at hl 1 rfl) ?_
        exact m_ireti X hr hlocks rfl hx1 (fun h => Bool.noConfusion h) hW hS (Option.some.inj hf) rfl hQ dX6_shownBlocks_55
      · skip
        refine lv_iload_n hx hb dX6_shownBlocks_12 rfl (lv_at hl 1 rfl) ?_
        refine lv_aload_n hx hb dX6_shownBlocks_13 rfl (lv_at hl 0 rfl) ?_
        refine g_X6_kinds X hW (X.2.2.2.2.1 _ mw1050) dX6_shownBlocks_14 ?_
        refine lv_aload_n hx hb dX6_shownBlocks_17 rfl (lv_at hl 0 rfl) ?_
        refine g_X6_row X hW (X.2.2.2.2.1 _ mw1079) dX6_shownBlocks_18 ?_
        refine lv_iload_n hx hb dX6_shownBlocks_21 rfl (lv_at hl 2 rfl) ?_
        refine m_iald X hW a_X6_row hx2 hf dX6_shownBlocks_22 (fun v1 hv1 hf => ?_)
        refine m_iald X hW a_X6_kinds hv1 hf dX6_shownBlocks_23 (fun v2 hv2 hf => ?_)
        refine m_const (v := 1) hx hb dX6_shownBlocks_24 rfl ?_
        refine m_icmp_ne (tgt := 45) hx hb hv2 (by decide) hf dX6_shownBlocks_25 (by decide) (fun hf => ?_) (fun hf => ?_)
        · skip
          refine m_const (v := 0) hx hb dX6_shownBlocks_45 rfl ?_
          refine m_iadd hx hb hf dX6_shownBlocks_46 (fun v3 hv3 hf => ?_)
          refine lv_istore_n (lv' := [(1, .int (i32 v3)), (0, .ref (ad 230)), (2, .int (i32 x2))]) hx hb dX6_shownBlocks_47 rfl hl (by decide) rfl (fun ls hl => ?_)
          refine m_iinc (k0 := 2) (fun v4 => [(2, .int (i32 v4)), (1, .int (i32 v3)), (0, .ref (ad 230))]) hx hb hf dX6_shownBlocks_48 hl rfl (by decide) (fun _ => rfl) (fun v4 ls hv4 hf hl => ?_)
          have hl : lv_has ls 3 [(2, .int (i32 v4)), (1, .int (i32 v3)), (0, .ref (ad 230))] := hl
          refine lv_goto (tgt := 4) hx hb dX6_shownBlocks_51 (by decide) ?_
          exact ih4 _ _ _ v3 v4 hv3 hv4 hf hW hS (lv_sub hl [2, 1, 0] rfl)
        · skip
          refine lv_aload_n hx hb dX6_shownBlocks_28 rfl (lv_at hl 0 rfl) ?_
          refine lv_aload_n hx hb dX6_shownBlocks_29 rfl (lv_at hl 0 rfl) ?_
          refine g_X6_row X hW (X.2.2.2.2.1 _ mw1079) dX6_shownBlocks_30 ?_
          refine lv_iload_n hx hb dX6_shownBlocks_33 rfl (lv_at hl 2 rfl) ?_
          refine m_iald X hW a_X6_row hx2 hf dX6_shownBlocks_34 (fun v5 hv5 hf => ?_)
          refine m_callVi1 (z := true) (As := [.int (i32 v5)]) (rest := [.int (i32 x1)]) X hW hS hl.1 gc_X6_147 hd_X6_isShown ⟨rfl, rfl, Nat.le_of_ble_eq_true rfl, Nat.le_of_ble_eq_true rfl⟩ (rc_X6 X hW) (fun v q => ok_X6_isShown hv5 q) hf rfl rfl (Nat.le_of_ble_eq_true rfl) dX6_shownBlocks_35 ⟨Nat.le_of_ble_eq_true rfl, Nat.le_of_ble_eq_true rfl⟩ (fun v6 H locs hv6 zv6 hWv6 hSv6 hf => ?_)
          refine m_if_eq (tgt := 45) hx hb hv6 hf dX6_shownBlocks_38 (by decide) (fun hf => ?_) (fun hf => ?_)
          · skip
            refine m_const (v := 0) hx hb dX6_shownBlocks_45 rfl ?_
            refine m_iadd hx hb hf dX6_shownBlocks_46 (fun v7 hv7 hf => ?_)
            refine lv_istore_n (lv' := [(1, .int (i32 v7)), (0, .ref (ad 230)), (2, .int (i32 x2))]) hx hb dX6_shownBlocks_47 rfl hl (by decide) rfl (fun ls hl => ?_)
            refine m_iinc (k0 := 2) (fun v8 => [(2, .int (i32 v8)), (1, .int (i32 v7)), (0, .ref (ad 230))]) hx hb hf dX6_shownBlocks_48 hl rfl (by decide) (fun _ => rfl) (fun v8 ls hv8 hf hl => ?_)
            have hl : lv_has ls 3 [(2, .int (i32 v8)), (1, .int (i32 v7)), (0, .ref (ad 230))] := hl
            refine lv_goto (tgt := 4) hx hb dX6_shownBlocks_51 (by decide) ?_
            exact ih4 _ _ _ v7 v8 hv7 hv8 hf hWv6 hSv6 (lv_sub hl [2, 1, 0] rfl)
          · skip
            refine m_const (v := 1) hx hb dX6_shownBlocks_41 rfl ?_
            refine lv_goto (tgt := 46) hx hb dX6_shownBlocks_42 (by decide) ?_
            refine m_iadd hx hb hf dX6_shownBlocks_46 (fun v9 hv9 hf => ?_)
            refine lv_istore_n (lv' := [(1, .int (i32 v9)), (0, .ref (ad 230)), (2, .int (i32 x2))]) hx hb dX6_shownBlocks_47 rfl hl (by decide) rfl (fun ls hl => ?_)
            refine m_iinc (k0 := 2) (fun v10 => [(2, .int (i32 v10)), (1, .int (i32 v9)), (0, .ref (ad 230))]) hx hb hf dX6_shownBlocks_48 hl rfl (by decide) (fun _ => rfl) (fun v10 ls hv10 hf hl => ?_)
            have hl : lv_has ls 3 [(2, .int (i32 v10)), (1, .int (i32 v9)), (0, .ref (ad 230))] := hl
            refine lv_goto (tgt := 4) hx hb dX6_shownBlocks_51 (by decide) ?_
            exact ih4 _ _ _ v9 v10 hv9 hv10 hf hWv6 hSv6 (lv_sub hl [2, 1, 0] rfl)
  refine m_const (v := 1) hx hb dX6_shownBlocks_0 rfl ?_
  refine lv_istore_n (lv' := [(1, .int (i32 1)), (0, .ref (ad 230))]) hx hb dX6_shownBlocks_1 rfl hl (by decide) rfl (fun ls hl => ?_)
  refine m_const (v := 0) hx hb dX6_shownBlocks_2 rfl ?_
  refine lv_istore_n (lv' := [(2, .int (i32 0)), (1, .int (i32 1)), (0, .ref (ad 230))]) hx hb dX6_shownBlocks_3 rfl hl (by decide) rfl (fun ls hl => ?_)
  exact hc4 n _ _ _ 1 0 (by decide) (by decide) hf hW hS (lv_sub hl [2, 1, 0] rfl)
set_option maxRecDepth 100000 in
set_option maxHeartbeats 4000000 in
theorem ok_X6_blockNumber {l : Launch} {D : va_G} {cy : Nat → ClassId} {ad : Nat → Nat} {nm nv sz : Nat} {σ : St} {n : Nat} {x1 : Int} {r : Int} (hx1 : inR x1) (hf : fX6_blockNumber n σ x1 = some r) : CI l yX6_blockNumber cX6_blockNumber 5 (some .int) ({ frames := 1, cells := 0, slots := 0, locals := 21 } : Room) [.ref (ad 230), .int (i32 x1)] D cy ad nm nv sz σ false r σ := by
  refine m_entry RX6 rfl (by decide +kernel) (Nat.le_of_ble_eq_true rfl) ?_
  intro p e s m args below meth c Q hQ hr hlocks X hW hS ls hl
  have hx := X.1
  have hb := X.2.1
  have hl : lv_has ls 5 [(0, .ref (ad 230)), (1, .int (i32 x1))] := hl
  unfold fX6_blockNumber at hf
  have hc7 : ∀ (k7 : Nat) (H : Heap) (locs : List Loc) (ls : Array Slot) (x2 : Int) (x3 : Int) (x4 : Int), inR x2 → inR x3 → inR x4 → fX6_blockNumber_L7 n σ x1 k7 x2 x3 x4 = some r → Wd D cy ad nm nv σ H → va_S (AW ad nm nv sz) s.heap H locs → lv_has ls 5 [(0, .ref (ad 230)), (1, .int (i32 x1)), (2, .int (i32 x2)), (3, .int (i32 x3)), (4, .int (i32 x4))] → W p l e ({ frames := 1, cells := 0, slots := 0, locals := 21 } : Room) s m args below meth c H locs 0 0 Q (F0 m 7 ls []) := by
    intro k7
    induction k7 with
    | zero =>
      intro H locs ls x2 x3 x4 hx2 hx3 hx4 hf
      have hf : (none : Option Int) = some r := hf
      cases hf
    | succ k7 ih7 =>
      intro H locs ls x2 x3 x4 hx2 hx3 hx4 hf hW hS hl
      have hf : fX6_blockNumber_L7s n σ x1 (fX6_blockNumber_L7 n σ x1 k7) x2 x3 x4 = some r := hf
      unfold fX6_blockNumber_L7s at hf
      refine lv_iload hx hb dX6_blockNumber_7 (lv_at hl 4 rfl) ?_
      refine lv_aload_n hx hb dX6_blockNumber_9 rfl (lv_at hl 0 rfl) ?_
      refine g_X6_rowMany X hW (X.2.2.2.2.1 _ mw1078) dX6_blockNumber_10 ?_
      refine m_icmp_ge (tgt := 72) hx hb hx4 (hW.2.1 _ _) hf dX6_blockNumber_13 (by decide) (fun hf => ?_) (fun hf => ?_)
      · skip
        refine lv_iload_n hx hb dX6_blockNumber_72 rfl (lv_at hl 3 rfl) ?_
        exact m_ireti X hr hlocks rfl hx3 (fun h => Bool.noConfusion h) hW hS (Option.some.inj hf) rfl hQ dX6_blockNumber_73
      · skip
        refine lv_aload_n hx hb dX6_blockNumber_16 rfl (lv_at hl 0 rfl) ?_
        refine g_X6_kinds X hW (X.2.2.2.2.1 _ mw1050) dX6_blockNumber_17 ?_
        refine lv_aload_n hx hb dX6_blockNumber_20 rfl (lv_at hl 0 rfl) ?_
        refine g_X6_row X hW (X.2.2.2.2.1 _ mw1079) dX6_blockNumber_21 ?_
        refine lv_iload hx hb dX6_blockNumber_24 (lv_at hl 4 rfl) ?_
        refine m_iald X hW a_X6_row hx4 hf dX6_blockNumber_26 (fun v1 hv1 hf => ?_)
        refine m_iald X hW a_X6_kinds hv1 hf dX6_blockNumber_27 (fun v2 hv2 hf => ?_)
        refine m_const (v := 1) hx hb dX6_blockNumber_28 rfl ?_
        refine m_icmp_ne (tgt := 66) hx hb hv2 (by decide) hf dX6_blockNumber_29 (by decide) (fun hf => ?_) (fun hf => ?_)
        · skip
          refine m_iinc (k0 := 4) (fun v3 => [(4, .int (i32 v3)), (0, .ref (ad 230)), (1, .int (i32 x1)), (2, .int (i32 x2)), (3, .int (i32 x3))]) hx hb hf dX6_blockNumber_66 hl rfl (by decide) (fun _ => rfl) (fun v3 ls hv3 hf hl => ?_)
          have hl : lv_has ls 5 [(4, .int (i32 v3)), (0, .ref (ad 230)), (1, .int (i32 x1)), (2, .int (i32 x2)), (3, .int (i32 x3))] := hl
          refine lv_goto (tgt := 7) hx hb dX6_blockNumber_69 (by decide) ?_
          exact ih7 _ _ _ x2 x3 v3 hx2 hx3 hv3 hf hW hS (lv_sub hl [1, 2, 3, 4, 0] rfl)
        · skip
          refine lv_aload_n hx hb dX6_blockNumber_32 rfl (lv_at hl 0 rfl) ?_
          refine lv_aload_n hx hb dX6_blockNumber_33 rfl (lv_at hl 0 rfl) ?_
          refine g_X6_row X hW (X.2.2.2.2.1 _ mw1079) dX6_blockNumber_34 ?_
          refine lv_iload hx hb dX6_blockNumber_37 (lv_at hl 4 rfl) ?_
          refine m_iald X hW a_X6_row hx4 hf dX6_blockNumber_39 (fun v4 hv4 hf => ?_)
          refine m_callVi1 (z := true) (As := [.int (i32 v4)]) (rest := []) X hW hS hl.1 gc_X6_147 hd_X6_isShown ⟨rfl, rfl, Nat.le_of_ble_eq_true rfl, Nat.le_of_ble_eq_true rfl⟩ (rc_X6 X hW) (fun v q => ok_X6_isShown hv4 q) hf rfl rfl (Nat.le_of_ble_eq_true rfl) dX6_blockNumber_40 ⟨Nat.le_of_ble_eq_true rfl, Nat.le_of_ble_eq_true rfl⟩ (fun v5 H locs hv5 zv5 hWv5 hSv5 hf => ?_)
          refine m_if_eq (tgt := 66) hx hb hv5 hf dX6_blockNumber_43 (by decide) (fun hf => ?_) (fun hf => ?_)
          · skip
            refine m_iinc (k0 := 4) (fun v6 => [(4, .int (i32 v6)), (0, .ref (ad 230)), (1, .int (i32 x1)), (2, .int (i32 x2)), (3, .int (i32 x3))]) hx hb hf dX6_blockNumber_66 hl rfl (by decide) (fun _ => rfl) (fun v6 ls hv6 hf hl => ?_)
            have hl : lv_has ls 5 [(4, .int (i32 v6)), (0, .ref (ad 230)), (1, .int (i32 x1)), (2, .int (i32 x2)), (3, .int (i32 x3))] := hl
            refine lv_goto (tgt := 7) hx hb dX6_blockNumber_69 (by decide) ?_
            exact ih7 _ _ _ x2 x3 v6 hx2 hx3 hv6 hf hWv5 hSv5 (lv_sub hl [1, 2, 3, 4, 0] rfl)
          · skip
            refine m_iinc (k0 := 2) (fun v7 => [(2, .int (i32 v7)), (0, .ref (ad 230)), (1, .int (i32 x1)), (3, .int (i32 x3)), (4, .int (i32 x4))]) hx hb hf dX6_blockNumber_46 hl rfl (by decide) (fun _ => rfl) (fun v7 ls hv7 hf hl => ?_)
            have hl : lv_has ls 5 [(2, .int (i32 v7)), (0, .ref (ad 230)), (1, .int (i32 x1)), (3, .int (i32 x3)), (4, .int (i32 x4))] := hl
            refine lv_iload_n hx hb dX6_blockNumber_49 rfl (lv_at hl 0 rfl) ?_
            refine lv_iload_n hx hb dX6_blockNumber_50 rfl (lv_at hl 2 rfl) ?_
            refine m_icmp_ne (tgt := 64) hx hb hv7 hx1 hf dX6_blockNumber_51 (by decide) (fun hf => ?_) (fun hf => ?_)
            · skip
              refine lv_iload_n hx hb dX6_blockNumber_64 rfl (lv_at hl 3 rfl) ?_
              refine lv_istore_n (lv' := [(3, .int (i32 x3)), (2, .int (i32 v7)), (0, .ref (ad 230)), (1, .int (i32 x1)), (4, .int (i32 x4))]) hx hb dX6_blockNumber_65 rfl hl (by decide) rfl (fun ls hl => ?_)
              refine m_iinc (k0 := 4) (fun v8 => [(4, .int (i32 v8)), (3, .int (i32 x3)), (2, .int (i32 v7)), (0, .ref (ad 230)), (1, .int (i32 x1))]) hx hb hf dX6_blockNumber_66 hl rfl (by decide) (fun _ => rfl) (fun v8 ls hv8 hf hl => ?_)
              have hl : lv_has ls 5 [(4, .int (i32 v8)), (3, .int (i32 x3)), (2, .int (i32 v7)), (0, .ref (ad 230)), (1, .int (i32 x1))] := hl
              refine lv_goto (tgt := 7) hx hb dX6_blockNumber_69 (by decide) ?_
              exact ih7 _ _ _ v7 x3 v8 hv7 hx3 hv8 hf hWv5 hSv5 (lv_sub hl [3, 4, 2, 1, 0] rfl)
            · skip
              refine lv_aload_n hx hb dX6_blockNumber_54 rfl (lv_at hl 1 rfl) ?_
              refine g_X6_row X hWv5 (X.2.2.2.2.1 _ mw1079) dX6_blockNumber_55 ?_
              refine lv_iload hx hb dX6_blockNumber_58 (lv_at hl 4 rfl) ?_
              refine m_iald X hWv5 a_X6_row hx4 hf dX6_blockNumber_60 (fun v9 hv9 hf => ?_)
              refine lv_goto (tgt := 65) hx hb dX6_blockNumber_61 (by decide) ?_
              refine lv_istore_n (lv' := [(3, .int (i32 v9)), (2, .int (i32 v7)), (0, .ref (ad 230)), (1, .int (i32 x1)), (4, .int (i32 x4))]) hx hb dX6_blockNumber_65 rfl hl (by decide) rfl (fun ls hl => ?_)
              refine m_iinc (k0 := 4) (fun v10 => [(4, .int (i32 v10)), (3, .int (i32 v9)), (2, .int (i32 v7)), (0, .ref (ad 230)), (1, .int (i32 x1))]) hx hb hf dX6_blockNumber_66 hl rfl (by decide) (fun _ => rfl) (fun v10 ls hv10 hf hl => ?_)
              have hl : lv_has ls 5 [(4, .int (i32 v10)), (3, .int (i32 v9)), (2, .int (i32 v7)), (0, .ref (ad 230)), (1, .int (i32 x1))] := hl
              refine lv_goto (tgt := 7) hx hb dX6_blockNumber_69 (by decide) ?_
              exact ih7 _ _ _ v7 v9 v10 hv7 hv9 hv10 hf hWv5 hSv5 (lv_sub hl [3, 4, 2, 1, 0] rfl)
  refine m_const (v := 0) hx hb dX6_blockNumber_0 rfl ?_
  refine lv_istore_n (lv' := [(2, .int (i32 0)), (0, .ref (ad 230)), (1, .int (i32 x1))]) hx hb dX6_blockNumber_1 rfl hl (by decide) rfl (fun ls hl => ?_)
  refine m_const (v := (-1)) hx hb dX6_blockNumber_2 rfl ?_
  refine lv_istore_n (lv' := [(3, .int (i32 (-1))), (2, .int (i32 0)), (0, .ref (ad 230)), (1, .int (i32 x1))]) hx hb dX6_blockNumber_3 rfl hl (by decide) rfl (fun ls hl => ?_)
  refine m_const (v := 0) hx hb dX6_blockNumber_4 rfl ?_
  refine lv_istore (lv' := [(4, .int (i32 0)), (3, .int (i32 (-1))), (2, .int (i32 0)), (0, .ref (ad 230)), (1, .int (i32 x1))]) hx hb dX6_blockNumber_5 hl (by decide) rfl (fun ls hl => ?_)
  exact hc7 n _ _ _ 0 (-1) 0 (by decide) (by decide) (by decide) hf hW hS (lv_sub hl [3, 4, 2, 1, 0] rfl)
set_option maxRecDepth 100000 in
set_option maxHeartbeats 4000000 in
theorem ok_X6_isBlock {l : Launch} {D : va_G} {cy : Nat → ClassId} {ad : Nat → Nat} {nm nv sz : Nat} {σ : St} {n : Nat} {x1 : Int} {x2 : Int} {r : Int} {σ2 : St} (hx1 : inR x1) (hx2 : inR x2) (hf : fX6_isBlock n σ x1 x2 = some (r, σ2)) : CI l yX6_isBlock cX6_isBlock 3 (some .boolean) ({ frames := 7, cells := 0, slots := 0, locals := 156 } : Room) [.ref (ad 230), .int (i32 x1), .int (i32 x2)] D cy ad nm nv sz σ true r σ2 := by
  refine m_entry RX6 rfl (by decide +kernel) (Nat.le_of_ble_eq_true rfl) ?_
  intro p e s m args below meth c Q hQ hr hlocks X hW hS ls hl
  have hx := X.1
  have hb := X.2.1
  have hl : lv_has ls 3 [(0, .ref (ad 230)), (1, .int (i32 x1)), (2, .int (i32 x2))] := hl
  unfold fX6_isBlock at hf
  refine lv_iload_n hx hb dX6_isBlock_0 rfl (lv_at hl 1 rfl) ?_
  refine m_callSi1 (z := true) (As := [.int (i32 x1)]) (rest := []) X hW hS hl.1 gc_X6_215 hd_X6_isSite ⟨rfl, rfl, Nat.le_of_ble_eq_true rfl, Nat.le_of_ble_eq_true rfl⟩ (fun v q => ok_X6_isSite hx1 q) hf rfl rfl (Nat.le_of_ble_eq_true rfl) dX6_isBlock_1 ⟨Nat.le_of_ble_eq_true rfl, Nat.le_of_ble_eq_true rfl⟩ (fun v1 H locs hv1 zv1 hWv1 hSv1 hf => ?_)
  refine m_if_ne (tgt := 9) hx hb hv1 hf dX6_isBlock_4 (by decide) (fun hf => ?_) (fun hf => ?_)
  · skip
    refine lv_aload_n hx hb dX6_isBlock_9 rfl (lv_at hl 0 rfl) ?_
    refine lv_iload_n hx hb dX6_isBlock_10 rfl (lv_at hl 1 rfl) ?_
    refine m_callVv (As := [.int (i32 x1)]) (rest := []) X hWv1 hSv1 hl.1 gc_X6_208 hd_X6_findsSite ⟨rfl, rfl, Nat.le_of_ble_eq_true rfl, Nat.le_of_ble_eq_true rfl⟩ (rc_X6 X hWv1) (fun v q => ok_X6_findsSite hx1 q) hf rfl rfl (Nat.le_of_ble_eq_true rfl) dX6_isBlock_11 ⟨Nat.le_of_ble_eq_true rfl, Nat.le_of_ble_eq_true rfl⟩ (fun σ2 H locs hW2 hS2 hf => ?_)
    refine lv_iload_n hx hb dX6_isBlock_14 rfl (lv_at hl 2 rfl) ?_
    refine m_const (v := 0) hx hb dX6_isBlock_15 rfl ?_
    refine lv_aload_n hx hb dX6_isBlock_16 rfl (lv_at hl 0 rfl) ?_
    refine m_callVi1 (z := false) (As := []) (rest := [.int (i32 0), .int (i32 x2)]) X hW2 hS2 hl.1 gc_X6_244 hd_X6_shownBlocks ⟨rfl, rfl, Nat.le_of_ble_eq_true rfl, Nat.le_of_ble_eq_true rfl⟩ (rc_X6 X hW2) (fun v q => ok_X6_shownBlocks  q) hf rfl rfl (Nat.le_of_ble_eq_true rfl) dX6_isBlock_17 ⟨Nat.le_of_ble_eq_true rfl, Nat.le_of_ble_eq_true rfl⟩ (fun v3 H locs hv3 zv3 hWv3 hSv3 hf => ?_)
    refine m_const (v := 1) hx hb dX6_isBlock_20 rfl ?_
    refine m_isub hx hb hf dX6_isBlock_21 (fun v4 hv4 hf => ?_)
    refine m_callSi1 (z := true) (As := [.int (i32 x2), .int (i32 0), .int (i32 v4)]) (rest := []) X hWv3 hSv3 hl.1 gc_X6_130 hd_X6_isIn ⟨rfl, rfl, Nat.le_of_ble_eq_true rfl, Nat.le_of_ble_eq_true rfl⟩ (fun v q => ok_X6_isIn hx2 (by decide) hv4 q) hf rfl rfl (Nat.le_of_ble_eq_true rfl) dX6_isBlock_22 ⟨Nat.le_of_ble_eq_true rfl, Nat.le_of_ble_eq_true rfl⟩ (fun v5 H locs hv5 zv5 hWv5 hSv5 hf => ?_)
    exact m_ireti X hr hlocks (nar_b (zv5 rfl)).1 hv5 (fun _ => (zv5 rfl)) hWv5 hSv5 (congrArg Prod.fst (Option.some.inj hf)) (congrArg Prod.snd (Option.some.inj hf)) hQ dX6_isBlock_25
  · skip
    refine m_const (v := 0) hx hb dX6_isBlock_7 rfl ?_
    exact m_ireti X hr hlocks (nar_b (Or.inl rfl)).1 (by decide) (fun _ => (Or.inl rfl)) hWv1 hSv1 (congrArg Prod.fst (Option.some.inj hf)) (congrArg Prod.snd (Option.some.inj hf)) hQ dX6_isBlock_8
set_option maxRecDepth 100000 in
set_option maxHeartbeats 4000000 in
theorem ok_X6_setKind {l : Launch} {D : va_G} {cy : Nat → ClassId} {ad : Nat → Nat} {nm nv sz : Nat} {σ : St} {n : Nat} {x1 : Int} {x2 : Int} {x3 : Int} {r : Int} {σ2 : St} (hx1 : inR x1) (hx2 : inR x2) (hx3 : inR x3) (hf : fX6_setKind n σ x1 x2 x3 = some (r, σ2)) : CI l yX6_setKind cX6_setKind 4 (some .int) ({ frames := 8, cells := 0, slots := 0, locals := 178 } : Room) [.ref (ad 230), .int (i32 x1), .int (i32 x2), .int (i32 x3)] D cy ad nm nv sz σ false r σ2 := by
  refine m_entry RX6 rfl (by decide +kernel) (Nat.le_of_ble_eq_true rfl) ?_
  intro p e s m args below meth c Q hQ hr hlocks X hW hS ls hl
  have hx := X.1
  have hb := X.2.1
  have hl : lv_has ls 4 [(0, .ref (ad 230)), (1, .int (i32 x1)), (2, .int (i32 x2)), (3, .int (i32 x3))] := hl
  unfold fX6_setKind at hf
  have hc57 : ∀ (σ : St) (H : Heap) (locs : List Loc) (ls : Array Slot) (t0 : Int), inR t0 → fX6_setKind_J57 n σ x1 x2 x3 t0 = some (r, σ2) → Wd D cy ad nm nv σ H → va_S (AW ad nm nv sz) s.heap H locs → lv_has ls 4 [(0, .ref (ad 230)), (1, .int (i32 x1)), (2, .int (i32 x2)), (3, .int (i32 x3))] → W p l e ({ frames := 8, cells := 0, slots := 0, locals := 178 } : Room) s m args below meth c H locs 0 0 Q (F0 m 57 ls [.int (i32 t0), .ref (ad 230)]) := by
    intro σ H locs ls t0 ht0 hf hW hS hl
    unfold fX6_setKind_J57 at hf
    refine p_X6_thrown X hW hS ht0 hf (X.2.2.2.2.1 _ mw1046) dX6_setKind_57 (fun σ8 H locs hW8 hS8 hf => ?_)
    refine lv_aload_n hx hb dX6_setKind_60 rfl (lv_at hl 0 rfl) ?_
    refine g_X6_thrown X hW8 (X.2.2.2.2.1 _ mw1046) dX6_setKind_61 ?_
    refine m_if_le (tgt := 71) hx hb (hW8.2.1 _ _) hf dX6_setKind_64 (by decide) (fun hf => ?_) (fun hf => ?_)
    · skip
      refine lv_aload_n hx hb dX6_setKind_71 rfl (lv_at hl 0 rfl) ?_
      refine lv_iload_n hx hb dX6_setKind_72 rfl (lv_at hl 1 rfl) ?_
      refine m_const (v := 5) hx hb dX6_setKind_73 rfl ?_
      refine lv_aload_n hx hb dX6_setKind_74 rfl (lv_at hl 0 rfl) ?_
      refine lv_iload_n hx hb dX6_setKind_75 rfl (lv_at hl 2 rfl) ?_
      refine m_callVi1 (z := false) (As := [.int (i32 x2)]) (rest := [.int (i32 5), .int (i32 x1), .ref (ad 230)]) X hW8 hS8 hl.1 gc_X6_250 hd_X6_blockNumber ⟨rfl, rfl, Nat.le_of_ble_eq_true rfl, Nat.le_of_ble_eq_true rfl⟩ (rc_X6 X hW8) (fun v q => ok_X6_blockNumber hx2 q) hf rfl rfl (Nat.le_of_ble_eq_true rfl) dX6_setKind_76 ⟨Nat.le_of_ble_eq_true rfl, Nat.le_of_ble_eq_true rfl⟩ (fun v9 H locs hv9 zv9 hWv9 hSv9 hf => ?_)
      refine lv_iload_n hx hb dX6_setKind_79 rfl (lv_at hl 3 rfl) ?_
      refine m_const (v := 0) hx hb dX6_setKind_80 rfl ?_
      refine m_const (v := 0) hx hb dX6_setKind_81 rfl ?_
      refine m_const (v := 0) hx hb dX6_setKind_82 rfl ?_
      refine m_callVi (z := false) (As := [.int (i32 x1), .int (i32 5), .int (i32 v9), .int (i32 x3), .int (i32 0), .int (i32 0), .int (i32 0)]) (rest := []) X hWv9 hSv9 hl.1 gc_X6_211 hd_X6_makes ⟨rfl, rfl, Nat.le_of_ble_eq_true rfl, Nat.le_of_ble_eq_true rfl⟩ (rc_X6 X hWv9) (fun v q9 q => ok_X6_makes hx1 (by decide) hv9 hx3 (by decide) (by decide) (by decide) q) hf rfl rfl (Nat.le_of_ble_eq_true rfl) dX6_setKind_83 ⟨Nat.le_of_ble_eq_true rfl, Nat.le_of_ble_eq_true rfl⟩ (fun v11 σ10 H locs hv11 zv11 hW10 hS10 hf => ?_)
      exact m_ireti X hr hlocks rfl hv11 (fun h => Bool.noConfusion h) hW10 hS10 (congrArg Prod.fst (Option.some.inj hf)) (congrArg Prod.snd (Option.some.inj hf)) hQ dX6_setKind_86
    · skip
      refine m_const (v := 0) hx hb dX6_setKind_67 rfl ?_
      refine lv_goto (tgt := 86) hx hb dX6_setKind_68 (by decide) ?_
      exact m_ireti X hr hlocks rfl (by decide) (fun h => Bool.noConfusion h) hW8 hS8 (congrArg Prod.fst (Option.some.inj hf)) (congrArg Prod.snd (Option.some.inj hf)) hQ dX6_setKind_86
  have hc52 : ∀ (σ : St) (H : Heap) (locs : List Loc) (ls : Array Slot), fX6_setKind_J52 n σ x1 x2 x3 = some (r, σ2) → Wd D cy ad nm nv σ H → va_S (AW ad nm nv sz) s.heap H locs → lv_has ls 4 [(0, .ref (ad 230)), (1, .int (i32 x1)), (2, .int (i32 x2)), (3, .int (i32 x3))] → W p l e ({ frames := 8, cells := 0, slots := 0, locals := 178 } : Room) s m args below meth c H locs 0 0 Q (F0 m 52 ls [.ref (ad 230)]) := by
    intro σ H locs ls hf hW hS hl
    unfold fX6_setKind_J52 at hf
    refine m_const (v := 3) hx hb dX6_setKind_52 rfl ?_
    refine lv_goto (tgt := 57) hx hb dX6_setKind_53 (by decide) ?_
    exact hc57 _ _ _ _ 3 (by decide) hf hW hS (lv_sub hl [0, 1, 2, 3] rfl)
  refine lv_aload_n hx hb dX6_setKind_0 rfl (lv_at hl 0 rfl) ?_
  refine lv_iload_n hx hb dX6_setKind_1 rfl (lv_at hl 1 rfl) ?_
  refine lv_iload_n hx hb dX6_setKind_2 rfl (lv_at hl 2 rfl) ?_
  refine m_callVi (z := true) (As := [.int (i32 x1), .int (i32 x2)]) (rest := []) X hW hS hl.1 gc_X6_247 hd_X6_isBlock ⟨rfl, rfl, Nat.le_of_ble_eq_true rfl, Nat.le_of_ble_eq_true rfl⟩ (rc_X6 X hW) (fun v q9 q => ok_X6_isBlock hx1 hx2 q) hf rfl rfl (Nat.le_of_ble_eq_true rfl) dX6_setKind_3 ⟨Nat.le_of_ble_eq_true rfl, Nat.le_of_ble_eq_true rfl⟩ (fun v2 σ1 H locs hv2 zv2 hW1 hS1 hf => ?_)
  refine m_if_ne (tgt := 15) hx hb hv2 hf dX6_setKind_6 (by decide) (fun hf => ?_) (fun hf => ?_)
  · skip
    refine lv_aload_n hx hb dX6_setKind_15 rfl (lv_at hl 0 rfl) ?_
    refine lv_iload_n hx hb dX6_setKind_16 rfl (lv_at hl 3 rfl) ?_
    refine m_const (v := 0) hx hb dX6_setKind_17 rfl ?_
    refine m_const (v := 3) hx hb dX6_setKind_18 rfl ?_
    refine m_callSi1 (z := true) (As := [.int (i32 x3), .int (i32 0), .int (i32 3)]) (rest := [.ref (ad 230)]) X hW1 hS1 hl.1 gc_X6_130 hd_X6_isIn ⟨rfl, rfl, Nat.le_of_ble_eq_true rfl, Nat.le_of_ble_eq_true rfl⟩ (fun v q => ok_X6_isIn hx3 (by decide) (by decide) q) hf rfl rfl (Nat.le_of_ble_eq_true rfl) dX6_setKind_19 ⟨Nat.le_of_ble_eq_true rfl, Nat.le_of_ble_eq_true rfl⟩ (fun v3 H locs hv3 zv3 hWv3 hSv3 hf => ?_)
    refine m_if_ne (tgt := 29) hx hb hv3 hf dX6_setKind_22 (by decide) (fun hf => ?_) (fun hf => ?_)
    · skip
      refine lv_aload_n hx hb dX6_setKind_29 rfl (lv_at hl 0 rfl) ?_
      refine lv_iload_n hx hb dX6_setKind_30 rfl (lv_at hl 1 rfl) ?_
      refine lv_aload_n hx hb dX6_setKind_31 rfl (lv_at hl 0 rfl) ?_
      refine lv_iload_n hx hb dX6_setKind_32 rfl (lv_at hl 2 rfl) ?_
      refine m_callVi1 (z := false) (As := [.int (i32 x2)]) (rest := [.int (i32 x1), .ref (ad 230), .ref (ad 230)]) X hWv3 hSv3 hl.1 gc_X6_250 hd_X6_blockNumber ⟨rfl, rfl, Nat.le_of_ble_eq_true rfl, Nat.le_of_ble_eq_true rfl⟩ (rc_X6 X hWv3) (fun v q => ok_X6_blockNumber hx2 q) hf rfl rfl (Nat.le_of_ble_eq_true rfl) dX6_setKind_33 ⟨Nat.le_of_ble_eq_true rfl, Nat.le_of_ble_eq_true rfl⟩ (fun v4 H locs hv4 zv4 hWv4 hSv4 hf => ?_)
      refine m_callVi1 (z := false) (As := [.int (i32 x1), .int (i32 v4)]) (rest := [.ref (ad 230)]) X hWv4 hSv4 hl.1 gc_X6_175 hd_X6_levelIn ⟨rfl, rfl, Nat.le_of_ble_eq_true rfl, Nat.le_of_ble_eq_true rfl⟩ (rc_X6 X hWv4) (fun v q => ok_X6_levelIn hx1 hv4 q) hf rfl rfl (Nat.le_of_ble_eq_true rfl) dX6_setKind_36 ⟨Nat.le_of_ble_eq_true rfl, Nat.le_of_ble_eq_true rfl⟩ (fun v5 H locs hv5 zv5 hWv5 hSv5 hf => ?_)
      refine m_if_ne (tgt := 52) hx hb hv5 hf dX6_setKind_39 (by decide) (fun hf => ?_) (fun hf => ?_)
      · skip
        exact hc52 _ _ _ _  hf hWv5 hSv5 (lv_sub hl [0, 1, 2, 3] rfl)
      · skip
        refine lv_aload_n hx hb dX6_setKind_42 rfl (lv_at hl 0 rfl) ?_
        refine g_X6_actMany X hWv5 (X.2.2.2.2.1 _ mw1047) dX6_setKind_43 ?_
        refine m_sipush (v := 160) hx hb dX6_setKind_46 (by decide) ?_
        refine m_icmp_ne (tgt := 56) hx hb (hWv5.2.1 _ _) (by decide) hf dX6_setKind_49 (by decide) (fun hf => ?_) (fun hf => ?_)
        · skip
          refine m_const (v := 0) hx hb dX6_setKind_56 rfl ?_
          exact hc57 _ _ _ _ 0 (by decide) hf hWv5 hSv5 (lv_sub hl [0, 1, 2, 3] rfl)
        · skip
          exact hc52 _ _ _ _  hf hWv5 hSv5 (lv_sub hl [0, 1, 2, 3] rfl)
    · skip
      refine m_const (v := 2) hx hb dX6_setKind_25 rfl ?_
      refine lv_goto (tgt := 57) hx hb dX6_setKind_26 (by decide) ?_
      exact hc57 _ _ _ _ 2 (by decide) hf hWv3 hSv3 (lv_sub hl [0, 1, 2, 3] rfl)
  · skip
    refine lv_aload_n hx hb dX6_setKind_9 rfl (lv_at hl 0 rfl) ?_
    refine m_const (v := 1) hx hb dX6_setKind_10 rfl ?_
    refine m_callVi (z := false) (As := [.int (i32 1)]) (rest := []) X hW1 hS1 hl.1 gc_X6_222 hd_X6_fails ⟨rfl, rfl, Nat.le_of_ble_eq_true rfl, Nat.le_of_ble_eq_true rfl⟩ (rc_X6 X hW1) (fun v q9 q => ok_X6_fails (by decide) q) hf rfl rfl (Nat.le_of_ble_eq_true rfl) dX6_setKind_11 ⟨Nat.le_of_ble_eq_true rfl, Nat.le_of_ble_eq_true rfl⟩ (fun v7 σ6 H locs hv7 zv7 hW6 hS6 hf => ?_)
    exact m_ireti X hr hlocks rfl hv7 (fun h => Bool.noConfusion h) hW6 hS6 (congrArg Prod.fst (Option.some.inj hf)) (congrArg Prod.snd (Option.some.inj hf)) hQ dX6_setKind_14
set_option maxRecDepth 100000 in
set_option maxHeartbeats 4000000 in
theorem ok_X6_nest {l : Launch} {D : va_G} {cy : Nat → ClassId} {ad : Nat → Nat} {nm nv sz : Nat} {σ : St} {n : Nat} {x1 : Int} {x2 : Int} {x3 : Int} {r : Int} {σ2 : St} (hx1 : inR x1) (hx2 : inR x2) (hx3 : inR x3) (hf : fX6_nest n σ x1 x2 x3 = some (r, σ2)) : CI l yX6_nest cX6_nest 4 (some .int) ({ frames := 8, cells := 0, slots := 0, locals := 178 } : Room) [.ref (ad 230), .int (i32 x1), .int (i32 x2), .int (i32 x3)] D cy ad nm nv sz σ false r σ2 := by
  refine m_entry RX6 rfl (by decide +kernel) (Nat.le_of_ble_eq_true rfl) ?_
  intro p e s m args below meth c Q hQ hr hlocks X hW hS ls hl
  have hx := X.1
  have hb := X.2.1
  have hl : lv_has ls 4 [(0, .ref (ad 230)), (1, .int (i32 x1)), (2, .int (i32 x2)), (3, .int (i32 x3))] := hl
  unfold fX6_nest at hf
  have hc28 : ∀ (σ : St) (H : Heap) (locs : List Loc) (ls : Array Slot), fX6_nest_J28 n σ x1 x2 x3 = some (r, σ2) → Wd D cy ad nm nv σ H → va_S (AW ad nm nv sz) s.heap H locs → lv_has ls 4 [(0, .ref (ad 230))] → W p l e ({ frames := 8, cells := 0, slots := 0, locals := 178 } : Room) s m args below meth c H locs 0 0 Q (F0 m 28 ls []) := by
    intro σ H locs ls hf hW hS hl
    unfold fX6_nest_J28 at hf
    refine lv_aload_n hx hb dX6_nest_28 rfl (lv_at hl 0 rfl) ?_
    refine m_const (v := 1) hx hb dX6_nest_29 rfl ?_
    refine m_callVi (z := false) (As := [.int (i32 1)]) (rest := []) X hW hS hl.1 gc_X6_222 hd_X6_fails ⟨rfl, rfl, Nat.le_of_ble_eq_true rfl, Nat.le_of_ble_eq_true rfl⟩ (rc_X6 X hW) (fun v q9 q => ok_X6_fails (by decide) q) hf rfl rfl (Nat.le_of_ble_eq_true rfl) dX6_nest_30 ⟨Nat.le_of_ble_eq_true rfl, Nat.le_of_ble_eq_true rfl⟩ (fun v7 σ6 H locs hv7 zv7 hW6 hS6 hf => ?_)
    exact m_ireti X hr hlocks rfl hv7 (fun h => Bool.noConfusion h) hW6 hS6 (congrArg Prod.fst (Option.some.inj hf)) (congrArg Prod.snd (Option.some.inj hf)) hQ dX6_nest_33
  have hc101 : ∀ (σ : St) (H : Heap) (locs : List Loc) (ls : Array Slot) (t0 : Int) (t1 : Int) (t2 : Int) (t3 : Int), inR t0 → inR t1 → inR t2 → inR t3 → fX6_nest_J101 n σ x1 x2 x3 t0 t1 t2 t3 = some (r, σ2) → Wd D cy ad nm nv σ H → va_S (AW ad nm nv sz) s.heap H locs → lv_has ls 4 [] → W p l e ({ frames := 8, cells := 0, slots := 0, locals := 178 } : Room) s m args below meth c H locs 0 0 Q (F0 m 101 ls [.int (i32 t0), .int (i32 t1), .int (i32 t2), .int (i32 t3), .ref (ad 230)]) := by
    intro σ H locs ls t0 t1 t2 t3 ht0 ht1 ht2 ht3 hf hW hS hl
    unfold fX6_nest_J101 at hf
    refine m_const (v := 0) hx hb dX6_nest_101 rfl ?_
    refine m_const (v := 0) hx hb dX6_nest_102 rfl ?_
    refine m_const (v := 0) hx hb dX6_nest_103 rfl ?_
    refine m_callVi (z := false) (As := [.int (i32 t3), .int (i32 t2), .int (i32 t1), .int (i32 t0), .int (i32 0), .int (i32 0), .int (i32 0)]) (rest := []) X hW hS hl.1 gc_X6_211 hd_X6_makes ⟨rfl, rfl, Nat.le_of_ble_eq_true rfl, Nat.le_of_ble_eq_true rfl⟩ (rc_X6 X hW) (fun v q9 q => ok_X6_makes ht3 ht2 ht1 ht0 (by decide) (by decide) (by decide) q) hf rfl rfl (Nat.le_of_ble_eq_true rfl) dX6_nest_104 ⟨Nat.le_of_ble_eq_true rfl, Nat.le_of_ble_eq_true rfl⟩ (fun v14 σ13 H locs hv14 zv14 hW13 hS13 hf => ?_)
    exact m_ireti X hr hlocks rfl hv14 (fun h => Bool.noConfusion h) hW13 hS13 (congrArg Prod.fst (Option.some.inj hf)) (congrArg Prod.snd (Option.some.inj hf)) hQ dX6_nest_107
  have hc63 : ∀ (σ : St) (H : Heap) (locs : List Loc) (ls : Array Slot) (t0 : Int), inR t0 → fX6_nest_J63 n σ x1 x2 x3 t0 = some (r, σ2) → Wd D cy ad nm nv σ H → va_S (AW ad nm nv sz) s.heap H locs → lv_has ls 4 [(0, .ref (ad 230)), (1, .int (i32 x1)), (2, .int (i32 x2)), (3, .int (i32 x3))] → W p l e ({ frames := 8, cells := 0, slots := 0, locals := 178 } : Room) s m args below meth c H locs 0 0 Q (F0 m 63 ls [.int (i32 t0), .ref (ad 230)]) := by
    intro σ H locs ls t0 ht0 hf hW hS hl
    unfold fX6_nest_J63 at hf
    refine p_X6_thrown X hW hS ht0 hf (X.2.2.2.2.1 _ mw1046) dX6_nest_63 (fun σ10 H locs hW10 hS10 hf => ?_)
    refine lv_aload_n hx hb dX6_nest_66 rfl (lv_at hl 0 rfl) ?_
    refine g_X6_thrown X hW10 (X.2.2.2.2.1 _ mw1046) dX6_nest_67 ?_
    refine m_if_le (tgt := 77) hx hb (hW10.2.1 _ _) hf dX6_nest_70 (by decide) (fun hf => ?_) (fun hf => ?_)
    · skip
      refine lv_aload_n hx hb dX6_nest_77 rfl (lv_at hl 0 rfl) ?_
      refine lv_iload_n hx hb dX6_nest_78 rfl (lv_at hl 1 rfl) ?_
      refine m_bipush (v := 6) hx hb dX6_nest_79 (by decide) ?_
      refine lv_aload_n hx hb dX6_nest_81 rfl (lv_at hl 0 rfl) ?_
      refine lv_iload_n hx hb dX6_nest_82 rfl (lv_at hl 2 rfl) ?_
      refine m_callVi1 (z := false) (As := [.int (i32 x2)]) (rest := [.int (i32 6), .int (i32 x1), .ref (ad 230)]) X hW10 hS10 hl.1 gc_X6_250 hd_X6_blockNumber ⟨rfl, rfl, Nat.le_of_ble_eq_true rfl, Nat.le_of_ble_eq_true rfl⟩ (rc_X6 X hW10) (fun v q => ok_X6_blockNumber hx2 q) hf rfl rfl (Nat.le_of_ble_eq_true rfl) dX6_nest_83 ⟨Nat.le_of_ble_eq_true rfl, Nat.le_of_ble_eq_true rfl⟩ (fun v11 H locs hv11 zv11 hWv11 hSv11 hf => ?_)
      refine lv_iload_n hx hb dX6_nest_86 rfl (lv_at hl 3 rfl) ?_
      refine m_const (v := (-1)) hx hb dX6_nest_87 rfl ?_
      refine m_icmp_ne (tgt := 96) hx hb hx3 (by decide) hf dX6_nest_88 (by decide) (fun hf => ?_) (fun hf => ?_)
      · skip
        refine lv_aload_n hx hb dX6_nest_96 rfl (lv_at hl 0 rfl) ?_
        refine lv_iload_n hx hb dX6_nest_97 rfl (lv_at hl 3 rfl) ?_
        refine m_callVi1 (z := false) (As := [.int (i32 x3)]) (rest := [.int (i32 v11), .int (i32 6), .int (i32 x1), .ref (ad 230)]) X hWv11 hSv11 hl.1 gc_X6_250 hd_X6_blockNumber ⟨rfl, rfl, Nat.le_of_ble_eq_true rfl, Nat.le_of_ble_eq_true rfl⟩ (rc_X6 X hWv11) (fun v q => ok_X6_blockNumber hx3 q) hf rfl rfl (Nat.le_of_ble_eq_true rfl) dX6_nest_98 ⟨Nat.le_of_ble_eq_true rfl, Nat.le_of_ble_eq_true rfl⟩ (fun v12 H locs hv12 zv12 hWv12 hSv12 hf => ?_)
        exact hc101 _ _ _ _ v12 v11 6 x1 hv12 hv11 (by decide) hx1 hf hWv12 hSv12 (lv_sub hl [] rfl)
      · skip
        refine m_bipush (v := (-2)) hx hb dX6_nest_91 (by decide) ?_
        refine lv_goto (tgt := 101) hx hb dX6_nest_93 (by decide) ?_
        exact hc101 _ _ _ _ (-2) v11 6 x1 (by decide) hv11 (by decide) hx1 hf hWv11 hSv11 (lv_sub hl [] rfl)
    · skip
      refine m_const (v := 0) hx hb dX6_nest_73 rfl ?_
      refine lv_goto (tgt := 107) hx hb dX6_nest_74 (by decide) ?_
      exact m_ireti X hr hlocks rfl (by decide) (fun h => Bool.noConfusion h) hW10 hS10 (congrArg Prod.fst (Option.some.inj hf)) (congrArg Prod.snd (Option.some.inj hf)) hQ dX6_nest_107
  have hc58 : ∀ (σ : St) (H : Heap) (locs : List Loc) (ls : Array Slot), fX6_nest_J58 n σ x1 x2 x3 = some (r, σ2) → Wd D cy ad nm nv σ H → va_S (AW ad nm nv sz) s.heap H locs → lv_has ls 4 [(0, .ref (ad 230)), (1, .int (i32 x1)), (2, .int (i32 x2)), (3, .int (i32 x3))] → W p l e ({ frames := 8, cells := 0, slots := 0, locals := 178 } : Room) s m args below meth c H locs 0 0 Q (F0 m 58 ls [.ref (ad 230)]) := by
    intro σ H locs ls hf hW hS hl
    unfold fX6_nest_J58 at hf
    refine m_const (v := 2) hx hb dX6_nest_58 rfl ?_
    refine lv_goto (tgt := 63) hx hb dX6_nest_59 (by decide) ?_
    exact hc63 _ _ _ _ 2 (by decide) hf hW hS (lv_sub hl [0, 1, 2, 3] rfl)
  have hc34 : ∀ (σ : St) (H : Heap) (locs : List Loc) (ls : Array Slot), fX6_nest_J34 n σ x1 x2 x3 = some (r, σ2) → Wd D cy ad nm nv σ H → va_S (AW ad nm nv sz) s.heap H locs → lv_has ls 4 [(0, .ref (ad 230)), (1, .int (i32 x1)), (2, .int (i32 x2)), (3, .int (i32 x3))] → W p l e ({ frames := 8, cells := 0, slots := 0, locals := 178 } : Room) s m args below meth c H locs 0 0 Q (F0 m 34 ls []) := by
    intro σ H locs ls hf hW hS hl
    unfold fX6_nest_J34 at hf
    refine lv_aload_n hx hb dX6_nest_34 rfl (lv_at hl 0 rfl) ?_
    refine lv_aload_n hx hb dX6_nest_35 rfl (lv_at hl 0 rfl) ?_
    refine lv_iload_n hx hb dX6_nest_36 rfl (lv_at hl 1 rfl) ?_
    refine lv_aload_n hx hb dX6_nest_37 rfl (lv_at hl 0 rfl) ?_
    refine lv_iload_n hx hb dX6_nest_38 rfl (lv_at hl 2 rfl) ?_
    refine m_callVi1 (z := false) (As := [.int (i32 x2)]) (rest := [.int (i32 x1), .ref (ad 230), .ref (ad 230)]) X hW hS hl.1 gc_X6_250 hd_X6_blockNumber ⟨rfl, rfl, Nat.le_of_ble_eq_true rfl, Nat.le_of_ble_eq_true rfl⟩ (rc_X6 X hW) (fun v q => ok_X6_blockNumber hx2 q) hf rfl rfl (Nat.le_of_ble_eq_true rfl) dX6_nest_39 ⟨Nat.le_of_ble_eq_true rfl, Nat.le_of_ble_eq_true rfl⟩ (fun v8 H locs hv8 zv8 hWv8 hSv8 hf => ?_)
    refine m_callVi1 (z := false) (As := [.int (i32 x1), .int (i32 v8)]) (rest := [.ref (ad 230)]) X hWv8 hSv8 hl.1 gc_X6_175 hd_X6_levelIn ⟨rfl, rfl, Nat.le_of_ble_eq_true rfl, Nat.le_of_ble_eq_true rfl⟩ (rc_X6 X hWv8) (fun v q => ok_X6_levelIn hx1 hv8 q) hf rfl rfl (Nat.le_of_ble_eq_true rfl) dX6_nest_42 ⟨Nat.le_of_ble_eq_true rfl, Nat.le_of_ble_eq_true rfl⟩ (fun v9 H locs hv9 zv9 hWv9 hSv9 hf => ?_)
    refine m_if_ne (tgt := 58) hx hb hv9 hf dX6_nest_45 (by decide) (fun hf => ?_) (fun hf => ?_)
    · skip
      exact hc58 _ _ _ _  hf hWv9 hSv9 (lv_sub hl [0, 1, 2, 3] rfl)
    · skip
      refine lv_aload_n hx hb dX6_nest_48 rfl (lv_at hl 0 rfl) ?_
      refine g_X6_actMany X hWv9 (X.2.2.2.2.1 _ mw1047) dX6_nest_49 ?_
      refine m_sipush (v := 160) hx hb dX6_nest_52 (by decide) ?_
      refine m_icmp_ne (tgt := 62) hx hb (hWv9.2.1 _ _) (by decide) hf dX6_nest_55 (by decide) (fun hf => ?_) (fun hf => ?_)
      · skip
        refine m_const (v := 0) hx hb dX6_nest_62 rfl ?_
        exact hc63 _ _ _ _ 0 (by decide) hf hWv9 hSv9 (lv_sub hl [0, 1, 2, 3] rfl)
      · skip
        exact hc58 _ _ _ _  hf hWv9 hSv9 (lv_sub hl [0, 1, 2, 3] rfl)
  refine lv_aload_n hx hb dX6_nest_0 rfl (lv_at hl 0 rfl) ?_
  refine lv_iload_n hx hb dX6_nest_1 rfl (lv_at hl 1 rfl) ?_
  refine lv_iload_n hx hb dX6_nest_2 rfl (lv_at hl 2 rfl) ?_
  refine m_callVi (z := true) (As := [.int (i32 x1), .int (i32 x2)]) (rest := []) X hW hS hl.1 gc_X6_247 hd_X6_isBlock ⟨rfl, rfl, Nat.le_of_ble_eq_true rfl, Nat.le_of_ble_eq_true rfl⟩ (rc_X6 X hW) (fun v q9 q => ok_X6_isBlock hx1 hx2 q) hf rfl rfl (Nat.le_of_ble_eq_true rfl) dX6_nest_3 ⟨Nat.le_of_ble_eq_true rfl, Nat.le_of_ble_eq_true rfl⟩ (fun v2 σ1 H locs hv2 zv2 hW1 hS1 hf => ?_)
  refine m_if_eq (tgt := 28) hx hb hv2 hf dX6_nest_6 (by decide) (fun hf => ?_) (fun hf => ?_)
  · skip
    exact hc28 _ _ _ _  hf hW1 hS1 (lv_sub hl [0] rfl)
  · skip
    refine lv_iload_n hx hb dX6_nest_9 rfl (lv_at hl 3 rfl) ?_
    refine m_const (v := (-1)) hx hb dX6_nest_10 rfl ?_
    refine m_icmp_eq (tgt := 34) hx hb hx3 (by decide) hf dX6_nest_11 (by decide) (fun hf => ?_) (fun hf => ?_)
    · skip
      exact hc34 _ _ _ _  hf hW1 hS1 (lv_sub hl [0, 1, 2, 3] rfl)
    · skip
      refine lv_iload_n hx hb dX6_nest_14 rfl (lv_at hl 3 rfl) ?_
      refine m_const (v := 0) hx hb dX6_nest_15 rfl ?_
      refine lv_aload_n hx hb dX6_nest_16 rfl (lv_at hl 0 rfl) ?_
      refine m_callVi1 (z := false) (As := []) (rest := [.int (i32 0), .int (i32 x3)]) X hW1 hS1 hl.1 gc_X6_244 hd_X6_shownBlocks ⟨rfl, rfl, Nat.le_of_ble_eq_true rfl, Nat.le_of_ble_eq_true rfl⟩ (rc_X6 X hW1) (fun v q => ok_X6_shownBlocks  q) hf rfl rfl (Nat.le_of_ble_eq_true rfl) dX6_nest_17 ⟨Nat.le_of_ble_eq_true rfl, Nat.le_of_ble_eq_true rfl⟩ (fun v3 H locs hv3 zv3 hWv3 hSv3 hf => ?_)
      refine m_const (v := 1) hx hb dX6_nest_20 rfl ?_
      refine m_isub hx hb hf dX6_nest_21 (fun v4 hv4 hf => ?_)
      refine m_callSi1 (z := true) (As := [.int (i32 x3), .int (i32 0), .int (i32 v4)]) (rest := []) X hWv3 hSv3 hl.1 gc_X6_130 hd_X6_isIn ⟨rfl, rfl, Nat.le_of_ble_eq_true rfl, Nat.le_of_ble_eq_true rfl⟩ (fun v q => ok_X6_isIn hx3 (by decide) hv4 q) hf rfl rfl (Nat.le_of_ble_eq_true rfl) dX6_nest_22 ⟨Nat.le_of_ble_eq_true rfl, Nat.le_of_ble_eq_true rfl⟩ (fun v5 H locs hv5 zv5 hWv5 hSv5 hf => ?_)
      refine m_if_ne (tgt := 34) hx hb hv5 hf dX6_nest_25 (by decide) (fun hf => ?_) (fun hf => ?_)
      · skip
        exact hc34 _ _ _ _  hf hWv5 hSv5 (lv_sub hl [0, 1, 2, 3] rfl)
      · skip
        exact hc28 _ _ _ _  hf hWv5 hSv5 (lv_sub hl [0] rfl)
set_option maxRecDepth 100000 in
set_option maxHeartbeats 4000000 in
theorem ok_X6_propose {l : Launch} {D : va_G} {cy : Nat → ClassId} {ad : Nat → Nat} {nm nv sz : Nat} {σ : St} {x1 : Int} {x2 : Int} {r : Int} {σ2 : St} (hx1 : inR x1) (hx2 : inR x2) (hf : fX6_propose σ x1 x2 = some (r, σ2)) : CI l yX6_propose cX6_propose 4 (some .boolean) ({ frames := 2, cells := 0, slots := 0, locals := 42 } : Room) [.ref (ad 230), .int (i32 x1), .int (i32 x2)] D cy ad nm nv sz σ true r σ2 := by
  refine m_entry RX6 rfl (by decide +kernel) (Nat.le_of_ble_eq_true rfl) ?_
  intro p e s m args below meth c Q hQ hr hlocks X hW hS ls hl
  have hx := X.1
  have hb := X.2.1
  have hl : lv_has ls 4 [(0, .ref (ad 230)), (1, .int (i32 x1)), (2, .int (i32 x2))] := hl
  unfold fX6_propose at hf
  have hc13 : ∀ (σ : St) (H : Heap) (locs : List Loc) (ls : Array Slot) (t0 : Int), inR t0 → fX6_propose_J13 σ x1 x2 t0 = some (r, σ2) → Wd D cy ad nm nv σ H → va_S (AW ad nm nv sz) s.heap H locs → lv_has ls 4 [(0, .ref (ad 230)), (1, .int (i32 x1)), (2, .int (i32 x2))] → W p l e ({ frames := 2, cells := 0, slots := 0, locals := 42 } : Room) s m args below meth c H locs 0 0 Q (F0 m 13 ls [.int (i32 t0), .ref (ad 230)]) := by
    intro σ H locs ls t0 ht0 hf hW hS hl
    unfold fX6_propose_J13 at hf
    refine p_X6_thrown X hW hS ht0 hf (X.2.2.2.2.1 _ mw1046) dX6_propose_13 (fun σ2 H locs hW2 hS2 hf => ?_)
    refine lv_aload_n hx hb dX6_propose_16 rfl (lv_at hl 0 rfl) ?_
    refine g_X6_thrown X hW2 (X.2.2.2.2.1 _ mw1046) dX6_propose_17 ?_
    refine m_if_le (tgt := 25) hx hb (hW2.2.1 _ _) hf dX6_propose_20 (by decide) (fun hf => ?_) (fun hf => ?_)
    · skip
      refine lv_aload_n hx hb dX6_propose_25 rfl (lv_at hl 0 rfl) ?_
      refine g_X6_propose X hW2 (X.2.2.2.2.1 _ mw1065) dX6_propose_26 ?_
      refine lv_iload_n hx hb dX6_propose_29 rfl (lv_at hl 1 rfl) ?_
      refine m_zald X hW2 a_X6_propose hx1 hf dX6_propose_30 (fun v3 hv3 hf => ?_)
      refine lv_istore_n (lv' := [(3, .int (i32 v3)), (0, .ref (ad 230)), (1, .int (i32 x1)), (2, .int (i32 x2))]) hx hb dX6_propose_31 rfl hl (by decide) rfl (fun ls hl => ?_)
      refine lv_aload_n hx hb dX6_propose_32 rfl (lv_at hl 1 rfl) ?_
      refine g_X6_propose X hW2 (X.2.2.2.2.1 _ mw1065) dX6_propose_33 ?_
      refine lv_iload_n hx hb dX6_propose_36 rfl (lv_at hl 2 rfl) ?_
      refine lv_iload_n hx hb dX6_propose_37 rfl (lv_at hl 3 rfl) ?_
      refine m_zast X hW2 hS2 a_X6_propose hx1 hx2 hf dX6_propose_38 (fun σ4 H locs hW4 hS4 hf => ?_)
      refine lv_iload_n hx hb dX6_propose_39 rfl (lv_at hl 0 rfl) ?_
      obtain ⟨hb5, hf⟩ := rb_of hf
      exact m_ireti X hr hlocks (nar_b hb5).1 hv3 (fun _ => hb5) hW4 hS4 (congrArg Prod.fst (Option.some.inj hf)) (congrArg Prod.snd (Option.some.inj hf)) hQ dX6_propose_40
    · skip
      refine m_const (v := 0) hx hb dX6_propose_23 rfl ?_
      exact m_ireti X hr hlocks (nar_b (Or.inl rfl)).1 (by decide) (fun _ => (Or.inl rfl)) hW2 hS2 (congrArg Prod.fst (Option.some.inj hf)) (congrArg Prod.snd (Option.some.inj hf)) hQ dX6_propose_24
  refine lv_aload_n hx hb dX6_propose_0 rfl (lv_at hl 0 rfl) ?_
  refine lv_iload_n hx hb dX6_propose_1 rfl (lv_at hl 1 rfl) ?_
  refine m_callSi1 (z := true) (As := [.int (i32 x1)]) (rest := [.ref (ad 230)]) X hW hS hl.1 gc_X6_215 hd_X6_isSite ⟨rfl, rfl, Nat.le_of_ble_eq_true rfl, Nat.le_of_ble_eq_true rfl⟩ (fun v q => ok_X6_isSite hx1 q) hf rfl rfl (Nat.le_of_ble_eq_true rfl) dX6_propose_2 ⟨Nat.le_of_ble_eq_true rfl, Nat.le_of_ble_eq_true rfl⟩ (fun v1 H locs hv1 zv1 hWv1 hSv1 hf => ?_)
  refine m_if_eq (tgt := 12) hx hb hv1 hf dX6_propose_5 (by decide) (fun hf => ?_) (fun hf => ?_)
  · skip
    refine m_const (v := 1) hx hb dX6_propose_12 rfl ?_
    exact hc13 _ _ _ _ 1 (by decide) hf hWv1 hSv1 (lv_sub hl [0, 1, 2] rfl)
  · skip
    refine m_const (v := 0) hx hb dX6_propose_8 rfl ?_
    refine lv_goto (tgt := 13) hx hb dX6_propose_9 (by decide) ?_
    exact hc13 _ _ _ _ 0 (by decide) hf hWv1 hSv1 (lv_sub hl [0, 1, 2] rfl)
set_option maxRecDepth 100000 in
set_option maxHeartbeats 4000000 in
theorem ok_X6_decide {l : Launch} {D : va_G} {cy : Nat → ClassId} {ad : Nat → Nat} {nm nv sz : Nat} {σ : St} {n : Nat} {x1 : Int} {x2 : Int} {x3 : Int} {r : Int} {σ2 : St} (hx1 : inR x1) (hx2 : inR x2) (hx3 : inR x3) (hf : fX6_decide n σ x1 x2 x3 = some (r, σ2)) : CI l yX6_decide cX6_decide 5 (some .int) ({ frames := 7, cells := 0, slots := 0, locals := 156 } : Room) [.ref (ad 230), .int (i32 x1), .int (i32 x2), .int (i32 x3)] D cy ad nm nv sz σ false r σ2 := by
  refine m_entry RX6 rfl (by decide +kernel) (Nat.le_of_ble_eq_true rfl) ?_
  intro p e s m args below meth c Q hQ hr hlocks X hW hS ls hl
  have hx := X.1
  have hb := X.2.1
  have hl : lv_has ls 5 [(0, .ref (ad 230)), (1, .int (i32 x1)), (2, .int (i32 x2)), (3, .int (i32 x3))] := hl
  unfold fX6_decide at hf
  have hc119 : ∀ (σ : St) (H : Heap) (locs : List Loc) (ls : Array Slot) (t0 : Int) (t1 : Int), inR t0 → inR t1 → fX6_decide_J119 n σ x1 x2 x3 t0 t1 = some (r, σ2) → Wd D cy ad nm nv σ H → va_S (AW ad nm nv sz) s.heap H locs → lv_has ls 5 [(2, .int (i32 x2))] → W p l e ({ frames := 7, cells := 0, slots := 0, locals := 156 } : Room) s m args below meth c H locs 0 0 Q (F0 m 119 ls [.int (i32 t0), .int (i32 t1), .ref (ad 230)]) := by
    intro σ H locs ls t0 t1 ht0 ht1 hf hW hS hl
    unfold fX6_decide_J119 at hf
    refine lv_iload_n hx hb dX6_decide_119 rfl (lv_at hl 0 rfl) ?_
    refine m_const (v := 0) hx hb dX6_decide_120 rfl ?_
    refine m_const (v := 0) hx hb dX6_decide_121 rfl ?_
    refine m_const (v := 0) hx hb dX6_decide_122 rfl ?_
    refine m_const (v := 0) hx hb dX6_decide_123 rfl ?_
    refine m_callVi (z := false) (As := [.int (i32 t1), .int (i32 t0), .int (i32 x2), .int (i32 0), .int (i32 0), .int (i32 0), .int (i32 0)]) (rest := []) X hW hS hl.1 gc_X6_211 hd_X6_makes ⟨rfl, rfl, Nat.le_of_ble_eq_true rfl, Nat.le_of_ble_eq_true rfl⟩ (rc_X6 X hW) (fun v q9 q => ok_X6_makes ht1 ht0 hx2 (by decide) (by decide) (by decide) (by decide) q) hf rfl rfl (Nat.le_of_ble_eq_true rfl) dX6_decide_124 ⟨Nat.le_of_ble_eq_true rfl, Nat.le_of_ble_eq_true rfl⟩ (fun v11 σ10 H locs hv11 zv11 hW10 hS10 hf => ?_)
    exact m_ireti X hr hlocks rfl hv11 (fun h => Bool.noConfusion h) hW10 hS10 (congrArg Prod.fst (Option.some.inj hf)) (congrArg Prod.snd (Option.some.inj hf)) hQ dX6_decide_127
  have hc92 : ∀ (σ : St) (H : Heap) (locs : List Loc) (ls : Array Slot) (t0 : Int), inR t0 → fX6_decide_J92 n σ x1 x2 x3 t0 = some (r, σ2) → Wd D cy ad nm nv σ H → va_S (AW ad nm nv sz) s.heap H locs → lv_has ls 5 [(0, .ref (ad 230)), (1, .int (i32 x1)), (2, .int (i32 x2)), (3, .int (i32 x3))] → W p l e ({ frames := 7, cells := 0, slots := 0, locals := 156 } : Room) s m args below meth c H locs 0 0 Q (F0 m 92 ls [.int (i32 t0), .ref (ad 230)]) := by
    intro σ H locs ls t0 ht0 hf hW hS hl
    unfold fX6_decide_J92 at hf
    refine p_X6_thrown X hW hS ht0 hf (X.2.2.2.2.1 _ mw1046) dX6_decide_92 (fun σ9 H locs hW9 hS9 hf => ?_)
    refine lv_aload_n hx hb dX6_decide_95 rfl (lv_at hl 0 rfl) ?_
    refine g_X6_thrown X hW9 (X.2.2.2.2.1 _ mw1046) dX6_decide_96 ?_
    refine m_if_le (tgt := 106) hx hb (hW9.2.1 _ _) hf dX6_decide_99 (by decide) (fun hf => ?_) (fun hf => ?_)
    · skip
      refine lv_aload_n hx hb dX6_decide_106 rfl (lv_at hl 0 rfl) ?_
      refine lv_iload_n hx hb dX6_decide_107 rfl (lv_at hl 1 rfl) ?_
      refine lv_iload_n hx hb dX6_decide_108 rfl (lv_at hl 3 rfl) ?_
      refine m_if_eq (tgt := 117) hx hb hx3 hf dX6_decide_109 (by decide) (fun hf => ?_) (fun hf => ?_)
      · skip
        refine m_bipush (v := 9) hx hb dX6_decide_117 (by decide) ?_
        exact hc119 _ _ _ _ 9 x1 (by decide) hx1 hf hW9 hS9 (lv_sub hl [2] rfl)
      · skip
        refine m_bipush (v := 8) hx hb dX6_decide_112 (by decide) ?_
        refine lv_goto (tgt := 119) hx hb dX6_decide_114 (by decide) ?_
        exact hc119 _ _ _ _ 8 x1 (by decide) hx1 hf hW9 hS9 (lv_sub hl [2] rfl)
    · skip
      refine m_const (v := 0) hx hb dX6_decide_102 rfl ?_
      refine lv_goto (tgt := 127) hx hb dX6_decide_103 (by decide) ?_
      exact m_ireti X hr hlocks rfl (by decide) (fun h => Bool.noConfusion h) hW9 hS9 (congrArg Prod.fst (Option.some.inj hf)) (congrArg Prod.snd (Option.some.inj hf)) hQ dX6_decide_127
  have hc79 : ∀ (σ : St) (H : Heap) (locs : List Loc) (ls : Array Slot) (t0 : Int), inR t0 → fX6_decide_J79 n σ x1 x2 x3 t0 = some (r, σ2) → Wd D cy ad nm nv σ H → va_S (AW ad nm nv sz) s.heap H locs → lv_has ls 5 [(0, .ref (ad 230)), (1, .int (i32 x1)), (2, .int (i32 x2)), (3, .int (i32 x3))] → W p l e ({ frames := 7, cells := 0, slots := 0, locals := 156 } : Room) s m args below meth c H locs 0 0 Q (F0 m 79 ls [.int (i32 t0)]) := by
    intro σ H locs ls t0 ht0 hf hW hS hl
    unfold fX6_decide_J79 at hf
    refine lv_istore (lv' := [(4, .int (i32 t0)), (0, .ref (ad 230)), (1, .int (i32 x1)), (2, .int (i32 x2)), (3, .int (i32 x3))]) hx hb dX6_decide_79 hl (by decide) rfl (fun ls hl => ?_)
    refine lv_aload_n hx hb dX6_decide_81 rfl (lv_at hl 1 rfl) ?_
    refine lv_iload hx hb dX6_decide_82 (lv_at hl 0 rfl) ?_
    refine m_if_eq (tgt := 91) hx hb ht0 hf dX6_decide_84 (by decide) (fun hf => ?_) (fun hf => ?_)
    · skip
      refine m_const (v := 2) hx hb dX6_decide_91 rfl ?_
      exact hc92 _ _ _ _ 2 (by decide) hf hW hS (lv_sub hl [1, 2, 3, 4] rfl)
    · skip
      refine m_const (v := 0) hx hb dX6_decide_87 rfl ?_
      refine lv_goto (tgt := 92) hx hb dX6_decide_88 (by decide) ?_
      exact hc92 _ _ _ _ 0 (by decide) hf hW hS (lv_sub hl [1, 2, 3, 4] rfl)
  have hc78 : ∀ (σ : St) (H : Heap) (locs : List Loc) (ls : Array Slot), fX6_decide_J78 n σ x1 x2 x3 = some (r, σ2) → Wd D cy ad nm nv σ H → va_S (AW ad nm nv sz) s.heap H locs → lv_has ls 5 [(0, .ref (ad 230)), (1, .int (i32 x1)), (2, .int (i32 x2)), (3, .int (i32 x3))] → W p l e ({ frames := 7, cells := 0, slots := 0, locals := 156 } : Room) s m args below meth c H locs 0 0 Q (F0 m 78 ls []) := by
    intro σ H locs ls hf hW hS hl
    unfold fX6_decide_J78 at hf
    refine m_const (v := 0) hx hb dX6_decide_78 rfl ?_
    exact hc79 _ _ _ _ 0 (by decide) hf hW hS (lv_sub hl [0, 1, 2, 3] rfl)
  have hc22 : ∀ (σ : St) (H : Heap) (locs : List Loc) (ls : Array Slot) (t0 : Int), inR t0 → fX6_decide_J22 n σ x1 x2 x3 t0 = some (r, σ2) → Wd D cy ad nm nv σ H → va_S (AW ad nm nv sz) s.heap H locs → lv_has ls 5 [(0, .ref (ad 230)), (1, .int (i32 x1)), (2, .int (i32 x2)), (3, .int (i32 x3))] → W p l e ({ frames := 7, cells := 0, slots := 0, locals := 156 } : Room) s m args below meth c H locs 0 0 Q (F0 m 22 ls [.int (i32 t0), .ref (ad 230)]) := by
    intro σ H locs ls t0 ht0 hf hW hS hl
    unfold fX6_decide_J22 at hf
    refine p_X6_thrown X hW hS ht0 hf (X.2.2.2.2.1 _ mw1046) dX6_decide_22 (fun σ3 H locs hW3 hS3 hf => ?_)
    refine lv_aload_n hx hb dX6_decide_25 rfl (lv_at hl 0 rfl) ?_
    refine g_X6_thrown X hW3 (X.2.2.2.2.1 _ mw1046) dX6_decide_26 ?_
    refine m_if_le (tgt := 34) hx hb (hW3.2.1 _ _) hf dX6_decide_29 (by decide) (fun hf => ?_) (fun hf => ?_)
    · skip
      refine lv_aload_n hx hb dX6_decide_34 rfl (lv_at hl 0 rfl) ?_
      refine lv_iload_n hx hb dX6_decide_35 rfl (lv_at hl 1 rfl) ?_
      refine m_callVv (As := [.int (i32 x1)]) (rest := []) X hW3 hS3 hl.1 gc_X6_208 hd_X6_findsSite ⟨rfl, rfl, Nat.le_of_ble_eq_true rfl, Nat.le_of_ble_eq_true rfl⟩ (rc_X6 X hW3) (fun v q => ok_X6_findsSite hx1 q) hf rfl rfl (Nat.le_of_ble_eq_true rfl) dX6_decide_36 ⟨Nat.le_of_ble_eq_true rfl, Nat.le_of_ble_eq_true rfl⟩ (fun σ4 H locs hW4 hS4 hf => ?_)
      refine lv_aload_n hx hb dX6_decide_39 rfl (lv_at hl 0 rfl) ?_
      refine lv_iload_n hx hb dX6_decide_40 rfl (lv_at hl 2 rfl) ?_
      refine m_callVi1 (z := true) (As := [.int (i32 x2)]) (rest := []) X hW4 hS4 hl.1 gc_X6_195 hd_X6_isOpen ⟨rfl, rfl, Nat.le_of_ble_eq_true rfl, Nat.le_of_ble_eq_true rfl⟩ (rc_X6 X hW4) (fun v q => ok_X6_isOpen hx2 q) hf rfl rfl (Nat.le_of_ble_eq_true rfl) dX6_decide_41 ⟨Nat.le_of_ble_eq_true rfl, Nat.le_of_ble_eq_true rfl⟩ (fun v5 H locs hv5 zv5 hWv5 hSv5 hf => ?_)
      refine m_if_eq (tgt := 78) hx hb hv5 hf dX6_decide_44 (by decide) (fun hf => ?_) (fun hf => ?_)
      · skip
        exact hc78 _ _ _ _  hf hWv5 hSv5 (lv_sub hl [0, 1, 2, 3] rfl)
      · skip
        refine lv_aload_n hx hb dX6_decide_47 rfl (lv_at hl 0 rfl) ?_
        refine lv_iload_n hx hb dX6_decide_48 rfl (lv_at hl 1 rfl) ?_
        refine lv_aload_n hx hb dX6_decide_49 rfl (lv_at hl 0 rfl) ?_
        refine lv_aload_n hx hb dX6_decide_50 rfl (lv_at hl 0 rfl) ?_
        refine lv_iload_n hx hb dX6_decide_51 rfl (lv_at hl 2 rfl) ?_
        refine m_callVi1 (z := false) (As := [.int (i32 x2)]) (rest := [.ref (ad 230), .int (i32 x1), .ref (ad 230)]) X hWv5 hSv5 hl.1 gc_X6_198 hd_X6_elementOf ⟨rfl, rfl, Nat.le_of_ble_eq_true rfl, Nat.le_of_ble_eq_true rfl⟩ (rc_X6 X hWv5) (fun v q => ok_X6_elementOf hx2 q) hf rfl rfl (Nat.le_of_ble_eq_true rfl) dX6_decide_52 ⟨Nat.le_of_ble_eq_true rfl, Nat.le_of_ble_eq_true rfl⟩ (fun v6 H locs hv6 zv6 hWv6 hSv6 hf => ?_)
        refine m_callVi1 (z := false) (As := [.int (i32 v6)]) (rest := [.int (i32 x1), .ref (ad 230)]) X hWv6 hSv6 hl.1 gc_X6_172 hd_X6_blockOf ⟨rfl, rfl, Nat.le_of_ble_eq_true rfl, Nat.le_of_ble_eq_true rfl⟩ (rc_X6 X hWv6) (fun v q => ok_X6_blockOf hv6 q) hf rfl rfl (Nat.le_of_ble_eq_true rfl) dX6_decide_55 ⟨Nat.le_of_ble_eq_true rfl, Nat.le_of_ble_eq_true rfl⟩ (fun v7 H locs hv7 zv7 hWv7 hSv7 hf => ?_)
        refine m_callVi1 (z := false) (As := [.int (i32 x1), .int (i32 v7)]) (rest := []) X hWv7 hSv7 hl.1 gc_X6_175 hd_X6_levelIn ⟨rfl, rfl, Nat.le_of_ble_eq_true rfl, Nat.le_of_ble_eq_true rfl⟩ (rc_X6 X hWv7) (fun v q => ok_X6_levelIn hx1 hv7 q) hf rfl rfl (Nat.le_of_ble_eq_true rfl) dX6_decide_58 ⟨Nat.le_of_ble_eq_true rfl, Nat.le_of_ble_eq_true rfl⟩ (fun v8 H locs hv8 zv8 hWv8 hSv8 hf => ?_)
        refine m_if_ne (tgt := 78) hx hb hv8 hf dX6_decide_61 (by decide) (fun hf => ?_) (fun hf => ?_)
        · skip
          exact hc78 _ _ _ _  hf hWv8 hSv8 (lv_sub hl [0, 1, 2, 3] rfl)
        · skip
          refine lv_aload_n hx hb dX6_decide_64 rfl (lv_at hl 0 rfl) ?_
          refine g_X6_actMany X hWv8 (X.2.2.2.2.1 _ mw1047) dX6_decide_65 ?_
          refine m_sipush (v := 160) hx hb dX6_decide_68 (by decide) ?_
          refine m_icmp_ge (tgt := 78) hx hb (hWv8.2.1 _ _) (by decide) hf dX6_decide_71 (by decide) (fun hf => ?_) (fun hf => ?_)
          · skip
            exact hc78 _ _ _ _  hf hWv8 hSv8 (lv_sub hl [0, 1, 2, 3] rfl)
          · skip
            refine m_const (v := 1) hx hb dX6_decide_74 rfl ?_
            refine lv_goto (tgt := 79) hx hb dX6_decide_75 (by decide) ?_
            exact hc79 _ _ _ _ 1 (by decide) hf hWv8 hSv8 (lv_sub hl [0, 1, 2, 3] rfl)
    · skip
      refine m_const (v := 0) hx hb dX6_decide_32 rfl ?_
      exact m_ireti X hr hlocks rfl (by decide) (fun h => Bool.noConfusion h) hW3 hS3 (congrArg Prod.fst (Option.some.inj hf)) (congrArg Prod.snd (Option.some.inj hf)) hQ dX6_decide_33
  have hc21 : ∀ (σ : St) (H : Heap) (locs : List Loc) (ls : Array Slot), fX6_decide_J21 n σ x1 x2 x3 = some (r, σ2) → Wd D cy ad nm nv σ H → va_S (AW ad nm nv sz) s.heap H locs → lv_has ls 5 [(0, .ref (ad 230)), (1, .int (i32 x1)), (2, .int (i32 x2)), (3, .int (i32 x3))] → W p l e ({ frames := 7, cells := 0, slots := 0, locals := 156 } : Room) s m args below meth c H locs 0 0 Q (F0 m 21 ls [.ref (ad 230)]) := by
    intro σ H locs ls hf hW hS hl
    unfold fX6_decide_J21 at hf
    refine m_const (v := 1) hx hb dX6_decide_21 rfl ?_
    exact hc22 _ _ _ _ 1 (by decide) hf hW hS (lv_sub hl [0, 1, 2, 3] rfl)
  refine lv_aload_n hx hb dX6_decide_0 rfl (lv_at hl 0 rfl) ?_
  refine lv_iload_n hx hb dX6_decide_1 rfl (lv_at hl 1 rfl) ?_
  refine m_callSi1 (z := true) (As := [.int (i32 x1)]) (rest := [.ref (ad 230)]) X hW hS hl.1 gc_X6_215 hd_X6_isSite ⟨rfl, rfl, Nat.le_of_ble_eq_true rfl, Nat.le_of_ble_eq_true rfl⟩ (fun v q => ok_X6_isSite hx1 q) hf rfl rfl (Nat.le_of_ble_eq_true rfl) dX6_decide_2 ⟨Nat.le_of_ble_eq_true rfl, Nat.le_of_ble_eq_true rfl⟩ (fun v1 H locs hv1 zv1 hWv1 hSv1 hf => ?_)
  refine m_if_eq (tgt := 21) hx hb hv1 hf dX6_decide_5 (by decide) (fun hf => ?_) (fun hf => ?_)
  · skip
    exact hc21 _ _ _ _  hf hWv1 hSv1 (lv_sub hl [0, 1, 2, 3] rfl)
  · skip
    refine lv_aload_n hx hb dX6_decide_8 rfl (lv_at hl 0 rfl) ?_
    refine lv_iload_n hx hb dX6_decide_9 rfl (lv_at hl 1 rfl) ?_
    refine lv_iload_n hx hb dX6_decide_10 rfl (lv_at hl 2 rfl) ?_
    refine m_callVi1 (z := true) (As := [.int (i32 x1), .int (i32 x2)]) (rest := [.ref (ad 230)]) X hWv1 hSv1 hl.1 gc_X6_253 hd_X6_hasAct ⟨rfl, rfl, Nat.le_of_ble_eq_true rfl, Nat.le_of_ble_eq_true rfl⟩ (rc_X6 X hWv1) (fun v q => ok_X6_hasAct hx1 hx2 q) hf rfl rfl (Nat.le_of_ble_eq_true rfl) dX6_decide_11 ⟨Nat.le_of_ble_eq_true rfl, Nat.le_of_ble_eq_true rfl⟩ (fun v2 H locs hv2 zv2 hWv2 hSv2 hf => ?_)
    refine m_if_eq (tgt := 21) hx hb hv2 hf dX6_decide_14 (by decide) (fun hf => ?_) (fun hf => ?_)
    · skip
      exact hc21 _ _ _ _  hf hWv2 hSv2 (lv_sub hl [0, 1, 2, 3] rfl)
    · skip
      refine m_const (v := 0) hx hb dX6_decide_17 rfl ?_
      refine lv_goto (tgt := 22) hx hb dX6_decide_18 (by decide) ?_
      exact hc22 _ _ _ _ 0 (by decide) hf hWv2 hSv2 (lv_sub hl [0, 1, 2, 3] rfl)
set_option maxRecDepth 100000 in
set_option maxHeartbeats 4000000 in
theorem ok_X6_allow {l : Launch} {D : va_G} {cy : Nat → ClassId} {ad : Nat → Nat} {nm nv sz : Nat} {σ : St} {n : Nat} {x1 : Int} {x2 : Int} {x3 : Int} {r : Int} {σ2 : St} (hx1 : inR x1) (hx2 : inR x2) (hx3 : inR x3) (hf : fX6_allow n σ x1 x2 x3 = some (r, σ2)) : CI l yX6_allow cX6_allow 4 (some .int) ({ frames := 8, cells := 0, slots := 0, locals := 178 } : Room) [.ref (ad 230), .int (i32 x1), .int (i32 x2), .int (i32 x3)] D cy ad nm nv sz σ false r σ2 := by
  refine m_entry RX6 rfl (by decide +kernel) (Nat.le_of_ble_eq_true rfl) ?_
  intro p e s m args below meth c Q hQ hr hlocks X hW hS ls hl
  have hx := X.1
  have hb := X.2.1
  have hl : lv_has ls 4 [(0, .ref (ad 230)), (1, .int (i32 x1)), (2, .int (i32 x2)), (3, .int (i32 x3))] := hl
  unfold fX6_allow at hf
  have hc51 : ∀ (σ : St) (H : Heap) (locs : List Loc) (ls : Array Slot) (t0 : Int), inR t0 → fX6_allow_J51 n σ x1 x2 x3 t0 = some (r, σ2) → Wd D cy ad nm nv σ H → va_S (AW ad nm nv sz) s.heap H locs → lv_has ls 4 [(0, .ref (ad 230)), (1, .int (i32 x1)), (2, .int (i32 x2)), (3, .int (i32 x3))] → W p l e ({ frames := 8, cells := 0, slots := 0, locals := 178 } : Room) s m args below meth c H locs 0 0 Q (F0 m 51 ls [.int (i32 t0), .ref (ad 230)]) := by
    intro σ H locs ls t0 ht0 hf hW hS hl
    unfold fX6_allow_J51 at hf
    refine p_X6_thrown X hW hS ht0 hf (X.2.2.2.2.1 _ mw1046) dX6_allow_51 (fun σ5 H locs hW5 hS5 hf => ?_)
    refine lv_aload_n hx hb dX6_allow_54 rfl (lv_at hl 0 rfl) ?_
    refine g_X6_thrown X hW5 (X.2.2.2.2.1 _ mw1046) dX6_allow_55 ?_
    refine m_if_le (tgt := 65) hx hb (hW5.2.1 _ _) hf dX6_allow_58 (by decide) (fun hf => ?_) (fun hf => ?_)
    · skip
      refine lv_aload_n hx hb dX6_allow_65 rfl (lv_at hl 0 rfl) ?_
      refine m_const (v := 0) hx hb dX6_allow_66 rfl ?_
      refine m_bipush (v := 10) hx hb dX6_allow_67 (by decide) ?_
      refine lv_iload_n hx hb dX6_allow_69 rfl (lv_at hl 2 rfl) ?_
      refine lv_aload_n hx hb dX6_allow_70 rfl (lv_at hl 0 rfl) ?_
      refine lv_iload_n hx hb dX6_allow_71 rfl (lv_at hl 1 rfl) ?_
      refine m_callVi1 (z := false) (As := [.int (i32 x1)]) (rest := [.int (i32 x2), .int (i32 10), .int (i32 0), .ref (ad 230)]) X hW5 hS5 hl.1 gc_X6_250 hd_X6_blockNumber ⟨rfl, rfl, Nat.le_of_ble_eq_true rfl, Nat.le_of_ble_eq_true rfl⟩ (rc_X6 X hW5) (fun v q => ok_X6_blockNumber hx1 q) hf rfl rfl (Nat.le_of_ble_eq_true rfl) dX6_allow_72 ⟨Nat.le_of_ble_eq_true rfl, Nat.le_of_ble_eq_true rfl⟩ (fun v6 H locs hv6 zv6 hWv6 hSv6 hf => ?_)
      refine lv_iload_n hx hb dX6_allow_75 rfl (lv_at hl 3 rfl) ?_
      refine m_const (v := 0) hx hb dX6_allow_76 rfl ?_
      refine m_const (v := 0) hx hb dX6_allow_77 rfl ?_
      refine m_callVi (z := false) (As := [.int (i32 0), .int (i32 10), .int (i32 x2), .int (i32 v6), .int (i32 x3), .int (i32 0), .int (i32 0)]) (rest := []) X hWv6 hSv6 hl.1 gc_X6_211 hd_X6_makes ⟨rfl, rfl, Nat.le_of_ble_eq_true rfl, Nat.le_of_ble_eq_true rfl⟩ (rc_X6 X hWv6) (fun v q9 q => ok_X6_makes (by decide) (by decide) hx2 hv6 hx3 (by decide) (by decide) q) hf rfl rfl (Nat.le_of_ble_eq_true rfl) dX6_allow_78 ⟨Nat.le_of_ble_eq_true rfl, Nat.le_of_ble_eq_true rfl⟩ (fun v8 σ7 H locs hv8 zv8 hW7 hS7 hf => ?_)
      exact m_ireti X hr hlocks rfl hv8 (fun h => Bool.noConfusion h) hW7 hS7 (congrArg Prod.fst (Option.some.inj hf)) (congrArg Prod.snd (Option.some.inj hf)) hQ dX6_allow_81
    · skip
      refine m_const (v := 0) hx hb dX6_allow_61 rfl ?_
      refine lv_goto (tgt := 81) hx hb dX6_allow_62 (by decide) ?_
      exact m_ireti X hr hlocks rfl (by decide) (fun h => Bool.noConfusion h) hW5 hS5 (congrArg Prod.fst (Option.some.inj hf)) (congrArg Prod.snd (Option.some.inj hf)) hQ dX6_allow_81
  have hc19 : ∀ (σ : St) (H : Heap) (locs : List Loc) (ls : Array Slot), fX6_allow_J19 n σ x1 x2 x3 = some (r, σ2) → Wd D cy ad nm nv σ H → va_S (AW ad nm nv sz) s.heap H locs → lv_has ls 4 [(0, .ref (ad 230)), (1, .int (i32 x1)), (2, .int (i32 x2)), (3, .int (i32 x3))] → W p l e ({ frames := 8, cells := 0, slots := 0, locals := 178 } : Room) s m args below meth c H locs 0 0 Q (F0 m 19 ls [.ref (ad 230)]) := by
    intro σ H locs ls hf hW hS hl
    unfold fX6_allow_J19 at hf
    refine m_const (v := 1) hx hb dX6_allow_19 rfl ?_
    refine lv_goto (tgt := 51) hx hb dX6_allow_20 (by decide) ?_
    exact hc51 _ _ _ _ 1 (by decide) hf hW hS (lv_sub hl [0, 1, 2, 3] rfl)
  refine lv_aload_n hx hb dX6_allow_0 rfl (lv_at hl 0 rfl) ?_
  refine lv_aload_n hx hb dX6_allow_1 rfl (lv_at hl 0 rfl) ?_
  refine m_const (v := 0) hx hb dX6_allow_2 rfl ?_
  refine lv_iload_n hx hb dX6_allow_3 rfl (lv_at hl 1 rfl) ?_
  refine m_callVi (z := true) (As := [.int (i32 0), .int (i32 x1)]) (rest := [.ref (ad 230)]) X hW hS hl.1 gc_X6_247 hd_X6_isBlock ⟨rfl, rfl, Nat.le_of_ble_eq_true rfl, Nat.le_of_ble_eq_true rfl⟩ (rc_X6 X hW) (fun v q9 q => ok_X6_isBlock (by decide) hx1 q) hf rfl rfl (Nat.le_of_ble_eq_true rfl) dX6_allow_4 ⟨Nat.le_of_ble_eq_true rfl, Nat.le_of_ble_eq_true rfl⟩ (fun v2 σ1 H locs hv2 zv2 hW1 hS1 hf => ?_)
  refine m_if_eq (tgt := 19) hx hb hv2 hf dX6_allow_7 (by decide) (fun hf => ?_) (fun hf => ?_)
  · skip
    exact hc19 _ _ _ _  hf hW1 hS1 (lv_sub hl [0, 1, 2, 3] rfl)
  · skip
    refine lv_iload_n hx hb dX6_allow_10 rfl (lv_at hl 2 rfl) ?_
    refine m_const (v := 1) hx hb dX6_allow_11 rfl ?_
    refine m_const (v := 3) hx hb dX6_allow_12 rfl ?_
    refine m_callSi1 (z := true) (As := [.int (i32 x2), .int (i32 1), .int (i32 3)]) (rest := [.ref (ad 230)]) X hW1 hS1 hl.1 gc_X6_130 hd_X6_isIn ⟨rfl, rfl, Nat.le_of_ble_eq_true rfl, Nat.le_of_ble_eq_true rfl⟩ (fun v q => ok_X6_isIn hx2 (by decide) (by decide) q) hf rfl rfl (Nat.le_of_ble_eq_true rfl) dX6_allow_13 ⟨Nat.le_of_ble_eq_true rfl, Nat.le_of_ble_eq_true rfl⟩ (fun v3 H locs hv3 zv3 hWv3 hSv3 hf => ?_)
    refine m_if_ne (tgt := 23) hx hb hv3 hf dX6_allow_16 (by decide) (fun hf => ?_) (fun hf => ?_)
    · skip
      refine lv_iload_n hx hb dX6_allow_23 rfl (lv_at hl 3 rfl) ?_
      refine m_const (v := 0) hx hb dX6_allow_24 rfl ?_
      refine m_const (v := 2) hx hb dX6_allow_25 rfl ?_
      refine m_callSi1 (z := true) (As := [.int (i32 x3), .int (i32 0), .int (i32 2)]) (rest := [.ref (ad 230)]) X hWv3 hSv3 hl.1 gc_X6_130 hd_X6_isIn ⟨rfl, rfl, Nat.le_of_ble_eq_true rfl, Nat.le_of_ble_eq_true rfl⟩ (fun v q => ok_X6_isIn hx3 (by decide) (by decide) q) hf rfl rfl (Nat.le_of_ble_eq_true rfl) dX6_allow_26 ⟨Nat.le_of_ble_eq_true rfl, Nat.le_of_ble_eq_true rfl⟩ (fun v4 H locs hv4 zv4 hWv4 hSv4 hf => ?_)
      refine m_if_ne (tgt := 36) hx hb hv4 hf dX6_allow_29 (by decide) (fun hf => ?_) (fun hf => ?_)
      · skip
        refine lv_aload_n hx hb dX6_allow_36 rfl (lv_at hl 0 rfl) ?_
        refine g_X6_actMany X hWv4 (X.2.2.2.2.1 _ mw1047) dX6_allow_37 ?_
        refine m_sipush (v := 160) hx hb dX6_allow_40 (by decide) ?_
        refine m_icmp_ne (tgt := 50) hx hb (hWv4.2.1 _ _) (by decide) hf dX6_allow_43 (by decide) (fun hf => ?_) (fun hf => ?_)
        · skip
          refine m_const (v := 0) hx hb dX6_allow_50 rfl ?_
          exact hc51 _ _ _ _ 0 (by decide) hf hWv4 hSv4 (lv_sub hl [0, 1, 2, 3] rfl)
        · skip
          refine m_const (v := 3) hx hb dX6_allow_46 rfl ?_
          refine lv_goto (tgt := 51) hx hb dX6_allow_47 (by decide) ?_
          exact hc51 _ _ _ _ 3 (by decide) hf hWv4 hSv4 (lv_sub hl [0, 1, 2, 3] rfl)
      · skip
        refine m_const (v := 2) hx hb dX6_allow_32 rfl ?_
        refine lv_goto (tgt := 51) hx hb dX6_allow_33 (by decide) ?_
        exact hc51 _ _ _ _ 2 (by decide) hf hWv4 hSv4 (lv_sub hl [0, 1, 2, 3] rfl)
    · skip
      exact hc19 _ _ _ _  hf hWv3 hSv3 (lv_sub hl [0, 1, 2, 3] rfl)
set_option maxRecDepth 100000 in
set_option maxHeartbeats 4000000 in
theorem ok_X6_undo {l : Launch} {D : va_G} {cy : Nat → ClassId} {ad : Nat → Nat} {nm nv sz : Nat} {σ : St} {n : Nat} {x1 : Int} {r : Int} {σ2 : St} (hx1 : inR x1) (hf : fX6_undo n σ x1 = some (r, σ2)) : CI l yX6_undo cX6_undo 5 (some .int) ({ frames := 2, cells := 0, slots := 0, locals := 50 } : Room) [.ref (ad 230), .int (i32 x1)] D cy ad nm nv sz σ false r σ2 := by
  refine m_entry RX6 rfl (by decide +kernel) (Nat.le_of_ble_eq_true rfl) ?_
  intro p e s m args below meth c Q hQ hr hlocks X hW hS ls hl
  have hx := X.1
  have hb := X.2.1
  have hl : lv_has ls 5 [(0, .ref (ad 230)), (1, .int (i32 x1))] := hl
  unfold fX6_undo at hf
  have hc113 : ∀ (σ : St) (H : Heap) (locs : List Loc) (ls : Array Slot) (x2 : Int) (t0 : Int), inR x2 → inR t0 → fX6_undo_J113 n σ x1 x2 t0 = some (r, σ2) → Wd D cy ad nm nv σ H → va_S (AW ad nm nv sz) s.heap H locs → lv_has ls 5 [(0, .ref (ad 230)), (1, .int (i32 x1)), (2, .int (i32 x2))] → W p l e ({ frames := 2, cells := 0, slots := 0, locals := 50 } : Room) s m args below meth c H locs 0 0 Q (F0 m 113 ls [.int (i32 t0), .ref (ad 230)]) := by
    intro σ H locs ls x2 t0 hx2 ht0 hf hW hS hl
    unfold fX6_undo_J113 at hf
    refine p_X6_thrown X hW hS ht0 hf (X.2.2.2.2.1 _ mw1046) dX6_undo_113 (fun σ14 H locs hW14 hS14 hf => ?_)
    refine lv_aload_n hx hb dX6_undo_116 rfl (lv_at hl 0 rfl) ?_
    refine g_X6_thrown X hW14 (X.2.2.2.2.1 _ mw1046) dX6_undo_117 ?_
    refine m_if_le (tgt := 125) hx hb (hW14.2.1 _ _) hf dX6_undo_120 (by decide) (fun hf => ?_) (fun hf => ?_)
    · skip
      refine lv_aload_n hx hb dX6_undo_125 rfl (lv_at hl 0 rfl) ?_
      refine lv_iload_n hx hb dX6_undo_126 rfl (lv_at hl 1 rfl) ?_
      refine m_bipush (v := 11) hx hb dX6_undo_127 (by decide) ?_
      refine lv_iload_n hx hb dX6_undo_129 rfl (lv_at hl 2 rfl) ?_
      refine m_const (v := 0) hx hb dX6_undo_130 rfl ?_
      refine m_const (v := 0) hx hb dX6_undo_131 rfl ?_
      refine m_const (v := 0) hx hb dX6_undo_132 rfl ?_
      refine m_const (v := 0) hx hb dX6_undo_133 rfl ?_
      refine m_callVi (z := false) (As := [.int (i32 x1), .int (i32 11), .int (i32 x2), .int (i32 0), .int (i32 0), .int (i32 0), .int (i32 0)]) (rest := []) X hW14 hS14 hl.1 gc_X6_211 hd_X6_makes ⟨rfl, rfl, Nat.le_of_ble_eq_true rfl, Nat.le_of_ble_eq_true rfl⟩ (rc_X6 X hW14) (fun v q9 q => ok_X6_makes hx1 (by decide) hx2 (by decide) (by decide) (by decide) (by decide) q) hf rfl rfl (Nat.le_of_ble_eq_true rfl) dX6_undo_134 ⟨Nat.le_of_ble_eq_true rfl, Nat.le_of_ble_eq_true rfl⟩ (fun v16 σ15 H locs hv16 zv16 hW15 hS15 hf => ?_)
      refine lv_pop hx hb dX6_undo_137 rfl ?_
      refine lv_iload_n hx hb dX6_undo_138 rfl (lv_at hl 2 rfl) ?_
      exact m_ireti X hr hlocks rfl hx2 (fun h => Bool.noConfusion h) hW15 hS15 (congrArg Prod.fst (Option.some.inj hf)) (congrArg Prod.snd (Option.some.inj hf)) hQ dX6_undo_139
    · skip
      refine m_const (v := 0) hx hb dX6_undo_123 rfl ?_
      exact m_ireti X hr hlocks rfl (by decide) (fun h => Bool.noConfusion h) hW14 hS14 (congrArg Prod.fst (Option.some.inj hf)) (congrArg Prod.snd (Option.some.inj hf)) hQ dX6_undo_124
  have hc108 : ∀ (σ : St) (H : Heap) (locs : List Loc) (ls : Array Slot) (x2 : Int), inR x2 → fX6_undo_J108 n σ x1 x2 = some (r, σ2) → Wd D cy ad nm nv σ H → va_S (AW ad nm nv sz) s.heap H locs → lv_has ls 5 [(0, .ref (ad 230)), (1, .int (i32 x1)), (2, .int (i32 x2))] → W p l e ({ frames := 2, cells := 0, slots := 0, locals := 50 } : Room) s m args below meth c H locs 0 0 Q (F0 m 108 ls [.ref (ad 230)]) := by
    intro σ H locs ls x2 hx2 hf hW hS hl
    unfold fX6_undo_J108 at hf
    refine m_const (v := 2) hx hb dX6_undo_108 rfl ?_
    refine lv_goto (tgt := 113) hx hb dX6_undo_109 (by decide) ?_
    exact hc113 _ _ _ _ x2 2 hx2 (by decide) hf hW hS (lv_sub hl [0, 1, 2] rfl)
  have hc30 : ∀ (k30 : Nat) (σ : St) (H : Heap) (locs : List Loc) (ls : Array Slot) (x2 : Int) (x3 : Int), inR x2 → inR x3 → fX6_undo_L30 n σ x1 k30 x2 x3 = some (r, σ2) → Wd D cy ad nm nv σ H → va_S (AW ad nm nv sz) s.heap H locs → lv_has ls 5 [(0, .ref (ad 230)), (1, .int (i32 x1)), (2, .int (i32 x2)), (3, .int (i32 x3))] → W p l e ({ frames := 2, cells := 0, slots := 0, locals := 50 } : Room) s m args below meth c H locs 0 0 Q (F0 m 30 ls []) := by
    intro k30
    induction k30 with
    | zero =>
      intro σ H locs ls x2 x3 hx2 hx3 hf
      have hf : (none : Option (Int × St)) = some (r, σ2) := hf
      cases hf
    | succ k30 ih30 =>
      intro σ H locs ls x2 x3 hx2 hx3 hf hW hS hl
      have hf : fX6_undo_L30s n σ x1 (fX6_undo_L30 n σ x1 k30) x2 x3 = some (r, σ2) := hf
      unfold fX6_undo_L30s at hf
      refine lv_iload_n hx hb dX6_undo_30 rfl (lv_at hl 3 rfl) ?_
      refine lv_aload_n hx hb dX6_undo_31 rfl (lv_at hl 0 rfl) ?_
      refine g_X6_orderMany X hW (X.2.2.2.2.1 _ mw1075) dX6_undo_32 ?_
      refine m_icmp_ge (tgt := 92) hx hb hx3 (hW.2.1 _ _) hf dX6_undo_35 (by decide) (fun hf => ?_) (fun hf => ?_)
      · skip
        refine lv_aload_n hx hb dX6_undo_92 rfl (lv_at hl 0 rfl) ?_
        refine lv_iload_n hx hb dX6_undo_93 rfl (lv_at hl 2 rfl) ?_
        refine m_const (v := (-1)) hx hb dX6_undo_94 rfl ?_
        refine m_icmp_eq (tgt := 108) hx hb hx2 (by decide) hf dX6_undo_95 (by decide) (fun hf => ?_) (fun hf => ?_)
        · skip
          exact hc108 _ _ _ _ x2 hx2 hf hW hS (lv_sub hl [0, 1, 2] rfl)
        · skip
          refine lv_aload_n hx hb dX6_undo_98 rfl (lv_at hl 0 rfl) ?_
          refine g_X6_actMany X hW (X.2.2.2.2.1 _ mw1047) dX6_undo_99 ?_
          refine m_sipush (v := 160) hx hb dX6_undo_102 (by decide) ?_
          refine m_icmp_ne (tgt := 112) hx hb (hW.2.1 _ _) (by decide) hf dX6_undo_105 (by decide) (fun hf => ?_) (fun hf => ?_)
          · skip
            refine m_const (v := 0) hx hb dX6_undo_112 rfl ?_
            exact hc113 _ _ _ _ x2 0 hx2 (by decide) hf hW hS (lv_sub hl [0, 1, 2] rfl)
          · skip
            exact hc108 _ _ _ _ x2 hx2 hf hW hS (lv_sub hl [0, 1, 2] rfl)
      · skip
        refine lv_aload_n hx hb dX6_undo_38 rfl (lv_at hl 0 rfl) ?_
        refine g_X6_order X hW (X.2.2.2.2.1 _ mw1076) dX6_undo_39 ?_
        refine lv_iload_n hx hb dX6_undo_42 rfl (lv_at hl 3 rfl) ?_
        refine m_iald X hW a_X6_order hx3 hf dX6_undo_43 (fun v6 hv6 hf => ?_)
        refine lv_istore (lv' := [(4, .int (i32 v6)), (0, .ref (ad 230)), (1, .int (i32 x1)), (2, .int (i32 x2)), (3, .int (i32 x3))]) hx hb dX6_undo_44 hl (by decide) rfl (fun ls hl => ?_)
        refine lv_aload_n hx hb dX6_undo_46 rfl (lv_at hl 1 rfl) ?_
        refine g_X6_makers X hW (X.2.2.2.2.1 _ mw1048) dX6_undo_47 ?_
        refine lv_iload hx hb dX6_undo_50 (lv_at hl 0 rfl) ?_
        refine m_iald X hW a_X6_makers hv6 hf dX6_undo_52 (fun v7 hv7 hf => ?_)
        refine lv_iload_n hx hb dX6_undo_53 rfl (lv_at hl 2 rfl) ?_
        refine m_icmp_ne (tgt := 84) hx hb hv7 hx1 hf dX6_undo_54 (by decide) (fun hf => ?_) (fun hf => ?_)
        · skip
          refine lv_iload_n hx hb dX6_undo_84 rfl (lv_at hl 3 rfl) ?_
          refine lv_istore_n (lv' := [(2, .int (i32 x2)), (4, .int (i32 v6)), (0, .ref (ad 230)), (1, .int (i32 x1)), (3, .int (i32 x3))]) hx hb dX6_undo_85 rfl hl (by decide) rfl (fun ls hl => ?_)
          refine m_iinc (k0 := 4) (fun v8 => [(3, .int (i32 v8)), (2, .int (i32 x2)), (4, .int (i32 v6)), (0, .ref (ad 230)), (1, .int (i32 x1))]) hx hb hf dX6_undo_86 hl rfl (by decide) (fun _ => rfl) (fun v8 ls hv8 hf hl => ?_)
          have hl : lv_has ls 5 [(3, .int (i32 v8)), (2, .int (i32 x2)), (4, .int (i32 v6)), (0, .ref (ad 230)), (1, .int (i32 x1))] := hl
          refine lv_goto (tgt := 30) hx hb dX6_undo_89 (by decide) ?_
          exact ih30 _ _ _ _ x2 v8 hx2 hv8 hf hW hS (lv_sub hl [3, 4, 1, 0] rfl)
        · skip
          refine lv_aload_n hx hb dX6_undo_57 rfl (lv_at hl 1 rfl) ?_
          refine g_X6_kinds X hW (X.2.2.2.2.1 _ mw1050) dX6_undo_58 ?_
          refine lv_iload hx hb dX6_undo_61 (lv_at hl 0 rfl) ?_
          refine m_iald X hW a_X6_kinds hv6 hf dX6_undo_63 (fun v9 hv9 hf => ?_)
          refine m_bipush (v := 7) hx hb dX6_undo_64 (by decide) ?_
          refine m_icmp_gt (tgt := 84) hx hb hv9 (by decide) hf dX6_undo_66 (by decide) (fun hf => ?_) (fun hf => ?_)
          · skip
            refine lv_iload_n hx hb dX6_undo_84 rfl (lv_at hl 3 rfl) ?_
            refine lv_istore_n (lv' := [(2, .int (i32 x2)), (4, .int (i32 v6)), (0, .ref (ad 230)), (1, .int (i32 x1)), (3, .int (i32 x3))]) hx hb dX6_undo_85 rfl hl (by decide) rfl (fun ls hl => ?_)
            refine m_iinc (k0 := 4) (fun v10 => [(3, .int (i32 v10)), (2, .int (i32 x2)), (4, .int (i32 v6)), (0, .ref (ad 230)), (1, .int (i32 x1))]) hx hb hf dX6_undo_86 hl rfl (by decide) (fun _ => rfl) (fun v10 ls hv10 hf hl => ?_)
            have hl : lv_has ls 5 [(3, .int (i32 v10)), (2, .int (i32 x2)), (4, .int (i32 v6)), (0, .ref (ad 230)), (1, .int (i32 x1))] := hl
            refine lv_goto (tgt := 30) hx hb dX6_undo_89 (by decide) ?_
            exact ih30 _ _ _ _ x2 v10 hx2 hv10 hf hW hS (lv_sub hl [3, 4, 1, 0] rfl)
          · skip
            refine lv_aload_n hx hb dX6_undo_69 rfl (lv_at hl 1 rfl) ?_
            refine g_X6_undone X hW (X.2.2.2.2.1 _ mw1077) dX6_undo_70 ?_
            refine lv_iload hx hb dX6_undo_73 (lv_at hl 0 rfl) ?_
            refine m_zald X hW a_X6_undone hv6 hf dX6_undo_75 (fun v11 hv11 hf => ?_)
            refine m_if_ne (tgt := 84) hx hb hv11 hf dX6_undo_76 (by decide) (fun hf => ?_) (fun hf => ?_)
            · skip
              refine lv_iload_n hx hb dX6_undo_84 rfl (lv_at hl 3 rfl) ?_
              refine lv_istore_n (lv' := [(2, .int (i32 x2)), (4, .int (i32 v6)), (0, .ref (ad 230)), (1, .int (i32 x1)), (3, .int (i32 x3))]) hx hb dX6_undo_85 rfl hl (by decide) rfl (fun ls hl => ?_)
              refine m_iinc (k0 := 4) (fun v12 => [(3, .int (i32 v12)), (2, .int (i32 x2)), (4, .int (i32 v6)), (0, .ref (ad 230)), (1, .int (i32 x1))]) hx hb hf dX6_undo_86 hl rfl (by decide) (fun _ => rfl) (fun v12 ls hv12 hf hl => ?_)
              have hl : lv_has ls 5 [(3, .int (i32 v12)), (2, .int (i32 x2)), (4, .int (i32 v6)), (0, .ref (ad 230)), (1, .int (i32 x1))] := hl
              refine lv_goto (tgt := 30) hx hb dX6_undo_89 (by decide) ?_
              exact ih30 _ _ _ _ x2 v12 hx2 hv12 hf hW hS (lv_sub hl [3, 4, 1, 0] rfl)
            · skip
              refine lv_iload hx hb dX6_undo_79 (lv_at hl 0 rfl) ?_
              refine lv_goto (tgt := 85) hx hb dX6_undo_81 (by decide) ?_
              refine lv_istore_n (lv' := [(2, .int (i32 v6)), (4, .int (i32 v6)), (0, .ref (ad 230)), (1, .int (i32 x1)), (3, .int (i32 x3))]) hx hb dX6_undo_85 rfl hl (by decide) rfl (fun ls hl => ?_)
              refine m_iinc (k0 := 4) (fun v13 => [(3, .int (i32 v13)), (2, .int (i32 v6)), (4, .int (i32 v6)), (0, .ref (ad 230)), (1, .int (i32 x1))]) hx hb hf dX6_undo_86 hl rfl (by decide) (fun _ => rfl) (fun v13 ls hv13 hf hl => ?_)
              have hl : lv_has ls 5 [(3, .int (i32 v13)), (2, .int (i32 v6)), (4, .int (i32 v6)), (0, .ref (ad 230)), (1, .int (i32 x1))] := hl
              refine lv_goto (tgt := 30) hx hb dX6_undo_89 (by decide) ?_
              exact ih30 _ _ _ _ v6 v13 hv6 hv13 hf hW hS (lv_sub hl [3, 4, 1, 0] rfl)
  refine lv_iload_n hx hb dX6_undo_0 rfl (lv_at hl 1 rfl) ?_
  refine m_callSi1 (z := true) (As := [.int (i32 x1)]) (rest := []) X hW hS hl.1 gc_X6_215 hd_X6_isSite ⟨rfl, rfl, Nat.le_of_ble_eq_true rfl, Nat.le_of_ble_eq_true rfl⟩ (fun v q => ok_X6_isSite hx1 q) hf rfl rfl (Nat.le_of_ble_eq_true rfl) dX6_undo_1 ⟨Nat.le_of_ble_eq_true rfl, Nat.le_of_ble_eq_true rfl⟩ (fun v1 H locs hv1 zv1 hWv1 hSv1 hf => ?_)
  refine m_if_ne (tgt := 13) hx hb hv1 hf dX6_undo_4 (by decide) (fun hf => ?_) (fun hf => ?_)
  · skip
    refine lv_aload_n hx hb dX6_undo_13 rfl (lv_at hl 0 rfl) ?_
    refine lv_aload_n hx hb dX6_undo_14 rfl (lv_at hl 0 rfl) ?_
    refine g_X6_has X hWv1 (X.2.2.2.2.1 _ mw1058) dX6_undo_15 ?_
    refine m_sipush (v := 160) hx hb dX6_undo_18 (by decide) ?_
    refine lv_iload_n hx hb dX6_undo_21 rfl (lv_at hl 1 rfl) ?_
    refine m_imul hx hb hf dX6_undo_22 (fun v2 hv2 hf => ?_)
    refine m_callVv (As := [.ref (ad 243), .int (i32 v2)]) (rest := []) X hWv1 hSv1 hl.1 gc_X6_158 hd_X6_orders ⟨rfl, rfl, Nat.le_of_ble_eq_true rfl, Nat.le_of_ble_eq_true rfl⟩ (rc_X6 X hWv1) (fun v q => ok_X6_orders (arrL a_X6_has) hv2 q) hf rfl rfl (Nat.le_of_ble_eq_true rfl) dX6_undo_23 ⟨Nat.le_of_ble_eq_true rfl, Nat.le_of_ble_eq_true rfl⟩ (fun σ3 H locs hW3 hS3 hf => ?_)
    refine m_const (v := (-1)) hx hb dX6_undo_26 rfl ?_
    refine lv_istore_n (lv' := [(2, .int (i32 (-1))), (0, .ref (ad 230)), (1, .int (i32 x1))]) hx hb dX6_undo_27 rfl hl (by decide) rfl (fun ls hl => ?_)
    refine m_const (v := 0) hx hb dX6_undo_28 rfl ?_
    refine lv_istore_n (lv' := [(3, .int (i32 0)), (2, .int (i32 (-1))), (0, .ref (ad 230)), (1, .int (i32 x1))]) hx hb dX6_undo_29 rfl hl (by decide) rfl (fun ls hl => ?_)
    exact hc30 n _ _ _ _ (-1) 0 (by decide) (by decide) hf hW3 hS3 (lv_sub hl [2, 3, 1, 0] rfl)
  · skip
    refine lv_aload_n hx hb dX6_undo_7 rfl (lv_at hl 0 rfl) ?_
    refine m_const (v := 1) hx hb dX6_undo_8 rfl ?_
    refine m_callVi (z := false) (As := [.int (i32 1)]) (rest := []) X hWv1 hSv1 hl.1 gc_X6_222 hd_X6_fails ⟨rfl, rfl, Nat.le_of_ble_eq_true rfl, Nat.le_of_ble_eq_true rfl⟩ (rc_X6 X hWv1) (fun v q9 q => ok_X6_fails (by decide) q) hf rfl rfl (Nat.le_of_ble_eq_true rfl) dX6_undo_9 ⟨Nat.le_of_ble_eq_true rfl, Nat.le_of_ble_eq_true rfl⟩ (fun v5 σ4 H locs hv5 zv5 hW4 hS4 hf => ?_)
    exact m_ireti X hr hlocks rfl hv5 (fun h => Bool.noConfusion h) hW4 hS4 (congrArg Prod.fst (Option.some.inj hf)) (congrArg Prod.snd (Option.some.inj hf)) hQ dX6_undo_12
set_option maxRecDepth 100000 in
set_option maxHeartbeats 4000000 in
theorem ok_X6_redo {l : Launch} {D : va_G} {cy : Nat → ClassId} {ad : Nat → Nat} {nm nv sz : Nat} {σ : St} {n : Nat} {x1 : Int} {r : Int} {σ2 : St} (hx1 : inR x1) (hf : fX6_redo n σ x1 = some (r, σ2)) : CI l yX6_redo cX6_redo 6 (some .int) ({ frames := 2, cells := 0, slots := 0, locals := 50 } : Room) [.ref (ad 230), .int (i32 x1)] D cy ad nm nv sz σ false r σ2 := by
  refine m_entry RX6 rfl (by decide +kernel) (Nat.le_of_ble_eq_true rfl) ?_
  intro p e s m args below meth c Q hQ hr hlocks X hW hS ls hl
  have hx := X.1
  have hb := X.2.1
  have hl : lv_has ls 6 [(0, .ref (ad 230)), (1, .int (i32 x1))] := hl
  unfold fX6_redo at hf
  have hc153 : ∀ (σ : St) (H : Heap) (locs : List Loc) (ls : Array Slot) (x2 : Int) (t0 : Int), inR x2 → inR t0 → fX6_redo_J153 n σ x1 x2 t0 = some (r, σ2) → Wd D cy ad nm nv σ H → va_S (AW ad nm nv sz) s.heap H locs → lv_has ls 6 [(0, .ref (ad 230)), (1, .int (i32 x1)), (2, .int (i32 x2))] → W p l e ({ frames := 2, cells := 0, slots := 0, locals := 50 } : Room) s m args below meth c H locs 0 0 Q (F0 m 153 ls [.int (i32 t0), .ref (ad 230)]) := by
    intro σ H locs ls x2 t0 hx2 ht0 hf hW hS hl
    unfold fX6_redo_J153 at hf
    refine p_X6_thrown X hW hS ht0 hf (X.2.2.2.2.1 _ mw1046) dX6_redo_153 (fun σ12 H locs hW12 hS12 hf => ?_)
    refine lv_aload_n hx hb dX6_redo_156 rfl (lv_at hl 0 rfl) ?_
    refine g_X6_thrown X hW12 (X.2.2.2.2.1 _ mw1046) dX6_redo_157 ?_
    refine m_if_le (tgt := 165) hx hb (hW12.2.1 _ _) hf dX6_redo_160 (by decide) (fun hf => ?_) (fun hf => ?_)
    · skip
      refine lv_aload_n hx hb dX6_redo_165 rfl (lv_at hl 0 rfl) ?_
      refine lv_iload_n hx hb dX6_redo_166 rfl (lv_at hl 1 rfl) ?_
      refine m_bipush (v := 12) hx hb dX6_redo_167 (by decide) ?_
      refine lv_aload_n hx hb dX6_redo_169 rfl (lv_at hl 0 rfl) ?_
      refine g_X6_ones X hW12 (X.2.2.2.2.1 _ mw1051) dX6_redo_170 ?_
      refine lv_iload_n hx hb dX6_redo_173 rfl (lv_at hl 2 rfl) ?_
      refine m_iald X hW12 a_X6_ones hx2 hf dX6_redo_174 (fun v13 hv13 hf => ?_)
      refine m_const (v := 0) hx hb dX6_redo_175 rfl ?_
      refine m_const (v := 0) hx hb dX6_redo_176 rfl ?_
      refine m_const (v := 0) hx hb dX6_redo_177 rfl ?_
      refine m_const (v := 0) hx hb dX6_redo_178 rfl ?_
      refine m_callVi (z := false) (As := [.int (i32 x1), .int (i32 12), .int (i32 v13), .int (i32 0), .int (i32 0), .int (i32 0), .int (i32 0)]) (rest := []) X hW12 hS12 hl.1 gc_X6_211 hd_X6_makes ⟨rfl, rfl, Nat.le_of_ble_eq_true rfl, Nat.le_of_ble_eq_true rfl⟩ (rc_X6 X hW12) (fun v q9 q => ok_X6_makes hx1 (by decide) hv13 (by decide) (by decide) (by decide) (by decide) q) hf rfl rfl (Nat.le_of_ble_eq_true rfl) dX6_redo_179 ⟨Nat.le_of_ble_eq_true rfl, Nat.le_of_ble_eq_true rfl⟩ (fun v15 σ14 H locs hv15 zv15 hW14 hS14 hf => ?_)
      refine lv_pop hx hb dX6_redo_182 rfl ?_
      refine lv_aload_n hx hb dX6_redo_183 rfl (lv_at hl 0 rfl) ?_
      refine g_X6_ones X hW14 (X.2.2.2.2.1 _ mw1051) dX6_redo_184 ?_
      refine lv_iload_n hx hb dX6_redo_187 rfl (lv_at hl 2 rfl) ?_
      refine m_iald X hW14 a_X6_ones hx2 hf dX6_redo_188 (fun v16 hv16 hf => ?_)
      exact m_ireti X hr hlocks rfl hv16 (fun h => Bool.noConfusion h) hW14 hS14 (congrArg Prod.fst (Option.some.inj hf)) (congrArg Prod.snd (Option.some.inj hf)) hQ dX6_redo_189
    · skip
      refine m_const (v := 0) hx hb dX6_redo_163 rfl ?_
      exact m_ireti X hr hlocks rfl (by decide) (fun h => Bool.noConfusion h) hW12 hS12 (congrArg Prod.fst (Option.some.inj hf)) (congrArg Prod.snd (Option.some.inj hf)) hQ dX6_redo_164
  have hc148 : ∀ (σ : St) (H : Heap) (locs : List Loc) (ls : Array Slot) (x2 : Int), inR x2 → fX6_redo_J148 n σ x1 x2 = some (r, σ2) → Wd D cy ad nm nv σ H → va_S (AW ad nm nv sz) s.heap H locs → lv_has ls 6 [(0, .ref (ad 230)), (1, .int (i32 x1)), (2, .int (i32 x2))] → W p l e ({ frames := 2, cells := 0, slots := 0, locals := 50 } : Room) s m args below meth c H locs 0 0 Q (F0 m 148 ls [.ref (ad 230)]) := by
    intro σ H locs ls x2 hx2 hf hW hS hl
    unfold fX6_redo_J148 at hf
    refine m_const (v := 2) hx hb dX6_redo_148 rfl ?_
    refine lv_goto (tgt := 153) hx hb dX6_redo_149 (by decide) ?_
    exact hc153 _ _ _ _ x2 2 hx2 (by decide) hf hW hS (lv_sub hl [0, 1, 2] rfl)
  have hc33 : ∀ (k33 : Nat) (σ : St) (H : Heap) (locs : List Loc) (ls : Array Slot) (x2 : Int) (x3 : Int) (x4 : Int), inR x2 → inR x3 → inR x4 → fX6_redo_L33 n σ x1 k33 x2 x3 x4 = some (r, σ2) → Wd D cy ad nm nv σ H → va_S (AW ad nm nv sz) s.heap H locs → lv_has ls 6 [(0, .ref (ad 230)), (1, .int (i32 x1)), (2, .int (i32 x2)), (3, .int (i32 x3)), (4, .int (i32 x4))] → W p l e ({ frames := 2, cells := 0, slots := 0, locals := 50 } : Room) s m args below meth c H locs 0 0 Q (F0 m 33 ls []) := by
    intro k33
    induction k33 with
    | zero =>
      intro σ H locs ls x2 x3 x4 hx2 hx3 hx4 hf
      have hf : (none : Option (Int × St)) = some (r, σ2) := hf
      cases hf
    | succ k33 ih33 =>
      intro σ H locs ls x2 x3 x4 hx2 hx3 hx4 hf hW hS hl
      have hf : fX6_redo_L33s n σ x1 (fX6_redo_L33 n σ x1 k33) x2 x3 x4 = some (r, σ2) := hf
      unfold fX6_redo_L33s at hf
      have hc97 : ∀ (σ : St) (H : Heap) (locs : List Loc) (ls : Array Slot) (x2 : Int) (x3 : Int) (x4 : Int) (x5 : Int), inR x2 → inR x3 → inR x4 → inR x5 → fX6_redo_J97 n (fX6_redo_L33 n σ x1 k33) σ x1 x2 x3 x4 x5 = some (r, σ2) → Wd D cy ad nm nv σ H → va_S (AW ad nm nv sz) s.heap H locs → lv_has ls 6 [(0, .ref (ad 230)), (1, .int (i32 x1)), (2, .int (i32 x2)), (3, .int (i32 x3)), (4, .int (i32 x4)), (5, .int (i32 x5))] → W p l e ({ frames := 2, cells := 0, slots := 0, locals := 50 } : Room) s m args below meth c H locs 0 0 Q (F0 m 97 ls []) := by
        intro σ H locs ls x2 x3 x4 x5 hx2 hx3 hx4 hx5 hf hW hS hl
        unfold fX6_redo_J97 at hf
        refine lv_aload_n hx hb dX6_redo_97 rfl (lv_at hl 0 rfl) ?_
        refine g_X6_makers X hW (X.2.2.2.2.1 _ mw1048) dX6_redo_98 ?_
        refine lv_iload hx hb dX6_redo_101 (lv_at hl 5 rfl) ?_
        refine m_iald X hW a_X6_makers hx5 hf dX6_redo_103 (fun v17 hv17 hf => ?_)
        refine lv_iload_n hx hb dX6_redo_104 rfl (lv_at hl 1 rfl) ?_
        refine m_icmp_ne (tgt := 122) hx hb hv17 hx1 hf dX6_redo_105 (by decide) (fun hf => ?_) (fun hf => ?_)
        · skip
          refine m_iinc (k0 := 4) (fun v18 => [(4, .int (i32 v18)), (0, .ref (ad 230)), (1, .int (i32 x1)), (2, .int (i32 x2)), (3, .int (i32 x3)), (5, .int (i32 x5))]) hx hb hf dX6_redo_122 hl rfl (by decide) (fun _ => rfl) (fun v18 ls hv18 hf hl => ?_)
          have hl : lv_has ls 6 [(4, .int (i32 v18)), (0, .ref (ad 230)), (1, .int (i32 x1)), (2, .int (i32 x2)), (3, .int (i32 x3)), (5, .int (i32 x5))] := hl
          refine lv_goto (tgt := 33) hx hb dX6_redo_125 (by decide) ?_
          exact ih33 _ _ _ _ x2 x3 v18 hx2 hx3 hv18 hf hW hS (lv_sub hl [1, 2, 3, 4, 0] rfl)
        · skip
          refine lv_aload_n hx hb dX6_redo_108 rfl (lv_at hl 0 rfl) ?_
          refine g_X6_kinds X hW (X.2.2.2.2.1 _ mw1050) dX6_redo_109 ?_
          refine lv_iload hx hb dX6_redo_112 (lv_at hl 5 rfl) ?_
          refine m_iald X hW a_X6_kinds hx5 hf dX6_redo_114 (fun v19 hv19 hf => ?_)
          refine m_bipush (v := 7) hx hb dX6_redo_115 (by decide) ?_
          refine m_icmp_gt (tgt := 122) hx hb hv19 (by decide) hf dX6_redo_117 (by decide) (fun hf => ?_) (fun hf => ?_)
          · skip
            refine m_iinc (k0 := 4) (fun v20 => [(4, .int (i32 v20)), (0, .ref (ad 230)), (1, .int (i32 x1)), (2, .int (i32 x2)), (3, .int (i32 x3)), (5, .int (i32 x5))]) hx hb hf dX6_redo_122 hl rfl (by decide) (fun _ => rfl) (fun v20 ls hv20 hf hl => ?_)
            have hl : lv_has ls 6 [(4, .int (i32 v20)), (0, .ref (ad 230)), (1, .int (i32 x1)), (2, .int (i32 x2)), (3, .int (i32 x3)), (5, .int (i32 x5))] := hl
            refine lv_goto (tgt := 33) hx hb dX6_redo_125 (by decide) ?_
            exact ih33 _ _ _ _ x2 x3 v20 hx2 hx3 hv20 hf hW hS (lv_sub hl [1, 2, 3, 4, 0] rfl)
          · skip
            refine m_const (v := 1) hx hb dX6_redo_120 rfl ?_
            refine lv_istore_n (lv' := [(3, .int (i32 1)), (0, .ref (ad 230)), (1, .int (i32 x1)), (2, .int (i32 x2)), (4, .int (i32 x4)), (5, .int (i32 x5))]) hx hb dX6_redo_121 rfl hl (by decide) rfl (fun ls hl => ?_)
            refine m_iinc (k0 := 4) (fun v21 => [(4, .int (i32 v21)), (3, .int (i32 1)), (0, .ref (ad 230)), (1, .int (i32 x1)), (2, .int (i32 x2)), (5, .int (i32 x5))]) hx hb hf dX6_redo_122 hl rfl (by decide) (fun _ => rfl) (fun v21 ls hv21 hf hl => ?_)
            have hl : lv_has ls 6 [(4, .int (i32 v21)), (3, .int (i32 1)), (0, .ref (ad 230)), (1, .int (i32 x1)), (2, .int (i32 x2)), (5, .int (i32 x5))] := hl
            refine lv_goto (tgt := 33) hx hb dX6_redo_125 (by decide) ?_
            exact ih33 _ _ _ _ x2 1 v21 hx2 (by decide) hv21 hf hW hS (lv_sub hl [2, 3, 4, 1, 0] rfl)
      refine lv_iload hx hb dX6_redo_33 (lv_at hl 4 rfl) ?_
      refine lv_aload_n hx hb dX6_redo_35 rfl (lv_at hl 0 rfl) ?_
      refine g_X6_orderMany X hW (X.2.2.2.2.1 _ mw1075) dX6_redo_36 ?_
      refine m_icmp_ge (tgt := 128) hx hb hx4 (hW.2.1 _ _) hf dX6_redo_39 (by decide) (fun hf => ?_) (fun hf => ?_)
      · skip
        refine lv_aload_n hx hb dX6_redo_128 rfl (lv_at hl 0 rfl) ?_
        refine lv_iload_n hx hb dX6_redo_129 rfl (lv_at hl 2 rfl) ?_
        refine m_const (v := (-1)) hx hb dX6_redo_130 rfl ?_
        refine m_icmp_eq (tgt := 148) hx hb hx2 (by decide) hf dX6_redo_131 (by decide) (fun hf => ?_) (fun hf => ?_)
        · skip
          exact hc148 _ _ _ _ x2 hx2 hf hW hS (lv_sub hl [0, 1, 2] rfl)
        · skip
          refine lv_iload_n hx hb dX6_redo_134 rfl (lv_at hl 3 rfl) ?_
          refine m_if_ne (tgt := 148) hx hb hx3 hf dX6_redo_135 (by decide) (fun hf => ?_) (fun hf => ?_)
          · skip
            exact hc148 _ _ _ _ x2 hx2 hf hW hS (lv_sub hl [0, 1, 2] rfl)
          · skip
            refine lv_aload_n hx hb dX6_redo_138 rfl (lv_at hl 0 rfl) ?_
            refine g_X6_actMany X hW (X.2.2.2.2.1 _ mw1047) dX6_redo_139 ?_
            refine m_sipush (v := 160) hx hb dX6_redo_142 (by decide) ?_
            refine m_icmp_ne (tgt := 152) hx hb (hW.2.1 _ _) (by decide) hf dX6_redo_145 (by decide) (fun hf => ?_) (fun hf => ?_)
            · skip
              refine m_const (v := 0) hx hb dX6_redo_152 rfl ?_
              exact hc153 _ _ _ _ x2 0 hx2 (by decide) hf hW hS (lv_sub hl [0, 1, 2] rfl)
            · skip
              exact hc148 _ _ _ _ x2 hx2 hf hW hS (lv_sub hl [0, 1, 2] rfl)
      · skip
        refine lv_aload_n hx hb dX6_redo_42 rfl (lv_at hl 0 rfl) ?_
        refine g_X6_order X hW (X.2.2.2.2.1 _ mw1076) dX6_redo_43 ?_
        refine lv_iload hx hb dX6_redo_46 (lv_at hl 4 rfl) ?_
        refine m_iald X hW a_X6_order hx4 hf dX6_redo_48 (fun v6 hv6 hf => ?_)
        refine lv_istore (lv' := [(5, .int (i32 v6)), (0, .ref (ad 230)), (1, .int (i32 x1)), (2, .int (i32 x2)), (3, .int (i32 x3)), (4, .int (i32 x4))]) hx hb dX6_redo_49 hl (by decide) rfl (fun ls hl => ?_)
        refine lv_aload_n hx hb dX6_redo_51 rfl (lv_at hl 1 rfl) ?_
        refine g_X6_makers X hW (X.2.2.2.2.1 _ mw1048) dX6_redo_52 ?_
        refine lv_iload hx hb dX6_redo_55 (lv_at hl 0 rfl) ?_
        refine m_iald X hW a_X6_makers hv6 hf dX6_redo_57 (fun v7 hv7 hf => ?_)
        refine lv_iload_n hx hb dX6_redo_58 rfl (lv_at hl 2 rfl) ?_
        refine m_icmp_ne (tgt := 97) hx hb hv7 hx1 hf dX6_redo_59 (by decide) (fun hf => ?_) (fun hf => ?_)
        · skip
          exact hc97 _ _ _ _ x2 x3 x4 v6 hx2 hx3 hx4 hv6 hf hW hS (lv_sub hl [1, 2, 3, 4, 5, 0] rfl)
        · skip
          refine lv_aload_n hx hb dX6_redo_62 rfl (lv_at hl 1 rfl) ?_
          refine g_X6_kinds X hW (X.2.2.2.2.1 _ mw1050) dX6_redo_63 ?_
          refine lv_iload hx hb dX6_redo_66 (lv_at hl 0 rfl) ?_
          refine m_iald X hW a_X6_kinds hv6 hf dX6_redo_68 (fun v8 hv8 hf => ?_)
          refine m_bipush (v := 11) hx hb dX6_redo_69 (by decide) ?_
          refine m_icmp_ne (tgt := 97) hx hb hv8 (by decide) hf dX6_redo_71 (by decide) (fun hf => ?_) (fun hf => ?_)
          · skip
            exact hc97 _ _ _ _ x2 x3 x4 v6 hx2 hx3 hx4 hv6 hf hW hS (lv_sub hl [1, 2, 3, 4, 5, 0] rfl)
          · skip
            refine lv_aload_n hx hb dX6_redo_74 rfl (lv_at hl 1 rfl) ?_
            refine g_X6_undone X hW (X.2.2.2.2.1 _ mw1077) dX6_redo_75 ?_
            refine lv_aload_n hx hb dX6_redo_78 rfl (lv_at hl 1 rfl) ?_
            refine g_X6_ones X hW (X.2.2.2.2.1 _ mw1051) dX6_redo_79 ?_
            refine lv_iload hx hb dX6_redo_82 (lv_at hl 0 rfl) ?_
            refine m_iald X hW a_X6_ones hv6 hf dX6_redo_84 (fun v9 hv9 hf => ?_)
            refine m_zald X hW a_X6_undone hv9 hf dX6_redo_85 (fun v10 hv10 hf => ?_)
            refine m_if_eq (tgt := 97) hx hb hv10 hf dX6_redo_86 (by decide) (fun hf => ?_) (fun hf => ?_)
            · skip
              exact hc97 _ _ _ _ x2 x3 x4 v6 hx2 hx3 hx4 hv6 hf hW hS (lv_sub hl [1, 2, 3, 4, 5, 0] rfl)
            · skip
              refine lv_iload hx hb dX6_redo_89 (lv_at hl 0 rfl) ?_
              refine lv_istore_n (lv' := [(2, .int (i32 v6)), (5, .int (i32 v6)), (0, .ref (ad 230)), (1, .int (i32 x1)), (3, .int (i32 x3)), (4, .int (i32 x4))]) hx hb dX6_redo_91 rfl hl (by decide) rfl (fun ls hl => ?_)
              refine m_const (v := 0) hx hb dX6_redo_92 rfl ?_
              refine lv_istore_n (lv' := [(3, .int (i32 0)), (2, .int (i32 v6)), (5, .int (i32 v6)), (0, .ref (ad 230)), (1, .int (i32 x1)), (4, .int (i32 x4))]) hx hb dX6_redo_93 rfl hl (by decide) rfl (fun ls hl => ?_)
              refine lv_goto (tgt := 122) hx hb dX6_redo_94 (by decide) ?_
              refine m_iinc (k0 := 5) (fun v11 => [(4, .int (i32 v11)), (3, .int (i32 0)), (2, .int (i32 v6)), (5, .int (i32 v6)), (0, .ref (ad 230)), (1, .int (i32 x1))]) hx hb hf dX6_redo_122 hl rfl (by decide) (fun _ => rfl) (fun v11 ls hv11 hf hl => ?_)
              have hl : lv_has ls 6 [(4, .int (i32 v11)), (3, .int (i32 0)), (2, .int (i32 v6)), (5, .int (i32 v6)), (0, .ref (ad 230)), (1, .int (i32 x1))] := hl
              refine lv_goto (tgt := 33) hx hb dX6_redo_125 (by decide) ?_
              exact ih33 _ _ _ _ v6 0 v11 hv6 (by decide) hv11 hf hW hS (lv_sub hl [4, 5, 2, 1, 0] rfl)
  refine lv_iload_n hx hb dX6_redo_0 rfl (lv_at hl 1 rfl) ?_
  refine m_callSi1 (z := true) (As := [.int (i32 x1)]) (rest := []) X hW hS hl.1 gc_X6_215 hd_X6_isSite ⟨rfl, rfl, Nat.le_of_ble_eq_true rfl, Nat.le_of_ble_eq_true rfl⟩ (fun v q => ok_X6_isSite hx1 q) hf rfl rfl (Nat.le_of_ble_eq_true rfl) dX6_redo_1 ⟨Nat.le_of_ble_eq_true rfl, Nat.le_of_ble_eq_true rfl⟩ (fun v1 H locs hv1 zv1 hWv1 hSv1 hf => ?_)
  refine m_if_ne (tgt := 13) hx hb hv1 hf dX6_redo_4 (by decide) (fun hf => ?_) (fun hf => ?_)
  · skip
    refine lv_aload_n hx hb dX6_redo_13 rfl (lv_at hl 0 rfl) ?_
    refine lv_aload_n hx hb dX6_redo_14 rfl (lv_at hl 0 rfl) ?_
    refine g_X6_has X hWv1 (X.2.2.2.2.1 _ mw1058) dX6_redo_15 ?_
    refine m_sipush (v := 160) hx hb dX6_redo_18 (by decide) ?_
    refine lv_iload_n hx hb dX6_redo_21 rfl (lv_at hl 1 rfl) ?_
    refine m_imul hx hb hf dX6_redo_22 (fun v2 hv2 hf => ?_)
    refine m_callVv (As := [.ref (ad 243), .int (i32 v2)]) (rest := []) X hWv1 hSv1 hl.1 gc_X6_158 hd_X6_orders ⟨rfl, rfl, Nat.le_of_ble_eq_true rfl, Nat.le_of_ble_eq_true rfl⟩ (rc_X6 X hWv1) (fun v q => ok_X6_orders (arrL a_X6_has) hv2 q) hf rfl rfl (Nat.le_of_ble_eq_true rfl) dX6_redo_23 ⟨Nat.le_of_ble_eq_true rfl, Nat.le_of_ble_eq_true rfl⟩ (fun σ3 H locs hW3 hS3 hf => ?_)
    refine m_const (v := (-1)) hx hb dX6_redo_26 rfl ?_
    refine lv_istore_n (lv' := [(2, .int (i32 (-1))), (0, .ref (ad 230)), (1, .int (i32 x1))]) hx hb dX6_redo_27 rfl hl (by decide) rfl (fun ls hl => ?_)
    refine m_const (v := 0) hx hb dX6_redo_28 rfl ?_
    refine lv_istore_n (lv' := [(3, .int (i32 0)), (2, .int (i32 (-1))), (0, .ref (ad 230)), (1, .int (i32 x1))]) hx hb dX6_redo_29 rfl hl (by decide) rfl (fun ls hl => ?_)
    refine m_const (v := 0) hx hb dX6_redo_30 rfl ?_
    refine lv_istore (lv' := [(4, .int (i32 0)), (3, .int (i32 0)), (2, .int (i32 (-1))), (0, .ref (ad 230)), (1, .int (i32 x1))]) hx hb dX6_redo_31 hl (by decide) rfl (fun ls hl => ?_)
    exact hc33 n _ _ _ _ (-1) 0 0 (by decide) (by decide) (by decide) hf hW3 hS3 (lv_sub hl [3, 4, 2, 1, 0] rfl)
  · skip
    refine lv_aload_n hx hb dX6_redo_7 rfl (lv_at hl 0 rfl) ?_
    refine m_const (v := 1) hx hb dX6_redo_8 rfl ?_
    refine m_callVi (z := false) (As := [.int (i32 1)]) (rest := []) X hWv1 hSv1 hl.1 gc_X6_222 hd_X6_fails ⟨rfl, rfl, Nat.le_of_ble_eq_true rfl, Nat.le_of_ble_eq_true rfl⟩ (rc_X6 X hWv1) (fun v q9 q => ok_X6_fails (by decide) q) hf rfl rfl (Nat.le_of_ble_eq_true rfl) dX6_redo_9 ⟨Nat.le_of_ble_eq_true rfl, Nat.le_of_ble_eq_true rfl⟩ (fun v5 σ4 H locs hv5 zv5 hW4 hS4 hf => ?_)
    exact m_ireti X hr hlocks rfl hv5 (fun h => Bool.noConfusion h) hW4 hS4 (congrArg Prod.fst (Option.some.inj hf)) (congrArg Prod.snd (Option.some.inj hf)) hQ dX6_redo_12
set_option maxRecDepth 100000 in
set_option maxHeartbeats 4000000 in
theorem ok_X6_isSafe {l : Launch} {D : va_G} {cy : Nat → ClassId} {ad : Nat → Nat} {nm nv sz : Nat} {σ : St} {n : Nat} {x1 : Int} {x2 : Int} {r : Int} (hx1 : inR x1) (hx2 : inR x2) (hf : fX6_isSafe n σ x1 x2 = some r) : CI l yX6_isSafe cX6_isSafe 5 (some .boolean) ({ frames := 0, cells := 0, slots := 0, locals := 0 } : Room) [.ref (ad 230), .int (i32 x1), .int (i32 x2)] D cy ad nm nv sz σ true r σ := by
  refine m_entry RX6 rfl (by decide +kernel) (Nat.le_of_ble_eq_true rfl) ?_
  intro p e s m args below meth c Q hQ hr hlocks X hW hS ls hl
  have hx := X.1
  have hb := X.2.1
  have hl : lv_has ls 5 [(0, .ref (ad 230)), (1, .int (i32 x1)), (2, .int (i32 x2))] := hl
  unfold fX6_isSafe at hf
  have hc5 : ∀ (k5 : Nat) (H : Heap) (locs : List Loc) (ls : Array Slot) (x3 : Int) (x4 : Int), inR x3 → inR x4 → fX6_isSafe_L5 n σ x1 x2 k5 x3 x4 = some r → Wd D cy ad nm nv σ H → va_S (AW ad nm nv sz) s.heap H locs → lv_has ls 5 [(0, .ref (ad 230)), (1, .int (i32 x1)), (2, .int (i32 x2)), (3, .int (i32 x3)), (4, .int (i32 x4))] → W p l e ({ frames := 0, cells := 0, slots := 0, locals := 0 } : Room) s m args below meth c H locs 0 0 Q (F0 m 5 ls []) := by
    intro k5
    induction k5 with
    | zero =>
      intro H locs ls x3 x4 hx3 hx4 hf
      have hf : (none : Option Int) = some r := hf
      cases hf
    | succ k5 ih5 =>
      intro H locs ls x3 x4 hx3 hx4 hf hW hS hl
      have hf : fX6_isSafe_L5s n σ x1 x2 (fX6_isSafe_L5 n σ x1 x2 k5) x3 x4 = some r := hf
      unfold fX6_isSafe_L5s at hf
      refine lv_iload hx hb dX6_isSafe_5 (lv_at hl 4 rfl) ?_
      refine lv_aload_n hx hb dX6_isSafe_7 rfl (lv_at hl 0 rfl) ?_
      refine g_X6_safeMany X hW (X.2.2.2.2.1 _ mw1061) dX6_isSafe_8 ?_
      refine lv_iload_n hx hb dX6_isSafe_11 rfl (lv_at hl 1 rfl) ?_
      refine m_iald X hW a_X6_safeMany hx1 hf dX6_isSafe_12 (fun v1 hv1 hf => ?_)
      refine m_icmp_ge (tgt := 49) hx hb hx4 hv1 hf dX6_isSafe_13 (by decide) (fun hf => ?_) (fun hf => ?_)
      · skip
        refine lv_iload_n hx hb dX6_isSafe_49 rfl (lv_at hl 3 rfl) ?_
        obtain ⟨hb2, hf⟩ := rb_of hf
        exact m_ireti X hr hlocks (nar_b hb2).1 hx3 (fun _ => hb2) hW hS (Option.some.inj hf) rfl hQ dX6_isSafe_50
      · skip
        refine lv_iload_n hx hb dX6_isSafe_16 rfl (lv_at hl 3 rfl) ?_
        refine m_if_ne (tgt := 37) hx hb hx3 hf dX6_isSafe_17 (by decide) (fun hf => ?_) (fun hf => ?_)
        · skip
          refine m_const (v := 1) hx hb dX6_isSafe_37 rfl ?_
          refine lv_goto (tgt := 42) hx hb dX6_isSafe_38 (by decide) ?_
          refine lv_istore_n (lv' := [(3, .int (i32 1)), (0, .ref (ad 230)), (1, .int (i32 x1)), (2, .int (i32 x2)), (4, .int (i32 x4))]) hx hb dX6_isSafe_42 rfl hl (by decide) rfl (fun ls hl => ?_)
          refine m_iinc (k0 := 4) (fun v3 => [(4, .int (i32 v3)), (3, .int (i32 1)), (0, .ref (ad 230)), (1, .int (i32 x1)), (2, .int (i32 x2))]) hx hb hf dX6_isSafe_43 hl rfl (by decide) (fun _ => rfl) (fun v3 ls hv3 hf hl => ?_)
          have hl : lv_has ls 5 [(4, .int (i32 v3)), (3, .int (i32 1)), (0, .ref (ad 230)), (1, .int (i32 x1)), (2, .int (i32 x2))] := hl
          refine lv_goto (tgt := 5) hx hb dX6_isSafe_46 (by decide) ?_
          exact ih5 _ _ _ 1 v3 (by decide) hv3 hf hW hS (lv_sub hl [2, 3, 4, 1, 0] rfl)
        · skip
          refine lv_aload_n hx hb dX6_isSafe_20 rfl (lv_at hl 0 rfl) ?_
          refine g_X6_journals X hW (X.2.2.2.2.1 _ mw1059) dX6_isSafe_21 ?_
          refine m_sipush (v := 160) hx hb dX6_isSafe_24 (by decide) ?_
          refine lv_iload_n hx hb dX6_isSafe_27 rfl (lv_at hl 1 rfl) ?_
          refine m_imul hx hb hf dX6_isSafe_28 (fun v4 hv4 hf => ?_)
          refine lv_iload hx hb dX6_isSafe_29 (lv_at hl 4 rfl) ?_
          refine m_iadd hx hb hf dX6_isSafe_31 (fun v5 hv5 hf => ?_)
          refine m_iald X hW a_X6_journals hv5 hf dX6_isSafe_32 (fun v6 hv6 hf => ?_)
          refine lv_iload_n hx hb dX6_isSafe_33 rfl (lv_at hl 2 rfl) ?_
          refine m_icmp_ne (tgt := 41) hx hb hv6 hx2 hf dX6_isSafe_34 (by decide) (fun hf => ?_) (fun hf => ?_)
          · skip
            refine m_const (v := 0) hx hb dX6_isSafe_41 rfl ?_
            refine lv_istore_n (lv' := [(3, .int (i32 0)), (0, .ref (ad 230)), (1, .int (i32 x1)), (2, .int (i32 x2)), (4, .int (i32 x4))]) hx hb dX6_isSafe_42 rfl hl (by decide) rfl (fun ls hl => ?_)
            refine m_iinc (k0 := 4) (fun v7 => [(4, .int (i32 v7)), (3, .int (i32 0)), (0, .ref (ad 230)), (1, .int (i32 x1)), (2, .int (i32 x2))]) hx hb hf dX6_isSafe_43 hl rfl (by decide) (fun _ => rfl) (fun v7 ls hv7 hf hl => ?_)
            have hl : lv_has ls 5 [(4, .int (i32 v7)), (3, .int (i32 0)), (0, .ref (ad 230)), (1, .int (i32 x1)), (2, .int (i32 x2))] := hl
            refine lv_goto (tgt := 5) hx hb dX6_isSafe_46 (by decide) ?_
            exact ih5 _ _ _ 0 v7 (by decide) hv7 hf hW hS (lv_sub hl [2, 3, 4, 1, 0] rfl)
          · skip
            refine m_const (v := 1) hx hb dX6_isSafe_37 rfl ?_
            refine lv_goto (tgt := 42) hx hb dX6_isSafe_38 (by decide) ?_
            refine lv_istore_n (lv' := [(3, .int (i32 1)), (0, .ref (ad 230)), (1, .int (i32 x1)), (2, .int (i32 x2)), (4, .int (i32 x4))]) hx hb dX6_isSafe_42 rfl hl (by decide) rfl (fun ls hl => ?_)
            refine m_iinc (k0 := 4) (fun v8 => [(4, .int (i32 v8)), (3, .int (i32 1)), (0, .ref (ad 230)), (1, .int (i32 x1)), (2, .int (i32 x2))]) hx hb hf dX6_isSafe_43 hl rfl (by decide) (fun _ => rfl) (fun v8 ls hv8 hf hl => ?_)
            have hl : lv_has ls 5 [(4, .int (i32 v8)), (3, .int (i32 1)), (0, .ref (ad 230)), (1, .int (i32 x1)), (2, .int (i32 x2))] := hl
            refine lv_goto (tgt := 5) hx hb dX6_isSafe_46 (by decide) ?_
            exact ih5 _ _ _ 1 v8 (by decide) hv8 hf hW hS (lv_sub hl [2, 3, 4, 1, 0] rfl)
  refine m_const (v := 0) hx hb dX6_isSafe_0 rfl ?_
  refine lv_istore_n (lv' := [(3, .int (i32 0)), (0, .ref (ad 230)), (1, .int (i32 x1)), (2, .int (i32 x2))]) hx hb dX6_isSafe_1 rfl hl (by decide) rfl (fun ls hl => ?_)
  refine m_const (v := 0) hx hb dX6_isSafe_2 rfl ?_
  refine lv_istore (lv' := [(4, .int (i32 0)), (3, .int (i32 0)), (0, .ref (ad 230)), (1, .int (i32 x1)), (2, .int (i32 x2))]) hx hb dX6_isSafe_3 hl (by decide) rfl (fun ls hl => ?_)
  exact hc5 n _ _ _ 0 0 (by decide) (by decide) hf hW hS (lv_sub hl [2, 3, 4, 1, 0] rfl)
set_option maxRecDepth 100000 in
set_option maxHeartbeats 4000000 in
theorem ok_X6_knowsOf {l : Launch} {D : va_G} {cy : Nat → ClassId} {ad : Nat → Nat} {nm nv sz : Nat} {σ : St} {n : Nat} {x1 : Int} {x2 : Int} {x3 : Int} {r : Int} (hx1 : inR x1) (hx2 : inR x2) (hx3 : inR x3) (hf : fX6_knowsOf n σ x1 x2 x3 = some r) : CI l yX6_knowsOf cX6_knowsOf 4 (some .boolean) ({ frames := 1, cells := 0, slots := 0, locals := 24 } : Room) [.ref (ad 230), .int (i32 x1), .int (i32 x2), .int (i32 x3)] D cy ad nm nv sz σ true r σ := by
  refine m_entry RX6 rfl (by decide +kernel) (Nat.le_of_ble_eq_true rfl) ?_
  intro p e s m args below meth c Q hQ hr hlocks X hW hS ls hl
  have hx := X.1
  have hb := X.2.1
  have hl : lv_has ls 4 [(0, .ref (ad 230)), (1, .int (i32 x1)), (2, .int (i32 x2)), (3, .int (i32 x3))] := hl
  unfold fX6_knowsOf at hf
  refine lv_aload_n hx hb dX6_knowsOf_0 rfl (lv_at hl 0 rfl) ?_
  refine g_X6_knows X hW (X.2.2.2.2.1 _ mw1066) dX6_knowsOf_1 ?_
  refine m_sipush (v := 640) hx hb dX6_knowsOf_4 (by decide) ?_
  refine lv_iload_n hx hb dX6_knowsOf_7 rfl (lv_at hl 1 rfl) ?_
  refine m_imul hx hb hf dX6_knowsOf_8 (fun v1 hv1 hf => ?_)
  refine m_sipush (v := 160) hx hb dX6_knowsOf_9 (by decide) ?_
  refine lv_iload_n hx hb dX6_knowsOf_12 rfl (lv_at hl 2 rfl) ?_
  refine m_imul hx hb hf dX6_knowsOf_13 (fun v2 hv2 hf => ?_)
  refine m_iadd hx hb hf dX6_knowsOf_14 (fun v3 hv3 hf => ?_)
  refine lv_iload_n hx hb dX6_knowsOf_15 rfl (lv_at hl 3 rfl) ?_
  refine m_iadd hx hb hf dX6_knowsOf_16 (fun v4 hv4 hf => ?_)
  refine m_zald X hW a_X6_knows hv4 hf dX6_knowsOf_17 (fun v5 hv5 hf => ?_)
  refine m_if_ne (tgt := 35) hx hb hv5 hf dX6_knowsOf_18 (by decide) (fun hf => ?_) (fun hf => ?_)
  · skip
    refine m_const (v := 1) hx hb dX6_knowsOf_35 rfl ?_
    refine lv_goto (tgt := 40) hx hb dX6_knowsOf_36 (by decide) ?_
    exact m_ireti X hr hlocks (nar_b (Or.inr rfl)).1 (by decide) (fun _ => (Or.inr rfl)) hW hS (Option.some.inj hf) rfl hQ dX6_knowsOf_40
  · skip
    refine lv_iload_n hx hb dX6_knowsOf_21 rfl (lv_at hl 2 rfl) ?_
    refine lv_iload_n hx hb dX6_knowsOf_22 rfl (lv_at hl 1 rfl) ?_
    refine m_icmp_ne (tgt := 39) hx hb hx2 hx1 hf dX6_knowsOf_23 (by decide) (fun hf => ?_) (fun hf => ?_)
    · skip
      refine m_const (v := 0) hx hb dX6_knowsOf_39 rfl ?_
      exact m_ireti X hr hlocks (nar_b (Or.inl rfl)).1 (by decide) (fun _ => (Or.inl rfl)) hW hS (Option.some.inj hf) rfl hQ dX6_knowsOf_40
    · skip
      refine lv_aload_n hx hb dX6_knowsOf_26 rfl (lv_at hl 0 rfl) ?_
      refine lv_iload_n hx hb dX6_knowsOf_27 rfl (lv_at hl 1 rfl) ?_
      refine lv_iload_n hx hb dX6_knowsOf_28 rfl (lv_at hl 3 rfl) ?_
      refine m_callVi1 (z := true) (As := [.int (i32 x1), .int (i32 x3)]) (rest := []) X hW hS hl.1 gc_X6_256 hd_X6_isSafe ⟨rfl, rfl, Nat.le_of_ble_eq_true rfl, Nat.le_of_ble_eq_true rfl⟩ (rc_X6 X hW) (fun v q => ok_X6_isSafe hx1 hx3 q) hf rfl rfl (Nat.le_of_ble_eq_true rfl) dX6_knowsOf_29 ⟨Nat.le_of_ble_eq_true rfl, Nat.le_of_ble_eq_true rfl⟩ (fun v6 H locs hv6 zv6 hWv6 hSv6 hf => ?_)
      refine m_if_eq (tgt := 39) hx hb hv6 hf dX6_knowsOf_32 (by decide) (fun hf => ?_) (fun hf => ?_)
      · skip
        refine m_const (v := 0) hx hb dX6_knowsOf_39 rfl ?_
        exact m_ireti X hr hlocks (nar_b (Or.inl rfl)).1 (by decide) (fun _ => (Or.inl rfl)) hWv6 hSv6 (Option.some.inj hf) rfl hQ dX6_knowsOf_40
      · skip
        refine m_const (v := 1) hx hb dX6_knowsOf_35 rfl ?_
        refine lv_goto (tgt := 40) hx hb dX6_knowsOf_36 (by decide) ?_
        exact m_ireti X hr hlocks (nar_b (Or.inr rfl)).1 (by decide) (fun _ => (Or.inr rfl)) hWv6 hSv6 (Option.some.inj hf) rfl hQ dX6_knowsOf_40
set_option maxRecDepth 100000 in
set_option maxHeartbeats 4000000 in
theorem ok_X6_send {l : Launch} {D : va_G} {cy : Nat → ClassId} {ad : Nat → Nat} {nm nv sz : Nat} {σ : St} {n : Nat} {x1 : Int} {x2 : Int} {r : Int} {σ2 : St} (hx1 : inR x1) (hx2 : inR x2) (hf : fX6_send n σ x1 x2 = some (r, σ2)) : CI l yX6_send cX6_send 5 (some .int) ({ frames := 2, cells := 0, slots := 0, locals := 47 } : Room) [.ref (ad 230), .int (i32 x1), .int (i32 x2)] D cy ad nm nv sz σ false r σ2 := by
  refine m_entry RX6 rfl (by decide +kernel) (Nat.le_of_ble_eq_true rfl) ?_
  intro p e s m args below meth c Q hQ hr hlocks X hW hS ls hl
  have hx := X.1
  have hb := X.2.1
  have hl : lv_has ls 5 [(0, .ref (ad 230)), (1, .int (i32 x1)), (2, .int (i32 x2))] := hl
  unfold fX6_send at hf
  have hc76 : ∀ (k76 : Nat) (σ : St) (H : Heap) (locs : List Loc) (ls : Array Slot) (x3 : Int), inR x3 → fX6_send_L76 n x1 x2 k76 σ x3 = some (r, σ2) → Wd D cy ad nm nv σ H → va_S (AW ad nm nv sz) s.heap H locs → lv_has ls 5 [(0, .ref (ad 230)), (1, .int (i32 x1)), (3, .int (i32 x3))] → W p l e ({ frames := 2, cells := 0, slots := 0, locals := 47 } : Room) s m args below meth c H locs 0 0 Q (F0 m 76 ls []) := by
    intro k76
    induction k76 with
    | zero =>
      intro σ H locs ls x3 hx3 hf
      have hf : (none : Option (Int × St)) = some (r, σ2) := hf
      cases hf
    | succ k76 ih76 =>
      intro σ H locs ls x3 hx3 hf hW hS hl
      have hf : fX6_send_L76s n x1 x2 (fX6_send_L76 n x1 x2 k76) σ x3 = some (r, σ2) := hf
      unfold fX6_send_L76s at hf
      have hc114 : ∀ (k114 : Nat) (σ : St) (H : Heap) (locs : List Loc) (ls : Array Slot) (x3 : Int) (x4 : Int), inR x3 → inR x4 → fX6_send_L114 n (fX6_send_L76 n x1 x2 k76) x1 x2 x3 k114 σ x4 = some (r, σ2) → Wd D cy ad nm nv σ H → va_S (AW ad nm nv sz) s.heap H locs → lv_has ls 5 [(0, .ref (ad 230)), (1, .int (i32 x1)), (3, .int (i32 x3)), (4, .int (i32 x4))] → W p l e ({ frames := 2, cells := 0, slots := 0, locals := 47 } : Room) s m args below meth c H locs 0 0 Q (F0 m 114 ls []) := by
        intro k114
        induction k114 with
        | zero =>
          intro σ H locs ls x3 x4 hx3 hx4 hf
          have hf : (none : Option (Int × St)) = some (r, σ2) := hf
          cases hf
        | succ k114 ih114 =>
          intro σ H locs ls x3 x4 hx3 hx4 hf hW hS hl
          have hf : fX6_send_L114s n (fX6_send_L76 n x1 x2 k76) x1 x2 x3 (fX6_send_L114 n (fX6_send_L76 n x1 x2 k76) x1 x2 x3 k114) σ x4 = some (r, σ2) := hf
          unfold fX6_send_L114s at hf
          refine lv_iload hx hb dX6_send_114 (lv_at hl 3 rfl) ?_
          refine m_const (v := 4) hx hb dX6_send_116 rfl ?_
          refine m_icmp_ge (tgt := 156) hx hb hx4 (by decide) hf dX6_send_117 (by decide) (fun hf => ?_) (fun hf => ?_)
          · skip
            refine m_iinc (k0 := 2) (fun v15 => [(3, .int (i32 v15)), (0, .ref (ad 230)), (1, .int (i32 x1)), (4, .int (i32 x4))]) hx hb hf dX6_send_156 hl rfl (by decide) (fun _ => rfl) (fun v15 ls hv15 hf hl => ?_)
            have hl : lv_has ls 5 [(3, .int (i32 v15)), (0, .ref (ad 230)), (1, .int (i32 x1)), (4, .int (i32 x4))] := hl
            refine lv_goto (tgt := 76) hx hb dX6_send_159 (by decide) ?_
            exact ih76 _ _ _ _ v15 hv15 hf hW hS (lv_sub hl [1, 2, 0] rfl)
          · skip
            refine lv_aload_n hx hb dX6_send_120 rfl (lv_at hl 0 rfl) ?_
            refine g_X6_told X hW (X.2.2.2.2.1 _ mw1071) dX6_send_121 ?_
            refine m_sipush (v := 640) hx hb dX6_send_124 (by decide) ?_
            refine lv_aload_n hx hb dX6_send_127 rfl (lv_at hl 0 rfl) ?_
            refine g_X6_messageMany X hW (X.2.2.2.2.1 _ mw1067) dX6_send_128 ?_
            refine m_imul hx hb hf dX6_send_131 (fun v16 hv16 hf => ?_)
            refine m_sipush (v := 160) hx hb dX6_send_132 (by decide) ?_
            refine lv_iload hx hb dX6_send_135 (lv_at hl 3 rfl) ?_
            refine m_imul hx hb hf dX6_send_137 (fun v17 hv17 hf => ?_)
            refine m_iadd hx hb hf dX6_send_138 (fun v18 hv18 hf => ?_)
            refine lv_iload_n hx hb dX6_send_139 rfl (lv_at hl 2 rfl) ?_
            refine m_iadd hx hb hf dX6_send_140 (fun v19 hv19 hf => ?_)
            refine lv_aload_n hx hb dX6_send_141 rfl (lv_at hl 0 rfl) ?_
            refine lv_iload_n hx hb dX6_send_142 rfl (lv_at hl 1 rfl) ?_
            refine lv_iload hx hb dX6_send_143 (lv_at hl 3 rfl) ?_
            refine lv_iload_n hx hb dX6_send_145 rfl (lv_at hl 2 rfl) ?_
            refine m_callVi1 (z := true) (As := [.int (i32 x1), .int (i32 x4), .int (i32 x3)]) (rest := [.int (i32 v19), .ref (ad 256)]) X hW hS hl.1 gc_X6_262 hd_X6_knowsOf ⟨rfl, rfl, Nat.le_of_ble_eq_true rfl, Nat.le_of_ble_eq_true rfl⟩ (rc_X6 X hW) (fun v q => ok_X6_knowsOf hx1 hx4 hx3 q) hf rfl rfl (Nat.le_of_ble_eq_true rfl) dX6_send_146 ⟨Nat.le_of_ble_eq_true rfl, Nat.le_of_ble_eq_true rfl⟩ (fun v20 H locs hv20 zv20 hWv20 hSv20 hf => ?_)
            refine m_zast X hWv20 hSv20 a_X6_told hv19 hv20 hf dX6_send_149 (fun σ21 H locs hW21 hS21 hf => ?_)
            refine m_iinc (k0 := 3) (fun v22 => [(4, .int (i32 v22)), (0, .ref (ad 230)), (1, .int (i32 x1)), (3, .int (i32 x3))]) hx hb hf dX6_send_150 hl rfl (by decide) (fun _ => rfl) (fun v22 ls hv22 hf hl => ?_)
            have hl : lv_has ls 5 [(4, .int (i32 v22)), (0, .ref (ad 230)), (1, .int (i32 x1)), (3, .int (i32 x3))] := hl
            refine lv_goto (tgt := 114) hx hb dX6_send_153 (by decide) ?_
            exact ih114 _ _ _ _ x3 v22 hx3 hv22 hf hW21 hS21 (lv_sub hl [1, 2, 3, 0] rfl)
      refine lv_iload_n hx hb dX6_send_76 rfl (lv_at hl 2 rfl) ?_
      refine lv_aload_n hx hb dX6_send_77 rfl (lv_at hl 0 rfl) ?_
      refine g_X6_actMany X hW (X.2.2.2.2.1 _ mw1047) dX6_send_78 ?_
      refine m_icmp_ge (tgt := 162) hx hb hx3 (hW.2.1 _ _) hf dX6_send_81 (by decide) (fun hf => ?_) (fun hf => ?_)
      · skip
        refine lv_aload_n hx hb dX6_send_162 rfl (lv_at hl 0 rfl) ?_
        refine lv_dup hx hb dX6_send_163 rfl ?_
        refine g_X6_messageMany X hW (X.2.2.2.2.1 _ mw1067) dX6_send_164 ?_
        refine m_const (v := 1) hx hb dX6_send_167 rfl ?_
        refine m_iadd hx hb hf dX6_send_168 (fun v6 hv6 hf => ?_)
        refine p_X6_messageMany X hW hS hv6 hf (X.2.2.2.2.1 _ mw1067) dX6_send_169 (fun σ7 H locs hW7 hS7 hf => ?_)
        refine lv_aload_n hx hb dX6_send_172 rfl (lv_at hl 0 rfl) ?_
        refine g_X6_messageMany X hW7 (X.2.2.2.2.1 _ mw1067) dX6_send_173 ?_
        refine m_const (v := 1) hx hb dX6_send_176 rfl ?_
        refine m_isub hx hb hf dX6_send_177 (fun v8 hv8 hf => ?_)
        exact m_ireti X hr hlocks rfl hv8 (fun h => Bool.noConfusion h) hW7 hS7 (congrArg Prod.fst (Option.some.inj hf)) (congrArg Prod.snd (Option.some.inj hf)) hQ dX6_send_178
      · skip
        refine lv_aload_n hx hb dX6_send_84 rfl (lv_at hl 0 rfl) ?_
        refine g_X6_sent X hW (X.2.2.2.2.1 _ mw1070) dX6_send_85 ?_
        refine m_sipush (v := 160) hx hb dX6_send_88 (by decide) ?_
        refine lv_aload_n hx hb dX6_send_91 rfl (lv_at hl 0 rfl) ?_
        refine g_X6_messageMany X hW (X.2.2.2.2.1 _ mw1067) dX6_send_92 ?_
        refine m_imul hx hb hf dX6_send_95 (fun v9 hv9 hf => ?_)
        refine lv_iload_n hx hb dX6_send_96 rfl (lv_at hl 2 rfl) ?_
        refine m_iadd hx hb hf dX6_send_97 (fun v10 hv10 hf => ?_)
        refine lv_aload_n hx hb dX6_send_98 rfl (lv_at hl 0 rfl) ?_
        refine g_X6_has X hW (X.2.2.2.2.1 _ mw1058) dX6_send_99 ?_
        refine m_sipush (v := 160) hx hb dX6_send_102 (by decide) ?_
        refine lv_iload_n hx hb dX6_send_105 rfl (lv_at hl 1 rfl) ?_
        refine m_imul hx hb hf dX6_send_106 (fun v11 hv11 hf => ?_)
        refine lv_iload_n hx hb dX6_send_107 rfl (lv_at hl 2 rfl) ?_
        refine m_iadd hx hb hf dX6_send_108 (fun v12 hv12 hf => ?_)
        refine m_zald X hW a_X6_has hv12 hf dX6_send_109 (fun v13 hv13 hf => ?_)
        refine m_zast X hW hS a_X6_sent hv10 hv13 hf dX6_send_110 (fun σ14 H locs hW14 hS14 hf => ?_)
        refine m_const (v := 0) hx hb dX6_send_111 rfl ?_
        refine lv_istore (lv' := [(4, .int (i32 0)), (0, .ref (ad 230)), (1, .int (i32 x1)), (3, .int (i32 x3))]) hx hb dX6_send_112 hl (by decide) rfl (fun ls hl => ?_)
        exact hc114 n _ _ _ _ x3 0 hx3 (by decide) hf hW14 hS14 (lv_sub hl [1, 2, 3, 0] rfl)
  have hc42 : ∀ (σ : St) (H : Heap) (locs : List Loc) (ls : Array Slot) (t0 : Int), inR t0 → fX6_send_J42 n σ x1 x2 t0 = some (r, σ2) → Wd D cy ad nm nv σ H → va_S (AW ad nm nv sz) s.heap H locs → lv_has ls 5 [(0, .ref (ad 230)), (1, .int (i32 x1)), (2, .int (i32 x2))] → W p l e ({ frames := 2, cells := 0, slots := 0, locals := 47 } : Room) s m args below meth c H locs 0 0 Q (F0 m 42 ls [.int (i32 t0), .ref (ad 230)]) := by
    intro σ H locs ls t0 ht0 hf hW hS hl
    unfold fX6_send_J42 at hf
    refine p_X6_thrown X hW hS ht0 hf (X.2.2.2.2.1 _ mw1046) dX6_send_42 (fun σ3 H locs hW3 hS3 hf => ?_)
    refine lv_aload_n hx hb dX6_send_45 rfl (lv_at hl 0 rfl) ?_
    refine g_X6_thrown X hW3 (X.2.2.2.2.1 _ mw1046) dX6_send_46 ?_
    refine m_if_le (tgt := 54) hx hb (hW3.2.1 _ _) hf dX6_send_49 (by decide) (fun hf => ?_) (fun hf => ?_)
    · skip
      refine lv_aload_n hx hb dX6_send_54 rfl (lv_at hl 0 rfl) ?_
      refine g_X6_senders X hW3 (X.2.2.2.2.1 _ mw1068) dX6_send_55 ?_
      refine lv_aload_n hx hb dX6_send_58 rfl (lv_at hl 0 rfl) ?_
      refine g_X6_messageMany X hW3 (X.2.2.2.2.1 _ mw1067) dX6_send_59 ?_
      refine lv_iload_n hx hb dX6_send_62 rfl (lv_at hl 1 rfl) ?_
      refine m_iast X hW3 hS3 a_X6_senders (hW3.2.1 _ _) hx1 hf dX6_send_63 (fun σ4 H locs hW4 hS4 hf => ?_)
      refine lv_aload_n hx hb dX6_send_64 rfl (lv_at hl 0 rfl) ?_
      refine g_X6_receivers X hW4 (X.2.2.2.2.1 _ mw1069) dX6_send_65 ?_
      refine lv_aload_n hx hb dX6_send_68 rfl (lv_at hl 0 rfl) ?_
      refine g_X6_messageMany X hW4 (X.2.2.2.2.1 _ mw1067) dX6_send_69 ?_
      refine lv_iload_n hx hb dX6_send_72 rfl (lv_at hl 2 rfl) ?_
      refine m_iast X hW4 hS4 a_X6_receivers (hW4.2.1 _ _) hx2 hf dX6_send_73 (fun σ5 H locs hW5 hS5 hf => ?_)
      refine m_const (v := 0) hx hb dX6_send_74 rfl ?_
      refine lv_istore_n (lv' := [(3, .int (i32 0)), (0, .ref (ad 230)), (1, .int (i32 x1)), (2, .int (i32 x2))]) hx hb dX6_send_75 rfl hl (by decide) rfl (fun ls hl => ?_)
      exact hc76 n _ _ _ _ 0 (by decide) hf hW5 hS5 (lv_sub hl [1, 2, 0] rfl)
    · skip
      refine m_const (v := 0) hx hb dX6_send_52 rfl ?_
      exact m_ireti X hr hlocks rfl (by decide) (fun h => Bool.noConfusion h) hW3 hS3 (congrArg Prod.fst (Option.some.inj hf)) (congrArg Prod.snd (Option.some.inj hf)) hQ dX6_send_53
  have hc15 : ∀ (σ : St) (H : Heap) (locs : List Loc) (ls : Array Slot), fX6_send_J15 n σ x1 x2 = some (r, σ2) → Wd D cy ad nm nv σ H → va_S (AW ad nm nv sz) s.heap H locs → lv_has ls 5 [(0, .ref (ad 230)), (1, .int (i32 x1)), (2, .int (i32 x2))] → W p l e ({ frames := 2, cells := 0, slots := 0, locals := 47 } : Room) s m args below meth c H locs 0 0 Q (F0 m 15 ls [.ref (ad 230)]) := by
    intro σ H locs ls hf hW hS hl
    unfold fX6_send_J15 at hf
    refine m_const (v := 1) hx hb dX6_send_15 rfl ?_
    refine lv_goto (tgt := 42) hx hb dX6_send_16 (by decide) ?_
    exact hc42 _ _ _ _ 1 (by decide) hf hW hS (lv_sub hl [0, 1, 2] rfl)
  refine lv_aload_n hx hb dX6_send_0 rfl (lv_at hl 0 rfl) ?_
  refine lv_iload_n hx hb dX6_send_1 rfl (lv_at hl 1 rfl) ?_
  refine m_callSi1 (z := true) (As := [.int (i32 x1)]) (rest := [.ref (ad 230)]) X hW hS hl.1 gc_X6_215 hd_X6_isSite ⟨rfl, rfl, Nat.le_of_ble_eq_true rfl, Nat.le_of_ble_eq_true rfl⟩ (fun v q => ok_X6_isSite hx1 q) hf rfl rfl (Nat.le_of_ble_eq_true rfl) dX6_send_2 ⟨Nat.le_of_ble_eq_true rfl, Nat.le_of_ble_eq_true rfl⟩ (fun v1 H locs hv1 zv1 hWv1 hSv1 hf => ?_)
  refine m_if_eq (tgt := 15) hx hb hv1 hf dX6_send_5 (by decide) (fun hf => ?_) (fun hf => ?_)
  · skip
    exact hc15 _ _ _ _  hf hWv1 hSv1 (lv_sub hl [0, 1, 2] rfl)
  · skip
    refine lv_iload_n hx hb dX6_send_8 rfl (lv_at hl 2 rfl) ?_
    refine m_callSi1 (z := true) (As := [.int (i32 x2)]) (rest := [.ref (ad 230)]) X hWv1 hSv1 hl.1 gc_X6_215 hd_X6_isSite ⟨rfl, rfl, Nat.le_of_ble_eq_true rfl, Nat.le_of_ble_eq_true rfl⟩ (fun v q => ok_X6_isSite hx2 q) hf rfl rfl (Nat.le_of_ble_eq_true rfl) dX6_send_9 ⟨Nat.le_of_ble_eq_true rfl, Nat.le_of_ble_eq_true rfl⟩ (fun v2 H locs hv2 zv2 hWv2 hSv2 hf => ?_)
    refine m_if_ne (tgt := 19) hx hb hv2 hf dX6_send_12 (by decide) (fun hf => ?_) (fun hf => ?_)
    · skip
      refine lv_iload_n hx hb dX6_send_19 rfl (lv_at hl 1 rfl) ?_
      refine lv_iload_n hx hb dX6_send_20 rfl (lv_at hl 2 rfl) ?_
      refine m_icmp_ne (tgt := 28) hx hb hx1 hx2 hf dX6_send_21 (by decide) (fun hf => ?_) (fun hf => ?_)
      · skip
        refine lv_aload_n hx hb dX6_send_28 rfl (lv_at hl 0 rfl) ?_
        refine g_X6_messageMany X hWv2 (X.2.2.2.2.1 _ mw1067) dX6_send_29 ?_
        refine m_bipush (v := 80) hx hb dX6_send_32 (by decide) ?_
        refine m_icmp_ne (tgt := 41) hx hb (hWv2.2.1 _ _) (by decide) hf dX6_send_34 (by decide) (fun hf => ?_) (fun hf => ?_)
        · skip
          refine m_const (v := 0) hx hb dX6_send_41 rfl ?_
          exact hc42 _ _ _ _ 0 (by decide) hf hWv2 hSv2 (lv_sub hl [0, 1, 2] rfl)
        · skip
          refine m_const (v := 3) hx hb dX6_send_37 rfl ?_
          refine lv_goto (tgt := 42) hx hb dX6_send_38 (by decide) ?_
          exact hc42 _ _ _ _ 3 (by decide) hf hWv2 hSv2 (lv_sub hl [0, 1, 2] rfl)
      · skip
        refine m_const (v := 2) hx hb dX6_send_24 rfl ?_
        refine lv_goto (tgt := 42) hx hb dX6_send_25 (by decide) ?_
        exact hc42 _ _ _ _ 2 (by decide) hf hWv2 hSv2 (lv_sub hl [0, 1, 2] rfl)
    · skip
      exact hc15 _ _ _ _  hf hWv2 hSv2 (lv_sub hl [0, 1, 2] rfl)
set_option maxRecDepth 100000 in
set_option maxHeartbeats 4000000 in
theorem ok_X6_deliver {l : Launch} {D : va_G} {cy : Nat → ClassId} {ad : Nat → Nat} {nm nv sz : Nat} {σ : St} {n : Nat} {x1 : Int} {r : Int} {σ2 : St} (hx1 : inR x1) (hf : fX6_deliver n σ x1 = some (r, σ2)) : CI l yX6_deliver cX6_deliver 5 (some .int) ({ frames := 2, cells := 0, slots := 0, locals := 46 } : Room) [.ref (ad 230), .int (i32 x1)] D cy ad nm nv sz σ false r σ2 := by
  refine m_entry RX6 rfl (by decide +kernel) (Nat.le_of_ble_eq_true rfl) ?_
  intro p e s m args below meth c Q hQ hr hlocks X hW hS ls hl
  have hx := X.1
  have hb := X.2.1
  have hl : lv_has ls 5 [(0, .ref (ad 230)), (1, .int (i32 x1))] := hl
  unfold fX6_deliver at hf
  have hc111 : ∀ (k111 : Nat) (σ : St) (H : Heap) (locs : List Loc) (ls : Array Slot) (x2 : Int) (x3 : Int) (x4 : Int), inR x2 → inR x3 → inR x4 → fX6_deliver_L111 n x1 x2 x3 k111 σ x4 = some (r, σ2) → Wd D cy ad nm nv σ H → va_S (AW ad nm nv sz) s.heap H locs → lv_has ls 5 [(0, .ref (ad 230)), (1, .int (i32 x1)), (2, .int (i32 x2)), (3, .int (i32 x3)), (4, .int (i32 x4))] → W p l e ({ frames := 2, cells := 0, slots := 0, locals := 46 } : Room) s m args below meth c H locs 0 0 Q (F0 m 111 ls []) := by
    intro k111
    induction k111 with
    | zero =>
      intro σ H locs ls x2 x3 x4 hx2 hx3 hx4 hf
      have hf : (none : Option (Int × St)) = some (r, σ2) := hf
      cases hf
    | succ k111 ih111 =>
      intro σ H locs ls x2 x3 x4 hx2 hx3 hx4 hf hW hS hl
      have hf : fX6_deliver_L111s n x1 x2 x3 (fX6_deliver_L111 n x1 x2 x3 k111) σ x4 = some (r, σ2) := hf
      unfold fX6_deliver_L111s at hf
      have hc163 : ∀ (σ : St) (H : Heap) (locs : List Loc) (ls : Array Slot) (x2 : Int) (x3 : Int) (x4 : Int) (t0 : Int), inR x2 → inR x3 → inR x4 → inR t0 → fX6_deliver_J163 n (fX6_deliver_L111 n x1 x2 x3 k111) σ x1 x2 x3 x4 t0 = some (r, σ2) → Wd D cy ad nm nv σ H → va_S (AW ad nm nv sz) s.heap H locs → lv_has ls 5 [(0, .ref (ad 230)), (1, .int (i32 x1)), (2, .int (i32 x2)), (3, .int (i32 x3)), (4, .int (i32 x4))] → W p l e ({ frames := 2, cells := 0, slots := 0, locals := 46 } : Room) s m args below meth c H locs 0 0 Q (F0 m 163 ls [.int (i32 t0), .ref (ad 251)]) := by
        intro σ H locs ls x2 x3 x4 t0 hx2 hx3 hx4 ht0 hf hW hS hl
        unfold fX6_deliver_J163 at hf
        refine m_const (v := 1) hx hb dX6_deliver_163 rfl ?_
        refine lv_goto (tgt := 168) hx hb dX6_deliver_164 (by decide) ?_
        refine m_zast X hW hS a_X6_knows ht0 (by decide) hf dX6_deliver_168 (fun σ26 H locs hW26 hS26 hf => ?_)
        refine m_iinc (k0 := 4) (fun v27 => [(4, .int (i32 v27)), (0, .ref (ad 230)), (1, .int (i32 x1)), (2, .int (i32 x2)), (3, .int (i32 x3))]) hx hb hf dX6_deliver_169 hl rfl (by decide) (fun _ => rfl) (fun v27 ls hv27 hf hl => ?_)
        have hl : lv_has ls 5 [(4, .int (i32 v27)), (0, .ref (ad 230)), (1, .int (i32 x1)), (2, .int (i32 x2)), (3, .int (i32 x3))] := hl
        refine lv_goto (tgt := 111) hx hb dX6_deliver_172 (by decide) ?_
        exact ih111 _ _ _ _ x2 x3 v27 hx2 hx3 hv27 hf hW26 hS26 (lv_sub hl [1, 2, 3, 4, 0] rfl)
      refine lv_iload hx hb dX6_deliver_111 (lv_at hl 4 rfl) ?_
      refine m_sipush (v := 640) hx hb dX6_deliver_113 (by decide) ?_
      refine m_icmp_ge (tgt := 175) hx hb hx4 (by decide) hf dX6_deliver_116 (by decide) (fun hf => ?_) (fun hf => ?_)
      · skip
        refine lv_iload_n hx hb dX6_deliver_175 rfl (lv_at hl 3 rfl) ?_
        exact m_ireti X hr hlocks rfl hx3 (fun h => Bool.noConfusion h) hW hS (congrArg Prod.fst (Option.some.inj hf)) (congrArg Prod.snd (Option.some.inj hf)) hQ dX6_deliver_176
      · skip
        refine lv_aload_n hx hb dX6_deliver_119 rfl (lv_at hl 0 rfl) ?_
        refine g_X6_knows X hW (X.2.2.2.2.1 _ mw1066) dX6_deliver_120 ?_
        refine m_sipush (v := 640) hx hb dX6_deliver_123 (by decide) ?_
        refine lv_iload_n hx hb dX6_deliver_126 rfl (lv_at hl 2 rfl) ?_
        refine m_imul hx hb hf dX6_deliver_127 (fun v16 hv16 hf => ?_)
        refine lv_iload hx hb dX6_deliver_128 (lv_at hl 4 rfl) ?_
        refine m_iadd hx hb hf dX6_deliver_130 (fun v17 hv17 hf => ?_)
        refine lv_aload_n hx hb dX6_deliver_131 rfl (lv_at hl 0 rfl) ?_
        refine g_X6_knows X hW (X.2.2.2.2.1 _ mw1066) dX6_deliver_132 ?_
        refine m_sipush (v := 640) hx hb dX6_deliver_135 (by decide) ?_
        refine lv_iload_n hx hb dX6_deliver_138 rfl (lv_at hl 2 rfl) ?_
        refine m_imul hx hb hf dX6_deliver_139 (fun v18 hv18 hf => ?_)
        refine lv_iload hx hb dX6_deliver_140 (lv_at hl 4 rfl) ?_
        refine m_iadd hx hb hf dX6_deliver_142 (fun v19 hv19 hf => ?_)
        refine m_zald X hW a_X6_knows hv19 hf dX6_deliver_143 (fun v20 hv20 hf => ?_)
        refine m_if_ne (tgt := 163) hx hb hv20 hf dX6_deliver_144 (by decide) (fun hf => ?_) (fun hf => ?_)
        · skip
          exact hc163 _ _ _ _ x2 x3 x4 v17 hx2 hx3 hx4 hv17 hf hW hS (lv_sub hl [0, 1, 2, 3, 4] rfl)
        · skip
          refine lv_aload_n hx hb dX6_deliver_147 rfl (lv_at hl 0 rfl) ?_
          refine g_X6_told X hW (X.2.2.2.2.1 _ mw1071) dX6_deliver_148 ?_
          refine m_sipush (v := 640) hx hb dX6_deliver_151 (by decide) ?_
          refine lv_iload_n hx hb dX6_deliver_154 rfl (lv_at hl 1 rfl) ?_
          refine m_imul hx hb hf dX6_deliver_155 (fun v21 hv21 hf => ?_)
          refine lv_iload hx hb dX6_deliver_156 (lv_at hl 4 rfl) ?_
          refine m_iadd hx hb hf dX6_deliver_158 (fun v22 hv22 hf => ?_)
          refine m_zald X hW a_X6_told hv22 hf dX6_deliver_159 (fun v23 hv23 hf => ?_)
          refine m_if_eq (tgt := 167) hx hb hv23 hf dX6_deliver_160 (by decide) (fun hf => ?_) (fun hf => ?_)
          · skip
            refine m_const (v := 0) hx hb dX6_deliver_167 rfl ?_
            refine m_zast X hW hS a_X6_knows hv17 (by decide) hf dX6_deliver_168 (fun σ24 H locs hW24 hS24 hf => ?_)
            refine m_iinc (k0 := 4) (fun v25 => [(4, .int (i32 v25)), (0, .ref (ad 230)), (1, .int (i32 x1)), (2, .int (i32 x2)), (3, .int (i32 x3))]) hx hb hf dX6_deliver_169 hl rfl (by decide) (fun _ => rfl) (fun v25 ls hv25 hf hl => ?_)
            have hl : lv_has ls 5 [(4, .int (i32 v25)), (0, .ref (ad 230)), (1, .int (i32 x1)), (2, .int (i32 x2)), (3, .int (i32 x3))] := hl
            refine lv_goto (tgt := 111) hx hb dX6_deliver_172 (by decide) ?_
            exact ih111 _ _ _ _ x2 x3 v25 hx2 hx3 hv25 hf hW24 hS24 (lv_sub hl [1, 2, 3, 4, 0] rfl)
          · skip
            exact hc163 _ _ _ _ x2 x3 x4 v17 hx2 hx3 hx4 hv17 hf hW hS (lv_sub hl [0, 1, 2, 3, 4] rfl)
  have hc57 : ∀ (k57 : Nat) (σ : St) (H : Heap) (locs : List Loc) (ls : Array Slot) (x2 : Int) (x3 : Int) (x4 : Int), inR x2 → inR x3 → inR x4 → fX6_deliver_L57 n x1 x2 k57 σ x3 x4 = some (r, σ2) → Wd D cy ad nm nv σ H → va_S (AW ad nm nv sz) s.heap H locs → lv_has ls 5 [(0, .ref (ad 230)), (1, .int (i32 x1)), (2, .int (i32 x2)), (3, .int (i32 x3)), (4, .int (i32 x4))] → W p l e ({ frames := 2, cells := 0, slots := 0, locals := 46 } : Room) s m args below meth c H locs 0 0 Q (F0 m 57 ls []) := by
    intro k57
    induction k57 with
    | zero =>
      intro σ H locs ls x2 x3 x4 hx2 hx3 hx4 hf
      have hf : (none : Option (Int × St)) = some (r, σ2) := hf
      cases hf
    | succ k57 ih57 =>
      intro σ H locs ls x2 x3 x4 hx2 hx3 hx4 hf hW hS hl
      have hf : fX6_deliver_L57s n x1 x2 (fX6_deliver_L57 n x1 x2 k57) σ x3 x4 = some (r, σ2) := hf
      unfold fX6_deliver_L57s at hf
      refine lv_iload hx hb dX6_deliver_57 (lv_at hl 4 rfl) ?_
      refine lv_aload_n hx hb dX6_deliver_59 rfl (lv_at hl 0 rfl) ?_
      refine g_X6_orderMany X hW (X.2.2.2.2.1 _ mw1075) dX6_deliver_60 ?_
      refine m_icmp_ge (tgt := 108) hx hb hx4 (hW.2.1 _ _) hf dX6_deliver_63 (by decide) (fun hf => ?_) (fun hf => ?_)
      · skip
        refine m_const (v := 0) hx hb dX6_deliver_108 rfl ?_
        refine lv_istore (lv' := [(4, .int (i32 0)), (0, .ref (ad 230)), (1, .int (i32 x1)), (2, .int (i32 x2)), (3, .int (i32 x3))]) hx hb dX6_deliver_109 hl (by decide) rfl (fun ls hl => ?_)
        exact hc111 n _ _ _ _ x2 x3 0 hx2 hx3 (by decide) hf hW hS (lv_sub hl [1, 2, 3, 4, 0] rfl)
      · skip
        refine lv_aload_n hx hb dX6_deliver_66 rfl (lv_at hl 0 rfl) ?_
        refine g_X6_has X hW (X.2.2.2.2.1 _ mw1058) dX6_deliver_67 ?_
        refine m_sipush (v := 160) hx hb dX6_deliver_70 (by decide) ?_
        refine lv_iload_n hx hb dX6_deliver_73 rfl (lv_at hl 2 rfl) ?_
        refine m_imul hx hb hf dX6_deliver_74 (fun v7 hv7 hf => ?_)
        refine lv_aload_n hx hb dX6_deliver_75 rfl (lv_at hl 0 rfl) ?_
        refine g_X6_order X hW (X.2.2.2.2.1 _ mw1076) dX6_deliver_76 ?_
        refine lv_iload hx hb dX6_deliver_79 (lv_at hl 4 rfl) ?_
        refine m_iald X hW a_X6_order hx4 hf dX6_deliver_81 (fun v8 hv8 hf => ?_)
        refine m_iadd hx hb hf dX6_deliver_82 (fun v9 hv9 hf => ?_)
        refine m_zald X hW a_X6_has hv9 hf dX6_deliver_83 (fun v10 hv10 hf => ?_)
        refine m_if_ne (tgt := 102) hx hb hv10 hf dX6_deliver_84 (by decide) (fun hf => ?_) (fun hf => ?_)
        · skip
          refine m_iinc (k0 := 4) (fun v11 => [(4, .int (i32 v11)), (0, .ref (ad 230)), (1, .int (i32 x1)), (2, .int (i32 x2)), (3, .int (i32 x3))]) hx hb hf dX6_deliver_102 hl rfl (by decide) (fun _ => rfl) (fun v11 ls hv11 hf hl => ?_)
          have hl : lv_has ls 5 [(4, .int (i32 v11)), (0, .ref (ad 230)), (1, .int (i32 x1)), (2, .int (i32 x2)), (3, .int (i32 x3))] := hl
          refine lv_goto (tgt := 57) hx hb dX6_deliver_105 (by decide) ?_
          exact ih57 _ _ _ _ x2 x3 v11 hx2 hx3 hv11 hf hW hS (lv_sub hl [1, 2, 3, 4, 0] rfl)
        · skip
          refine lv_aload_n hx hb dX6_deliver_87 rfl (lv_at hl 0 rfl) ?_
          refine lv_iload_n hx hb dX6_deliver_88 rfl (lv_at hl 2 rfl) ?_
          refine lv_aload_n hx hb dX6_deliver_89 rfl (lv_at hl 0 rfl) ?_
          refine g_X6_order X hW (X.2.2.2.2.1 _ mw1076) dX6_deliver_90 ?_
          refine lv_iload hx hb dX6_deliver_93 (lv_at hl 4 rfl) ?_
          refine m_iald X hW a_X6_order hx4 hf dX6_deliver_95 (fun v12 hv12 hf => ?_)
          refine m_callVv (As := [.int (i32 x2), .int (i32 v12)]) (rest := []) X hW hS hl.1 gc_X6_204 hd_X6_gets ⟨rfl, rfl, Nat.le_of_ble_eq_true rfl, Nat.le_of_ble_eq_true rfl⟩ (rc_X6 X hW) (fun v q => ok_X6_gets hx2 hv12 q) hf rfl rfl (Nat.le_of_ble_eq_true rfl) dX6_deliver_96 ⟨Nat.le_of_ble_eq_true rfl, Nat.le_of_ble_eq_true rfl⟩ (fun σ13 H locs hW13 hS13 hf => ?_)
          refine m_iinc (k0 := 3) (fun v14 => [(3, .int (i32 v14)), (0, .ref (ad 230)), (1, .int (i32 x1)), (2, .int (i32 x2)), (4, .int (i32 x4))]) hx hb hf dX6_deliver_99 hl rfl (by decide) (fun _ => rfl) (fun v14 ls hv14 hf hl => ?_)
          have hl : lv_has ls 5 [(3, .int (i32 v14)), (0, .ref (ad 230)), (1, .int (i32 x1)), (2, .int (i32 x2)), (4, .int (i32 x4))] := hl
          refine m_iinc (k0 := 4) (fun v15 => [(4, .int (i32 v15)), (3, .int (i32 v14)), (0, .ref (ad 230)), (1, .int (i32 x1)), (2, .int (i32 x2))]) hx hb hf dX6_deliver_102 hl rfl (by decide) (fun _ => rfl) (fun v15 ls hv15 hf hl => ?_)
          have hl : lv_has ls 5 [(4, .int (i32 v15)), (3, .int (i32 v14)), (0, .ref (ad 230)), (1, .int (i32 x1)), (2, .int (i32 x2))] := hl
          refine lv_goto (tgt := 57) hx hb dX6_deliver_105 (by decide) ?_
          exact ih57 _ _ _ _ x2 v14 v15 hx2 hv14 hv15 hf hW13 hS13 (lv_sub hl [2, 3, 4, 1, 0] rfl)
  have hc20 : ∀ (σ : St) (H : Heap) (locs : List Loc) (ls : Array Slot) (t0 : Int), inR t0 → fX6_deliver_J20 n σ x1 t0 = some (r, σ2) → Wd D cy ad nm nv σ H → va_S (AW ad nm nv sz) s.heap H locs → lv_has ls 5 [(0, .ref (ad 230)), (1, .int (i32 x1))] → W p l e ({ frames := 2, cells := 0, slots := 0, locals := 46 } : Room) s m args below meth c H locs 0 0 Q (F0 m 20 ls [.int (i32 t0), .ref (ad 230)]) := by
    intro σ H locs ls t0 ht0 hf hW hS hl
    unfold fX6_deliver_J20 at hf
    refine p_X6_thrown X hW hS ht0 hf (X.2.2.2.2.1 _ mw1046) dX6_deliver_20 (fun σ3 H locs hW3 hS3 hf => ?_)
    refine lv_aload_n hx hb dX6_deliver_23 rfl (lv_at hl 0 rfl) ?_
    refine g_X6_thrown X hW3 (X.2.2.2.2.1 _ mw1046) dX6_deliver_24 ?_
    refine m_if_le (tgt := 32) hx hb (hW3.2.1 _ _) hf dX6_deliver_27 (by decide) (fun hf => ?_) (fun hf => ?_)
    · skip
      refine lv_aload_n hx hb dX6_deliver_32 rfl (lv_at hl 0 rfl) ?_
      refine g_X6_receivers X hW3 (X.2.2.2.2.1 _ mw1069) dX6_deliver_33 ?_
      refine lv_iload_n hx hb dX6_deliver_36 rfl (lv_at hl 1 rfl) ?_
      refine m_iald X hW3 a_X6_receivers hx1 hf dX6_deliver_37 (fun v4 hv4 hf => ?_)
      refine lv_istore_n (lv' := [(2, .int (i32 v4)), (0, .ref (ad 230)), (1, .int (i32 x1))]) hx hb dX6_deliver_38 rfl hl (by decide) rfl (fun ls hl => ?_)
      refine lv_aload_n hx hb dX6_deliver_39 rfl (lv_at hl 1 rfl) ?_
      refine lv_aload_n hx hb dX6_deliver_40 rfl (lv_at hl 1 rfl) ?_
      refine g_X6_sent X hW3 (X.2.2.2.2.1 _ mw1070) dX6_deliver_41 ?_
      refine m_sipush (v := 160) hx hb dX6_deliver_44 (by decide) ?_
      refine lv_iload_n hx hb dX6_deliver_47 rfl (lv_at hl 2 rfl) ?_
      refine m_imul hx hb hf dX6_deliver_48 (fun v5 hv5 hf => ?_)
      refine m_callVv (As := [.ref (ad 255), .int (i32 v5)]) (rest := []) X hW3 hS3 hl.1 gc_X6_158 hd_X6_orders ⟨rfl, rfl, Nat.le_of_ble_eq_true rfl, Nat.le_of_ble_eq_true rfl⟩ (rc_X6 X hW3) (fun v q => ok_X6_orders (arrL a_X6_sent) hv5 q) hf rfl rfl (Nat.le_of_ble_eq_true rfl) dX6_deliver_49 ⟨Nat.le_of_ble_eq_true rfl, Nat.le_of_ble_eq_true rfl⟩ (fun σ6 H locs hW6 hS6 hf => ?_)
      refine m_const (v := 0) hx hb dX6_deliver_52 rfl ?_
      refine lv_istore_n (lv' := [(3, .int (i32 0)), (2, .int (i32 v4)), (0, .ref (ad 230)), (1, .int (i32 x1))]) hx hb dX6_deliver_53 rfl hl (by decide) rfl (fun ls hl => ?_)
      refine m_const (v := 0) hx hb dX6_deliver_54 rfl ?_
      refine lv_istore (lv' := [(4, .int (i32 0)), (3, .int (i32 0)), (2, .int (i32 v4)), (0, .ref (ad 230)), (1, .int (i32 x1))]) hx hb dX6_deliver_55 hl (by decide) rfl (fun ls hl => ?_)
      exact hc57 n _ _ _ _ v4 0 0 hv4 (by decide) (by decide) hf hW6 hS6 (lv_sub hl [3, 4, 2, 1, 0] rfl)
    · skip
      refine m_const (v := 0) hx hb dX6_deliver_30 rfl ?_
      exact m_ireti X hr hlocks rfl (by decide) (fun h => Bool.noConfusion h) hW3 hS3 (congrArg Prod.fst (Option.some.inj hf)) (congrArg Prod.snd (Option.some.inj hf)) hQ dX6_deliver_31
  refine lv_aload_n hx hb dX6_deliver_0 rfl (lv_at hl 0 rfl) ?_
  refine lv_iload_n hx hb dX6_deliver_1 rfl (lv_at hl 1 rfl) ?_
  refine m_const (v := 0) hx hb dX6_deliver_2 rfl ?_
  refine lv_aload_n hx hb dX6_deliver_3 rfl (lv_at hl 0 rfl) ?_
  refine g_X6_messageMany X hW (X.2.2.2.2.1 _ mw1067) dX6_deliver_4 ?_
  refine m_const (v := 1) hx hb dX6_deliver_7 rfl ?_
  refine m_isub hx hb hf dX6_deliver_8 (fun v1 hv1 hf => ?_)
  refine m_callSi1 (z := true) (As := [.int (i32 x1), .int (i32 0), .int (i32 v1)]) (rest := [.ref (ad 230)]) X hW hS hl.1 gc_X6_130 hd_X6_isIn ⟨rfl, rfl, Nat.le_of_ble_eq_true rfl, Nat.le_of_ble_eq_true rfl⟩ (fun v q => ok_X6_isIn hx1 (by decide) hv1 q) hf rfl rfl (Nat.le_of_ble_eq_true rfl) dX6_deliver_9 ⟨Nat.le_of_ble_eq_true rfl, Nat.le_of_ble_eq_true rfl⟩ (fun v2 H locs hv2 zv2 hWv2 hSv2 hf => ?_)
  refine m_if_eq (tgt := 19) hx hb hv2 hf dX6_deliver_12 (by decide) (fun hf => ?_) (fun hf => ?_)
  · skip
    refine m_const (v := 1) hx hb dX6_deliver_19 rfl ?_
    exact hc20 _ _ _ _ 1 (by decide) hf hWv2 hSv2 (lv_sub hl [0, 1] rfl)
  · skip
    refine m_const (v := 0) hx hb dX6_deliver_15 rfl ?_
    refine lv_goto (tgt := 20) hx hb dX6_deliver_16 (by decide) ?_
    exact hc20 _ _ _ _ 0 (by decide) hf hWv2 hSv2 (lv_sub hl [0, 1] rfl)
set_option maxRecDepth 100000 in
set_option maxHeartbeats 4000000 in
theorem ok_X6_save {l : Launch} {D : va_G} {cy : Nat → ClassId} {ad : Nat → Nat} {nm nv sz : Nat} {σ : St} {x1 : Int} {r : Int} {σ2 : St} (hx1 : inR x1) (hf : fX6_save σ x1 = some (r, σ2)) : CI l yX6_save cX6_save 3 (some .int) ({ frames := 2, cells := 0, slots := 0, locals := 42 } : Room) [.ref (ad 230), .int (i32 x1)] D cy ad nm nv sz σ false r σ2 := by
  refine m_entry RX6 rfl (by decide +kernel) (Nat.le_of_ble_eq_true rfl) ?_
  intro p e s m args below meth c Q hQ hr hlocks X hW hS ls hl
  have hx := X.1
  have hb := X.2.1
  have hl : lv_has ls 3 [(0, .ref (ad 230)), (1, .int (i32 x1))] := hl
  unfold fX6_save at hf
  refine lv_iload_n hx hb dX6_save_0 rfl (lv_at hl 1 rfl) ?_
  refine m_callSi1 (z := true) (As := [.int (i32 x1)]) (rest := []) X hW hS hl.1 gc_X6_215 hd_X6_isSite ⟨rfl, rfl, Nat.le_of_ble_eq_true rfl, Nat.le_of_ble_eq_true rfl⟩ (fun v q => ok_X6_isSite hx1 q) hf rfl rfl (Nat.le_of_ble_eq_true rfl) dX6_save_1 ⟨Nat.le_of_ble_eq_true rfl, Nat.le_of_ble_eq_true rfl⟩ (fun v1 H locs hv1 zv1 hWv1 hSv1 hf => ?_)
  refine m_if_ne (tgt := 13) hx hb hv1 hf dX6_save_4 (by decide) (fun hf => ?_) (fun hf => ?_)
  · skip
    refine lv_aload_n hx hb dX6_save_13 rfl (lv_at hl 0 rfl) ?_
    refine m_const (v := 0) hx hb dX6_save_14 rfl ?_
    refine p_X6_thrown X hWv1 hSv1 (by decide) hf (X.2.2.2.2.1 _ mw1046) dX6_save_15 (fun σ2 H locs hW2 hS2 hf => ?_)
    refine lv_aload_n hx hb dX6_save_18 rfl (lv_at hl 0 rfl) ?_
    refine g_X6_journalMany X hW2 (X.2.2.2.2.1 _ mw1060) dX6_save_19 ?_
    refine lv_iload_n hx hb dX6_save_22 rfl (lv_at hl 1 rfl) ?_
    refine m_iald X hW2 a_X6_journalMany hx1 hf dX6_save_23 (fun v3 hv3 hf => ?_)
    refine lv_aload_n hx hb dX6_save_24 rfl (lv_at hl 0 rfl) ?_
    refine g_X6_safeMany X hW2 (X.2.2.2.2.1 _ mw1061) dX6_save_25 ?_
    refine lv_iload_n hx hb dX6_save_28 rfl (lv_at hl 1 rfl) ?_
    refine m_iald X hW2 a_X6_safeMany hx1 hf dX6_save_29 (fun v4 hv4 hf => ?_)
    refine m_isub hx hb hf dX6_save_30 (fun v5 hv5 hf => ?_)
    refine lv_istore_n (lv' := [(2, .int (i32 v5)), (0, .ref (ad 230)), (1, .int (i32 x1))]) hx hb dX6_save_31 rfl hl (by decide) rfl (fun ls hl => ?_)
    refine lv_aload_n hx hb dX6_save_32 rfl (lv_at hl 1 rfl) ?_
    refine g_X6_safeMany X hW2 (X.2.2.2.2.1 _ mw1061) dX6_save_33 ?_
    refine lv_iload_n hx hb dX6_save_36 rfl (lv_at hl 2 rfl) ?_
    refine lv_aload_n hx hb dX6_save_37 rfl (lv_at hl 1 rfl) ?_
    refine g_X6_journalMany X hW2 (X.2.2.2.2.1 _ mw1060) dX6_save_38 ?_
    refine lv_iload_n hx hb dX6_save_41 rfl (lv_at hl 2 rfl) ?_
    refine m_iald X hW2 a_X6_journalMany hx1 hf dX6_save_42 (fun v6 hv6 hf => ?_)
    refine m_iast X hW2 hS2 a_X6_safeMany hx1 hv6 hf dX6_save_43 (fun σ7 H locs hW7 hS7 hf => ?_)
    refine lv_iload_n hx hb dX6_save_44 rfl (lv_at hl 0 rfl) ?_
    exact m_ireti X hr hlocks rfl hv5 (fun h => Bool.noConfusion h) hW7 hS7 (congrArg Prod.fst (Option.some.inj hf)) (congrArg Prod.snd (Option.some.inj hf)) hQ dX6_save_45
  · skip
    refine lv_aload_n hx hb dX6_save_7 rfl (lv_at hl 0 rfl) ?_
    refine m_const (v := 1) hx hb dX6_save_8 rfl ?_
    refine m_callVi (z := false) (As := [.int (i32 1)]) (rest := []) X hWv1 hSv1 hl.1 gc_X6_222 hd_X6_fails ⟨rfl, rfl, Nat.le_of_ble_eq_true rfl, Nat.le_of_ble_eq_true rfl⟩ (rc_X6 X hWv1) (fun v q9 q => ok_X6_fails (by decide) q) hf rfl rfl (Nat.le_of_ble_eq_true rfl) dX6_save_9 ⟨Nat.le_of_ble_eq_true rfl, Nat.le_of_ble_eq_true rfl⟩ (fun v9 σ8 H locs hv9 zv9 hW8 hS8 hf => ?_)
    exact m_ireti X hr hlocks rfl hv9 (fun h => Bool.noConfusion h) hW8 hS8 (congrArg Prod.fst (Option.some.inj hf)) (congrArg Prod.snd (Option.some.inj hf)) hQ dX6_save_12
set_option maxRecDepth 100000 in
set_option maxHeartbeats 4000000 in
theorem ok_X6_crash {l : Launch} {D : va_G} {cy : Nat → ClassId} {ad : Nat → Nat} {nm nv sz : Nat} {σ : St} {n : Nat} {x1 : Int} {x2 : Int} {r : Int} {σ2 : St} (hx1 : inR x1) (hx2 : inR x2) (hf : fX6_crash n σ x1 x2 = some (r, σ2)) : CI l yX6_crash cX6_crash 5 (some .int) ({ frames := 2, cells := 0, slots := 0, locals := 42 } : Room) [.ref (ad 230), .int (i32 x1), .int (i32 x2)] D cy ad nm nv sz σ false r σ2 := by
  refine m_entry RX6 rfl (by decide +kernel) (Nat.le_of_ble_eq_true rfl) ?_
  intro p e s m args below meth c Q hQ hr hlocks X hW hS ls hl
  have hx := X.1
  have hb := X.2.1
  have hl : lv_has ls 5 [(0, .ref (ad 230)), (1, .int (i32 x1)), (2, .int (i32 x2))] := hl
  unfold fX6_crash at hf
  have hc52 : ∀ (k52 : Nat) (σ : St) (H : Heap) (locs : List Loc) (ls : Array Slot) (x3 : Int), inR x3 → fX6_crash_L52 n x1 x2 k52 σ x3 = some (r, σ2) → Wd D cy ad nm nv σ H → va_S (AW ad nm nv sz) s.heap H locs → lv_has ls 5 [(0, .ref (ad 230)), (1, .int (i32 x1)), (2, .int (i32 x2)), (3, .int (i32 x3))] → W p l e ({ frames := 2, cells := 0, slots := 0, locals := 42 } : Room) s m args below meth c H locs 0 0 Q (F0 m 52 ls []) := by
    intro k52
    induction k52 with
    | zero =>
      intro σ H locs ls x3 hx3 hf
      have hf : (none : Option (Int × St)) = some (r, σ2) := hf
      cases hf
    | succ k52 ih52 =>
      intro σ H locs ls x3 hx3 hf hW hS hl
      have hf : fX6_crash_L52s n x1 x2 (fX6_crash_L52 n x1 x2 k52) σ x3 = some (r, σ2) := hf
      unfold fX6_crash_L52s at hf
      have hc126 : ∀ (σ : St) (H : Heap) (locs : List Loc) (ls : Array Slot) (x3 : Int) (x4 : Int) (t0 : Int) (t1 : Int), inR x3 → inR x4 → inR t0 → inR t1 → fX6_crash_J126 n (fX6_crash_L52 n x1 x2 k52) σ x1 x2 x3 x4 t0 t1 = some (r, σ2) → Wd D cy ad nm nv σ H → va_S (AW ad nm nv sz) s.heap H locs → lv_has ls 5 [(0, .ref (ad 230)), (1, .int (i32 x1)), (2, .int (i32 x2)), (3, .int (i32 x3)), (4, .int (i32 x4))] → W p l e ({ frames := 2, cells := 0, slots := 0, locals := 42 } : Room) s m args below meth c H locs 0 0 Q (F0 m 126 ls [.int (i32 t0), .int (i32 t1), .ref (ad 248)]) := by
        intro σ H locs ls x3 x4 t0 t1 hx3 hx4 ht0 ht1 hf hW hS hl
        unfold fX6_crash_J126 at hf
        refine m_iast X hW hS a_X6_cursors ht1 ht0 hf dX6_crash_126 (fun σ20 H locs hW20 hS20 hf => ?_)
        refine lv_aload_n hx hb dX6_crash_127 rfl (lv_at hl 0 rfl) ?_
        refine g_X6_tails X hW20 (X.2.2.2.2.1 _ mw1064) dX6_crash_128 ?_
        refine lv_iload_n hx hb dX6_crash_131 rfl (lv_at hl 1 rfl) ?_
        refine lv_aload_n hx hb dX6_crash_132 rfl (lv_at hl 0 rfl) ?_
        refine g_X6_tails X hW20 (X.2.2.2.2.1 _ mw1064) dX6_crash_133 ?_
        refine lv_iload_n hx hb dX6_crash_136 rfl (lv_at hl 1 rfl) ?_
        refine m_iald X hW20 a_X6_tails hx1 hf dX6_crash_137 (fun v21 hv21 hf => ?_)
        refine lv_iload hx hb dX6_crash_138 (lv_at hl 4 rfl) ?_
        refine m_icmp_ne (tgt := 147) hx hb hv21 hx4 hf dX6_crash_140 (by decide) (fun hf => ?_) (fun hf => ?_)
        · skip
          refine lv_aload_n hx hb dX6_crash_147 rfl (lv_at hl 0 rfl) ?_
          refine g_X6_tails X hW20 (X.2.2.2.2.1 _ mw1064) dX6_crash_148 ?_
          refine lv_iload_n hx hb dX6_crash_151 rfl (lv_at hl 1 rfl) ?_
          refine m_iald X hW20 a_X6_tails hx1 hf dX6_crash_152 (fun v22 hv22 hf => ?_)
          refine m_iast X hW20 hS20 a_X6_tails hx1 hv22 hf dX6_crash_153 (fun σ23 H locs hW23 hS23 hf => ?_)
          refine m_iinc (k0 := 3) (fun v24 => [(3, .int (i32 v24)), (0, .ref (ad 230)), (1, .int (i32 x1)), (2, .int (i32 x2)), (4, .int (i32 x4))]) hx hb hf dX6_crash_154 hl rfl (by decide) (fun _ => rfl) (fun v24 ls hv24 hf hl => ?_)
          have hl : lv_has ls 5 [(3, .int (i32 v24)), (0, .ref (ad 230)), (1, .int (i32 x1)), (2, .int (i32 x2)), (4, .int (i32 x4))] := hl
          refine lv_goto (tgt := 52) hx hb dX6_crash_157 (by decide) ?_
          exact ih52 _ _ _ _ v24 hv24 hf hW23 hS23 (lv_sub hl [1, 2, 3, 0] rfl)
        · skip
          refine m_const (v := (-1)) hx hb dX6_crash_143 rfl ?_
          refine lv_goto (tgt := 153) hx hb dX6_crash_144 (by decide) ?_
          refine m_iast X hW20 hS20 a_X6_tails hx1 (by decide) hf dX6_crash_153 (fun σ25 H locs hW25 hS25 hf => ?_)
          refine m_iinc (k0 := 3) (fun v26 => [(3, .int (i32 v26)), (0, .ref (ad 230)), (1, .int (i32 x1)), (2, .int (i32 x2)), (4, .int (i32 x4))]) hx hb hf dX6_crash_154 hl rfl (by decide) (fun _ => rfl) (fun v26 ls hv26 hf hl => ?_)
          have hl : lv_has ls 5 [(3, .int (i32 v26)), (0, .ref (ad 230)), (1, .int (i32 x1)), (2, .int (i32 x2)), (4, .int (i32 x4))] := hl
          refine lv_goto (tgt := 52) hx hb dX6_crash_157 (by decide) ?_
          exact ih52 _ _ _ _ v26 hv26 hf hW25 hS25 (lv_sub hl [1, 2, 3, 0] rfl)
      refine lv_iload_n hx hb dX6_crash_52 rfl (lv_at hl 3 rfl) ?_
      refine lv_iload_n hx hb dX6_crash_53 rfl (lv_at hl 2 rfl) ?_
      refine m_icmp_ge (tgt := 160) hx hb hx3 hx2 hf dX6_crash_54 (by decide) (fun hf => ?_) (fun hf => ?_)
      · skip
        refine lv_aload_n hx hb dX6_crash_160 rfl (lv_at hl 0 rfl) ?_
        refine g_X6_journalMany X hW (X.2.2.2.2.1 _ mw1060) dX6_crash_161 ?_
        refine lv_iload_n hx hb dX6_crash_164 rfl (lv_at hl 1 rfl) ?_
        refine m_iald X hW a_X6_journalMany hx1 hf dX6_crash_165 (fun v7 hv7 hf => ?_)
        exact m_ireti X hr hlocks rfl hv7 (fun h => Bool.noConfusion h) hW hS (congrArg Prod.fst (Option.some.inj hf)) (congrArg Prod.snd (Option.some.inj hf)) hQ dX6_crash_166
      · skip
        refine lv_aload_n hx hb dX6_crash_57 rfl (lv_at hl 0 rfl) ?_
        refine g_X6_journalMany X hW (X.2.2.2.2.1 _ mw1060) dX6_crash_58 ?_
        refine lv_iload_n hx hb dX6_crash_61 rfl (lv_at hl 1 rfl) ?_
        refine lv_dup2_11 hx hb dX6_crash_62 rfl rfl ?_
        refine m_iald X hW a_X6_journalMany hx1 hf dX6_crash_63 (fun v8 hv8 hf => ?_)
        refine m_const (v := 1) hx hb dX6_crash_64 rfl ?_
        refine m_isub hx hb hf dX6_crash_65 (fun v9 hv9 hf => ?_)
        refine m_iast X hW hS a_X6_journalMany hx1 hv9 hf dX6_crash_66 (fun σ10 H locs hW10 hS10 hf => ?_)
        refine lv_aload_n hx hb dX6_crash_67 rfl (lv_at hl 0 rfl) ?_
        refine g_X6_journals X hW10 (X.2.2.2.2.1 _ mw1059) dX6_crash_68 ?_
        refine m_sipush (v := 160) hx hb dX6_crash_71 (by decide) ?_
        refine lv_iload_n hx hb dX6_crash_74 rfl (lv_at hl 1 rfl) ?_
        refine m_imul hx hb hf dX6_crash_75 (fun v11 hv11 hf => ?_)
        refine lv_aload_n hx hb dX6_crash_76 rfl (lv_at hl 0 rfl) ?_
        refine g_X6_journalMany X hW10 (X.2.2.2.2.1 _ mw1060) dX6_crash_77 ?_
        refine lv_iload_n hx hb dX6_crash_80 rfl (lv_at hl 1 rfl) ?_
        refine m_iald X hW10 a_X6_journalMany hx1 hf dX6_crash_81 (fun v12 hv12 hf => ?_)
        refine m_iadd hx hb hf dX6_crash_82 (fun v13 hv13 hf => ?_)
        refine m_iald X hW10 a_X6_journals hv13 hf dX6_crash_83 (fun v14 hv14 hf => ?_)
        refine lv_istore (lv' := [(4, .int (i32 v14)), (0, .ref (ad 230)), (1, .int (i32 x1)), (2, .int (i32 x2)), (3, .int (i32 x3))]) hx hb dX6_crash_84 hl (by decide) rfl (fun ls hl => ?_)
        refine lv_aload_n hx hb dX6_crash_86 rfl (lv_at hl 1 rfl) ?_
        refine g_X6_has X hW10 (X.2.2.2.2.1 _ mw1058) dX6_crash_87 ?_
        refine m_sipush (v := 160) hx hb dX6_crash_90 (by decide) ?_
        refine lv_iload_n hx hb dX6_crash_93 rfl (lv_at hl 2 rfl) ?_
        refine m_imul hx hb hf dX6_crash_94 (fun v15 hv15 hf => ?_)
        refine lv_iload hx hb dX6_crash_95 (lv_at hl 0 rfl) ?_
        refine m_iadd hx hb hf dX6_crash_97 (fun v16 hv16 hf => ?_)
        refine m_const (v := 0) hx hb dX6_crash_98 rfl ?_
        refine m_zast X hW10 hS10 a_X6_has hv16 (by decide) hf dX6_crash_99 (fun σ17 H locs hW17 hS17 hf => ?_)
        refine lv_aload_n hx hb dX6_crash_100 rfl (lv_at hl 1 rfl) ?_
        refine g_X6_cursors X hW17 (X.2.2.2.2.1 _ mw1063) dX6_crash_101 ?_
        refine lv_iload_n hx hb dX6_crash_104 rfl (lv_at hl 2 rfl) ?_
        refine lv_aload_n hx hb dX6_crash_105 rfl (lv_at hl 1 rfl) ?_
        refine g_X6_cursors X hW17 (X.2.2.2.2.1 _ mw1063) dX6_crash_106 ?_
        refine lv_iload_n hx hb dX6_crash_109 rfl (lv_at hl 2 rfl) ?_
        refine m_iald X hW17 a_X6_cursors hx1 hf dX6_crash_110 (fun v18 hv18 hf => ?_)
        refine lv_iload hx hb dX6_crash_111 (lv_at hl 0 rfl) ?_
        refine m_icmp_ne (tgt := 120) hx hb hv18 hv14 hf dX6_crash_113 (by decide) (fun hf => ?_) (fun hf => ?_)
        · skip
          refine lv_aload_n hx hb dX6_crash_120 rfl (lv_at hl 1 rfl) ?_
          refine g_X6_cursors X hW17 (X.2.2.2.2.1 _ mw1063) dX6_crash_121 ?_
          refine lv_iload_n hx hb dX6_crash_124 rfl (lv_at hl 2 rfl) ?_
          refine m_iald X hW17 a_X6_cursors hx1 hf dX6_crash_125 (fun v19 hv19 hf => ?_)
          exact hc126 _ _ _ _ x3 v14 v19 x1 hx3 hv14 hv19 hx1 hf hW17 hS17 (lv_sub hl [1, 2, 3, 4, 0] rfl)
        · skip
          refine m_const (v := (-1)) hx hb dX6_crash_116 rfl ?_
          refine lv_goto (tgt := 126) hx hb dX6_crash_117 (by decide) ?_
          exact hc126 _ _ _ _ x3 v14 (-1) x1 hx3 hv14 (by decide) hx1 hf hW17 hS17 (lv_sub hl [1, 2, 3, 4, 0] rfl)
  have hc38 : ∀ (σ : St) (H : Heap) (locs : List Loc) (ls : Array Slot) (t0 : Int), inR t0 → fX6_crash_J38 n σ x1 x2 t0 = some (r, σ2) → Wd D cy ad nm nv σ H → va_S (AW ad nm nv sz) s.heap H locs → lv_has ls 5 [(0, .ref (ad 230)), (1, .int (i32 x1)), (2, .int (i32 x2))] → W p l e ({ frames := 2, cells := 0, slots := 0, locals := 42 } : Room) s m args below meth c H locs 0 0 Q (F0 m 38 ls [.int (i32 t0), .ref (ad 230)]) := by
    intro σ H locs ls t0 ht0 hf hW hS hl
    unfold fX6_crash_J38 at hf
    refine p_X6_thrown X hW hS ht0 hf (X.2.2.2.2.1 _ mw1046) dX6_crash_38 (fun σ6 H locs hW6 hS6 hf => ?_)
    refine lv_aload_n hx hb dX6_crash_41 rfl (lv_at hl 0 rfl) ?_
    refine g_X6_thrown X hW6 (X.2.2.2.2.1 _ mw1046) dX6_crash_42 ?_
    refine m_if_le (tgt := 50) hx hb (hW6.2.1 _ _) hf dX6_crash_45 (by decide) (fun hf => ?_) (fun hf => ?_)
    · skip
      refine m_const (v := 0) hx hb dX6_crash_50 rfl ?_
      refine lv_istore_n (lv' := [(3, .int (i32 0)), (0, .ref (ad 230)), (1, .int (i32 x1)), (2, .int (i32 x2))]) hx hb dX6_crash_51 rfl hl (by decide) rfl (fun ls hl => ?_)
      exact hc52 n _ _ _ _ 0 (by decide) hf hW6 hS6 (lv_sub hl [1, 2, 3, 0] rfl)
    · skip
      refine m_const (v := 0) hx hb dX6_crash_48 rfl ?_
      exact m_ireti X hr hlocks rfl (by decide) (fun h => Bool.noConfusion h) hW6 hS6 (congrArg Prod.fst (Option.some.inj hf)) (congrArg Prod.snd (Option.some.inj hf)) hQ dX6_crash_49
  refine lv_aload_n hx hb dX6_crash_0 rfl (lv_at hl 0 rfl) ?_
  refine lv_iload_n hx hb dX6_crash_1 rfl (lv_at hl 1 rfl) ?_
  refine m_callSi1 (z := true) (As := [.int (i32 x1)]) (rest := [.ref (ad 230)]) X hW hS hl.1 gc_X6_215 hd_X6_isSite ⟨rfl, rfl, Nat.le_of_ble_eq_true rfl, Nat.le_of_ble_eq_true rfl⟩ (fun v q => ok_X6_isSite hx1 q) hf rfl rfl (Nat.le_of_ble_eq_true rfl) dX6_crash_2 ⟨Nat.le_of_ble_eq_true rfl, Nat.le_of_ble_eq_true rfl⟩ (fun v1 H locs hv1 zv1 hWv1 hSv1 hf => ?_)
  refine m_if_ne (tgt := 12) hx hb hv1 hf dX6_crash_5 (by decide) (fun hf => ?_) (fun hf => ?_)
  · skip
    refine lv_iload_n hx hb dX6_crash_12 rfl (lv_at hl 2 rfl) ?_
    refine m_const (v := 0) hx hb dX6_crash_13 rfl ?_
    refine lv_aload_n hx hb dX6_crash_14 rfl (lv_at hl 0 rfl) ?_
    refine g_X6_journalMany X hWv1 (X.2.2.2.2.1 _ mw1060) dX6_crash_15 ?_
    refine lv_iload_n hx hb dX6_crash_18 rfl (lv_at hl 1 rfl) ?_
    refine m_iald X hWv1 a_X6_journalMany hx1 hf dX6_crash_19 (fun v2 hv2 hf => ?_)
    refine lv_aload_n hx hb dX6_crash_20 rfl (lv_at hl 0 rfl) ?_
    refine g_X6_safeMany X hWv1 (X.2.2.2.2.1 _ mw1061) dX6_crash_21 ?_
    refine lv_iload_n hx hb dX6_crash_24 rfl (lv_at hl 1 rfl) ?_
    refine m_iald X hWv1 a_X6_safeMany hx1 hf dX6_crash_25 (fun v3 hv3 hf => ?_)
    refine m_isub hx hb hf dX6_crash_26 (fun v4 hv4 hf => ?_)
    refine m_callSi1 (z := true) (As := [.int (i32 x2), .int (i32 0), .int (i32 v4)]) (rest := [.ref (ad 230)]) X hWv1 hSv1 hl.1 gc_X6_130 hd_X6_isIn ⟨rfl, rfl, Nat.le_of_ble_eq_true rfl, Nat.le_of_ble_eq_true rfl⟩ (fun v q => ok_X6_isIn hx2 (by decide) hv4 q) hf rfl rfl (Nat.le_of_ble_eq_true rfl) dX6_crash_27 ⟨Nat.le_of_ble_eq_true rfl, Nat.le_of_ble_eq_true rfl⟩ (fun v5 H locs hv5 zv5 hWv5 hSv5 hf => ?_)
    refine m_if_eq (tgt := 37) hx hb hv5 hf dX6_crash_30 (by decide) (fun hf => ?_) (fun hf => ?_)
    · skip
      refine m_const (v := 2) hx hb dX6_crash_37 rfl ?_
      exact hc38 _ _ _ _ 2 (by decide) hf hWv5 hSv5 (lv_sub hl [0, 1, 2] rfl)
    · skip
      refine m_const (v := 0) hx hb dX6_crash_33 rfl ?_
      refine lv_goto (tgt := 38) hx hb dX6_crash_34 (by decide) ?_
      exact hc38 _ _ _ _ 0 (by decide) hf hWv5 hSv5 (lv_sub hl [0, 1, 2] rfl)
  · skip
    refine m_const (v := 1) hx hb dX6_crash_8 rfl ?_
    refine lv_goto (tgt := 38) hx hb dX6_crash_9 (by decide) ?_
    exact hc38 _ _ _ _ 1 (by decide) hf hWv1 hSv1 (lv_sub hl [0, 1, 2] rfl)
