theorem gc_X3_65 : GoodIn GW (wsV RX3 65 RX1 yX1_inOrder (wsG yX1_inOrder cX1_inOrder 2 (some .int))) := cg_V mw319 mw320 mw321 mw2 mw322
theorem gc_X3_79 : GoodIn GW (wsV RX3 79 RX1 yX1_kindOf (wsG yX1_kindOf cX1_kindOf 2 (some .int))) := cg_V mw323 mw324 mw325 mw2 mw326
theorem gc_X3_82 : GoodIn GW (wsV RX3 82 RX1 yX1_firstOf (wsG yX1_firstOf cX1_firstOf 2 (some .int))) := cg_V mw327 mw328 mw329 mw2 mw330
theorem gc_X3_69 : GoodIn GW (wsV RX3 69 RX0 yX0_contains (wsG yX0_contains cX0_contains 2 (some .boolean))) := cg_V mw331 mw332 mw333 mw4 mw334
theorem gc_X3_85 : GoodIn GW (wsS RX3 85 yX3_isNumber (wsG yX3_isNumber cX3_isNumber 1 (some .boolean))) := cg_S mw335 mw336 mw5 mw337
theorem gc_X3_138 : GoodIn GW (wsV RX3 138 RX3 yX3_inRow (wsG yX3_inRow cX3_inRow 2 (some .int))) := cg_V mw354 mw356 ms6 mw5 mw357
theorem gc_X3_153 : GoodIn GW (wsV RX3 153 RX3 yX3_isShownBreak (wsG yX3_isShownBreak cX3_isShownBreak 2 (some .boolean))) := cg_V mw366 mw368 ms8 mw5 mw369
theorem gc_X3_156 : GoodIn GW (wsS RX3 156 yX3_isBlock (wsG yX3_isBlock cX3_isBlock 1 (some .boolean))) := cg_S mw374 mw375 mw5 mw376
theorem gc_X3_125 : GoodIn GW (wsV RX3 125 RX3 yX3_placeOf (wsG yX3_placeOf cX3_placeOf 3 (some .int))) := cg_V mw350 mw352 ms5 mw5 mw353
theorem gc_X3_128 : GoodIn GW (wsV RX3 128 RX1 yX1_siteOf (wsG yX1_siteOf cX1_siteOf 2 (some .int))) := cg_V mw358 mw359 mw360 mw2 mw361
theorem gc_X3_131 : GoodIn GW (wsV RX3 131 RX3 yX3_blockOf (wsG yX3_blockOf cX3_blockOf 4 (some .int))) := cg_V mw362 mw364 ms7 mw5 mw365
theorem gc_X3_134 : GoodIn GW (wsV RX3 134 RX3 yX3_levelIn (wsG yX3_levelIn cX3_levelIn 3 (some .int))) := cg_V mw370 mw371 mw372 mw5 mw373
theorem gc_X3_103 : GoodIn GW (wsV RX3 103 RX1 yX1_flagOf (wsG yX1_flagOf cX1_flagOf 2 (some .boolean))) := cg_V mw377 mw378 mw379 mw2 mw380
theorem gc_X3_141 : GoodIn GW (wsV RX3 141 RX3 yX3_bitsOf (wsG yX3_bitsOf cX3_bitsOf 2 (some .int))) := cg_V mw381 mw383 ms9 mw5 mw384
theorem gc_X3_150 : GoodIn GW (wsV RX3 150 RX1 yX1_secondOf (wsG yX1_secondOf cX1_secondOf 2 (some .int))) := cg_V mw404 mw405 mw406 mw2 mw407
theorem gc_X3_100 : GoodIn GW (wsV RX3 100 RX1 yX1_valueOf (wsG yX1_valueOf cX1_valueOf 2 (some .int))) := cg_V mw396 mw397 mw398 mw2 mw399
theorem gc_X3_159 : GoodIn GW (wsV RX3 159 RX3 yX3_comesTo (wsG yX3_comesTo cX3_comesTo 5 (some .boolean))) := cg_V mw416 mw418 ms15 mw5 mw419
theorem gc_X3_169 : GoodIn GW (wsV RX3 169 RX1 yX1_makesElement (wsG yX1_makesElement cX1_makesElement 2 (some .boolean))) := cg_V mw431 mw432 mw433 mw2 mw434
theorem gc_X3_172 : GoodIn GW (wsV RX3 172 RX3 yX3_isSeen (wsG yX3_isSeen cX3_isSeen 2 (some .boolean))) := cg_V mw439 mw440 mw441 mw5 mw442
theorem gc_X3_163 : GoodIn GW (wsV RX3 163 RX3 yX3_elementOf (wsG yX3_elementOf cX3_elementOf 2 (some .int))) := cg_V mw427 mw429 ms17 mw5 mw430
theorem gc_X3_166 : GoodIn GW (wsV RX3 166 RX3 yX3_isOpen (wsG yX3_isOpen cX3_isOpen 3 (some .boolean))) := cg_V mw435 mw437 ms18 mw5 mw438
theorem gc_X3_88 : GoodIn GW (wsV RX3 88 RX3 yX3_wasUndone (wsG yX3_wasUndone cX3_wasUndone 2 (some .boolean))) := cg_V mw342 mw343 mw344 mw5 mw345
theorem gc_X3_91 : GoodIn GW (wsV RX3 91 RX3 yX3_putElement (wsG yX3_putElement cX3_putElement 7 none)) := cg_V mw346 mw348 ms4 mw5 mw349
theorem gc_X3_94 : GoodIn GW (wsV RX3 94 RX3 yX3_removeElement (wsG yX3_removeElement cX3_removeElement 6 none)) := cg_V mw388 mw390 ms10 mw5 mw391
theorem gc_X3_97 : GoodIn GW (wsV RX3 97 RX3 yX3_restoreElement (wsG yX3_restoreElement cX3_restoreElement 3 none)) := cg_V mw392 mw394 ms11 mw5 mw395
theorem gc_X3_106 : GoodIn GW (wsV RX3 106 RX3 yX3_paint (wsG yX3_paint cX3_paint 12 none)) := cg_V mw400 mw402 ms12 mw5 mw403
theorem gc_X3_110 : GoodIn GW (wsV RX3 110 RX3 yX3_giveKind (wsG yX3_giveKind cX3_giveKind 3 none)) := cg_V mw408 mw410 ms13 mw5 mw411
theorem gc_X3_113 : GoodIn GW (wsV RX3 113 RX3 yX3_putUnder (wsG yX3_putUnder cX3_putUnder 4 none)) := cg_V mw412 mw414 ms14 mw5 mw415
theorem gc_X3_119 : GoodIn GW (wsV RX3 119 RX3 yX3_settle (wsG yX3_settle cX3_settle 5 none)) := cg_V mw423 mw425 ms16 mw5 mw426
theorem gc_X3_122 : GoodIn GW (wsV RX3 122 RX3 yX3_giveLevel (wsG yX3_giveLevel cX3_giveLevel 4 none)) := cg_V mw443 mw445 ms19 mw5 mw446
theorem gc_X3_58 : GoodIn GW (wsV RX3 58 RX3 yX3_clear (wsG yX3_clear cX3_clear 3 none)) := cg_V mw311 mw313 ms2 mw5 mw314
theorem gc_X3_61 : GoodIn GW (wsV RX3 61 RX3 yX3_findUndone (wsG yX3_findUndone cX3_findUndone 6 none)) := cg_V mw315 mw317 ms3 mw5 mw318
theorem gc_X3_75 : GoodIn GW (wsV RX3 75 RX3 yX3_perform (wsG yX3_perform cX3_perform 3 none)) := cg_V mw338 mw339 mw340 mw5 mw341
theorem gc_X3_175 : GoodIn GW (wsV RX3 175 RX3 yX3_isShown (wsG yX3_isShown cX3_isShown 2 (some .boolean))) := cg_V mw799 mw800 mw801 mw5 mw802
theorem gc_X3_178 : GoodIn GW (wsV RX3 178 RX3 yX3_countSeen (wsG yX3_countSeen cX3_countSeen 3 (some .int))) := cg_V mw811 mw699 mw700 mw5 mw701
theorem gc_X3_182 : GoodIn GW (wsV RX3 182 RX3 yX3_hasBit (wsG yX3_hasBit cX3_hasBit 3 (some .boolean))) := cg_V mw732 mw733 mw734 mw5 mw735
theorem hd_X1_inOrder : yX1_inOrder.cls = RX1 ∧ yX1_inOrder.cls ≠ "java/lang/invoke/MethodHandle" ∧ yX1_inOrder.cls ≠ "java/lang/invoke/VarHandle" ∧ (parseMethodDescriptor yX1_inOrder.desc).map (fun d => d.parameters.length) = some 1 := by decide +kernel
theorem hd_X1_kindOf : yX1_kindOf.cls = RX1 ∧ yX1_kindOf.cls ≠ "java/lang/invoke/MethodHandle" ∧ yX1_kindOf.cls ≠ "java/lang/invoke/VarHandle" ∧ (parseMethodDescriptor yX1_kindOf.desc).map (fun d => d.parameters.length) = some 1 := by decide +kernel
theorem hd_X1_firstOf : yX1_firstOf.cls = RX1 ∧ yX1_firstOf.cls ≠ "java/lang/invoke/MethodHandle" ∧ yX1_firstOf.cls ≠ "java/lang/invoke/VarHandle" ∧ (parseMethodDescriptor yX1_firstOf.desc).map (fun d => d.parameters.length) = some 1 := by decide +kernel
theorem hd_X3_isNumber : yX3_isNumber.cls = RX3 ∧ yX3_isNumber.cls ≠ "java/lang/invoke/MethodHandle" ∧ yX3_isNumber.cls ≠ "java/lang/invoke/VarHandle" ∧ (parseMethodDescriptor yX3_isNumber.desc).map (fun d => d.parameters.length) = some 1 := by decide +kernel
theorem hd_X3_inRow : yX3_inRow.cls = RX3 ∧ yX3_inRow.cls ≠ "java/lang/invoke/MethodHandle" ∧ yX3_inRow.cls ≠ "java/lang/invoke/VarHandle" ∧ (parseMethodDescriptor yX3_inRow.desc).map (fun d => d.parameters.length) = some 1 := by decide +kernel
theorem hd_X3_isShownBreak : yX3_isShownBreak.cls = RX3 ∧ yX3_isShownBreak.cls ≠ "java/lang/invoke/MethodHandle" ∧ yX3_isShownBreak.cls ≠ "java/lang/invoke/VarHandle" ∧ (parseMethodDescriptor yX3_isShownBreak.desc).map (fun d => d.parameters.length) = some 1 := by decide +kernel
theorem hd_X3_isBlock : yX3_isBlock.cls = RX3 ∧ yX3_isBlock.cls ≠ "java/lang/invoke/MethodHandle" ∧ yX3_isBlock.cls ≠ "java/lang/invoke/VarHandle" ∧ (parseMethodDescriptor yX3_isBlock.desc).map (fun d => d.parameters.length) = some 1 := by decide +kernel
theorem hd_X3_placeOf : yX3_placeOf.cls = RX3 ∧ yX3_placeOf.cls ≠ "java/lang/invoke/MethodHandle" ∧ yX3_placeOf.cls ≠ "java/lang/invoke/VarHandle" ∧ (parseMethodDescriptor yX3_placeOf.desc).map (fun d => d.parameters.length) = some 1 := by decide +kernel
theorem hd_X3_blockOf : yX3_blockOf.cls = RX3 ∧ yX3_blockOf.cls ≠ "java/lang/invoke/MethodHandle" ∧ yX3_blockOf.cls ≠ "java/lang/invoke/VarHandle" ∧ (parseMethodDescriptor yX3_blockOf.desc).map (fun d => d.parameters.length) = some 1 := by decide +kernel
theorem hd_X3_levelIn : yX3_levelIn.cls = RX3 ∧ yX3_levelIn.cls ≠ "java/lang/invoke/MethodHandle" ∧ yX3_levelIn.cls ≠ "java/lang/invoke/VarHandle" ∧ (parseMethodDescriptor yX3_levelIn.desc).map (fun d => d.parameters.length) = some 2 := by decide +kernel
theorem hd_X1_flagOf : yX1_flagOf.cls = RX1 ∧ yX1_flagOf.cls ≠ "java/lang/invoke/MethodHandle" ∧ yX1_flagOf.cls ≠ "java/lang/invoke/VarHandle" ∧ (parseMethodDescriptor yX1_flagOf.desc).map (fun d => d.parameters.length) = some 1 := by decide +kernel
theorem hd_X3_bitsOf : yX3_bitsOf.cls = RX3 ∧ yX3_bitsOf.cls ≠ "java/lang/invoke/MethodHandle" ∧ yX3_bitsOf.cls ≠ "java/lang/invoke/VarHandle" ∧ (parseMethodDescriptor yX3_bitsOf.desc).map (fun d => d.parameters.length) = some 1 := by decide +kernel
theorem hd_X1_secondOf : yX1_secondOf.cls = RX1 ∧ yX1_secondOf.cls ≠ "java/lang/invoke/MethodHandle" ∧ yX1_secondOf.cls ≠ "java/lang/invoke/VarHandle" ∧ (parseMethodDescriptor yX1_secondOf.desc).map (fun d => d.parameters.length) = some 1 := by decide +kernel
theorem hd_X1_valueOf : yX1_valueOf.cls = RX1 ∧ yX1_valueOf.cls ≠ "java/lang/invoke/MethodHandle" ∧ yX1_valueOf.cls ≠ "java/lang/invoke/VarHandle" ∧ (parseMethodDescriptor yX1_valueOf.desc).map (fun d => d.parameters.length) = some 1 := by decide +kernel
theorem hd_X3_comesTo : yX3_comesTo.cls = RX3 ∧ yX3_comesTo.cls ≠ "java/lang/invoke/MethodHandle" ∧ yX3_comesTo.cls ≠ "java/lang/invoke/VarHandle" ∧ (parseMethodDescriptor yX3_comesTo.desc).map (fun d => d.parameters.length) = some 2 := by decide +kernel
theorem hd_X1_makesElement : yX1_makesElement.cls = RX1 ∧ yX1_makesElement.cls ≠ "java/lang/invoke/MethodHandle" ∧ yX1_makesElement.cls ≠ "java/lang/invoke/VarHandle" ∧ (parseMethodDescriptor yX1_makesElement.desc).map (fun d => d.parameters.length) = some 1 := by decide +kernel
theorem hd_X3_isSeen : yX3_isSeen.cls = RX3 ∧ yX3_isSeen.cls ≠ "java/lang/invoke/MethodHandle" ∧ yX3_isSeen.cls ≠ "java/lang/invoke/VarHandle" ∧ (parseMethodDescriptor yX3_isSeen.desc).map (fun d => d.parameters.length) = some 1 := by decide +kernel
theorem hd_X3_elementOf : yX3_elementOf.cls = RX3 ∧ yX3_elementOf.cls ≠ "java/lang/invoke/MethodHandle" ∧ yX3_elementOf.cls ≠ "java/lang/invoke/VarHandle" ∧ (parseMethodDescriptor yX3_elementOf.desc).map (fun d => d.parameters.length) = some 1 := by decide +kernel
theorem hd_X3_isOpen : yX3_isOpen.cls = RX3 ∧ yX3_isOpen.cls ≠ "java/lang/invoke/MethodHandle" ∧ yX3_isOpen.cls ≠ "java/lang/invoke/VarHandle" ∧ (parseMethodDescriptor yX3_isOpen.desc).map (fun d => d.parameters.length) = some 1 := by decide +kernel
theorem hd_X3_wasUndone : yX3_wasUndone.cls = RX3 ∧ yX3_wasUndone.cls ≠ "java/lang/invoke/MethodHandle" ∧ yX3_wasUndone.cls ≠ "java/lang/invoke/VarHandle" ∧ (parseMethodDescriptor yX3_wasUndone.desc).map (fun d => d.parameters.length) = some 1 := by decide +kernel
theorem hd_X3_putElement : yX3_putElement.cls = RX3 ∧ yX3_putElement.cls ≠ "java/lang/invoke/MethodHandle" ∧ yX3_putElement.cls ≠ "java/lang/invoke/VarHandle" ∧ (parseMethodDescriptor yX3_putElement.desc).map (fun d => d.parameters.length) = some 1 := by decide +kernel
theorem hd_X3_removeElement : yX3_removeElement.cls = RX3 ∧ yX3_removeElement.cls ≠ "java/lang/invoke/MethodHandle" ∧ yX3_removeElement.cls ≠ "java/lang/invoke/VarHandle" ∧ (parseMethodDescriptor yX3_removeElement.desc).map (fun d => d.parameters.length) = some 1 := by decide +kernel
theorem hd_X3_restoreElement : yX3_restoreElement.cls = RX3 ∧ yX3_restoreElement.cls ≠ "java/lang/invoke/MethodHandle" ∧ yX3_restoreElement.cls ≠ "java/lang/invoke/VarHandle" ∧ (parseMethodDescriptor yX3_restoreElement.desc).map (fun d => d.parameters.length) = some 1 := by decide +kernel
theorem hd_X3_paint : yX3_paint.cls = RX3 ∧ yX3_paint.cls ≠ "java/lang/invoke/MethodHandle" ∧ yX3_paint.cls ≠ "java/lang/invoke/VarHandle" ∧ (parseMethodDescriptor yX3_paint.desc).map (fun d => d.parameters.length) = some 3 := by decide +kernel
theorem hd_X3_giveKind : yX3_giveKind.cls = RX3 ∧ yX3_giveKind.cls ≠ "java/lang/invoke/MethodHandle" ∧ yX3_giveKind.cls ≠ "java/lang/invoke/VarHandle" ∧ (parseMethodDescriptor yX3_giveKind.desc).map (fun d => d.parameters.length) = some 1 := by decide +kernel
theorem hd_X3_putUnder : yX3_putUnder.cls = RX3 ∧ yX3_putUnder.cls ≠ "java/lang/invoke/MethodHandle" ∧ yX3_putUnder.cls ≠ "java/lang/invoke/VarHandle" ∧ (parseMethodDescriptor yX3_putUnder.desc).map (fun d => d.parameters.length) = some 1 := by decide +kernel
theorem hd_X3_settle : yX3_settle.cls = RX3 ∧ yX3_settle.cls ≠ "java/lang/invoke/MethodHandle" ∧ yX3_settle.cls ≠ "java/lang/invoke/VarHandle" ∧ (parseMethodDescriptor yX3_settle.desc).map (fun d => d.parameters.length) = some 1 := by decide +kernel
theorem hd_X3_giveLevel : yX3_giveLevel.cls = RX3 ∧ yX3_giveLevel.cls ≠ "java/lang/invoke/MethodHandle" ∧ yX3_giveLevel.cls ≠ "java/lang/invoke/VarHandle" ∧ (parseMethodDescriptor yX3_giveLevel.desc).map (fun d => d.parameters.length) = some 1 := by decide +kernel
theorem hd_X3_clear : yX3_clear.cls = RX3 ∧ yX3_clear.cls ≠ "java/lang/invoke/MethodHandle" ∧ yX3_clear.cls ≠ "java/lang/invoke/VarHandle" ∧ (parseMethodDescriptor yX3_clear.desc).map (fun d => d.parameters.length) = some 0 := by decide +kernel
theorem hd_X3_findUndone : yX3_findUndone.cls = RX3 ∧ yX3_findUndone.cls ≠ "java/lang/invoke/MethodHandle" ∧ yX3_findUndone.cls ≠ "java/lang/invoke/VarHandle" ∧ (parseMethodDescriptor yX3_findUndone.desc).map (fun d => d.parameters.length) = some 1 := by decide +kernel
theorem hd_X3_perform : yX3_perform.cls = RX3 ∧ yX3_perform.cls ≠ "java/lang/invoke/MethodHandle" ∧ yX3_perform.cls ≠ "java/lang/invoke/VarHandle" ∧ (parseMethodDescriptor yX3_perform.desc).map (fun d => d.parameters.length) = some 1 := by decide +kernel
theorem hd_X3_isShown : yX3_isShown.cls = RX3 ∧ yX3_isShown.cls ≠ "java/lang/invoke/MethodHandle" ∧ yX3_isShown.cls ≠ "java/lang/invoke/VarHandle" ∧ (parseMethodDescriptor yX3_isShown.desc).map (fun d => d.parameters.length) = some 1 := by decide +kernel
theorem hd_X3_countSeen : yX3_countSeen.cls = RX3 ∧ yX3_countSeen.cls ≠ "java/lang/invoke/MethodHandle" ∧ yX3_countSeen.cls ≠ "java/lang/invoke/VarHandle" ∧ (parseMethodDescriptor yX3_countSeen.desc).map (fun d => d.parameters.length) = some 0 := by decide +kernel
theorem hd_X3_hasBit : yX3_hasBit.cls = RX3 ∧ yX3_hasBit.cls ≠ "java/lang/invoke/MethodHandle" ∧ yX3_hasBit.cls ≠ "java/lang/invoke/VarHandle" ∧ (parseMethodDescriptor yX3_hasBit.desc).map (fun d => d.parameters.length) = some 2 := by decide +kernel
theorem hdn_X5_commentBit : yX5_commentBit.cls ≠ "java/lang/invoke/MethodHandle" ∧ yX5_commentBit.cls ≠ "java/lang/invoke/VarHandle" ∧ (parseMethodDescriptor yX5_commentBit.desc).map (fun d => d.parameters.length) = some 1 := by decide +kernel
noncomputable def fX3_clear_L110s (n : Nat) (lp75 : (St → Int → Option St)) (p0 : Nat) (x1 : Int) (lp110 : (St → Int → Option St)) : St → Int → Option St := fun σ x2 => if 4 ≤ x2 then (ck (x1 + 1) (fun v11 => lp75 σ v11)) else (ra x2 4 (fun j => p0 + 13 + j) (fun o12 => wr σ o12 161 x1 0 (fun σ13 => ck (x2 + 1) (fun v14 => lp110 σ13 v14))))
noncomputable def fX3_clear_L110 (n : Nat) (lp75 : (St → Int → Option St)) (p0 : Nat) (x1 : Int) (k : Nat) : St → Int → Option St := lpR (fun _ _ => none) (fX3_clear_L110s n lp75 p0 x1) k
noncomputable def fX3_clear_L75s (n : Nat) (p0 : Nat) (lp75 : (St → Int → Option St)) : St → Int → Option St := fun σ x1 => if σ 8 8 < x1 then (some σ) else (if 161 ≤ x1 then (some σ) else (wr σ (p0 + 10) 161 x1 0 (fun σ9 => wr σ9 (p0 + 11) 161 x1 (-2) (fun σ10 => fX3_clear_L110 n lp75 p0 x1 n σ10 0))))
noncomputable def fX3_clear_L75 (n : Nat) (p0 : Nat) (k : Nat) : St → Int → Option St := lpR (fun _ _ => none) (fX3_clear_L75s n p0) k
noncomputable def fX3_clear_L7s (n : Nat) (p0 : Nat) (lp7 : (St → Int → Option St)) : St → Int → Option St := fun σ x1 => if σ 8 8 ≤ x1 then (fX3_clear_L75 n p0 n σ 0) else (if 160 ≤ x1 then (fX3_clear_L75 n p0 n σ 0) else (wr σ (p0 + 4) 160 x1 0 (fun σ2 => wrb σ2 (p0 + 5) 160 x1 0 (fun σ3 => wrb σ3 (p0 + 6) 160 x1 0 (fun σ4 => wr σ4 (p0 + 7) 160 x1 0 (fun σ5 => wrb σ5 (p0 + 8) 160 x1 0 (fun σ6 => wrb σ6 (p0 + 9) 160 x1 0 (fun σ7 => ck (x1 + 1) (fun v8 => lp7 σ7 v8)))))))))
noncomputable def fX3_clear_L7 (n : Nat) (p0 : Nat) (k : Nat) : St → Int → Option St := lpR (fun _ _ => none) (fX3_clear_L7s n p0) k
noncomputable def fX3_clear (n : Nat) (σ : St) (p0 : Nat) : Option St := pf σ p0 2 0 (fun σ1 => fX3_clear_L7 n p0 n σ1 0)
noncomputable def fX3_isNumber (x0 : Int) : Option Int := if x0 < 0 then (some 0) else (if 160 ≤ x0 then (some 0) else (some 1))
noncomputable def fX3_findUndone_J56 (n : Nat) (lp2 : (St → Int → Option St)) (σ : St) (p0 : Nat) (o1 : Nat) (x2 : Int) (x3 : Int) (x4 : Int) (x5 : Int) : Option St := b1 (fX0_contains σ o1 x3) (fun v5 => if v5 = 0 then (ck (x2 + 1) (fun v6 => lp2 σ v6)) else (b1 (fX3_isNumber x5) (fun v7 => if v7 = 0 then (ck (x2 + 1) (fun v8 => lp2 σ v8)) else (if x4 ≠ 11 then (wrb σ (p0 + 9) 160 x5 0 (fun σ9 => ck (x2 + 1) (fun v10 => lp2 σ9 v10))) else (wrb σ (p0 + 9) 160 x5 1 (fun σ11 => ck (x2 + 1) (fun v12 => lp2 σ11 v12)))))))
noncomputable def fX3_findUndone_L2s (n : Nat) (p0 : Nat) (o1 : Nat) (lp2 : (St → Int → Option St)) : St → Int → Option St := fun σ x2 => if σ 8 8 ≤ x2 then (some σ) else (b1 (fX1_inOrder σ x2) (fun v1 => b1 (fX1_kindOf σ v1) (fun v2 => b1 (fX1_firstOf σ v1) (fun v3 => if v2 = 11 then (fX3_findUndone_J56 n lp2 σ p0 o1 x2 v1 v2 v3) else (if v2 ≠ 12 then (ck (x2 + 1) (fun v4 => lp2 σ v4)) else (fX3_findUndone_J56 n lp2 σ p0 o1 x2 v1 v2 v3))))))
noncomputable def fX3_findUndone_L2 (n : Nat) (p0 : Nat) (o1 : Nat) (k : Nat) : St → Int → Option St := lpR (fun _ _ => none) (fX3_findUndone_L2s n p0 o1) k
noncomputable def fX3_findUndone (n : Nat) (σ : St) (p0 : Nat) (o1 : Nat) : Option St := fX3_findUndone_L2 n p0 o1 n σ 0
noncomputable def fX3_wasUndone (σ : St) (p0 : Nat) (x1 : Int) : Option Int := b1 (fX3_isNumber x1) (fun v1 => if v1 = 0 then (some 0) else (rd σ (p0 + 9) 160 x1 (fun v2 => if v2 = 0 then (some 0) else (some 1))))
noncomputable def fX3_inRow (σ : St) (p0 : Nat) (x1 : Int) : Option Int := if x1 < 0 then (some (-1)) else (if σ p0 2 ≤ x1 then (some (-1)) else (if 160 ≤ x1 then (some (-1)) else (rd σ (p0 + 2) 160 x1 (fun v1 => some v1))))
noncomputable def fX3_placeOf_L2s (n : Nat) (σ : St) (p0 : Nat) (x1 : Int) (lp2 : (Int → Option Int)) : Int → Option Int := fun x2 => if σ p0 2 ≤ x2 then (some (-1)) else (b1 (fX3_inRow σ p0 x2) (fun v1 => if v1 ≠ x1 then (ck (x2 + 1) (fun v2 => lp2 v2)) else (some x2)))
noncomputable def fX3_placeOf_L2 (n : Nat) (σ : St) (p0 : Nat) (x1 : Int) (k : Nat) : Int → Option Int := lpR (fun _ => none) (fX3_placeOf_L2s n σ p0 x1) k
noncomputable def fX3_placeOf (n : Nat) (σ : St) (p0 : Nat) (x1 : Int) : Option Int := fX3_placeOf_L2 n σ p0 x1 n 0
noncomputable def fX3_isShownBreak (σ : St) (p0 : Nat) (x1 : Int) : Option Int := if x1 < 0 then (some 0) else (if 160 ≤ x1 then (some 0) else (rd σ (p0 + 5) 160 x1 (fun v1 => if v1 = 0 then (some 0) else (rd σ (p0 + 4) 160 x1 (fun v2 => if v2 ≠ 1 then (some 0) else (rd σ (p0 + 6) 160 x1 (fun v3 => if v3 ≠ 0 then (some 0) else (some 1))))))))
noncomputable def fX3_blockOf_J30 (n : Nat) (lp4 : (Int → Int → Option Int)) (σ : St) (p0 : Nat) (x1 : Int) (x2 : Int) (x3 : Int) : Option Int := b1 (fX3_inRow σ p0 x3) (fun v4 => if v4 ≠ x1 then (ck (x3 + 1) (fun v5 => lp4 x2 v5)) else (some x2))
noncomputable def fX3_blockOf_L4s (n : Nat) (σ : St) (p0 : Nat) (x1 : Int) (lp4 : (Int → Int → Option Int)) : Int → Int → Option Int := fun x2 x3 => if σ p0 2 ≤ x3 then (some (-1)) else (b1 (fX3_inRow σ p0 x3) (fun v1 => b1 (fX3_isShownBreak σ p0 v1) (fun v2 => if v2 = 0 then (fX3_blockOf_J30 n lp4 σ p0 x1 x2 x3) else (b1 (fX3_inRow σ p0 x3) (fun v3 => fX3_blockOf_J30 n lp4 σ p0 x1 v3 x3)))))
noncomputable def fX3_blockOf_L4 (n : Nat) (σ : St) (p0 : Nat) (x1 : Int) (k : Nat) : Int → Int → Option Int := lpR (fun _ _ => none) (fX3_blockOf_L4s n σ p0 x1) k
noncomputable def fX3_blockOf (n : Nat) (σ : St) (p0 : Nat) (x1 : Int) : Option Int := fX3_blockOf_L4 n σ p0 x1 n (-1) 0
noncomputable def fX3_isBlock (x0 : Int) : Option Int := if x0 < (-1) then (some 0) else (if 160 ≤ x0 then (some 0) else (some 1))
noncomputable def fX3_levelIn (σ : St) (p0 : Nat) (x1 : Int) (x2 : Int) : Option Int := if x1 ≤ 0 then (some 0) else (if 4 ≤ x1 then (some 0) else (b1 (fX3_isBlock x2) (fun v1 => if v1 = 0 then (some 0) else (ra x1 4 (fun j => p0 + 13 + j) (fun o2 => ck (x2 + 1) (fun v3 => rd σ o2 161 v3 (fun v4 => some v4)))))))
noncomputable def fX3_bitsOf (σ : St) (p0 : Nat) (x1 : Int) : Option Int := b1 (fX3_isNumber x1) (fun v1 => if v1 = 0 then (some 0) else (rd σ (p0 + 7) 160 x1 (fun v2 => some v2)))
noncomputable def fX3_putElement_J150 (n : Nat) (σ : St) (p0 : Nat) (x1 : Int) (x3 : Int) : Option St := ck (x3 - 1) (fun v15 => b1 (fX3_inRow σ p0 v15) (fun v16 => b1 (fX3_bitsOf σ p0 v16) (fun v17 => b1 (fX3_inRow σ p0 x3) (fun v18 => b1 (fX3_bitsOf σ p0 v18) (fun v19 => vl (bor v19 1) (fun v20 => vl (band v17 v20) (fun v21 => wr σ (p0 + 7) 160 x1 v21 (fun σ22 => ck (x3 + 1) (fun v23 => ck ((σ22 p0 2) - x3) (fun v24 => cp σ22 (p0 + 2) 160 x3 v23 v24 (fun σ25 => wr σ25 (p0 + 2) 160 x3 x1 (fun σ26 => ck ((σ26 p0 2) + 1) (fun v27 => pf σ26 p0 2 v27 (fun σ28 => some σ28))))))))))))))
noncomputable def fX3_putElement_J106 (n : Nat) (σ : St) (p0 : Nat) (x1 : Int) (x3 : Int) : Option St := wr σ (p0 + 4) 160 x1 3 (fun σ13 => fX3_putElement_J150 n σ13 p0 x1 x3)
noncomputable def fX3_putElement_J133 (n : Nat) (σ : St) (p0 : Nat) (x1 : Int) (x3 : Int) : Option St := wr σ (p0 + 4) 160 x1 2 (fun σ14 => fX3_putElement_J150 n σ14 p0 x1 x3)
noncomputable def fX3_putElement_J90 (n : Nat) (σ : St) (p0 : Nat) (x1 : Int) (x3 : Int) (x4 : Int) (t0 : Int) (t1 : Int) : Option St := wrb σ (p0 + 5) 160 t1 t0 (fun σ9 => rd σ9 (p0 + 9) 160 x1 (fun v10 => if v10 ≠ 0 then (fX3_putElement_J106 n σ9 p0 x1 x3) else (if x4 ≠ 2 then (if x4 = 1 then (fX3_putElement_J133 n σ9 p0 x1 x3) else (b1 (fX1_flagOf σ9 x1) (fun v11 => if v11 = 0 then (wr σ9 (p0 + 4) 160 x1 1 (fun σ12 => fX3_putElement_J150 n σ12 p0 x1 x3)) else (fX3_putElement_J133 n σ9 p0 x1 x3)))) else (fX3_putElement_J106 n σ9 p0 x1 x3))))
noncomputable def fX3_putElement (n : Nat) (σ : St) (p0 : Nat) (x1 : Int) : Option St := b1 (fX1_firstOf σ x1) (fun v1 => b1 (fX3_placeOf n σ p0 v1) (fun v2 => ck (v2 + 1) (fun v3 => b1 (fX3_isNumber x1) (fun v4 => if v4 = 0 then (some σ) else (if 160 ≤ σ p0 2 then (some σ) else (if v3 < 0 then (some σ) else (if v3 ≤ σ p0 2 then (b1 (fX1_siteOf σ x1) (fun v5 => b1 (fX3_blockOf n σ p0 v1) (fun v6 => b1 (fX3_levelIn σ p0 v5 v6) (fun v7 => b1 (fX1_kindOf σ x1) (fun v8 => if v8 ≠ 1 then (fX3_putElement_J90 n σ p0 x1 v3 v7 0 x1) else (fX3_putElement_J90 n σ p0 x1 v3 v7 1 x1)))))) else (some σ))))))))
noncomputable def fX3_removeElement_J101 (n : Nat) (σ : St) (p0 : Nat) (x1 : Int) (x2 : Int) : Option St := wrb σ (p0 + 6) 160 x2 1 (fun σ10 => some σ10)
noncomputable def fX3_removeElement_J111 (n : Nat) (σ : St) (p0 : Nat) (x1 : Int) : Option St := wrb σ (p0 + 8) 160 x1 1 (fun σ11 => some σ11)
noncomputable def fX3_removeElement_J78 (n : Nat) (σ : St) (p0 : Nat) (x1 : Int) (x2 : Int) (x4 : Int) (t0 : Int) : Option St := if t0 ≠ 0 then (fX3_removeElement_J101 n σ p0 x1 x2) else (if x4 ≠ 0 then (fX3_removeElement_J111 n σ p0 x1) else (b1 (fX1_flagOf σ x1) (fun v9 => if v9 ≠ 0 then (fX3_removeElement_J111 n σ p0 x1) else (fX3_removeElement_J101 n σ p0 x1 x2))))
noncomputable def fX3_removeElement_J77 (n : Nat) (σ : St) (p0 : Nat) (x1 : Int) (x2 : Int) (x4 : Int) : Option St := fX3_removeElement_J78 n σ p0 x1 x2 x4 0
noncomputable def fX3_removeElement (n : Nat) (σ : St) (p0 : Nat) (x1 : Int) : Option St := b1 (fX1_firstOf σ x1) (fun v1 => b1 (fX1_siteOf σ x1) (fun v2 => b1 (fX3_blockOf n σ p0 v1) (fun v3 => b1 (fX3_levelIn σ p0 v2 v3) (fun v4 => b1 (fX3_isNumber v1) (fun v5 => if v5 = 0 then (some σ) else (b1 (fX3_isNumber x1) (fun v6 => if v6 = 0 then (some σ) else (if v4 ≠ 2 then (rd σ (p0 + 4) 160 v1 (fun v7 => if v7 ≠ 2 then (fX3_removeElement_J77 n σ p0 x1 v1 v4) else (b1 (fX1_siteOf σ v1) (fun v8 => if v8 ≠ v2 then (fX3_removeElement_J77 n σ p0 x1 v1 v4) else (fX3_removeElement_J78 n σ p0 x1 v1 v4 1))))) else (some σ)))))))))
noncomputable def fX3_restoreElement (n : Nat) (σ : St) (p0 : Nat) (x1 : Int) : Option St := b1 (fX1_firstOf σ x1) (fun v1 => b1 (fX3_isNumber v1) (fun v2 => if v2 = 0 then (some σ) else (b1 (fX1_siteOf σ x1) (fun v3 => b1 (fX3_blockOf n σ p0 v1) (fun v4 => b1 (fX3_levelIn σ p0 v3 v4) (fun v5 => if v5 ≠ 0 then (some σ) else (wrb σ (p0 + 6) 160 v1 0 (fun σ6 => some σ6))))))))
noncomputable def fX3_paint_J160 (n : Nat) (lp58 : (St → Int → Int → Int → Option St)) (σ : St) (p0 : Nat) (x1 : Int) (x2 : Int) (x3 : Int) (x4 : Int) (x5 : Int) (x6 : Int) (x7 : Int) (x8 : Int) (x9 : Int) (x10 : Int) (x11 : Int) (t0 : Int) (t1 : Int) : Option St := wr σ (p0 + 7) 160 t1 t0 (fun σ17 => if x11 ≠ x5 then (ck (x10 + 1) (fun v18 => lp58 σ17 x8 x9 v18)) else (some σ17))
noncomputable def fX3_paint_J127 (n : Nat) (lp58 : (St → Int → Int → Int → Option St)) (σ : St) (p0 : Nat) (x1 : Int) (x2 : Int) (x3 : Int) (x4 : Int) (x5 : Int) (x6 : Int) (x7 : Int) (x8 : Int) (x9 : Int) (x10 : Int) (x11 : Int) : Option St := if x3 = 0 then (rd σ (p0 + 7) 160 x11 (fun v12 => vl (bxor x2 (-1)) (fun v13 => vl (band v12 v13) (fun v14 => fX3_paint_J160 n lp58 σ p0 x1 x2 x3 x4 x5 x6 x7 x8 x9 x10 x11 v14 x11)))) else (rd σ (p0 + 7) 160 x11 (fun v15 => vl (bor v15 x2) (fun v16 => fX3_paint_J160 n lp58 σ p0 x1 x2 x3 x4 x5 x6 x7 x8 x9 x10 x11 v16 x11)))
noncomputable def fX3_paint_J98 (n : Nat) (lp58 : (St → Int → Int → Int → Option St)) (σ : St) (p0 : Nat) (x1 : Int) (x2 : Int) (x3 : Int) (x4 : Int) (x5 : Int) (x6 : Int) (x7 : Int) (x8 : Int) (x9 : Int) (x10 : Int) (x11 : Int) : Option St := if x8 = 0 then (if x11 ≠ x5 then (ck (x10 + 1) (fun v7 => lp58 σ x8 x9 v7)) else (some σ)) else (b1 (fX3_isNumber x11) (fun v8 => if v8 = 0 then (if x11 ≠ x5 then (ck (x10 + 1) (fun v9 => lp58 σ x8 x9 v9)) else (some σ)) else (if x7 = 0 then (fX3_paint_J127 n lp58 σ p0 x1 x2 x3 x4 x5 x6 x7 x8 x9 x10 x11) else (b1 (fX3_levelIn σ p0 x6 x9) (fun v10 => if v10 ≠ 0 then (if x11 ≠ x5 then (ck (x10 + 1) (fun v11 => lp58 σ x8 x9 v11)) else (some σ)) else (fX3_paint_J127 n lp58 σ p0 x1 x2 x3 x4 x5 x6 x7 x8 x9 x10 x11))))))
noncomputable def fX3_paint_J88 (n : Nat) (lp58 : (St → Int → Int → Int → Option St)) (σ : St) (p0 : Nat) (x1 : Int) (x2 : Int) (x3 : Int) (x4 : Int) (x5 : Int) (x6 : Int) (x7 : Int) (x8 : Int) (x9 : Int) (x10 : Int) (x11 : Int) : Option St := if x11 ≠ x4 then (fX3_paint_J98 n lp58 σ p0 x1 x2 x3 x4 x5 x6 x7 x8 x9 x10 x11) else (fX3_paint_J98 n lp58 σ p0 x1 x2 x3 x4 x5 x6 x7 1 x9 x10 x11)
noncomputable def fX3_paint_L58s (n : Nat) (p0 : Nat) (x1 : Int) (x2 : Int) (x3 : Int) (x4 : Int) (x5 : Int) (x6 : Int) (x7 : Int) (lp58 : (St → Int → Int → Int → Option St)) : St → Int → Int → Int → Option St := fun σ x8 x9 x10 => if σ p0 2 ≤ x10 then (some σ) else (b1 (fX3_inRow σ p0 x10) (fun v5 => b1 (fX3_isShownBreak σ p0 v5) (fun v6 => if v6 = 0 then (fX3_paint_J88 n lp58 σ p0 x1 x2 x3 x4 x5 x6 x7 x8 x9 x10 v5) else (fX3_paint_J88 n lp58 σ p0 x1 x2 x3 x4 x5 x6 x7 x8 v5 x10 v5))))
noncomputable def fX3_paint_L58 (n : Nat) (p0 : Nat) (x1 : Int) (x2 : Int) (x3 : Int) (x4 : Int) (x5 : Int) (x6 : Int) (x7 : Int) (k : Nat) : St → Int → Int → Int → Option St := lpR (fun _ _ _ _ => none) (fX3_paint_L58s n p0 x1 x2 x3 x4 x5 x6 x7) k
noncomputable def fX3_paint_J47 (n : Nat) (σ : St) (p0 : Nat) (x1 : Int) (x2 : Int) (x3 : Int) (x4 : Int) (x5 : Int) (x6 : Int) (t0 : Int) : Option St := fX3_paint_L58 n p0 x1 x2 x3 x4 x5 x6 t0 n σ 0 (-1) 0
noncomputable def fX3_paint (n : Nat) (σ : St) (p0 : Nat) (x1 : Int) (x2 : Int) (x3 : Int) : Option St := b1 (fX1_firstOf σ x1) (fun v1 => b1 (fX1_secondOf σ x1) (fun v2 => b1 (fX1_siteOf σ x1) (fun v3 => b1 (fX1_kindOf σ x1) (fun v4 => if v4 ≠ 4 then (fX3_paint_J47 n σ p0 x1 x2 x3 v1 v2 v3 0) else (fX3_paint_J47 n σ p0 x1 x2 x3 v1 v2 v3 1)))))
noncomputable def fX3_giveKind (σ : St) (p0 : Nat) (x1 : Int) : Option St := b1 (fX1_firstOf σ x1) (fun v1 => b1 (fX3_isBlock v1) (fun v2 => if v2 = 0 then (some σ) else (b1 (fX1_siteOf σ x1) (fun v3 => b1 (fX3_levelIn σ p0 v3 v1) (fun v4 => if v4 ≠ 0 then (some σ) else (ck (v1 + 1) (fun v5 => b1 (fX1_valueOf σ x1) (fun v6 => wr σ (p0 + 10) 161 v5 v6 (fun σ7 => some σ7)))))))))
noncomputable def fX3_comesTo_L5s (n : Nat) (σ : St) (p0 : Nat) (x1 : Int) (x2 : Int) (lp5 : (Int → Int → Option Int)) : Int → Int → Option Int := fun x3 x4 => if 161 ≤ x4 then (some 0) else (b1 (fX3_isBlock x3) (fun v1 => if v1 = 0 then (some 0) else (if x3 ≠ x2 then (ck (x3 + 1) (fun v2 => rd σ (p0 + 11) 161 v2 (fun v3 => ck (x4 + 1) (fun v4 => lp5 v3 v4)))) else (some 1))))
noncomputable def fX3_comesTo_L5 (n : Nat) (σ : St) (p0 : Nat) (x1 : Int) (x2 : Int) (k : Nat) : Int → Int → Option Int := lpR (fun _ _ => none) (fX3_comesTo_L5s n σ p0 x1 x2) k
noncomputable def fX3_comesTo (n : Nat) (σ : St) (p0 : Nat) (x1 : Int) (x2 : Int) : Option Int := fX3_comesTo_L5 n σ p0 x1 x2 n x1 0
noncomputable def fX3_putUnder (n : Nat) (σ : St) (p0 : Nat) (x1 : Int) : Option St := b1 (fX1_firstOf σ x1) (fun v1 => b1 (fX1_secondOf σ x1) (fun v2 => b1 (fX3_isBlock v1) (fun v3 => if v3 = 0 then (some σ) else (b1 (fX1_siteOf σ x1) (fun v4 => b1 (fX3_levelIn σ p0 v4 v1) (fun v5 => if v5 ≠ 0 then (some σ) else (b1 (fX3_comesTo n σ p0 v2 v1) (fun v6 => if v6 ≠ 0 then (some σ) else (ck (v1 + 1) (fun v7 => wr σ (p0 + 11) 161 v7 v2 (fun σ8 => some σ8)))))))))))
noncomputable def fX5_commentBit (x0 : Int) : Option Int := ck (2 + x0) (fun v1 => vl (bshl 1 v1) (fun v2 => some v2))
noncomputable def fX3_elementOf (σ : St) (p0 : Nat) (x1 : Int) : Option Int := b1 (fX1_makesElement σ x1) (fun v1 => if v1 = 0 then (b1 (fX1_firstOf σ x1) (fun v2 => some v2)) else (some x1))
noncomputable def fX3_isSeen (σ : St) (p0 : Nat) (x1 : Int) : Option Int := if x1 < 0 then (some 0) else (if 160 ≤ x1 then (some 0) else (rd σ (p0 + 6) 160 x1 (fun v1 => if v1 = 0 then (rd σ (p0 + 4) 160 x1 (fun v2 => if v2 = 1 then (some 1) else (rd σ (p0 + 4) 160 x1 (fun v3 => if v3 ≠ 2 then (some 0) else (some 1))))) else (some 0))))
noncomputable def fX3_isOpen_J37 (σ : St) (p0 : Nat) (x1 : Int) (t0 : Int) : Option Int := if t0 ≠ 0 then (some 1) else (rd σ (p0 + 8) 160 x1 (fun v3 => if v3 = 0 then (some 0) else (b1 (fX1_firstOf σ x1) (fun v4 => b1 (fX3_isSeen σ p0 v4) (fun v5 => if v5 = 0 then (some 0) else (some 1))))))
noncomputable def fX3_isOpen_J36 (σ : St) (p0 : Nat) (x1 : Int) : Option Int := fX3_isOpen_J37 σ p0 x1 0
noncomputable def fX3_isOpen (σ : St) (p0 : Nat) (x1 : Int) : Option Int := if x1 < 0 then (some 0) else (if x1 < 160 then (rd σ (p0 + 4) 160 x1 (fun v1 => if v1 ≠ 2 then (fX3_isOpen_J36 σ p0 x1) else (rd σ (p0 + 6) 160 x1 (fun v2 => if v2 ≠ 0 then (fX3_isOpen_J36 σ p0 x1) else (fX3_isOpen_J37 σ p0 x1 1))))) else (some 0))
noncomputable def fX3_settle_J33 (n : Nat) (σ : St) (p0 : Nat) (x1 : Int) (x2 : Int) (x3 : Int) (t0 : Int) : Option St := b1 (fX3_isNumber x3) (fun v4 => if v4 = 0 then (some σ) else (b1 (fX3_isOpen σ p0 x2) (fun v5 => if v5 = 0 then (some σ) else (b1 (fX1_siteOf σ x1) (fun v6 => b1 (fX3_blockOf n σ p0 x3) (fun v7 => b1 (fX3_levelIn σ p0 v6 v7) (fun v8 => if v8 = 0 then (if x3 ≠ x2 then (wrb σ (p0 + 8) 160 x2 0 (fun σ9 => wrb σ9 (p0 + 6) 160 x3 t0 (fun σ10 => some σ10))) else (if t0 = 0 then (wr σ (p0 + 4) 160 x3 3 (fun σ11 => some σ11)) else (wr σ (p0 + 4) 160 x3 1 (fun σ12 => some σ12)))) else (some σ))))))))
noncomputable def fX3_settle (n : Nat) (σ : St) (p0 : Nat) (x1 : Int) : Option St := b1 (fX1_firstOf σ x1) (fun v1 => b1 (fX3_elementOf σ p0 v1) (fun v2 => b1 (fX1_kindOf σ x1) (fun v3 => if v3 ≠ 8 then (fX3_settle_J33 n σ p0 x1 v1 v2 0) else (fX3_settle_J33 n σ p0 x1 v1 v2 1))))
noncomputable def fX3_giveLevel (σ : St) (p0 : Nat) (x1 : Int) : Option St := b1 (fX1_firstOf σ x1) (fun v1 => b1 (fX1_secondOf σ x1) (fun v2 => b1 (fX3_isBlock v1) (fun v3 => if v3 = 0 then (some σ) else (if v2 ≤ 0 then (some σ) else (if 4 ≤ v2 then (some σ) else (ra v2 4 (fun j => p0 + 13 + j) (fun o4 => ck (v1 + 1) (fun v5 => b1 (fX1_valueOf σ x1) (fun v6 => wr σ o4 161 v5 v6 (fun σ7 => some σ7))))))))))
noncomputable def fX3_perform_J27 (n : Nat) (σ : St) (p0 : Nat) (x1 : Int) (x2 : Int) : Option St := if x2 = 0 then (b1 (fX3_putElement n σ p0 x1) (fun σ3 => some σ3)) else (if x2 = 1 then (b1 (fX3_putElement n σ p0 x1) (fun σ4 => some σ4)) else (if x2 = 2 then (b1 (fX3_removeElement n σ p0 x1) (fun σ5 => some σ5)) else (if x2 = 3 then (b1 (fX3_restoreElement n σ p0 x1) (fun σ6 => some σ6)) else (if x2 = 4 then (b1 (fX1_valueOf σ x1) (fun v7 => vl (bshl 1 v7) (fun v8 => b1 (fX1_flagOf σ x1) (fun v9 => b1 (fX3_paint n σ p0 x1 v8 v9) (fun σ10 => some σ10))))) else (if x2 = 5 then (b1 (fX3_giveKind σ p0 x1) (fun σ11 => some σ11)) else (if x2 = 6 then (b1 (fX3_putUnder n σ p0 x1) (fun σ12 => some σ12)) else (if x2 = 7 then (b1 (fX1_valueOf σ x1) (fun v13 => b1 (fX5_commentBit v13) (fun v14 => b1 (fX3_paint n σ p0 x1 v14 1) (fun σ15 => some σ15)))) else (if x2 = 8 then (b1 (fX3_settle n σ p0 x1) (fun σ16 => some σ16)) else (if x2 = 9 then (b1 (fX3_settle n σ p0 x1) (fun σ17 => some σ17)) else (if x2 = 10 then (b1 (fX3_giveLevel σ p0 x1) (fun σ18 => some σ18)) else (some σ)))))))))))
noncomputable def fX3_perform (n : Nat) (σ : St) (p0 : Nat) (x1 : Int) : Option St := b1 (fX1_kindOf σ x1) (fun v1 => b1 (fX3_wasUndone σ p0 x1) (fun v2 => if v2 = 0 then (fX3_perform_J27 n σ p0 x1 v1) else (if v1 = 0 then (fX3_perform_J27 n σ p0 x1 v1) else (if v1 = 1 then (fX3_perform_J27 n σ p0 x1 v1) else (some σ)))))
noncomputable def fX3_doAll_L11s (n : Nat) (p0 : Nat) (o1 : Nat) (lp11 : (St → Int → Option St)) : St → Int → Option St := fun σ x2 => if σ 8 8 ≤ x2 then (some σ) else (b1 (fX1_inOrder σ x2) (fun v3 => b1 (fX0_contains σ o1 v3) (fun v4 => if v4 = 0 then (ck (x2 + 1) (fun v5 => lp11 σ v5)) else (b1 (fX3_perform n σ p0 v3) (fun σ6 => ck (x2 + 1) (fun v7 => lp11 σ6 v7))))))
noncomputable def fX3_doAll_L11 (n : Nat) (p0 : Nat) (o1 : Nat) (k : Nat) : St → Int → Option St := lpR (fun _ _ => none) (fX3_doAll_L11s n p0 o1) k
noncomputable def fX3_doAll (n : Nat) (σ : St) (p0 : Nat) (o1 : Nat) : Option St := b1 (fX3_clear n σ p0) (fun σ1 => b1 (fX3_findUndone n σ1 p0 o1) (fun σ2 => fX3_doAll_L11 n p0 o1 n σ2 0))
noncomputable def fX3_mayDecide (n : Nat) (σ : St) (p0 : Nat) (x1 : Int) (x2 : Int) : Option Int := b1 (fX3_isOpen σ p0 x2) (fun v1 => if v1 = 0 then (some 0) else (b1 (fX3_elementOf σ p0 x2) (fun v2 => b1 (fX3_blockOf n σ p0 v2) (fun v3 => b1 (fX3_levelIn σ p0 x1 v3) (fun v4 => if v4 ≠ 0 then (some 0) else (some 1))))))
noncomputable def fX3_countOpen_L4s (n : Nat) (σ : St) (p0 : Nat) (lp4 : (Int → Int → Option Int)) : Int → Int → Option Int := fun x1 x2 => if σ 8 8 ≤ x2 then (some x1) else (b1 (fX3_isOpen σ p0 x2) (fun v1 => if v1 = 0 then (ck (x2 + 1) (fun v2 => lp4 x1 v2)) else (ck (x1 + 1) (fun v3 => ck (x2 + 1) (fun v4 => lp4 v3 v4)))))
noncomputable def fX3_countOpen_L4 (n : Nat) (σ : St) (p0 : Nat) (k : Nat) : Int → Int → Option Int := lpR (fun _ _ => none) (fX3_countOpen_L4s n σ p0) k
noncomputable def fX3_countOpen (n : Nat) (σ : St) (p0 : Nat) : Option Int := fX3_countOpen_L4 n σ p0 n 0 0
noncomputable def fX3_proposalsFor_J88 (n : Nat) (σ : St) (p0 : Nat) (x1 : Int) (x3 : Int) (t0 : Int) : Option Int := if x3 = 0 then (ck (t0 + 0) (fun v8 => some v8)) else (ck (t0 + 2) (fun v9 => some v9))
noncomputable def fX3_proposalsFor_J79 (n : Nat) (σ : St) (p0 : Nat) (x1 : Int) (x2 : Int) (x3 : Int) : Option Int := if x2 = 0 then (fX3_proposalsFor_J88 n σ p0 x1 x3 0) else (fX3_proposalsFor_J88 n σ p0 x1 x3 1)
noncomputable def fX3_proposalsFor_L28s (n : Nat) (σ : St) (p0 : Nat) (x1 : Int) (x2 : Int) (lp28 : (Int → Int → Option Int)) : Int → Int → Option Int := fun x3 x4 => if σ 8 8 ≤ x4 then (fX3_proposalsFor_J79 n σ p0 x1 x2 x3) else (if 160 ≤ x4 then (fX3_proposalsFor_J79 n σ p0 x1 x2 x3) else (rd σ (p0 + 8) 160 x4 (fun v3 => if v3 = 0 then (ck (x4 + 1) (fun v4 => lp28 x3 v4)) else (b1 (fX1_firstOf σ x4) (fun v5 => if v5 ≠ x1 then (ck (x4 + 1) (fun v6 => lp28 x3 v6)) else (ck (x4 + 1) (fun v7 => lp28 1 v7)))))))
noncomputable def fX3_proposalsFor_L28 (n : Nat) (σ : St) (p0 : Nat) (x1 : Int) (x2 : Int) (k : Nat) : Int → Int → Option Int := lpR (fun _ _ => none) (fX3_proposalsFor_L28s n σ p0 x1 x2) k
noncomputable def fX3_proposalsFor (n : Nat) (σ : St) (p0 : Nat) (x1 : Int) : Option Int := b1 (fX3_isNumber x1) (fun v1 => if v1 = 0 then (fX3_proposalsFor_L28 n σ p0 x1 0 n 0 0) else (rd σ (p0 + 4) 160 x1 (fun v2 => if v2 ≠ 2 then (fX3_proposalsFor_L28 n σ p0 x1 0 n 0 0) else (fX3_proposalsFor_L28 n σ p0 x1 1 n 0 0))))
noncomputable def fX3_isShown (σ : St) (p0 : Nat) (x1 : Int) : Option Int := if x1 < 0 then (some 0) else (if 160 ≤ x1 then (some 0) else (rd σ (p0 + 4) 160 x1 (fun v1 => if v1 ≠ 1 then (some 0) else (rd σ (p0 + 6) 160 x1 (fun v2 => if v2 ≠ 0 then (some 0) else (some 1))))))
noncomputable def fX3_isGrave (σ : St) (p0 : Nat) (x1 : Int) : Option Int := b1 (fX3_isNumber x1) (fun v1 => if v1 = 0 then (some 0) else (rd σ (p0 + 4) 160 x1 (fun v2 => if v2 = 0 then (some 0) else (b1 (fX3_isSeen σ p0 x1) (fun v3 => if v3 ≠ 0 then (some 0) else (some 1))))))
noncomputable def fX3_hasBit (σ : St) (p0 : Nat) (x1 : Int) (x2 : Int) : Option Int := b1 (fX3_bitsOf σ p0 x1) (fun v1 => vl (band v1 x2) (fun v2 => if v2 = 0 then (some 0) else (some 1)))
noncomputable def fX3_seenAt_L4s (n : Nat) (σ : St) (p0 : Nat) (x1 : Int) (lp4 : (Int → Int → Option Int)) : Int → Int → Option Int := fun x2 x3 => if σ p0 2 ≤ x3 then (some (-1)) else (b1 (fX3_inRow σ p0 x3) (fun v1 => b1 (fX3_isSeen σ p0 v1) (fun v2 => if v2 = 0 then (ck (x3 + 1) (fun v3 => lp4 x2 v3)) else (if x2 ≠ x1 then (ck (x2 + 1) (fun v4 => ck (x3 + 1) (fun v5 => lp4 v4 v5))) else (b1 (fX3_inRow σ p0 x3) (fun v6 => some v6))))))
noncomputable def fX3_seenAt_L4 (n : Nat) (σ : St) (p0 : Nat) (x1 : Int) (k : Nat) : Int → Int → Option Int := lpR (fun _ _ => none) (fX3_seenAt_L4s n σ p0 x1) k
noncomputable def fX3_seenAt (n : Nat) (σ : St) (p0 : Nat) (x1 : Int) : Option Int := fX3_seenAt_L4 n σ p0 x1 n 0 0
noncomputable def fX3_seenThrough_J27 (n : Nat) (lp4 : (Int → Int → Option Int)) (σ : St) (p0 : Nat) (x1 : Int) (x2 : Int) (x3 : Int) : Option Int := b1 (fX3_inRow σ p0 x3) (fun v4 => if v4 ≠ x1 then (ck (x3 + 1) (fun v5 => lp4 x2 v5)) else (some x2))
noncomputable def fX3_seenThrough_L4s (n : Nat) (σ : St) (p0 : Nat) (x1 : Int) (lp4 : (Int → Int → Option Int)) : Int → Int → Option Int := fun x2 x3 => if σ p0 2 ≤ x3 then (some 0) else (b1 (fX3_inRow σ p0 x3) (fun v1 => b1 (fX3_isSeen σ p0 v1) (fun v2 => if v2 = 0 then (fX3_seenThrough_J27 n lp4 σ p0 x1 x2 x3) else (ck (x2 + 1) (fun v3 => fX3_seenThrough_J27 n lp4 σ p0 x1 v3 x3)))))
noncomputable def fX3_seenThrough_L4 (n : Nat) (σ : St) (p0 : Nat) (x1 : Int) (k : Nat) : Int → Int → Option Int := lpR (fun _ _ => none) (fX3_seenThrough_L4s n σ p0 x1) k
noncomputable def fX3_seenThrough (n : Nat) (σ : St) (p0 : Nat) (x1 : Int) : Option Int := fX3_seenThrough_L4 n σ p0 x1 n 0 0
noncomputable def fX3_pickSeen_L9s (n : Nat) (p0 : Nat) (o3 : Nat) (x1 : Int) (x2 : Int) (lp9 : (St → Int → Int → Int → Option (Int × St))) : St → Int → Int → Int → Option (Int × St) := fun σ x4 x5 x6 => if σ p0 2 ≤ x6 then (some (x4, σ)) else (b1 (fX3_inRow σ p0 x6) (fun v1 => b1 (fX3_isSeen σ p0 v1) (fun v2 => if v2 = 0 then (ck (x6 + 1) (fun v3 => lp9 σ x4 x5 v3)) else (if x5 < x1 then (ck (x5 + 1) (fun v4 => ck (x6 + 1) (fun v5 => lp9 σ x4 v4 v5))) else (if x2 ≤ x5 then (ck (x5 + 1) (fun v6 => ck (x6 + 1) (fun v7 => lp9 σ x4 v6 v7))) else (if ((ln o3 : Nat) : Int) ≤ x4 then (ck (x5 + 1) (fun v8 => ck (x6 + 1) (fun v9 => lp9 σ x4 v8 v9))) else (b1 (fX3_inRow σ p0 x6) (fun v10 => wr σ o3 (ln o3) x4 v10 (fun σ11 => ck (x4 + 1) (fun v12 => ck (x5 + 1) (fun v13 => ck (x6 + 1) (fun v14 => lp9 σ11 v12 v13 v14))))))))))))
noncomputable def fX3_pickSeen_L9 (n : Nat) (p0 : Nat) (o3 : Nat) (x1 : Int) (x2 : Int) (k : Nat) : St → Int → Int → Int → Option (Int × St) := lpR (fun _ _ _ _ => none) (fX3_pickSeen_L9s n p0 o3 x1 x2) k
noncomputable def fX3_pickSeen (n : Nat) (σ : St) (p0 : Nat) (x1 : Int) (x2 : Int) (o3 : Nat) : Option (Int × St) := fX3_pickSeen_L9 n p0 o3 x1 x2 n σ 0 0 0
noncomputable def fX3_countSeen_L4s (n : Nat) (σ : St) (p0 : Nat) (lp4 : (Int → Int → Option Int)) : Int → Int → Option Int := fun x1 x2 => if σ p0 2 ≤ x2 then (some x1) else (b1 (fX3_inRow σ p0 x2) (fun v1 => b1 (fX3_isSeen σ p0 v1) (fun v2 => if v2 = 0 then (ck (x2 + 1) (fun v3 => lp4 x1 v3)) else (ck (x1 + 1) (fun v4 => ck (x2 + 1) (fun v5 => lp4 v4 v5))))))
noncomputable def fX3_countSeen_L4 (n : Nat) (σ : St) (p0 : Nat) (k : Nat) : Int → Int → Option Int := lpR (fun _ _ => none) (fX3_countSeen_L4s n σ p0) k
noncomputable def fX3_countSeen (n : Nat) (σ : St) (p0 : Nat) : Option Int := fX3_countSeen_L4 n σ p0 n 0 0
noncomputable def fX3_countShown_L4s (n : Nat) (σ : St) (p0 : Nat) (lp4 : (Int → Int → Option Int)) : Int → Int → Option Int := fun x1 x2 => if σ p0 2 ≤ x2 then (some x1) else (b1 (fX3_inRow σ p0 x2) (fun v1 => b1 (fX3_isShown σ p0 v1) (fun v2 => if v2 = 0 then (ck (x2 + 1) (fun v3 => lp4 x1 v3)) else (ck (x1 + 1) (fun v4 => ck (x2 + 1) (fun v5 => lp4 v4 v5))))))
noncomputable def fX3_countShown_L4 (n : Nat) (σ : St) (p0 : Nat) (k : Nat) : Int → Int → Option Int := lpR (fun _ _ => none) (fX3_countShown_L4s n σ p0) k
noncomputable def fX3_countShown (n : Nat) (σ : St) (p0 : Nat) : Option Int := fX3_countShown_L4 n σ p0 n 0 0
noncomputable def fX3_countGraves (n : Nat) (σ : St) (p0 : Nat) : Option Int := b1 (fX3_countSeen n σ p0) (fun v1 => ck ((σ p0 2) - v1) (fun v2 => some v2))
noncomputable def fX3_countSeenWith_L4s (n : Nat) (σ : St) (p0 : Nat) (x1 : Int) (lp4 : (Int → Int → Option Int)) : Int → Int → Option Int := fun x2 x3 => if σ p0 2 ≤ x3 then (some x2) else (b1 (fX3_inRow σ p0 x3) (fun v1 => b1 (fX3_isSeen σ p0 v1) (fun v2 => if v2 = 0 then (ck (x3 + 1) (fun v3 => lp4 x2 v3)) else (b1 (fX3_inRow σ p0 x3) (fun v4 => b1 (fX3_hasBit σ p0 v4 x1) (fun v5 => if v5 = 0 then (ck (x3 + 1) (fun v6 => lp4 x2 v6)) else (ck (x2 + 1) (fun v7 => ck (x3 + 1) (fun v8 => lp4 v7 v8)))))))))
noncomputable def fX3_countSeenWith_L4 (n : Nat) (σ : St) (p0 : Nat) (x1 : Int) (k : Nat) : Int → Int → Option Int := lpR (fun _ _ => none) (fX3_countSeenWith_L4s n σ p0 x1) k
noncomputable def fX3_countSeenWith (n : Nat) (σ : St) (p0 : Nat) (x1 : Int) : Option Int := fX3_countSeenWith_L4 n σ p0 x1 n 0 0
noncomputable def fX3_countBlocks_L4s (n : Nat) (σ : St) (p0 : Nat) (lp4 : (Int → Int → Option Int)) : Int → Int → Option Int := fun x1 x2 => if σ p0 2 ≤ x2 then (some x1) else (b1 (fX3_inRow σ p0 x2) (fun v1 => b1 (fX3_isShownBreak σ p0 v1) (fun v2 => if v2 = 0 then (ck (x2 + 1) (fun v3 => lp4 x1 v3)) else (ck (x1 + 1) (fun v4 => ck (x2 + 1) (fun v5 => lp4 v4 v5))))))
noncomputable def fX3_countBlocks_L4 (n : Nat) (σ : St) (p0 : Nat) (k : Nat) : Int → Int → Option Int := lpR (fun _ _ => none) (fX3_countBlocks_L4s n σ p0) k
noncomputable def fX3_countBlocks (n : Nat) (σ : St) (p0 : Nat) : Option Int := fX3_countBlocks_L4 n σ p0 n 1 0
noncomputable def fX3_shownBlock_L10s (n : Nat) (σ : St) (p0 : Nat) (x1 : Int) (lp10 : (Int → Int → Option Int)) : Int → Int → Option Int := fun x2 x3 => if σ p0 2 ≤ x3 then (some (-2)) else (b1 (fX3_inRow σ p0 x3) (fun v1 => b1 (fX3_isShownBreak σ p0 v1) (fun v2 => if v2 = 0 then (ck (x3 + 1) (fun v3 => lp10 x2 v3)) else (if x2 ≠ x1 then (ck (x2 + 1) (fun v4 => ck (x3 + 1) (fun v5 => lp10 v4 v5))) else (b1 (fX3_inRow σ p0 x3) (fun v6 => some v6))))))
noncomputable def fX3_shownBlock_L10 (n : Nat) (σ : St) (p0 : Nat) (x1 : Int) (k : Nat) : Int → Int → Option Int := lpR (fun _ _ => none) (fX3_shownBlock_L10s n σ p0 x1) k
noncomputable def fX3_shownBlock (n : Nat) (σ : St) (p0 : Nat) (x1 : Int) : Option Int := if x1 ≠ 0 then (fX3_shownBlock_L10 n σ p0 x1 n 1 0) else (some (-1))
noncomputable def fX3_kindOf (σ : St) (p0 : Nat) (x1 : Int) : Option Int := b1 (fX3_isBlock x1) (fun v1 => if v1 = 0 then (some 0) else (ck (x1 + 1) (fun v2 => rd σ (p0 + 10) 161 v2 (fun v3 => some v3))))
noncomputable def fX3_depthOf_J57 (n : Nat) (lp26 : (Int → Int → Int → Option Int)) (σ : St) (p0 : Nat) (x1 : Int) (x2 : Int) (x3 : Int) (x4 : Int) : Option Int := ck (x3 + 1) (fun v7 => rd σ (p0 + 11) 161 v7 (fun v8 => ck (x4 + 1) (fun v9 => lp26 x2 v8 v9)))
noncomputable def fX3_depthOf_J54 (n : Nat) (lp26 : (Int → Int → Int → Option Int)) (σ : St) (p0 : Nat) (x1 : Int) (x2 : Int) (x3 : Int) (x4 : Int) : Option Int := ck (x2 + 1) (fun v6 => fX3_depthOf_J57 n lp26 σ p0 x1 v6 x3 x4)
noncomputable def fX3_depthOf_L26s (n : Nat) (σ : St) (p0 : Nat) (x1 : Int) (lp26 : (Int → Int → Int → Option Int)) : Int → Int → Int → Option Int := fun x2 x3 x4 => if 161 ≤ x4 then (some x2) else (b1 (fX3_isBlock x3) (fun v4 => if v4 = 0 then (some x2) else (if x3 = (-1) then (fX3_depthOf_J54 n lp26 σ p0 x1 x2 x3 x4) else (b1 (fX3_isShownBreak σ p0 x3) (fun v5 => if v5 = 0 then (fX3_depthOf_J57 n lp26 σ p0 x1 x2 x3 x4) else (fX3_depthOf_J54 n lp26 σ p0 x1 x2 x3 x4))))))
noncomputable def fX3_depthOf_L26 (n : Nat) (σ : St) (p0 : Nat) (x1 : Int) (k : Nat) : Int → Int → Int → Option Int := lpR (fun _ _ _ => none) (fX3_depthOf_L26s n σ p0 x1) k
noncomputable def fX3_depthOf (n : Nat) (σ : St) (p0 : Nat) (x1 : Int) : Option Int := b1 (fX3_isBlock x1) (fun v1 => if v1 = 0 then (fX3_depthOf_L26 n σ p0 x1 n 0 (-2) 0) else (ck (x1 + 1) (fun v2 => rd σ (p0 + 11) 161 v2 (fun v3 => fX3_depthOf_L26 n σ p0 x1 n 0 v3 0))))
set_option maxRecDepth 100000 in
set_option maxHeartbeats 4000000 in
theorem ok_X3_clear {l : Launch} {D : va_G} {cy : Nat → ClassId} {ad : Nat → Nat} {nm nv sz : Nat} {σ : St} {n : Nat} {p0 : Nat} {σ2 : St} (hp0 : isPaper p0) (hf : fX3_clear n σ p0 = some σ2) : CV l yX3_clear cX3_clear 3 none ({ frames := 0, cells := 0, slots := 0, locals := 0 } : Room) [.ref (ad p0)] D cy ad nm nv sz σ σ2 := by
  refine m_entry RX3 rfl (by decide +kernel) (Nat.le_of_ble_eq_true rfl) ?_
  intro p e s m args below meth c Q hQ hr hlocks X hW hS ls hl
  have hx := X.1
  have hb := X.2.1
  have hl : lv_has ls 3 [(0, .ref (ad p0))] := hl
  unfold fX3_clear at hf
  have hc75 : ∀ (k75 : Nat) (σ : St) (H : Heap) (locs : List Loc) (ls : Array Slot) (x1 : Int), inR x1 → fX3_clear_L75 n p0 k75 σ x1 = some σ2 → Wd D cy ad nm nv σ H → va_S (AW ad nm nv sz) s.heap H locs → lv_has ls 3 [(0, .ref (ad p0)), (1, .int (i32 x1))] → W p l e ({ frames := 0, cells := 0, slots := 0, locals := 0 } : Room) s m args below meth c H locs 0 0 Q (F0 m 75 ls []) := by
    intro k75
    induction k75 with
    | zero =>
      intro σ H locs ls x1 hx1 hf
      have hf : (none : Option St) = some σ2 := hf
      cases hf
    | succ k75 ih75 =>
      intro σ H locs ls x1 hx1 hf hW hS hl
      have hf : fX3_clear_L75s n p0 (fX3_clear_L75 n p0 k75) σ x1 = some σ2 := hf
      unfold fX3_clear_L75s at hf
      have hc110 : ∀ (k110 : Nat) (σ : St) (H : Heap) (locs : List Loc) (ls : Array Slot) (x1 : Int) (x2 : Int), inR x1 → inR x2 → fX3_clear_L110 n (fX3_clear_L75 n p0 k75) p0 x1 k110 σ x2 = some σ2 → Wd D cy ad nm nv σ H → va_S (AW ad nm nv sz) s.heap H locs → lv_has ls 3 [(0, .ref (ad p0)), (1, .int (i32 x1)), (2, .int (i32 x2))] → W p l e ({ frames := 0, cells := 0, slots := 0, locals := 0 } : Room) s m args below meth c H locs 0 0 Q (F0 m 110 ls []) := by
        intro k110
        induction k110 with
        | zero =>
          intro σ H locs ls x1 x2 hx1 hx2 hf
          have hf : (none : Option St) = some σ2 := hf
          cases hf
        | succ k110 ih110 =>
          intro σ H locs ls x1 x2 hx1 hx2 hf hW hS hl
          have hf : fX3_clear_L110s n (fX3_clear_L75 n p0 k75) p0 x1 (fX3_clear_L110 n (fX3_clear_L75 n p0 k75) p0 x1 k110) σ x2 = some σ2 := hf
          unfold fX3_clear_L110s at hf
          refine lv_iload_n hx hb dX3_clear_110 rfl (lv_at hl 2 rfl) ?_
          refine m_const (v := 4) hx hb dX3_clear_111 rfl ?_
          refine m_icmp_ge (tgt := 130) hx hb hx2 (by decide) hf dX3_clear_112 (by decide) (fun hf => ?_) (fun hf => ?_)
          · skip
            refine m_iinc (k0 := 1) (fun v11 => [(1, .int (i32 v11)), (0, .ref (ad p0)), (2, .int (i32 x2))]) hx hb hf dX3_clear_130 hl rfl (by decide) (fun _ => rfl) (fun v11 ls hv11 hf hl => ?_)
            have hl : lv_has ls 3 [(1, .int (i32 v11)), (0, .ref (ad p0)), (2, .int (i32 x2))] := hl
            refine lv_goto (tgt := 75) hx hb dX3_clear_133 (by decide) ?_
            exact ih75 _ _ _ _ v11 hv11 hf hW hS (lv_sub hl [1, 0] rfl)
          · skip
            refine lv_aload_n hx hb dX3_clear_115 rfl (lv_at hl 0 rfl) ?_
            refine g_X3_levels X hW hp0 (X.2.2.2.2.1 _ mw106) dX3_clear_116 ?_
            refine lv_iload_n hx hb dX3_clear_119 rfl (lv_at hl 2 rfl) ?_
            refine m_aaldL hp0 X hW hx2 hf dX3_clear_120 (fun o12 ho12 hf => ?_)
            refine lv_iload_n hx hb dX3_clear_121 rfl (lv_at hl 1 rfl) ?_
            refine m_const (v := 0) hx hb dX3_clear_122 rfl ?_
            refine m_iast X hW hS ho12 hx1 (by decide) hf dX3_clear_123 (fun σ13 H locs hW13 hS13 hf => ?_)
            refine m_iinc (k0 := 2) (fun v14 => [(2, .int (i32 v14)), (0, .ref (ad p0)), (1, .int (i32 x1))]) hx hb hf dX3_clear_124 hl rfl (by decide) (fun _ => rfl) (fun v14 ls hv14 hf hl => ?_)
            have hl : lv_has ls 3 [(2, .int (i32 v14)), (0, .ref (ad p0)), (1, .int (i32 x1))] := hl
            refine lv_goto (tgt := 110) hx hb dX3_clear_127 (by decide) ?_
            exact ih110 _ _ _ _ x1 v14 hx1 hv14 hf hW13 hS13 (lv_sub hl [1, 2, 0] rfl)
      refine lv_iload_n hx hb dX3_clear_75 rfl (lv_at hl 1 rfl) ?_
      refine lv_aload_n hx hb dX3_clear_76 rfl (lv_at hl 0 rfl) ?_
      refine g_X3_book X hW hp0 (X.2.2.2.2.1 _ mw95) dX3_clear_77 ?_
      refine gN_X1_made X hW (nf_X3_53 X.2.2.2.2.2.2.2.2) dX3_clear_80 ?_
      refine m_icmp_gt (tgt := 136) hx hb hx1 (hW.2.1 _ _) hf dX3_clear_83 (by decide) (fun hf => ?_) (fun hf => ?_)
      · skip
        exact m_vret X hr hlocks hW hS (Option.some.inj hf) hQ dX3_clear_136
      · skip
        refine lv_iload_n hx hb dX3_clear_86 rfl (lv_at hl 1 rfl) ?_
        refine m_sipush (v := 161) hx hb dX3_clear_87 (by decide) ?_
        refine m_icmp_ge (tgt := 136) hx hb hx1 (by decide) hf dX3_clear_90 (by decide) (fun hf => ?_) (fun hf => ?_)
        · skip
          exact m_vret X hr hlocks hW hS (Option.some.inj hf) hQ dX3_clear_136
        · skip
          refine lv_aload_n hx hb dX3_clear_93 rfl (lv_at hl 0 rfl) ?_
          refine g_X3_kinds X hW hp0 (X.2.2.2.2.1 _ mw104) dX3_clear_94 ?_
          refine lv_iload_n hx hb dX3_clear_97 rfl (lv_at hl 1 rfl) ?_
          refine m_const (v := 0) hx hb dX3_clear_98 rfl ?_
          refine m_iast X hW hS (a_X3_kinds hp0) hx1 (by decide) hf dX3_clear_99 (fun σ9 H locs hW9 hS9 hf => ?_)
          refine lv_aload_n hx hb dX3_clear_100 rfl (lv_at hl 0 rfl) ?_
          refine g_X3_aboves X hW9 hp0 (X.2.2.2.2.1 _ mw105) dX3_clear_101 ?_
          refine lv_iload_n hx hb dX3_clear_104 rfl (lv_at hl 1 rfl) ?_
          refine m_bipush (v := (-2)) hx hb dX3_clear_105 (by decide) ?_
          refine m_iast X hW9 hS9 (a_X3_aboves hp0) hx1 (by decide) hf dX3_clear_107 (fun σ10 H locs hW10 hS10 hf => ?_)
          refine m_const (v := 0) hx hb dX3_clear_108 rfl ?_
          refine lv_istore_n (lv' := [(2, .int (i32 0)), (0, .ref (ad p0)), (1, .int (i32 x1))]) hx hb dX3_clear_109 rfl hl (by decide) rfl (fun ls hl => ?_)
          exact hc110 n _ _ _ _ x1 0 hx1 (by decide) hf hW10 hS10 (lv_sub hl [1, 2, 0] rfl)
  have hc7 : ∀ (k7 : Nat) (σ : St) (H : Heap) (locs : List Loc) (ls : Array Slot) (x1 : Int), inR x1 → fX3_clear_L7 n p0 k7 σ x1 = some σ2 → Wd D cy ad nm nv σ H → va_S (AW ad nm nv sz) s.heap H locs → lv_has ls 3 [(0, .ref (ad p0)), (1, .int (i32 x1))] → W p l e ({ frames := 0, cells := 0, slots := 0, locals := 0 } : Room) s m args below meth c H locs 0 0 Q (F0 m 7 ls []) := by
    intro k7
    induction k7 with
    | zero =>
      intro σ H locs ls x1 hx1 hf
      have hf : (none : Option St) = some σ2 := hf
      cases hf
    | succ k7 ih7 =>
      intro σ H locs ls x1 hx1 hf hW hS hl
      have hf : fX3_clear_L7s n p0 (fX3_clear_L7 n p0 k7) σ x1 = some σ2 := hf
      unfold fX3_clear_L7s at hf
      refine lv_iload_n hx hb dX3_clear_7 rfl (lv_at hl 1 rfl) ?_
      refine lv_aload_n hx hb dX3_clear_8 rfl (lv_at hl 0 rfl) ?_
      refine g_X3_book X hW hp0 (X.2.2.2.2.1 _ mw95) dX3_clear_9 ?_
      refine gN_X1_made X hW (nf_X3_53 X.2.2.2.2.2.2.2.2) dX3_clear_12 ?_
      refine m_icmp_ge (tgt := 73) hx hb hx1 (hW.2.1 _ _) hf dX3_clear_15 (by decide) (fun hf => ?_) (fun hf => ?_)
      · skip
        refine m_const (v := 0) hx hb dX3_clear_73 rfl ?_
        refine lv_istore_n (lv' := [(1, .int (i32 0)), (0, .ref (ad p0))]) hx hb dX3_clear_74 rfl hl (by decide) rfl (fun ls hl => ?_)
        exact hc75 n _ _ _ _ 0 (by decide) hf hW hS (lv_sub hl [1, 0] rfl)
      · skip
        refine lv_iload_n hx hb dX3_clear_18 rfl (lv_at hl 1 rfl) ?_
        refine m_sipush (v := 160) hx hb dX3_clear_19 (by decide) ?_
        refine m_icmp_ge (tgt := 73) hx hb hx1 (by decide) hf dX3_clear_22 (by decide) (fun hf => ?_) (fun hf => ?_)
        · skip
          refine m_const (v := 0) hx hb dX3_clear_73 rfl ?_
          refine lv_istore_n (lv' := [(1, .int (i32 0)), (0, .ref (ad p0))]) hx hb dX3_clear_74 rfl hl (by decide) rfl (fun ls hl => ?_)
          exact hc75 n _ _ _ _ 0 (by decide) hf hW hS (lv_sub hl [1, 0] rfl)
        · skip
          refine lv_aload_n hx hb dX3_clear_25 rfl (lv_at hl 0 rfl) ?_
          refine g_X3_states X hW hp0 (X.2.2.2.2.1 _ mw98) dX3_clear_26 ?_
          refine lv_iload_n hx hb dX3_clear_29 rfl (lv_at hl 1 rfl) ?_
          refine m_const (v := 0) hx hb dX3_clear_30 rfl ?_
          refine m_iast X hW hS (a_X3_states hp0) hx1 (by decide) hf dX3_clear_31 (fun σ2 H locs hW2 hS2 hf => ?_)
          refine lv_aload_n hx hb dX3_clear_32 rfl (lv_at hl 0 rfl) ?_
          refine g_X3_breaks X hW2 hp0 (X.2.2.2.2.1 _ mw99) dX3_clear_33 ?_
          refine lv_iload_n hx hb dX3_clear_36 rfl (lv_at hl 1 rfl) ?_
          refine m_const (v := 0) hx hb dX3_clear_37 rfl ?_
          refine m_zast X hW2 hS2 (a_X3_breaks hp0) hx1 (by decide) hf dX3_clear_38 (fun σ3 H locs hW3 hS3 hf => ?_)
          refine lv_aload_n hx hb dX3_clear_39 rfl (lv_at hl 0 rfl) ?_
          refine g_X3_removed X hW3 hp0 (X.2.2.2.2.1 _ mw100) dX3_clear_40 ?_
          refine lv_iload_n hx hb dX3_clear_43 rfl (lv_at hl 1 rfl) ?_
          refine m_const (v := 0) hx hb dX3_clear_44 rfl ?_
          refine m_zast X hW3 hS3 (a_X3_removed hp0) hx1 (by decide) hf dX3_clear_45 (fun σ4 H locs hW4 hS4 hf => ?_)
          refine lv_aload_n hx hb dX3_clear_46 rfl (lv_at hl 0 rfl) ?_
          refine g_X3_bits X hW4 hp0 (X.2.2.2.2.1 _ mw101) dX3_clear_47 ?_
          refine lv_iload_n hx hb dX3_clear_50 rfl (lv_at hl 1 rfl) ?_
          refine m_const (v := 0) hx hb dX3_clear_51 rfl ?_
          refine m_iast X hW4 hS4 (a_X3_bits hp0) hx1 (by decide) hf dX3_clear_52 (fun σ5 H locs hW5 hS5 hf => ?_)
          refine lv_aload_n hx hb dX3_clear_53 rfl (lv_at hl 0 rfl) ?_
          refine g_X3_asked X hW5 hp0 (X.2.2.2.2.1 _ mw102) dX3_clear_54 ?_
          refine lv_iload_n hx hb dX3_clear_57 rfl (lv_at hl 1 rfl) ?_
          refine m_const (v := 0) hx hb dX3_clear_58 rfl ?_
          refine m_zast X hW5 hS5 (a_X3_asked hp0) hx1 (by decide) hf dX3_clear_59 (fun σ6 H locs hW6 hS6 hf => ?_)
          refine lv_aload_n hx hb dX3_clear_60 rfl (lv_at hl 0 rfl) ?_
          refine g_X3_undone X hW6 hp0 (X.2.2.2.2.1 _ mw103) dX3_clear_61 ?_
          refine lv_iload_n hx hb dX3_clear_64 rfl (lv_at hl 1 rfl) ?_
          refine m_const (v := 0) hx hb dX3_clear_65 rfl ?_
          refine m_zast X hW6 hS6 (a_X3_undone hp0) hx1 (by decide) hf dX3_clear_66 (fun σ7 H locs hW7 hS7 hf => ?_)
          refine m_iinc (k0 := 1) (fun v8 => [(1, .int (i32 v8)), (0, .ref (ad p0))]) hx hb hf dX3_clear_67 hl rfl (by decide) (fun _ => rfl) (fun v8 ls hv8 hf hl => ?_)
          have hl : lv_has ls 3 [(1, .int (i32 v8)), (0, .ref (ad p0))] := hl
          refine lv_goto (tgt := 7) hx hb dX3_clear_70 (by decide) ?_
          exact ih7 _ _ _ _ v8 hv8 hf hW7 hS7 (lv_sub hl [1, 0] rfl)
  refine lv_aload_n hx hb dX3_clear_0 rfl (lv_at hl 0 rfl) ?_
  refine m_const (v := 0) hx hb dX3_clear_1 rfl ?_
  refine p_X3_rowSize X hW hS hp0 (by decide) hf (X.2.2.2.2.1 _ mw97) dX3_clear_2 (fun σ1 H locs hW1 hS1 hf => ?_)
  refine m_const (v := 0) hx hb dX3_clear_5 rfl ?_
  refine lv_istore_n (lv' := [(1, .int (i32 0)), (0, .ref (ad p0))]) hx hb dX3_clear_6 rfl hl (by decide) rfl (fun ls hl => ?_)
  exact hc7 n _ _ _ _ 0 (by decide) hf hW1 hS1 (lv_sub hl [1, 0] rfl)
set_option maxRecDepth 100000 in
set_option maxHeartbeats 4000000 in
theorem ok_X3_isNumber {l : Launch} {D : va_G} {cy : Nat → ClassId} {ad : Nat → Nat} {nm nv sz : Nat} {σ : St} {x0 : Int} {r : Int} (hx0 : inR x0) (hf : fX3_isNumber x0 = some r) : CI l yX3_isNumber cX3_isNumber 1 (some .boolean) ({ frames := 0, cells := 0, slots := 0, locals := 0 } : Room) [.int (i32 x0)] D cy ad nm nv sz σ true r σ := by
  refine m_entry RX3 rfl (by decide +kernel) (Nat.le_of_ble_eq_true rfl) ?_
  intro p e s m args below meth c Q hQ hr hlocks X hW hS ls hl
  have hx := X.1
  have hb := X.2.1
  have hl : lv_has ls 1 [(0, .int (i32 x0))] := hl
  unfold fX3_isNumber at hf
  refine lv_iload_n hx hb dX3_isNumber_0 rfl (lv_at hl 0 rfl) ?_
  refine m_if_lt (tgt := 15) hx hb hx0 hf dX3_isNumber_1 (by decide) (fun hf => ?_) (fun hf => ?_)
  · skip
    refine m_const (v := 0) hx hb dX3_isNumber_15 rfl ?_
    exact m_ireti X hr hlocks (nar_b (Or.inl rfl)).1 (by decide) (fun _ => (Or.inl rfl)) hW hS (Option.some.inj hf) rfl hQ dX3_isNumber_16
  · skip
    refine lv_iload_n hx hb dX3_isNumber_4 rfl (lv_at hl 0 rfl) ?_
    refine m_sipush (v := 160) hx hb dX3_isNumber_5 (by decide) ?_
    refine m_icmp_ge (tgt := 15) hx hb hx0 (by decide) hf dX3_isNumber_8 (by decide) (fun hf => ?_) (fun hf => ?_)
    · skip
      refine m_const (v := 0) hx hb dX3_isNumber_15 rfl ?_
      exact m_ireti X hr hlocks (nar_b (Or.inl rfl)).1 (by decide) (fun _ => (Or.inl rfl)) hW hS (Option.some.inj hf) rfl hQ dX3_isNumber_16
    · skip
      refine m_const (v := 1) hx hb dX3_isNumber_11 rfl ?_
      refine lv_goto (tgt := 16) hx hb dX3_isNumber_12 (by decide) ?_
      exact m_ireti X hr hlocks (nar_b (Or.inr rfl)).1 (by decide) (fun _ => (Or.inr rfl)) hW hS (Option.some.inj hf) rfl hQ dX3_isNumber_16
set_option maxRecDepth 100000 in
set_option maxHeartbeats 4000000 in
theorem ok_X3_findUndone {l : Launch} {D : va_G} {cy : Nat → ClassId} {ad : Nat → Nat} {nm nv sz : Nat} {σ : St} {n : Nat} {p0 : Nat} {o1 : Nat} {σ2 : St} (hp0 : isPaper p0) (ho1 : isSet nm nv o1) (hf : fX3_findUndone n σ p0 o1 = some σ2) : CV l yX3_findUndone cX3_findUndone 6 none ({ frames := 1, cells := 0, slots := 0, locals := 21 } : Room) [.ref (ad p0), .ref (ad o1)] D cy ad nm nv sz σ σ2 := by
  refine m_entry RX3 rfl (by decide +kernel) (Nat.le_of_ble_eq_true rfl) ?_
  intro p e s m args below meth c Q hQ hr hlocks X hW hS ls hl
  have hx := X.1
  have hb := X.2.1
  have hl : lv_has ls 6 [(0, .ref (ad p0)), (1, .ref (ad o1))] := hl
  unfold fX3_findUndone at hf
  have hc2 : ∀ (k2 : Nat) (σ : St) (H : Heap) (locs : List Loc) (ls : Array Slot) (x2 : Int), inR x2 → fX3_findUndone_L2 n p0 o1 k2 σ x2 = some σ2 → Wd D cy ad nm nv σ H → va_S (AW ad nm nv sz) s.heap H locs → lv_has ls 6 [(0, .ref (ad p0)), (1, .ref (ad o1)), (2, .int (i32 x2))] → W p l e ({ frames := 1, cells := 0, slots := 0, locals := 21 } : Room) s m args below meth c H locs 0 0 Q (F0 m 2 ls []) := by
    intro k2
    induction k2 with
    | zero =>
      intro σ H locs ls x2 hx2 hf
      have hf : (none : Option St) = some σ2 := hf
      cases hf
    | succ k2 ih2 =>
      intro σ H locs ls x2 hx2 hf hW hS hl
      have hf : fX3_findUndone_L2s n p0 o1 (fX3_findUndone_L2 n p0 o1 k2) σ x2 = some σ2 := hf
      unfold fX3_findUndone_L2s at hf
      have hc56 : ∀ (σ : St) (H : Heap) (locs : List Loc) (ls : Array Slot) (x2 : Int) (x3 : Int) (x4 : Int) (x5 : Int), inR x2 → inR x3 → inR x4 → inR x5 → fX3_findUndone_J56 n (fX3_findUndone_L2 n p0 o1 k2) σ p0 o1 x2 x3 x4 x5 = some σ2 → Wd D cy ad nm nv σ H → va_S (AW ad nm nv sz) s.heap H locs → lv_has ls 6 [(0, .ref (ad p0)), (1, .ref (ad o1)), (2, .int (i32 x2)), (3, .int (i32 x3)), (4, .int (i32 x4)), (5, .int (i32 x5))] → W p l e ({ frames := 1, cells := 0, slots := 0, locals := 21 } : Room) s m args below meth c H locs 0 0 Q (F0 m 56 ls []) := by
        intro σ H locs ls x2 x3 x4 x5 hx2 hx3 hx4 hx5 hf hW hS hl
        unfold fX3_findUndone_J56 at hf
        refine lv_aload_n hx hb dX3_findUndone_56 rfl (lv_at hl 1 rfl) ?_
        refine lv_iload_n hx hb dX3_findUndone_57 rfl (lv_at hl 3 rfl) ?_
        refine m_callVi1 (z := true) (As := [.int (i32 x3)]) (rest := []) X hW hS hl.1 gc_X3_69 hd_X0_contains ⟨rfl, rfl, Nat.le_of_ble_eq_true rfl, Nat.le_of_ble_eq_true rfl⟩ (rc_X0 X hW ho1) (fun v q => ok_X0_contains ho1 hx3 q) hf rfl rfl (Nat.le_of_ble_eq_true rfl) dX3_findUndone_58 ⟨Nat.le_of_ble_eq_true rfl, Nat.le_of_ble_eq_true rfl⟩ (fun v5 H locs hv5 zv5 hWv5 hSv5 hf => ?_)
        refine m_if_eq (tgt := 91) hx hb hv5 hf dX3_findUndone_61 (by decide) (fun hf => ?_) (fun hf => ?_)
        · skip
          refine m_iinc (k0 := 2) (fun v6 => [(2, .int (i32 v6)), (0, .ref (ad p0)), (1, .ref (ad o1)), (3, .int (i32 x3)), (4, .int (i32 x4)), (5, .int (i32 x5))]) hx hb hf dX3_findUndone_91 hl rfl (by decide) (fun _ => rfl) (fun v6 ls hv6 hf hl => ?_)
          have hl : lv_has ls 6 [(2, .int (i32 v6)), (0, .ref (ad p0)), (1, .ref (ad o1)), (3, .int (i32 x3)), (4, .int (i32 x4)), (5, .int (i32 x5))] := hl
          refine lv_goto (tgt := 2) hx hb dX3_findUndone_94 (by decide) ?_
          exact ih2 _ _ _ _ v6 hv6 hf hWv5 hSv5 (lv_sub hl [1, 2, 0] rfl)
        · skip
          refine lv_iload hx hb dX3_findUndone_64 (lv_at hl 5 rfl) ?_
          refine m_callSi1 (z := true) (As := [.int (i32 x5)]) (rest := []) X hWv5 hSv5 hl.1 gc_X3_85 hd_X3_isNumber ⟨rfl, rfl, Nat.le_of_ble_eq_true rfl, Nat.le_of_ble_eq_true rfl⟩ (fun v q => ok_X3_isNumber hx5 q) hf rfl rfl (Nat.le_of_ble_eq_true rfl) dX3_findUndone_66 ⟨Nat.le_of_ble_eq_true rfl, Nat.le_of_ble_eq_true rfl⟩ (fun v7 H locs hv7 zv7 hWv7 hSv7 hf => ?_)
          refine m_if_eq (tgt := 91) hx hb hv7 hf dX3_findUndone_69 (by decide) (fun hf => ?_) (fun hf => ?_)
          · skip
            refine m_iinc (k0 := 2) (fun v8 => [(2, .int (i32 v8)), (0, .ref (ad p0)), (1, .ref (ad o1)), (3, .int (i32 x3)), (4, .int (i32 x4)), (5, .int (i32 x5))]) hx hb hf dX3_findUndone_91 hl rfl (by decide) (fun _ => rfl) (fun v8 ls hv8 hf hl => ?_)
            have hl : lv_has ls 6 [(2, .int (i32 v8)), (0, .ref (ad p0)), (1, .ref (ad o1)), (3, .int (i32 x3)), (4, .int (i32 x4)), (5, .int (i32 x5))] := hl
            refine lv_goto (tgt := 2) hx hb dX3_findUndone_94 (by decide) ?_
            exact ih2 _ _ _ _ v8 hv8 hf hWv7 hSv7 (lv_sub hl [1, 2, 0] rfl)
          · skip
            refine lv_aload_n hx hb dX3_findUndone_72 rfl (lv_at hl 0 rfl) ?_
            refine g_X3_undone X hWv7 hp0 (X.2.2.2.2.1 _ mw103) dX3_findUndone_73 ?_
            refine lv_iload hx hb dX3_findUndone_76 (lv_at hl 5 rfl) ?_
            refine lv_iload hx hb dX3_findUndone_78 (lv_at hl 4 rfl) ?_
            refine m_bipush (v := 11) hx hb dX3_findUndone_80 (by decide) ?_
            refine m_icmp_ne (tgt := 89) hx hb hx4 (by decide) hf dX3_findUndone_82 (by decide) (fun hf => ?_) (fun hf => ?_)
            · skip
              refine m_const (v := 0) hx hb dX3_findUndone_89 rfl ?_
              refine m_zast X hWv7 hSv7 (a_X3_undone hp0) hx5 (by decide) hf dX3_findUndone_90 (fun σ9 H locs hW9 hS9 hf => ?_)
              refine m_iinc (k0 := 2) (fun v10 => [(2, .int (i32 v10)), (0, .ref (ad p0)), (1, .ref (ad o1)), (3, .int (i32 x3)), (4, .int (i32 x4)), (5, .int (i32 x5))]) hx hb hf dX3_findUndone_91 hl rfl (by decide) (fun _ => rfl) (fun v10 ls hv10 hf hl => ?_)
              have hl : lv_has ls 6 [(2, .int (i32 v10)), (0, .ref (ad p0)), (1, .ref (ad o1)), (3, .int (i32 x3)), (4, .int (i32 x4)), (5, .int (i32 x5))] := hl
              refine lv_goto (tgt := 2) hx hb dX3_findUndone_94 (by decide) ?_
              exact ih2 _ _ _ _ v10 hv10 hf hW9 hS9 (lv_sub hl [1, 2, 0] rfl)
            · skip
              refine m_const (v := 1) hx hb dX3_findUndone_85 rfl ?_
              refine lv_goto (tgt := 90) hx hb dX3_findUndone_86 (by decide) ?_
              refine m_zast X hWv7 hSv7 (a_X3_undone hp0) hx5 (by decide) hf dX3_findUndone_90 (fun σ11 H locs hW11 hS11 hf => ?_)
              refine m_iinc (k0 := 2) (fun v12 => [(2, .int (i32 v12)), (0, .ref (ad p0)), (1, .ref (ad o1)), (3, .int (i32 x3)), (4, .int (i32 x4)), (5, .int (i32 x5))]) hx hb hf dX3_findUndone_91 hl rfl (by decide) (fun _ => rfl) (fun v12 ls hv12 hf hl => ?_)
              have hl : lv_has ls 6 [(2, .int (i32 v12)), (0, .ref (ad p0)), (1, .ref (ad o1)), (3, .int (i32 x3)), (4, .int (i32 x4)), (5, .int (i32 x5))] := hl
              refine lv_goto (tgt := 2) hx hb dX3_findUndone_94 (by decide) ?_
              exact ih2 _ _ _ _ v12 hv12 hf hW11 hS11 (lv_sub hl [1, 2, 0] rfl)
      refine lv_iload_n hx hb dX3_findUndone_2 rfl (lv_at hl 2 rfl) ?_
      refine lv_aload_n hx hb dX3_findUndone_3 rfl (lv_at hl 0 rfl) ?_
      refine g_X3_book X hW hp0 (X.2.2.2.2.1 _ mw95) dX3_findUndone_4 ?_
      refine gN_X1_made X hW (nf_X3_53 X.2.2.2.2.2.2.2.2) dX3_findUndone_7 ?_
      refine m_icmp_ge (tgt := 97) hx hb hx2 (hW.2.1 _ _) hf dX3_findUndone_10 (by decide) (fun hf => ?_) (fun hf => ?_)
      · skip
        exact m_vret X hr hlocks hW hS (Option.some.inj hf) hQ dX3_findUndone_97
      · skip
        refine lv_aload_n hx hb dX3_findUndone_13 rfl (lv_at hl 0 rfl) ?_
        refine g_X3_book X hW hp0 (X.2.2.2.2.1 _ mw95) dX3_findUndone_14 ?_
        refine lv_iload_n hx hb dX3_findUndone_17 rfl (lv_at hl 2 rfl) ?_
        refine m_callVi1 (z := false) (As := [.int (i32 x2)]) (rest := []) X hW hS hl.1 gc_X3_65 hd_X1_inOrder ⟨rfl, rfl, Nat.le_of_ble_eq_true rfl, Nat.le_of_ble_eq_true rfl⟩ (rc_X1 X hW) (fun v q => ok_X1_inOrder hx2 q) hf rfl rfl (Nat.le_of_ble_eq_true rfl) dX3_findUndone_18 ⟨Nat.le_of_ble_eq_true rfl, Nat.le_of_ble_eq_true rfl⟩ (fun v1 H locs hv1 zv1 hWv1 hSv1 hf => ?_)
        refine lv_istore_n (lv' := [(3, .int (i32 v1)), (0, .ref (ad p0)), (1, .ref (ad o1)), (2, .int (i32 x2))]) hx hb dX3_findUndone_21 rfl hl (by decide) rfl (fun ls hl => ?_)
        refine lv_aload_n hx hb dX3_findUndone_22 rfl (lv_at hl 1 rfl) ?_
        refine g_X3_book X hWv1 hp0 (X.2.2.2.2.1 _ mw95) dX3_findUndone_23 ?_
        refine lv_iload_n hx hb dX3_findUndone_26 rfl (lv_at hl 0 rfl) ?_
        refine m_callVi1 (z := false) (As := [.int (i32 v1)]) (rest := []) X hWv1 hSv1 hl.1 gc_X3_79 hd_X1_kindOf ⟨rfl, rfl, Nat.le_of_ble_eq_true rfl, Nat.le_of_ble_eq_true rfl⟩ (rc_X1 X hWv1) (fun v q => ok_X1_kindOf hv1 q) hf rfl rfl (Nat.le_of_ble_eq_true rfl) dX3_findUndone_27 ⟨Nat.le_of_ble_eq_true rfl, Nat.le_of_ble_eq_true rfl⟩ (fun v2 H locs hv2 zv2 hWv2 hSv2 hf => ?_)
        refine lv_istore (lv' := [(4, .int (i32 v2)), (3, .int (i32 v1)), (0, .ref (ad p0)), (1, .ref (ad o1)), (2, .int (i32 x2))]) hx hb dX3_findUndone_30 hl (by decide) rfl (fun ls hl => ?_)
        refine lv_aload_n hx hb dX3_findUndone_32 rfl (lv_at hl 2 rfl) ?_
        refine g_X3_book X hWv2 hp0 (X.2.2.2.2.1 _ mw95) dX3_findUndone_33 ?_
        refine lv_iload_n hx hb dX3_findUndone_36 rfl (lv_at hl 1 rfl) ?_
        refine m_callVi1 (z := false) (As := [.int (i32 v1)]) (rest := []) X hWv2 hSv2 hl.1 gc_X3_82 hd_X1_firstOf ⟨rfl, rfl, Nat.le_of_ble_eq_true rfl, Nat.le_of_ble_eq_true rfl⟩ (rc_X1 X hWv2) (fun v q => ok_X1_firstOf hv1 q) hf rfl rfl (Nat.le_of_ble_eq_true rfl) dX3_findUndone_37 ⟨Nat.le_of_ble_eq_true rfl, Nat.le_of_ble_eq_true rfl⟩ (fun v3 H locs hv3 zv3 hWv3 hSv3 hf => ?_)
        refine lv_istore (lv' := [(5, .int (i32 v3)), (4, .int (i32 v2)), (3, .int (i32 v1)), (0, .ref (ad p0)), (1, .ref (ad o1)), (2, .int (i32 x2))]) hx hb dX3_findUndone_40 hl (by decide) rfl (fun ls hl => ?_)
        refine lv_iload hx hb dX3_findUndone_42 (lv_at hl 1 rfl) ?_
        refine m_bipush (v := 11) hx hb dX3_findUndone_44 (by decide) ?_
        refine m_icmp_eq (tgt := 56) hx hb hv2 (by decide) hf dX3_findUndone_46 (by decide) (fun hf => ?_) (fun hf => ?_)
        · skip
          exact hc56 _ _ _ _ x2 v1 v2 v3 hx2 hv1 hv2 hv3 hf hWv3 hSv3 (lv_sub hl [3, 4, 5, 2, 1, 0] rfl)
        · skip
          refine lv_iload hx hb dX3_findUndone_49 (lv_at hl 1 rfl) ?_
          refine m_bipush (v := 12) hx hb dX3_findUndone_51 (by decide) ?_
          refine m_icmp_ne (tgt := 91) hx hb hv2 (by decide) hf dX3_findUndone_53 (by decide) (fun hf => ?_) (fun hf => ?_)
          · skip
            refine m_iinc (k0 := 5) (fun v4 => [(2, .int (i32 v4)), (5, .int (i32 v3)), (4, .int (i32 v2)), (3, .int (i32 v1)), (0, .ref (ad p0)), (1, .ref (ad o1))]) hx hb hf dX3_findUndone_91 hl rfl (by decide) (fun _ => rfl) (fun v4 ls hv4 hf hl => ?_)
            have hl : lv_has ls 6 [(2, .int (i32 v4)), (5, .int (i32 v3)), (4, .int (i32 v2)), (3, .int (i32 v1)), (0, .ref (ad p0)), (1, .ref (ad o1))] := hl
            refine lv_goto (tgt := 2) hx hb dX3_findUndone_94 (by decide) ?_
            exact ih2 _ _ _ _ v4 hv4 hf hWv3 hSv3 (lv_sub hl [4, 5, 0] rfl)
          · skip
            exact hc56 _ _ _ _ x2 v1 v2 v3 hx2 hv1 hv2 hv3 hf hWv3 hSv3 (lv_sub hl [3, 4, 5, 2, 1, 0] rfl)
  refine m_const (v := 0) hx hb dX3_findUndone_0 rfl ?_
  refine lv_istore_n (lv' := [(2, .int (i32 0)), (0, .ref (ad p0)), (1, .ref (ad o1))]) hx hb dX3_findUndone_1 rfl hl (by decide) rfl (fun ls hl => ?_)
  exact hc2 n _ _ _ _ 0 (by decide) hf hW hS (lv_sub hl [1, 2, 0] rfl)
set_option maxRecDepth 100000 in
set_option maxHeartbeats 4000000 in
theorem ok_X3_wasUndone {l : Launch} {D : va_G} {cy : Nat → ClassId} {ad : Nat → Nat} {nm nv sz : Nat} {σ : St} {p0 : Nat} {x1 : Int} {r : Int} (hp0 : isPaper p0) (hx1 : inR x1) (hf : fX3_wasUndone σ p0 x1 = some r) : CI l yX3_wasUndone cX3_wasUndone 2 (some .boolean) ({ frames := 1, cells := 0, slots := 0, locals := 20 } : Room) [.ref (ad p0), .int (i32 x1)] D cy ad nm nv sz σ true r σ := by
  refine m_entry RX3 rfl (by decide +kernel) (Nat.le_of_ble_eq_true rfl) ?_
  intro p e s m args below meth c Q hQ hr hlocks X hW hS ls hl
  have hx := X.1
  have hb := X.2.1
  have hl : lv_has ls 2 [(0, .ref (ad p0)), (1, .int (i32 x1))] := hl
  unfold fX3_wasUndone at hf
  refine lv_iload_n hx hb dX3_wasUndone_0 rfl (lv_at hl 1 rfl) ?_
  refine m_callSi1 (z := true) (As := [.int (i32 x1)]) (rest := []) X hW hS hl.1 gc_X3_85 hd_X3_isNumber ⟨rfl, rfl, Nat.le_of_ble_eq_true rfl, Nat.le_of_ble_eq_true rfl⟩ (fun v q => ok_X3_isNumber hx1 q) hf rfl rfl (Nat.le_of_ble_eq_true rfl) dX3_wasUndone_1 ⟨Nat.le_of_ble_eq_true rfl, Nat.le_of_ble_eq_true rfl⟩ (fun v1 H locs hv1 zv1 hWv1 hSv1 hf => ?_)
  refine m_if_eq (tgt := 20) hx hb hv1 hf dX3_wasUndone_4 (by decide) (fun hf => ?_) (fun hf => ?_)
  · skip
    refine m_const (v := 0) hx hb dX3_wasUndone_20 rfl ?_
    exact m_ireti X hr hlocks (nar_b (Or.inl rfl)).1 (by decide) (fun _ => (Or.inl rfl)) hWv1 hSv1 (Option.some.inj hf) rfl hQ dX3_wasUndone_21
  · skip
    refine lv_aload_n hx hb dX3_wasUndone_7 rfl (lv_at hl 0 rfl) ?_
    refine g_X3_undone X hWv1 hp0 (X.2.2.2.2.1 _ mw103) dX3_wasUndone_8 ?_
    refine lv_iload_n hx hb dX3_wasUndone_11 rfl (lv_at hl 1 rfl) ?_
    refine m_zald X hWv1 (a_X3_undone hp0) hx1 hf dX3_wasUndone_12 (fun v2 hv2 hf => ?_)
    refine m_if_eq (tgt := 20) hx hb hv2 hf dX3_wasUndone_13 (by decide) (fun hf => ?_) (fun hf => ?_)
    · skip
      refine m_const (v := 0) hx hb dX3_wasUndone_20 rfl ?_
      exact m_ireti X hr hlocks (nar_b (Or.inl rfl)).1 (by decide) (fun _ => (Or.inl rfl)) hWv1 hSv1 (Option.some.inj hf) rfl hQ dX3_wasUndone_21
    · skip
      refine m_const (v := 1) hx hb dX3_wasUndone_16 rfl ?_
      refine lv_goto (tgt := 21) hx hb dX3_wasUndone_17 (by decide) ?_
      exact m_ireti X hr hlocks (nar_b (Or.inr rfl)).1 (by decide) (fun _ => (Or.inr rfl)) hWv1 hSv1 (Option.some.inj hf) rfl hQ dX3_wasUndone_21
set_option maxRecDepth 100000 in
set_option maxHeartbeats 4000000 in
theorem ok_X3_inRow {l : Launch} {D : va_G} {cy : Nat → ClassId} {ad : Nat → Nat} {nm nv sz : Nat} {σ : St} {p0 : Nat} {x1 : Int} {r : Int} (hp0 : isPaper p0) (hx1 : inR x1) (hf : fX3_inRow σ p0 x1 = some r) : CI l yX3_inRow cX3_inRow 2 (some .int) ({ frames := 0, cells := 0, slots := 0, locals := 0 } : Room) [.ref (ad p0), .int (i32 x1)] D cy ad nm nv sz σ false r σ := by
  refine m_entry RX3 rfl (by decide +kernel) (Nat.le_of_ble_eq_true rfl) ?_
  intro p e s m args below meth c Q hQ hr hlocks X hW hS ls hl
  have hx := X.1
  have hb := X.2.1
  have hl : lv_has ls 2 [(0, .ref (ad p0)), (1, .int (i32 x1))] := hl
  unfold fX3_inRow at hf
  refine lv_iload_n hx hb dX3_inRow_0 rfl (lv_at hl 1 rfl) ?_
  refine m_if_lt (tgt := 30) hx hb hx1 hf dX3_inRow_1 (by decide) (fun hf => ?_) (fun hf => ?_)
  · skip
    refine m_const (v := (-1)) hx hb dX3_inRow_30 rfl ?_
    exact m_ireti X hr hlocks rfl (by decide) (fun h => Bool.noConfusion h) hW hS (Option.some.inj hf) rfl hQ dX3_inRow_31
  · skip
    refine lv_iload_n hx hb dX3_inRow_4 rfl (lv_at hl 1 rfl) ?_
    refine lv_aload_n hx hb dX3_inRow_5 rfl (lv_at hl 0 rfl) ?_
    refine g_X3_rowSize X hW hp0 (X.2.2.2.2.1 _ mw97) dX3_inRow_6 ?_
    refine m_icmp_ge (tgt := 30) hx hb hx1 (hW.2.1 _ _) hf dX3_inRow_9 (by decide) (fun hf => ?_) (fun hf => ?_)
    · skip
      refine m_const (v := (-1)) hx hb dX3_inRow_30 rfl ?_
      exact m_ireti X hr hlocks rfl (by decide) (fun h => Bool.noConfusion h) hW hS (Option.some.inj hf) rfl hQ dX3_inRow_31
    · skip
      refine lv_iload_n hx hb dX3_inRow_12 rfl (lv_at hl 1 rfl) ?_
      refine lv_aload_n hx hb dX3_inRow_13 rfl (lv_at hl 0 rfl) ?_
      refine g_X3_row X hW hp0 (X.2.2.2.2.1 _ mw96) dX3_inRow_14 ?_
      refine m_alen (v := 160) 0 X hW (a_X3_row hp0) ent_1 rfl rfl rfl dX3_inRow_17 ?_
      refine m_icmp_ge (tgt := 30) hx hb hx1 (by decide) hf dX3_inRow_18 (by decide) (fun hf => ?_) (fun hf => ?_)
      · skip
        refine m_const (v := (-1)) hx hb dX3_inRow_30 rfl ?_
        exact m_ireti X hr hlocks rfl (by decide) (fun h => Bool.noConfusion h) hW hS (Option.some.inj hf) rfl hQ dX3_inRow_31
      · skip
        refine lv_aload_n hx hb dX3_inRow_21 rfl (lv_at hl 0 rfl) ?_
        refine g_X3_row X hW hp0 (X.2.2.2.2.1 _ mw96) dX3_inRow_22 ?_
        refine lv_iload_n hx hb dX3_inRow_25 rfl (lv_at hl 1 rfl) ?_
        refine m_iald X hW (a_X3_row hp0) hx1 hf dX3_inRow_26 (fun v1 hv1 hf => ?_)
        refine lv_goto (tgt := 31) hx hb dX3_inRow_27 (by decide) ?_
        exact m_ireti X hr hlocks rfl hv1 (fun h => Bool.noConfusion h) hW hS (Option.some.inj hf) rfl hQ dX3_inRow_31
set_option maxRecDepth 100000 in
set_option maxHeartbeats 4000000 in
theorem ok_X3_placeOf {l : Launch} {D : va_G} {cy : Nat → ClassId} {ad : Nat → Nat} {nm nv sz : Nat} {σ : St} {n : Nat} {p0 : Nat} {x1 : Int} {r : Int} (hp0 : isPaper p0) (hx1 : inR x1) (hf : fX3_placeOf n σ p0 x1 = some r) : CI l yX3_placeOf cX3_placeOf 3 (some .int) ({ frames := 1, cells := 0, slots := 0, locals := 21 } : Room) [.ref (ad p0), .int (i32 x1)] D cy ad nm nv sz σ false r σ := by
  refine m_entry RX3 rfl (by decide +kernel) (Nat.le_of_ble_eq_true rfl) ?_
  intro p e s m args below meth c Q hQ hr hlocks X hW hS ls hl
  have hx := X.1
  have hb := X.2.1
  have hl : lv_has ls 3 [(0, .ref (ad p0)), (1, .int (i32 x1))] := hl
  unfold fX3_placeOf at hf
  have hc2 : ∀ (k2 : Nat) (H : Heap) (locs : List Loc) (ls : Array Slot) (x2 : Int), inR x2 → fX3_placeOf_L2 n σ p0 x1 k2 x2 = some r → Wd D cy ad nm nv σ H → va_S (AW ad nm nv sz) s.heap H locs → lv_has ls 3 [(0, .ref (ad p0)), (1, .int (i32 x1)), (2, .int (i32 x2))] → W p l e ({ frames := 1, cells := 0, slots := 0, locals := 21 } : Room) s m args below meth c H locs 0 0 Q (F0 m 2 ls []) := by
    intro k2
    induction k2 with
    | zero =>
      intro H locs ls x2 hx2 hf
      have hf : (none : Option Int) = some r := hf
      cases hf
    | succ k2 ih2 =>
      intro H locs ls x2 hx2 hf hW hS hl
      have hf : fX3_placeOf_L2s n σ p0 x1 (fX3_placeOf_L2 n σ p0 x1 k2) x2 = some r := hf
      unfold fX3_placeOf_L2s at hf
      refine lv_iload_n hx hb dX3_placeOf_2 rfl (lv_at hl 2 rfl) ?_
      refine lv_aload_n hx hb dX3_placeOf_3 rfl (lv_at hl 0 rfl) ?_
      refine g_X3_rowSize X hW hp0 (X.2.2.2.2.1 _ mw97) dX3_placeOf_4 ?_
      refine m_icmp_ge (tgt := 27) hx hb hx2 (hW.2.1 _ _) hf dX3_placeOf_7 (by decide) (fun hf => ?_) (fun hf => ?_)
      · skip
        refine m_const (v := (-1)) hx hb dX3_placeOf_27 rfl ?_
        exact m_ireti X hr hlocks rfl (by decide) (fun h => Bool.noConfusion h) hW hS (Option.some.inj hf) rfl hQ dX3_placeOf_28
      · skip
        refine lv_aload_n hx hb dX3_placeOf_10 rfl (lv_at hl 0 rfl) ?_
        refine lv_iload_n hx hb dX3_placeOf_11 rfl (lv_at hl 2 rfl) ?_
        refine m_callVi1 (z := false) (As := [.int (i32 x2)]) (rest := []) X hW hS hl.1 gc_X3_138 hd_X3_inRow ⟨rfl, rfl, Nat.le_of_ble_eq_true rfl, Nat.le_of_ble_eq_true rfl⟩ (rc_X3 X hW hp0) (fun v q => ok_X3_inRow hp0 hx2 q) hf rfl rfl (Nat.le_of_ble_eq_true rfl) dX3_placeOf_12 ⟨Nat.le_of_ble_eq_true rfl, Nat.le_of_ble_eq_true rfl⟩ (fun v1 H locs hv1 zv1 hWv1 hSv1 hf => ?_)
        refine lv_iload_n hx hb dX3_placeOf_15 rfl (lv_at hl 1 rfl) ?_
        refine m_icmp_ne (tgt := 21) hx hb hv1 hx1 hf dX3_placeOf_16 (by decide) (fun hf => ?_) (fun hf => ?_)
        · skip
          refine m_iinc (k0 := 2) (fun v2 => [(2, .int (i32 v2)), (0, .ref (ad p0)), (1, .int (i32 x1))]) hx hb hf dX3_placeOf_21 hl rfl (by decide) (fun _ => rfl) (fun v2 ls hv2 hf hl => ?_)
          have hl : lv_has ls 3 [(2, .int (i32 v2)), (0, .ref (ad p0)), (1, .int (i32 x1))] := hl
          refine lv_goto (tgt := 2) hx hb dX3_placeOf_24 (by decide) ?_
          exact ih2 _ _ _ v2 hv2 hf hWv1 hSv1 (lv_sub hl [1, 2, 0] rfl)
        · skip
          refine lv_iload_n hx hb dX3_placeOf_19 rfl (lv_at hl 2 rfl) ?_
          exact m_ireti X hr hlocks rfl hx2 (fun h => Bool.noConfusion h) hWv1 hSv1 (Option.some.inj hf) rfl hQ dX3_placeOf_20
  refine m_const (v := 0) hx hb dX3_placeOf_0 rfl ?_
  refine lv_istore_n (lv' := [(2, .int (i32 0)), (0, .ref (ad p0)), (1, .int (i32 x1))]) hx hb dX3_placeOf_1 rfl hl (by decide) rfl (fun ls hl => ?_)
  exact hc2 n _ _ _ 0 (by decide) hf hW hS (lv_sub hl [1, 2, 0] rfl)
set_option maxRecDepth 100000 in
set_option maxHeartbeats 4000000 in
theorem ok_X3_isShownBreak {l : Launch} {D : va_G} {cy : Nat → ClassId} {ad : Nat → Nat} {nm nv sz : Nat} {σ : St} {p0 : Nat} {x1 : Int} {r : Int} (hp0 : isPaper p0) (hx1 : inR x1) (hf : fX3_isShownBreak σ p0 x1 = some r) : CI l yX3_isShownBreak cX3_isShownBreak 2 (some .boolean) ({ frames := 0, cells := 0, slots := 0, locals := 0 } : Room) [.ref (ad p0), .int (i32 x1)] D cy ad nm nv sz σ true r σ := by
  refine m_entry RX3 rfl (by decide +kernel) (Nat.le_of_ble_eq_true rfl) ?_
  intro p e s m args below meth c Q hQ hr hlocks X hW hS ls hl
  have hx := X.1
  have hb := X.2.1
  have hl : lv_has ls 2 [(0, .ref (ad p0)), (1, .int (i32 x1))] := hl
  unfold fX3_isShownBreak at hf
  refine lv_iload_n hx hb dX3_isShownBreak_0 rfl (lv_at hl 1 rfl) ?_
  refine m_if_lt (tgt := 43) hx hb hx1 hf dX3_isShownBreak_1 (by decide) (fun hf => ?_) (fun hf => ?_)
  · skip
    refine m_const (v := 0) hx hb dX3_isShownBreak_43 rfl ?_
    exact m_ireti X hr hlocks (nar_b (Or.inl rfl)).1 (by decide) (fun _ => (Or.inl rfl)) hW hS (Option.some.inj hf) rfl hQ dX3_isShownBreak_44
  · skip
    refine lv_iload_n hx hb dX3_isShownBreak_4 rfl (lv_at hl 1 rfl) ?_
    refine m_sipush (v := 160) hx hb dX3_isShownBreak_5 (by decide) ?_
    refine m_icmp_ge (tgt := 43) hx hb hx1 (by decide) hf dX3_isShownBreak_8 (by decide) (fun hf => ?_) (fun hf => ?_)
    · skip
      refine m_const (v := 0) hx hb dX3_isShownBreak_43 rfl ?_
      exact m_ireti X hr hlocks (nar_b (Or.inl rfl)).1 (by decide) (fun _ => (Or.inl rfl)) hW hS (Option.some.inj hf) rfl hQ dX3_isShownBreak_44
    · skip
      refine lv_aload_n hx hb dX3_isShownBreak_11 rfl (lv_at hl 0 rfl) ?_
      refine g_X3_breaks X hW hp0 (X.2.2.2.2.1 _ mw99) dX3_isShownBreak_12 ?_
      refine lv_iload_n hx hb dX3_isShownBreak_15 rfl (lv_at hl 1 rfl) ?_
      refine m_zald X hW (a_X3_breaks hp0) hx1 hf dX3_isShownBreak_16 (fun v1 hv1 hf => ?_)
      refine m_if_eq (tgt := 43) hx hb hv1 hf dX3_isShownBreak_17 (by decide) (fun hf => ?_) (fun hf => ?_)
      · skip
        refine m_const (v := 0) hx hb dX3_isShownBreak_43 rfl ?_
        exact m_ireti X hr hlocks (nar_b (Or.inl rfl)).1 (by decide) (fun _ => (Or.inl rfl)) hW hS (Option.some.inj hf) rfl hQ dX3_isShownBreak_44
      · skip
        refine lv_aload_n hx hb dX3_isShownBreak_20 rfl (lv_at hl 0 rfl) ?_
        refine g_X3_states X hW hp0 (X.2.2.2.2.1 _ mw98) dX3_isShownBreak_21 ?_
        refine lv_iload_n hx hb dX3_isShownBreak_24 rfl (lv_at hl 1 rfl) ?_
        refine m_iald X hW (a_X3_states hp0) hx1 hf dX3_isShownBreak_25 (fun v2 hv2 hf => ?_)
        refine m_const (v := 1) hx hb dX3_isShownBreak_26 rfl ?_
        refine m_icmp_ne (tgt := 43) hx hb hv2 (by decide) hf dX3_isShownBreak_27 (by decide) (fun hf => ?_) (fun hf => ?_)
        · skip
          refine m_const (v := 0) hx hb dX3_isShownBreak_43 rfl ?_
          exact m_ireti X hr hlocks (nar_b (Or.inl rfl)).1 (by decide) (fun _ => (Or.inl rfl)) hW hS (Option.some.inj hf) rfl hQ dX3_isShownBreak_44
        · skip
          refine lv_aload_n hx hb dX3_isShownBreak_30 rfl (lv_at hl 0 rfl) ?_
          refine g_X3_removed X hW hp0 (X.2.2.2.2.1 _ mw100) dX3_isShownBreak_31 ?_
          refine lv_iload_n hx hb dX3_isShownBreak_34 rfl (lv_at hl 1 rfl) ?_
          refine m_zald X hW (a_X3_removed hp0) hx1 hf dX3_isShownBreak_35 (fun v3 hv3 hf => ?_)
          refine m_if_ne (tgt := 43) hx hb hv3 hf dX3_isShownBreak_36 (by decide) (fun hf => ?_) (fun hf => ?_)
          · skip
            refine m_const (v := 0) hx hb dX3_isShownBreak_43 rfl ?_
            exact m_ireti X hr hlocks (nar_b (Or.inl rfl)).1 (by decide) (fun _ => (Or.inl rfl)) hW hS (Option.some.inj hf) rfl hQ dX3_isShownBreak_44
          · skip
            refine m_const (v := 1) hx hb dX3_isShownBreak_39 rfl ?_
            refine lv_goto (tgt := 44) hx hb dX3_isShownBreak_40 (by decide) ?_
            exact m_ireti X hr hlocks (nar_b (Or.inr rfl)).1 (by decide) (fun _ => (Or.inr rfl)) hW hS (Option.some.inj hf) rfl hQ dX3_isShownBreak_44
set_option maxRecDepth 100000 in
set_option maxHeartbeats 4000000 in
theorem ok_X3_blockOf {l : Launch} {D : va_G} {cy : Nat → ClassId} {ad : Nat → Nat} {nm nv sz : Nat} {σ : St} {n : Nat} {p0 : Nat} {x1 : Int} {r : Int} (hp0 : isPaper p0) (hx1 : inR x1) (hf : fX3_blockOf n σ p0 x1 = some r) : CI l yX3_blockOf cX3_blockOf 4 (some .int) ({ frames := 1, cells := 0, slots := 0, locals := 21 } : Room) [.ref (ad p0), .int (i32 x1)] D cy ad nm nv sz σ false r σ := by
  refine m_entry RX3 rfl (by decide +kernel) (Nat.le_of_ble_eq_true rfl) ?_
  intro p e s m args below meth c Q hQ hr hlocks X hW hS ls hl
  have hx := X.1
  have hb := X.2.1
  have hl : lv_has ls 4 [(0, .ref (ad p0)), (1, .int (i32 x1))] := hl
  unfold fX3_blockOf at hf
  have hc4 : ∀ (k4 : Nat) (H : Heap) (locs : List Loc) (ls : Array Slot) (x2 : Int) (x3 : Int), inR x2 → inR x3 → fX3_blockOf_L4 n σ p0 x1 k4 x2 x3 = some r → Wd D cy ad nm nv σ H → va_S (AW ad nm nv sz) s.heap H locs → lv_has ls 4 [(0, .ref (ad p0)), (1, .int (i32 x1)), (2, .int (i32 x2)), (3, .int (i32 x3))] → W p l e ({ frames := 1, cells := 0, slots := 0, locals := 21 } : Room) s m args below meth c H locs 0 0 Q (F0 m 4 ls []) := by
    intro k4
    induction k4 with
    | zero =>
      intro H locs ls x2 x3 hx2 hx3 hf
      have hf : (none : Option Int) = some r := hf
      cases hf
    | succ k4 ih4 =>
      intro H locs ls x2 x3 hx2 hx3 hf hW hS hl
      have hf : fX3_blockOf_L4s n σ p0 x1 (fX3_blockOf_L4 n σ p0 x1 k4) x2 x3 = some r := hf
      unfold fX3_blockOf_L4s at hf
      have hc30 : ∀ (H : Heap) (locs : List Loc) (ls : Array Slot) (x2 : Int) (x3 : Int), inR x2 → inR x3 → fX3_blockOf_J30 n (fX3_blockOf_L4 n σ p0 x1 k4) σ p0 x1 x2 x3 = some r → Wd D cy ad nm nv σ H → va_S (AW ad nm nv sz) s.heap H locs → lv_has ls 4 [(0, .ref (ad p0)), (1, .int (i32 x1)), (2, .int (i32 x2)), (3, .int (i32 x3))] → W p l e ({ frames := 1, cells := 0, slots := 0, locals := 21 } : Room) s m args below meth c H locs 0 0 Q (F0 m 30 ls []) := by
        intro H locs ls x2 x3 hx2 hx3 hf hW hS hl
        unfold fX3_blockOf_J30 at hf
        refine lv_aload_n hx hb dX3_blockOf_30 rfl (lv_at hl 0 rfl) ?_
        refine lv_iload_n hx hb dX3_blockOf_31 rfl (lv_at hl 3 rfl) ?_
        refine m_callVi1 (z := false) (As := [.int (i32 x3)]) (rest := []) X hW hS hl.1 gc_X3_138 hd_X3_inRow ⟨rfl, rfl, Nat.le_of_ble_eq_true rfl, Nat.le_of_ble_eq_true rfl⟩ (rc_X3 X hW hp0) (fun v q => ok_X3_inRow hp0 hx3 q) hf rfl rfl (Nat.le_of_ble_eq_true rfl) dX3_blockOf_32 ⟨Nat.le_of_ble_eq_true rfl, Nat.le_of_ble_eq_true rfl⟩ (fun v4 H locs hv4 zv4 hWv4 hSv4 hf => ?_)
        refine lv_iload_n hx hb dX3_blockOf_35 rfl (lv_at hl 1 rfl) ?_
        refine m_icmp_ne (tgt := 41) hx hb hv4 hx1 hf dX3_blockOf_36 (by decide) (fun hf => ?_) (fun hf => ?_)
        · skip
          refine m_iinc (k0 := 3) (fun v5 => [(3, .int (i32 v5)), (0, .ref (ad p0)), (1, .int (i32 x1)), (2, .int (i32 x2))]) hx hb hf dX3_blockOf_41 hl rfl (by decide) (fun _ => rfl) (fun v5 ls hv5 hf hl => ?_)
          have hl : lv_has ls 4 [(3, .int (i32 v5)), (0, .ref (ad p0)), (1, .int (i32 x1)), (2, .int (i32 x2))] := hl
          refine lv_goto (tgt := 4) hx hb dX3_blockOf_44 (by decide) ?_
          exact ih4 _ _ _ x2 v5 hx2 hv5 hf hWv4 hSv4 (lv_sub hl [1, 2, 3, 0] rfl)
        · skip
          refine lv_iload_n hx hb dX3_blockOf_39 rfl (lv_at hl 2 rfl) ?_
          exact m_ireti X hr hlocks rfl hx2 (fun h => Bool.noConfusion h) hWv4 hSv4 (Option.some.inj hf) rfl hQ dX3_blockOf_40
      refine lv_iload_n hx hb dX3_blockOf_4 rfl (lv_at hl 3 rfl) ?_
      refine lv_aload_n hx hb dX3_blockOf_5 rfl (lv_at hl 0 rfl) ?_
      refine g_X3_rowSize X hW hp0 (X.2.2.2.2.1 _ mw97) dX3_blockOf_6 ?_
      refine m_icmp_ge (tgt := 47) hx hb hx3 (hW.2.1 _ _) hf dX3_blockOf_9 (by decide) (fun hf => ?_) (fun hf => ?_)
      · skip
        refine m_const (v := (-1)) hx hb dX3_blockOf_47 rfl ?_
        exact m_ireti X hr hlocks rfl (by decide) (fun h => Bool.noConfusion h) hW hS (Option.some.inj hf) rfl hQ dX3_blockOf_48
      · skip
        refine lv_aload_n hx hb dX3_blockOf_12 rfl (lv_at hl 0 rfl) ?_
        refine lv_aload_n hx hb dX3_blockOf_13 rfl (lv_at hl 0 rfl) ?_
        refine lv_iload_n hx hb dX3_blockOf_14 rfl (lv_at hl 3 rfl) ?_
        refine m_callVi1 (z := false) (As := [.int (i32 x3)]) (rest := [.ref (ad p0)]) X hW hS hl.1 gc_X3_138 hd_X3_inRow ⟨rfl, rfl, Nat.le_of_ble_eq_true rfl, Nat.le_of_ble_eq_true rfl⟩ (rc_X3 X hW hp0) (fun v q => ok_X3_inRow hp0 hx3 q) hf rfl rfl (Nat.le_of_ble_eq_true rfl) dX3_blockOf_15 ⟨Nat.le_of_ble_eq_true rfl, Nat.le_of_ble_eq_true rfl⟩ (fun v1 H locs hv1 zv1 hWv1 hSv1 hf => ?_)
        refine m_callVi1 (z := true) (As := [.int (i32 v1)]) (rest := []) X hWv1 hSv1 hl.1 gc_X3_153 hd_X3_isShownBreak ⟨rfl, rfl, Nat.le_of_ble_eq_true rfl, Nat.le_of_ble_eq_true rfl⟩ (rc_X3 X hWv1 hp0) (fun v q => ok_X3_isShownBreak hp0 hv1 q) hf rfl rfl (Nat.le_of_ble_eq_true rfl) dX3_blockOf_18 ⟨Nat.le_of_ble_eq_true rfl, Nat.le_of_ble_eq_true rfl⟩ (fun v2 H locs hv2 zv2 hWv2 hSv2 hf => ?_)
        refine m_if_eq (tgt := 30) hx hb hv2 hf dX3_blockOf_21 (by decide) (fun hf => ?_) (fun hf => ?_)
        · skip
          exact hc30 _ _ _ x2 x3 hx2 hx3 hf hWv2 hSv2 (lv_sub hl [0, 1, 2, 3] rfl)
        · skip
          refine lv_aload_n hx hb dX3_blockOf_24 rfl (lv_at hl 0 rfl) ?_
          refine lv_iload_n hx hb dX3_blockOf_25 rfl (lv_at hl 3 rfl) ?_
          refine m_callVi1 (z := false) (As := [.int (i32 x3)]) (rest := []) X hWv2 hSv2 hl.1 gc_X3_138 hd_X3_inRow ⟨rfl, rfl, Nat.le_of_ble_eq_true rfl, Nat.le_of_ble_eq_true rfl⟩ (rc_X3 X hWv2 hp0) (fun v q => ok_X3_inRow hp0 hx3 q) hf rfl rfl (Nat.le_of_ble_eq_true rfl) dX3_blockOf_26 ⟨Nat.le_of_ble_eq_true rfl, Nat.le_of_ble_eq_true rfl⟩ (fun v3 H locs hv3 zv3 hWv3 hSv3 hf => ?_)
          refine lv_istore_n (lv' := [(2, .int (i32 v3)), (0, .ref (ad p0)), (1, .int (i32 x1)), (3, .int (i32 x3))]) hx hb dX3_blockOf_29 rfl hl (by decide) rfl (fun ls hl => ?_)
          exact hc30 _ _ _ v3 x3 hv3 hx3 hf hWv3 hSv3 (lv_sub hl [1, 2, 0, 3] rfl)
  refine m_const (v := (-1)) hx hb dX3_blockOf_0 rfl ?_
  refine lv_istore_n (lv' := [(2, .int (i32 (-1))), (0, .ref (ad p0)), (1, .int (i32 x1))]) hx hb dX3_blockOf_1 rfl hl (by decide) rfl (fun ls hl => ?_)
  refine m_const (v := 0) hx hb dX3_blockOf_2 rfl ?_
  refine lv_istore_n (lv' := [(3, .int (i32 0)), (2, .int (i32 (-1))), (0, .ref (ad p0)), (1, .int (i32 x1))]) hx hb dX3_blockOf_3 rfl hl (by decide) rfl (fun ls hl => ?_)
  exact hc4 n _ _ _ (-1) 0 (by decide) (by decide) hf hW hS (lv_sub hl [2, 3, 1, 0] rfl)
set_option maxRecDepth 100000 in
set_option maxHeartbeats 4000000 in
theorem ok_X3_isBlock {l : Launch} {D : va_G} {cy : Nat → ClassId} {ad : Nat → Nat} {nm nv sz : Nat} {σ : St} {x0 : Int} {r : Int} (hx0 : inR x0) (hf : fX3_isBlock x0 = some r) : CI l yX3_isBlock cX3_isBlock 1 (some .boolean) ({ frames := 0, cells := 0, slots := 0, locals := 0 } : Room) [.int (i32 x0)] D cy ad nm nv sz σ true r σ := by
  refine m_entry RX3 rfl (by decide +kernel) (Nat.le_of_ble_eq_true rfl) ?_
  intro p e s m args below meth c Q hQ hr hlocks X hW hS ls hl
  have hx := X.1
  have hb := X.2.1
  have hl : lv_has ls 1 [(0, .int (i32 x0))] := hl
  unfold fX3_isBlock at hf
  refine lv_iload_n hx hb dX3_isBlock_0 rfl (lv_at hl 0 rfl) ?_
  refine m_const (v := (-1)) hx hb dX3_isBlock_1 rfl ?_
  refine m_icmp_lt (tgt := 16) hx hb hx0 (by decide) hf dX3_isBlock_2 (by decide) (fun hf => ?_) (fun hf => ?_)
  · skip
    refine m_const (v := 0) hx hb dX3_isBlock_16 rfl ?_
    exact m_ireti X hr hlocks (nar_b (Or.inl rfl)).1 (by decide) (fun _ => (Or.inl rfl)) hW hS (Option.some.inj hf) rfl hQ dX3_isBlock_17
  · skip
    refine lv_iload_n hx hb dX3_isBlock_5 rfl (lv_at hl 0 rfl) ?_
    refine m_sipush (v := 160) hx hb dX3_isBlock_6 (by decide) ?_
    refine m_icmp_ge (tgt := 16) hx hb hx0 (by decide) hf dX3_isBlock_9 (by decide) (fun hf => ?_) (fun hf => ?_)
    · skip
      refine m_const (v := 0) hx hb dX3_isBlock_16 rfl ?_
      exact m_ireti X hr hlocks (nar_b (Or.inl rfl)).1 (by decide) (fun _ => (Or.inl rfl)) hW hS (Option.some.inj hf) rfl hQ dX3_isBlock_17
    · skip
      refine m_const (v := 1) hx hb dX3_isBlock_12 rfl ?_
      refine lv_goto (tgt := 17) hx hb dX3_isBlock_13 (by decide) ?_
      exact m_ireti X hr hlocks (nar_b (Or.inr rfl)).1 (by decide) (fun _ => (Or.inr rfl)) hW hS (Option.some.inj hf) rfl hQ dX3_isBlock_17
set_option maxRecDepth 100000 in
set_option maxHeartbeats 4000000 in
theorem ok_X3_levelIn {l : Launch} {D : va_G} {cy : Nat → ClassId} {ad : Nat → Nat} {nm nv sz : Nat} {σ : St} {p0 : Nat} {x1 : Int} {x2 : Int} {r : Int} (hp0 : isPaper p0) (hx1 : inR x1) (hx2 : inR x2) (hf : fX3_levelIn σ p0 x1 x2 = some r) : CI l yX3_levelIn cX3_levelIn 3 (some .int) ({ frames := 1, cells := 0, slots := 0, locals := 20 } : Room) [.ref (ad p0), .int (i32 x1), .int (i32 x2)] D cy ad nm nv sz σ false r σ := by
  refine m_entry RX3 rfl (by decide +kernel) (Nat.le_of_ble_eq_true rfl) ?_
  intro p e s m args below meth c Q hQ hr hlocks X hW hS ls hl
  have hx := X.1
  have hb := X.2.1
  have hl : lv_has ls 3 [(0, .ref (ad p0)), (1, .int (i32 x1)), (2, .int (i32 x2))] := hl
  unfold fX3_levelIn at hf
  refine lv_iload_n hx hb dX3_levelIn_0 rfl (lv_at hl 1 rfl) ?_
  refine m_if_le (tgt := 29) hx hb hx1 hf dX3_levelIn_1 (by decide) (fun hf => ?_) (fun hf => ?_)
  · skip
    refine m_const (v := 0) hx hb dX3_levelIn_29 rfl ?_
    exact m_ireti X hr hlocks rfl (by decide) (fun h => Bool.noConfusion h) hW hS (Option.some.inj hf) rfl hQ dX3_levelIn_30
  · skip
    refine lv_iload_n hx hb dX3_levelIn_4 rfl (lv_at hl 1 rfl) ?_
    refine m_const (v := 4) hx hb dX3_levelIn_5 rfl ?_
    refine m_icmp_ge (tgt := 29) hx hb hx1 (by decide) hf dX3_levelIn_6 (by decide) (fun hf => ?_) (fun hf => ?_)
    · skip
      refine m_const (v := 0) hx hb dX3_levelIn_29 rfl ?_
      exact m_ireti X hr hlocks rfl (by decide) (fun h => Bool.noConfusion h) hW hS (Option.some.inj hf) rfl hQ dX3_levelIn_30
    · skip
      refine lv_iload_n hx hb dX3_levelIn_9 rfl (lv_at hl 2 rfl) ?_
      refine m_callSi1 (z := true) (As := [.int (i32 x2)]) (rest := []) X hW hS hl.1 gc_X3_156 hd_X3_isBlock ⟨rfl, rfl, Nat.le_of_ble_eq_true rfl, Nat.le_of_ble_eq_true rfl⟩ (fun v q => ok_X3_isBlock hx2 q) hf rfl rfl (Nat.le_of_ble_eq_true rfl) dX3_levelIn_10 ⟨Nat.le_of_ble_eq_true rfl, Nat.le_of_ble_eq_true rfl⟩ (fun v1 H locs hv1 zv1 hWv1 hSv1 hf => ?_)
      refine m_if_eq (tgt := 29) hx hb hv1 hf dX3_levelIn_13 (by decide) (fun hf => ?_) (fun hf => ?_)
      · skip
        refine m_const (v := 0) hx hb dX3_levelIn_29 rfl ?_
        exact m_ireti X hr hlocks rfl (by decide) (fun h => Bool.noConfusion h) hWv1 hSv1 (Option.some.inj hf) rfl hQ dX3_levelIn_30
      · skip
        refine lv_aload_n hx hb dX3_levelIn_16 rfl (lv_at hl 0 rfl) ?_
        refine g_X3_levels X hWv1 hp0 (X.2.2.2.2.1 _ mw106) dX3_levelIn_17 ?_
        refine lv_iload_n hx hb dX3_levelIn_20 rfl (lv_at hl 1 rfl) ?_
        refine m_aaldL hp0 X hWv1 hx1 hf dX3_levelIn_21 (fun o2 ho2 hf => ?_)
        refine lv_iload_n hx hb dX3_levelIn_22 rfl (lv_at hl 2 rfl) ?_
        refine m_const (v := 1) hx hb dX3_levelIn_23 rfl ?_
        refine m_iadd hx hb hf dX3_levelIn_24 (fun v3 hv3 hf => ?_)
        refine m_iald X hWv1 ho2 hv3 hf dX3_levelIn_25 (fun v4 hv4 hf => ?_)
        refine lv_goto (tgt := 30) hx hb dX3_levelIn_26 (by decide) ?_
        exact m_ireti X hr hlocks rfl hv4 (fun h => Bool.noConfusion h) hWv1 hSv1 (Option.some.inj hf) rfl hQ dX3_levelIn_30
set_option maxRecDepth 100000 in
set_option maxHeartbeats 4000000 in
theorem ok_X3_bitsOf {l : Launch} {D : va_G} {cy : Nat → ClassId} {ad : Nat → Nat} {nm nv sz : Nat} {σ : St} {p0 : Nat} {x1 : Int} {r : Int} (hp0 : isPaper p0) (hx1 : inR x1) (hf : fX3_bitsOf σ p0 x1 = some r) : CI l yX3_bitsOf cX3_bitsOf 2 (some .int) ({ frames := 1, cells := 0, slots := 0, locals := 20 } : Room) [.ref (ad p0), .int (i32 x1)] D cy ad nm nv sz σ false r σ := by
  refine m_entry RX3 rfl (by decide +kernel) (Nat.le_of_ble_eq_true rfl) ?_
  intro p e s m args below meth c Q hQ hr hlocks X hW hS ls hl
  have hx := X.1
  have hb := X.2.1
  have hl : lv_has ls 2 [(0, .ref (ad p0)), (1, .int (i32 x1))] := hl
  unfold fX3_bitsOf at hf
  refine lv_iload_n hx hb dX3_bitsOf_0 rfl (lv_at hl 1 rfl) ?_
  refine m_callSi1 (z := true) (As := [.int (i32 x1)]) (rest := []) X hW hS hl.1 gc_X3_85 hd_X3_isNumber ⟨rfl, rfl, Nat.le_of_ble_eq_true rfl, Nat.le_of_ble_eq_true rfl⟩ (fun v q => ok_X3_isNumber hx1 q) hf rfl rfl (Nat.le_of_ble_eq_true rfl) dX3_bitsOf_1 ⟨Nat.le_of_ble_eq_true rfl, Nat.le_of_ble_eq_true rfl⟩ (fun v1 H locs hv1 zv1 hWv1 hSv1 hf => ?_)
  refine m_if_eq (tgt := 16) hx hb hv1 hf dX3_bitsOf_4 (by decide) (fun hf => ?_) (fun hf => ?_)
  · skip
    refine m_const (v := 0) hx hb dX3_bitsOf_16 rfl ?_
    exact m_ireti X hr hlocks rfl (by decide) (fun h => Bool.noConfusion h) hWv1 hSv1 (Option.some.inj hf) rfl hQ dX3_bitsOf_17
  · skip
    refine lv_aload_n hx hb dX3_bitsOf_7 rfl (lv_at hl 0 rfl) ?_
    refine g_X3_bits X hWv1 hp0 (X.2.2.2.2.1 _ mw101) dX3_bitsOf_8 ?_
    refine lv_iload_n hx hb dX3_bitsOf_11 rfl (lv_at hl 1 rfl) ?_
    refine m_iald X hWv1 (a_X3_bits hp0) hx1 hf dX3_bitsOf_12 (fun v2 hv2 hf => ?_)
    refine lv_goto (tgt := 17) hx hb dX3_bitsOf_13 (by decide) ?_
    exact m_ireti X hr hlocks rfl hv2 (fun h => Bool.noConfusion h) hWv1 hSv1 (Option.some.inj hf) rfl hQ dX3_bitsOf_17
set_option maxRecDepth 100000 in
set_option maxHeartbeats 4000000 in
theorem ok_X3_putElement {l : Launch} {D : va_G} {cy : Nat → ClassId} {ad : Nat → Nat} {nm nv sz : Nat} {σ : St} {n : Nat} {p0 : Nat} {x1 : Int} {σ2 : St} (hp0 : isPaper p0) (hx1 : inR x1) (hf : fX3_putElement n σ p0 x1 = some σ2) : CV l yX3_putElement cX3_putElement 7 none ({ frames := 2, cells := 0, slots := 0, locals := 72 } : Room) [.ref (ad p0), .int (i32 x1)] D cy ad nm nv sz σ σ2 := by
  refine m_entry RX3 rfl (by decide +kernel) (Nat.le_of_ble_eq_true rfl) ?_
  intro p e s m args below meth c Q hQ hr hlocks X hW hS ls hl
  have hx := X.1
  have hb := X.2.1
  have hl : lv_has ls 7 [(0, .ref (ad p0)), (1, .int (i32 x1))] := hl
  unfold fX3_putElement at hf
  have hc150 : ∀ (σ : St) (H : Heap) (locs : List Loc) (ls : Array Slot) (x3 : Int), inR x3 → fX3_putElement_J150 n σ p0 x1 x3 = some σ2 → Wd D cy ad nm nv σ H → va_S (AW ad nm nv sz) s.heap H locs → lv_has ls 7 [(0, .ref (ad p0)), (1, .int (i32 x1)), (3, .int (i32 x3))] → W p l e ({ frames := 2, cells := 0, slots := 0, locals := 72 } : Room) s m args below meth c H locs 0 0 Q (F0 m 150 ls []) := by
    intro σ H locs ls x3 hx3 hf hW hS hl
    unfold fX3_putElement_J150 at hf
    refine lv_aload_n hx hb dX3_putElement_150 rfl (lv_at hl 0 rfl) ?_
    refine lv_aload_n hx hb dX3_putElement_151 rfl (lv_at hl 0 rfl) ?_
    refine lv_iload_n hx hb dX3_putElement_152 rfl (lv_at hl 2 rfl) ?_
    refine m_const (v := 1) hx hb dX3_putElement_153 rfl ?_
    refine m_isub hx hb hf dX3_putElement_154 (fun v15 hv15 hf => ?_)
    refine m_callVi1 (z := false) (As := [.int (i32 v15)]) (rest := [.ref (ad p0)]) X hW hS hl.1 gc_X3_138 hd_X3_inRow ⟨rfl, rfl, Nat.le_of_ble_eq_true rfl, Nat.le_of_ble_eq_true rfl⟩ (rc_X3 X hW hp0) (fun v q => ok_X3_inRow hp0 hv15 q) hf rfl rfl (Nat.le_of_ble_eq_true rfl) dX3_putElement_155 ⟨Nat.le_of_ble_eq_true rfl, Nat.le_of_ble_eq_true rfl⟩ (fun v16 H locs hv16 zv16 hWv16 hSv16 hf => ?_)
    refine m_callVi1 (z := false) (As := [.int (i32 v16)]) (rest := []) X hWv16 hSv16 hl.1 gc_X3_141 hd_X3_bitsOf ⟨rfl, rfl, Nat.le_of_ble_eq_true rfl, Nat.le_of_ble_eq_true rfl⟩ (rc_X3 X hWv16 hp0) (fun v q => ok_X3_bitsOf hp0 hv16 q) hf rfl rfl (Nat.le_of_ble_eq_true rfl) dX3_putElement_158 ⟨Nat.le_of_ble_eq_true rfl, Nat.le_of_ble_eq_true rfl⟩ (fun v17 H locs hv17 zv17 hWv17 hSv17 hf => ?_)
    refine lv_istore (lv' := [(5, .int (i32 v17)), (0, .ref (ad p0)), (1, .int (i32 x1)), (3, .int (i32 x3))]) hx hb dX3_putElement_161 hl (by decide) rfl (fun ls hl => ?_)
    refine lv_aload_n hx hb dX3_putElement_163 rfl (lv_at hl 1 rfl) ?_
    refine lv_aload_n hx hb dX3_putElement_164 rfl (lv_at hl 1 rfl) ?_
    refine lv_iload_n hx hb dX3_putElement_165 rfl (lv_at hl 3 rfl) ?_
    refine m_callVi1 (z := false) (As := [.int (i32 x3)]) (rest := [.ref (ad p0)]) X hWv17 hSv17 hl.1 gc_X3_138 hd_X3_inRow ⟨rfl, rfl, Nat.le_of_ble_eq_true rfl, Nat.le_of_ble_eq_true rfl⟩ (rc_X3 X hWv17 hp0) (fun v q => ok_X3_inRow hp0 hx3 q) hf rfl rfl (Nat.le_of_ble_eq_true rfl) dX3_putElement_166 ⟨Nat.le_of_ble_eq_true rfl, Nat.le_of_ble_eq_true rfl⟩ (fun v18 H locs hv18 zv18 hWv18 hSv18 hf => ?_)
    refine m_callVi1 (z := false) (As := [.int (i32 v18)]) (rest := []) X hWv18 hSv18 hl.1 gc_X3_141 hd_X3_bitsOf ⟨rfl, rfl, Nat.le_of_ble_eq_true rfl, Nat.le_of_ble_eq_true rfl⟩ (rc_X3 X hWv18 hp0) (fun v q => ok_X3_bitsOf hp0 hv18 q) hf rfl rfl (Nat.le_of_ble_eq_true rfl) dX3_putElement_169 ⟨Nat.le_of_ble_eq_true rfl, Nat.le_of_ble_eq_true rfl⟩ (fun v19 H locs hv19 zv19 hWv19 hSv19 hf => ?_)
    refine lv_istore (lv' := [(6, .int (i32 v19)), (5, .int (i32 v17)), (0, .ref (ad p0)), (1, .int (i32 x1)), (3, .int (i32 x3))]) hx hb dX3_putElement_172 hl (by decide) rfl (fun ls hl => ?_)
    refine lv_aload_n hx hb dX3_putElement_174 rfl (lv_at hl 2 rfl) ?_
    refine g_X3_bits X hWv19 hp0 (X.2.2.2.2.1 _ mw101) dX3_putElement_175 ?_
    refine lv_iload_n hx hb dX3_putElement_178 rfl (lv_at hl 3 rfl) ?_
    refine lv_iload hx hb dX3_putElement_179 (lv_at hl 1 rfl) ?_
    refine lv_iload hx hb dX3_putElement_181 (lv_at hl 0 rfl) ?_
    refine m_const (v := 1) hx hb dX3_putElement_183 rfl ?_
    refine m_ior hx hb hf dX3_putElement_184 (fun v20 hv20 hf => ?_)
    refine m_iand hx hb hf dX3_putElement_185 (fun v21 hv21 hf => ?_)
    refine m_iast X hWv19 hSv19 (a_X3_bits hp0) hx1 hv21 hf dX3_putElement_186 (fun σ22 H locs hW22 hS22 hf => ?_)
    refine lv_aload_n hx hb dX3_putElement_187 rfl (lv_at hl 2 rfl) ?_
    refine g_X3_row X hW22 hp0 (X.2.2.2.2.1 _ mw96) dX3_putElement_188 ?_
    refine lv_iload_n hx hb dX3_putElement_191 rfl (lv_at hl 4 rfl) ?_
    refine lv_aload_n hx hb dX3_putElement_192 rfl (lv_at hl 2 rfl) ?_
    refine g_X3_row X hW22 hp0 (X.2.2.2.2.1 _ mw96) dX3_putElement_193 ?_
    refine lv_iload_n hx hb dX3_putElement_196 rfl (lv_at hl 4 rfl) ?_
    refine m_const (v := 1) hx hb dX3_putElement_197 rfl ?_
    refine m_iadd hx hb hf dX3_putElement_198 (fun v23 hv23 hf => ?_)
    refine lv_aload_n hx hb dX3_putElement_199 rfl (lv_at hl 2 rfl) ?_
    refine g_X3_rowSize X hW22 hp0 (X.2.2.2.2.1 _ mw97) dX3_putElement_200 ?_
    refine lv_iload_n hx hb dX3_putElement_203 rfl (lv_at hl 4 rfl) ?_
    refine m_isub hx hb hf dX3_putElement_204 (fun v24 hv24 hf => ?_)
    refine m_copy X hW22 hS22 hl.1 (a_X3_row hp0) hx3 hv23 hv24 hf (X.2.2.2.2.1 _ mw385) (X.2.2.2.2.1 _ mw387) (X.2.2.2.2.1 _ mw386) (X.2.2.2.2.1 _ mw10) (rest := []) (Nat.le_of_ble_eq_true rfl) (Nat.le_of_ble_eq_true rfl) dX3_putElement_205 (fun σ25 H locs hW25 hS25 hf => ?_)
    refine lv_aload_n hx hb dX3_putElement_208 rfl (lv_at hl 2 rfl) ?_
    refine g_X3_row X hW25 hp0 (X.2.2.2.2.1 _ mw96) dX3_putElement_209 ?_
    refine lv_iload_n hx hb dX3_putElement_212 rfl (lv_at hl 4 rfl) ?_
    refine lv_iload_n hx hb dX3_putElement_213 rfl (lv_at hl 3 rfl) ?_
    refine m_iast X hW25 hS25 (a_X3_row hp0) hx3 hx1 hf dX3_putElement_214 (fun σ26 H locs hW26 hS26 hf => ?_)
    refine lv_aload_n hx hb dX3_putElement_215 rfl (lv_at hl 2 rfl) ?_
    refine lv_dup hx hb dX3_putElement_216 rfl ?_
    refine g_X3_rowSize X hW26 hp0 (X.2.2.2.2.1 _ mw97) dX3_putElement_217 ?_
    refine m_const (v := 1) hx hb dX3_putElement_220 rfl ?_
    refine m_iadd hx hb hf dX3_putElement_221 (fun v27 hv27 hf => ?_)
    refine p_X3_rowSize X hW26 hS26 hp0 hv27 hf (X.2.2.2.2.1 _ mw97) dX3_putElement_222 (fun σ28 H locs hW28 hS28 hf => ?_)
    exact m_vret X hr hlocks hW28 hS28 (Option.some.inj hf) hQ dX3_putElement_225
  have hc106 : ∀ (σ : St) (H : Heap) (locs : List Loc) (ls : Array Slot) (x3 : Int), inR x3 → fX3_putElement_J106 n σ p0 x1 x3 = some σ2 → Wd D cy ad nm nv σ H → va_S (AW ad nm nv sz) s.heap H locs → lv_has ls 7 [(0, .ref (ad p0)), (1, .int (i32 x1)), (3, .int (i32 x3))] → W p l e ({ frames := 2, cells := 0, slots := 0, locals := 72 } : Room) s m args below meth c H locs 0 0 Q (F0 m 106 ls []) := by
    intro σ H locs ls x3 hx3 hf hW hS hl
    unfold fX3_putElement_J106 at hf
    refine lv_aload_n hx hb dX3_putElement_106 rfl (lv_at hl 0 rfl) ?_
    refine g_X3_states X hW hp0 (X.2.2.2.2.1 _ mw98) dX3_putElement_107 ?_
    refine lv_iload_n hx hb dX3_putElement_110 rfl (lv_at hl 1 rfl) ?_
    refine m_const (v := 3) hx hb dX3_putElement_111 rfl ?_
    refine m_iast X hW hS (a_X3_states hp0) hx1 (by decide) hf dX3_putElement_112 (fun σ13 H locs hW13 hS13 hf => ?_)
    refine lv_goto (tgt := 150) hx hb dX3_putElement_113 (by decide) ?_
    exact hc150 _ _ _ _ x3 hx3 hf hW13 hS13 (lv_sub hl [0, 1, 2] rfl)
  have hc133 : ∀ (σ : St) (H : Heap) (locs : List Loc) (ls : Array Slot) (x3 : Int), inR x3 → fX3_putElement_J133 n σ p0 x1 x3 = some σ2 → Wd D cy ad nm nv σ H → va_S (AW ad nm nv sz) s.heap H locs → lv_has ls 7 [(0, .ref (ad p0)), (1, .int (i32 x1)), (3, .int (i32 x3))] → W p l e ({ frames := 2, cells := 0, slots := 0, locals := 72 } : Room) s m args below meth c H locs 0 0 Q (F0 m 133 ls []) := by
    intro σ H locs ls x3 hx3 hf hW hS hl
    unfold fX3_putElement_J133 at hf
    refine lv_aload_n hx hb dX3_putElement_133 rfl (lv_at hl 0 rfl) ?_
    refine g_X3_states X hW hp0 (X.2.2.2.2.1 _ mw98) dX3_putElement_134 ?_
    refine lv_iload_n hx hb dX3_putElement_137 rfl (lv_at hl 1 rfl) ?_
    refine m_const (v := 2) hx hb dX3_putElement_138 rfl ?_
    refine m_iast X hW hS (a_X3_states hp0) hx1 (by decide) hf dX3_putElement_139 (fun σ14 H locs hW14 hS14 hf => ?_)
    refine lv_goto (tgt := 150) hx hb dX3_putElement_140 (by decide) ?_
    exact hc150 _ _ _ _ x3 hx3 hf hW14 hS14 (lv_sub hl [0, 1, 2] rfl)
  have hc90 : ∀ (σ : St) (H : Heap) (locs : List Loc) (ls : Array Slot) (x3 : Int) (x4 : Int) (t0 : Int) (t1 : Int), inR x3 → inR x4 → inR t0 → inR t1 → fX3_putElement_J90 n σ p0 x1 x3 x4 t0 t1 = some σ2 → Wd D cy ad nm nv σ H → va_S (AW ad nm nv sz) s.heap H locs → lv_has ls 7 [(0, .ref (ad p0)), (1, .int (i32 x1)), (3, .int (i32 x3)), (4, .int (i32 x4))] → W p l e ({ frames := 2, cells := 0, slots := 0, locals := 72 } : Room) s m args below meth c H locs 0 0 Q (F0 m 90 ls [.int (i32 t0), .int (i32 t1), .ref (ad (p0 + 5))]) := by
    intro σ H locs ls x3 x4 t0 t1 hx3 hx4 ht0 ht1 hf hW hS hl
    unfold fX3_putElement_J90 at hf
    refine m_zast X hW hS (a_X3_breaks hp0) ht1 ht0 hf dX3_putElement_90 (fun σ9 H locs hW9 hS9 hf => ?_)
    refine lv_aload_n hx hb dX3_putElement_91 rfl (lv_at hl 0 rfl) ?_
    refine g_X3_undone X hW9 hp0 (X.2.2.2.2.1 _ mw103) dX3_putElement_92 ?_
    refine lv_iload_n hx hb dX3_putElement_95 rfl (lv_at hl 1 rfl) ?_
    refine m_zald X hW9 (a_X3_undone hp0) hx1 hf dX3_putElement_96 (fun v10 hv10 hf => ?_)
    refine m_if_ne (tgt := 106) hx hb hv10 hf dX3_putElement_97 (by decide) (fun hf => ?_) (fun hf => ?_)
    · skip
      exact hc106 _ _ _ _ x3 hx3 hf hW9 hS9 (lv_sub hl [0, 1, 2] rfl)
    · skip
      refine lv_iload hx hb dX3_putElement_100 (lv_at hl 3 rfl) ?_
      refine m_const (v := 2) hx hb dX3_putElement_102 rfl ?_
      refine m_icmp_ne (tgt := 116) hx hb hx4 (by decide) hf dX3_putElement_103 (by decide) (fun hf => ?_) (fun hf => ?_)
      · skip
        refine lv_iload hx hb dX3_putElement_116 (lv_at hl 3 rfl) ?_
        refine m_const (v := 1) hx hb dX3_putElement_118 rfl ?_
        refine m_icmp_eq (tgt := 133) hx hb hx4 (by decide) hf dX3_putElement_119 (by decide) (fun hf => ?_) (fun hf => ?_)
        · skip
          exact hc133 _ _ _ _ x3 hx3 hf hW9 hS9 (lv_sub hl [0, 1, 2] rfl)
        · skip
          refine lv_aload_n hx hb dX3_putElement_122 rfl (lv_at hl 0 rfl) ?_
          refine g_X3_book X hW9 hp0 (X.2.2.2.2.1 _ mw95) dX3_putElement_123 ?_
          refine lv_iload_n hx hb dX3_putElement_126 rfl (lv_at hl 1 rfl) ?_
          refine m_callVi1 (z := true) (As := [.int (i32 x1)]) (rest := []) X hW9 hS9 hl.1 gc_X3_103 hd_X1_flagOf ⟨rfl, rfl, Nat.le_of_ble_eq_true rfl, Nat.le_of_ble_eq_true rfl⟩ (rc_X1 X hW9) (fun v q => ok_X1_flagOf hx1 q) hf rfl rfl (Nat.le_of_ble_eq_true rfl) dX3_putElement_127 ⟨Nat.le_of_ble_eq_true rfl, Nat.le_of_ble_eq_true rfl⟩ (fun v11 H locs hv11 zv11 hWv11 hSv11 hf => ?_)
          refine m_if_eq (tgt := 143) hx hb hv11 hf dX3_putElement_130 (by decide) (fun hf => ?_) (fun hf => ?_)
          · skip
            refine lv_aload_n hx hb dX3_putElement_143 rfl (lv_at hl 0 rfl) ?_
            refine g_X3_states X hWv11 hp0 (X.2.2.2.2.1 _ mw98) dX3_putElement_144 ?_
            refine lv_iload_n hx hb dX3_putElement_147 rfl (lv_at hl 1 rfl) ?_
            refine m_const (v := 1) hx hb dX3_putElement_148 rfl ?_
            refine m_iast X hWv11 hSv11 (a_X3_states hp0) hx1 (by decide) hf dX3_putElement_149 (fun σ12 H locs hW12 hS12 hf => ?_)
            exact hc150 _ _ _ _ x3 hx3 hf hW12 hS12 (lv_sub hl [0, 1, 2] rfl)
          · skip
            exact hc133 _ _ _ _ x3 hx3 hf hWv11 hSv11 (lv_sub hl [0, 1, 2] rfl)
      · skip
        exact hc106 _ _ _ _ x3 hx3 hf hW9 hS9 (lv_sub hl [0, 1, 2] rfl)
  refine lv_aload_n hx hb dX3_putElement_0 rfl (lv_at hl 0 rfl) ?_
  refine g_X3_book X hW hp0 (X.2.2.2.2.1 _ mw95) dX3_putElement_1 ?_
  refine lv_iload_n hx hb dX3_putElement_4 rfl (lv_at hl 1 rfl) ?_
  refine m_callVi1 (z := false) (As := [.int (i32 x1)]) (rest := []) X hW hS hl.1 gc_X3_82 hd_X1_firstOf ⟨rfl, rfl, Nat.le_of_ble_eq_true rfl, Nat.le_of_ble_eq_true rfl⟩ (rc_X1 X hW) (fun v q => ok_X1_firstOf hx1 q) hf rfl rfl (Nat.le_of_ble_eq_true rfl) dX3_putElement_5 ⟨Nat.le_of_ble_eq_true rfl, Nat.le_of_ble_eq_true rfl⟩ (fun v1 H locs hv1 zv1 hWv1 hSv1 hf => ?_)
  refine lv_istore_n (lv' := [(2, .int (i32 v1)), (0, .ref (ad p0)), (1, .int (i32 x1))]) hx hb dX3_putElement_8 rfl hl (by decide) rfl (fun ls hl => ?_)
  refine lv_aload_n hx hb dX3_putElement_9 rfl (lv_at hl 1 rfl) ?_
  refine lv_iload_n hx hb dX3_putElement_10 rfl (lv_at hl 0 rfl) ?_
  refine m_callVi1 (z := false) (As := [.int (i32 v1)]) (rest := []) X hWv1 hSv1 hl.1 gc_X3_125 hd_X3_placeOf ⟨rfl, rfl, Nat.le_of_ble_eq_true rfl, Nat.le_of_ble_eq_true rfl⟩ (rc_X3 X hWv1 hp0) (fun v q => ok_X3_placeOf hp0 hv1 q) hf rfl rfl (Nat.le_of_ble_eq_true rfl) dX3_putElement_11 ⟨Nat.le_of_ble_eq_true rfl, Nat.le_of_ble_eq_true rfl⟩ (fun v2 H locs hv2 zv2 hWv2 hSv2 hf => ?_)
  refine m_const (v := 1) hx hb dX3_putElement_14 rfl ?_
  refine m_iadd hx hb hf dX3_putElement_15 (fun v3 hv3 hf => ?_)
  refine lv_istore_n (lv' := [(3, .int (i32 v3)), (2, .int (i32 v1)), (0, .ref (ad p0)), (1, .int (i32 x1))]) hx hb dX3_putElement_16 rfl hl (by decide) rfl (fun ls hl => ?_)
  refine lv_iload_n hx hb dX3_putElement_17 rfl (lv_at hl 3 rfl) ?_
  refine m_callSi1 (z := true) (As := [.int (i32 x1)]) (rest := []) X hWv2 hSv2 hl.1 gc_X3_85 hd_X3_isNumber ⟨rfl, rfl, Nat.le_of_ble_eq_true rfl, Nat.le_of_ble_eq_true rfl⟩ (fun v q => ok_X3_isNumber hx1 q) hf rfl rfl (Nat.le_of_ble_eq_true rfl) dX3_putElement_18 ⟨Nat.le_of_ble_eq_true rfl, Nat.le_of_ble_eq_true rfl⟩ (fun v4 H locs hv4 zv4 hWv4 hSv4 hf => ?_)
  refine m_if_eq (tgt := 48) hx hb hv4 hf dX3_putElement_21 (by decide) (fun hf => ?_) (fun hf => ?_)
  · skip
    exact m_vret X hr hlocks hWv4 hSv4 (Option.some.inj hf) hQ dX3_putElement_48
  · skip
    refine lv_aload_n hx hb dX3_putElement_24 rfl (lv_at hl 2 rfl) ?_
    refine g_X3_rowSize X hWv4 hp0 (X.2.2.2.2.1 _ mw97) dX3_putElement_25 ?_
    refine lv_aload_n hx hb dX3_putElement_28 rfl (lv_at hl 2 rfl) ?_
    refine g_X3_row X hWv4 hp0 (X.2.2.2.2.1 _ mw96) dX3_putElement_29 ?_
    refine m_alen (v := 160) 0 X hWv4 (a_X3_row hp0) ent_1 rfl rfl rfl dX3_putElement_32 ?_
    refine m_icmp_ge (tgt := 48) hx hb (hWv4.2.1 _ _) (by decide) hf dX3_putElement_33 (by decide) (fun hf => ?_) (fun hf => ?_)
    · skip
      exact m_vret X hr hlocks hWv4 hSv4 (Option.some.inj hf) hQ dX3_putElement_48
    · skip
      refine lv_iload_n hx hb dX3_putElement_36 rfl (lv_at hl 0 rfl) ?_
      refine m_if_lt (tgt := 48) hx hb hv3 hf dX3_putElement_37 (by decide) (fun hf => ?_) (fun hf => ?_)
      · skip
        exact m_vret X hr hlocks hWv4 hSv4 (Option.some.inj hf) hQ dX3_putElement_48
      · skip
        refine lv_iload_n hx hb dX3_putElement_40 rfl (lv_at hl 0 rfl) ?_
        refine lv_aload_n hx hb dX3_putElement_41 rfl (lv_at hl 2 rfl) ?_
        refine g_X3_rowSize X hWv4 hp0 (X.2.2.2.2.1 _ mw97) dX3_putElement_42 ?_
        refine m_icmp_le (tgt := 49) hx hb hv3 (hWv4.2.1 _ _) hf dX3_putElement_45 (by decide) (fun hf => ?_) (fun hf => ?_)
        · skip
          refine lv_aload_n hx hb dX3_putElement_49 rfl (lv_at hl 2 rfl) ?_
          refine lv_aload_n hx hb dX3_putElement_50 rfl (lv_at hl 2 rfl) ?_
          refine g_X3_book X hWv4 hp0 (X.2.2.2.2.1 _ mw95) dX3_putElement_51 ?_
          refine lv_iload_n hx hb dX3_putElement_54 rfl (lv_at hl 3 rfl) ?_
          refine m_callVi1 (z := false) (As := [.int (i32 x1)]) (rest := [.ref (ad p0)]) X hWv4 hSv4 hl.1 gc_X3_128 hd_X1_siteOf ⟨rfl, rfl, Nat.le_of_ble_eq_true rfl, Nat.le_of_ble_eq_true rfl⟩ (rc_X1 X hWv4) (fun v q => ok_X1_siteOf hx1 q) hf rfl rfl (Nat.le_of_ble_eq_true rfl) dX3_putElement_55 ⟨Nat.le_of_ble_eq_true rfl, Nat.le_of_ble_eq_true rfl⟩ (fun v5 H locs hv5 zv5 hWv5 hSv5 hf => ?_)
          refine lv_aload_n hx hb dX3_putElement_58 rfl (lv_at hl 2 rfl) ?_
          refine lv_iload_n hx hb dX3_putElement_59 rfl (lv_at hl 1 rfl) ?_
          refine m_callVi1 (z := false) (As := [.int (i32 v1)]) (rest := [.int (i32 v5), .ref (ad p0)]) X hWv5 hSv5 hl.1 gc_X3_131 hd_X3_blockOf ⟨rfl, rfl, Nat.le_of_ble_eq_true rfl, Nat.le_of_ble_eq_true rfl⟩ (rc_X3 X hWv5 hp0) (fun v q => ok_X3_blockOf hp0 hv1 q) hf rfl rfl (Nat.le_of_ble_eq_true rfl) dX3_putElement_60 ⟨Nat.le_of_ble_eq_true rfl, Nat.le_of_ble_eq_true rfl⟩ (fun v6 H locs hv6 zv6 hWv6 hSv6 hf => ?_)
          refine m_callVi1 (z := false) (As := [.int (i32 v5), .int (i32 v6)]) (rest := []) X hWv6 hSv6 hl.1 gc_X3_134 hd_X3_levelIn ⟨rfl, rfl, Nat.le_of_ble_eq_true rfl, Nat.le_of_ble_eq_true rfl⟩ (rc_X3 X hWv6 hp0) (fun v q => ok_X3_levelIn hp0 hv5 hv6 q) hf rfl rfl (Nat.le_of_ble_eq_true rfl) dX3_putElement_63 ⟨Nat.le_of_ble_eq_true rfl, Nat.le_of_ble_eq_true rfl⟩ (fun v7 H locs hv7 zv7 hWv7 hSv7 hf => ?_)
          refine lv_istore (lv' := [(4, .int (i32 v7)), (3, .int (i32 v3)), (2, .int (i32 v1)), (0, .ref (ad p0)), (1, .int (i32 x1))]) hx hb dX3_putElement_66 hl (by decide) rfl (fun ls hl => ?_)
          refine lv_aload_n hx hb dX3_putElement_68 rfl (lv_at hl 3 rfl) ?_
          refine g_X3_breaks X hWv7 hp0 (X.2.2.2.2.1 _ mw99) dX3_putElement_69 ?_
          refine lv_iload_n hx hb dX3_putElement_72 rfl (lv_at hl 4 rfl) ?_
          refine lv_aload_n hx hb dX3_putElement_73 rfl (lv_at hl 3 rfl) ?_
          refine g_X3_book X hWv7 hp0 (X.2.2.2.2.1 _ mw95) dX3_putElement_74 ?_
          refine lv_iload_n hx hb dX3_putElement_77 rfl (lv_at hl 4 rfl) ?_
          refine m_callVi1 (z := false) (As := [.int (i32 x1)]) (rest := [.int (i32 x1), .ref (ad (p0 + 5))]) X hWv7 hSv7 hl.1 gc_X3_79 hd_X1_kindOf ⟨rfl, rfl, Nat.le_of_ble_eq_true rfl, Nat.le_of_ble_eq_true rfl⟩ (rc_X1 X hWv7) (fun v q => ok_X1_kindOf hx1 q) hf rfl rfl (Nat.le_of_ble_eq_true rfl) dX3_putElement_78 ⟨Nat.le_of_ble_eq_true rfl, Nat.le_of_ble_eq_true rfl⟩ (fun v8 H locs hv8 zv8 hWv8 hSv8 hf => ?_)
          refine m_const (v := 1) hx hb dX3_putElement_81 rfl ?_
          refine m_icmp_ne (tgt := 89) hx hb hv8 (by decide) hf dX3_putElement_82 (by decide) (fun hf => ?_) (fun hf => ?_)
          · skip
            refine m_const (v := 0) hx hb dX3_putElement_89 rfl ?_
            exact hc90 _ _ _ _ v3 v7 0 x1 hv3 hv7 (by decide) hx1 hf hWv8 hSv8 (lv_sub hl [3, 4, 1, 0] rfl)
          · skip
            refine m_const (v := 1) hx hb dX3_putElement_85 rfl ?_
            refine lv_goto (tgt := 90) hx hb dX3_putElement_86 (by decide) ?_
            exact hc90 _ _ _ _ v3 v7 1 x1 hv3 hv7 (by decide) hx1 hf hWv8 hSv8 (lv_sub hl [3, 4, 1, 0] rfl)
        · skip
          exact m_vret X hr hlocks hWv4 hSv4 (Option.some.inj hf) hQ dX3_putElement_48
set_option maxRecDepth 100000 in
set_option maxHeartbeats 4000000 in
theorem ok_X3_removeElement {l : Launch} {D : va_G} {cy : Nat → ClassId} {ad : Nat → Nat} {nm nv sz : Nat} {σ : St} {n : Nat} {p0 : Nat} {x1 : Int} {σ2 : St} (hp0 : isPaper p0) (hx1 : inR x1) (hf : fX3_removeElement n σ p0 x1 = some σ2) : CV l yX3_removeElement cX3_removeElement 6 none ({ frames := 2, cells := 0, slots := 0, locals := 44 } : Room) [.ref (ad p0), .int (i32 x1)] D cy ad nm nv sz σ σ2 := by
  refine m_entry RX3 rfl (by decide +kernel) (Nat.le_of_ble_eq_true rfl) ?_
  intro p e s m args below meth c Q hQ hr hlocks X hW hS ls hl
  have hx := X.1
  have hb := X.2.1
  have hl : lv_has ls 6 [(0, .ref (ad p0)), (1, .int (i32 x1))] := hl
  unfold fX3_removeElement at hf
  have hc101 : ∀ (σ : St) (H : Heap) (locs : List Loc) (ls : Array Slot) (x2 : Int), inR x2 → fX3_removeElement_J101 n σ p0 x1 x2 = some σ2 → Wd D cy ad nm nv σ H → va_S (AW ad nm nv sz) s.heap H locs → lv_has ls 6 [(0, .ref (ad p0)), (2, .int (i32 x2))] → W p l e ({ frames := 2, cells := 0, slots := 0, locals := 44 } : Room) s m args below meth c H locs 0 0 Q (F0 m 101 ls []) := by
    intro σ H locs ls x2 hx2 hf hW hS hl
    unfold fX3_removeElement_J101 at hf
    refine lv_aload_n hx hb dX3_removeElement_101 rfl (lv_at hl 0 rfl) ?_
    refine g_X3_removed X hW hp0 (X.2.2.2.2.1 _ mw100) dX3_removeElement_102 ?_
    refine lv_iload_n hx hb dX3_removeElement_105 rfl (lv_at hl 1 rfl) ?_
    refine m_const (v := 1) hx hb dX3_removeElement_106 rfl ?_
    refine m_zast X hW hS (a_X3_removed hp0) hx2 (by decide) hf dX3_removeElement_107 (fun σ10 H locs hW10 hS10 hf => ?_)
    refine lv_goto (tgt := 118) hx hb dX3_removeElement_108 (by decide) ?_
    exact m_vret X hr hlocks hW10 hS10 (Option.some.inj hf) hQ dX3_removeElement_118
  have hc111 : ∀ (σ : St) (H : Heap) (locs : List Loc) (ls : Array Slot), fX3_removeElement_J111 n σ p0 x1 = some σ2 → Wd D cy ad nm nv σ H → va_S (AW ad nm nv sz) s.heap H locs → lv_has ls 6 [(0, .ref (ad p0)), (1, .int (i32 x1))] → W p l e ({ frames := 2, cells := 0, slots := 0, locals := 44 } : Room) s m args below meth c H locs 0 0 Q (F0 m 111 ls []) := by
    intro σ H locs ls hf hW hS hl
    unfold fX3_removeElement_J111 at hf
    refine lv_aload_n hx hb dX3_removeElement_111 rfl (lv_at hl 0 rfl) ?_
    refine g_X3_asked X hW hp0 (X.2.2.2.2.1 _ mw102) dX3_removeElement_112 ?_
    refine lv_iload_n hx hb dX3_removeElement_115 rfl (lv_at hl 1 rfl) ?_
    refine m_const (v := 1) hx hb dX3_removeElement_116 rfl ?_
    refine m_zast X hW hS (a_X3_asked hp0) hx1 (by decide) hf dX3_removeElement_117 (fun σ11 H locs hW11 hS11 hf => ?_)
    exact m_vret X hr hlocks hW11 hS11 (Option.some.inj hf) hQ dX3_removeElement_118
  have hc78 : ∀ (σ : St) (H : Heap) (locs : List Loc) (ls : Array Slot) (x2 : Int) (x4 : Int) (t0 : Int), inR x2 → inR x4 → inR t0 → fX3_removeElement_J78 n σ p0 x1 x2 x4 t0 = some σ2 → Wd D cy ad nm nv σ H → va_S (AW ad nm nv sz) s.heap H locs → lv_has ls 6 [(0, .ref (ad p0)), (1, .int (i32 x1)), (2, .int (i32 x2)), (4, .int (i32 x4))] → W p l e ({ frames := 2, cells := 0, slots := 0, locals := 44 } : Room) s m args below meth c H locs 0 0 Q (F0 m 78 ls [.int (i32 t0)]) := by
    intro σ H locs ls x2 x4 t0 hx2 hx4 ht0 hf hW hS hl
    unfold fX3_removeElement_J78 at hf
    refine lv_istore (lv' := [(5, .int (i32 t0)), (0, .ref (ad p0)), (1, .int (i32 x1)), (2, .int (i32 x2)), (4, .int (i32 x4))]) hx hb dX3_removeElement_78 hl (by decide) rfl (fun ls hl => ?_)
    refine lv_iload hx hb dX3_removeElement_80 (lv_at hl 0 rfl) ?_
    refine m_if_ne (tgt := 101) hx hb ht0 hf dX3_removeElement_82 (by decide) (fun hf => ?_) (fun hf => ?_)
    · skip
      exact hc101 _ _ _ _ x2 hx2 hf hW hS (lv_sub hl [1, 3] rfl)
    · skip
      refine lv_iload hx hb dX3_removeElement_85 (lv_at hl 4 rfl) ?_
      refine m_if_ne (tgt := 111) hx hb hx4 hf dX3_removeElement_87 (by decide) (fun hf => ?_) (fun hf => ?_)
      · skip
        exact hc111 _ _ _ _  hf hW hS (lv_sub hl [1, 2] rfl)
      · skip
        refine lv_aload_n hx hb dX3_removeElement_90 rfl (lv_at hl 1 rfl) ?_
        refine g_X3_book X hW hp0 (X.2.2.2.2.1 _ mw95) dX3_removeElement_91 ?_
        refine lv_iload_n hx hb dX3_removeElement_94 rfl (lv_at hl 2 rfl) ?_
        refine m_callVi1 (z := true) (As := [.int (i32 x1)]) (rest := []) X hW hS hl.1 gc_X3_103 hd_X1_flagOf ⟨rfl, rfl, Nat.le_of_ble_eq_true rfl, Nat.le_of_ble_eq_true rfl⟩ (rc_X1 X hW) (fun v q => ok_X1_flagOf hx1 q) hf rfl rfl (Nat.le_of_ble_eq_true rfl) dX3_removeElement_95 ⟨Nat.le_of_ble_eq_true rfl, Nat.le_of_ble_eq_true rfl⟩ (fun v9 H locs hv9 zv9 hWv9 hSv9 hf => ?_)
        refine m_if_ne (tgt := 111) hx hb hv9 hf dX3_removeElement_98 (by decide) (fun hf => ?_) (fun hf => ?_)
        · skip
          exact hc111 _ _ _ _  hf hWv9 hSv9 (lv_sub hl [1, 2] rfl)
        · skip
          exact hc101 _ _ _ _ x2 hx2 hf hWv9 hSv9 (lv_sub hl [1, 3] rfl)
  have hc77 : ∀ (σ : St) (H : Heap) (locs : List Loc) (ls : Array Slot) (x2 : Int) (x4 : Int), inR x2 → inR x4 → fX3_removeElement_J77 n σ p0 x1 x2 x4 = some σ2 → Wd D cy ad nm nv σ H → va_S (AW ad nm nv sz) s.heap H locs → lv_has ls 6 [(0, .ref (ad p0)), (1, .int (i32 x1)), (2, .int (i32 x2)), (4, .int (i32 x4))] → W p l e ({ frames := 2, cells := 0, slots := 0, locals := 44 } : Room) s m args below meth c H locs 0 0 Q (F0 m 77 ls []) := by
    intro σ H locs ls x2 x4 hx2 hx4 hf hW hS hl
    unfold fX3_removeElement_J77 at hf
    refine m_const (v := 0) hx hb dX3_removeElement_77 rfl ?_
    exact hc78 _ _ _ _ x2 x4 0 hx2 hx4 (by decide) hf hW hS (lv_sub hl [0, 1, 2, 3] rfl)
  refine lv_aload_n hx hb dX3_removeElement_0 rfl (lv_at hl 0 rfl) ?_
  refine g_X3_book X hW hp0 (X.2.2.2.2.1 _ mw95) dX3_removeElement_1 ?_
  refine lv_iload_n hx hb dX3_removeElement_4 rfl (lv_at hl 1 rfl) ?_
  refine m_callVi1 (z := false) (As := [.int (i32 x1)]) (rest := []) X hW hS hl.1 gc_X3_82 hd_X1_firstOf ⟨rfl, rfl, Nat.le_of_ble_eq_true rfl, Nat.le_of_ble_eq_true rfl⟩ (rc_X1 X hW) (fun v q => ok_X1_firstOf hx1 q) hf rfl rfl (Nat.le_of_ble_eq_true rfl) dX3_removeElement_5 ⟨Nat.le_of_ble_eq_true rfl, Nat.le_of_ble_eq_true rfl⟩ (fun v1 H locs hv1 zv1 hWv1 hSv1 hf => ?_)
  refine lv_istore_n (lv' := [(2, .int (i32 v1)), (0, .ref (ad p0)), (1, .int (i32 x1))]) hx hb dX3_removeElement_8 rfl hl (by decide) rfl (fun ls hl => ?_)
  refine lv_aload_n hx hb dX3_removeElement_9 rfl (lv_at hl 1 rfl) ?_
  refine g_X3_book X hWv1 hp0 (X.2.2.2.2.1 _ mw95) dX3_removeElement_10 ?_
  refine lv_iload_n hx hb dX3_removeElement_13 rfl (lv_at hl 2 rfl) ?_
  refine m_callVi1 (z := false) (As := [.int (i32 x1)]) (rest := []) X hWv1 hSv1 hl.1 gc_X3_128 hd_X1_siteOf ⟨rfl, rfl, Nat.le_of_ble_eq_true rfl, Nat.le_of_ble_eq_true rfl⟩ (rc_X1 X hWv1) (fun v q => ok_X1_siteOf hx1 q) hf rfl rfl (Nat.le_of_ble_eq_true rfl) dX3_removeElement_14 ⟨Nat.le_of_ble_eq_true rfl, Nat.le_of_ble_eq_true rfl⟩ (fun v2 H locs hv2 zv2 hWv2 hSv2 hf => ?_)
  refine lv_istore_n (lv' := [(3, .int (i32 v2)), (2, .int (i32 v1)), (0, .ref (ad p0)), (1, .int (i32 x1))]) hx hb dX3_removeElement_17 rfl hl (by decide) rfl (fun ls hl => ?_)
  refine lv_aload_n hx hb dX3_removeElement_18 rfl (lv_at hl 2 rfl) ?_
  refine lv_iload_n hx hb dX3_removeElement_19 rfl (lv_at hl 0 rfl) ?_
  refine lv_aload_n hx hb dX3_removeElement_20 rfl (lv_at hl 2 rfl) ?_
  refine lv_iload_n hx hb dX3_removeElement_21 rfl (lv_at hl 1 rfl) ?_
  refine m_callVi1 (z := false) (As := [.int (i32 v1)]) (rest := [.int (i32 v2), .ref (ad p0)]) X hWv2 hSv2 hl.1 gc_X3_131 hd_X3_blockOf ⟨rfl, rfl, Nat.le_of_ble_eq_true rfl, Nat.le_of_ble_eq_true rfl⟩ (rc_X3 X hWv2 hp0) (fun v q => ok_X3_blockOf hp0 hv1 q) hf rfl rfl (Nat.le_of_ble_eq_true rfl) dX3_removeElement_22 ⟨Nat.le_of_ble_eq_true rfl, Nat.le_of_ble_eq_true rfl⟩ (fun v3 H locs hv3 zv3 hWv3 hSv3 hf => ?_)
  refine m_callVi1 (z := false) (As := [.int (i32 v2), .int (i32 v3)]) (rest := []) X hWv3 hSv3 hl.1 gc_X3_134 hd_X3_levelIn ⟨rfl, rfl, Nat.le_of_ble_eq_true rfl, Nat.le_of_ble_eq_true rfl⟩ (rc_X3 X hWv3 hp0) (fun v q => ok_X3_levelIn hp0 hv2 hv3 q) hf rfl rfl (Nat.le_of_ble_eq_true rfl) dX3_removeElement_25 ⟨Nat.le_of_ble_eq_true rfl, Nat.le_of_ble_eq_true rfl⟩ (fun v4 H locs hv4 zv4 hWv4 hSv4 hf => ?_)
  refine lv_istore (lv' := [(4, .int (i32 v4)), (3, .int (i32 v2)), (2, .int (i32 v1)), (0, .ref (ad p0)), (1, .int (i32 x1))]) hx hb dX3_removeElement_28 hl (by decide) rfl (fun ls hl => ?_)
  refine lv_iload_n hx hb dX3_removeElement_30 rfl (lv_at hl 2 rfl) ?_
  refine m_callSi1 (z := true) (As := [.int (i32 v1)]) (rest := []) X hWv4 hSv4 hl.1 gc_X3_85 hd_X3_isNumber ⟨rfl, rfl, Nat.le_of_ble_eq_true rfl, Nat.le_of_ble_eq_true rfl⟩ (fun v q => ok_X3_isNumber hv1 q) hf rfl rfl (Nat.le_of_ble_eq_true rfl) dX3_removeElement_31 ⟨Nat.le_of_ble_eq_true rfl, Nat.le_of_ble_eq_true rfl⟩ (fun v5 H locs hv5 zv5 hWv5 hSv5 hf => ?_)
  refine m_if_eq (tgt := 50) hx hb hv5 hf dX3_removeElement_34 (by decide) (fun hf => ?_) (fun hf => ?_)
  · skip
    exact m_vret X hr hlocks hWv5 hSv5 (Option.some.inj hf) hQ dX3_removeElement_50
  · skip
    refine lv_iload_n hx hb dX3_removeElement_37 rfl (lv_at hl 4 rfl) ?_
    refine m_callSi1 (z := true) (As := [.int (i32 x1)]) (rest := []) X hWv5 hSv5 hl.1 gc_X3_85 hd_X3_isNumber ⟨rfl, rfl, Nat.le_of_ble_eq_true rfl, Nat.le_of_ble_eq_true rfl⟩ (fun v q => ok_X3_isNumber hx1 q) hf rfl rfl (Nat.le_of_ble_eq_true rfl) dX3_removeElement_38 ⟨Nat.le_of_ble_eq_true rfl, Nat.le_of_ble_eq_true rfl⟩ (fun v6 H locs hv6 zv6 hWv6 hSv6 hf => ?_)
    refine m_if_eq (tgt := 50) hx hb hv6 hf dX3_removeElement_41 (by decide) (fun hf => ?_) (fun hf => ?_)
    · skip
      exact m_vret X hr hlocks hWv6 hSv6 (Option.some.inj hf) hQ dX3_removeElement_50
    · skip
      refine lv_iload hx hb dX3_removeElement_44 (lv_at hl 0 rfl) ?_
      refine m_const (v := 2) hx hb dX3_removeElement_46 rfl ?_
      refine m_icmp_ne (tgt := 51) hx hb hv4 (by decide) hf dX3_removeElement_47 (by decide) (fun hf => ?_) (fun hf => ?_)
      · skip
        refine lv_aload_n hx hb dX3_removeElement_51 rfl (lv_at hl 3 rfl) ?_
        refine g_X3_states X hWv6 hp0 (X.2.2.2.2.1 _ mw98) dX3_removeElement_52 ?_
        refine lv_iload_n hx hb dX3_removeElement_55 rfl (lv_at hl 2 rfl) ?_
        refine m_iald X hWv6 (a_X3_states hp0) hv1 hf dX3_removeElement_56 (fun v7 hv7 hf => ?_)
        refine m_const (v := 2) hx hb dX3_removeElement_57 rfl ?_
        refine m_icmp_ne (tgt := 77) hx hb hv7 (by decide) hf dX3_removeElement_58 (by decide) (fun hf => ?_) (fun hf => ?_)
        · skip
          exact hc77 _ _ _ _ v1 v4 hv1 hv4 hf hWv6 hSv6 (lv_sub hl [3, 4, 2, 0] rfl)
        · skip
          refine lv_aload_n hx hb dX3_removeElement_61 rfl (lv_at hl 3 rfl) ?_
          refine g_X3_book X hWv6 hp0 (X.2.2.2.2.1 _ mw95) dX3_removeElement_62 ?_
          refine lv_iload_n hx hb dX3_removeElement_65 rfl (lv_at hl 2 rfl) ?_
          refine m_callVi1 (z := false) (As := [.int (i32 v1)]) (rest := []) X hWv6 hSv6 hl.1 gc_X3_128 hd_X1_siteOf ⟨rfl, rfl, Nat.le_of_ble_eq_true rfl, Nat.le_of_ble_eq_true rfl⟩ (rc_X1 X hWv6) (fun v q => ok_X1_siteOf hv1 q) hf rfl rfl (Nat.le_of_ble_eq_true rfl) dX3_removeElement_66 ⟨Nat.le_of_ble_eq_true rfl, Nat.le_of_ble_eq_true rfl⟩ (fun v8 H locs hv8 zv8 hWv8 hSv8 hf => ?_)
          refine lv_iload_n hx hb dX3_removeElement_69 rfl (lv_at hl 1 rfl) ?_
          refine m_icmp_ne (tgt := 77) hx hb hv8 hv2 hf dX3_removeElement_70 (by decide) (fun hf => ?_) (fun hf => ?_)
          · skip
            exact hc77 _ _ _ _ v1 v4 hv1 hv4 hf hWv8 hSv8 (lv_sub hl [3, 4, 2, 0] rfl)
          · skip
            refine m_const (v := 1) hx hb dX3_removeElement_73 rfl ?_
            refine lv_goto (tgt := 78) hx hb dX3_removeElement_74 (by decide) ?_
            exact hc78 _ _ _ _ v1 v4 1 hv1 hv4 (by decide) hf hWv8 hSv8 (lv_sub hl [3, 4, 2, 0] rfl)
      · skip
        exact m_vret X hr hlocks hWv6 hSv6 (Option.some.inj hf) hQ dX3_removeElement_50
set_option maxRecDepth 100000 in
set_option maxHeartbeats 4000000 in
theorem ok_X3_restoreElement {l : Launch} {D : va_G} {cy : Nat → ClassId} {ad : Nat → Nat} {nm nv sz : Nat} {σ : St} {n : Nat} {p0 : Nat} {x1 : Int} {σ2 : St} (hp0 : isPaper p0) (hx1 : inR x1) (hf : fX3_restoreElement n σ p0 x1 = some σ2) : CV l yX3_restoreElement cX3_restoreElement 3 none ({ frames := 2, cells := 0, slots := 0, locals := 44 } : Room) [.ref (ad p0), .int (i32 x1)] D cy ad nm nv sz σ σ2 := by
  refine m_entry RX3 rfl (by decide +kernel) (Nat.le_of_ble_eq_true rfl) ?_
  intro p e s m args below meth c Q hQ hr hlocks X hW hS ls hl
  have hx := X.1
  have hb := X.2.1
  have hl : lv_has ls 3 [(0, .ref (ad p0)), (1, .int (i32 x1))] := hl
  unfold fX3_restoreElement at hf
  refine lv_aload_n hx hb dX3_restoreElement_0 rfl (lv_at hl 0 rfl) ?_
  refine g_X3_book X hW hp0 (X.2.2.2.2.1 _ mw95) dX3_restoreElement_1 ?_
  refine lv_iload_n hx hb dX3_restoreElement_4 rfl (lv_at hl 1 rfl) ?_
  refine m_callVi1 (z := false) (As := [.int (i32 x1)]) (rest := []) X hW hS hl.1 gc_X3_82 hd_X1_firstOf ⟨rfl, rfl, Nat.le_of_ble_eq_true rfl, Nat.le_of_ble_eq_true rfl⟩ (rc_X1 X hW) (fun v q => ok_X1_firstOf hx1 q) hf rfl rfl (Nat.le_of_ble_eq_true rfl) dX3_restoreElement_5 ⟨Nat.le_of_ble_eq_true rfl, Nat.le_of_ble_eq_true rfl⟩ (fun v1 H locs hv1 zv1 hWv1 hSv1 hf => ?_)
  refine lv_istore_n (lv' := [(2, .int (i32 v1)), (0, .ref (ad p0)), (1, .int (i32 x1))]) hx hb dX3_restoreElement_8 rfl hl (by decide) rfl (fun ls hl => ?_)
  refine lv_iload_n hx hb dX3_restoreElement_9 rfl (lv_at hl 0 rfl) ?_
  refine m_callSi1 (z := true) (As := [.int (i32 v1)]) (rest := []) X hWv1 hSv1 hl.1 gc_X3_85 hd_X3_isNumber ⟨rfl, rfl, Nat.le_of_ble_eq_true rfl, Nat.le_of_ble_eq_true rfl⟩ (fun v q => ok_X3_isNumber hv1 q) hf rfl rfl (Nat.le_of_ble_eq_true rfl) dX3_restoreElement_10 ⟨Nat.le_of_ble_eq_true rfl, Nat.le_of_ble_eq_true rfl⟩ (fun v2 H locs hv2 zv2 hWv2 hSv2 hf => ?_)
  refine m_if_eq (tgt := 43) hx hb hv2 hf dX3_restoreElement_13 (by decide) (fun hf => ?_) (fun hf => ?_)
  · skip
    exact m_vret X hr hlocks hWv2 hSv2 (Option.some.inj hf) hQ dX3_restoreElement_43
  · skip
    refine lv_aload_n hx hb dX3_restoreElement_16 rfl (lv_at hl 1 rfl) ?_
    refine lv_aload_n hx hb dX3_restoreElement_17 rfl (lv_at hl 1 rfl) ?_
    refine g_X3_book X hWv2 hp0 (X.2.2.2.2.1 _ mw95) dX3_restoreElement_18 ?_
    refine lv_iload_n hx hb dX3_restoreElement_21 rfl (lv_at hl 2 rfl) ?_
    refine m_callVi1 (z := false) (As := [.int (i32 x1)]) (rest := [.ref (ad p0)]) X hWv2 hSv2 hl.1 gc_X3_128 hd_X1_siteOf ⟨rfl, rfl, Nat.le_of_ble_eq_true rfl, Nat.le_of_ble_eq_true rfl⟩ (rc_X1 X hWv2) (fun v q => ok_X1_siteOf hx1 q) hf rfl rfl (Nat.le_of_ble_eq_true rfl) dX3_restoreElement_22 ⟨Nat.le_of_ble_eq_true rfl, Nat.le_of_ble_eq_true rfl⟩ (fun v3 H locs hv3 zv3 hWv3 hSv3 hf => ?_)
    refine lv_aload_n hx hb dX3_restoreElement_25 rfl (lv_at hl 1 rfl) ?_
    refine lv_iload_n hx hb dX3_restoreElement_26 rfl (lv_at hl 0 rfl) ?_
    refine m_callVi1 (z := false) (As := [.int (i32 v1)]) (rest := [.int (i32 v3), .ref (ad p0)]) X hWv3 hSv3 hl.1 gc_X3_131 hd_X3_blockOf ⟨rfl, rfl, Nat.le_of_ble_eq_true rfl, Nat.le_of_ble_eq_true rfl⟩ (rc_X3 X hWv3 hp0) (fun v q => ok_X3_blockOf hp0 hv1 q) hf rfl rfl (Nat.le_of_ble_eq_true rfl) dX3_restoreElement_27 ⟨Nat.le_of_ble_eq_true rfl, Nat.le_of_ble_eq_true rfl⟩ (fun v4 H locs hv4 zv4 hWv4 hSv4 hf => ?_)
    refine m_callVi1 (z := false) (As := [.int (i32 v3), .int (i32 v4)]) (rest := []) X hWv4 hSv4 hl.1 gc_X3_134 hd_X3_levelIn ⟨rfl, rfl, Nat.le_of_ble_eq_true rfl, Nat.le_of_ble_eq_true rfl⟩ (rc_X3 X hWv4 hp0) (fun v q => ok_X3_levelIn hp0 hv3 hv4 q) hf rfl rfl (Nat.le_of_ble_eq_true rfl) dX3_restoreElement_30 ⟨Nat.le_of_ble_eq_true rfl, Nat.le_of_ble_eq_true rfl⟩ (fun v5 H locs hv5 zv5 hWv5 hSv5 hf => ?_)
    refine m_if_ne (tgt := 43) hx hb hv5 hf dX3_restoreElement_33 (by decide) (fun hf => ?_) (fun hf => ?_)
    · skip
      exact m_vret X hr hlocks hWv5 hSv5 (Option.some.inj hf) hQ dX3_restoreElement_43
    · skip
      refine lv_aload_n hx hb dX3_restoreElement_36 rfl (lv_at hl 1 rfl) ?_
      refine g_X3_removed X hWv5 hp0 (X.2.2.2.2.1 _ mw100) dX3_restoreElement_37 ?_
      refine lv_iload_n hx hb dX3_restoreElement_40 rfl (lv_at hl 0 rfl) ?_
      refine m_const (v := 0) hx hb dX3_restoreElement_41 rfl ?_
      refine m_zast X hWv5 hSv5 (a_X3_removed hp0) hv1 (by decide) hf dX3_restoreElement_42 (fun σ6 H locs hW6 hS6 hf => ?_)
      exact m_vret X hr hlocks hW6 hS6 (Option.some.inj hf) hQ dX3_restoreElement_43
set_option maxRecDepth 100000 in
set_option maxHeartbeats 4000000 in
theorem ok_X3_paint {l : Launch} {D : va_G} {cy : Nat → ClassId} {ad : Nat → Nat} {nm nv sz : Nat} {σ : St} {n : Nat} {p0 : Nat} {x1 : Int} {x2 : Int} {x3 : Int} {σ2 : St} (hp0 : isPaper p0) (hx1 : inR x1) (hx2 : inR x2) (hx3 : inR x3) (hf : fX3_paint n σ p0 x1 x2 x3 = some σ2) : CV l yX3_paint cX3_paint 12 none ({ frames := 2, cells := 0, slots := 0, locals := 42 } : Room) [.ref (ad p0), .int (i32 x1), .int (i32 x2), .int (i32 x3)] D cy ad nm nv sz σ σ2 := by
  refine m_entry RX3 rfl (by decide +kernel) (Nat.le_of_ble_eq_true rfl) ?_
  intro p e s m args below meth c Q hQ hr hlocks X hW hS ls hl
  have hx := X.1
  have hb := X.2.1
  have hl : lv_has ls 12 [(0, .ref (ad p0)), (1, .int (i32 x1)), (2, .int (i32 x2)), (3, .int (i32 x3))] := hl
  unfold fX3_paint at hf
  have hc58 : ∀ (k58 : Nat) (σ : St) (H : Heap) (locs : List Loc) (ls : Array Slot) (x4 : Int) (x5 : Int) (x6 : Int) (x7 : Int) (x8 : Int) (x9 : Int) (x10 : Int), inR x4 → inR x5 → inR x6 → inR x7 → inR x8 → inR x9 → inR x10 → fX3_paint_L58 n p0 x1 x2 x3 x4 x5 x6 x7 k58 σ x8 x9 x10 = some σ2 → Wd D cy ad nm nv σ H → va_S (AW ad nm nv sz) s.heap H locs → lv_has ls 12 [(0, .ref (ad p0)), (2, .int (i32 x2)), (3, .int (i32 x3)), (4, .int (i32 x4)), (5, .int (i32 x5)), (6, .int (i32 x6)), (7, .int (i32 x7)), (8, .int (i32 x8)), (9, .int (i32 x9)), (10, .int (i32 x10))] → W p l e ({ frames := 2, cells := 0, slots := 0, locals := 42 } : Room) s m args below meth c H locs 0 0 Q (F0 m 58 ls []) := by
    intro k58
    induction k58 with
    | zero =>
      intro σ H locs ls x4 x5 x6 x7 x8 x9 x10 hx4 hx5 hx6 hx7 hx8 hx9 hx10 hf
      have hf : (none : Option St) = some σ2 := hf
      cases hf
    | succ k58 ih58 =>
      intro σ H locs ls x4 x5 x6 x7 x8 x9 x10 hx4 hx5 hx6 hx7 hx8 hx9 hx10 hf hW hS hl
      have hf : fX3_paint_L58s n p0 x1 x2 x3 x4 x5 x6 x7 (fX3_paint_L58 n p0 x1 x2 x3 x4 x5 x6 x7 k58) σ x8 x9 x10 = some σ2 := hf
      unfold fX3_paint_L58s at hf
      have hc160 : ∀ (σ : St) (H : Heap) (locs : List Loc) (ls : Array Slot) (x4 : Int) (x5 : Int) (x6 : Int) (x7 : Int) (x8 : Int) (x9 : Int) (x10 : Int) (x11 : Int) (t0 : Int) (t1 : Int), inR x4 → inR x5 → inR x6 → inR x7 → inR x8 → inR x9 → inR x10 → inR x11 → inR t0 → inR t1 → fX3_paint_J160 n (fX3_paint_L58 n p0 x1 x2 x3 x4 x5 x6 x7 k58) σ p0 x1 x2 x3 x4 x5 x6 x7 x8 x9 x10 x11 t0 t1 = some σ2 → Wd D cy ad nm nv σ H → va_S (AW ad nm nv sz) s.heap H locs → lv_has ls 12 [(0, .ref (ad p0)), (2, .int (i32 x2)), (3, .int (i32 x3)), (4, .int (i32 x4)), (5, .int (i32 x5)), (6, .int (i32 x6)), (7, .int (i32 x7)), (8, .int (i32 x8)), (9, .int (i32 x9)), (10, .int (i32 x10)), (11, .int (i32 x11))] → W p l e ({ frames := 2, cells := 0, slots := 0, locals := 42 } : Room) s m args below meth c H locs 0 0 Q (F0 m 160 ls [.int (i32 t0), .int (i32 t1), .ref (ad (p0 + 7))]) := by
        intro σ H locs ls x4 x5 x6 x7 x8 x9 x10 x11 t0 t1 hx4 hx5 hx6 hx7 hx8 hx9 hx10 hx11 ht0 ht1 hf hW hS hl
        unfold fX3_paint_J160 at hf
        refine m_iast X hW hS (a_X3_bits hp0) ht1 ht0 hf dX3_paint_160 (fun σ17 H locs hW17 hS17 hf => ?_)
        refine lv_iload hx hb dX3_paint_161 (lv_at hl 10 rfl) ?_
        refine lv_iload hx hb dX3_paint_163 (lv_at hl 4 rfl) ?_
        refine m_icmp_ne (tgt := 169) hx hb hx11 hx5 hf dX3_paint_165 (by decide) (fun hf => ?_) (fun hf => ?_)
        · skip
          refine m_iinc (k0 := 9) (fun v18 => [(10, .int (i32 v18)), (0, .ref (ad p0)), (2, .int (i32 x2)), (3, .int (i32 x3)), (4, .int (i32 x4)), (5, .int (i32 x5)), (6, .int (i32 x6)), (7, .int (i32 x7)), (8, .int (i32 x8)), (9, .int (i32 x9)), (11, .int (i32 x11))]) hx hb hf dX3_paint_169 hl rfl (by decide) (fun _ => rfl) (fun v18 ls hv18 hf hl => ?_)
          have hl : lv_has ls 12 [(10, .int (i32 v18)), (0, .ref (ad p0)), (2, .int (i32 x2)), (3, .int (i32 x3)), (4, .int (i32 x4)), (5, .int (i32 x5)), (6, .int (i32 x6)), (7, .int (i32 x7)), (8, .int (i32 x8)), (9, .int (i32 x9)), (11, .int (i32 x11))] := hl
          refine lv_goto (tgt := 58) hx hb dX3_paint_172 (by decide) ?_
          exact ih58 _ _ _ _ x4 x5 x6 x7 x8 x9 v18 hx4 hx5 hx6 hx7 hx8 hx9 hv18 hf hW17 hS17 (lv_sub hl [1, 2, 3, 4, 5, 6, 7, 8, 9, 0] rfl)
        · skip
          exact m_vret X hr hlocks hW17 hS17 (Option.some.inj hf) hQ dX3_paint_168
      have hc127 : ∀ (σ : St) (H : Heap) (locs : List Loc) (ls : Array Slot) (x4 : Int) (x5 : Int) (x6 : Int) (x7 : Int) (x8 : Int) (x9 : Int) (x10 : Int) (x11 : Int), inR x4 → inR x5 → inR x6 → inR x7 → inR x8 → inR x9 → inR x10 → inR x11 → fX3_paint_J127 n (fX3_paint_L58 n p0 x1 x2 x3 x4 x5 x6 x7 k58) σ p0 x1 x2 x3 x4 x5 x6 x7 x8 x9 x10 x11 = some σ2 → Wd D cy ad nm nv σ H → va_S (AW ad nm nv sz) s.heap H locs → lv_has ls 12 [(0, .ref (ad p0)), (2, .int (i32 x2)), (3, .int (i32 x3)), (4, .int (i32 x4)), (5, .int (i32 x5)), (6, .int (i32 x6)), (7, .int (i32 x7)), (8, .int (i32 x8)), (9, .int (i32 x9)), (10, .int (i32 x10)), (11, .int (i32 x11))] → W p l e ({ frames := 2, cells := 0, slots := 0, locals := 42 } : Room) s m args below meth c H locs 0 0 Q (F0 m 127 ls []) := by
        intro σ H locs ls x4 x5 x6 x7 x8 x9 x10 x11 hx4 hx5 hx6 hx7 hx8 hx9 hx10 hx11 hf hW hS hl
        unfold fX3_paint_J127 at hf
        refine lv_aload_n hx hb dX3_paint_127 rfl (lv_at hl 0 rfl) ?_
        refine g_X3_bits X hW hp0 (X.2.2.2.2.1 _ mw101) dX3_paint_128 ?_
        refine lv_iload hx hb dX3_paint_131 (lv_at hl 10 rfl) ?_
        refine lv_iload_n hx hb dX3_paint_133 rfl (lv_at hl 2 rfl) ?_
        refine m_if_eq (tgt := 149) hx hb hx3 hf dX3_paint_134 (by decide) (fun hf => ?_) (fun hf => ?_)
        · skip
          refine lv_aload_n hx hb dX3_paint_149 rfl (lv_at hl 0 rfl) ?_
          refine g_X3_bits X hW hp0 (X.2.2.2.2.1 _ mw101) dX3_paint_150 ?_
          refine lv_iload hx hb dX3_paint_153 (lv_at hl 10 rfl) ?_
          refine m_iald X hW (a_X3_bits hp0) hx11 hf dX3_paint_155 (fun v12 hv12 hf => ?_)
          refine lv_iload_n hx hb dX3_paint_156 rfl (lv_at hl 1 rfl) ?_
          refine m_const (v := (-1)) hx hb dX3_paint_157 rfl ?_
          refine m_ixor hx hb hf dX3_paint_158 (fun v13 hv13 hf => ?_)
          refine m_iand hx hb hf dX3_paint_159 (fun v14 hv14 hf => ?_)
          exact hc160 _ _ _ _ x4 x5 x6 x7 x8 x9 x10 x11 v14 x11 hx4 hx5 hx6 hx7 hx8 hx9 hx10 hx11 hv14 hx11 hf hW hS (lv_sub hl [0, 1, 2, 3, 4, 5, 6, 7, 8, 9, 10] rfl)
        · skip
          refine lv_aload_n hx hb dX3_paint_137 rfl (lv_at hl 0 rfl) ?_
          refine g_X3_bits X hW hp0 (X.2.2.2.2.1 _ mw101) dX3_paint_138 ?_
          refine lv_iload hx hb dX3_paint_141 (lv_at hl 10 rfl) ?_
          refine m_iald X hW (a_X3_bits hp0) hx11 hf dX3_paint_143 (fun v15 hv15 hf => ?_)
          refine lv_iload_n hx hb dX3_paint_144 rfl (lv_at hl 1 rfl) ?_
          refine m_ior hx hb hf dX3_paint_145 (fun v16 hv16 hf => ?_)
          refine lv_goto (tgt := 160) hx hb dX3_paint_146 (by decide) ?_
          exact hc160 _ _ _ _ x4 x5 x6 x7 x8 x9 x10 x11 v16 x11 hx4 hx5 hx6 hx7 hx8 hx9 hx10 hx11 hv16 hx11 hf hW hS (lv_sub hl [0, 1, 2, 3, 4, 5, 6, 7, 8, 9, 10] rfl)
      have hc98 : ∀ (σ : St) (H : Heap) (locs : List Loc) (ls : Array Slot) (x4 : Int) (x5 : Int) (x6 : Int) (x7 : Int) (x8 : Int) (x9 : Int) (x10 : Int) (x11 : Int), inR x4 → inR x5 → inR x6 → inR x7 → inR x8 → inR x9 → inR x10 → inR x11 → fX3_paint_J98 n (fX3_paint_L58 n p0 x1 x2 x3 x4 x5 x6 x7 k58) σ p0 x1 x2 x3 x4 x5 x6 x7 x8 x9 x10 x11 = some σ2 → Wd D cy ad nm nv σ H → va_S (AW ad nm nv sz) s.heap H locs → lv_has ls 12 [(0, .ref (ad p0)), (2, .int (i32 x2)), (3, .int (i32 x3)), (4, .int (i32 x4)), (5, .int (i32 x5)), (6, .int (i32 x6)), (7, .int (i32 x7)), (8, .int (i32 x8)), (9, .int (i32 x9)), (10, .int (i32 x10)), (11, .int (i32 x11))] → W p l e ({ frames := 2, cells := 0, slots := 0, locals := 42 } : Room) s m args below meth c H locs 0 0 Q (F0 m 98 ls []) := by
        intro σ H locs ls x4 x5 x6 x7 x8 x9 x10 x11 hx4 hx5 hx6 hx7 hx8 hx9 hx10 hx11 hf hW hS hl
        unfold fX3_paint_J98 at hf
        refine lv_iload hx hb dX3_paint_98 (lv_at hl 7 rfl) ?_
        refine m_if_eq (tgt := 161) hx hb hx8 hf dX3_paint_100 (by decide) (fun hf => ?_) (fun hf => ?_)
        · skip
          refine lv_iload hx hb dX3_paint_161 (lv_at hl 10 rfl) ?_
          refine lv_iload hx hb dX3_paint_163 (lv_at hl 4 rfl) ?_
          refine m_icmp_ne (tgt := 169) hx hb hx11 hx5 hf dX3_paint_165 (by decide) (fun hf => ?_) (fun hf => ?_)
          · skip
            refine m_iinc (k0 := 9) (fun v7 => [(10, .int (i32 v7)), (0, .ref (ad p0)), (2, .int (i32 x2)), (3, .int (i32 x3)), (4, .int (i32 x4)), (5, .int (i32 x5)), (6, .int (i32 x6)), (7, .int (i32 x7)), (8, .int (i32 x8)), (9, .int (i32 x9)), (11, .int (i32 x11))]) hx hb hf dX3_paint_169 hl rfl (by decide) (fun _ => rfl) (fun v7 ls hv7 hf hl => ?_)
            have hl : lv_has ls 12 [(10, .int (i32 v7)), (0, .ref (ad p0)), (2, .int (i32 x2)), (3, .int (i32 x3)), (4, .int (i32 x4)), (5, .int (i32 x5)), (6, .int (i32 x6)), (7, .int (i32 x7)), (8, .int (i32 x8)), (9, .int (i32 x9)), (11, .int (i32 x11))] := hl
            refine lv_goto (tgt := 58) hx hb dX3_paint_172 (by decide) ?_
            exact ih58 _ _ _ _ x4 x5 x6 x7 x8 x9 v7 hx4 hx5 hx6 hx7 hx8 hx9 hv7 hf hW hS (lv_sub hl [1, 2, 3, 4, 5, 6, 7, 8, 9, 0] rfl)
          · skip
            exact m_vret X hr hlocks hW hS (Option.some.inj hf) hQ dX3_paint_168
        · skip
          refine lv_iload hx hb dX3_paint_103 (lv_at hl 10 rfl) ?_
          refine m_callSi1 (z := true) (As := [.int (i32 x11)]) (rest := []) X hW hS hl.1 gc_X3_85 hd_X3_isNumber ⟨rfl, rfl, Nat.le_of_ble_eq_true rfl, Nat.le_of_ble_eq_true rfl⟩ (fun v q => ok_X3_isNumber hx11 q) hf rfl rfl (Nat.le_of_ble_eq_true rfl) dX3_paint_105 ⟨Nat.le_of_ble_eq_true rfl, Nat.le_of_ble_eq_true rfl⟩ (fun v8 H locs hv8 zv8 hWv8 hSv8 hf => ?_)
          refine m_if_eq (tgt := 161) hx hb hv8 hf dX3_paint_108 (by decide) (fun hf => ?_) (fun hf => ?_)
          · skip
            refine lv_iload hx hb dX3_paint_161 (lv_at hl 10 rfl) ?_
            refine lv_iload hx hb dX3_paint_163 (lv_at hl 4 rfl) ?_
            refine m_icmp_ne (tgt := 169) hx hb hx11 hx5 hf dX3_paint_165 (by decide) (fun hf => ?_) (fun hf => ?_)
            · skip
              refine m_iinc (k0 := 9) (fun v9 => [(10, .int (i32 v9)), (0, .ref (ad p0)), (2, .int (i32 x2)), (3, .int (i32 x3)), (4, .int (i32 x4)), (5, .int (i32 x5)), (6, .int (i32 x6)), (7, .int (i32 x7)), (8, .int (i32 x8)), (9, .int (i32 x9)), (11, .int (i32 x11))]) hx hb hf dX3_paint_169 hl rfl (by decide) (fun _ => rfl) (fun v9 ls hv9 hf hl => ?_)
              have hl : lv_has ls 12 [(10, .int (i32 v9)), (0, .ref (ad p0)), (2, .int (i32 x2)), (3, .int (i32 x3)), (4, .int (i32 x4)), (5, .int (i32 x5)), (6, .int (i32 x6)), (7, .int (i32 x7)), (8, .int (i32 x8)), (9, .int (i32 x9)), (11, .int (i32 x11))] := hl
              refine lv_goto (tgt := 58) hx hb dX3_paint_172 (by decide) ?_
              exact ih58 _ _ _ _ x4 x5 x6 x7 x8 x9 v9 hx4 hx5 hx6 hx7 hx8 hx9 hv9 hf hWv8 hSv8 (lv_sub hl [1, 2, 3, 4, 5, 6, 7, 8, 9, 0] rfl)
            · skip
              exact m_vret X hr hlocks hWv8 hSv8 (Option.some.inj hf) hQ dX3_paint_168
          · skip
            refine lv_iload hx hb dX3_paint_111 (lv_at hl 6 rfl) ?_
            refine m_if_eq (tgt := 127) hx hb hx7 hf dX3_paint_113 (by decide) (fun hf => ?_) (fun hf => ?_)
            · skip
              exact hc127 _ _ _ _ x4 x5 x6 x7 x8 x9 x10 x11 hx4 hx5 hx6 hx7 hx8 hx9 hx10 hx11 hf hWv8 hSv8 (lv_sub hl [0, 1, 2, 3, 4, 5, 6, 7, 8, 9, 10] rfl)
            · skip
              refine lv_aload_n hx hb dX3_paint_116 rfl (lv_at hl 0 rfl) ?_
              refine lv_iload hx hb dX3_paint_117 (lv_at hl 5 rfl) ?_
              refine lv_iload hx hb dX3_paint_119 (lv_at hl 8 rfl) ?_
              refine m_callVi1 (z := false) (As := [.int (i32 x6), .int (i32 x9)]) (rest := []) X hWv8 hSv8 hl.1 gc_X3_134 hd_X3_levelIn ⟨rfl, rfl, Nat.le_of_ble_eq_true rfl, Nat.le_of_ble_eq_true rfl⟩ (rc_X3 X hWv8 hp0) (fun v q => ok_X3_levelIn hp0 hx6 hx9 q) hf rfl rfl (Nat.le_of_ble_eq_true rfl) dX3_paint_121 ⟨Nat.le_of_ble_eq_true rfl, Nat.le_of_ble_eq_true rfl⟩ (fun v10 H locs hv10 zv10 hWv10 hSv10 hf => ?_)
              refine m_if_ne (tgt := 161) hx hb hv10 hf dX3_paint_124 (by decide) (fun hf => ?_) (fun hf => ?_)
              · skip
                refine lv_iload hx hb dX3_paint_161 (lv_at hl 10 rfl) ?_
                refine lv_iload hx hb dX3_paint_163 (lv_at hl 4 rfl) ?_
                refine m_icmp_ne (tgt := 169) hx hb hx11 hx5 hf dX3_paint_165 (by decide) (fun hf => ?_) (fun hf => ?_)
                · skip
                  refine m_iinc (k0 := 9) (fun v11 => [(10, .int (i32 v11)), (0, .ref (ad p0)), (2, .int (i32 x2)), (3, .int (i32 x3)), (4, .int (i32 x4)), (5, .int (i32 x5)), (6, .int (i32 x6)), (7, .int (i32 x7)), (8, .int (i32 x8)), (9, .int (i32 x9)), (11, .int (i32 x11))]) hx hb hf dX3_paint_169 hl rfl (by decide) (fun _ => rfl) (fun v11 ls hv11 hf hl => ?_)
                  have hl : lv_has ls 12 [(10, .int (i32 v11)), (0, .ref (ad p0)), (2, .int (i32 x2)), (3, .int (i32 x3)), (4, .int (i32 x4)), (5, .int (i32 x5)), (6, .int (i32 x6)), (7, .int (i32 x7)), (8, .int (i32 x8)), (9, .int (i32 x9)), (11, .int (i32 x11))] := hl
                  refine lv_goto (tgt := 58) hx hb dX3_paint_172 (by decide) ?_
                  exact ih58 _ _ _ _ x4 x5 x6 x7 x8 x9 v11 hx4 hx5 hx6 hx7 hx8 hx9 hv11 hf hWv10 hSv10 (lv_sub hl [1, 2, 3, 4, 5, 6, 7, 8, 9, 0] rfl)
                · skip
                  exact m_vret X hr hlocks hWv10 hSv10 (Option.some.inj hf) hQ dX3_paint_168
              · skip
                exact hc127 _ _ _ _ x4 x5 x6 x7 x8 x9 x10 x11 hx4 hx5 hx6 hx7 hx8 hx9 hx10 hx11 hf hWv10 hSv10 (lv_sub hl [0, 1, 2, 3, 4, 5, 6, 7, 8, 9, 10] rfl)
      have hc88 : ∀ (σ : St) (H : Heap) (locs : List Loc) (ls : Array Slot) (x4 : Int) (x5 : Int) (x6 : Int) (x7 : Int) (x8 : Int) (x9 : Int) (x10 : Int) (x11 : Int), inR x4 → inR x5 → inR x6 → inR x7 → inR x8 → inR x9 → inR x10 → inR x11 → fX3_paint_J88 n (fX3_paint_L58 n p0 x1 x2 x3 x4 x5 x6 x7 k58) σ p0 x1 x2 x3 x4 x5 x6 x7 x8 x9 x10 x11 = some σ2 → Wd D cy ad nm nv σ H → va_S (AW ad nm nv sz) s.heap H locs → lv_has ls 12 [(0, .ref (ad p0)), (2, .int (i32 x2)), (3, .int (i32 x3)), (4, .int (i32 x4)), (5, .int (i32 x5)), (6, .int (i32 x6)), (7, .int (i32 x7)), (8, .int (i32 x8)), (9, .int (i32 x9)), (10, .int (i32 x10)), (11, .int (i32 x11))] → W p l e ({ frames := 2, cells := 0, slots := 0, locals := 42 } : Room) s m args below meth c H locs 0 0 Q (F0 m 88 ls []) := by
        intro σ H locs ls x4 x5 x6 x7 x8 x9 x10 x11 hx4 hx5 hx6 hx7 hx8 hx9 hx10 hx11 hf hW hS hl
        unfold fX3_paint_J88 at hf
        refine lv_iload hx hb dX3_paint_88 (lv_at hl 10 rfl) ?_
        refine lv_iload hx hb dX3_paint_90 (lv_at hl 3 rfl) ?_
        refine m_icmp_ne (tgt := 98) hx hb hx11 hx4 hf dX3_paint_92 (by decide) (fun hf => ?_) (fun hf => ?_)
        · skip
          exact hc98 _ _ _ _ x4 x5 x6 x7 x8 x9 x10 x11 hx4 hx5 hx6 hx7 hx8 hx9 hx10 hx11 hf hW hS (lv_sub hl [0, 1, 2, 3, 4, 5, 6, 7, 8, 9, 10] rfl)
        · skip
          refine m_const (v := 1) hx hb dX3_paint_95 rfl ?_
          refine lv_istore (lv' := [(8, .int (i32 1)), (0, .ref (ad p0)), (2, .int (i32 x2)), (3, .int (i32 x3)), (4, .int (i32 x4)), (5, .int (i32 x5)), (6, .int (i32 x6)), (7, .int (i32 x7)), (9, .int (i32 x9)), (10, .int (i32 x10)), (11, .int (i32 x11))]) hx hb dX3_paint_96 hl (by decide) rfl (fun ls hl => ?_)
          exact hc98 _ _ _ _ x4 x5 x6 x7 1 x9 x10 x11 hx4 hx5 hx6 hx7 (by decide) hx9 hx10 hx11 hf hW hS (lv_sub hl [1, 2, 3, 4, 5, 6, 7, 0, 8, 9, 10] rfl)
      refine lv_iload hx hb dX3_paint_58 (lv_at hl 9 rfl) ?_
      refine lv_aload_n hx hb dX3_paint_60 rfl (lv_at hl 0 rfl) ?_
      refine g_X3_rowSize X hW hp0 (X.2.2.2.2.1 _ mw97) dX3_paint_61 ?_
      refine m_icmp_ge (tgt := 175) hx hb hx10 (hW.2.1 _ _) hf dX3_paint_64 (by decide) (fun hf => ?_) (fun hf => ?_)
      · skip
        exact m_vret X hr hlocks hW hS (Option.some.inj hf) hQ dX3_paint_175
      · skip
        refine lv_aload_n hx hb dX3_paint_67 rfl (lv_at hl 0 rfl) ?_
        refine lv_iload hx hb dX3_paint_68 (lv_at hl 9 rfl) ?_
        refine m_callVi1 (z := false) (As := [.int (i32 x10)]) (rest := []) X hW hS hl.1 gc_X3_138 hd_X3_inRow ⟨rfl, rfl, Nat.le_of_ble_eq_true rfl, Nat.le_of_ble_eq_true rfl⟩ (rc_X3 X hW hp0) (fun v q => ok_X3_inRow hp0 hx10 q) hf rfl rfl (Nat.le_of_ble_eq_true rfl) dX3_paint_70 ⟨Nat.le_of_ble_eq_true rfl, Nat.le_of_ble_eq_true rfl⟩ (fun v5 H locs hv5 zv5 hWv5 hSv5 hf => ?_)
        refine lv_istore (lv' := [(11, .int (i32 v5)), (0, .ref (ad p0)), (2, .int (i32 x2)), (3, .int (i32 x3)), (4, .int (i32 x4)), (5, .int (i32 x5)), (6, .int (i32 x6)), (7, .int (i32 x7)), (8, .int (i32 x8)), (9, .int (i32 x9)), (10, .int (i32 x10))]) hx hb dX3_paint_73 hl (by decide) rfl (fun ls hl => ?_)
        refine lv_aload_n hx hb dX3_paint_75 rfl (lv_at hl 1 rfl) ?_
        refine lv_iload hx hb dX3_paint_76 (lv_at hl 0 rfl) ?_
        refine m_callVi1 (z := true) (As := [.int (i32 v5)]) (rest := []) X hWv5 hSv5 hl.1 gc_X3_153 hd_X3_isShownBreak ⟨rfl, rfl, Nat.le_of_ble_eq_true rfl, Nat.le_of_ble_eq_true rfl⟩ (rc_X3 X hWv5 hp0) (fun v q => ok_X3_isShownBreak hp0 hv5 q) hf rfl rfl (Nat.le_of_ble_eq_true rfl) dX3_paint_78 ⟨Nat.le_of_ble_eq_true rfl, Nat.le_of_ble_eq_true rfl⟩ (fun v6 H locs hv6 zv6 hWv6 hSv6 hf => ?_)
        refine m_if_eq (tgt := 88) hx hb hv6 hf dX3_paint_81 (by decide) (fun hf => ?_) (fun hf => ?_)
        · skip
          exact hc88 _ _ _ _ x4 x5 x6 x7 x8 x9 x10 v5 hx4 hx5 hx6 hx7 hx8 hx9 hx10 hv5 hf hWv6 hSv6 (lv_sub hl [1, 2, 3, 4, 5, 6, 7, 8, 9, 10, 0] rfl)
        · skip
          refine lv_iload hx hb dX3_paint_84 (lv_at hl 0 rfl) ?_
          refine lv_istore (lv' := [(9, .int (i32 v5)), (11, .int (i32 v5)), (0, .ref (ad p0)), (2, .int (i32 x2)), (3, .int (i32 x3)), (4, .int (i32 x4)), (5, .int (i32 x5)), (6, .int (i32 x6)), (7, .int (i32 x7)), (8, .int (i32 x8)), (10, .int (i32 x10))]) hx hb dX3_paint_86 hl (by decide) rfl (fun ls hl => ?_)
          exact hc88 _ _ _ _ x4 x5 x6 x7 x8 v5 x10 v5 hx4 hx5 hx6 hx7 hx8 hv5 hx10 hv5 hf hWv6 hSv6 (lv_sub hl [2, 3, 4, 5, 6, 7, 8, 9, 0, 10, 1] rfl)
  have hc47 : ∀ (σ : St) (H : Heap) (locs : List Loc) (ls : Array Slot) (x4 : Int) (x5 : Int) (x6 : Int) (t0 : Int), inR x4 → inR x5 → inR x6 → inR t0 → fX3_paint_J47 n σ p0 x1 x2 x3 x4 x5 x6 t0 = some σ2 → Wd D cy ad nm nv σ H → va_S (AW ad nm nv sz) s.heap H locs → lv_has ls 12 [(0, .ref (ad p0)), (2, .int (i32 x2)), (3, .int (i32 x3)), (4, .int (i32 x4)), (5, .int (i32 x5)), (6, .int (i32 x6))] → W p l e ({ frames := 2, cells := 0, slots := 0, locals := 42 } : Room) s m args below meth c H locs 0 0 Q (F0 m 47 ls [.int (i32 t0)]) := by
    intro σ H locs ls x4 x5 x6 t0 hx4 hx5 hx6 ht0 hf hW hS hl
    unfold fX3_paint_J47 at hf
    refine lv_istore (lv' := [(7, .int (i32 t0)), (0, .ref (ad p0)), (2, .int (i32 x2)), (3, .int (i32 x3)), (4, .int (i32 x4)), (5, .int (i32 x5)), (6, .int (i32 x6))]) hx hb dX3_paint_47 hl (by decide) rfl (fun ls hl => ?_)
    refine m_const (v := 0) hx hb dX3_paint_49 rfl ?_
    refine lv_istore (lv' := [(8, .int (i32 0)), (7, .int (i32 t0)), (0, .ref (ad p0)), (2, .int (i32 x2)), (3, .int (i32 x3)), (4, .int (i32 x4)), (5, .int (i32 x5)), (6, .int (i32 x6))]) hx hb dX3_paint_50 hl (by decide) rfl (fun ls hl => ?_)
    refine m_const (v := (-1)) hx hb dX3_paint_52 rfl ?_
    refine lv_istore (lv' := [(9, .int (i32 (-1))), (8, .int (i32 0)), (7, .int (i32 t0)), (0, .ref (ad p0)), (2, .int (i32 x2)), (3, .int (i32 x3)), (4, .int (i32 x4)), (5, .int (i32 x5)), (6, .int (i32 x6))]) hx hb dX3_paint_53 hl (by decide) rfl (fun ls hl => ?_)
    refine m_const (v := 0) hx hb dX3_paint_55 rfl ?_
    refine lv_istore (lv' := [(10, .int (i32 0)), (9, .int (i32 (-1))), (8, .int (i32 0)), (7, .int (i32 t0)), (0, .ref (ad p0)), (2, .int (i32 x2)), (3, .int (i32 x3)), (4, .int (i32 x4)), (5, .int (i32 x5)), (6, .int (i32 x6))]) hx hb dX3_paint_56 hl (by decide) rfl (fun ls hl => ?_)
    exact hc58 n _ _ _ _ x4 x5 x6 t0 0 (-1) 0 hx4 hx5 hx6 ht0 (by decide) (by decide) (by decide) hf hW hS (lv_sub hl [4, 5, 6, 7, 8, 9, 3, 2, 1, 0] rfl)
  refine lv_aload_n hx hb dX3_paint_0 rfl (lv_at hl 0 rfl) ?_
  refine g_X3_book X hW hp0 (X.2.2.2.2.1 _ mw95) dX3_paint_1 ?_
  refine lv_iload_n hx hb dX3_paint_4 rfl (lv_at hl 1 rfl) ?_
  refine m_callVi1 (z := false) (As := [.int (i32 x1)]) (rest := []) X hW hS hl.1 gc_X3_82 hd_X1_firstOf ⟨rfl, rfl, Nat.le_of_ble_eq_true rfl, Nat.le_of_ble_eq_true rfl⟩ (rc_X1 X hW) (fun v q => ok_X1_firstOf hx1 q) hf rfl rfl (Nat.le_of_ble_eq_true rfl) dX3_paint_5 ⟨Nat.le_of_ble_eq_true rfl, Nat.le_of_ble_eq_true rfl⟩ (fun v1 H locs hv1 zv1 hWv1 hSv1 hf => ?_)
  refine lv_istore (lv' := [(4, .int (i32 v1)), (0, .ref (ad p0)), (1, .int (i32 x1)), (2, .int (i32 x2)), (3, .int (i32 x3))]) hx hb dX3_paint_8 hl (by decide) rfl (fun ls hl => ?_)
  refine lv_aload_n hx hb dX3_paint_10 rfl (lv_at hl 1 rfl) ?_
  refine g_X3_book X hWv1 hp0 (X.2.2.2.2.1 _ mw95) dX3_paint_11 ?_
  refine lv_iload_n hx hb dX3_paint_14 rfl (lv_at hl 2 rfl) ?_
  refine m_callVi1 (z := false) (As := [.int (i32 x1)]) (rest := []) X hWv1 hSv1 hl.1 gc_X3_150 hd_X1_secondOf ⟨rfl, rfl, Nat.le_of_ble_eq_true rfl, Nat.le_of_ble_eq_true rfl⟩ (rc_X1 X hWv1) (fun v q => ok_X1_secondOf hx1 q) hf rfl rfl (Nat.le_of_ble_eq_true rfl) dX3_paint_15 ⟨Nat.le_of_ble_eq_true rfl, Nat.le_of_ble_eq_true rfl⟩ (fun v2 H locs hv2 zv2 hWv2 hSv2 hf => ?_)
  refine lv_istore (lv' := [(5, .int (i32 v2)), (4, .int (i32 v1)), (0, .ref (ad p0)), (1, .int (i32 x1)), (2, .int (i32 x2)), (3, .int (i32 x3))]) hx hb dX3_paint_18 hl (by decide) rfl (fun ls hl => ?_)
  refine lv_aload_n hx hb dX3_paint_20 rfl (lv_at hl 2 rfl) ?_
  refine g_X3_book X hWv2 hp0 (X.2.2.2.2.1 _ mw95) dX3_paint_21 ?_
  refine lv_iload_n hx hb dX3_paint_24 rfl (lv_at hl 3 rfl) ?_
  refine m_callVi1 (z := false) (As := [.int (i32 x1)]) (rest := []) X hWv2 hSv2 hl.1 gc_X3_128 hd_X1_siteOf ⟨rfl, rfl, Nat.le_of_ble_eq_true rfl, Nat.le_of_ble_eq_true rfl⟩ (rc_X1 X hWv2) (fun v q => ok_X1_siteOf hx1 q) hf rfl rfl (Nat.le_of_ble_eq_true rfl) dX3_paint_25 ⟨Nat.le_of_ble_eq_true rfl, Nat.le_of_ble_eq_true rfl⟩ (fun v3 H locs hv3 zv3 hWv3 hSv3 hf => ?_)
  refine lv_istore (lv' := [(6, .int (i32 v3)), (5, .int (i32 v2)), (4, .int (i32 v1)), (0, .ref (ad p0)), (1, .int (i32 x1)), (2, .int (i32 x2)), (3, .int (i32 x3))]) hx hb dX3_paint_28 hl (by decide) rfl (fun ls hl => ?_)
  refine lv_aload_n hx hb dX3_paint_30 rfl (lv_at hl 3 rfl) ?_
  refine g_X3_book X hWv3 hp0 (X.2.2.2.2.1 _ mw95) dX3_paint_31 ?_
  refine lv_iload_n hx hb dX3_paint_34 rfl (lv_at hl 4 rfl) ?_
  refine m_callVi1 (z := false) (As := [.int (i32 x1)]) (rest := []) X hWv3 hSv3 hl.1 gc_X3_79 hd_X1_kindOf ⟨rfl, rfl, Nat.le_of_ble_eq_true rfl, Nat.le_of_ble_eq_true rfl⟩ (rc_X1 X hWv3) (fun v q => ok_X1_kindOf hx1 q) hf rfl rfl (Nat.le_of_ble_eq_true rfl) dX3_paint_35 ⟨Nat.le_of_ble_eq_true rfl, Nat.le_of_ble_eq_true rfl⟩ (fun v4 H locs hv4 zv4 hWv4 hSv4 hf => ?_)
  refine m_const (v := 4) hx hb dX3_paint_38 rfl ?_
  refine m_icmp_ne (tgt := 46) hx hb hv4 (by decide) hf dX3_paint_39 (by decide) (fun hf => ?_) (fun hf => ?_)
  · skip
    refine m_const (v := 0) hx hb dX3_paint_46 rfl ?_
    exact hc47 _ _ _ _ v1 v2 v3 0 hv1 hv2 hv3 (by decide) hf hWv4 hSv4 (lv_sub hl [3, 5, 6, 2, 1, 0] rfl)
  · skip
    refine m_const (v := 1) hx hb dX3_paint_42 rfl ?_
    refine lv_goto (tgt := 47) hx hb dX3_paint_43 (by decide) ?_
    exact hc47 _ _ _ _ v1 v2 v3 1 hv1 hv2 hv3 (by decide) hf hWv4 hSv4 (lv_sub hl [3, 5, 6, 2, 1, 0] rfl)
set_option maxRecDepth 100000 in
set_option maxHeartbeats 4000000 in
theorem ok_X3_giveKind {l : Launch} {D : va_G} {cy : Nat → ClassId} {ad : Nat → Nat} {nm nv sz : Nat} {σ : St} {p0 : Nat} {x1 : Int} {σ2 : St} (hp0 : isPaper p0) (hx1 : inR x1) (hf : fX3_giveKind σ p0 x1 = some σ2) : CV l yX3_giveKind cX3_giveKind 3 none ({ frames := 2, cells := 0, slots := 0, locals := 42 } : Room) [.ref (ad p0), .int (i32 x1)] D cy ad nm nv sz σ σ2 := by
  refine m_entry RX3 rfl (by decide +kernel) (Nat.le_of_ble_eq_true rfl) ?_
  intro p e s m args below meth c Q hQ hr hlocks X hW hS ls hl
  have hx := X.1
  have hb := X.2.1
  have hl : lv_has ls 3 [(0, .ref (ad p0)), (1, .int (i32 x1))] := hl
  unfold fX3_giveKind at hf
  refine lv_aload_n hx hb dX3_giveKind_0 rfl (lv_at hl 0 rfl) ?_
  refine g_X3_book X hW hp0 (X.2.2.2.2.1 _ mw95) dX3_giveKind_1 ?_
  refine lv_iload_n hx hb dX3_giveKind_4 rfl (lv_at hl 1 rfl) ?_
  refine m_callVi1 (z := false) (As := [.int (i32 x1)]) (rest := []) X hW hS hl.1 gc_X3_82 hd_X1_firstOf ⟨rfl, rfl, Nat.le_of_ble_eq_true rfl, Nat.le_of_ble_eq_true rfl⟩ (rc_X1 X hW) (fun v q => ok_X1_firstOf hx1 q) hf rfl rfl (Nat.le_of_ble_eq_true rfl) dX3_giveKind_5 ⟨Nat.le_of_ble_eq_true rfl, Nat.le_of_ble_eq_true rfl⟩ (fun v1 H locs hv1 zv1 hWv1 hSv1 hf => ?_)
  refine lv_istore_n (lv' := [(2, .int (i32 v1)), (0, .ref (ad p0)), (1, .int (i32 x1))]) hx hb dX3_giveKind_8 rfl hl (by decide) rfl (fun ls hl => ?_)
  refine lv_iload_n hx hb dX3_giveKind_9 rfl (lv_at hl 0 rfl) ?_
  refine m_callSi1 (z := true) (As := [.int (i32 v1)]) (rest := []) X hWv1 hSv1 hl.1 gc_X3_156 hd_X3_isBlock ⟨rfl, rfl, Nat.le_of_ble_eq_true rfl, Nat.le_of_ble_eq_true rfl⟩ (fun v q => ok_X3_isBlock hv1 q) hf rfl rfl (Nat.le_of_ble_eq_true rfl) dX3_giveKind_10 ⟨Nat.le_of_ble_eq_true rfl, Nat.le_of_ble_eq_true rfl⟩ (fun v2 H locs hv2 zv2 hWv2 hSv2 hf => ?_)
  refine m_if_eq (tgt := 48) hx hb hv2 hf dX3_giveKind_13 (by decide) (fun hf => ?_) (fun hf => ?_)
  · skip
    exact m_vret X hr hlocks hWv2 hSv2 (Option.some.inj hf) hQ dX3_giveKind_48
  · skip
    refine lv_aload_n hx hb dX3_giveKind_16 rfl (lv_at hl 1 rfl) ?_
    refine lv_aload_n hx hb dX3_giveKind_17 rfl (lv_at hl 1 rfl) ?_
    refine g_X3_book X hWv2 hp0 (X.2.2.2.2.1 _ mw95) dX3_giveKind_18 ?_
    refine lv_iload_n hx hb dX3_giveKind_21 rfl (lv_at hl 2 rfl) ?_
    refine m_callVi1 (z := false) (As := [.int (i32 x1)]) (rest := [.ref (ad p0)]) X hWv2 hSv2 hl.1 gc_X3_128 hd_X1_siteOf ⟨rfl, rfl, Nat.le_of_ble_eq_true rfl, Nat.le_of_ble_eq_true rfl⟩ (rc_X1 X hWv2) (fun v q => ok_X1_siteOf hx1 q) hf rfl rfl (Nat.le_of_ble_eq_true rfl) dX3_giveKind_22 ⟨Nat.le_of_ble_eq_true rfl, Nat.le_of_ble_eq_true rfl⟩ (fun v3 H locs hv3 zv3 hWv3 hSv3 hf => ?_)
    refine lv_iload_n hx hb dX3_giveKind_25 rfl (lv_at hl 0 rfl) ?_
    refine m_callVi1 (z := false) (As := [.int (i32 v3), .int (i32 v1)]) (rest := []) X hWv3 hSv3 hl.1 gc_X3_134 hd_X3_levelIn ⟨rfl, rfl, Nat.le_of_ble_eq_true rfl, Nat.le_of_ble_eq_true rfl⟩ (rc_X3 X hWv3 hp0) (fun v q => ok_X3_levelIn hp0 hv3 hv1 q) hf rfl rfl (Nat.le_of_ble_eq_true rfl) dX3_giveKind_26 ⟨Nat.le_of_ble_eq_true rfl, Nat.le_of_ble_eq_true rfl⟩ (fun v4 H locs hv4 zv4 hWv4 hSv4 hf => ?_)
    refine m_if_ne (tgt := 48) hx hb hv4 hf dX3_giveKind_29 (by decide) (fun hf => ?_) (fun hf => ?_)
    · skip
      exact m_vret X hr hlocks hWv4 hSv4 (Option.some.inj hf) hQ dX3_giveKind_48
    · skip
      refine lv_aload_n hx hb dX3_giveKind_32 rfl (lv_at hl 1 rfl) ?_
      refine g_X3_kinds X hWv4 hp0 (X.2.2.2.2.1 _ mw104) dX3_giveKind_33 ?_
      refine lv_iload_n hx hb dX3_giveKind_36 rfl (lv_at hl 0 rfl) ?_
      refine m_const (v := 1) hx hb dX3_giveKind_37 rfl ?_
      refine m_iadd hx hb hf dX3_giveKind_38 (fun v5 hv5 hf => ?_)
      refine lv_aload_n hx hb dX3_giveKind_39 rfl (lv_at hl 1 rfl) ?_
      refine g_X3_book X hWv4 hp0 (X.2.2.2.2.1 _ mw95) dX3_giveKind_40 ?_
      refine lv_iload_n hx hb dX3_giveKind_43 rfl (lv_at hl 2 rfl) ?_
      refine m_callVi1 (z := false) (As := [.int (i32 x1)]) (rest := [.int (i32 v5), .ref (ad (p0 + 10))]) X hWv4 hSv4 hl.1 gc_X3_100 hd_X1_valueOf ⟨rfl, rfl, Nat.le_of_ble_eq_true rfl, Nat.le_of_ble_eq_true rfl⟩ (rc_X1 X hWv4) (fun v q => ok_X1_valueOf hx1 q) hf rfl rfl (Nat.le_of_ble_eq_true rfl) dX3_giveKind_44 ⟨Nat.le_of_ble_eq_true rfl, Nat.le_of_ble_eq_true rfl⟩ (fun v6 H locs hv6 zv6 hWv6 hSv6 hf => ?_)
      refine m_iast X hWv6 hSv6 (a_X3_kinds hp0) hv5 hv6 hf dX3_giveKind_47 (fun σ7 H locs hW7 hS7 hf => ?_)
      exact m_vret X hr hlocks hW7 hS7 (Option.some.inj hf) hQ dX3_giveKind_48
set_option maxRecDepth 100000 in
set_option maxHeartbeats 4000000 in
theorem ok_X3_comesTo {l : Launch} {D : va_G} {cy : Nat → ClassId} {ad : Nat → Nat} {nm nv sz : Nat} {σ : St} {n : Nat} {p0 : Nat} {x1 : Int} {x2 : Int} {r : Int} (hp0 : isPaper p0) (hx1 : inR x1) (hx2 : inR x2) (hf : fX3_comesTo n σ p0 x1 x2 = some r) : CI l yX3_comesTo cX3_comesTo 5 (some .boolean) ({ frames := 1, cells := 0, slots := 0, locals := 20 } : Room) [.ref (ad p0), .int (i32 x1), .int (i32 x2)] D cy ad nm nv sz σ true r σ := by
  refine m_entry RX3 rfl (by decide +kernel) (Nat.le_of_ble_eq_true rfl) ?_
  intro p e s m args below meth c Q hQ hr hlocks X hW hS ls hl
  have hx := X.1
  have hb := X.2.1
  have hl : lv_has ls 5 [(0, .ref (ad p0)), (1, .int (i32 x1)), (2, .int (i32 x2))] := hl
  unfold fX3_comesTo at hf
  have hc5 : ∀ (k5 : Nat) (H : Heap) (locs : List Loc) (ls : Array Slot) (x3 : Int) (x4 : Int), inR x3 → inR x4 → fX3_comesTo_L5 n σ p0 x1 x2 k5 x3 x4 = some r → Wd D cy ad nm nv σ H → va_S (AW ad nm nv sz) s.heap H locs → lv_has ls 5 [(0, .ref (ad p0)), (2, .int (i32 x2)), (3, .int (i32 x3)), (4, .int (i32 x4))] → W p l e ({ frames := 1, cells := 0, slots := 0, locals := 20 } : Room) s m args below meth c H locs 0 0 Q (F0 m 5 ls []) := by
    intro k5
    induction k5 with
    | zero =>
      intro H locs ls x3 x4 hx3 hx4 hf
      have hf : (none : Option Int) = some r := hf
      cases hf
    | succ k5 ih5 =>
      intro H locs ls x3 x4 hx3 hx4 hf hW hS hl
      have hf : fX3_comesTo_L5s n σ p0 x1 x2 (fX3_comesTo_L5 n σ p0 x1 x2 k5) x3 x4 = some r := hf
      unfold fX3_comesTo_L5s at hf
      refine lv_iload hx hb dX3_comesTo_5 (lv_at hl 3 rfl) ?_
      refine m_sipush (v := 161) hx hb dX3_comesTo_7 (by decide) ?_
      refine m_icmp_ge (tgt := 42) hx hb hx4 (by decide) hf dX3_comesTo_10 (by decide) (fun hf => ?_) (fun hf => ?_)
      · skip
        refine m_const (v := 0) hx hb dX3_comesTo_42 rfl ?_
        exact m_ireti X hr hlocks (nar_b (Or.inl rfl)).1 (by decide) (fun _ => (Or.inl rfl)) hW hS (Option.some.inj hf) rfl hQ dX3_comesTo_43
      · skip
        refine lv_iload_n hx hb dX3_comesTo_13 rfl (lv_at hl 2 rfl) ?_
        refine m_callSi1 (z := true) (As := [.int (i32 x3)]) (rest := []) X hW hS hl.1 gc_X3_156 hd_X3_isBlock ⟨rfl, rfl, Nat.le_of_ble_eq_true rfl, Nat.le_of_ble_eq_true rfl⟩ (fun v q => ok_X3_isBlock hx3 q) hf rfl rfl (Nat.le_of_ble_eq_true rfl) dX3_comesTo_14 ⟨Nat.le_of_ble_eq_true rfl, Nat.le_of_ble_eq_true rfl⟩ (fun v1 H locs hv1 zv1 hWv1 hSv1 hf => ?_)
        refine m_if_eq (tgt := 42) hx hb hv1 hf dX3_comesTo_17 (by decide) (fun hf => ?_) (fun hf => ?_)
        · skip
          refine m_const (v := 0) hx hb dX3_comesTo_42 rfl ?_
          exact m_ireti X hr hlocks (nar_b (Or.inl rfl)).1 (by decide) (fun _ => (Or.inl rfl)) hWv1 hSv1 (Option.some.inj hf) rfl hQ dX3_comesTo_43
        · skip
          refine lv_iload_n hx hb dX3_comesTo_20 rfl (lv_at hl 2 rfl) ?_
          refine lv_iload_n hx hb dX3_comesTo_21 rfl (lv_at hl 1 rfl) ?_
          refine m_icmp_ne (tgt := 27) hx hb hx3 hx2 hf dX3_comesTo_22 (by decide) (fun hf => ?_) (fun hf => ?_)
          · skip
            refine lv_aload_n hx hb dX3_comesTo_27 rfl (lv_at hl 0 rfl) ?_
            refine g_X3_aboves X hWv1 hp0 (X.2.2.2.2.1 _ mw105) dX3_comesTo_28 ?_
            refine lv_iload_n hx hb dX3_comesTo_31 rfl (lv_at hl 2 rfl) ?_
            refine m_const (v := 1) hx hb dX3_comesTo_32 rfl ?_
            refine m_iadd hx hb hf dX3_comesTo_33 (fun v2 hv2 hf => ?_)
            refine m_iald X hWv1 (a_X3_aboves hp0) hv2 hf dX3_comesTo_34 (fun v3 hv3 hf => ?_)
            refine lv_istore_n (lv' := [(3, .int (i32 v3)), (0, .ref (ad p0)), (2, .int (i32 x2)), (4, .int (i32 x4))]) hx hb dX3_comesTo_35 rfl hl (by decide) rfl (fun ls hl => ?_)
            refine m_iinc (k0 := 3) (fun v4 => [(4, .int (i32 v4)), (3, .int (i32 v3)), (0, .ref (ad p0)), (2, .int (i32 x2))]) hx hb hf dX3_comesTo_36 hl rfl (by decide) (fun _ => rfl) (fun v4 ls hv4 hf hl => ?_)
            have hl : lv_has ls 5 [(4, .int (i32 v4)), (3, .int (i32 v3)), (0, .ref (ad p0)), (2, .int (i32 x2))] := hl
            refine lv_goto (tgt := 5) hx hb dX3_comesTo_39 (by decide) ?_
            exact ih5 _ _ _ v3 v4 hv3 hv4 hf hWv1 hSv1 (lv_sub hl [2, 3, 1, 0] rfl)
          · skip
            refine m_const (v := 1) hx hb dX3_comesTo_25 rfl ?_
            exact m_ireti X hr hlocks (nar_b (Or.inr rfl)).1 (by decide) (fun _ => (Or.inr rfl)) hWv1 hSv1 (Option.some.inj hf) rfl hQ dX3_comesTo_26
  refine lv_iload_n hx hb dX3_comesTo_0 rfl (lv_at hl 1 rfl) ?_
  refine lv_istore_n (lv' := [(3, .int (i32 x1)), (0, .ref (ad p0)), (1, .int (i32 x1)), (2, .int (i32 x2))]) hx hb dX3_comesTo_1 rfl hl (by decide) rfl (fun ls hl => ?_)
  refine m_const (v := 0) hx hb dX3_comesTo_2 rfl ?_
  refine lv_istore (lv' := [(4, .int (i32 0)), (3, .int (i32 x1)), (0, .ref (ad p0)), (1, .int (i32 x1)), (2, .int (i32 x2))]) hx hb dX3_comesTo_3 hl (by decide) rfl (fun ls hl => ?_)
  exact hc5 n _ _ _ x1 0 hx1 (by decide) hf hW hS (lv_sub hl [2, 4, 1, 0] rfl)
set_option maxRecDepth 100000 in
set_option maxHeartbeats 4000000 in
theorem ok_X3_putUnder {l : Launch} {D : va_G} {cy : Nat → ClassId} {ad : Nat → Nat} {nm nv sz : Nat} {σ : St} {n : Nat} {p0 : Nat} {x1 : Int} {σ2 : St} (hp0 : isPaper p0) (hx1 : inR x1) (hf : fX3_putUnder n σ p0 x1 = some σ2) : CV l yX3_putUnder cX3_putUnder 4 none ({ frames := 2, cells := 0, slots := 0, locals := 44 } : Room) [.ref (ad p0), .int (i32 x1)] D cy ad nm nv sz σ σ2 := by
  refine m_entry RX3 rfl (by decide +kernel) (Nat.le_of_ble_eq_true rfl) ?_
  intro p e s m args below meth c Q hQ hr hlocks X hW hS ls hl
  have hx := X.1
  have hb := X.2.1
  have hl : lv_has ls 4 [(0, .ref (ad p0)), (1, .int (i32 x1))] := hl
  unfold fX3_putUnder at hf
  refine lv_aload_n hx hb dX3_putUnder_0 rfl (lv_at hl 0 rfl) ?_
  refine g_X3_book X hW hp0 (X.2.2.2.2.1 _ mw95) dX3_putUnder_1 ?_
  refine lv_iload_n hx hb dX3_putUnder_4 rfl (lv_at hl 1 rfl) ?_
  refine m_callVi1 (z := false) (As := [.int (i32 x1)]) (rest := []) X hW hS hl.1 gc_X3_82 hd_X1_firstOf ⟨rfl, rfl, Nat.le_of_ble_eq_true rfl, Nat.le_of_ble_eq_true rfl⟩ (rc_X1 X hW) (fun v q => ok_X1_firstOf hx1 q) hf rfl rfl (Nat.le_of_ble_eq_true rfl) dX3_putUnder_5 ⟨Nat.le_of_ble_eq_true rfl, Nat.le_of_ble_eq_true rfl⟩ (fun v1 H locs hv1 zv1 hWv1 hSv1 hf => ?_)
  refine lv_istore_n (lv' := [(2, .int (i32 v1)), (0, .ref (ad p0)), (1, .int (i32 x1))]) hx hb dX3_putUnder_8 rfl hl (by decide) rfl (fun ls hl => ?_)
  refine lv_aload_n hx hb dX3_putUnder_9 rfl (lv_at hl 1 rfl) ?_
  refine g_X3_book X hWv1 hp0 (X.2.2.2.2.1 _ mw95) dX3_putUnder_10 ?_
  refine lv_iload_n hx hb dX3_putUnder_13 rfl (lv_at hl 2 rfl) ?_
  refine m_callVi1 (z := false) (As := [.int (i32 x1)]) (rest := []) X hWv1 hSv1 hl.1 gc_X3_150 hd_X1_secondOf ⟨rfl, rfl, Nat.le_of_ble_eq_true rfl, Nat.le_of_ble_eq_true rfl⟩ (rc_X1 X hWv1) (fun v q => ok_X1_secondOf hx1 q) hf rfl rfl (Nat.le_of_ble_eq_true rfl) dX3_putUnder_14 ⟨Nat.le_of_ble_eq_true rfl, Nat.le_of_ble_eq_true rfl⟩ (fun v2 H locs hv2 zv2 hWv2 hSv2 hf => ?_)
  refine lv_istore_n (lv' := [(3, .int (i32 v2)), (2, .int (i32 v1)), (0, .ref (ad p0)), (1, .int (i32 x1))]) hx hb dX3_putUnder_17 rfl hl (by decide) rfl (fun ls hl => ?_)
  refine lv_iload_n hx hb dX3_putUnder_18 rfl (lv_at hl 1 rfl) ?_
  refine m_callSi1 (z := true) (As := [.int (i32 v1)]) (rest := []) X hWv2 hSv2 hl.1 gc_X3_156 hd_X3_isBlock ⟨rfl, rfl, Nat.le_of_ble_eq_true rfl, Nat.le_of_ble_eq_true rfl⟩ (fun v q => ok_X3_isBlock hv1 q) hf rfl rfl (Nat.le_of_ble_eq_true rfl) dX3_putUnder_19 ⟨Nat.le_of_ble_eq_true rfl, Nat.le_of_ble_eq_true rfl⟩ (fun v3 H locs hv3 zv3 hWv3 hSv3 hf => ?_)
  refine m_if_eq (tgt := 59) hx hb hv3 hf dX3_putUnder_22 (by decide) (fun hf => ?_) (fun hf => ?_)
  · skip
    exact m_vret X hr hlocks hWv3 hSv3 (Option.some.inj hf) hQ dX3_putUnder_59
  · skip
    refine lv_aload_n hx hb dX3_putUnder_25 rfl (lv_at hl 2 rfl) ?_
    refine lv_aload_n hx hb dX3_putUnder_26 rfl (lv_at hl 2 rfl) ?_
    refine g_X3_book X hWv3 hp0 (X.2.2.2.2.1 _ mw95) dX3_putUnder_27 ?_
    refine lv_iload_n hx hb dX3_putUnder_30 rfl (lv_at hl 3 rfl) ?_
    refine m_callVi1 (z := false) (As := [.int (i32 x1)]) (rest := [.ref (ad p0)]) X hWv3 hSv3 hl.1 gc_X3_128 hd_X1_siteOf ⟨rfl, rfl, Nat.le_of_ble_eq_true rfl, Nat.le_of_ble_eq_true rfl⟩ (rc_X1 X hWv3) (fun v q => ok_X1_siteOf hx1 q) hf rfl rfl (Nat.le_of_ble_eq_true rfl) dX3_putUnder_31 ⟨Nat.le_of_ble_eq_true rfl, Nat.le_of_ble_eq_true rfl⟩ (fun v4 H locs hv4 zv4 hWv4 hSv4 hf => ?_)
    refine lv_iload_n hx hb dX3_putUnder_34 rfl (lv_at hl 1 rfl) ?_
    refine m_callVi1 (z := false) (As := [.int (i32 v4), .int (i32 v1)]) (rest := []) X hWv4 hSv4 hl.1 gc_X3_134 hd_X3_levelIn ⟨rfl, rfl, Nat.le_of_ble_eq_true rfl, Nat.le_of_ble_eq_true rfl⟩ (rc_X3 X hWv4 hp0) (fun v q => ok_X3_levelIn hp0 hv4 hv1 q) hf rfl rfl (Nat.le_of_ble_eq_true rfl) dX3_putUnder_35 ⟨Nat.le_of_ble_eq_true rfl, Nat.le_of_ble_eq_true rfl⟩ (fun v5 H locs hv5 zv5 hWv5 hSv5 hf => ?_)
    refine m_if_ne (tgt := 59) hx hb hv5 hf dX3_putUnder_38 (by decide) (fun hf => ?_) (fun hf => ?_)
    · skip
      exact m_vret X hr hlocks hWv5 hSv5 (Option.some.inj hf) hQ dX3_putUnder_59
    · skip
      refine lv_aload_n hx hb dX3_putUnder_41 rfl (lv_at hl 2 rfl) ?_
      refine lv_iload_n hx hb dX3_putUnder_42 rfl (lv_at hl 0 rfl) ?_
      refine lv_iload_n hx hb dX3_putUnder_43 rfl (lv_at hl 1 rfl) ?_
      refine m_callVi1 (z := true) (As := [.int (i32 v2), .int (i32 v1)]) (rest := []) X hWv5 hSv5 hl.1 gc_X3_159 hd_X3_comesTo ⟨rfl, rfl, Nat.le_of_ble_eq_true rfl, Nat.le_of_ble_eq_true rfl⟩ (rc_X3 X hWv5 hp0) (fun v q => ok_X3_comesTo hp0 hv2 hv1 q) hf rfl rfl (Nat.le_of_ble_eq_true rfl) dX3_putUnder_44 ⟨Nat.le_of_ble_eq_true rfl, Nat.le_of_ble_eq_true rfl⟩ (fun v6 H locs hv6 zv6 hWv6 hSv6 hf => ?_)
      refine m_if_ne (tgt := 59) hx hb hv6 hf dX3_putUnder_47 (by decide) (fun hf => ?_) (fun hf => ?_)
      · skip
        exact m_vret X hr hlocks hWv6 hSv6 (Option.some.inj hf) hQ dX3_putUnder_59
      · skip
        refine lv_aload_n hx hb dX3_putUnder_50 rfl (lv_at hl 2 rfl) ?_
        refine g_X3_aboves X hWv6 hp0 (X.2.2.2.2.1 _ mw105) dX3_putUnder_51 ?_
        refine lv_iload_n hx hb dX3_putUnder_54 rfl (lv_at hl 1 rfl) ?_
        refine m_const (v := 1) hx hb dX3_putUnder_55 rfl ?_
        refine m_iadd hx hb hf dX3_putUnder_56 (fun v7 hv7 hf => ?_)
        refine lv_iload_n hx hb dX3_putUnder_57 rfl (lv_at hl 0 rfl) ?_
        refine m_iast X hWv6 hSv6 (a_X3_aboves hp0) hv7 hv2 hf dX3_putUnder_58 (fun σ8 H locs hW8 hS8 hf => ?_)
        exact m_vret X hr hlocks hW8 hS8 (Option.some.inj hf) hQ dX3_putUnder_59
set_option maxRecDepth 100000 in
set_option maxHeartbeats 4000000 in
theorem ok_X5_commentBit {l : Launch} {D : va_G} {cy : Nat → ClassId} {ad : Nat → Nat} {nm nv sz : Nat} {σ : St} {x0 : Int} {r : Int} (hx0 : inR x0) (hf : fX5_commentBit x0 = some r) : CI l yX5_commentBit cX5_commentBit 1 (some .int) ({ frames := 0, cells := 0, slots := 0, locals := 0 } : Room) [.int (i32 x0)] D cy ad nm nv sz σ false r σ := by
  refine m_entry RX5 rfl (by decide +kernel) (Nat.le_of_ble_eq_true rfl) ?_
  intro p e s m args below meth c Q hQ hr hlocks X hW hS ls hl
  have hx := X.1
  have hb := X.2.1
  have hl : lv_has ls 1 [(0, .int (i32 x0))] := hl
  unfold fX5_commentBit at hf
  refine m_const (v := 1) hx hb dX5_commentBit_0 rfl ?_
  refine m_const (v := 2) hx hb dX5_commentBit_1 rfl ?_
  refine lv_iload_n hx hb dX5_commentBit_2 rfl (lv_at hl 0 rfl) ?_
  refine m_iadd hx hb hf dX5_commentBit_3 (fun v1 hv1 hf => ?_)
  refine m_ishl hx hb hf dX5_commentBit_4 (fun v2 hv2 hf => ?_)
  exact m_ireti X hr hlocks rfl hv2 (fun h => Bool.noConfusion h) hW hS (Option.some.inj hf) rfl hQ dX5_commentBit_5
set_option maxRecDepth 100000 in
set_option maxHeartbeats 4000000 in
theorem ok_X3_elementOf {l : Launch} {D : va_G} {cy : Nat → ClassId} {ad : Nat → Nat} {nm nv sz : Nat} {σ : St} {p0 : Nat} {x1 : Int} {r : Int} (hp0 : isPaper p0) (hx1 : inR x1) (hf : fX3_elementOf σ p0 x1 = some r) : CI l yX3_elementOf cX3_elementOf 2 (some .int) ({ frames := 1, cells := 0, slots := 0, locals := 21 } : Room) [.ref (ad p0), .int (i32 x1)] D cy ad nm nv sz σ false r σ := by
  refine m_entry RX3 rfl (by decide +kernel) (Nat.le_of_ble_eq_true rfl) ?_
  intro p e s m args below meth c Q hQ hr hlocks X hW hS ls hl
  have hx := X.1
  have hb := X.2.1
  have hl : lv_has ls 2 [(0, .ref (ad p0)), (1, .int (i32 x1))] := hl
  unfold fX3_elementOf at hf
  refine lv_aload_n hx hb dX3_elementOf_0 rfl (lv_at hl 0 rfl) ?_
  refine g_X3_book X hW hp0 (X.2.2.2.2.1 _ mw95) dX3_elementOf_1 ?_
  refine lv_iload_n hx hb dX3_elementOf_4 rfl (lv_at hl 1 rfl) ?_
  refine m_callVi1 (z := true) (As := [.int (i32 x1)]) (rest := []) X hW hS hl.1 gc_X3_169 hd_X1_makesElement ⟨rfl, rfl, Nat.le_of_ble_eq_true rfl, Nat.le_of_ble_eq_true rfl⟩ (rc_X1 X hW) (fun v q => ok_X1_makesElement hx1 q) hf rfl rfl (Nat.le_of_ble_eq_true rfl) dX3_elementOf_5 ⟨Nat.le_of_ble_eq_true rfl, Nat.le_of_ble_eq_true rfl⟩ (fun v1 H locs hv1 zv1 hWv1 hSv1 hf => ?_)
  refine m_if_eq (tgt := 15) hx hb hv1 hf dX3_elementOf_8 (by decide) (fun hf => ?_) (fun hf => ?_)
  · skip
    refine lv_aload_n hx hb dX3_elementOf_15 rfl (lv_at hl 0 rfl) ?_
    refine g_X3_book X hWv1 hp0 (X.2.2.2.2.1 _ mw95) dX3_elementOf_16 ?_
    refine lv_iload_n hx hb dX3_elementOf_19 rfl (lv_at hl 1 rfl) ?_
    refine m_callVi1 (z := false) (As := [.int (i32 x1)]) (rest := []) X hWv1 hSv1 hl.1 gc_X3_82 hd_X1_firstOf ⟨rfl, rfl, Nat.le_of_ble_eq_true rfl, Nat.le_of_ble_eq_true rfl⟩ (rc_X1 X hWv1) (fun v q => ok_X1_firstOf hx1 q) hf rfl rfl (Nat.le_of_ble_eq_true rfl) dX3_elementOf_20 ⟨Nat.le_of_ble_eq_true rfl, Nat.le_of_ble_eq_true rfl⟩ (fun v2 H locs hv2 zv2 hWv2 hSv2 hf => ?_)
    exact m_ireti X hr hlocks rfl hv2 (fun h => Bool.noConfusion h) hWv2 hSv2 (Option.some.inj hf) rfl hQ dX3_elementOf_23
  · skip
    refine lv_iload_n hx hb dX3_elementOf_11 rfl (lv_at hl 1 rfl) ?_
    refine lv_goto (tgt := 23) hx hb dX3_elementOf_12 (by decide) ?_
    exact m_ireti X hr hlocks rfl hx1 (fun h => Bool.noConfusion h) hWv1 hSv1 (Option.some.inj hf) rfl hQ dX3_elementOf_23
set_option maxRecDepth 100000 in
set_option maxHeartbeats 4000000 in
theorem ok_X3_isSeen {l : Launch} {D : va_G} {cy : Nat → ClassId} {ad : Nat → Nat} {nm nv sz : Nat} {σ : St} {p0 : Nat} {x1 : Int} {r : Int} (hp0 : isPaper p0) (hx1 : inR x1) (hf : fX3_isSeen σ p0 x1 = some r) : CI l yX3_isSeen cX3_isSeen 2 (some .boolean) ({ frames := 0, cells := 0, slots := 0, locals := 0 } : Room) [.ref (ad p0), .int (i32 x1)] D cy ad nm nv sz σ true r σ := by
  refine m_entry RX3 rfl (by decide +kernel) (Nat.le_of_ble_eq_true rfl) ?_
  intro p e s m args below meth c Q hQ hr hlocks X hW hS ls hl
  have hx := X.1
  have hb := X.2.1
  have hl : lv_has ls 2 [(0, .ref (ad p0)), (1, .int (i32 x1))] := hl
  unfold fX3_isSeen at hf
  refine lv_iload_n hx hb dX3_isSeen_0 rfl (lv_at hl 1 rfl) ?_
  refine m_if_lt (tgt := 20) hx hb hx1 hf dX3_isSeen_1 (by decide) (fun hf => ?_) (fun hf => ?_)
  · skip
    refine m_const (v := 0) hx hb dX3_isSeen_20 rfl ?_
    exact m_ireti X hr hlocks (nar_b (Or.inl rfl)).1 (by decide) (fun _ => (Or.inl rfl)) hW hS (Option.some.inj hf) rfl hQ dX3_isSeen_21
  · skip
    refine lv_iload_n hx hb dX3_isSeen_4 rfl (lv_at hl 1 rfl) ?_
    refine m_sipush (v := 160) hx hb dX3_isSeen_5 (by decide) ?_
    refine m_icmp_ge (tgt := 20) hx hb hx1 (by decide) hf dX3_isSeen_8 (by decide) (fun hf => ?_) (fun hf => ?_)
    · skip
      refine m_const (v := 0) hx hb dX3_isSeen_20 rfl ?_
      exact m_ireti X hr hlocks (nar_b (Or.inl rfl)).1 (by decide) (fun _ => (Or.inl rfl)) hW hS (Option.some.inj hf) rfl hQ dX3_isSeen_21
    · skip
      refine lv_aload_n hx hb dX3_isSeen_11 rfl (lv_at hl 0 rfl) ?_
      refine g_X3_removed X hW hp0 (X.2.2.2.2.1 _ mw100) dX3_isSeen_12 ?_
      refine lv_iload_n hx hb dX3_isSeen_15 rfl (lv_at hl 1 rfl) ?_
      refine m_zald X hW (a_X3_removed hp0) hx1 hf dX3_isSeen_16 (fun v1 hv1 hf => ?_)
      refine m_if_eq (tgt := 22) hx hb hv1 hf dX3_isSeen_17 (by decide) (fun hf => ?_) (fun hf => ?_)
      · skip
        refine lv_aload_n hx hb dX3_isSeen_22 rfl (lv_at hl 0 rfl) ?_
        refine g_X3_states X hW hp0 (X.2.2.2.2.1 _ mw98) dX3_isSeen_23 ?_
        refine lv_iload_n hx hb dX3_isSeen_26 rfl (lv_at hl 1 rfl) ?_
        refine m_iald X hW (a_X3_states hp0) hx1 hf dX3_isSeen_27 (fun v2 hv2 hf => ?_)
        refine m_const (v := 1) hx hb dX3_isSeen_28 rfl ?_
        refine m_icmp_eq (tgt := 42) hx hb hv2 (by decide) hf dX3_isSeen_29 (by decide) (fun hf => ?_) (fun hf => ?_)
        · skip
          refine m_const (v := 1) hx hb dX3_isSeen_42 rfl ?_
          refine lv_goto (tgt := 47) hx hb dX3_isSeen_43 (by decide) ?_
          exact m_ireti X hr hlocks (nar_b (Or.inr rfl)).1 (by decide) (fun _ => (Or.inr rfl)) hW hS (Option.some.inj hf) rfl hQ dX3_isSeen_47
        · skip
          refine lv_aload_n hx hb dX3_isSeen_32 rfl (lv_at hl 0 rfl) ?_
          refine g_X3_states X hW hp0 (X.2.2.2.2.1 _ mw98) dX3_isSeen_33 ?_
          refine lv_iload_n hx hb dX3_isSeen_36 rfl (lv_at hl 1 rfl) ?_
          refine m_iald X hW (a_X3_states hp0) hx1 hf dX3_isSeen_37 (fun v3 hv3 hf => ?_)
          refine m_const (v := 2) hx hb dX3_isSeen_38 rfl ?_
          refine m_icmp_ne (tgt := 46) hx hb hv3 (by decide) hf dX3_isSeen_39 (by decide) (fun hf => ?_) (fun hf => ?_)
          · skip
            refine m_const (v := 0) hx hb dX3_isSeen_46 rfl ?_
            exact m_ireti X hr hlocks (nar_b (Or.inl rfl)).1 (by decide) (fun _ => (Or.inl rfl)) hW hS (Option.some.inj hf) rfl hQ dX3_isSeen_47
          · skip
            refine m_const (v := 1) hx hb dX3_isSeen_42 rfl ?_
            refine lv_goto (tgt := 47) hx hb dX3_isSeen_43 (by decide) ?_
            exact m_ireti X hr hlocks (nar_b (Or.inr rfl)).1 (by decide) (fun _ => (Or.inr rfl)) hW hS (Option.some.inj hf) rfl hQ dX3_isSeen_47
      · skip
        refine m_const (v := 0) hx hb dX3_isSeen_20 rfl ?_
        exact m_ireti X hr hlocks (nar_b (Or.inl rfl)).1 (by decide) (fun _ => (Or.inl rfl)) hW hS (Option.some.inj hf) rfl hQ dX3_isSeen_21
set_option maxRecDepth 100000 in
set_option maxHeartbeats 4000000 in
theorem ok_X3_isOpen {l : Launch} {D : va_G} {cy : Nat → ClassId} {ad : Nat → Nat} {nm nv sz : Nat} {σ : St} {p0 : Nat} {x1 : Int} {r : Int} (hp0 : isPaper p0) (hx1 : inR x1) (hf : fX3_isOpen σ p0 x1 = some r) : CI l yX3_isOpen cX3_isOpen 3 (some .boolean) ({ frames := 1, cells := 0, slots := 0, locals := 21 } : Room) [.ref (ad p0), .int (i32 x1)] D cy ad nm nv sz σ true r σ := by
  refine m_entry RX3 rfl (by decide +kernel) (Nat.le_of_ble_eq_true rfl) ?_
  intro p e s m args below meth c Q hQ hr hlocks X hW hS ls hl
  have hx := X.1
  have hb := X.2.1
  have hl : lv_has ls 3 [(0, .ref (ad p0)), (1, .int (i32 x1))] := hl
  unfold fX3_isOpen at hf
  have hc37 : ∀ (H : Heap) (locs : List Loc) (ls : Array Slot) (t0 : Int), inR t0 → fX3_isOpen_J37 σ p0 x1 t0 = some r → Wd D cy ad nm nv σ H → va_S (AW ad nm nv sz) s.heap H locs → lv_has ls 3 [(0, .ref (ad p0)), (1, .int (i32 x1))] → W p l e ({ frames := 1, cells := 0, slots := 0, locals := 21 } : Room) s m args below meth c H locs 0 0 Q (F0 m 37 ls [.int (i32 t0)]) := by
    intro H locs ls t0 ht0 hf hW hS hl
    unfold fX3_isOpen_J37 at hf
    refine lv_istore_n (lv' := [(2, .int (i32 t0)), (0, .ref (ad p0)), (1, .int (i32 x1))]) hx hb dX3_isOpen_37 rfl hl (by decide) rfl (fun ls hl => ?_)
    refine lv_iload_n hx hb dX3_isOpen_38 rfl (lv_at hl 0 rfl) ?_
    refine m_if_ne (tgt := 66) hx hb ht0 hf dX3_isOpen_39 (by decide) (fun hf => ?_) (fun hf => ?_)
    · skip
      refine m_const (v := 1) hx hb dX3_isOpen_66 rfl ?_
      refine lv_goto (tgt := 71) hx hb dX3_isOpen_67 (by decide) ?_
      exact m_ireti X hr hlocks (nar_b (Or.inr rfl)).1 (by decide) (fun _ => (Or.inr rfl)) hW hS (Option.some.inj hf) rfl hQ dX3_isOpen_71
    · skip
      refine lv_aload_n hx hb dX3_isOpen_42 rfl (lv_at hl 1 rfl) ?_
      refine g_X3_asked X hW hp0 (X.2.2.2.2.1 _ mw102) dX3_isOpen_43 ?_
      refine lv_iload_n hx hb dX3_isOpen_46 rfl (lv_at hl 2 rfl) ?_
      refine m_zald X hW (a_X3_asked hp0) hx1 hf dX3_isOpen_47 (fun v3 hv3 hf => ?_)
      refine m_if_eq (tgt := 70) hx hb hv3 hf dX3_isOpen_48 (by decide) (fun hf => ?_) (fun hf => ?_)
      · skip
        refine m_const (v := 0) hx hb dX3_isOpen_70 rfl ?_
        exact m_ireti X hr hlocks (nar_b (Or.inl rfl)).1 (by decide) (fun _ => (Or.inl rfl)) hW hS (Option.some.inj hf) rfl hQ dX3_isOpen_71
      · skip
        refine lv_aload_n hx hb dX3_isOpen_51 rfl (lv_at hl 1 rfl) ?_
        refine lv_aload_n hx hb dX3_isOpen_52 rfl (lv_at hl 1 rfl) ?_
        refine g_X3_book X hW hp0 (X.2.2.2.2.1 _ mw95) dX3_isOpen_53 ?_
        refine lv_iload_n hx hb dX3_isOpen_56 rfl (lv_at hl 2 rfl) ?_
        refine m_callVi1 (z := false) (As := [.int (i32 x1)]) (rest := [.ref (ad p0)]) X hW hS hl.1 gc_X3_82 hd_X1_firstOf ⟨rfl, rfl, Nat.le_of_ble_eq_true rfl, Nat.le_of_ble_eq_true rfl⟩ (rc_X1 X hW) (fun v q => ok_X1_firstOf hx1 q) hf rfl rfl (Nat.le_of_ble_eq_true rfl) dX3_isOpen_57 ⟨Nat.le_of_ble_eq_true rfl, Nat.le_of_ble_eq_true rfl⟩ (fun v4 H locs hv4 zv4 hWv4 hSv4 hf => ?_)
        refine m_callVi1 (z := true) (As := [.int (i32 v4)]) (rest := []) X hWv4 hSv4 hl.1 gc_X3_172 hd_X3_isSeen ⟨rfl, rfl, Nat.le_of_ble_eq_true rfl, Nat.le_of_ble_eq_true rfl⟩ (rc_X3 X hWv4 hp0) (fun v q => ok_X3_isSeen hp0 hv4 q) hf rfl rfl (Nat.le_of_ble_eq_true rfl) dX3_isOpen_60 ⟨Nat.le_of_ble_eq_true rfl, Nat.le_of_ble_eq_true rfl⟩ (fun v5 H locs hv5 zv5 hWv5 hSv5 hf => ?_)
        refine m_if_eq (tgt := 70) hx hb hv5 hf dX3_isOpen_63 (by decide) (fun hf => ?_) (fun hf => ?_)
        · skip
          refine m_const (v := 0) hx hb dX3_isOpen_70 rfl ?_
          exact m_ireti X hr hlocks (nar_b (Or.inl rfl)).1 (by decide) (fun _ => (Or.inl rfl)) hWv5 hSv5 (Option.some.inj hf) rfl hQ dX3_isOpen_71
        · skip
          refine m_const (v := 1) hx hb dX3_isOpen_66 rfl ?_
          refine lv_goto (tgt := 71) hx hb dX3_isOpen_67 (by decide) ?_
          exact m_ireti X hr hlocks (nar_b (Or.inr rfl)).1 (by decide) (fun _ => (Or.inr rfl)) hWv5 hSv5 (Option.some.inj hf) rfl hQ dX3_isOpen_71
  have hc36 : ∀ (H : Heap) (locs : List Loc) (ls : Array Slot), fX3_isOpen_J36 σ p0 x1 = some r → Wd D cy ad nm nv σ H → va_S (AW ad nm nv sz) s.heap H locs → lv_has ls 3 [(0, .ref (ad p0)), (1, .int (i32 x1))] → W p l e ({ frames := 1, cells := 0, slots := 0, locals := 21 } : Room) s m args below meth c H locs 0 0 Q (F0 m 36 ls []) := by
    intro H locs ls hf hW hS hl
    unfold fX3_isOpen_J36 at hf
    refine m_const (v := 0) hx hb dX3_isOpen_36 rfl ?_
    exact hc37 _ _ _ 0 (by decide) hf hW hS (lv_sub hl [0, 1] rfl)
  refine lv_iload_n hx hb dX3_isOpen_0 rfl (lv_at hl 1 rfl) ?_
  refine m_if_lt (tgt := 11) hx hb hx1 hf dX3_isOpen_1 (by decide) (fun hf => ?_) (fun hf => ?_)
  · skip
    refine m_const (v := 0) hx hb dX3_isOpen_11 rfl ?_
    exact m_ireti X hr hlocks (nar_b (Or.inl rfl)).1 (by decide) (fun _ => (Or.inl rfl)) hW hS (Option.some.inj hf) rfl hQ dX3_isOpen_12
  · skip
    refine lv_iload_n hx hb dX3_isOpen_4 rfl (lv_at hl 1 rfl) ?_
    refine m_sipush (v := 160) hx hb dX3_isOpen_5 (by decide) ?_
    refine m_icmp_lt (tgt := 13) hx hb hx1 (by decide) hf dX3_isOpen_8 (by decide) (fun hf => ?_) (fun hf => ?_)
    · skip
      refine lv_aload_n hx hb dX3_isOpen_13 rfl (lv_at hl 0 rfl) ?_
      refine g_X3_states X hW hp0 (X.2.2.2.2.1 _ mw98) dX3_isOpen_14 ?_
      refine lv_iload_n hx hb dX3_isOpen_17 rfl (lv_at hl 1 rfl) ?_
      refine m_iald X hW (a_X3_states hp0) hx1 hf dX3_isOpen_18 (fun v1 hv1 hf => ?_)
      refine m_const (v := 2) hx hb dX3_isOpen_19 rfl ?_
      refine m_icmp_ne (tgt := 36) hx hb hv1 (by decide) hf dX3_isOpen_20 (by decide) (fun hf => ?_) (fun hf => ?_)
      · skip
        exact hc36 _ _ _  hf hW hS (lv_sub hl [0, 1] rfl)
      · skip
        refine lv_aload_n hx hb dX3_isOpen_23 rfl (lv_at hl 0 rfl) ?_
        refine g_X3_removed X hW hp0 (X.2.2.2.2.1 _ mw100) dX3_isOpen_24 ?_
        refine lv_iload_n hx hb dX3_isOpen_27 rfl (lv_at hl 1 rfl) ?_
        refine m_zald X hW (a_X3_removed hp0) hx1 hf dX3_isOpen_28 (fun v2 hv2 hf => ?_)
        refine m_if_ne (tgt := 36) hx hb hv2 hf dX3_isOpen_29 (by decide) (fun hf => ?_) (fun hf => ?_)
        · skip
          exact hc36 _ _ _  hf hW hS (lv_sub hl [0, 1] rfl)
        · skip
          refine m_const (v := 1) hx hb dX3_isOpen_32 rfl ?_
          refine lv_goto (tgt := 37) hx hb dX3_isOpen_33 (by decide) ?_
          exact hc37 _ _ _ 1 (by decide) hf hW hS (lv_sub hl [0, 1] rfl)
    · skip
      refine m_const (v := 0) hx hb dX3_isOpen_11 rfl ?_
      exact m_ireti X hr hlocks (nar_b (Or.inl rfl)).1 (by decide) (fun _ => (Or.inl rfl)) hW hS (Option.some.inj hf) rfl hQ dX3_isOpen_12
set_option maxRecDepth 100000 in
set_option maxHeartbeats 4000000 in
theorem ok_X3_settle {l : Launch} {D : va_G} {cy : Nat → ClassId} {ad : Nat → Nat} {nm nv sz : Nat} {σ : St} {n : Nat} {p0 : Nat} {x1 : Int} {σ2 : St} (hp0 : isPaper p0) (hx1 : inR x1) (hf : fX3_settle n σ p0 x1 = some σ2) : CV l yX3_settle cX3_settle 5 none ({ frames := 2, cells := 0, slots := 0, locals := 44 } : Room) [.ref (ad p0), .int (i32 x1)] D cy ad nm nv sz σ σ2 := by
  refine m_entry RX3 rfl (by decide +kernel) (Nat.le_of_ble_eq_true rfl) ?_
  intro p e s m args below meth c Q hQ hr hlocks X hW hS ls hl
  have hx := X.1
  have hb := X.2.1
  have hl : lv_has ls 5 [(0, .ref (ad p0)), (1, .int (i32 x1))] := hl
  unfold fX3_settle at hf
  have hc33 : ∀ (σ : St) (H : Heap) (locs : List Loc) (ls : Array Slot) (x2 : Int) (x3 : Int) (t0 : Int), inR x2 → inR x3 → inR t0 → fX3_settle_J33 n σ p0 x1 x2 x3 t0 = some σ2 → Wd D cy ad nm nv σ H → va_S (AW ad nm nv sz) s.heap H locs → lv_has ls 5 [(0, .ref (ad p0)), (1, .int (i32 x1)), (2, .int (i32 x2)), (3, .int (i32 x3))] → W p l e ({ frames := 2, cells := 0, slots := 0, locals := 44 } : Room) s m args below meth c H locs 0 0 Q (F0 m 33 ls [.int (i32 t0)]) := by
    intro σ H locs ls x2 x3 t0 hx2 hx3 ht0 hf hW hS hl
    unfold fX3_settle_J33 at hf
    refine lv_istore (lv' := [(4, .int (i32 t0)), (0, .ref (ad p0)), (1, .int (i32 x1)), (2, .int (i32 x2)), (3, .int (i32 x3))]) hx hb dX3_settle_33 hl (by decide) rfl (fun ls hl => ?_)
    refine lv_iload_n hx hb dX3_settle_35 rfl (lv_at hl 4 rfl) ?_
    refine m_callSi1 (z := true) (As := [.int (i32 x3)]) (rest := []) X hW hS hl.1 gc_X3_85 hd_X3_isNumber ⟨rfl, rfl, Nat.le_of_ble_eq_true rfl, Nat.le_of_ble_eq_true rfl⟩ (fun v q => ok_X3_isNumber hx3 q) hf rfl rfl (Nat.le_of_ble_eq_true rfl) dX3_settle_36 ⟨Nat.le_of_ble_eq_true rfl, Nat.le_of_ble_eq_true rfl⟩ (fun v4 H locs hv4 zv4 hWv4 hSv4 hf => ?_)
    refine m_if_eq (tgt := 70) hx hb hv4 hf dX3_settle_39 (by decide) (fun hf => ?_) (fun hf => ?_)
    · skip
      exact m_vret X hr hlocks hWv4 hSv4 (Option.some.inj hf) hQ dX3_settle_70
    · skip
      refine lv_aload_n hx hb dX3_settle_42 rfl (lv_at hl 1 rfl) ?_
      refine lv_iload_n hx hb dX3_settle_43 rfl (lv_at hl 3 rfl) ?_
      refine m_callVi1 (z := true) (As := [.int (i32 x2)]) (rest := []) X hWv4 hSv4 hl.1 gc_X3_166 hd_X3_isOpen ⟨rfl, rfl, Nat.le_of_ble_eq_true rfl, Nat.le_of_ble_eq_true rfl⟩ (rc_X3 X hWv4 hp0) (fun v q => ok_X3_isOpen hp0 hx2 q) hf rfl rfl (Nat.le_of_ble_eq_true rfl) dX3_settle_44 ⟨Nat.le_of_ble_eq_true rfl, Nat.le_of_ble_eq_true rfl⟩ (fun v5 H locs hv5 zv5 hWv5 hSv5 hf => ?_)
      refine m_if_eq (tgt := 70) hx hb hv5 hf dX3_settle_47 (by decide) (fun hf => ?_) (fun hf => ?_)
      · skip
        exact m_vret X hr hlocks hWv5 hSv5 (Option.some.inj hf) hQ dX3_settle_70
      · skip
        refine lv_aload_n hx hb dX3_settle_50 rfl (lv_at hl 1 rfl) ?_
        refine lv_aload_n hx hb dX3_settle_51 rfl (lv_at hl 1 rfl) ?_
        refine g_X3_book X hWv5 hp0 (X.2.2.2.2.1 _ mw95) dX3_settle_52 ?_
        refine lv_iload_n hx hb dX3_settle_55 rfl (lv_at hl 2 rfl) ?_
        refine m_callVi1 (z := false) (As := [.int (i32 x1)]) (rest := [.ref (ad p0)]) X hWv5 hSv5 hl.1 gc_X3_128 hd_X1_siteOf ⟨rfl, rfl, Nat.le_of_ble_eq_true rfl, Nat.le_of_ble_eq_true rfl⟩ (rc_X1 X hWv5) (fun v q => ok_X1_siteOf hx1 q) hf rfl rfl (Nat.le_of_ble_eq_true rfl) dX3_settle_56 ⟨Nat.le_of_ble_eq_true rfl, Nat.le_of_ble_eq_true rfl⟩ (fun v6 H locs hv6 zv6 hWv6 hSv6 hf => ?_)
        refine lv_aload_n hx hb dX3_settle_59 rfl (lv_at hl 1 rfl) ?_
        refine lv_iload_n hx hb dX3_settle_60 rfl (lv_at hl 4 rfl) ?_
        refine m_callVi1 (z := false) (As := [.int (i32 x3)]) (rest := [.int (i32 v6), .ref (ad p0)]) X hWv6 hSv6 hl.1 gc_X3_131 hd_X3_blockOf ⟨rfl, rfl, Nat.le_of_ble_eq_true rfl, Nat.le_of_ble_eq_true rfl⟩ (rc_X3 X hWv6 hp0) (fun v q => ok_X3_blockOf hp0 hx3 q) hf rfl rfl (Nat.le_of_ble_eq_true rfl) dX3_settle_61 ⟨Nat.le_of_ble_eq_true rfl, Nat.le_of_ble_eq_true rfl⟩ (fun v7 H locs hv7 zv7 hWv7 hSv7 hf => ?_)
        refine m_callVi1 (z := false) (As := [.int (i32 v6), .int (i32 v7)]) (rest := []) X hWv7 hSv7 hl.1 gc_X3_134 hd_X3_levelIn ⟨rfl, rfl, Nat.le_of_ble_eq_true rfl, Nat.le_of_ble_eq_true rfl⟩ (rc_X3 X hWv7 hp0) (fun v q => ok_X3_levelIn hp0 hv6 hv7 q) hf rfl rfl (Nat.le_of_ble_eq_true rfl) dX3_settle_64 ⟨Nat.le_of_ble_eq_true rfl, Nat.le_of_ble_eq_true rfl⟩ (fun v8 H locs hv8 zv8 hWv8 hSv8 hf => ?_)
        refine m_if_eq (tgt := 71) hx hb hv8 hf dX3_settle_67 (by decide) (fun hf => ?_) (fun hf => ?_)
        · skip
          refine lv_iload_n hx hb dX3_settle_71 rfl (lv_at hl 4 rfl) ?_
          refine lv_iload_n hx hb dX3_settle_72 rfl (lv_at hl 3 rfl) ?_
          refine m_icmp_ne (tgt := 95) hx hb hx3 hx2 hf dX3_settle_73 (by decide) (fun hf => ?_) (fun hf => ?_)
          · skip
            refine lv_aload_n hx hb dX3_settle_95 rfl (lv_at hl 1 rfl) ?_
            refine g_X3_asked X hWv8 hp0 (X.2.2.2.2.1 _ mw102) dX3_settle_96 ?_
            refine lv_iload_n hx hb dX3_settle_99 rfl (lv_at hl 3 rfl) ?_
            refine m_const (v := 0) hx hb dX3_settle_100 rfl ?_
            refine m_zast X hWv8 hSv8 (a_X3_asked hp0) hx2 (by decide) hf dX3_settle_101 (fun σ9 H locs hW9 hS9 hf => ?_)
            refine lv_aload_n hx hb dX3_settle_102 rfl (lv_at hl 1 rfl) ?_
            refine g_X3_removed X hW9 hp0 (X.2.2.2.2.1 _ mw100) dX3_settle_103 ?_
            refine lv_iload_n hx hb dX3_settle_106 rfl (lv_at hl 4 rfl) ?_
            refine lv_iload hx hb dX3_settle_107 (lv_at hl 0 rfl) ?_
            refine m_zast X hW9 hS9 (a_X3_removed hp0) hx3 ht0 hf dX3_settle_109 (fun σ10 H locs hW10 hS10 hf => ?_)
            exact m_vret X hr hlocks hW10 hS10 (Option.some.inj hf) hQ dX3_settle_110
          · skip
            refine lv_aload_n hx hb dX3_settle_76 rfl (lv_at hl 1 rfl) ?_
            refine g_X3_states X hWv8 hp0 (X.2.2.2.2.1 _ mw98) dX3_settle_77 ?_
            refine lv_iload_n hx hb dX3_settle_80 rfl (lv_at hl 4 rfl) ?_
            refine lv_iload hx hb dX3_settle_81 (lv_at hl 0 rfl) ?_
            refine m_if_eq (tgt := 90) hx hb ht0 hf dX3_settle_83 (by decide) (fun hf => ?_) (fun hf => ?_)
            · skip
              refine m_const (v := 3) hx hb dX3_settle_90 rfl ?_
              refine m_iast X hWv8 hSv8 (a_X3_states hp0) hx3 (by decide) hf dX3_settle_91 (fun σ11 H locs hW11 hS11 hf => ?_)
              refine lv_goto (tgt := 110) hx hb dX3_settle_92 (by decide) ?_
              exact m_vret X hr hlocks hW11 hS11 (Option.some.inj hf) hQ dX3_settle_110
            · skip
              refine m_const (v := 1) hx hb dX3_settle_86 rfl ?_
              refine lv_goto (tgt := 91) hx hb dX3_settle_87 (by decide) ?_
              refine m_iast X hWv8 hSv8 (a_X3_states hp0) hx3 (by decide) hf dX3_settle_91 (fun σ12 H locs hW12 hS12 hf => ?_)
              refine lv_goto (tgt := 110) hx hb dX3_settle_92 (by decide) ?_
              exact m_vret X hr hlocks hW12 hS12 (Option.some.inj hf) hQ dX3_settle_110
        · skip
          exact m_vret X hr hlocks hWv8 hSv8 (Option.some.inj hf) hQ dX3_settle_70
  refine lv_aload_n hx hb dX3_settle_0 rfl (lv_at hl 0 rfl) ?_
  refine g_X3_book X hW hp0 (X.2.2.2.2.1 _ mw95) dX3_settle_1 ?_
  refine lv_iload_n hx hb dX3_settle_4 rfl (lv_at hl 1 rfl) ?_
  refine m_callVi1 (z := false) (As := [.int (i32 x1)]) (rest := []) X hW hS hl.1 gc_X3_82 hd_X1_firstOf ⟨rfl, rfl, Nat.le_of_ble_eq_true rfl, Nat.le_of_ble_eq_true rfl⟩ (rc_X1 X hW) (fun v q => ok_X1_firstOf hx1 q) hf rfl rfl (Nat.le_of_ble_eq_true rfl) dX3_settle_5 ⟨Nat.le_of_ble_eq_true rfl, Nat.le_of_ble_eq_true rfl⟩ (fun v1 H locs hv1 zv1 hWv1 hSv1 hf => ?_)
  refine lv_istore_n (lv' := [(2, .int (i32 v1)), (0, .ref (ad p0)), (1, .int (i32 x1))]) hx hb dX3_settle_8 rfl hl (by decide) rfl (fun ls hl => ?_)
  refine lv_aload_n hx hb dX3_settle_9 rfl (lv_at hl 1 rfl) ?_
  refine lv_iload_n hx hb dX3_settle_10 rfl (lv_at hl 0 rfl) ?_
  refine m_callVi1 (z := false) (As := [.int (i32 v1)]) (rest := []) X hWv1 hSv1 hl.1 gc_X3_163 hd_X3_elementOf ⟨rfl, rfl, Nat.le_of_ble_eq_true rfl, Nat.le_of_ble_eq_true rfl⟩ (rc_X3 X hWv1 hp0) (fun v q => ok_X3_elementOf hp0 hv1 q) hf rfl rfl (Nat.le_of_ble_eq_true rfl) dX3_settle_11 ⟨Nat.le_of_ble_eq_true rfl, Nat.le_of_ble_eq_true rfl⟩ (fun v2 H locs hv2 zv2 hWv2 hSv2 hf => ?_)
  refine lv_istore_n (lv' := [(3, .int (i32 v2)), (2, .int (i32 v1)), (0, .ref (ad p0)), (1, .int (i32 x1))]) hx hb dX3_settle_14 rfl hl (by decide) rfl (fun ls hl => ?_)
  refine lv_aload_n hx hb dX3_settle_15 rfl (lv_at hl 2 rfl) ?_
  refine g_X3_book X hWv2 hp0 (X.2.2.2.2.1 _ mw95) dX3_settle_16 ?_
  refine lv_iload_n hx hb dX3_settle_19 rfl (lv_at hl 3 rfl) ?_
  refine m_callVi1 (z := false) (As := [.int (i32 x1)]) (rest := []) X hWv2 hSv2 hl.1 gc_X3_79 hd_X1_kindOf ⟨rfl, rfl, Nat.le_of_ble_eq_true rfl, Nat.le_of_ble_eq_true rfl⟩ (rc_X1 X hWv2) (fun v q => ok_X1_kindOf hx1 q) hf rfl rfl (Nat.le_of_ble_eq_true rfl) dX3_settle_20 ⟨Nat.le_of_ble_eq_true rfl, Nat.le_of_ble_eq_true rfl⟩ (fun v3 H locs hv3 zv3 hWv3 hSv3 hf => ?_)
  refine m_bipush (v := 8) hx hb dX3_settle_23 (by decide) ?_
  refine m_icmp_ne (tgt := 32) hx hb hv3 (by decide) hf dX3_settle_25 (by decide) (fun hf => ?_) (fun hf => ?_)
  · skip
    refine m_const (v := 0) hx hb dX3_settle_32 rfl ?_
    exact hc33 _ _ _ _ v1 v2 0 hv1 hv2 (by decide) hf hWv3 hSv3 (lv_sub hl [2, 3, 1, 0] rfl)
  · skip
    refine m_const (v := 1) hx hb dX3_settle_28 rfl ?_
    refine lv_goto (tgt := 33) hx hb dX3_settle_29 (by decide) ?_
    exact hc33 _ _ _ _ v1 v2 1 hv1 hv2 (by decide) hf hWv3 hSv3 (lv_sub hl [2, 3, 1, 0] rfl)
set_option maxRecDepth 100000 in
set_option maxHeartbeats 4000000 in
theorem ok_X3_giveLevel {l : Launch} {D : va_G} {cy : Nat → ClassId} {ad : Nat → Nat} {nm nv sz : Nat} {σ : St} {p0 : Nat} {x1 : Int} {σ2 : St} (hp0 : isPaper p0) (hx1 : inR x1) (hf : fX3_giveLevel σ p0 x1 = some σ2) : CV l yX3_giveLevel cX3_giveLevel 4 none ({ frames := 1, cells := 0, slots := 0, locals := 21 } : Room) [.ref (ad p0), .int (i32 x1)] D cy ad nm nv sz σ σ2 := by
  refine m_entry RX3 rfl (by decide +kernel) (Nat.le_of_ble_eq_true rfl) ?_
  intro p e s m args below meth c Q hQ hr hlocks X hW hS ls hl
  have hx := X.1
  have hb := X.2.1
  have hl : lv_has ls 4 [(0, .ref (ad p0)), (1, .int (i32 x1))] := hl
  unfold fX3_giveLevel at hf
  refine lv_aload_n hx hb dX3_giveLevel_0 rfl (lv_at hl 0 rfl) ?_
  refine g_X3_book X hW hp0 (X.2.2.2.2.1 _ mw95) dX3_giveLevel_1 ?_
  refine lv_iload_n hx hb dX3_giveLevel_4 rfl (lv_at hl 1 rfl) ?_
  refine m_callVi1 (z := false) (As := [.int (i32 x1)]) (rest := []) X hW hS hl.1 gc_X3_82 hd_X1_firstOf ⟨rfl, rfl, Nat.le_of_ble_eq_true rfl, Nat.le_of_ble_eq_true rfl⟩ (rc_X1 X hW) (fun v q => ok_X1_firstOf hx1 q) hf rfl rfl (Nat.le_of_ble_eq_true rfl) dX3_giveLevel_5 ⟨Nat.le_of_ble_eq_true rfl, Nat.le_of_ble_eq_true rfl⟩ (fun v1 H locs hv1 zv1 hWv1 hSv1 hf => ?_)
  refine lv_istore_n (lv' := [(2, .int (i32 v1)), (0, .ref (ad p0)), (1, .int (i32 x1))]) hx hb dX3_giveLevel_8 rfl hl (by decide) rfl (fun ls hl => ?_)
  refine lv_aload_n hx hb dX3_giveLevel_9 rfl (lv_at hl 1 rfl) ?_
  refine g_X3_book X hWv1 hp0 (X.2.2.2.2.1 _ mw95) dX3_giveLevel_10 ?_
  refine lv_iload_n hx hb dX3_giveLevel_13 rfl (lv_at hl 2 rfl) ?_
  refine m_callVi1 (z := false) (As := [.int (i32 x1)]) (rest := []) X hWv1 hSv1 hl.1 gc_X3_150 hd_X1_secondOf ⟨rfl, rfl, Nat.le_of_ble_eq_true rfl, Nat.le_of_ble_eq_true rfl⟩ (rc_X1 X hWv1) (fun v q => ok_X1_secondOf hx1 q) hf rfl rfl (Nat.le_of_ble_eq_true rfl) dX3_giveLevel_14 ⟨Nat.le_of_ble_eq_true rfl, Nat.le_of_ble_eq_true rfl⟩ (fun v2 H locs hv2 zv2 hWv2 hSv2 hf => ?_)
  refine lv_istore_n (lv' := [(3, .int (i32 v2)), (2, .int (i32 v1)), (0, .ref (ad p0)), (1, .int (i32 x1))]) hx hb dX3_giveLevel_17 rfl hl (by decide) rfl (fun ls hl => ?_)
  refine lv_iload_n hx hb dX3_giveLevel_18 rfl (lv_at hl 1 rfl) ?_
  refine m_callSi1 (z := true) (As := [.int (i32 v1)]) (rest := []) X hWv2 hSv2 hl.1 gc_X3_156 hd_X3_isBlock ⟨rfl, rfl, Nat.le_of_ble_eq_true rfl, Nat.le_of_ble_eq_true rfl⟩ (fun v q => ok_X3_isBlock hv1 q) hf rfl rfl (Nat.le_of_ble_eq_true rfl) dX3_giveLevel_19 ⟨Nat.le_of_ble_eq_true rfl, Nat.le_of_ble_eq_true rfl⟩ (fun v3 H locs hv3 zv3 hWv3 hSv3 hf => ?_)
  refine m_if_eq (tgt := 52) hx hb hv3 hf dX3_giveLevel_22 (by decide) (fun hf => ?_) (fun hf => ?_)
  · skip
    exact m_vret X hr hlocks hWv3 hSv3 (Option.some.inj hf) hQ dX3_giveLevel_52
  · skip
    refine lv_iload_n hx hb dX3_giveLevel_25 rfl (lv_at hl 0 rfl) ?_
    refine m_if_le (tgt := 52) hx hb hv2 hf dX3_giveLevel_26 (by decide) (fun hf => ?_) (fun hf => ?_)
    · skip
      exact m_vret X hr hlocks hWv3 hSv3 (Option.some.inj hf) hQ dX3_giveLevel_52
    · skip
      refine lv_iload_n hx hb dX3_giveLevel_29 rfl (lv_at hl 0 rfl) ?_
      refine m_const (v := 4) hx hb dX3_giveLevel_30 rfl ?_
      refine m_icmp_ge (tgt := 52) hx hb hv2 (by decide) hf dX3_giveLevel_31 (by decide) (fun hf => ?_) (fun hf => ?_)
      · skip
        exact m_vret X hr hlocks hWv3 hSv3 (Option.some.inj hf) hQ dX3_giveLevel_52
      · skip
        refine lv_aload_n hx hb dX3_giveLevel_34 rfl (lv_at hl 2 rfl) ?_
        refine g_X3_levels X hWv3 hp0 (X.2.2.2.2.1 _ mw106) dX3_giveLevel_35 ?_
        refine lv_iload_n hx hb dX3_giveLevel_38 rfl (lv_at hl 0 rfl) ?_
        refine m_aaldL hp0 X hWv3 hv2 hf dX3_giveLevel_39 (fun o4 ho4 hf => ?_)
        refine lv_iload_n hx hb dX3_giveLevel_40 rfl (lv_at hl 1 rfl) ?_
        refine m_const (v := 1) hx hb dX3_giveLevel_41 rfl ?_
        refine m_iadd hx hb hf dX3_giveLevel_42 (fun v5 hv5 hf => ?_)
        refine lv_aload_n hx hb dX3_giveLevel_43 rfl (lv_at hl 2 rfl) ?_
        refine g_X3_book X hWv3 hp0 (X.2.2.2.2.1 _ mw95) dX3_giveLevel_44 ?_
        refine lv_iload_n hx hb dX3_giveLevel_47 rfl (lv_at hl 3 rfl) ?_
        refine m_callVi1 (z := false) (As := [.int (i32 x1)]) (rest := [.int (i32 v5), .ref (ad o4)]) X hWv3 hSv3 hl.1 gc_X3_100 hd_X1_valueOf ⟨rfl, rfl, Nat.le_of_ble_eq_true rfl, Nat.le_of_ble_eq_true rfl⟩ (rc_X1 X hWv3) (fun v q => ok_X1_valueOf hx1 q) hf rfl rfl (Nat.le_of_ble_eq_true rfl) dX3_giveLevel_48 ⟨Nat.le_of_ble_eq_true rfl, Nat.le_of_ble_eq_true rfl⟩ (fun v6 H locs hv6 zv6 hWv6 hSv6 hf => ?_)
        refine m_iast X hWv6 hSv6 ho4 hv5 hv6 hf dX3_giveLevel_51 (fun σ7 H locs hW7 hS7 hf => ?_)
        exact m_vret X hr hlocks hW7 hS7 (Option.some.inj hf) hQ dX3_giveLevel_52
set_option maxRecDepth 100000 in
set_option maxHeartbeats 4000000 in
theorem ok_X3_perform {l : Launch} {D : va_G} {cy : Nat → ClassId} {ad : Nat → Nat} {nm nv sz : Nat} {σ : St} {n : Nat} {p0 : Nat} {x1 : Int} {σ2 : St} (hp0 : isPaper p0) (hx1 : inR x1) (hf : fX3_perform n σ p0 x1 = some σ2) : CV l yX3_perform cX3_perform 3 none ({ frames := 3, cells := 0, slots := 0, locals := 98 } : Room) [.ref (ad p0), .int (i32 x1)] D cy ad nm nv sz σ σ2 := by
  refine m_entry RX3 rfl (by decide +kernel) (Nat.le_of_ble_eq_true rfl) ?_
  intro p e s m args below meth c Q hQ hr hlocks X hW hS ls hl
  have hx := X.1
  have hb := X.2.1
  have hl : lv_has ls 3 [(0, .ref (ad p0)), (1, .int (i32 x1))] := hl
  unfold fX3_perform at hf
  have hc27 : ∀ (σ : St) (H : Heap) (locs : List Loc) (ls : Array Slot) (x2 : Int), inR x2 → fX3_perform_J27 n σ p0 x1 x2 = some σ2 → Wd D cy ad nm nv σ H → va_S (AW ad nm nv sz) s.heap H locs → lv_has ls 3 [(0, .ref (ad p0)), (1, .int (i32 x1)), (2, .int (i32 x2))] → W p l e ({ frames := 3, cells := 0, slots := 0, locals := 98 } : Room) s m args below meth c H locs 0 0 Q (F0 m 27 ls []) := by
    intro σ H locs ls x2 hx2 hf hW hS hl
    unfold fX3_perform_J27 at hf
    refine lv_iload_n hx hb dX3_perform_27 rfl (lv_at hl 2 rfl) ?_
    by_cases q28_0 : x2 = 0
    · rw [if_pos q28_0] at hf
      refine lv_tableIn (off := 60) (tgt := 88) hx hb dX3_perform_28 (by rw [q28_0]; decide) (by rw [q28_0]; decide) (by rw [q28_0]; rfl) (by decide) ?_
      refine lv_aload_n hx hb dX3_perform_88 rfl (lv_at hl 0 rfl) ?_
      refine lv_iload_n hx hb dX3_perform_89 rfl (lv_at hl 1 rfl) ?_
      refine m_callVv (As := [.int (i32 x1)]) (rest := []) X hW hS hl.1 gc_X3_91 hd_X3_putElement ⟨rfl, rfl, Nat.le_of_ble_eq_true rfl, Nat.le_of_ble_eq_true rfl⟩ (rc_X3 X hW hp0) (fun v q => ok_X3_putElement hp0 hx1 q) hf rfl rfl (Nat.le_of_ble_eq_true rfl) dX3_perform_90 ⟨Nat.le_of_ble_eq_true rfl, Nat.le_of_ble_eq_true rfl⟩ (fun σ3 H locs hW3 hS3 hf => ?_)
      refine lv_goto (tgt := 190) hx hb dX3_perform_93 (by decide) ?_
      exact m_vret X hr hlocks hW3 hS3 (Option.some.inj hf) hQ dX3_perform_190
    · rw [if_neg q28_0] at hf
      by_cases q28_1 : x2 = 1
      · rw [if_pos q28_1] at hf
        refine lv_tableIn (off := 60) (tgt := 88) hx hb dX3_perform_28 (by rw [q28_1]; decide) (by rw [q28_1]; decide) (by rw [q28_1]; rfl) (by decide) ?_
        refine lv_aload_n hx hb dX3_perform_88 rfl (lv_at hl 0 rfl) ?_
        refine lv_iload_n hx hb dX3_perform_89 rfl (lv_at hl 1 rfl) ?_
        refine m_callVv (As := [.int (i32 x1)]) (rest := []) X hW hS hl.1 gc_X3_91 hd_X3_putElement ⟨rfl, rfl, Nat.le_of_ble_eq_true rfl, Nat.le_of_ble_eq_true rfl⟩ (rc_X3 X hW hp0) (fun v q => ok_X3_putElement hp0 hx1 q) hf rfl rfl (Nat.le_of_ble_eq_true rfl) dX3_perform_90 ⟨Nat.le_of_ble_eq_true rfl, Nat.le_of_ble_eq_true rfl⟩ (fun σ4 H locs hW4 hS4 hf => ?_)
        refine lv_goto (tgt := 190) hx hb dX3_perform_93 (by decide) ?_
        exact m_vret X hr hlocks hW4 hS4 (Option.some.inj hf) hQ dX3_perform_190
      · rw [if_neg q28_1] at hf
        by_cases q28_2 : x2 = 2
        · rw [if_pos q28_2] at hf
          refine lv_tableIn (off := 68) (tgt := 96) hx hb dX3_perform_28 (by rw [q28_2]; decide) (by rw [q28_2]; decide) (by rw [q28_2]; rfl) (by decide) ?_
          refine lv_aload_n hx hb dX3_perform_96 rfl (lv_at hl 0 rfl) ?_
          refine lv_iload_n hx hb dX3_perform_97 rfl (lv_at hl 1 rfl) ?_
          refine m_callVv (As := [.int (i32 x1)]) (rest := []) X hW hS hl.1 gc_X3_94 hd_X3_removeElement ⟨rfl, rfl, Nat.le_of_ble_eq_true rfl, Nat.le_of_ble_eq_true rfl⟩ (rc_X3 X hW hp0) (fun v q => ok_X3_removeElement hp0 hx1 q) hf rfl rfl (Nat.le_of_ble_eq_true rfl) dX3_perform_98 ⟨Nat.le_of_ble_eq_true rfl, Nat.le_of_ble_eq_true rfl⟩ (fun σ5 H locs hW5 hS5 hf => ?_)
          refine lv_goto (tgt := 190) hx hb dX3_perform_101 (by decide) ?_
          exact m_vret X hr hlocks hW5 hS5 (Option.some.inj hf) hQ dX3_perform_190
        · rw [if_neg q28_2] at hf
          by_cases q28_3 : x2 = 3
          · rw [if_pos q28_3] at hf
            refine lv_tableIn (off := 76) (tgt := 104) hx hb dX3_perform_28 (by rw [q28_3]; decide) (by rw [q28_3]; decide) (by rw [q28_3]; rfl) (by decide) ?_
            refine lv_aload_n hx hb dX3_perform_104 rfl (lv_at hl 0 rfl) ?_
            refine lv_iload_n hx hb dX3_perform_105 rfl (lv_at hl 1 rfl) ?_
            refine m_callVv (As := [.int (i32 x1)]) (rest := []) X hW hS hl.1 gc_X3_97 hd_X3_restoreElement ⟨rfl, rfl, Nat.le_of_ble_eq_true rfl, Nat.le_of_ble_eq_true rfl⟩ (rc_X3 X hW hp0) (fun v q => ok_X3_restoreElement hp0 hx1 q) hf rfl rfl (Nat.le_of_ble_eq_true rfl) dX3_perform_106 ⟨Nat.le_of_ble_eq_true rfl, Nat.le_of_ble_eq_true rfl⟩ (fun σ6 H locs hW6 hS6 hf => ?_)
            refine lv_goto (tgt := 190) hx hb dX3_perform_109 (by decide) ?_
            exact m_vret X hr hlocks hW6 hS6 (Option.some.inj hf) hQ dX3_perform_190
          · rw [if_neg q28_3] at hf
            by_cases q28_4 : x2 = 4
            · rw [if_pos q28_4] at hf
              refine lv_tableIn (off := 84) (tgt := 112) hx hb dX3_perform_28 (by rw [q28_4]; decide) (by rw [q28_4]; decide) (by rw [q28_4]; rfl) (by decide) ?_
              refine lv_aload_n hx hb dX3_perform_112 rfl (lv_at hl 0 rfl) ?_
              refine lv_iload_n hx hb dX3_perform_113 rfl (lv_at hl 1 rfl) ?_
              refine m_const (v := 1) hx hb dX3_perform_114 rfl ?_
              refine lv_aload_n hx hb dX3_perform_115 rfl (lv_at hl 0 rfl) ?_
              refine g_X3_book X hW hp0 (X.2.2.2.2.1 _ mw95) dX3_perform_116 ?_
              refine lv_iload_n hx hb dX3_perform_119 rfl (lv_at hl 1 rfl) ?_
              refine m_callVi1 (z := false) (As := [.int (i32 x1)]) (rest := [.int (i32 1), .int (i32 x1), .ref (ad p0)]) X hW hS hl.1 gc_X3_100 hd_X1_valueOf ⟨rfl, rfl, Nat.le_of_ble_eq_true rfl, Nat.le_of_ble_eq_true rfl⟩ (rc_X1 X hW) (fun v q => ok_X1_valueOf hx1 q) hf rfl rfl (Nat.le_of_ble_eq_true rfl) dX3_perform_120 ⟨Nat.le_of_ble_eq_true rfl, Nat.le_of_ble_eq_true rfl⟩ (fun v7 H locs hv7 zv7 hWv7 hSv7 hf => ?_)
              refine m_ishl hx hb hf dX3_perform_123 (fun v8 hv8 hf => ?_)
              refine lv_aload_n hx hb dX3_perform_124 rfl (lv_at hl 0 rfl) ?_
              refine g_X3_book X hWv7 hp0 (X.2.2.2.2.1 _ mw95) dX3_perform_125 ?_
              refine lv_iload_n hx hb dX3_perform_128 rfl (lv_at hl 1 rfl) ?_
              refine m_callVi1 (z := true) (As := [.int (i32 x1)]) (rest := [.int (i32 v8), .int (i32 x1), .ref (ad p0)]) X hWv7 hSv7 hl.1 gc_X3_103 hd_X1_flagOf ⟨rfl, rfl, Nat.le_of_ble_eq_true rfl, Nat.le_of_ble_eq_true rfl⟩ (rc_X1 X hWv7) (fun v q => ok_X1_flagOf hx1 q) hf rfl rfl (Nat.le_of_ble_eq_true rfl) dX3_perform_129 ⟨Nat.le_of_ble_eq_true rfl, Nat.le_of_ble_eq_true rfl⟩ (fun v9 H locs hv9 zv9 hWv9 hSv9 hf => ?_)
              refine m_callVv (As := [.int (i32 x1), .int (i32 v8), .int (i32 v9)]) (rest := []) X hWv9 hSv9 hl.1 gc_X3_106 hd_X3_paint ⟨rfl, rfl, Nat.le_of_ble_eq_true rfl, Nat.le_of_ble_eq_true rfl⟩ (rc_X3 X hWv9 hp0) (fun v q => ok_X3_paint hp0 hx1 hv8 hv9 q) hf rfl rfl (Nat.le_of_ble_eq_true rfl) dX3_perform_132 ⟨Nat.le_of_ble_eq_true rfl, Nat.le_of_ble_eq_true rfl⟩ (fun σ10 H locs hW10 hS10 hf => ?_)
              refine lv_goto (tgt := 190) hx hb dX3_perform_135 (by decide) ?_
              exact m_vret X hr hlocks hW10 hS10 (Option.some.inj hf) hQ dX3_perform_190
            · rw [if_neg q28_4] at hf
              by_cases q28_5 : x2 = 5
              · rw [if_pos q28_5] at hf
                refine lv_tableIn (off := 110) (tgt := 138) hx hb dX3_perform_28 (by rw [q28_5]; decide) (by rw [q28_5]; decide) (by rw [q28_5]; rfl) (by decide) ?_
                refine lv_aload_n hx hb dX3_perform_138 rfl (lv_at hl 0 rfl) ?_
                refine lv_iload_n hx hb dX3_perform_139 rfl (lv_at hl 1 rfl) ?_
                refine m_callVv (As := [.int (i32 x1)]) (rest := []) X hW hS hl.1 gc_X3_110 hd_X3_giveKind ⟨rfl, rfl, Nat.le_of_ble_eq_true rfl, Nat.le_of_ble_eq_true rfl⟩ (rc_X3 X hW hp0) (fun v q => ok_X3_giveKind hp0 hx1 q) hf rfl rfl (Nat.le_of_ble_eq_true rfl) dX3_perform_140 ⟨Nat.le_of_ble_eq_true rfl, Nat.le_of_ble_eq_true rfl⟩ (fun σ11 H locs hW11 hS11 hf => ?_)
                refine lv_goto (tgt := 190) hx hb dX3_perform_143 (by decide) ?_
                exact m_vret X hr hlocks hW11 hS11 (Option.some.inj hf) hQ dX3_perform_190
              · rw [if_neg q28_5] at hf
                by_cases q28_6 : x2 = 6
                · rw [if_pos q28_6] at hf
                  refine lv_tableIn (off := 118) (tgt := 146) hx hb dX3_perform_28 (by rw [q28_6]; decide) (by rw [q28_6]; decide) (by rw [q28_6]; rfl) (by decide) ?_
                  refine lv_aload_n hx hb dX3_perform_146 rfl (lv_at hl 0 rfl) ?_
                  refine lv_iload_n hx hb dX3_perform_147 rfl (lv_at hl 1 rfl) ?_
                  refine m_callVv (As := [.int (i32 x1)]) (rest := []) X hW hS hl.1 gc_X3_113 hd_X3_putUnder ⟨rfl, rfl, Nat.le_of_ble_eq_true rfl, Nat.le_of_ble_eq_true rfl⟩ (rc_X3 X hW hp0) (fun v q => ok_X3_putUnder hp0 hx1 q) hf rfl rfl (Nat.le_of_ble_eq_true rfl) dX3_perform_148 ⟨Nat.le_of_ble_eq_true rfl, Nat.le_of_ble_eq_true rfl⟩ (fun σ12 H locs hW12 hS12 hf => ?_)
                  refine lv_goto (tgt := 190) hx hb dX3_perform_151 (by decide) ?_
                  exact m_vret X hr hlocks hW12 hS12 (Option.some.inj hf) hQ dX3_perform_190
                · rw [if_neg q28_6] at hf
                  by_cases q28_7 : x2 = 7
                  · rw [if_pos q28_7] at hf
                    refine lv_tableIn (off := 126) (tgt := 154) hx hb dX3_perform_28 (by rw [q28_7]; decide) (by rw [q28_7]; decide) (by rw [q28_7]; rfl) (by decide) ?_
                    refine lv_aload_n hx hb dX3_perform_154 rfl (lv_at hl 0 rfl) ?_
                    refine lv_iload_n hx hb dX3_perform_155 rfl (lv_at hl 1 rfl) ?_
                    refine lv_aload_n hx hb dX3_perform_156 rfl (lv_at hl 0 rfl) ?_
                    refine g_X3_book X hW hp0 (X.2.2.2.2.1 _ mw95) dX3_perform_157 ?_
                    refine lv_iload_n hx hb dX3_perform_160 rfl (lv_at hl 1 rfl) ?_
                    refine m_callVi1 (z := false) (As := [.int (i32 x1)]) (rest := [.int (i32 x1), .ref (ad p0)]) X hW hS hl.1 gc_X3_100 hd_X1_valueOf ⟨rfl, rfl, Nat.le_of_ble_eq_true rfl, Nat.le_of_ble_eq_true rfl⟩ (rc_X1 X hW) (fun v q => ok_X1_valueOf hx1 q) hf rfl rfl (Nat.le_of_ble_eq_true rfl) dX3_perform_161 ⟨Nat.le_of_ble_eq_true rfl, Nat.le_of_ble_eq_true rfl⟩ (fun v13 H locs hv13 zv13 hWv13 hSv13 hf => ?_)
                    refine m_callSNi1 (z := false) (As := [.int (i32 v13)]) (rest := [.int (i32 x1), .ref (ad p0)]) X hWv13 hSv13 hl.1 (cg_G mw422) (nm_X3_116 X.2.2.2.2.2.2.2.2) (X.2.2.2.2.1 _ mw1) (X.2.2.2.2.1 _ mw421) hdn_X5_commentBit ⟨rfl, rfl, Nat.le_of_ble_eq_true rfl, Nat.le_of_ble_eq_true rfl⟩ (fun v q => ok_X5_commentBit hv13 q) hf rfl rfl (Nat.le_of_ble_eq_true rfl) dX3_perform_164 ⟨Nat.le_of_ble_eq_true rfl, Nat.le_of_ble_eq_true rfl⟩ (fun v14 H locs hv14 zv14 hWv14 hSv14 hf => ?_)
                    refine m_const (v := 1) hx hb dX3_perform_167 rfl ?_
                    refine m_callVv (As := [.int (i32 x1), .int (i32 v14), .int (i32 1)]) (rest := []) X hWv14 hSv14 hl.1 gc_X3_106 hd_X3_paint ⟨rfl, rfl, Nat.le_of_ble_eq_true rfl, Nat.le_of_ble_eq_true rfl⟩ (rc_X3 X hWv14 hp0) (fun v q => ok_X3_paint hp0 hx1 hv14 (by decide) q) hf rfl rfl (Nat.le_of_ble_eq_true rfl) dX3_perform_168 ⟨Nat.le_of_ble_eq_true rfl, Nat.le_of_ble_eq_true rfl⟩ (fun σ15 H locs hW15 hS15 hf => ?_)
                    refine lv_goto (tgt := 190) hx hb dX3_perform_171 (by decide) ?_
                    exact m_vret X hr hlocks hW15 hS15 (Option.some.inj hf) hQ dX3_perform_190
                  · rw [if_neg q28_7] at hf
                    by_cases q28_8 : x2 = 8
                    · rw [if_pos q28_8] at hf
                      refine lv_tableIn (off := 146) (tgt := 174) hx hb dX3_perform_28 (by rw [q28_8]; decide) (by rw [q28_8]; decide) (by rw [q28_8]; rfl) (by decide) ?_
                      refine lv_aload_n hx hb dX3_perform_174 rfl (lv_at hl 0 rfl) ?_
                      refine lv_iload_n hx hb dX3_perform_175 rfl (lv_at hl 1 rfl) ?_
                      refine m_callVv (As := [.int (i32 x1)]) (rest := []) X hW hS hl.1 gc_X3_119 hd_X3_settle ⟨rfl, rfl, Nat.le_of_ble_eq_true rfl, Nat.le_of_ble_eq_true rfl⟩ (rc_X3 X hW hp0) (fun v q => ok_X3_settle hp0 hx1 q) hf rfl rfl (Nat.le_of_ble_eq_true rfl) dX3_perform_176 ⟨Nat.le_of_ble_eq_true rfl, Nat.le_of_ble_eq_true rfl⟩ (fun σ16 H locs hW16 hS16 hf => ?_)
                      refine lv_goto (tgt := 190) hx hb dX3_perform_179 (by decide) ?_
                      exact m_vret X hr hlocks hW16 hS16 (Option.some.inj hf) hQ dX3_perform_190
                    · rw [if_neg q28_8] at hf
                      by_cases q28_9 : x2 = 9
                      · rw [if_pos q28_9] at hf
                        refine lv_tableIn (off := 146) (tgt := 174) hx hb dX3_perform_28 (by rw [q28_9]; decide) (by rw [q28_9]; decide) (by rw [q28_9]; rfl) (by decide) ?_
                        refine lv_aload_n hx hb dX3_perform_174 rfl (lv_at hl 0 rfl) ?_
                        refine lv_iload_n hx hb dX3_perform_175 rfl (lv_at hl 1 rfl) ?_
                        refine m_callVv (As := [.int (i32 x1)]) (rest := []) X hW hS hl.1 gc_X3_119 hd_X3_settle ⟨rfl, rfl, Nat.le_of_ble_eq_true rfl, Nat.le_of_ble_eq_true rfl⟩ (rc_X3 X hW hp0) (fun v q => ok_X3_settle hp0 hx1 q) hf rfl rfl (Nat.le_of_ble_eq_true rfl) dX3_perform_176 ⟨Nat.le_of_ble_eq_true rfl, Nat.le_of_ble_eq_true rfl⟩ (fun σ17 H locs hW17 hS17 hf => ?_)
                        refine lv_goto (tgt := 190) hx hb dX3_perform_179 (by decide) ?_
                        exact m_vret X hr hlocks hW17 hS17 (Option.some.inj hf) hQ dX3_perform_190
                      · rw [if_neg q28_9] at hf
                        by_cases q28_10 : x2 = 10
                        · rw [if_pos q28_10] at hf
                          refine lv_tableIn (off := 154) (tgt := 182) hx hb dX3_perform_28 (by rw [q28_10]; decide) (by rw [q28_10]; decide) (by rw [q28_10]; rfl) (by decide) ?_
                          refine lv_aload_n hx hb dX3_perform_182 rfl (lv_at hl 0 rfl) ?_
                          refine lv_iload_n hx hb dX3_perform_183 rfl (lv_at hl 1 rfl) ?_
                          refine m_callVv (As := [.int (i32 x1)]) (rest := []) X hW hS hl.1 gc_X3_122 hd_X3_giveLevel ⟨rfl, rfl, Nat.le_of_ble_eq_true rfl, Nat.le_of_ble_eq_true rfl⟩ (rc_X3 X hW hp0) (fun v q => ok_X3_giveLevel hp0 hx1 q) hf rfl rfl (Nat.le_of_ble_eq_true rfl) dX3_perform_184 ⟨Nat.le_of_ble_eq_true rfl, Nat.le_of_ble_eq_true rfl⟩ (fun σ18 H locs hW18 hS18 hf => ?_)
                          refine lv_goto (tgt := 190) hx hb dX3_perform_187 (by decide) ?_
                          exact m_vret X hr hlocks hW18 hS18 (Option.some.inj hf) hQ dX3_perform_190
                        · rw [if_neg q28_10] at hf
                          refine lv_tableOut (tgt := 190) hx hb dX3_perform_28 (by rw [i32_toInt hx2]; omega) (by decide) ?_
                          exact m_vret X hr hlocks hW hS (Option.some.inj hf) hQ dX3_perform_190
  refine lv_aload_n hx hb dX3_perform_0 rfl (lv_at hl 0 rfl) ?_
  refine g_X3_book X hW hp0 (X.2.2.2.2.1 _ mw95) dX3_perform_1 ?_
  refine lv_iload_n hx hb dX3_perform_4 rfl (lv_at hl 1 rfl) ?_
  refine m_callVi1 (z := false) (As := [.int (i32 x1)]) (rest := []) X hW hS hl.1 gc_X3_79 hd_X1_kindOf ⟨rfl, rfl, Nat.le_of_ble_eq_true rfl, Nat.le_of_ble_eq_true rfl⟩ (rc_X1 X hW) (fun v q => ok_X1_kindOf hx1 q) hf rfl rfl (Nat.le_of_ble_eq_true rfl) dX3_perform_5 ⟨Nat.le_of_ble_eq_true rfl, Nat.le_of_ble_eq_true rfl⟩ (fun v1 H locs hv1 zv1 hWv1 hSv1 hf => ?_)
  refine lv_istore_n (lv' := [(2, .int (i32 v1)), (0, .ref (ad p0)), (1, .int (i32 x1))]) hx hb dX3_perform_8 rfl hl (by decide) rfl (fun ls hl => ?_)
  refine lv_aload_n hx hb dX3_perform_9 rfl (lv_at hl 1 rfl) ?_
  refine lv_iload_n hx hb dX3_perform_10 rfl (lv_at hl 2 rfl) ?_
  refine m_callVi1 (z := true) (As := [.int (i32 x1)]) (rest := []) X hWv1 hSv1 hl.1 gc_X3_88 hd_X3_wasUndone ⟨rfl, rfl, Nat.le_of_ble_eq_true rfl, Nat.le_of_ble_eq_true rfl⟩ (rc_X3 X hWv1 hp0) (fun v q => ok_X3_wasUndone hp0 hx1 q) hf rfl rfl (Nat.le_of_ble_eq_true rfl) dX3_perform_11 ⟨Nat.le_of_ble_eq_true rfl, Nat.le_of_ble_eq_true rfl⟩ (fun v2 H locs hv2 zv2 hWv2 hSv2 hf => ?_)
  refine m_if_eq (tgt := 27) hx hb hv2 hf dX3_perform_14 (by decide) (fun hf => ?_) (fun hf => ?_)
  · skip
    exact hc27 _ _ _ _ v1 hv1 hf hWv2 hSv2 (lv_sub hl [1, 2, 0] rfl)
  · skip
    refine lv_iload_n hx hb dX3_perform_17 rfl (lv_at hl 0 rfl) ?_
    refine m_if_eq (tgt := 27) hx hb hv1 hf dX3_perform_18 (by decide) (fun hf => ?_) (fun hf => ?_)
    · skip
      exact hc27 _ _ _ _ v1 hv1 hf hWv2 hSv2 (lv_sub hl [1, 2, 0] rfl)
    · skip
      refine lv_iload_n hx hb dX3_perform_21 rfl (lv_at hl 0 rfl) ?_
      refine m_const (v := 1) hx hb dX3_perform_22 rfl ?_
      refine m_icmp_eq (tgt := 27) hx hb hv1 (by decide) hf dX3_perform_23 (by decide) (fun hf => ?_) (fun hf => ?_)
      · skip
        exact hc27 _ _ _ _ v1 hv1 hf hWv2 hSv2 (lv_sub hl [1, 2, 0] rfl)
      · skip
        exact m_vret X hr hlocks hWv2 hSv2 (Option.some.inj hf) hQ dX3_perform_26
set_option maxRecDepth 100000 in
set_option maxHeartbeats 4000000 in
theorem ok_X3_doAll {l : Launch} {D : va_G} {cy : Nat → ClassId} {ad : Nat → Nat} {nm nv sz : Nat} {σ : St} {n : Nat} {p0 : Nat} {o1 : Nat} {σ2 : St} (hp0 : isPaper p0) (ho1 : isSet nm nv o1) (hf : fX3_doAll n σ p0 o1 = some σ2) : CV l yX3_doAll cX3_doAll 4 none ({ frames := 4, cells := 0, slots := 0, locals := 120 } : Room) [.ref (ad p0), .ref (ad o1)] D cy ad nm nv sz σ σ2 := by
  refine m_entry RX3 rfl (by decide +kernel) (Nat.le_of_ble_eq_true rfl) ?_
  intro p e s m args below meth c Q hQ hr hlocks X hW hS ls hl
  have hx := X.1
  have hb := X.2.1
  have hl : lv_has ls 4 [(0, .ref (ad p0)), (1, .ref (ad o1))] := hl
  unfold fX3_doAll at hf
  have hc11 : ∀ (k11 : Nat) (σ : St) (H : Heap) (locs : List Loc) (ls : Array Slot) (x2 : Int), inR x2 → fX3_doAll_L11 n p0 o1 k11 σ x2 = some σ2 → Wd D cy ad nm nv σ H → va_S (AW ad nm nv sz) s.heap H locs → lv_has ls 4 [(0, .ref (ad p0)), (1, .ref (ad o1)), (2, .int (i32 x2))] → W p l e ({ frames := 4, cells := 0, slots := 0, locals := 120 } : Room) s m args below meth c H locs 0 0 Q (F0 m 11 ls []) := by
    intro k11
    induction k11 with
    | zero =>
      intro σ H locs ls x2 hx2 hf
      have hf : (none : Option St) = some σ2 := hf
      cases hf
    | succ k11 ih11 =>
      intro σ H locs ls x2 hx2 hf hW hS hl
      have hf : fX3_doAll_L11s n p0 o1 (fX3_doAll_L11 n p0 o1 k11) σ x2 = some σ2 := hf
      unfold fX3_doAll_L11s at hf
      refine lv_iload_n hx hb dX3_doAll_11 rfl (lv_at hl 2 rfl) ?_
      refine lv_aload_n hx hb dX3_doAll_12 rfl (lv_at hl 0 rfl) ?_
      refine g_X3_book X hW hp0 (X.2.2.2.2.1 _ mw95) dX3_doAll_13 ?_
      refine gN_X1_made X hW (nf_X3_53 X.2.2.2.2.2.2.2.2) dX3_doAll_16 ?_
      refine m_icmp_ge (tgt := 50) hx hb hx2 (hW.2.1 _ _) hf dX3_doAll_19 (by decide) (fun hf => ?_) (fun hf => ?_)
      · skip
        exact m_vret X hr hlocks hW hS (Option.some.inj hf) hQ dX3_doAll_50
      · skip
        refine lv_aload_n hx hb dX3_doAll_22 rfl (lv_at hl 0 rfl) ?_
        refine g_X3_book X hW hp0 (X.2.2.2.2.1 _ mw95) dX3_doAll_23 ?_
        refine lv_iload_n hx hb dX3_doAll_26 rfl (lv_at hl 2 rfl) ?_
        refine m_callVi1 (z := false) (As := [.int (i32 x2)]) (rest := []) X hW hS hl.1 gc_X3_65 hd_X1_inOrder ⟨rfl, rfl, Nat.le_of_ble_eq_true rfl, Nat.le_of_ble_eq_true rfl⟩ (rc_X1 X hW) (fun v q => ok_X1_inOrder hx2 q) hf rfl rfl (Nat.le_of_ble_eq_true rfl) dX3_doAll_27 ⟨Nat.le_of_ble_eq_true rfl, Nat.le_of_ble_eq_true rfl⟩ (fun v3 H locs hv3 zv3 hWv3 hSv3 hf => ?_)
        refine lv_istore_n (lv' := [(3, .int (i32 v3)), (0, .ref (ad p0)), (1, .ref (ad o1)), (2, .int (i32 x2))]) hx hb dX3_doAll_30 rfl hl (by decide) rfl (fun ls hl => ?_)
        refine lv_aload_n hx hb dX3_doAll_31 rfl (lv_at hl 2 rfl) ?_
        refine lv_iload_n hx hb dX3_doAll_32 rfl (lv_at hl 0 rfl) ?_
        refine m_callVi1 (z := true) (As := [.int (i32 v3)]) (rest := []) X hWv3 hSv3 hl.1 gc_X3_69 hd_X0_contains ⟨rfl, rfl, Nat.le_of_ble_eq_true rfl, Nat.le_of_ble_eq_true rfl⟩ (rc_X0 X hWv3 ho1) (fun v q => ok_X0_contains ho1 hv3 q) hf rfl rfl (Nat.le_of_ble_eq_true rfl) dX3_doAll_33 ⟨Nat.le_of_ble_eq_true rfl, Nat.le_of_ble_eq_true rfl⟩ (fun v4 H locs hv4 zv4 hWv4 hSv4 hf => ?_)
        refine m_if_eq (tgt := 44) hx hb hv4 hf dX3_doAll_36 (by decide) (fun hf => ?_) (fun hf => ?_)
        · skip
          refine m_iinc (k0 := 3) (fun v5 => [(2, .int (i32 v5)), (3, .int (i32 v3)), (0, .ref (ad p0)), (1, .ref (ad o1))]) hx hb hf dX3_doAll_44 hl rfl (by decide) (fun _ => rfl) (fun v5 ls hv5 hf hl => ?_)
          have hl : lv_has ls 4 [(2, .int (i32 v5)), (3, .int (i32 v3)), (0, .ref (ad p0)), (1, .ref (ad o1))] := hl
          refine lv_goto (tgt := 11) hx hb dX3_doAll_47 (by decide) ?_
          exact ih11 _ _ _ _ v5 hv5 hf hWv4 hSv4 (lv_sub hl [2, 3, 0] rfl)
        · skip
          refine lv_aload_n hx hb dX3_doAll_39 rfl (lv_at hl 1 rfl) ?_
          refine lv_iload_n hx hb dX3_doAll_40 rfl (lv_at hl 0 rfl) ?_
          refine m_callVv (As := [.int (i32 v3)]) (rest := []) X hWv4 hSv4 hl.1 gc_X3_75 hd_X3_perform ⟨rfl, rfl, Nat.le_of_ble_eq_true rfl, Nat.le_of_ble_eq_true rfl⟩ (rc_X3 X hWv4 hp0) (fun v q => ok_X3_perform hp0 hv3 q) hf rfl rfl (Nat.le_of_ble_eq_true rfl) dX3_doAll_41 ⟨Nat.le_of_ble_eq_true rfl, Nat.le_of_ble_eq_true rfl⟩ (fun σ6 H locs hW6 hS6 hf => ?_)
          refine m_iinc (k0 := 3) (fun v7 => [(2, .int (i32 v7)), (3, .int (i32 v3)), (0, .ref (ad p0)), (1, .ref (ad o1))]) hx hb hf dX3_doAll_44 hl rfl (by decide) (fun _ => rfl) (fun v7 ls hv7 hf hl => ?_)
          have hl : lv_has ls 4 [(2, .int (i32 v7)), (3, .int (i32 v3)), (0, .ref (ad p0)), (1, .ref (ad o1))] := hl
          refine lv_goto (tgt := 11) hx hb dX3_doAll_47 (by decide) ?_
          exact ih11 _ _ _ _ v7 hv7 hf hW6 hS6 (lv_sub hl [2, 3, 0] rfl)
  refine lv_aload_n hx hb dX3_doAll_0 rfl (lv_at hl 0 rfl) ?_
  refine m_callVv (As := []) (rest := []) X hW hS hl.1 gc_X3_58 hd_X3_clear ⟨rfl, rfl, Nat.le_of_ble_eq_true rfl, Nat.le_of_ble_eq_true rfl⟩ (rc_X3 X hW hp0) (fun v q => ok_X3_clear hp0 q) hf rfl rfl (Nat.le_of_ble_eq_true rfl) dX3_doAll_1 ⟨Nat.le_of_ble_eq_true rfl, Nat.le_of_ble_eq_true rfl⟩ (fun σ1 H locs hW1 hS1 hf => ?_)
  refine lv_aload_n hx hb dX3_doAll_4 rfl (lv_at hl 0 rfl) ?_
  refine lv_aload_n hx hb dX3_doAll_5 rfl (lv_at hl 1 rfl) ?_
  refine m_callVv (As := [.ref (ad o1)]) (rest := []) X hW1 hS1 hl.1 gc_X3_61 hd_X3_findUndone ⟨rfl, rfl, Nat.le_of_ble_eq_true rfl, Nat.le_of_ble_eq_true rfl⟩ (rc_X3 X hW1 hp0) (fun v q => ok_X3_findUndone hp0 ho1 q) hf rfl rfl (Nat.le_of_ble_eq_true rfl) dX3_doAll_6 ⟨Nat.le_of_ble_eq_true rfl, Nat.le_of_ble_eq_true rfl⟩ (fun σ2 H locs hW2 hS2 hf => ?_)
  refine m_const (v := 0) hx hb dX3_doAll_9 rfl ?_
  refine lv_istore_n (lv' := [(2, .int (i32 0)), (0, .ref (ad p0)), (1, .ref (ad o1))]) hx hb dX3_doAll_10 rfl hl (by decide) rfl (fun ls hl => ?_)
  exact hc11 n _ _ _ _ 0 (by decide) hf hW2 hS2 (lv_sub hl [1, 2, 0] rfl)
set_option maxRecDepth 100000 in
set_option maxHeartbeats 4000000 in
theorem ok_X3_mayDecide {l : Launch} {D : va_G} {cy : Nat → ClassId} {ad : Nat → Nat} {nm nv sz : Nat} {σ : St} {n : Nat} {p0 : Nat} {x1 : Int} {x2 : Int} {r : Int} (hp0 : isPaper p0) (hx1 : inR x1) (hx2 : inR x2) (hf : fX3_mayDecide n σ p0 x1 x2 = some r) : CI l yX3_mayDecide cX3_mayDecide 3 (some .boolean) ({ frames := 2, cells := 0, slots := 0, locals := 44 } : Room) [.ref (ad p0), .int (i32 x1), .int (i32 x2)] D cy ad nm nv sz σ true r σ := by
  refine m_entry RX3 rfl (by decide +kernel) (Nat.le_of_ble_eq_true rfl) ?_
  intro p e s m args below meth c Q hQ hr hlocks X hW hS ls hl
  have hx := X.1
  have hb := X.2.1
  have hl : lv_has ls 3 [(0, .ref (ad p0)), (1, .int (i32 x1)), (2, .int (i32 x2))] := hl
  unfold fX3_mayDecide at hf
  refine lv_aload_n hx hb dX3_mayDecide_0 rfl (lv_at hl 0 rfl) ?_
  refine lv_iload_n hx hb dX3_mayDecide_1 rfl (lv_at hl 2 rfl) ?_
  refine m_callVi1 (z := true) (As := [.int (i32 x2)]) (rest := []) X hW hS hl.1 gc_X3_166 hd_X3_isOpen ⟨rfl, rfl, Nat.le_of_ble_eq_true rfl, Nat.le_of_ble_eq_true rfl⟩ (rc_X3 X hW hp0) (fun v q => ok_X3_isOpen hp0 hx2 q) hf rfl rfl (Nat.le_of_ble_eq_true rfl) dX3_mayDecide_2 ⟨Nat.le_of_ble_eq_true rfl, Nat.le_of_ble_eq_true rfl⟩ (fun v1 H locs hv1 zv1 hWv1 hSv1 hf => ?_)
  refine m_if_eq (tgt := 29) hx hb hv1 hf dX3_mayDecide_5 (by decide) (fun hf => ?_) (fun hf => ?_)
  · skip
    refine m_const (v := 0) hx hb dX3_mayDecide_29 rfl ?_
    exact m_ireti X hr hlocks (nar_b (Or.inl rfl)).1 (by decide) (fun _ => (Or.inl rfl)) hWv1 hSv1 (Option.some.inj hf) rfl hQ dX3_mayDecide_30
  · skip
    refine lv_aload_n hx hb dX3_mayDecide_8 rfl (lv_at hl 0 rfl) ?_
    refine lv_iload_n hx hb dX3_mayDecide_9 rfl (lv_at hl 1 rfl) ?_
    refine lv_aload_n hx hb dX3_mayDecide_10 rfl (lv_at hl 0 rfl) ?_
    refine lv_aload_n hx hb dX3_mayDecide_11 rfl (lv_at hl 0 rfl) ?_
    refine lv_iload_n hx hb dX3_mayDecide_12 rfl (lv_at hl 2 rfl) ?_
    refine m_callVi1 (z := false) (As := [.int (i32 x2)]) (rest := [.ref (ad p0), .int (i32 x1), .ref (ad p0)]) X hWv1 hSv1 hl.1 gc_X3_163 hd_X3_elementOf ⟨rfl, rfl, Nat.le_of_ble_eq_true rfl, Nat.le_of_ble_eq_true rfl⟩ (rc_X3 X hWv1 hp0) (fun v q => ok_X3_elementOf hp0 hx2 q) hf rfl rfl (Nat.le_of_ble_eq_true rfl) dX3_mayDecide_13 ⟨Nat.le_of_ble_eq_true rfl, Nat.le_of_ble_eq_true rfl⟩ (fun v2 H locs hv2 zv2 hWv2 hSv2 hf => ?_)
    refine m_callVi1 (z := false) (As := [.int (i32 v2)]) (rest := [.int (i32 x1), .ref (ad p0)]) X hWv2 hSv2 hl.1 gc_X3_131 hd_X3_blockOf ⟨rfl, rfl, Nat.le_of_ble_eq_true rfl, Nat.le_of_ble_eq_true rfl⟩ (rc_X3 X hWv2 hp0) (fun v q => ok_X3_blockOf hp0 hv2 q) hf rfl rfl (Nat.le_of_ble_eq_true rfl) dX3_mayDecide_16 ⟨Nat.le_of_ble_eq_true rfl, Nat.le_of_ble_eq_true rfl⟩ (fun v3 H locs hv3 zv3 hWv3 hSv3 hf => ?_)
    refine m_callVi1 (z := false) (As := [.int (i32 x1), .int (i32 v3)]) (rest := []) X hWv3 hSv3 hl.1 gc_X3_134 hd_X3_levelIn ⟨rfl, rfl, Nat.le_of_ble_eq_true rfl, Nat.le_of_ble_eq_true rfl⟩ (rc_X3 X hWv3 hp0) (fun v q => ok_X3_levelIn hp0 hx1 hv3 q) hf rfl rfl (Nat.le_of_ble_eq_true rfl) dX3_mayDecide_19 ⟨Nat.le_of_ble_eq_true rfl, Nat.le_of_ble_eq_true rfl⟩ (fun v4 H locs hv4 zv4 hWv4 hSv4 hf => ?_)
    refine m_if_ne (tgt := 29) hx hb hv4 hf dX3_mayDecide_22 (by decide) (fun hf => ?_) (fun hf => ?_)
    · skip
      refine m_const (v := 0) hx hb dX3_mayDecide_29 rfl ?_
      exact m_ireti X hr hlocks (nar_b (Or.inl rfl)).1 (by decide) (fun _ => (Or.inl rfl)) hWv4 hSv4 (Option.some.inj hf) rfl hQ dX3_mayDecide_30
    · skip
      refine m_const (v := 1) hx hb dX3_mayDecide_25 rfl ?_
      refine lv_goto (tgt := 30) hx hb dX3_mayDecide_26 (by decide) ?_
      exact m_ireti X hr hlocks (nar_b (Or.inr rfl)).1 (by decide) (fun _ => (Or.inr rfl)) hWv4 hSv4 (Option.some.inj hf) rfl hQ dX3_mayDecide_30
set_option maxRecDepth 100000 in
set_option maxHeartbeats 4000000 in
theorem ok_X3_countOpen {l : Launch} {D : va_G} {cy : Nat → ClassId} {ad : Nat → Nat} {nm nv sz : Nat} {σ : St} {n : Nat} {p0 : Nat} {r : Int} (hp0 : isPaper p0) (hf : fX3_countOpen n σ p0 = some r) : CI l yX3_countOpen cX3_countOpen 3 (some .int) ({ frames := 2, cells := 0, slots := 0, locals := 43 } : Room) [.ref (ad p0)] D cy ad nm nv sz σ false r σ := by
  refine m_entry RX3 rfl (by decide +kernel) (Nat.le_of_ble_eq_true rfl) ?_
  intro p e s m args below meth c Q hQ hr hlocks X hW hS ls hl
  have hx := X.1
  have hb := X.2.1
  have hl : lv_has ls 3 [(0, .ref (ad p0))] := hl
  unfold fX3_countOpen at hf
  have hc4 : ∀ (k4 : Nat) (H : Heap) (locs : List Loc) (ls : Array Slot) (x1 : Int) (x2 : Int), inR x1 → inR x2 → fX3_countOpen_L4 n σ p0 k4 x1 x2 = some r → Wd D cy ad nm nv σ H → va_S (AW ad nm nv sz) s.heap H locs → lv_has ls 3 [(0, .ref (ad p0)), (1, .int (i32 x1)), (2, .int (i32 x2))] → W p l e ({ frames := 2, cells := 0, slots := 0, locals := 43 } : Room) s m args below meth c H locs 0 0 Q (F0 m 4 ls []) := by
    intro k4
    induction k4 with
    | zero =>
      intro H locs ls x1 x2 hx1 hx2 hf
      have hf : (none : Option Int) = some r := hf
      cases hf
    | succ k4 ih4 =>
      intro H locs ls x1 x2 hx1 hx2 hf hW hS hl
      have hf : fX3_countOpen_L4s n σ p0 (fX3_countOpen_L4 n σ p0 k4) x1 x2 = some r := hf
      unfold fX3_countOpen_L4s at hf
      refine lv_iload_n hx hb dX3_countOpen_4 rfl (lv_at hl 2 rfl) ?_
      refine lv_aload_n hx hb dX3_countOpen_5 rfl (lv_at hl 0 rfl) ?_
      refine g_X3_book X hW hp0 (X.2.2.2.2.1 _ mw95) dX3_countOpen_6 ?_
      refine gN_X1_made X hW (nf_X3_53 X.2.2.2.2.2.2.2.2) dX3_countOpen_9 ?_
      refine m_icmp_ge (tgt := 32) hx hb hx2 (hW.2.1 _ _) hf dX3_countOpen_12 (by decide) (fun hf => ?_) (fun hf => ?_)
      · skip
        refine lv_iload_n hx hb dX3_countOpen_32 rfl (lv_at hl 1 rfl) ?_
        exact m_ireti X hr hlocks rfl hx1 (fun h => Bool.noConfusion h) hW hS (Option.some.inj hf) rfl hQ dX3_countOpen_33
      · skip
        refine lv_aload_n hx hb dX3_countOpen_15 rfl (lv_at hl 0 rfl) ?_
        refine lv_iload_n hx hb dX3_countOpen_16 rfl (lv_at hl 2 rfl) ?_
        refine m_callVi1 (z := true) (As := [.int (i32 x2)]) (rest := []) X hW hS hl.1 gc_X3_166 hd_X3_isOpen ⟨rfl, rfl, Nat.le_of_ble_eq_true rfl, Nat.le_of_ble_eq_true rfl⟩ (rc_X3 X hW hp0) (fun v q => ok_X3_isOpen hp0 hx2 q) hf rfl rfl (Nat.le_of_ble_eq_true rfl) dX3_countOpen_17 ⟨Nat.le_of_ble_eq_true rfl, Nat.le_of_ble_eq_true rfl⟩ (fun v1 H locs hv1 zv1 hWv1 hSv1 hf => ?_)
        refine m_if_eq (tgt := 26) hx hb hv1 hf dX3_countOpen_20 (by decide) (fun hf => ?_) (fun hf => ?_)
        · skip
          refine m_iinc (k0 := 2) (fun v2 => [(2, .int (i32 v2)), (0, .ref (ad p0)), (1, .int (i32 x1))]) hx hb hf dX3_countOpen_26 hl rfl (by decide) (fun _ => rfl) (fun v2 ls hv2 hf hl => ?_)
          have hl : lv_has ls 3 [(2, .int (i32 v2)), (0, .ref (ad p0)), (1, .int (i32 x1))] := hl
          refine lv_goto (tgt := 4) hx hb dX3_countOpen_29 (by decide) ?_
          exact ih4 _ _ _ x1 v2 hx1 hv2 hf hWv1 hSv1 (lv_sub hl [1, 2, 0] rfl)
        · skip
          refine m_iinc (k0 := 1) (fun v3 => [(1, .int (i32 v3)), (0, .ref (ad p0)), (2, .int (i32 x2))]) hx hb hf dX3_countOpen_23 hl rfl (by decide) (fun _ => rfl) (fun v3 ls hv3 hf hl => ?_)
          have hl : lv_has ls 3 [(1, .int (i32 v3)), (0, .ref (ad p0)), (2, .int (i32 x2))] := hl
          refine m_iinc (k0 := 2) (fun v4 => [(2, .int (i32 v4)), (1, .int (i32 v3)), (0, .ref (ad p0))]) hx hb hf dX3_countOpen_26 hl rfl (by decide) (fun _ => rfl) (fun v4 ls hv4 hf hl => ?_)
          have hl : lv_has ls 3 [(2, .int (i32 v4)), (1, .int (i32 v3)), (0, .ref (ad p0))] := hl
          refine lv_goto (tgt := 4) hx hb dX3_countOpen_29 (by decide) ?_
          exact ih4 _ _ _ v3 v4 hv3 hv4 hf hWv1 hSv1 (lv_sub hl [2, 1, 0] rfl)
  refine m_const (v := 0) hx hb dX3_countOpen_0 rfl ?_
  refine lv_istore_n (lv' := [(1, .int (i32 0)), (0, .ref (ad p0))]) hx hb dX3_countOpen_1 rfl hl (by decide) rfl (fun ls hl => ?_)
  refine m_const (v := 0) hx hb dX3_countOpen_2 rfl ?_
  refine lv_istore_n (lv' := [(2, .int (i32 0)), (1, .int (i32 0)), (0, .ref (ad p0))]) hx hb dX3_countOpen_3 rfl hl (by decide) rfl (fun ls hl => ?_)
  exact hc4 n _ _ _ 0 0 (by decide) (by decide) hf hW hS (lv_sub hl [2, 1, 0] rfl)
set_option maxRecDepth 100000 in
set_option maxHeartbeats 4000000 in
theorem ok_X3_proposalsFor {l : Launch} {D : va_G} {cy : Nat → ClassId} {ad : Nat → Nat} {nm nv sz : Nat} {σ : St} {n : Nat} {p0 : Nat} {x1 : Int} {r : Int} (hp0 : isPaper p0) (hx1 : inR x1) (hf : fX3_proposalsFor n σ p0 x1 = some r) : CI l yX3_proposalsFor cX3_proposalsFor 5 (some .int) ({ frames := 1, cells := 0, slots := 0, locals := 21 } : Room) [.ref (ad p0), .int (i32 x1)] D cy ad nm nv sz σ false r σ := by
  refine m_entry RX3 rfl (by decide +kernel) (Nat.le_of_ble_eq_true rfl) ?_
  intro p e s m args below meth c Q hQ hr hlocks X hW hS ls hl
  have hx := X.1
  have hb := X.2.1
  have hl : lv_has ls 5 [(0, .ref (ad p0)), (1, .int (i32 x1))] := hl
  unfold fX3_proposalsFor at hf
  have hc88 : ∀ (H : Heap) (locs : List Loc) (ls : Array Slot) (x3 : Int) (t0 : Int), inR x3 → inR t0 → fX3_proposalsFor_J88 n σ p0 x1 x3 t0 = some r → Wd D cy ad nm nv σ H → va_S (AW ad nm nv sz) s.heap H locs → lv_has ls 5 [(3, .int (i32 x3))] → W p l e ({ frames := 1, cells := 0, slots := 0, locals := 21 } : Room) s m args below meth c H locs 0 0 Q (F0 m 88 ls [.int (i32 t0)]) := by
    intro H locs ls x3 t0 hx3 ht0 hf hW hS hl
    unfold fX3_proposalsFor_J88 at hf
    refine lv_iload_n hx hb dX3_proposalsFor_88 rfl (lv_at hl 0 rfl) ?_
    refine m_if_eq (tgt := 96) hx hb hx3 hf dX3_proposalsFor_89 (by decide) (fun hf => ?_) (fun hf => ?_)
    · skip
      refine m_const (v := 0) hx hb dX3_proposalsFor_96 rfl ?_
      refine m_iadd hx hb hf dX3_proposalsFor_97 (fun v8 hv8 hf => ?_)
      exact m_ireti X hr hlocks rfl hv8 (fun h => Bool.noConfusion h) hW hS (Option.some.inj hf) rfl hQ dX3_proposalsFor_98
    · skip
      refine m_const (v := 2) hx hb dX3_proposalsFor_92 rfl ?_
      refine lv_goto (tgt := 97) hx hb dX3_proposalsFor_93 (by decide) ?_
      refine m_iadd hx hb hf dX3_proposalsFor_97 (fun v9 hv9 hf => ?_)
      exact m_ireti X hr hlocks rfl hv9 (fun h => Bool.noConfusion h) hW hS (Option.some.inj hf) rfl hQ dX3_proposalsFor_98
  have hc79 : ∀ (H : Heap) (locs : List Loc) (ls : Array Slot) (x2 : Int) (x3 : Int), inR x2 → inR x3 → fX3_proposalsFor_J79 n σ p0 x1 x2 x3 = some r → Wd D cy ad nm nv σ H → va_S (AW ad nm nv sz) s.heap H locs → lv_has ls 5 [(2, .int (i32 x2)), (3, .int (i32 x3))] → W p l e ({ frames := 1, cells := 0, slots := 0, locals := 21 } : Room) s m args below meth c H locs 0 0 Q (F0 m 79 ls []) := by
    intro H locs ls x2 x3 hx2 hx3 hf hW hS hl
    unfold fX3_proposalsFor_J79 at hf
    refine lv_iload_n hx hb dX3_proposalsFor_79 rfl (lv_at hl 0 rfl) ?_
    refine m_if_eq (tgt := 87) hx hb hx2 hf dX3_proposalsFor_80 (by decide) (fun hf => ?_) (fun hf => ?_)
    · skip
      refine m_const (v := 0) hx hb dX3_proposalsFor_87 rfl ?_
      exact hc88 _ _ _ x3 0 hx3 (by decide) hf hW hS (lv_sub hl [1] rfl)
    · skip
      refine m_const (v := 1) hx hb dX3_proposalsFor_83 rfl ?_
      refine lv_goto (tgt := 88) hx hb dX3_proposalsFor_84 (by decide) ?_
      exact hc88 _ _ _ x3 1 hx3 (by decide) hf hW hS (lv_sub hl [1] rfl)
  have hc28 : ∀ (k28 : Nat) (H : Heap) (locs : List Loc) (ls : Array Slot) (x2 : Int) (x3 : Int) (x4 : Int), inR x2 → inR x3 → inR x4 → fX3_proposalsFor_L28 n σ p0 x1 x2 k28 x3 x4 = some r → Wd D cy ad nm nv σ H → va_S (AW ad nm nv sz) s.heap H locs → lv_has ls 5 [(0, .ref (ad p0)), (1, .int (i32 x1)), (2, .int (i32 x2)), (3, .int (i32 x3)), (4, .int (i32 x4))] → W p l e ({ frames := 1, cells := 0, slots := 0, locals := 21 } : Room) s m args below meth c H locs 0 0 Q (F0 m 28 ls []) := by
    intro k28
    induction k28 with
    | zero =>
      intro H locs ls x2 x3 x4 hx2 hx3 hx4 hf
      have hf : (none : Option Int) = some r := hf
      cases hf
    | succ k28 ih28 =>
      intro H locs ls x2 x3 x4 hx2 hx3 hx4 hf hW hS hl
      have hf : fX3_proposalsFor_L28s n σ p0 x1 x2 (fX3_proposalsFor_L28 n σ p0 x1 x2 k28) x3 x4 = some r := hf
      unfold fX3_proposalsFor_L28s at hf
      refine lv_iload hx hb dX3_proposalsFor_28 (lv_at hl 4 rfl) ?_
      refine lv_aload_n hx hb dX3_proposalsFor_30 rfl (lv_at hl 0 rfl) ?_
      refine g_X3_book X hW hp0 (X.2.2.2.2.1 _ mw95) dX3_proposalsFor_31 ?_
      refine gN_X1_made X hW (nf_X3_53 X.2.2.2.2.2.2.2.2) dX3_proposalsFor_34 ?_
      refine m_icmp_ge (tgt := 79) hx hb hx4 (hW.2.1 _ _) hf dX3_proposalsFor_37 (by decide) (fun hf => ?_) (fun hf => ?_)
      · skip
        exact hc79 _ _ _ x2 x3 hx2 hx3 hf hW hS (lv_sub hl [2, 3] rfl)
      · skip
        refine lv_iload hx hb dX3_proposalsFor_40 (lv_at hl 4 rfl) ?_
        refine m_sipush (v := 160) hx hb dX3_proposalsFor_42 (by decide) ?_
        refine m_icmp_ge (tgt := 79) hx hb hx4 (by decide) hf dX3_proposalsFor_45 (by decide) (fun hf => ?_) (fun hf => ?_)
        · skip
          exact hc79 _ _ _ x2 x3 hx2 hx3 hf hW hS (lv_sub hl [2, 3] rfl)
        · skip
          refine lv_aload_n hx hb dX3_proposalsFor_48 rfl (lv_at hl 0 rfl) ?_
          refine g_X3_asked X hW hp0 (X.2.2.2.2.1 _ mw102) dX3_proposalsFor_49 ?_
          refine lv_iload hx hb dX3_proposalsFor_52 (lv_at hl 4 rfl) ?_
          refine m_zald X hW (a_X3_asked hp0) hx4 hf dX3_proposalsFor_54 (fun v3 hv3 hf => ?_)
          refine m_if_eq (tgt := 73) hx hb hv3 hf dX3_proposalsFor_55 (by decide) (fun hf => ?_) (fun hf => ?_)
          · skip
            refine m_iinc (k0 := 4) (fun v4 => [(4, .int (i32 v4)), (0, .ref (ad p0)), (1, .int (i32 x1)), (2, .int (i32 x2)), (3, .int (i32 x3))]) hx hb hf dX3_proposalsFor_73 hl rfl (by decide) (fun _ => rfl) (fun v4 ls hv4 hf hl => ?_)
            have hl : lv_has ls 5 [(4, .int (i32 v4)), (0, .ref (ad p0)), (1, .int (i32 x1)), (2, .int (i32 x2)), (3, .int (i32 x3))] := hl
            refine lv_goto (tgt := 28) hx hb dX3_proposalsFor_76 (by decide) ?_
            exact ih28 _ _ _ x2 x3 v4 hx2 hx3 hv4 hf hW hS (lv_sub hl [1, 2, 3, 4, 0] rfl)
          · skip
            refine lv_aload_n hx hb dX3_proposalsFor_58 rfl (lv_at hl 0 rfl) ?_
            refine g_X3_book X hW hp0 (X.2.2.2.2.1 _ mw95) dX3_proposalsFor_59 ?_
            refine lv_iload hx hb dX3_proposalsFor_62 (lv_at hl 4 rfl) ?_
            refine m_callVi1 (z := false) (As := [.int (i32 x4)]) (rest := []) X hW hS hl.1 gc_X3_82 hd_X1_firstOf ⟨rfl, rfl, Nat.le_of_ble_eq_true rfl, Nat.le_of_ble_eq_true rfl⟩ (rc_X1 X hW) (fun v q => ok_X1_firstOf hx4 q) hf rfl rfl (Nat.le_of_ble_eq_true rfl) dX3_proposalsFor_64 ⟨Nat.le_of_ble_eq_true rfl, Nat.le_of_ble_eq_true rfl⟩ (fun v5 H locs hv5 zv5 hWv5 hSv5 hf => ?_)
            refine lv_iload_n hx hb dX3_proposalsFor_67 rfl (lv_at hl 1 rfl) ?_
            refine m_icmp_ne (tgt := 73) hx hb hv5 hx1 hf dX3_proposalsFor_68 (by decide) (fun hf => ?_) (fun hf => ?_)
            · skip
              refine m_iinc (k0 := 4) (fun v6 => [(4, .int (i32 v6)), (0, .ref (ad p0)), (1, .int (i32 x1)), (2, .int (i32 x2)), (3, .int (i32 x3))]) hx hb hf dX3_proposalsFor_73 hl rfl (by decide) (fun _ => rfl) (fun v6 ls hv6 hf hl => ?_)
              have hl : lv_has ls 5 [(4, .int (i32 v6)), (0, .ref (ad p0)), (1, .int (i32 x1)), (2, .int (i32 x2)), (3, .int (i32 x3))] := hl
              refine lv_goto (tgt := 28) hx hb dX3_proposalsFor_76 (by decide) ?_
              exact ih28 _ _ _ x2 x3 v6 hx2 hx3 hv6 hf hWv5 hSv5 (lv_sub hl [1, 2, 3, 4, 0] rfl)
            · skip
              refine m_const (v := 1) hx hb dX3_proposalsFor_71 rfl ?_
              refine lv_istore_n (lv' := [(3, .int (i32 1)), (0, .ref (ad p0)), (1, .int (i32 x1)), (2, .int (i32 x2)), (4, .int (i32 x4))]) hx hb dX3_proposalsFor_72 rfl hl (by decide) rfl (fun ls hl => ?_)
              refine m_iinc (k0 := 4) (fun v7 => [(4, .int (i32 v7)), (3, .int (i32 1)), (0, .ref (ad p0)), (1, .int (i32 x1)), (2, .int (i32 x2))]) hx hb hf dX3_proposalsFor_73 hl rfl (by decide) (fun _ => rfl) (fun v7 ls hv7 hf hl => ?_)
              have hl : lv_has ls 5 [(4, .int (i32 v7)), (3, .int (i32 1)), (0, .ref (ad p0)), (1, .int (i32 x1)), (2, .int (i32 x2))] := hl
              refine lv_goto (tgt := 28) hx hb dX3_proposalsFor_76 (by decide) ?_
              exact ih28 _ _ _ x2 1 v7 hx2 (by decide) hv7 hf hWv5 hSv5 (lv_sub hl [2, 3, 4, 1, 0] rfl)
  refine lv_iload_n hx hb dX3_proposalsFor_0 rfl (lv_at hl 1 rfl) ?_
  refine m_callSi1 (z := true) (As := [.int (i32 x1)]) (rest := []) X hW hS hl.1 gc_X3_85 hd_X3_isNumber ⟨rfl, rfl, Nat.le_of_ble_eq_true rfl, Nat.le_of_ble_eq_true rfl⟩ (fun v q => ok_X3_isNumber hx1 q) hf rfl rfl (Nat.le_of_ble_eq_true rfl) dX3_proposalsFor_1 ⟨Nat.le_of_ble_eq_true rfl, Nat.le_of_ble_eq_true rfl⟩ (fun v1 H locs hv1 zv1 hWv1 hSv1 hf => ?_)
  refine m_if_eq (tgt := 21) hx hb hv1 hf dX3_proposalsFor_4 (by decide) (fun hf => ?_) (fun hf => ?_)
  · skip
    refine m_const (v := 0) hx hb dX3_proposalsFor_21 rfl ?_
    refine lv_istore_n (lv' := [(2, .int (i32 0)), (0, .ref (ad p0)), (1, .int (i32 x1))]) hx hb dX3_proposalsFor_22 rfl hl (by decide) rfl (fun ls hl => ?_)
    refine m_const (v := 0) hx hb dX3_proposalsFor_23 rfl ?_
    refine lv_istore_n (lv' := [(3, .int (i32 0)), (2, .int (i32 0)), (0, .ref (ad p0)), (1, .int (i32 x1))]) hx hb dX3_proposalsFor_24 rfl hl (by decide) rfl (fun ls hl => ?_)
    refine m_const (v := 0) hx hb dX3_proposalsFor_25 rfl ?_
    refine lv_istore (lv' := [(4, .int (i32 0)), (3, .int (i32 0)), (2, .int (i32 0)), (0, .ref (ad p0)), (1, .int (i32 x1))]) hx hb dX3_proposalsFor_26 hl (by decide) rfl (fun ls hl => ?_)
    exact hc28 n _ _ _ 0 0 0 (by decide) (by decide) (by decide) hf hWv1 hSv1 (lv_sub hl [3, 4, 2, 1, 0] rfl)
  · skip
    refine lv_aload_n hx hb dX3_proposalsFor_7 rfl (lv_at hl 0 rfl) ?_
    refine g_X3_states X hWv1 hp0 (X.2.2.2.2.1 _ mw98) dX3_proposalsFor_8 ?_
    refine lv_iload_n hx hb dX3_proposalsFor_11 rfl (lv_at hl 1 rfl) ?_
    refine m_iald X hWv1 (a_X3_states hp0) hx1 hf dX3_proposalsFor_12 (fun v2 hv2 hf => ?_)
    refine m_const (v := 2) hx hb dX3_proposalsFor_13 rfl ?_
    refine m_icmp_ne (tgt := 21) hx hb hv2 (by decide) hf dX3_proposalsFor_14 (by decide) (fun hf => ?_) (fun hf => ?_)
    · skip
      refine m_const (v := 0) hx hb dX3_proposalsFor_21 rfl ?_
      refine lv_istore_n (lv' := [(2, .int (i32 0)), (0, .ref (ad p0)), (1, .int (i32 x1))]) hx hb dX3_proposalsFor_22 rfl hl (by decide) rfl (fun ls hl => ?_)
      refine m_const (v := 0) hx hb dX3_proposalsFor_23 rfl ?_
      refine lv_istore_n (lv' := [(3, .int (i32 0)), (2, .int (i32 0)), (0, .ref (ad p0)), (1, .int (i32 x1))]) hx hb dX3_proposalsFor_24 rfl hl (by decide) rfl (fun ls hl => ?_)
      refine m_const (v := 0) hx hb dX3_proposalsFor_25 rfl ?_
      refine lv_istore (lv' := [(4, .int (i32 0)), (3, .int (i32 0)), (2, .int (i32 0)), (0, .ref (ad p0)), (1, .int (i32 x1))]) hx hb dX3_proposalsFor_26 hl (by decide) rfl (fun ls hl => ?_)
      exact hc28 n _ _ _ 0 0 0 (by decide) (by decide) (by decide) hf hWv1 hSv1 (lv_sub hl [3, 4, 2, 1, 0] rfl)
    · skip
      refine m_const (v := 1) hx hb dX3_proposalsFor_17 rfl ?_
      refine lv_goto (tgt := 22) hx hb dX3_proposalsFor_18 (by decide) ?_
      refine lv_istore_n (lv' := [(2, .int (i32 1)), (0, .ref (ad p0)), (1, .int (i32 x1))]) hx hb dX3_proposalsFor_22 rfl hl (by decide) rfl (fun ls hl => ?_)
      refine m_const (v := 0) hx hb dX3_proposalsFor_23 rfl ?_
      refine lv_istore_n (lv' := [(3, .int (i32 0)), (2, .int (i32 1)), (0, .ref (ad p0)), (1, .int (i32 x1))]) hx hb dX3_proposalsFor_24 rfl hl (by decide) rfl (fun ls hl => ?_)
      refine m_const (v := 0) hx hb dX3_proposalsFor_25 rfl ?_
      refine lv_istore (lv' := [(4, .int (i32 0)), (3, .int (i32 0)), (2, .int (i32 1)), (0, .ref (ad p0)), (1, .int (i32 x1))]) hx hb dX3_proposalsFor_26 hl (by decide) rfl (fun ls hl => ?_)
      exact hc28 n _ _ _ 1 0 0 (by decide) (by decide) (by decide) hf hWv1 hSv1 (lv_sub hl [3, 4, 2, 1, 0] rfl)
set_option maxRecDepth 100000 in
set_option maxHeartbeats 4000000 in
theorem ok_X3_isShown {l : Launch} {D : va_G} {cy : Nat → ClassId} {ad : Nat → Nat} {nm nv sz : Nat} {σ : St} {p0 : Nat} {x1 : Int} {r : Int} (hp0 : isPaper p0) (hx1 : inR x1) (hf : fX3_isShown σ p0 x1 = some r) : CI l yX3_isShown cX3_isShown 2 (some .boolean) ({ frames := 0, cells := 0, slots := 0, locals := 0 } : Room) [.ref (ad p0), .int (i32 x1)] D cy ad nm nv sz σ true r σ := by
  refine m_entry RX3 rfl (by decide +kernel) (Nat.le_of_ble_eq_true rfl) ?_
  intro p e s m args below meth c Q hQ hr hlocks X hW hS ls hl
  have hx := X.1
  have hb := X.2.1
  have hl : lv_has ls 2 [(0, .ref (ad p0)), (1, .int (i32 x1))] := hl
  unfold fX3_isShown at hf
  refine lv_iload_n hx hb dX3_isShown_0 rfl (lv_at hl 1 rfl) ?_
  refine m_if_lt (tgt := 34) hx hb hx1 hf dX3_isShown_1 (by decide) (fun hf => ?_) (fun hf => ?_)
  · skip
    refine m_const (v := 0) hx hb dX3_isShown_34 rfl ?_
    exact m_ireti X hr hlocks (nar_b (Or.inl rfl)).1 (by decide) (fun _ => (Or.inl rfl)) hW hS (Option.some.inj hf) rfl hQ dX3_isShown_35
  · skip
    refine lv_iload_n hx hb dX3_isShown_4 rfl (lv_at hl 1 rfl) ?_
    refine m_sipush (v := 160) hx hb dX3_isShown_5 (by decide) ?_
    refine m_icmp_ge (tgt := 34) hx hb hx1 (by decide) hf dX3_isShown_8 (by decide) (fun hf => ?_) (fun hf => ?_)
    · skip
      refine m_const (v := 0) hx hb dX3_isShown_34 rfl ?_
      exact m_ireti X hr hlocks (nar_b (Or.inl rfl)).1 (by decide) (fun _ => (Or.inl rfl)) hW hS (Option.some.inj hf) rfl hQ dX3_isShown_35
    · skip
      refine lv_aload_n hx hb dX3_isShown_11 rfl (lv_at hl 0 rfl) ?_
      refine g_X3_states X hW hp0 (X.2.2.2.2.1 _ mw98) dX3_isShown_12 ?_
      refine lv_iload_n hx hb dX3_isShown_15 rfl (lv_at hl 1 rfl) ?_
      refine m_iald X hW (a_X3_states hp0) hx1 hf dX3_isShown_16 (fun v1 hv1 hf => ?_)
      refine m_const (v := 1) hx hb dX3_isShown_17 rfl ?_
      refine m_icmp_ne (tgt := 34) hx hb hv1 (by decide) hf dX3_isShown_18 (by decide) (fun hf => ?_) (fun hf => ?_)
      · skip
        refine m_const (v := 0) hx hb dX3_isShown_34 rfl ?_
        exact m_ireti X hr hlocks (nar_b (Or.inl rfl)).1 (by decide) (fun _ => (Or.inl rfl)) hW hS (Option.some.inj hf) rfl hQ dX3_isShown_35
      · skip
        refine lv_aload_n hx hb dX3_isShown_21 rfl (lv_at hl 0 rfl) ?_
        refine g_X3_removed X hW hp0 (X.2.2.2.2.1 _ mw100) dX3_isShown_22 ?_
        refine lv_iload_n hx hb dX3_isShown_25 rfl (lv_at hl 1 rfl) ?_
        refine m_zald X hW (a_X3_removed hp0) hx1 hf dX3_isShown_26 (fun v2 hv2 hf => ?_)
        refine m_if_ne (tgt := 34) hx hb hv2 hf dX3_isShown_27 (by decide) (fun hf => ?_) (fun hf => ?_)
        · skip
          refine m_const (v := 0) hx hb dX3_isShown_34 rfl ?_
          exact m_ireti X hr hlocks (nar_b (Or.inl rfl)).1 (by decide) (fun _ => (Or.inl rfl)) hW hS (Option.some.inj hf) rfl hQ dX3_isShown_35
        · skip
          refine m_const (v := 1) hx hb dX3_isShown_30 rfl ?_
          refine lv_goto (tgt := 35) hx hb dX3_isShown_31 (by decide) ?_
          exact m_ireti X hr hlocks (nar_b (Or.inr rfl)).1 (by decide) (fun _ => (Or.inr rfl)) hW hS (Option.some.inj hf) rfl hQ dX3_isShown_35
set_option maxRecDepth 100000 in
set_option maxHeartbeats 4000000 in
theorem ok_X3_isGrave {l : Launch} {D : va_G} {cy : Nat → ClassId} {ad : Nat → Nat} {nm nv sz : Nat} {σ : St} {p0 : Nat} {x1 : Int} {r : Int} (hp0 : isPaper p0) (hx1 : inR x1) (hf : fX3_isGrave σ p0 x1 = some r) : CI l yX3_isGrave cX3_isGrave 2 (some .boolean) ({ frames := 1, cells := 0, slots := 0, locals := 21 } : Room) [.ref (ad p0), .int (i32 x1)] D cy ad nm nv sz σ true r σ := by
  refine m_entry RX3 rfl (by decide +kernel) (Nat.le_of_ble_eq_true rfl) ?_
  intro p e s m args below meth c Q hQ hr hlocks X hW hS ls hl
  have hx := X.1
  have hb := X.2.1
  have hl : lv_has ls 2 [(0, .ref (ad p0)), (1, .int (i32 x1))] := hl
  unfold fX3_isGrave at hf
  refine lv_iload_n hx hb dX3_isGrave_0 rfl (lv_at hl 1 rfl) ?_
  refine m_callSi1 (z := true) (As := [.int (i32 x1)]) (rest := []) X hW hS hl.1 gc_X3_85 hd_X3_isNumber ⟨rfl, rfl, Nat.le_of_ble_eq_true rfl, Nat.le_of_ble_eq_true rfl⟩ (fun v q => ok_X3_isNumber hx1 q) hf rfl rfl (Nat.le_of_ble_eq_true rfl) dX3_isGrave_1 ⟨Nat.le_of_ble_eq_true rfl, Nat.le_of_ble_eq_true rfl⟩ (fun v1 H locs hv1 zv1 hWv1 hSv1 hf => ?_)
  refine m_if_eq (tgt := 28) hx hb hv1 hf dX3_isGrave_4 (by decide) (fun hf => ?_) (fun hf => ?_)
  · skip
    refine m_const (v := 0) hx hb dX3_isGrave_28 rfl ?_
    exact m_ireti X hr hlocks (nar_b (Or.inl rfl)).1 (by decide) (fun _ => (Or.inl rfl)) hWv1 hSv1 (Option.some.inj hf) rfl hQ dX3_isGrave_29
  · skip
    refine lv_aload_n hx hb dX3_isGrave_7 rfl (lv_at hl 0 rfl) ?_
    refine g_X3_states X hWv1 hp0 (X.2.2.2.2.1 _ mw98) dX3_isGrave_8 ?_
    refine lv_iload_n hx hb dX3_isGrave_11 rfl (lv_at hl 1 rfl) ?_
    refine m_iald X hWv1 (a_X3_states hp0) hx1 hf dX3_isGrave_12 (fun v2 hv2 hf => ?_)
    refine m_if_eq (tgt := 28) hx hb hv2 hf dX3_isGrave_13 (by decide) (fun hf => ?_) (fun hf => ?_)
    · skip
      refine m_const (v := 0) hx hb dX3_isGrave_28 rfl ?_
      exact m_ireti X hr hlocks (nar_b (Or.inl rfl)).1 (by decide) (fun _ => (Or.inl rfl)) hWv1 hSv1 (Option.some.inj hf) rfl hQ dX3_isGrave_29
    · skip
      refine lv_aload_n hx hb dX3_isGrave_16 rfl (lv_at hl 0 rfl) ?_
      refine lv_iload_n hx hb dX3_isGrave_17 rfl (lv_at hl 1 rfl) ?_
      refine m_callVi1 (z := true) (As := [.int (i32 x1)]) (rest := []) X hWv1 hSv1 hl.1 gc_X3_172 hd_X3_isSeen ⟨rfl, rfl, Nat.le_of_ble_eq_true rfl, Nat.le_of_ble_eq_true rfl⟩ (rc_X3 X hWv1 hp0) (fun v q => ok_X3_isSeen hp0 hx1 q) hf rfl rfl (Nat.le_of_ble_eq_true rfl) dX3_isGrave_18 ⟨Nat.le_of_ble_eq_true rfl, Nat.le_of_ble_eq_true rfl⟩ (fun v3 H locs hv3 zv3 hWv3 hSv3 hf => ?_)
      refine m_if_ne (tgt := 28) hx hb hv3 hf dX3_isGrave_21 (by decide) (fun hf => ?_) (fun hf => ?_)
      · skip
        refine m_const (v := 0) hx hb dX3_isGrave_28 rfl ?_
        exact m_ireti X hr hlocks (nar_b (Or.inl rfl)).1 (by decide) (fun _ => (Or.inl rfl)) hWv3 hSv3 (Option.some.inj hf) rfl hQ dX3_isGrave_29
      · skip
        refine m_const (v := 1) hx hb dX3_isGrave_24 rfl ?_
        refine lv_goto (tgt := 29) hx hb dX3_isGrave_25 (by decide) ?_
        exact m_ireti X hr hlocks (nar_b (Or.inr rfl)).1 (by decide) (fun _ => (Or.inr rfl)) hWv3 hSv3 (Option.some.inj hf) rfl hQ dX3_isGrave_29
set_option maxRecDepth 100000 in
set_option maxHeartbeats 4000000 in
theorem ok_X3_hasBit {l : Launch} {D : va_G} {cy : Nat → ClassId} {ad : Nat → Nat} {nm nv sz : Nat} {σ : St} {p0 : Nat} {x1 : Int} {x2 : Int} {r : Int} (hp0 : isPaper p0) (hx1 : inR x1) (hx2 : inR x2) (hf : fX3_hasBit σ p0 x1 x2 = some r) : CI l yX3_hasBit cX3_hasBit 3 (some .boolean) ({ frames := 2, cells := 0, slots := 0, locals := 41 } : Room) [.ref (ad p0), .int (i32 x1), .int (i32 x2)] D cy ad nm nv sz σ true r σ := by
  refine m_entry RX3 rfl (by decide +kernel) (Nat.le_of_ble_eq_true rfl) ?_
  intro p e s m args below meth c Q hQ hr hlocks X hW hS ls hl
  have hx := X.1
  have hb := X.2.1
  have hl : lv_has ls 3 [(0, .ref (ad p0)), (1, .int (i32 x1)), (2, .int (i32 x2))] := hl
  unfold fX3_hasBit at hf
  refine lv_aload_n hx hb dX3_hasBit_0 rfl (lv_at hl 0 rfl) ?_
  refine lv_iload_n hx hb dX3_hasBit_1 rfl (lv_at hl 1 rfl) ?_
  refine m_callVi1 (z := false) (As := [.int (i32 x1)]) (rest := []) X hW hS hl.1 gc_X3_141 hd_X3_bitsOf ⟨rfl, rfl, Nat.le_of_ble_eq_true rfl, Nat.le_of_ble_eq_true rfl⟩ (rc_X3 X hW hp0) (fun v q => ok_X3_bitsOf hp0 hx1 q) hf rfl rfl (Nat.le_of_ble_eq_true rfl) dX3_hasBit_2 ⟨Nat.le_of_ble_eq_true rfl, Nat.le_of_ble_eq_true rfl⟩ (fun v1 H locs hv1 zv1 hWv1 hSv1 hf => ?_)
  refine lv_iload_n hx hb dX3_hasBit_5 rfl (lv_at hl 2 rfl) ?_
  refine m_iand hx hb hf dX3_hasBit_6 (fun v2 hv2 hf => ?_)
  refine m_if_eq (tgt := 14) hx hb hv2 hf dX3_hasBit_7 (by decide) (fun hf => ?_) (fun hf => ?_)
  · skip
    refine m_const (v := 0) hx hb dX3_hasBit_14 rfl ?_
    exact m_ireti X hr hlocks (nar_b (Or.inl rfl)).1 (by decide) (fun _ => (Or.inl rfl)) hWv1 hSv1 (Option.some.inj hf) rfl hQ dX3_hasBit_15
  · skip
    refine m_const (v := 1) hx hb dX3_hasBit_10 rfl ?_
    refine lv_goto (tgt := 15) hx hb dX3_hasBit_11 (by decide) ?_
    exact m_ireti X hr hlocks (nar_b (Or.inr rfl)).1 (by decide) (fun _ => (Or.inr rfl)) hWv1 hSv1 (Option.some.inj hf) rfl hQ dX3_hasBit_15
set_option maxRecDepth 100000 in
set_option maxHeartbeats 4000000 in
theorem ok_X3_seenAt {l : Launch} {D : va_G} {cy : Nat → ClassId} {ad : Nat → Nat} {nm nv sz : Nat} {σ : St} {n : Nat} {p0 : Nat} {x1 : Int} {r : Int} (hp0 : isPaper p0) (hx1 : inR x1) (hf : fX3_seenAt n σ p0 x1 = some r) : CI l yX3_seenAt cX3_seenAt 4 (some .int) ({ frames := 1, cells := 0, slots := 0, locals := 21 } : Room) [.ref (ad p0), .int (i32 x1)] D cy ad nm nv sz σ false r σ := by
  refine m_entry RX3 rfl (by decide +kernel) (Nat.le_of_ble_eq_true rfl) ?_
  intro p e s m args below meth c Q hQ hr hlocks X hW hS ls hl
  have hx := X.1
  have hb := X.2.1
  have hl : lv_has ls 4 [(0, .ref (ad p0)), (1, .int (i32 x1))] := hl
  unfold fX3_seenAt at hf
  have hc4 : ∀ (k4 : Nat) (H : Heap) (locs : List Loc) (ls : Array Slot) (x2 : Int) (x3 : Int), inR x2 → inR x3 → fX3_seenAt_L4 n σ p0 x1 k4 x2 x3 = some r → Wd D cy ad nm nv σ H → va_S (AW ad nm nv sz) s.heap H locs → lv_has ls 4 [(0, .ref (ad p0)), (1, .int (i32 x1)), (2, .int (i32 x2)), (3, .int (i32 x3))] → W p l e ({ frames := 1, cells := 0, slots := 0, locals := 21 } : Room) s m args below meth c H locs 0 0 Q (F0 m 4 ls []) := by
    intro k4
    induction k4 with
    | zero =>
      intro H locs ls x2 x3 hx2 hx3 hf
      have hf : (none : Option Int) = some r := hf
      cases hf
    | succ k4 ih4 =>
      intro H locs ls x2 x3 hx2 hx3 hf hW hS hl
      have hf : fX3_seenAt_L4s n σ p0 x1 (fX3_seenAt_L4 n σ p0 x1 k4) x2 x3 = some r := hf
      unfold fX3_seenAt_L4s at hf
      refine lv_iload_n hx hb dX3_seenAt_4 rfl (lv_at hl 3 rfl) ?_
      refine lv_aload_n hx hb dX3_seenAt_5 rfl (lv_at hl 0 rfl) ?_
      refine g_X3_rowSize X hW hp0 (X.2.2.2.2.1 _ mw97) dX3_seenAt_6 ?_
      refine m_icmp_ge (tgt := 44) hx hb hx3 (hW.2.1 _ _) hf dX3_seenAt_9 (by decide) (fun hf => ?_) (fun hf => ?_)
      · skip
        refine m_const (v := (-1)) hx hb dX3_seenAt_44 rfl ?_
        exact m_ireti X hr hlocks rfl (by decide) (fun h => Bool.noConfusion h) hW hS (Option.some.inj hf) rfl hQ dX3_seenAt_45
      · skip
        refine lv_aload_n hx hb dX3_seenAt_12 rfl (lv_at hl 0 rfl) ?_
        refine lv_aload_n hx hb dX3_seenAt_13 rfl (lv_at hl 0 rfl) ?_
        refine lv_iload_n hx hb dX3_seenAt_14 rfl (lv_at hl 3 rfl) ?_
        refine m_callVi1 (z := false) (As := [.int (i32 x3)]) (rest := [.ref (ad p0)]) X hW hS hl.1 gc_X3_138 hd_X3_inRow ⟨rfl, rfl, Nat.le_of_ble_eq_true rfl, Nat.le_of_ble_eq_true rfl⟩ (rc_X3 X hW hp0) (fun v q => ok_X3_inRow hp0 hx3 q) hf rfl rfl (Nat.le_of_ble_eq_true rfl) dX3_seenAt_15 ⟨Nat.le_of_ble_eq_true rfl, Nat.le_of_ble_eq_true rfl⟩ (fun v1 H locs hv1 zv1 hWv1 hSv1 hf => ?_)
        refine m_callVi1 (z := true) (As := [.int (i32 v1)]) (rest := []) X hWv1 hSv1 hl.1 gc_X3_172 hd_X3_isSeen ⟨rfl, rfl, Nat.le_of_ble_eq_true rfl, Nat.le_of_ble_eq_true rfl⟩ (rc_X3 X hWv1 hp0) (fun v q => ok_X3_isSeen hp0 hv1 q) hf rfl rfl (Nat.le_of_ble_eq_true rfl) dX3_seenAt_18 ⟨Nat.le_of_ble_eq_true rfl, Nat.le_of_ble_eq_true rfl⟩ (fun v2 H locs hv2 zv2 hWv2 hSv2 hf => ?_)
        refine m_if_eq (tgt := 38) hx hb hv2 hf dX3_seenAt_21 (by decide) (fun hf => ?_) (fun hf => ?_)
        · skip
          refine m_iinc (k0 := 3) (fun v3 => [(3, .int (i32 v3)), (0, .ref (ad p0)), (1, .int (i32 x1)), (2, .int (i32 x2))]) hx hb hf dX3_seenAt_38 hl rfl (by decide) (fun _ => rfl) (fun v3 ls hv3 hf hl => ?_)
          have hl : lv_has ls 4 [(3, .int (i32 v3)), (0, .ref (ad p0)), (1, .int (i32 x1)), (2, .int (i32 x2))] := hl
          refine lv_goto (tgt := 4) hx hb dX3_seenAt_41 (by decide) ?_
          exact ih4 _ _ _ x2 v3 hx2 hv3 hf hWv2 hSv2 (lv_sub hl [1, 2, 3, 0] rfl)
        · skip
          refine lv_iload_n hx hb dX3_seenAt_24 rfl (lv_at hl 2 rfl) ?_
          refine lv_iload_n hx hb dX3_seenAt_25 rfl (lv_at hl 1 rfl) ?_
          refine m_icmp_ne (tgt := 35) hx hb hx2 hx1 hf dX3_seenAt_26 (by decide) (fun hf => ?_) (fun hf => ?_)
          · skip
            refine m_iinc (k0 := 2) (fun v4 => [(2, .int (i32 v4)), (0, .ref (ad p0)), (1, .int (i32 x1)), (3, .int (i32 x3))]) hx hb hf dX3_seenAt_35 hl rfl (by decide) (fun _ => rfl) (fun v4 ls hv4 hf hl => ?_)
            have hl : lv_has ls 4 [(2, .int (i32 v4)), (0, .ref (ad p0)), (1, .int (i32 x1)), (3, .int (i32 x3))] := hl
            refine m_iinc (k0 := 3) (fun v5 => [(3, .int (i32 v5)), (2, .int (i32 v4)), (0, .ref (ad p0)), (1, .int (i32 x1))]) hx hb hf dX3_seenAt_38 hl rfl (by decide) (fun _ => rfl) (fun v5 ls hv5 hf hl => ?_)
            have hl : lv_has ls 4 [(3, .int (i32 v5)), (2, .int (i32 v4)), (0, .ref (ad p0)), (1, .int (i32 x1))] := hl
            refine lv_goto (tgt := 4) hx hb dX3_seenAt_41 (by decide) ?_
            exact ih4 _ _ _ v4 v5 hv4 hv5 hf hWv2 hSv2 (lv_sub hl [2, 3, 1, 0] rfl)
          · skip
            refine lv_aload_n hx hb dX3_seenAt_29 rfl (lv_at hl 0 rfl) ?_
            refine lv_iload_n hx hb dX3_seenAt_30 rfl (lv_at hl 3 rfl) ?_
            refine m_callVi1 (z := false) (As := [.int (i32 x3)]) (rest := []) X hWv2 hSv2 hl.1 gc_X3_138 hd_X3_inRow ⟨rfl, rfl, Nat.le_of_ble_eq_true rfl, Nat.le_of_ble_eq_true rfl⟩ (rc_X3 X hWv2 hp0) (fun v q => ok_X3_inRow hp0 hx3 q) hf rfl rfl (Nat.le_of_ble_eq_true rfl) dX3_seenAt_31 ⟨Nat.le_of_ble_eq_true rfl, Nat.le_of_ble_eq_true rfl⟩ (fun v6 H locs hv6 zv6 hWv6 hSv6 hf => ?_)
            exact m_ireti X hr hlocks rfl hv6 (fun h => Bool.noConfusion h) hWv6 hSv6 (Option.some.inj hf) rfl hQ dX3_seenAt_34
  refine m_const (v := 0) hx hb dX3_seenAt_0 rfl ?_
  refine lv_istore_n (lv' := [(2, .int (i32 0)), (0, .ref (ad p0)), (1, .int (i32 x1))]) hx hb dX3_seenAt_1 rfl hl (by decide) rfl (fun ls hl => ?_)
  refine m_const (v := 0) hx hb dX3_seenAt_2 rfl ?_
  refine lv_istore_n (lv' := [(3, .int (i32 0)), (2, .int (i32 0)), (0, .ref (ad p0)), (1, .int (i32 x1))]) hx hb dX3_seenAt_3 rfl hl (by decide) rfl (fun ls hl => ?_)
  exact hc4 n _ _ _ 0 0 (by decide) (by decide) hf hW hS (lv_sub hl [2, 3, 1, 0] rfl)
set_option maxRecDepth 100000 in
set_option maxHeartbeats 4000000 in
theorem ok_X3_seenThrough {l : Launch} {D : va_G} {cy : Nat → ClassId} {ad : Nat → Nat} {nm nv sz : Nat} {σ : St} {n : Nat} {p0 : Nat} {x1 : Int} {r : Int} (hp0 : isPaper p0) (hx1 : inR x1) (hf : fX3_seenThrough n σ p0 x1 = some r) : CI l yX3_seenThrough cX3_seenThrough 4 (some .int) ({ frames := 1, cells := 0, slots := 0, locals := 21 } : Room) [.ref (ad p0), .int (i32 x1)] D cy ad nm nv sz σ false r σ := by
  refine m_entry RX3 rfl (by decide +kernel) (Nat.le_of_ble_eq_true rfl) ?_
  intro p e s m args below meth c Q hQ hr hlocks X hW hS ls hl
  have hx := X.1
  have hb := X.2.1
  have hl : lv_has ls 4 [(0, .ref (ad p0)), (1, .int (i32 x1))] := hl
  unfold fX3_seenThrough at hf
  have hc4 : ∀ (k4 : Nat) (H : Heap) (locs : List Loc) (ls : Array Slot) (x2 : Int) (x3 : Int), inR x2 → inR x3 → fX3_seenThrough_L4 n σ p0 x1 k4 x2 x3 = some r → Wd D cy ad nm nv σ H → va_S (AW ad nm nv sz) s.heap H locs → lv_has ls 4 [(0, .ref (ad p0)), (1, .int (i32 x1)), (2, .int (i32 x2)), (3, .int (i32 x3))] → W p l e ({ frames := 1, cells := 0, slots := 0, locals := 21 } : Room) s m args below meth c H locs 0 0 Q (F0 m 4 ls []) := by
    intro k4
    induction k4 with
    | zero =>
      intro H locs ls x2 x3 hx2 hx3 hf
      have hf : (none : Option Int) = some r := hf
      cases hf
    | succ k4 ih4 =>
      intro H locs ls x2 x3 hx2 hx3 hf hW hS hl
      have hf : fX3_seenThrough_L4s n σ p0 x1 (fX3_seenThrough_L4 n σ p0 x1 k4) x2 x3 = some r := hf
      unfold fX3_seenThrough_L4s at hf
      have hc27 : ∀ (H : Heap) (locs : List Loc) (ls : Array Slot) (x2 : Int) (x3 : Int), inR x2 → inR x3 → fX3_seenThrough_J27 n (fX3_seenThrough_L4 n σ p0 x1 k4) σ p0 x1 x2 x3 = some r → Wd D cy ad nm nv σ H → va_S (AW ad nm nv sz) s.heap H locs → lv_has ls 4 [(0, .ref (ad p0)), (1, .int (i32 x1)), (2, .int (i32 x2)), (3, .int (i32 x3))] → W p l e ({ frames := 1, cells := 0, slots := 0, locals := 21 } : Room) s m args below meth c H locs 0 0 Q (F0 m 27 ls []) := by
        intro H locs ls x2 x3 hx2 hx3 hf hW hS hl
        unfold fX3_seenThrough_J27 at hf
        refine lv_aload_n hx hb dX3_seenThrough_27 rfl (lv_at hl 0 rfl) ?_
        refine lv_iload_n hx hb dX3_seenThrough_28 rfl (lv_at hl 3 rfl) ?_
        refine m_callVi1 (z := false) (As := [.int (i32 x3)]) (rest := []) X hW hS hl.1 gc_X3_138 hd_X3_inRow ⟨rfl, rfl, Nat.le_of_ble_eq_true rfl, Nat.le_of_ble_eq_true rfl⟩ (rc_X3 X hW hp0) (fun v q => ok_X3_inRow hp0 hx3 q) hf rfl rfl (Nat.le_of_ble_eq_true rfl) dX3_seenThrough_29 ⟨Nat.le_of_ble_eq_true rfl, Nat.le_of_ble_eq_true rfl⟩ (fun v4 H locs hv4 zv4 hWv4 hSv4 hf => ?_)
        refine lv_iload_n hx hb dX3_seenThrough_32 rfl (lv_at hl 1 rfl) ?_
        refine m_icmp_ne (tgt := 38) hx hb hv4 hx1 hf dX3_seenThrough_33 (by decide) (fun hf => ?_) (fun hf => ?_)
        · skip
          refine m_iinc (k0 := 3) (fun v5 => [(3, .int (i32 v5)), (0, .ref (ad p0)), (1, .int (i32 x1)), (2, .int (i32 x2))]) hx hb hf dX3_seenThrough_38 hl rfl (by decide) (fun _ => rfl) (fun v5 ls hv5 hf hl => ?_)
          have hl : lv_has ls 4 [(3, .int (i32 v5)), (0, .ref (ad p0)), (1, .int (i32 x1)), (2, .int (i32 x2))] := hl
          refine lv_goto (tgt := 4) hx hb dX3_seenThrough_41 (by decide) ?_
          exact ih4 _ _ _ x2 v5 hx2 hv5 hf hWv4 hSv4 (lv_sub hl [1, 2, 3, 0] rfl)
        · skip
          refine lv_iload_n hx hb dX3_seenThrough_36 rfl (lv_at hl 2 rfl) ?_
          exact m_ireti X hr hlocks rfl hx2 (fun h => Bool.noConfusion h) hWv4 hSv4 (Option.some.inj hf) rfl hQ dX3_seenThrough_37
      refine lv_iload_n hx hb dX3_seenThrough_4 rfl (lv_at hl 3 rfl) ?_
      refine lv_aload_n hx hb dX3_seenThrough_5 rfl (lv_at hl 0 rfl) ?_
      refine g_X3_rowSize X hW hp0 (X.2.2.2.2.1 _ mw97) dX3_seenThrough_6 ?_
      refine m_icmp_ge (tgt := 44) hx hb hx3 (hW.2.1 _ _) hf dX3_seenThrough_9 (by decide) (fun hf => ?_) (fun hf => ?_)
      · skip
        refine m_const (v := 0) hx hb dX3_seenThrough_44 rfl ?_
        exact m_ireti X hr hlocks rfl (by decide) (fun h => Bool.noConfusion h) hW hS (Option.some.inj hf) rfl hQ dX3_seenThrough_45
      · skip
        refine lv_aload_n hx hb dX3_seenThrough_12 rfl (lv_at hl 0 rfl) ?_
        refine lv_aload_n hx hb dX3_seenThrough_13 rfl (lv_at hl 0 rfl) ?_
        refine lv_iload_n hx hb dX3_seenThrough_14 rfl (lv_at hl 3 rfl) ?_
        refine m_callVi1 (z := false) (As := [.int (i32 x3)]) (rest := [.ref (ad p0)]) X hW hS hl.1 gc_X3_138 hd_X3_inRow ⟨rfl, rfl, Nat.le_of_ble_eq_true rfl, Nat.le_of_ble_eq_true rfl⟩ (rc_X3 X hW hp0) (fun v q => ok_X3_inRow hp0 hx3 q) hf rfl rfl (Nat.le_of_ble_eq_true rfl) dX3_seenThrough_15 ⟨Nat.le_of_ble_eq_true rfl, Nat.le_of_ble_eq_true rfl⟩ (fun v1 H locs hv1 zv1 hWv1 hSv1 hf => ?_)
        refine m_callVi1 (z := true) (As := [.int (i32 v1)]) (rest := []) X hWv1 hSv1 hl.1 gc_X3_172 hd_X3_isSeen ⟨rfl, rfl, Nat.le_of_ble_eq_true rfl, Nat.le_of_ble_eq_true rfl⟩ (rc_X3 X hWv1 hp0) (fun v q => ok_X3_isSeen hp0 hv1 q) hf rfl rfl (Nat.le_of_ble_eq_true rfl) dX3_seenThrough_18 ⟨Nat.le_of_ble_eq_true rfl, Nat.le_of_ble_eq_true rfl⟩ (fun v2 H locs hv2 zv2 hWv2 hSv2 hf => ?_)
        refine m_if_eq (tgt := 27) hx hb hv2 hf dX3_seenThrough_21 (by decide) (fun hf => ?_) (fun hf => ?_)
        · skip
          exact hc27 _ _ _ x2 x3 hx2 hx3 hf hWv2 hSv2 (lv_sub hl [0, 1, 2, 3] rfl)
        · skip
          refine m_iinc (k0 := 2) (fun v3 => [(2, .int (i32 v3)), (0, .ref (ad p0)), (1, .int (i32 x1)), (3, .int (i32 x3))]) hx hb hf dX3_seenThrough_24 hl rfl (by decide) (fun _ => rfl) (fun v3 ls hv3 hf hl => ?_)
          have hl : lv_has ls 4 [(2, .int (i32 v3)), (0, .ref (ad p0)), (1, .int (i32 x1)), (3, .int (i32 x3))] := hl
          exact hc27 _ _ _ v3 x3 hv3 hx3 hf hWv2 hSv2 (lv_sub hl [1, 2, 0, 3] rfl)
  refine m_const (v := 0) hx hb dX3_seenThrough_0 rfl ?_
  refine lv_istore_n (lv' := [(2, .int (i32 0)), (0, .ref (ad p0)), (1, .int (i32 x1))]) hx hb dX3_seenThrough_1 rfl hl (by decide) rfl (fun ls hl => ?_)
  refine m_const (v := 0) hx hb dX3_seenThrough_2 rfl ?_
  refine lv_istore_n (lv' := [(3, .int (i32 0)), (2, .int (i32 0)), (0, .ref (ad p0)), (1, .int (i32 x1))]) hx hb dX3_seenThrough_3 rfl hl (by decide) rfl (fun ls hl => ?_)
  exact hc4 n _ _ _ 0 0 (by decide) (by decide) hf hW hS (lv_sub hl [2, 3, 1, 0] rfl)
set_option maxRecDepth 100000 in
set_option maxHeartbeats 4000000 in
theorem ok_X3_pickSeen {l : Launch} {D : va_G} {cy : Nat → ClassId} {ad : Nat → Nat} {nm nv sz : Nat} {σ : St} {n : Nat} {p0 : Nat} {x1 : Int} {x2 : Int} {o3 : Nat} {r : Int} {σ2 : St} (hp0 : isPaper p0) (hx1 : inR x1) (hx2 : inR x2) (ho3 : arrOK nm nv o3 1 (ln o3)) (hf : fX3_pickSeen n σ p0 x1 x2 o3 = some (r, σ2)) : CI l yX3_pickSeen cX3_pickSeen 7 (some .int) ({ frames := 1, cells := 0, slots := 0, locals := 21 } : Room) [.ref (ad p0), .int (i32 x1), .int (i32 x2), .ref (ad o3)] D cy ad nm nv sz σ false r σ2 := by
  refine m_entry RX3 rfl (by decide +kernel) (Nat.le_of_ble_eq_true rfl) ?_
  intro p e s m args below meth c Q hQ hr hlocks X hW hS ls hl
  have hx := X.1
  have hb := X.2.1
  have hl : lv_has ls 7 [(0, .ref (ad p0)), (1, .int (i32 x1)), (2, .int (i32 x2)), (3, .ref (ad o3))] := hl
  unfold fX3_pickSeen at hf
  have hc9 : ∀ (k9 : Nat) (σ : St) (H : Heap) (locs : List Loc) (ls : Array Slot) (x4 : Int) (x5 : Int) (x6 : Int), inR x4 → inR x5 → inR x6 → fX3_pickSeen_L9 n p0 o3 x1 x2 k9 σ x4 x5 x6 = some (r, σ2) → Wd D cy ad nm nv σ H → va_S (AW ad nm nv sz) s.heap H locs → lv_has ls 7 [(0, .ref (ad p0)), (1, .int (i32 x1)), (2, .int (i32 x2)), (3, .ref (ad o3)), (4, .int (i32 x4)), (5, .int (i32 x5)), (6, .int (i32 x6))] → W p l e ({ frames := 1, cells := 0, slots := 0, locals := 21 } : Room) s m args below meth c H locs 0 0 Q (F0 m 9 ls []) := by
    intro k9
    induction k9 with
    | zero =>
      intro σ H locs ls x4 x5 x6 hx4 hx5 hx6 hf
      have hf : (none : Option (Int × St)) = some (r, σ2) := hf
      cases hf
    | succ k9 ih9 =>
      intro σ H locs ls x4 x5 x6 hx4 hx5 hx6 hf hW hS hl
      have hf : fX3_pickSeen_L9s n p0 o3 x1 x2 (fX3_pickSeen_L9 n p0 o3 x1 x2 k9) σ x4 x5 x6 = some (r, σ2) := hf
      unfold fX3_pickSeen_L9s at hf
      refine lv_iload hx hb dX3_pickSeen_9 (lv_at hl 6 rfl) ?_
      refine lv_aload_n hx hb dX3_pickSeen_11 rfl (lv_at hl 0 rfl) ?_
      refine g_X3_rowSize X hW hp0 (X.2.2.2.2.1 _ mw97) dX3_pickSeen_12 ?_
      refine m_icmp_ge (tgt := 72) hx hb hx6 (hW.2.1 _ _) hf dX3_pickSeen_15 (by decide) (fun hf => ?_) (fun hf => ?_)
      · skip
        refine lv_iload hx hb dX3_pickSeen_72 (lv_at hl 4 rfl) ?_
        exact m_ireti X hr hlocks rfl hx4 (fun h => Bool.noConfusion h) hW hS (congrArg Prod.fst (Option.some.inj hf)) (congrArg Prod.snd (Option.some.inj hf)) hQ dX3_pickSeen_74
      · skip
        refine lv_aload_n hx hb dX3_pickSeen_18 rfl (lv_at hl 0 rfl) ?_
        refine lv_aload_n hx hb dX3_pickSeen_19 rfl (lv_at hl 0 rfl) ?_
        refine lv_iload hx hb dX3_pickSeen_20 (lv_at hl 6 rfl) ?_
        refine m_callVi1 (z := false) (As := [.int (i32 x6)]) (rest := [.ref (ad p0)]) X hW hS hl.1 gc_X3_138 hd_X3_inRow ⟨rfl, rfl, Nat.le_of_ble_eq_true rfl, Nat.le_of_ble_eq_true rfl⟩ (rc_X3 X hW hp0) (fun v q => ok_X3_inRow hp0 hx6 q) hf rfl rfl (Nat.le_of_ble_eq_true rfl) dX3_pickSeen_22 ⟨Nat.le_of_ble_eq_true rfl, Nat.le_of_ble_eq_true rfl⟩ (fun v1 H locs hv1 zv1 hWv1 hSv1 hf => ?_)
        refine m_callVi1 (z := true) (As := [.int (i32 v1)]) (rest := []) X hWv1 hSv1 hl.1 gc_X3_172 hd_X3_isSeen ⟨rfl, rfl, Nat.le_of_ble_eq_true rfl, Nat.le_of_ble_eq_true rfl⟩ (rc_X3 X hWv1 hp0) (fun v q => ok_X3_isSeen hp0 hv1 q) hf rfl rfl (Nat.le_of_ble_eq_true rfl) dX3_pickSeen_25 ⟨Nat.le_of_ble_eq_true rfl, Nat.le_of_ble_eq_true rfl⟩ (fun v2 H locs hv2 zv2 hWv2 hSv2 hf => ?_)
        refine m_if_eq (tgt := 66) hx hb hv2 hf dX3_pickSeen_28 (by decide) (fun hf => ?_) (fun hf => ?_)
        · skip
          refine m_iinc (k0 := 6) (fun v3 => [(6, .int (i32 v3)), (0, .ref (ad p0)), (1, .int (i32 x1)), (2, .int (i32 x2)), (3, .ref (ad o3)), (4, .int (i32 x4)), (5, .int (i32 x5))]) hx hb hf dX3_pickSeen_66 hl rfl (by decide) (fun _ => rfl) (fun v3 ls hv3 hf hl => ?_)
          have hl : lv_has ls 7 [(6, .int (i32 v3)), (0, .ref (ad p0)), (1, .int (i32 x1)), (2, .int (i32 x2)), (3, .ref (ad o3)), (4, .int (i32 x4)), (5, .int (i32 x5))] := hl
          refine lv_goto (tgt := 9) hx hb dX3_pickSeen_69 (by decide) ?_
          exact ih9 _ _ _ _ x4 x5 v3 hx4 hx5 hv3 hf hWv2 hSv2 (lv_sub hl [1, 2, 3, 4, 5, 6, 0] rfl)
        · skip
          refine lv_iload hx hb dX3_pickSeen_31 (lv_at hl 5 rfl) ?_
          refine lv_iload_n hx hb dX3_pickSeen_33 rfl (lv_at hl 1 rfl) ?_
          refine m_icmp_lt (tgt := 63) hx hb hx5 hx1 hf dX3_pickSeen_34 (by decide) (fun hf => ?_) (fun hf => ?_)
          · skip
            refine m_iinc (k0 := 5) (fun v4 => [(5, .int (i32 v4)), (0, .ref (ad p0)), (1, .int (i32 x1)), (2, .int (i32 x2)), (3, .ref (ad o3)), (4, .int (i32 x4)), (6, .int (i32 x6))]) hx hb hf dX3_pickSeen_63 hl rfl (by decide) (fun _ => rfl) (fun v4 ls hv4 hf hl => ?_)
            have hl : lv_has ls 7 [(5, .int (i32 v4)), (0, .ref (ad p0)), (1, .int (i32 x1)), (2, .int (i32 x2)), (3, .ref (ad o3)), (4, .int (i32 x4)), (6, .int (i32 x6))] := hl
            refine m_iinc (k0 := 6) (fun v5 => [(6, .int (i32 v5)), (5, .int (i32 v4)), (0, .ref (ad p0)), (1, .int (i32 x1)), (2, .int (i32 x2)), (3, .ref (ad o3)), (4, .int (i32 x4))]) hx hb hf dX3_pickSeen_66 hl rfl (by decide) (fun _ => rfl) (fun v5 ls hv5 hf hl => ?_)
            have hl : lv_has ls 7 [(6, .int (i32 v5)), (5, .int (i32 v4)), (0, .ref (ad p0)), (1, .int (i32 x1)), (2, .int (i32 x2)), (3, .ref (ad o3)), (4, .int (i32 x4))] := hl
            refine lv_goto (tgt := 9) hx hb dX3_pickSeen_69 (by decide) ?_
            exact ih9 _ _ _ _ x4 v4 v5 hx4 hv4 hv5 hf hWv2 hSv2 (lv_sub hl [2, 3, 4, 5, 6, 1, 0] rfl)
          · skip
            refine lv_iload hx hb dX3_pickSeen_37 (lv_at hl 5 rfl) ?_
            refine lv_iload_n hx hb dX3_pickSeen_39 rfl (lv_at hl 2 rfl) ?_
            refine m_icmp_ge (tgt := 63) hx hb hx5 hx2 hf dX3_pickSeen_40 (by decide) (fun hf => ?_) (fun hf => ?_)
            · skip
              refine m_iinc (k0 := 5) (fun v6 => [(5, .int (i32 v6)), (0, .ref (ad p0)), (1, .int (i32 x1)), (2, .int (i32 x2)), (3, .ref (ad o3)), (4, .int (i32 x4)), (6, .int (i32 x6))]) hx hb hf dX3_pickSeen_63 hl rfl (by decide) (fun _ => rfl) (fun v6 ls hv6 hf hl => ?_)
              have hl : lv_has ls 7 [(5, .int (i32 v6)), (0, .ref (ad p0)), (1, .int (i32 x1)), (2, .int (i32 x2)), (3, .ref (ad o3)), (4, .int (i32 x4)), (6, .int (i32 x6))] := hl
              refine m_iinc (k0 := 6) (fun v7 => [(6, .int (i32 v7)), (5, .int (i32 v6)), (0, .ref (ad p0)), (1, .int (i32 x1)), (2, .int (i32 x2)), (3, .ref (ad o3)), (4, .int (i32 x4))]) hx hb hf dX3_pickSeen_66 hl rfl (by decide) (fun _ => rfl) (fun v7 ls hv7 hf hl => ?_)
              have hl : lv_has ls 7 [(6, .int (i32 v7)), (5, .int (i32 v6)), (0, .ref (ad p0)), (1, .int (i32 x1)), (2, .int (i32 x2)), (3, .ref (ad o3)), (4, .int (i32 x4))] := hl
              refine lv_goto (tgt := 9) hx hb dX3_pickSeen_69 (by decide) ?_
              exact ih9 _ _ _ _ x4 v6 v7 hx4 hv6 hv7 hf hWv2 hSv2 (lv_sub hl [2, 3, 4, 5, 6, 1, 0] rfl)
            · skip
              refine lv_iload hx hb dX3_pickSeen_43 (lv_at hl 4 rfl) ?_
              refine lv_aload_n hx hb dX3_pickSeen_45 rfl (lv_at hl 3 rfl) ?_
              refine m_alen (v := ((ln o3 : Nat) : Int)) 0 X hWv2 ho3 ent_1 rfl rfl rfl dX3_pickSeen_46 ?_
              refine m_icmp_ge (tgt := 63) hx hb hx4 (ln_inR _) hf dX3_pickSeen_47 (by decide) (fun hf => ?_) (fun hf => ?_)
              · skip
                refine m_iinc (k0 := 5) (fun v8 => [(5, .int (i32 v8)), (0, .ref (ad p0)), (1, .int (i32 x1)), (2, .int (i32 x2)), (3, .ref (ad o3)), (4, .int (i32 x4)), (6, .int (i32 x6))]) hx hb hf dX3_pickSeen_63 hl rfl (by decide) (fun _ => rfl) (fun v8 ls hv8 hf hl => ?_)
                have hl : lv_has ls 7 [(5, .int (i32 v8)), (0, .ref (ad p0)), (1, .int (i32 x1)), (2, .int (i32 x2)), (3, .ref (ad o3)), (4, .int (i32 x4)), (6, .int (i32 x6))] := hl
                refine m_iinc (k0 := 6) (fun v9 => [(6, .int (i32 v9)), (5, .int (i32 v8)), (0, .ref (ad p0)), (1, .int (i32 x1)), (2, .int (i32 x2)), (3, .ref (ad o3)), (4, .int (i32 x4))]) hx hb hf dX3_pickSeen_66 hl rfl (by decide) (fun _ => rfl) (fun v9 ls hv9 hf hl => ?_)
                have hl : lv_has ls 7 [(6, .int (i32 v9)), (5, .int (i32 v8)), (0, .ref (ad p0)), (1, .int (i32 x1)), (2, .int (i32 x2)), (3, .ref (ad o3)), (4, .int (i32 x4))] := hl
                refine lv_goto (tgt := 9) hx hb dX3_pickSeen_69 (by decide) ?_
                exact ih9 _ _ _ _ x4 v8 v9 hx4 hv8 hv9 hf hWv2 hSv2 (lv_sub hl [2, 3, 4, 5, 6, 1, 0] rfl)
              · skip
                refine lv_aload_n hx hb dX3_pickSeen_50 rfl (lv_at hl 3 rfl) ?_
                refine lv_iload hx hb dX3_pickSeen_51 (lv_at hl 4 rfl) ?_
                refine lv_aload_n hx hb dX3_pickSeen_53 rfl (lv_at hl 0 rfl) ?_
                refine lv_iload hx hb dX3_pickSeen_54 (lv_at hl 6 rfl) ?_
                refine m_callVi1 (z := false) (As := [.int (i32 x6)]) (rest := [.int (i32 x4), .ref (ad o3)]) X hWv2 hSv2 hl.1 gc_X3_138 hd_X3_inRow ⟨rfl, rfl, Nat.le_of_ble_eq_true rfl, Nat.le_of_ble_eq_true rfl⟩ (rc_X3 X hWv2 hp0) (fun v q => ok_X3_inRow hp0 hx6 q) hf rfl rfl (Nat.le_of_ble_eq_true rfl) dX3_pickSeen_56 ⟨Nat.le_of_ble_eq_true rfl, Nat.le_of_ble_eq_true rfl⟩ (fun v10 H locs hv10 zv10 hWv10 hSv10 hf => ?_)
                refine m_iast X hWv10 hSv10 ho3 hx4 hv10 hf dX3_pickSeen_59 (fun σ11 H locs hW11 hS11 hf => ?_)
                refine m_iinc (k0 := 4) (fun v12 => [(4, .int (i32 v12)), (0, .ref (ad p0)), (1, .int (i32 x1)), (2, .int (i32 x2)), (3, .ref (ad o3)), (5, .int (i32 x5)), (6, .int (i32 x6))]) hx hb hf dX3_pickSeen_60 hl rfl (by decide) (fun _ => rfl) (fun v12 ls hv12 hf hl => ?_)
                have hl : lv_has ls 7 [(4, .int (i32 v12)), (0, .ref (ad p0)), (1, .int (i32 x1)), (2, .int (i32 x2)), (3, .ref (ad o3)), (5, .int (i32 x5)), (6, .int (i32 x6))] := hl
                refine m_iinc (k0 := 5) (fun v13 => [(5, .int (i32 v13)), (4, .int (i32 v12)), (0, .ref (ad p0)), (1, .int (i32 x1)), (2, .int (i32 x2)), (3, .ref (ad o3)), (6, .int (i32 x6))]) hx hb hf dX3_pickSeen_63 hl rfl (by decide) (fun _ => rfl) (fun v13 ls hv13 hf hl => ?_)
                have hl : lv_has ls 7 [(5, .int (i32 v13)), (4, .int (i32 v12)), (0, .ref (ad p0)), (1, .int (i32 x1)), (2, .int (i32 x2)), (3, .ref (ad o3)), (6, .int (i32 x6))] := hl
                refine m_iinc (k0 := 6) (fun v14 => [(6, .int (i32 v14)), (5, .int (i32 v13)), (4, .int (i32 v12)), (0, .ref (ad p0)), (1, .int (i32 x1)), (2, .int (i32 x2)), (3, .ref (ad o3))]) hx hb hf dX3_pickSeen_66 hl rfl (by decide) (fun _ => rfl) (fun v14 ls hv14 hf hl => ?_)
                have hl : lv_has ls 7 [(6, .int (i32 v14)), (5, .int (i32 v13)), (4, .int (i32 v12)), (0, .ref (ad p0)), (1, .int (i32 x1)), (2, .int (i32 x2)), (3, .ref (ad o3))] := hl
                refine lv_goto (tgt := 9) hx hb dX3_pickSeen_69 (by decide) ?_
                exact ih9 _ _ _ _ v12 v13 v14 hv12 hv13 hv14 hf hW11 hS11 (lv_sub hl [3, 4, 5, 6, 2, 1, 0] rfl)
  refine m_const (v := 0) hx hb dX3_pickSeen_0 rfl ?_
  refine lv_istore (lv' := [(4, .int (i32 0)), (0, .ref (ad p0)), (1, .int (i32 x1)), (2, .int (i32 x2)), (3, .ref (ad o3))]) hx hb dX3_pickSeen_1 hl (by decide) rfl (fun ls hl => ?_)
  refine m_const (v := 0) hx hb dX3_pickSeen_3 rfl ?_
  refine lv_istore (lv' := [(5, .int (i32 0)), (4, .int (i32 0)), (0, .ref (ad p0)), (1, .int (i32 x1)), (2, .int (i32 x2)), (3, .ref (ad o3))]) hx hb dX3_pickSeen_4 hl (by decide) rfl (fun ls hl => ?_)
  refine m_const (v := 0) hx hb dX3_pickSeen_6 rfl ?_
  refine lv_istore (lv' := [(6, .int (i32 0)), (5, .int (i32 0)), (4, .int (i32 0)), (0, .ref (ad p0)), (1, .int (i32 x1)), (2, .int (i32 x2)), (3, .ref (ad o3))]) hx hb dX3_pickSeen_7 hl (by decide) rfl (fun ls hl => ?_)
  exact hc9 n _ _ _ _ 0 0 0 (by decide) (by decide) (by decide) hf hW hS (lv_sub hl [3, 4, 5, 6, 2, 1, 0] rfl)
set_option maxRecDepth 100000 in
set_option maxHeartbeats 4000000 in
theorem ok_X3_countSeen {l : Launch} {D : va_G} {cy : Nat → ClassId} {ad : Nat → Nat} {nm nv sz : Nat} {σ : St} {n : Nat} {p0 : Nat} {r : Int} (hp0 : isPaper p0) (hf : fX3_countSeen n σ p0 = some r) : CI l yX3_countSeen cX3_countSeen 3 (some .int) ({ frames := 1, cells := 0, slots := 0, locals := 21 } : Room) [.ref (ad p0)] D cy ad nm nv sz σ false r σ := by
  refine m_entry RX3 rfl (by decide +kernel) (Nat.le_of_ble_eq_true rfl) ?_
  intro p e s m args below meth c Q hQ hr hlocks X hW hS ls hl
  have hx := X.1
  have hb := X.2.1
  have hl : lv_has ls 3 [(0, .ref (ad p0))] := hl
  unfold fX3_countSeen at hf
  have hc4 : ∀ (k4 : Nat) (H : Heap) (locs : List Loc) (ls : Array Slot) (x1 : Int) (x2 : Int), inR x1 → inR x2 → fX3_countSeen_L4 n σ p0 k4 x1 x2 = some r → Wd D cy ad nm nv σ H → va_S (AW ad nm nv sz) s.heap H locs → lv_has ls 3 [(0, .ref (ad p0)), (1, .int (i32 x1)), (2, .int (i32 x2))] → W p l e ({ frames := 1, cells := 0, slots := 0, locals := 21 } : Room) s m args below meth c H locs 0 0 Q (F0 m 4 ls []) := by
    intro k4
    induction k4 with
    | zero =>
      intro H locs ls x1 x2 hx1 hx2 hf
      have hf : (none : Option Int) = some r := hf
      cases hf
    | succ k4 ih4 =>
      intro H locs ls x1 x2 hx1 hx2 hf hW hS hl
      have hf : fX3_countSeen_L4s n σ p0 (fX3_countSeen_L4 n σ p0 k4) x1 x2 = some r := hf
      unfold fX3_countSeen_L4s at hf
      refine lv_iload_n hx hb dX3_countSeen_4 rfl (lv_at hl 2 rfl) ?_
      refine lv_aload_n hx hb dX3_countSeen_5 rfl (lv_at hl 0 rfl) ?_
      refine g_X3_rowSize X hW hp0 (X.2.2.2.2.1 _ mw97) dX3_countSeen_6 ?_
      refine m_icmp_ge (tgt := 33) hx hb hx2 (hW.2.1 _ _) hf dX3_countSeen_9 (by decide) (fun hf => ?_) (fun hf => ?_)
      · skip
        refine lv_iload_n hx hb dX3_countSeen_33 rfl (lv_at hl 1 rfl) ?_
        exact m_ireti X hr hlocks rfl hx1 (fun h => Bool.noConfusion h) hW hS (Option.some.inj hf) rfl hQ dX3_countSeen_34
      · skip
        refine lv_aload_n hx hb dX3_countSeen_12 rfl (lv_at hl 0 rfl) ?_
        refine lv_aload_n hx hb dX3_countSeen_13 rfl (lv_at hl 0 rfl) ?_
        refine lv_iload_n hx hb dX3_countSeen_14 rfl (lv_at hl 2 rfl) ?_
        refine m_callVi1 (z := false) (As := [.int (i32 x2)]) (rest := [.ref (ad p0)]) X hW hS hl.1 gc_X3_138 hd_X3_inRow ⟨rfl, rfl, Nat.le_of_ble_eq_true rfl, Nat.le_of_ble_eq_true rfl⟩ (rc_X3 X hW hp0) (fun v q => ok_X3_inRow hp0 hx2 q) hf rfl rfl (Nat.le_of_ble_eq_true rfl) dX3_countSeen_15 ⟨Nat.le_of_ble_eq_true rfl, Nat.le_of_ble_eq_true rfl⟩ (fun v1 H locs hv1 zv1 hWv1 hSv1 hf => ?_)
        refine m_callVi1 (z := true) (As := [.int (i32 v1)]) (rest := []) X hWv1 hSv1 hl.1 gc_X3_172 hd_X3_isSeen ⟨rfl, rfl, Nat.le_of_ble_eq_true rfl, Nat.le_of_ble_eq_true rfl⟩ (rc_X3 X hWv1 hp0) (fun v q => ok_X3_isSeen hp0 hv1 q) hf rfl rfl (Nat.le_of_ble_eq_true rfl) dX3_countSeen_18 ⟨Nat.le_of_ble_eq_true rfl, Nat.le_of_ble_eq_true rfl⟩ (fun v2 H locs hv2 zv2 hWv2 hSv2 hf => ?_)
        refine m_if_eq (tgt := 27) hx hb hv2 hf dX3_countSeen_21 (by decide) (fun hf => ?_) (fun hf => ?_)
        · skip
          refine m_iinc (k0 := 2) (fun v3 => [(2, .int (i32 v3)), (0, .ref (ad p0)), (1, .int (i32 x1))]) hx hb hf dX3_countSeen_27 hl rfl (by decide) (fun _ => rfl) (fun v3 ls hv3 hf hl => ?_)
          have hl : lv_has ls 3 [(2, .int (i32 v3)), (0, .ref (ad p0)), (1, .int (i32 x1))] := hl
          refine lv_goto (tgt := 4) hx hb dX3_countSeen_30 (by decide) ?_
          exact ih4 _ _ _ x1 v3 hx1 hv3 hf hWv2 hSv2 (lv_sub hl [1, 2, 0] rfl)
        · skip
          refine m_iinc (k0 := 1) (fun v4 => [(1, .int (i32 v4)), (0, .ref (ad p0)), (2, .int (i32 x2))]) hx hb hf dX3_countSeen_24 hl rfl (by decide) (fun _ => rfl) (fun v4 ls hv4 hf hl => ?_)
          have hl : lv_has ls 3 [(1, .int (i32 v4)), (0, .ref (ad p0)), (2, .int (i32 x2))] := hl
          refine m_iinc (k0 := 2) (fun v5 => [(2, .int (i32 v5)), (1, .int (i32 v4)), (0, .ref (ad p0))]) hx hb hf dX3_countSeen_27 hl rfl (by decide) (fun _ => rfl) (fun v5 ls hv5 hf hl => ?_)
          have hl : lv_has ls 3 [(2, .int (i32 v5)), (1, .int (i32 v4)), (0, .ref (ad p0))] := hl
          refine lv_goto (tgt := 4) hx hb dX3_countSeen_30 (by decide) ?_
          exact ih4 _ _ _ v4 v5 hv4 hv5 hf hWv2 hSv2 (lv_sub hl [2, 1, 0] rfl)
  refine m_const (v := 0) hx hb dX3_countSeen_0 rfl ?_
  refine lv_istore_n (lv' := [(1, .int (i32 0)), (0, .ref (ad p0))]) hx hb dX3_countSeen_1 rfl hl (by decide) rfl (fun ls hl => ?_)
  refine m_const (v := 0) hx hb dX3_countSeen_2 rfl ?_
  refine lv_istore_n (lv' := [(2, .int (i32 0)), (1, .int (i32 0)), (0, .ref (ad p0))]) hx hb dX3_countSeen_3 rfl hl (by decide) rfl (fun ls hl => ?_)
  exact hc4 n _ _ _ 0 0 (by decide) (by decide) hf hW hS (lv_sub hl [2, 1, 0] rfl)
set_option maxRecDepth 100000 in
set_option maxHeartbeats 4000000 in
theorem ok_X3_countShown {l : Launch} {D : va_G} {cy : Nat → ClassId} {ad : Nat → Nat} {nm nv sz : Nat} {σ : St} {n : Nat} {p0 : Nat} {r : Int} (hp0 : isPaper p0) (hf : fX3_countShown n σ p0 = some r) : CI l yX3_countShown cX3_countShown 3 (some .int) ({ frames := 1, cells := 0, slots := 0, locals := 21 } : Room) [.ref (ad p0)] D cy ad nm nv sz σ false r σ := by
  refine m_entry RX3 rfl (by decide +kernel) (Nat.le_of_ble_eq_true rfl) ?_
  intro p e s m args below meth c Q hQ hr hlocks X hW hS ls hl
  have hx := X.1
  have hb := X.2.1
  have hl : lv_has ls 3 [(0, .ref (ad p0))] := hl
  unfold fX3_countShown at hf
  have hc4 : ∀ (k4 : Nat) (H : Heap) (locs : List Loc) (ls : Array Slot) (x1 : Int) (x2 : Int), inR x1 → inR x2 → fX3_countShown_L4 n σ p0 k4 x1 x2 = some r → Wd D cy ad nm nv σ H → va_S (AW ad nm nv sz) s.heap H locs → lv_has ls 3 [(0, .ref (ad p0)), (1, .int (i32 x1)), (2, .int (i32 x2))] → W p l e ({ frames := 1, cells := 0, slots := 0, locals := 21 } : Room) s m args below meth c H locs 0 0 Q (F0 m 4 ls []) := by
    intro k4
    induction k4 with
    | zero =>
      intro H locs ls x1 x2 hx1 hx2 hf
      have hf : (none : Option Int) = some r := hf
      cases hf
    | succ k4 ih4 =>
      intro H locs ls x1 x2 hx1 hx2 hf hW hS hl
      have hf : fX3_countShown_L4s n σ p0 (fX3_countShown_L4 n σ p0 k4) x1 x2 = some r := hf
      unfold fX3_countShown_L4s at hf
      refine lv_iload_n hx hb dX3_countShown_4 rfl (lv_at hl 2 rfl) ?_
      refine lv_aload_n hx hb dX3_countShown_5 rfl (lv_at hl 0 rfl) ?_
      refine g_X3_rowSize X hW hp0 (X.2.2.2.2.1 _ mw97) dX3_countShown_6 ?_
      refine m_icmp_ge (tgt := 33) hx hb hx2 (hW.2.1 _ _) hf dX3_countShown_9 (by decide) (fun hf => ?_) (fun hf => ?_)
      · skip
        refine lv_iload_n hx hb dX3_countShown_33 rfl (lv_at hl 1 rfl) ?_
        exact m_ireti X hr hlocks rfl hx1 (fun h => Bool.noConfusion h) hW hS (Option.some.inj hf) rfl hQ dX3_countShown_34
      · skip
        refine lv_aload_n hx hb dX3_countShown_12 rfl (lv_at hl 0 rfl) ?_
        refine lv_aload_n hx hb dX3_countShown_13 rfl (lv_at hl 0 rfl) ?_
        refine lv_iload_n hx hb dX3_countShown_14 rfl (lv_at hl 2 rfl) ?_
        refine m_callVi1 (z := false) (As := [.int (i32 x2)]) (rest := [.ref (ad p0)]) X hW hS hl.1 gc_X3_138 hd_X3_inRow ⟨rfl, rfl, Nat.le_of_ble_eq_true rfl, Nat.le_of_ble_eq_true rfl⟩ (rc_X3 X hW hp0) (fun v q => ok_X3_inRow hp0 hx2 q) hf rfl rfl (Nat.le_of_ble_eq_true rfl) dX3_countShown_15 ⟨Nat.le_of_ble_eq_true rfl, Nat.le_of_ble_eq_true rfl⟩ (fun v1 H locs hv1 zv1 hWv1 hSv1 hf => ?_)
        refine m_callVi1 (z := true) (As := [.int (i32 v1)]) (rest := []) X hWv1 hSv1 hl.1 gc_X3_175 hd_X3_isShown ⟨rfl, rfl, Nat.le_of_ble_eq_true rfl, Nat.le_of_ble_eq_true rfl⟩ (rc_X3 X hWv1 hp0) (fun v q => ok_X3_isShown hp0 hv1 q) hf rfl rfl (Nat.le_of_ble_eq_true rfl) dX3_countShown_18 ⟨Nat.le_of_ble_eq_true rfl, Nat.le_of_ble_eq_true rfl⟩ (fun v2 H locs hv2 zv2 hWv2 hSv2 hf => ?_)
        refine m_if_eq (tgt := 27) hx hb hv2 hf dX3_countShown_21 (by decide) (fun hf => ?_) (fun hf => ?_)
        · skip
          refine m_iinc (k0 := 2) (fun v3 => [(2, .int (i32 v3)), (0, .ref (ad p0)), (1, .int (i32 x1))]) hx hb hf dX3_countShown_27 hl rfl (by decide) (fun _ => rfl) (fun v3 ls hv3 hf hl => ?_)
          have hl : lv_has ls 3 [(2, .int (i32 v3)), (0, .ref (ad p0)), (1, .int (i32 x1))] := hl
          refine lv_goto (tgt := 4) hx hb dX3_countShown_30 (by decide) ?_
          exact ih4 _ _ _ x1 v3 hx1 hv3 hf hWv2 hSv2 (lv_sub hl [1, 2, 0] rfl)
        · skip
          refine m_iinc (k0 := 1) (fun v4 => [(1, .int (i32 v4)), (0, .ref (ad p0)), (2, .int (i32 x2))]) hx hb hf dX3_countShown_24 hl rfl (by decide) (fun _ => rfl) (fun v4 ls hv4 hf hl => ?_)
          have hl : lv_has ls 3 [(1, .int (i32 v4)), (0, .ref (ad p0)), (2, .int (i32 x2))] := hl
          refine m_iinc (k0 := 2) (fun v5 => [(2, .int (i32 v5)), (1, .int (i32 v4)), (0, .ref (ad p0))]) hx hb hf dX3_countShown_27 hl rfl (by decide) (fun _ => rfl) (fun v5 ls hv5 hf hl => ?_)
          have hl : lv_has ls 3 [(2, .int (i32 v5)), (1, .int (i32 v4)), (0, .ref (ad p0))] := hl
          refine lv_goto (tgt := 4) hx hb dX3_countShown_30 (by decide) ?_
          exact ih4 _ _ _ v4 v5 hv4 hv5 hf hWv2 hSv2 (lv_sub hl [2, 1, 0] rfl)
  refine m_const (v := 0) hx hb dX3_countShown_0 rfl ?_
  refine lv_istore_n (lv' := [(1, .int (i32 0)), (0, .ref (ad p0))]) hx hb dX3_countShown_1 rfl hl (by decide) rfl (fun ls hl => ?_)
  refine m_const (v := 0) hx hb dX3_countShown_2 rfl ?_
  refine lv_istore_n (lv' := [(2, .int (i32 0)), (1, .int (i32 0)), (0, .ref (ad p0))]) hx hb dX3_countShown_3 rfl hl (by decide) rfl (fun ls hl => ?_)
  exact hc4 n _ _ _ 0 0 (by decide) (by decide) hf hW hS (lv_sub hl [2, 1, 0] rfl)
set_option maxRecDepth 100000 in
set_option maxHeartbeats 4000000 in
theorem ok_X3_countGraves {l : Launch} {D : va_G} {cy : Nat → ClassId} {ad : Nat → Nat} {nm nv sz : Nat} {σ : St} {n : Nat} {p0 : Nat} {r : Int} (hp0 : isPaper p0) (hf : fX3_countGraves n σ p0 = some r) : CI l yX3_countGraves cX3_countGraves 1 (some .int) ({ frames := 2, cells := 0, slots := 0, locals := 43 } : Room) [.ref (ad p0)] D cy ad nm nv sz σ false r σ := by
  refine m_entry RX3 rfl (by decide +kernel) (Nat.le_of_ble_eq_true rfl) ?_
  intro p e s m args below meth c Q hQ hr hlocks X hW hS ls hl
  have hx := X.1
  have hb := X.2.1
  have hl : lv_has ls 1 [(0, .ref (ad p0))] := hl
  unfold fX3_countGraves at hf
  refine lv_aload_n hx hb dX3_countGraves_0 rfl (lv_at hl 0 rfl) ?_
  refine g_X3_rowSize X hW hp0 (X.2.2.2.2.1 _ mw97) dX3_countGraves_1 ?_
  refine lv_aload_n hx hb dX3_countGraves_4 rfl (lv_at hl 0 rfl) ?_
  refine m_callVi1 (z := false) (As := []) (rest := [.int (i32 (σ p0 2))]) X hW hS hl.1 gc_X3_178 hd_X3_countSeen ⟨rfl, rfl, Nat.le_of_ble_eq_true rfl, Nat.le_of_ble_eq_true rfl⟩ (rc_X3 X hW hp0) (fun v q => ok_X3_countSeen hp0 q) hf rfl rfl (Nat.le_of_ble_eq_true rfl) dX3_countGraves_5 ⟨Nat.le_of_ble_eq_true rfl, Nat.le_of_ble_eq_true rfl⟩ (fun v1 H locs hv1 zv1 hWv1 hSv1 hf => ?_)
  refine m_isub hx hb hf dX3_countGraves_8 (fun v2 hv2 hf => ?_)
  exact m_ireti X hr hlocks rfl hv2 (fun h => Bool.noConfusion h) hWv1 hSv1 (Option.some.inj hf) rfl hQ dX3_countGraves_9
set_option maxRecDepth 100000 in
set_option maxHeartbeats 4000000 in
theorem ok_X3_countSeenWith {l : Launch} {D : va_G} {cy : Nat → ClassId} {ad : Nat → Nat} {nm nv sz : Nat} {σ : St} {n : Nat} {p0 : Nat} {x1 : Int} {r : Int} (hp0 : isPaper p0) (hx1 : inR x1) (hf : fX3_countSeenWith n σ p0 x1 = some r) : CI l yX3_countSeenWith cX3_countSeenWith 4 (some .int) ({ frames := 3, cells := 0, slots := 0, locals := 63 } : Room) [.ref (ad p0), .int (i32 x1)] D cy ad nm nv sz σ false r σ := by
  refine m_entry RX3 rfl (by decide +kernel) (Nat.le_of_ble_eq_true rfl) ?_
  intro p e s m args below meth c Q hQ hr hlocks X hW hS ls hl
  have hx := X.1
  have hb := X.2.1
  have hl : lv_has ls 4 [(0, .ref (ad p0)), (1, .int (i32 x1))] := hl
  unfold fX3_countSeenWith at hf
  have hc4 : ∀ (k4 : Nat) (H : Heap) (locs : List Loc) (ls : Array Slot) (x2 : Int) (x3 : Int), inR x2 → inR x3 → fX3_countSeenWith_L4 n σ p0 x1 k4 x2 x3 = some r → Wd D cy ad nm nv σ H → va_S (AW ad nm nv sz) s.heap H locs → lv_has ls 4 [(0, .ref (ad p0)), (1, .int (i32 x1)), (2, .int (i32 x2)), (3, .int (i32 x3))] → W p l e ({ frames := 3, cells := 0, slots := 0, locals := 63 } : Room) s m args below meth c H locs 0 0 Q (F0 m 4 ls []) := by
    intro k4
    induction k4 with
    | zero =>
      intro H locs ls x2 x3 hx2 hx3 hf
      have hf : (none : Option Int) = some r := hf
      cases hf
    | succ k4 ih4 =>
      intro H locs ls x2 x3 hx2 hx3 hf hW hS hl
      have hf : fX3_countSeenWith_L4s n σ p0 x1 (fX3_countSeenWith_L4 n σ p0 x1 k4) x2 x3 = some r := hf
      unfold fX3_countSeenWith_L4s at hf
      refine lv_iload_n hx hb dX3_countSeenWith_4 rfl (lv_at hl 3 rfl) ?_
      refine lv_aload_n hx hb dX3_countSeenWith_5 rfl (lv_at hl 0 rfl) ?_
      refine g_X3_rowSize X hW hp0 (X.2.2.2.2.1 _ mw97) dX3_countSeenWith_6 ?_
      refine m_icmp_ge (tgt := 46) hx hb hx3 (hW.2.1 _ _) hf dX3_countSeenWith_9 (by decide) (fun hf => ?_) (fun hf => ?_)
      · skip
        refine lv_iload_n hx hb dX3_countSeenWith_46 rfl (lv_at hl 2 rfl) ?_
        exact m_ireti X hr hlocks rfl hx2 (fun h => Bool.noConfusion h) hW hS (Option.some.inj hf) rfl hQ dX3_countSeenWith_47
      · skip
        refine lv_aload_n hx hb dX3_countSeenWith_12 rfl (lv_at hl 0 rfl) ?_
        refine lv_aload_n hx hb dX3_countSeenWith_13 rfl (lv_at hl 0 rfl) ?_
        refine lv_iload_n hx hb dX3_countSeenWith_14 rfl (lv_at hl 3 rfl) ?_
        refine m_callVi1 (z := false) (As := [.int (i32 x3)]) (rest := [.ref (ad p0)]) X hW hS hl.1 gc_X3_138 hd_X3_inRow ⟨rfl, rfl, Nat.le_of_ble_eq_true rfl, Nat.le_of_ble_eq_true rfl⟩ (rc_X3 X hW hp0) (fun v q => ok_X3_inRow hp0 hx3 q) hf rfl rfl (Nat.le_of_ble_eq_true rfl) dX3_countSeenWith_15 ⟨Nat.le_of_ble_eq_true rfl, Nat.le_of_ble_eq_true rfl⟩ (fun v1 H locs hv1 zv1 hWv1 hSv1 hf => ?_)
        refine m_callVi1 (z := true) (As := [.int (i32 v1)]) (rest := []) X hWv1 hSv1 hl.1 gc_X3_172 hd_X3_isSeen ⟨rfl, rfl, Nat.le_of_ble_eq_true rfl, Nat.le_of_ble_eq_true rfl⟩ (rc_X3 X hWv1 hp0) (fun v q => ok_X3_isSeen hp0 hv1 q) hf rfl rfl (Nat.le_of_ble_eq_true rfl) dX3_countSeenWith_18 ⟨Nat.le_of_ble_eq_true rfl, Nat.le_of_ble_eq_true rfl⟩ (fun v2 H locs hv2 zv2 hWv2 hSv2 hf => ?_)
        refine m_if_eq (tgt := 40) hx hb hv2 hf dX3_countSeenWith_21 (by decide) (fun hf => ?_) (fun hf => ?_)
        · skip
          refine m_iinc (k0 := 3) (fun v3 => [(3, .int (i32 v3)), (0, .ref (ad p0)), (1, .int (i32 x1)), (2, .int (i32 x2))]) hx hb hf dX3_countSeenWith_40 hl rfl (by decide) (fun _ => rfl) (fun v3 ls hv3 hf hl => ?_)
          have hl : lv_has ls 4 [(3, .int (i32 v3)), (0, .ref (ad p0)), (1, .int (i32 x1)), (2, .int (i32 x2))] := hl
          refine lv_goto (tgt := 4) hx hb dX3_countSeenWith_43 (by decide) ?_
          exact ih4 _ _ _ x2 v3 hx2 hv3 hf hWv2 hSv2 (lv_sub hl [1, 2, 3, 0] rfl)
        · skip
          refine lv_aload_n hx hb dX3_countSeenWith_24 rfl (lv_at hl 0 rfl) ?_
          refine lv_aload_n hx hb dX3_countSeenWith_25 rfl (lv_at hl 0 rfl) ?_
          refine lv_iload_n hx hb dX3_countSeenWith_26 rfl (lv_at hl 3 rfl) ?_
          refine m_callVi1 (z := false) (As := [.int (i32 x3)]) (rest := [.ref (ad p0)]) X hWv2 hSv2 hl.1 gc_X3_138 hd_X3_inRow ⟨rfl, rfl, Nat.le_of_ble_eq_true rfl, Nat.le_of_ble_eq_true rfl⟩ (rc_X3 X hWv2 hp0) (fun v q => ok_X3_inRow hp0 hx3 q) hf rfl rfl (Nat.le_of_ble_eq_true rfl) dX3_countSeenWith_27 ⟨Nat.le_of_ble_eq_true rfl, Nat.le_of_ble_eq_true rfl⟩ (fun v4 H locs hv4 zv4 hWv4 hSv4 hf => ?_)
          refine lv_iload_n hx hb dX3_countSeenWith_30 rfl (lv_at hl 1 rfl) ?_
          refine m_callVi1 (z := true) (As := [.int (i32 v4), .int (i32 x1)]) (rest := []) X hWv4 hSv4 hl.1 gc_X3_182 hd_X3_hasBit ⟨rfl, rfl, Nat.le_of_ble_eq_true rfl, Nat.le_of_ble_eq_true rfl⟩ (rc_X3 X hWv4 hp0) (fun v q => ok_X3_hasBit hp0 hv4 hx1 q) hf rfl rfl (Nat.le_of_ble_eq_true rfl) dX3_countSeenWith_31 ⟨Nat.le_of_ble_eq_true rfl, Nat.le_of_ble_eq_true rfl⟩ (fun v5 H locs hv5 zv5 hWv5 hSv5 hf => ?_)
          refine m_if_eq (tgt := 40) hx hb hv5 hf dX3_countSeenWith_34 (by decide) (fun hf => ?_) (fun hf => ?_)
          · skip
            refine m_iinc (k0 := 3) (fun v6 => [(3, .int (i32 v6)), (0, .ref (ad p0)), (1, .int (i32 x1)), (2, .int (i32 x2))]) hx hb hf dX3_countSeenWith_40 hl rfl (by decide) (fun _ => rfl) (fun v6 ls hv6 hf hl => ?_)
            have hl : lv_has ls 4 [(3, .int (i32 v6)), (0, .ref (ad p0)), (1, .int (i32 x1)), (2, .int (i32 x2))] := hl
            refine lv_goto (tgt := 4) hx hb dX3_countSeenWith_43 (by decide) ?_
            exact ih4 _ _ _ x2 v6 hx2 hv6 hf hWv5 hSv5 (lv_sub hl [1, 2, 3, 0] rfl)
          · skip
            refine m_iinc (k0 := 2) (fun v7 => [(2, .int (i32 v7)), (0, .ref (ad p0)), (1, .int (i32 x1)), (3, .int (i32 x3))]) hx hb hf dX3_countSeenWith_37 hl rfl (by decide) (fun _ => rfl) (fun v7 ls hv7 hf hl => ?_)
            have hl : lv_has ls 4 [(2, .int (i32 v7)), (0, .ref (ad p0)), (1, .int (i32 x1)), (3, .int (i32 x3))] := hl
            refine m_iinc (k0 := 3) (fun v8 => [(3, .int (i32 v8)), (2, .int (i32 v7)), (0, .ref (ad p0)), (1, .int (i32 x1))]) hx hb hf dX3_countSeenWith_40 hl rfl (by decide) (fun _ => rfl) (fun v8 ls hv8 hf hl => ?_)
            have hl : lv_has ls 4 [(3, .int (i32 v8)), (2, .int (i32 v7)), (0, .ref (ad p0)), (1, .int (i32 x1))] := hl
            refine lv_goto (tgt := 4) hx hb dX3_countSeenWith_43 (by decide) ?_
            exact ih4 _ _ _ v7 v8 hv7 hv8 hf hWv5 hSv5 (lv_sub hl [2, 3, 1, 0] rfl)
  refine m_const (v := 0) hx hb dX3_countSeenWith_0 rfl ?_
  refine lv_istore_n (lv' := [(2, .int (i32 0)), (0, .ref (ad p0)), (1, .int (i32 x1))]) hx hb dX3_countSeenWith_1 rfl hl (by decide) rfl (fun ls hl => ?_)
  refine m_const (v := 0) hx hb dX3_countSeenWith_2 rfl ?_
  refine lv_istore_n (lv' := [(3, .int (i32 0)), (2, .int (i32 0)), (0, .ref (ad p0)), (1, .int (i32 x1))]) hx hb dX3_countSeenWith_3 rfl hl (by decide) rfl (fun ls hl => ?_)
  exact hc4 n _ _ _ 0 0 (by decide) (by decide) hf hW hS (lv_sub hl [2, 3, 1, 0] rfl)
set_option maxRecDepth 100000 in
set_option maxHeartbeats 4000000 in
theorem ok_X3_countBlocks {l : Launch} {D : va_G} {cy : Nat → ClassId} {ad : Nat → Nat} {nm nv sz : Nat} {σ : St} {n : Nat} {p0 : Nat} {r : Int} (hp0 : isPaper p0) (hf : fX3_countBlocks n σ p0 = some r) : CI l yX3_countBlocks cX3_countBlocks 3 (some .int) ({ frames := 1, cells := 0, slots := 0, locals := 21 } : Room) [.ref (ad p0)] D cy ad nm nv sz σ false r σ := by
  refine m_entry RX3 rfl (by decide +kernel) (Nat.le_of_ble_eq_true rfl) ?_
  intro p e s m args below meth c Q hQ hr hlocks X hW hS ls hl
  have hx := X.1
  have hb := X.2.1
  have hl : lv_has ls 3 [(0, .ref (ad p0))] := hl
  unfold fX3_countBlocks at hf
  have hc4 : ∀ (k4 : Nat) (H : Heap) (locs : List Loc) (ls : Array Slot) (x1 : Int) (x2 : Int), inR x1 → inR x2 → fX3_countBlocks_L4 n σ p0 k4 x1 x2 = some r → Wd D cy ad nm nv σ H → va_S (AW ad nm nv sz) s.heap H locs → lv_has ls 3 [(0, .ref (ad p0)), (1, .int (i32 x1)), (2, .int (i32 x2))] → W p l e ({ frames := 1, cells := 0, slots := 0, locals := 21 } : Room) s m args below meth c H locs 0 0 Q (F0 m 4 ls []) := by
    intro k4
    induction k4 with
    | zero =>
      intro H locs ls x1 x2 hx1 hx2 hf
      have hf : (none : Option Int) = some r := hf
      cases hf
    | succ k4 ih4 =>
      intro H locs ls x1 x2 hx1 hx2 hf hW hS hl
      have hf : fX3_countBlocks_L4s n σ p0 (fX3_countBlocks_L4 n σ p0 k4) x1 x2 = some r := hf
      unfold fX3_countBlocks_L4s at hf
      refine lv_iload_n hx hb dX3_countBlocks_4 rfl (lv_at hl 2 rfl) ?_
      refine lv_aload_n hx hb dX3_countBlocks_5 rfl (lv_at hl 0 rfl) ?_
      refine g_X3_rowSize X hW hp0 (X.2.2.2.2.1 _ mw97) dX3_countBlocks_6 ?_
      refine m_icmp_ge (tgt := 33) hx hb hx2 (hW.2.1 _ _) hf dX3_countBlocks_9 (by decide) (fun hf => ?_) (fun hf => ?_)
      · skip
        refine lv_iload_n hx hb dX3_countBlocks_33 rfl (lv_at hl 1 rfl) ?_
        exact m_ireti X hr hlocks rfl hx1 (fun h => Bool.noConfusion h) hW hS (Option.some.inj hf) rfl hQ dX3_countBlocks_34
      · skip
        refine lv_aload_n hx hb dX3_countBlocks_12 rfl (lv_at hl 0 rfl) ?_
        refine lv_aload_n hx hb dX3_countBlocks_13 rfl (lv_at hl 0 rfl) ?_
        refine lv_iload_n hx hb dX3_countBlocks_14 rfl (lv_at hl 2 rfl) ?_
        refine m_callVi1 (z := false) (As := [.int (i32 x2)]) (rest := [.ref (ad p0)]) X hW hS hl.1 gc_X3_138 hd_X3_inRow ⟨rfl, rfl, Nat.le_of_ble_eq_true rfl, Nat.le_of_ble_eq_true rfl⟩ (rc_X3 X hW hp0) (fun v q => ok_X3_inRow hp0 hx2 q) hf rfl rfl (Nat.le_of_ble_eq_true rfl) dX3_countBlocks_15 ⟨Nat.le_of_ble_eq_true rfl, Nat.le_of_ble_eq_true rfl⟩ (fun v1 H locs hv1 zv1 hWv1 hSv1 hf => ?_)
        refine m_callVi1 (z := true) (As := [.int (i32 v1)]) (rest := []) X hWv1 hSv1 hl.1 gc_X3_153 hd_X3_isShownBreak ⟨rfl, rfl, Nat.le_of_ble_eq_true rfl, Nat.le_of_ble_eq_true rfl⟩ (rc_X3 X hWv1 hp0) (fun v q => ok_X3_isShownBreak hp0 hv1 q) hf rfl rfl (Nat.le_of_ble_eq_true rfl) dX3_countBlocks_18 ⟨Nat.le_of_ble_eq_true rfl, Nat.le_of_ble_eq_true rfl⟩ (fun v2 H locs hv2 zv2 hWv2 hSv2 hf => ?_)
        refine m_if_eq (tgt := 27) hx hb hv2 hf dX3_countBlocks_21 (by decide) (fun hf => ?_) (fun hf => ?_)
        · skip
          refine m_iinc (k0 := 2) (fun v3 => [(2, .int (i32 v3)), (0, .ref (ad p0)), (1, .int (i32 x1))]) hx hb hf dX3_countBlocks_27 hl rfl (by decide) (fun _ => rfl) (fun v3 ls hv3 hf hl => ?_)
          have hl : lv_has ls 3 [(2, .int (i32 v3)), (0, .ref (ad p0)), (1, .int (i32 x1))] := hl
          refine lv_goto (tgt := 4) hx hb dX3_countBlocks_30 (by decide) ?_
          exact ih4 _ _ _ x1 v3 hx1 hv3 hf hWv2 hSv2 (lv_sub hl [1, 2, 0] rfl)
        · skip
          refine m_iinc (k0 := 1) (fun v4 => [(1, .int (i32 v4)), (0, .ref (ad p0)), (2, .int (i32 x2))]) hx hb hf dX3_countBlocks_24 hl rfl (by decide) (fun _ => rfl) (fun v4 ls hv4 hf hl => ?_)
          have hl : lv_has ls 3 [(1, .int (i32 v4)), (0, .ref (ad p0)), (2, .int (i32 x2))] := hl
          refine m_iinc (k0 := 2) (fun v5 => [(2, .int (i32 v5)), (1, .int (i32 v4)), (0, .ref (ad p0))]) hx hb hf dX3_countBlocks_27 hl rfl (by decide) (fun _ => rfl) (fun v5 ls hv5 hf hl => ?_)
          have hl : lv_has ls 3 [(2, .int (i32 v5)), (1, .int (i32 v4)), (0, .ref (ad p0))] := hl
          refine lv_goto (tgt := 4) hx hb dX3_countBlocks_30 (by decide) ?_
          exact ih4 _ _ _ v4 v5 hv4 hv5 hf hWv2 hSv2 (lv_sub hl [2, 1, 0] rfl)
  refine m_const (v := 1) hx hb dX3_countBlocks_0 rfl ?_
  refine lv_istore_n (lv' := [(1, .int (i32 1)), (0, .ref (ad p0))]) hx hb dX3_countBlocks_1 rfl hl (by decide) rfl (fun ls hl => ?_)
  refine m_const (v := 0) hx hb dX3_countBlocks_2 rfl ?_
  refine lv_istore_n (lv' := [(2, .int (i32 0)), (1, .int (i32 1)), (0, .ref (ad p0))]) hx hb dX3_countBlocks_3 rfl hl (by decide) rfl (fun ls hl => ?_)
  exact hc4 n _ _ _ 1 0 (by decide) (by decide) hf hW hS (lv_sub hl [2, 1, 0] rfl)
set_option maxRecDepth 100000 in
set_option maxHeartbeats 4000000 in
theorem ok_X3_shownBlock {l : Launch} {D : va_G} {cy : Nat → ClassId} {ad : Nat → Nat} {nm nv sz : Nat} {σ : St} {n : Nat} {p0 : Nat} {x1 : Int} {r : Int} (hp0 : isPaper p0) (hx1 : inR x1) (hf : fX3_shownBlock n σ p0 x1 = some r) : CI l yX3_shownBlock cX3_shownBlock 4 (some .int) ({ frames := 1, cells := 0, slots := 0, locals := 21 } : Room) [.ref (ad p0), .int (i32 x1)] D cy ad nm nv sz σ false r σ := by
  refine m_entry RX3 rfl (by decide +kernel) (Nat.le_of_ble_eq_true rfl) ?_
  intro p e s m args below meth c Q hQ hr hlocks X hW hS ls hl
  have hx := X.1
  have hb := X.2.1
  have hl : lv_has ls 4 [(0, .ref (ad p0)), (1, .int (i32 x1))] := hl
  unfold fX3_shownBlock at hf
  have hc10 : ∀ (k10 : Nat) (H : Heap) (locs : List Loc) (ls : Array Slot) (x2 : Int) (x3 : Int), inR x2 → inR x3 → fX3_shownBlock_L10 n σ p0 x1 k10 x2 x3 = some r → Wd D cy ad nm nv σ H → va_S (AW ad nm nv sz) s.heap H locs → lv_has ls 4 [(0, .ref (ad p0)), (1, .int (i32 x1)), (2, .int (i32 x2)), (3, .int (i32 x3))] → W p l e ({ frames := 1, cells := 0, slots := 0, locals := 21 } : Room) s m args below meth c H locs 0 0 Q (F0 m 10 ls []) := by
    intro k10
    induction k10 with
    | zero =>
      intro H locs ls x2 x3 hx2 hx3 hf
      have hf : (none : Option Int) = some r := hf
      cases hf
    | succ k10 ih10 =>
      intro H locs ls x2 x3 hx2 hx3 hf hW hS hl
      have hf : fX3_shownBlock_L10s n σ p0 x1 (fX3_shownBlock_L10 n σ p0 x1 k10) x2 x3 = some r := hf
      unfold fX3_shownBlock_L10s at hf
      refine lv_iload_n hx hb dX3_shownBlock_10 rfl (lv_at hl 3 rfl) ?_
      refine lv_aload_n hx hb dX3_shownBlock_11 rfl (lv_at hl 0 rfl) ?_
      refine g_X3_rowSize X hW hp0 (X.2.2.2.2.1 _ mw97) dX3_shownBlock_12 ?_
      refine m_icmp_ge (tgt := 50) hx hb hx3 (hW.2.1 _ _) hf dX3_shownBlock_15 (by decide) (fun hf => ?_) (fun hf => ?_)
      · skip
        refine m_bipush (v := (-2)) hx hb dX3_shownBlock_50 (by decide) ?_
        exact m_ireti X hr hlocks rfl (by decide) (fun h => Bool.noConfusion h) hW hS (Option.some.inj hf) rfl hQ dX3_shownBlock_52
      · skip
        refine lv_aload_n hx hb dX3_shownBlock_18 rfl (lv_at hl 0 rfl) ?_
        refine lv_aload_n hx hb dX3_shownBlock_19 rfl (lv_at hl 0 rfl) ?_
        refine lv_iload_n hx hb dX3_shownBlock_20 rfl (lv_at hl 3 rfl) ?_
        refine m_callVi1 (z := false) (As := [.int (i32 x3)]) (rest := [.ref (ad p0)]) X hW hS hl.1 gc_X3_138 hd_X3_inRow ⟨rfl, rfl, Nat.le_of_ble_eq_true rfl, Nat.le_of_ble_eq_true rfl⟩ (rc_X3 X hW hp0) (fun v q => ok_X3_inRow hp0 hx3 q) hf rfl rfl (Nat.le_of_ble_eq_true rfl) dX3_shownBlock_21 ⟨Nat.le_of_ble_eq_true rfl, Nat.le_of_ble_eq_true rfl⟩ (fun v1 H locs hv1 zv1 hWv1 hSv1 hf => ?_)
        refine m_callVi1 (z := true) (As := [.int (i32 v1)]) (rest := []) X hWv1 hSv1 hl.1 gc_X3_153 hd_X3_isShownBreak ⟨rfl, rfl, Nat.le_of_ble_eq_true rfl, Nat.le_of_ble_eq_true rfl⟩ (rc_X3 X hWv1 hp0) (fun v q => ok_X3_isShownBreak hp0 hv1 q) hf rfl rfl (Nat.le_of_ble_eq_true rfl) dX3_shownBlock_24 ⟨Nat.le_of_ble_eq_true rfl, Nat.le_of_ble_eq_true rfl⟩ (fun v2 H locs hv2 zv2 hWv2 hSv2 hf => ?_)
        refine m_if_eq (tgt := 44) hx hb hv2 hf dX3_shownBlock_27 (by decide) (fun hf => ?_) (fun hf => ?_)
        · skip
          refine m_iinc (k0 := 3) (fun v3 => [(3, .int (i32 v3)), (0, .ref (ad p0)), (1, .int (i32 x1)), (2, .int (i32 x2))]) hx hb hf dX3_shownBlock_44 hl rfl (by decide) (fun _ => rfl) (fun v3 ls hv3 hf hl => ?_)
          have hl : lv_has ls 4 [(3, .int (i32 v3)), (0, .ref (ad p0)), (1, .int (i32 x1)), (2, .int (i32 x2))] := hl
          refine lv_goto (tgt := 10) hx hb dX3_shownBlock_47 (by decide) ?_
          exact ih10 _ _ _ x2 v3 hx2 hv3 hf hWv2 hSv2 (lv_sub hl [1, 2, 3, 0] rfl)
        · skip
          refine lv_iload_n hx hb dX3_shownBlock_30 rfl (lv_at hl 2 rfl) ?_
          refine lv_iload_n hx hb dX3_shownBlock_31 rfl (lv_at hl 1 rfl) ?_
          refine m_icmp_ne (tgt := 41) hx hb hx2 hx1 hf dX3_shownBlock_32 (by decide) (fun hf => ?_) (fun hf => ?_)
          · skip
            refine m_iinc (k0 := 2) (fun v4 => [(2, .int (i32 v4)), (0, .ref (ad p0)), (1, .int (i32 x1)), (3, .int (i32 x3))]) hx hb hf dX3_shownBlock_41 hl rfl (by decide) (fun _ => rfl) (fun v4 ls hv4 hf hl => ?_)
            have hl : lv_has ls 4 [(2, .int (i32 v4)), (0, .ref (ad p0)), (1, .int (i32 x1)), (3, .int (i32 x3))] := hl
            refine m_iinc (k0 := 3) (fun v5 => [(3, .int (i32 v5)), (2, .int (i32 v4)), (0, .ref (ad p0)), (1, .int (i32 x1))]) hx hb hf dX3_shownBlock_44 hl rfl (by decide) (fun _ => rfl) (fun v5 ls hv5 hf hl => ?_)
            have hl : lv_has ls 4 [(3, .int (i32 v5)), (2, .int (i32 v4)), (0, .ref (ad p0)), (1, .int (i32 x1))] := hl
            refine lv_goto (tgt := 10) hx hb dX3_shownBlock_47 (by decide) ?_
            exact ih10 _ _ _ v4 v5 hv4 hv5 hf hWv2 hSv2 (lv_sub hl [2, 3, 1, 0] rfl)
          · skip
            refine lv_aload_n hx hb dX3_shownBlock_35 rfl (lv_at hl 0 rfl) ?_
            refine lv_iload_n hx hb dX3_shownBlock_36 rfl (lv_at hl 3 rfl) ?_
            refine m_callVi1 (z := false) (As := [.int (i32 x3)]) (rest := []) X hWv2 hSv2 hl.1 gc_X3_138 hd_X3_inRow ⟨rfl, rfl, Nat.le_of_ble_eq_true rfl, Nat.le_of_ble_eq_true rfl⟩ (rc_X3 X hWv2 hp0) (fun v q => ok_X3_inRow hp0 hx3 q) hf rfl rfl (Nat.le_of_ble_eq_true rfl) dX3_shownBlock_37 ⟨Nat.le_of_ble_eq_true rfl, Nat.le_of_ble_eq_true rfl⟩ (fun v6 H locs hv6 zv6 hWv6 hSv6 hf => ?_)
            exact m_ireti X hr hlocks rfl hv6 (fun h => Bool.noConfusion h) hWv6 hSv6 (Option.some.inj hf) rfl hQ dX3_shownBlock_40
  refine lv_iload_n hx hb dX3_shownBlock_0 rfl (lv_at hl 1 rfl) ?_
  refine m_if_ne (tgt := 6) hx hb hx1 hf dX3_shownBlock_1 (by decide) (fun hf => ?_) (fun hf => ?_)
  · skip
    refine m_const (v := 1) hx hb dX3_shownBlock_6 rfl ?_
    refine lv_istore_n (lv' := [(2, .int (i32 1)), (0, .ref (ad p0)), (1, .int (i32 x1))]) hx hb dX3_shownBlock_7 rfl hl (by decide) rfl (fun ls hl => ?_)
    refine m_const (v := 0) hx hb dX3_shownBlock_8 rfl ?_
    refine lv_istore_n (lv' := [(3, .int (i32 0)), (2, .int (i32 1)), (0, .ref (ad p0)), (1, .int (i32 x1))]) hx hb dX3_shownBlock_9 rfl hl (by decide) rfl (fun ls hl => ?_)
    exact hc10 n _ _ _ 1 0 (by decide) (by decide) hf hW hS (lv_sub hl [2, 3, 1, 0] rfl)
  · skip
    refine m_const (v := (-1)) hx hb dX3_shownBlock_4 rfl ?_
    exact m_ireti X hr hlocks rfl (by decide) (fun h => Bool.noConfusion h) hW hS (Option.some.inj hf) rfl hQ dX3_shownBlock_5
set_option maxRecDepth 100000 in
set_option maxHeartbeats 4000000 in
theorem ok_X3_kindOf {l : Launch} {D : va_G} {cy : Nat → ClassId} {ad : Nat → Nat} {nm nv sz : Nat} {σ : St} {p0 : Nat} {x1 : Int} {r : Int} (hp0 : isPaper p0) (hx1 : inR x1) (hf : fX3_kindOf σ p0 x1 = some r) : CI l yX3_kindOf cX3_kindOf 2 (some .int) ({ frames := 1, cells := 0, slots := 0, locals := 20 } : Room) [.ref (ad p0), .int (i32 x1)] D cy ad nm nv sz σ false r σ := by
  refine m_entry RX3 rfl (by decide +kernel) (Nat.le_of_ble_eq_true rfl) ?_
  intro p e s m args below meth c Q hQ hr hlocks X hW hS ls hl
  have hx := X.1
  have hb := X.2.1
  have hl : lv_has ls 2 [(0, .ref (ad p0)), (1, .int (i32 x1))] := hl
  unfold fX3_kindOf at hf
  refine lv_iload_n hx hb dX3_kindOf_0 rfl (lv_at hl 1 rfl) ?_
  refine m_callSi1 (z := true) (As := [.int (i32 x1)]) (rest := []) X hW hS hl.1 gc_X3_156 hd_X3_isBlock ⟨rfl, rfl, Nat.le_of_ble_eq_true rfl, Nat.le_of_ble_eq_true rfl⟩ (fun v q => ok_X3_isBlock hx1 q) hf rfl rfl (Nat.le_of_ble_eq_true rfl) dX3_kindOf_1 ⟨Nat.le_of_ble_eq_true rfl, Nat.le_of_ble_eq_true rfl⟩ (fun v1 H locs hv1 zv1 hWv1 hSv1 hf => ?_)
  refine m_if_eq (tgt := 18) hx hb hv1 hf dX3_kindOf_4 (by decide) (fun hf => ?_) (fun hf => ?_)
  · skip
    refine m_const (v := 0) hx hb dX3_kindOf_18 rfl ?_
    exact m_ireti X hr hlocks rfl (by decide) (fun h => Bool.noConfusion h) hWv1 hSv1 (Option.some.inj hf) rfl hQ dX3_kindOf_19
  · skip
    refine lv_aload_n hx hb dX3_kindOf_7 rfl (lv_at hl 0 rfl) ?_
    refine g_X3_kinds X hWv1 hp0 (X.2.2.2.2.1 _ mw104) dX3_kindOf_8 ?_
    refine lv_iload_n hx hb dX3_kindOf_11 rfl (lv_at hl 1 rfl) ?_
    refine m_const (v := 1) hx hb dX3_kindOf_12 rfl ?_
    refine m_iadd hx hb hf dX3_kindOf_13 (fun v2 hv2 hf => ?_)
    refine m_iald X hWv1 (a_X3_kinds hp0) hv2 hf dX3_kindOf_14 (fun v3 hv3 hf => ?_)
    refine lv_goto (tgt := 19) hx hb dX3_kindOf_15 (by decide) ?_
    exact m_ireti X hr hlocks rfl hv3 (fun h => Bool.noConfusion h) hWv1 hSv1 (Option.some.inj hf) rfl hQ dX3_kindOf_19
set_option maxRecDepth 100000 in
set_option maxHeartbeats 4000000 in
theorem ok_X3_depthOf {l : Launch} {D : va_G} {cy : Nat → ClassId} {ad : Nat → Nat} {nm nv sz : Nat} {σ : St} {n : Nat} {p0 : Nat} {x1 : Int} {r : Int} (hp0 : isPaper p0) (hx1 : inR x1) (hf : fX3_depthOf n σ p0 x1 = some r) : CI l yX3_depthOf cX3_depthOf 5 (some .int) ({ frames := 1, cells := 0, slots := 0, locals := 21 } : Room) [.ref (ad p0), .int (i32 x1)] D cy ad nm nv sz σ false r σ := by
  refine m_entry RX3 rfl (by decide +kernel) (Nat.le_of_ble_eq_true rfl) ?_
  intro p e s m args below meth c Q hQ hr hlocks X hW hS ls hl
  have hx := X.1
  have hb := X.2.1
  have hl : lv_has ls 5 [(0, .ref (ad p0)), (1, .int (i32 x1))] := hl
  unfold fX3_depthOf at hf
  have hc26 : ∀ (k26 : Nat) (H : Heap) (locs : List Loc) (ls : Array Slot) (x2 : Int) (x3 : Int) (x4 : Int), inR x2 → inR x3 → inR x4 → fX3_depthOf_L26 n σ p0 x1 k26 x2 x3 x4 = some r → Wd D cy ad nm nv σ H → va_S (AW ad nm nv sz) s.heap H locs → lv_has ls 5 [(0, .ref (ad p0)), (2, .int (i32 x2)), (3, .int (i32 x3)), (4, .int (i32 x4))] → W p l e ({ frames := 1, cells := 0, slots := 0, locals := 21 } : Room) s m args below meth c H locs 0 0 Q (F0 m 26 ls []) := by
    intro k26
    induction k26 with
    | zero =>
      intro H locs ls x2 x3 x4 hx2 hx3 hx4 hf
      have hf : (none : Option Int) = some r := hf
      cases hf
    | succ k26 ih26 =>
      intro H locs ls x2 x3 x4 hx2 hx3 hx4 hf hW hS hl
      have hf : fX3_depthOf_L26s n σ p0 x1 (fX3_depthOf_L26 n σ p0 x1 k26) x2 x3 x4 = some r := hf
      unfold fX3_depthOf_L26s at hf
      have hc57 : ∀ (H : Heap) (locs : List Loc) (ls : Array Slot) (x2 : Int) (x3 : Int) (x4 : Int), inR x2 → inR x3 → inR x4 → fX3_depthOf_J57 n (fX3_depthOf_L26 n σ p0 x1 k26) σ p0 x1 x2 x3 x4 = some r → Wd D cy ad nm nv σ H → va_S (AW ad nm nv sz) s.heap H locs → lv_has ls 5 [(0, .ref (ad p0)), (2, .int (i32 x2)), (3, .int (i32 x3)), (4, .int (i32 x4))] → W p l e ({ frames := 1, cells := 0, slots := 0, locals := 21 } : Room) s m args below meth c H locs 0 0 Q (F0 m 57 ls []) := by
        intro H locs ls x2 x3 x4 hx2 hx3 hx4 hf hW hS hl
        unfold fX3_depthOf_J57 at hf
        refine lv_aload_n hx hb dX3_depthOf_57 rfl (lv_at hl 0 rfl) ?_
        refine g_X3_aboves X hW hp0 (X.2.2.2.2.1 _ mw105) dX3_depthOf_58 ?_
        refine lv_iload_n hx hb dX3_depthOf_61 rfl (lv_at hl 2 rfl) ?_
        refine m_const (v := 1) hx hb dX3_depthOf_62 rfl ?_
        refine m_iadd hx hb hf dX3_depthOf_63 (fun v7 hv7 hf => ?_)
        refine m_iald X hW (a_X3_aboves hp0) hv7 hf dX3_depthOf_64 (fun v8 hv8 hf => ?_)
        refine lv_istore_n (lv' := [(3, .int (i32 v8)), (0, .ref (ad p0)), (2, .int (i32 x2)), (4, .int (i32 x4))]) hx hb dX3_depthOf_65 rfl hl (by decide) rfl (fun ls hl => ?_)
        refine m_iinc (k0 := 3) (fun v9 => [(4, .int (i32 v9)), (3, .int (i32 v8)), (0, .ref (ad p0)), (2, .int (i32 x2))]) hx hb hf dX3_depthOf_66 hl rfl (by decide) (fun _ => rfl) (fun v9 ls hv9 hf hl => ?_)
        have hl : lv_has ls 5 [(4, .int (i32 v9)), (3, .int (i32 v8)), (0, .ref (ad p0)), (2, .int (i32 x2))] := hl
        refine lv_goto (tgt := 26) hx hb dX3_depthOf_69 (by decide) ?_
        exact ih26 _ _ _ x2 v8 v9 hx2 hv8 hv9 hf hW hS (lv_sub hl [2, 3, 1, 0] rfl)
      have hc54 : ∀ (H : Heap) (locs : List Loc) (ls : Array Slot) (x2 : Int) (x3 : Int) (x4 : Int), inR x2 → inR x3 → inR x4 → fX3_depthOf_J54 n (fX3_depthOf_L26 n σ p0 x1 k26) σ p0 x1 x2 x3 x4 = some r → Wd D cy ad nm nv σ H → va_S (AW ad nm nv sz) s.heap H locs → lv_has ls 5 [(0, .ref (ad p0)), (2, .int (i32 x2)), (3, .int (i32 x3)), (4, .int (i32 x4))] → W p l e ({ frames := 1, cells := 0, slots := 0, locals := 21 } : Room) s m args below meth c H locs 0 0 Q (F0 m 54 ls []) := by
        intro H locs ls x2 x3 x4 hx2 hx3 hx4 hf hW hS hl
        unfold fX3_depthOf_J54 at hf
        refine m_iinc (k0 := 1) (fun v6 => [(2, .int (i32 v6)), (0, .ref (ad p0)), (3, .int (i32 x3)), (4, .int (i32 x4))]) hx hb hf dX3_depthOf_54 hl rfl (by decide) (fun _ => rfl) (fun v6 ls hv6 hf hl => ?_)
        have hl : lv_has ls 5 [(2, .int (i32 v6)), (0, .ref (ad p0)), (3, .int (i32 x3)), (4, .int (i32 x4))] := hl
        exact hc57 _ _ _ v6 x3 x4 hv6 hx3 hx4 hf hW hS (lv_sub hl [1, 0, 2, 3] rfl)
      refine lv_iload hx hb dX3_depthOf_26 (lv_at hl 3 rfl) ?_
      refine m_sipush (v := 161) hx hb dX3_depthOf_28 (by decide) ?_
      refine m_icmp_ge (tgt := 72) hx hb hx4 (by decide) hf dX3_depthOf_31 (by decide) (fun hf => ?_) (fun hf => ?_)
      · skip
        refine lv_iload_n hx hb dX3_depthOf_72 rfl (lv_at hl 1 rfl) ?_
        exact m_ireti X hr hlocks rfl hx2 (fun h => Bool.noConfusion h) hW hS (Option.some.inj hf) rfl hQ dX3_depthOf_73
      · skip
        refine lv_iload_n hx hb dX3_depthOf_34 rfl (lv_at hl 2 rfl) ?_
        refine m_callSi1 (z := true) (As := [.int (i32 x3)]) (rest := []) X hW hS hl.1 gc_X3_156 hd_X3_isBlock ⟨rfl, rfl, Nat.le_of_ble_eq_true rfl, Nat.le_of_ble_eq_true rfl⟩ (fun v q => ok_X3_isBlock hx3 q) hf rfl rfl (Nat.le_of_ble_eq_true rfl) dX3_depthOf_35 ⟨Nat.le_of_ble_eq_true rfl, Nat.le_of_ble_eq_true rfl⟩ (fun v4 H locs hv4 zv4 hWv4 hSv4 hf => ?_)
        refine m_if_eq (tgt := 72) hx hb hv4 hf dX3_depthOf_38 (by decide) (fun hf => ?_) (fun hf => ?_)
        · skip
          refine lv_iload_n hx hb dX3_depthOf_72 rfl (lv_at hl 1 rfl) ?_
          exact m_ireti X hr hlocks rfl hx2 (fun h => Bool.noConfusion h) hWv4 hSv4 (Option.some.inj hf) rfl hQ dX3_depthOf_73
        · skip
          refine lv_iload_n hx hb dX3_depthOf_41 rfl (lv_at hl 2 rfl) ?_
          refine m_const (v := (-1)) hx hb dX3_depthOf_42 rfl ?_
          refine m_icmp_eq (tgt := 54) hx hb hx3 (by decide) hf dX3_depthOf_43 (by decide) (fun hf => ?_) (fun hf => ?_)
          · skip
            exact hc54 _ _ _ x2 x3 x4 hx2 hx3 hx4 hf hWv4 hSv4 (lv_sub hl [0, 1, 2, 3] rfl)
          · skip
            refine lv_aload_n hx hb dX3_depthOf_46 rfl (lv_at hl 0 rfl) ?_
            refine lv_iload_n hx hb dX3_depthOf_47 rfl (lv_at hl 2 rfl) ?_
            refine m_callVi1 (z := true) (As := [.int (i32 x3)]) (rest := []) X hWv4 hSv4 hl.1 gc_X3_153 hd_X3_isShownBreak ⟨rfl, rfl, Nat.le_of_ble_eq_true rfl, Nat.le_of_ble_eq_true rfl⟩ (rc_X3 X hWv4 hp0) (fun v q => ok_X3_isShownBreak hp0 hx3 q) hf rfl rfl (Nat.le_of_ble_eq_true rfl) dX3_depthOf_48 ⟨Nat.le_of_ble_eq_true rfl, Nat.le_of_ble_eq_true rfl⟩ (fun v5 H locs hv5 zv5 hWv5 hSv5 hf => ?_)
            refine m_if_eq (tgt := 57) hx hb hv5 hf dX3_depthOf_51 (by decide) (fun hf => ?_) (fun hf => ?_)
            · skip
              exact hc57 _ _ _ x2 x3 x4 hx2 hx3 hx4 hf hWv5 hSv5 (lv_sub hl [0, 1, 2, 3] rfl)
            · skip
              exact hc54 _ _ _ x2 x3 x4 hx2 hx3 hx4 hf hWv5 hSv5 (lv_sub hl [0, 1, 2, 3] rfl)
  refine m_const (v := 0) hx hb dX3_depthOf_0 rfl ?_
  refine lv_istore_n (lv' := [(2, .int (i32 0)), (0, .ref (ad p0)), (1, .int (i32 x1))]) hx hb dX3_depthOf_1 rfl hl (by decide) rfl (fun ls hl => ?_)
  refine lv_iload_n hx hb dX3_depthOf_2 rfl (lv_at hl 2 rfl) ?_
  refine m_callSi1 (z := true) (As := [.int (i32 x1)]) (rest := []) X hW hS hl.1 gc_X3_156 hd_X3_isBlock ⟨rfl, rfl, Nat.le_of_ble_eq_true rfl, Nat.le_of_ble_eq_true rfl⟩ (fun v q => ok_X3_isBlock hx1 q) hf rfl rfl (Nat.le_of_ble_eq_true rfl) dX3_depthOf_3 ⟨Nat.le_of_ble_eq_true rfl, Nat.le_of_ble_eq_true rfl⟩ (fun v1 H locs hv1 zv1 hWv1 hSv1 hf => ?_)
  refine m_if_eq (tgt := 20) hx hb hv1 hf dX3_depthOf_6 (by decide) (fun hf => ?_) (fun hf => ?_)
  · skip
    refine m_bipush (v := (-2)) hx hb dX3_depthOf_20 (by decide) ?_
    refine lv_istore_n (lv' := [(3, .int (i32 (-2))), (2, .int (i32 0)), (0, .ref (ad p0)), (1, .int (i32 x1))]) hx hb dX3_depthOf_22 rfl hl (by decide) rfl (fun ls hl => ?_)
    refine m_const (v := 0) hx hb dX3_depthOf_23 rfl ?_
    refine lv_istore (lv' := [(4, .int (i32 0)), (3, .int (i32 (-2))), (2, .int (i32 0)), (0, .ref (ad p0)), (1, .int (i32 x1))]) hx hb dX3_depthOf_24 hl (by decide) rfl (fun ls hl => ?_)
    exact hc26 n _ _ _ 0 (-2) 0 (by decide) (by decide) (by decide) hf hWv1 hSv1 (lv_sub hl [3, 2, 1, 0] rfl)
  · skip
    refine lv_aload_n hx hb dX3_depthOf_9 rfl (lv_at hl 1 rfl) ?_
    refine g_X3_aboves X hWv1 hp0 (X.2.2.2.2.1 _ mw105) dX3_depthOf_10 ?_
    refine lv_iload_n hx hb dX3_depthOf_13 rfl (lv_at hl 2 rfl) ?_
    refine m_const (v := 1) hx hb dX3_depthOf_14 rfl ?_
    refine m_iadd hx hb hf dX3_depthOf_15 (fun v2 hv2 hf => ?_)
    refine m_iald X hWv1 (a_X3_aboves hp0) hv2 hf dX3_depthOf_16 (fun v3 hv3 hf => ?_)
    refine lv_goto (tgt := 22) hx hb dX3_depthOf_17 (by decide) ?_
    refine lv_istore_n (lv' := [(3, .int (i32 v3)), (2, .int (i32 0)), (0, .ref (ad p0)), (1, .int (i32 x1))]) hx hb dX3_depthOf_22 rfl hl (by decide) rfl (fun ls hl => ?_)
    refine m_const (v := 0) hx hb dX3_depthOf_23 rfl ?_
    refine lv_istore (lv' := [(4, .int (i32 0)), (3, .int (i32 v3)), (2, .int (i32 0)), (0, .ref (ad p0)), (1, .int (i32 x1))]) hx hb dX3_depthOf_24 hl (by decide) rfl (fun ls hl => ?_)
    exact hc26 n _ _ _ 0 v3 0 (by decide) hv3 (by decide) hf hWv1 hSv1 (lv_sub hl [3, 2, 1, 0] rfl)
