theorem gc_X5_260 : GoodIn GW (wsV RX5 260 RX3 yX3_doAll (wsG yX3_doAll cX3_doAll 4 none)) := cg_V mw307 mw308 mw309 mw5 mw310
theorem gc_X5_365 : GoodIn GW (wsV RX5 365 RX1 yX1_enter (wsG yX1_enter cX1_enter 9 (some .int))) := cg_V mw478 mw479 mw480 mw2 mw481
theorem gc_X5_215 : GoodIn GW (wsV RX5 215 RX4 yX4_take (wsG yX4_take cX4_take 3 none)) := cg_V mw495 mw496 mw497 mw3 mw498
theorem gc_X5_369 : GoodIn GW (wsV RX5 369 RX3 yX3_perform (wsG yX3_perform cX3_perform 3 none)) := cg_V mw507 mw339 mw340 mw5 mw341
theorem gc_X5_307 : GoodIn GW (wsV RX5 307 RX3 yX3_levelIn (wsG yX3_levelIn cX3_levelIn 3 (some .int))) := cg_V mw452 mw371 mw372 mw5 mw373
theorem gc_X5_105 : GoodIn GW (wsV RX5 105 RX5 yX5_checkRoomFor (wsG yX5_checkRoomFor cX5_checkRoomFor 2 none)) := cg_V mw469 mw471 ms21 mw1 mw472
theorem gc_X5_117 : GoodIn GW (wsV RX5 117 RX5 yX5_make (wsG yX5_make cX5_make 9 (some .int))) := cg_V mw474 mw476 ms22 mw1 mw477
theorem gc_X5_61 : GoodIn GW (wsV RX5 61 RX5 yX5_siteAt (wsG yX5_siteAt cX5_siteAt 2 (some (.object "Marginnote$Site")))) := cg_V mw216 mw218 ms0 mw1 mw219
theorem gc_X5_72 : GoodIn GW (wsS RX5 72 yX5_paperOf (wsG yX5_paperOf cX5_paperOf 1 (some (.object "Marginnote$Paper")))) := cg_S mw304 mw305 mw1 mw306
theorem gc_X5_76 : GoodIn GW (wsV RX5 76 RX5 yX5_writeBehindCursor (wsG yX5_writeBehindCursor cX5_writeBehindCursor 7 (some .int))) := cg_V mw447 mw449 ms20 mw1 mw450
theorem gc_X5_84 : GoodIn GW (wsV RX5 84 RX3 yX3_seenThrough (wsG yX3_seenThrough cX3_seenThrough 4 (some .int))) := cg_V mw516 mw517 mw518 mw5 mw519
theorem gc_X5_109 : GoodIn GW (wsV RX5 109 RX3 yX3_pickSeen (wsG yX3_pickSeen cX3_pickSeen 7 (some .int))) := cg_V mw525 mw526 mw527 mw5 mw528
theorem gc_X5_334 : GoodIn GW (wsV RX5 334 RX3 yX3_seenAt (wsG yX3_seenAt cX3_seenAt 4 (some .int))) := cg_V mw539 mw540 mw541 mw5 mw542
theorem gc_X5_276 : GoodIn GW (wsS RX5 276 yX5_elementAt (wsG yX5_elementAt cX5_elementAt 3 (some .int))) := cg_S mw536 mw537 mw1 mw538
theorem gc_X5_121 : GoodIn GW (wsS RX5 121 yX5_standAt (wsG yX5_standAt cX5_standAt 2 (some .int))) := cg_S mw533 mw534 mw1 mw535
theorem gc_X5_125 : GoodIn GW (wsS RX5 125 yX5_checkMark (wsG yX5_checkMark cX5_checkMark 1 none)) := cg_S mw552 mw553 mw1 mw554
theorem gc_X5_128 : GoodIn GW (wsV RX5 128 RX5 yX5_writeOnSelection (wsG yX5_writeOnSelection cX5_writeOnSelection 10 (some .int))) := cg_V mw556 mw558 ms25 mw1 mw559
theorem gc_X5_339 : GoodIn GW (wsV RX5 339 RX3 yX3_shownBlock (wsG yX3_shownBlock cX3_shownBlock 4 (some .int))) := cg_V mw573 mw574 mw575 mw5 mw576
theorem gc_X5_137 : GoodIn GW (wsS RX5 137 yX5_blockAt (wsG yX5_blockAt cX5_blockAt 3 (some .int))) := cg_S mw570 mw571 mw1 mw572
theorem gc_X5_142 : GoodIn GW (wsV RX5 142 RX5 yX5_checkMayWriteIn (wsG yX5_checkMayWriteIn cX5_checkMayWriteIn 4 none)) := cg_V mw579 mw581 ms26 mw1 mw582
theorem gc_X5_208 : GoodIn GW (wsV RX5 208 RX0 yX0_contains (wsG yX0_contains cX0_contains 2 (some .boolean))) := cg_V mw599 mw332 mw333 mw4 mw334
theorem gc_X5_146 : GoodIn GW (wsS RX5 146 yX5_checkHeld (wsG yX5_checkHeld cX5_checkHeld 2 none)) := cg_S mw596 mw597 mw1 mw598
theorem gc_X5_153 : GoodIn GW (wsV RX5 153 RX3 yX3_mayDecide (wsG yX3_mayDecide cX3_mayDecide 3 (some .boolean))) := cg_V mw601 mw602 mw603 mw5 mw604
theorem gc_X5_324 : GoodIn GW (wsV RX5 324 RX1 yX1_siteOf (wsG yX1_siteOf cX1_siteOf 2 (some .int))) := cg_V mw624 mw359 mw360 mw2 mw361
theorem gc_X5_202 : GoodIn GW (wsV RX5 202 RX1 yX1_inOrder (wsG yX1_inOrder cX1_inOrder 2 (some .int))) := cg_V mw619 mw320 mw321 mw2 mw322
theorem gc_X5_372 : GoodIn GW (wsV RX5 372 RX5 yX5_madeAndHas (wsG yX5_madeAndHas cX5_madeAndHas 3 (some .boolean))) := cg_V mw620 mw622 ms28 mw1 mw623
theorem gc_X5_376 : GoodIn GW (wsV RX5 376 RX1 yX1_isUndoable (wsG yX1_isUndoable cX1_isUndoable 2 (some .boolean))) := cg_V mw625 mw626 mw627 mw2 mw628
theorem gc_X5_327 : GoodIn GW (wsV RX5 327 RX3 yX3_wasUndone (wsG yX3_wasUndone cX3_wasUndone 2 (some .boolean))) := cg_V mw629 mw343 mw344 mw5 mw345
theorem hd_X3_doAll : yX3_doAll.cls = RX3 ∧ yX3_doAll.cls ≠ "java/lang/invoke/MethodHandle" ∧ yX3_doAll.cls ≠ "java/lang/invoke/VarHandle" ∧ (parseMethodDescriptor yX3_doAll.desc).map (fun d => d.parameters.length) = some 1 := by decide +kernel
theorem hd_X1_enter : yX1_enter.cls = RX1 ∧ yX1_enter.cls ≠ "java/lang/invoke/MethodHandle" ∧ yX1_enter.cls ≠ "java/lang/invoke/VarHandle" ∧ (parseMethodDescriptor yX1_enter.desc).map (fun d => d.parameters.length) = some 7 := by decide +kernel
theorem hd_X4_take : yX4_take.cls = RX4 ∧ yX4_take.cls ≠ "java/lang/invoke/MethodHandle" ∧ yX4_take.cls ≠ "java/lang/invoke/VarHandle" ∧ (parseMethodDescriptor yX4_take.desc).map (fun d => d.parameters.length) = some 2 := by decide +kernel
theorem hd_X5_checkRoomFor : yX5_checkRoomFor.cls = RX5 ∧ yX5_checkRoomFor.cls ≠ "java/lang/invoke/MethodHandle" ∧ yX5_checkRoomFor.cls ≠ "java/lang/invoke/VarHandle" ∧ (parseMethodDescriptor yX5_checkRoomFor.desc).map (fun d => d.parameters.length) = some 1 := by decide +kernel
theorem hd_X5_make : yX5_make.cls = RX5 ∧ yX5_make.cls ≠ "java/lang/invoke/MethodHandle" ∧ yX5_make.cls ≠ "java/lang/invoke/VarHandle" ∧ (parseMethodDescriptor yX5_make.desc).map (fun d => d.parameters.length) = some 6 := by decide +kernel
theorem hd_X5_siteAt : yX5_siteAt.cls = RX5 ∧ yX5_siteAt.cls ≠ "java/lang/invoke/MethodHandle" ∧ yX5_siteAt.cls ≠ "java/lang/invoke/VarHandle" ∧ (parseMethodDescriptor yX5_siteAt.desc).map (fun d => d.parameters.length) = some 1 := by decide +kernel
theorem hd_X5_paperOf : yX5_paperOf.cls = RX5 ∧ yX5_paperOf.cls ≠ "java/lang/invoke/MethodHandle" ∧ yX5_paperOf.cls ≠ "java/lang/invoke/VarHandle" ∧ (parseMethodDescriptor yX5_paperOf.desc).map (fun d => d.parameters.length) = some 1 := by decide +kernel
theorem hd_X5_writeBehindCursor : yX5_writeBehindCursor.cls = RX5 ∧ yX5_writeBehindCursor.cls ≠ "java/lang/invoke/MethodHandle" ∧ yX5_writeBehindCursor.cls ≠ "java/lang/invoke/VarHandle" ∧ (parseMethodDescriptor yX5_writeBehindCursor.desc).map (fun d => d.parameters.length) = some 4 := by decide +kernel
theorem hd_X3_seenThrough : yX3_seenThrough.cls = RX3 ∧ yX3_seenThrough.cls ≠ "java/lang/invoke/MethodHandle" ∧ yX3_seenThrough.cls ≠ "java/lang/invoke/VarHandle" ∧ (parseMethodDescriptor yX3_seenThrough.desc).map (fun d => d.parameters.length) = some 1 := by decide +kernel
theorem hd_X3_pickSeen : yX3_pickSeen.cls = RX3 ∧ yX3_pickSeen.cls ≠ "java/lang/invoke/MethodHandle" ∧ yX3_pickSeen.cls ≠ "java/lang/invoke/VarHandle" ∧ (parseMethodDescriptor yX3_pickSeen.desc).map (fun d => d.parameters.length) = some 3 := by decide +kernel
theorem hd_X3_seenAt : yX3_seenAt.cls = RX3 ∧ yX3_seenAt.cls ≠ "java/lang/invoke/MethodHandle" ∧ yX3_seenAt.cls ≠ "java/lang/invoke/VarHandle" ∧ (parseMethodDescriptor yX3_seenAt.desc).map (fun d => d.parameters.length) = some 1 := by decide +kernel
theorem hd_X5_elementAt : yX5_elementAt.cls = RX5 ∧ yX5_elementAt.cls ≠ "java/lang/invoke/MethodHandle" ∧ yX5_elementAt.cls ≠ "java/lang/invoke/VarHandle" ∧ (parseMethodDescriptor yX5_elementAt.desc).map (fun d => d.parameters.length) = some 2 := by decide +kernel
theorem hd_X5_standAt : yX5_standAt.cls = RX5 ∧ yX5_standAt.cls ≠ "java/lang/invoke/MethodHandle" ∧ yX5_standAt.cls ≠ "java/lang/invoke/VarHandle" ∧ (parseMethodDescriptor yX5_standAt.desc).map (fun d => d.parameters.length) = some 2 := by decide +kernel
theorem hd_X5_checkMark : yX5_checkMark.cls = RX5 ∧ yX5_checkMark.cls ≠ "java/lang/invoke/MethodHandle" ∧ yX5_checkMark.cls ≠ "java/lang/invoke/VarHandle" ∧ (parseMethodDescriptor yX5_checkMark.desc).map (fun d => d.parameters.length) = some 1 := by decide +kernel
theorem hd_X5_writeOnSelection : yX5_writeOnSelection.cls = RX5 ∧ yX5_writeOnSelection.cls ≠ "java/lang/invoke/MethodHandle" ∧ yX5_writeOnSelection.cls ≠ "java/lang/invoke/VarHandle" ∧ (parseMethodDescriptor yX5_writeOnSelection.desc).map (fun d => d.parameters.length) = some 5 := by decide +kernel
theorem hd_X3_shownBlock : yX3_shownBlock.cls = RX3 ∧ yX3_shownBlock.cls ≠ "java/lang/invoke/MethodHandle" ∧ yX3_shownBlock.cls ≠ "java/lang/invoke/VarHandle" ∧ (parseMethodDescriptor yX3_shownBlock.desc).map (fun d => d.parameters.length) = some 1 := by decide +kernel
theorem hd_X5_blockAt : yX5_blockAt.cls = RX5 ∧ yX5_blockAt.cls ≠ "java/lang/invoke/MethodHandle" ∧ yX5_blockAt.cls ≠ "java/lang/invoke/VarHandle" ∧ (parseMethodDescriptor yX5_blockAt.desc).map (fun d => d.parameters.length) = some 2 := by decide +kernel
theorem hd_X5_checkMayWriteIn : yX5_checkMayWriteIn.cls = RX5 ∧ yX5_checkMayWriteIn.cls ≠ "java/lang/invoke/MethodHandle" ∧ yX5_checkMayWriteIn.cls ≠ "java/lang/invoke/VarHandle" ∧ (parseMethodDescriptor yX5_checkMayWriteIn.desc).map (fun d => d.parameters.length) = some 3 := by decide +kernel
theorem hd_X5_checkHeld : yX5_checkHeld.cls = RX5 ∧ yX5_checkHeld.cls ≠ "java/lang/invoke/MethodHandle" ∧ yX5_checkHeld.cls ≠ "java/lang/invoke/VarHandle" ∧ (parseMethodDescriptor yX5_checkHeld.desc).map (fun d => d.parameters.length) = some 2 := by decide +kernel
theorem hd_X3_mayDecide : yX3_mayDecide.cls = RX3 ∧ yX3_mayDecide.cls ≠ "java/lang/invoke/MethodHandle" ∧ yX3_mayDecide.cls ≠ "java/lang/invoke/VarHandle" ∧ (parseMethodDescriptor yX3_mayDecide.desc).map (fun d => d.parameters.length) = some 2 := by decide +kernel
theorem hd_X5_madeAndHas : yX5_madeAndHas.cls = RX5 ∧ yX5_madeAndHas.cls ≠ "java/lang/invoke/MethodHandle" ∧ yX5_madeAndHas.cls ≠ "java/lang/invoke/VarHandle" ∧ (parseMethodDescriptor yX5_madeAndHas.desc).map (fun d => d.parameters.length) = some 2 := by decide +kernel
theorem hd_X1_isUndoable : yX1_isUndoable.cls = RX1 ∧ yX1_isUndoable.cls ≠ "java/lang/invoke/MethodHandle" ∧ yX1_isUndoable.cls ≠ "java/lang/invoke/VarHandle" ∧ (parseMethodDescriptor yX1_isUndoable.desc).map (fun d => d.parameters.length) = some 1 := by decide +kernel
theorem hdn_X3_blockOf : yX3_blockOf.cls ≠ "java/lang/invoke/MethodHandle" ∧ yX3_blockOf.cls ≠ "java/lang/invoke/VarHandle" ∧ (parseMethodDescriptor yX3_blockOf.desc).map (fun d => d.parameters.length) = some 1 := by decide +kernel
noncomputable def fX5_siteAt_J22 (σ : St) (x1 : Int) : Option (Nat × Nat × St) := some (1, 0, σ)
noncomputable def fX5_siteAt (σ : St) (x1 : Int) : Option (Nat × Nat × St) := if x1 < 0 then (fX5_siteAt_J22 σ x1) else (if 4 ≤ x1 then (fX5_siteAt_J22 σ x1) else (ra x1 4 (fun j => 20 + 40 * j) (fun o1 => ra x1 4 (fun j => 20 + 40 * j) (fun o2 => some (0, o2, σ)))))
noncomputable def fX5_paperOf (n : Nat) (σ : St) (o0 : Nat) : Option (Nat × St) := if σ o0 5 ≠ 0 then (some ((o0 + 10), σ)) else (b1 (fX3_doAll n σ (o0 + 10) (o0 + 1)) (fun σ1 => pfb σ1 o0 5 1 (fun σ2 => some ((o0 + 10), σ2))))
noncomputable def fX5_checkRoomFor (σ : St) (x1 : Int) : Option (Nat × Int × St) := ck (160 - (σ 8 8)) (fun v1 => if x1 ≤ v1 then (some (0, 0, σ)) else (some (3, 0, σ)))
noncomputable def fX5_make_J51 (n : Nat) (σ : St) (o1 : Nat) (x2 : Int) (x3 : Int) (x4 : Int) (x5 : Int) (x6 : Int) (x8 : Int) : Option (Int × St) := pfb σ o1 5 0 (fun σ6 => some (x8, σ6))
noncomputable def fX5_make (n : Nat) (σ : St) (o1 : Nat) (x2 : Int) (x3 : Int) (x4 : Int) (x5 : Int) (x6 : Int) : Option (Int × St) := ck ((σ o1 7) + 1) (fun v1 => b2 (fX1_enter n σ (σ o1 0) v1 x2 x3 x4 x5 x6) (fun v3 σ2 => b1 (fX4_take σ2 o1 v3 v1) (fun σ4 => if x2 = 11 then (fX5_make_J51 n σ4 o1 x2 x3 x4 x5 x6 v3) else (if x2 ≠ 12 then (if σ4 o1 5 = 0 then (some (v3, σ4)) else (b1 (fX3_perform n σ4 (o1 + 10) v3) (fun σ5 => some (v3, σ5)))) else (fX5_make_J51 n σ4 o1 x2 x3 x4 x5 x6 v3)))))
noncomputable def fX5_writeBehindCursor (n : Nat) (σ : St) (o1 : Nat) (o2 : Nat) (x3 : Int) (x4 : Int) : Option (Nat × Int × St) := b1 (fX3_blockOf n σ o2 (σ o1 8)) (fun v1 => b1 (fX3_levelIn σ o2 (σ o1 0) v1) (fun v2 => if v2 ≠ 2 then (xw 0 (fX5_checkRoomFor σ 1) (fun _ σ3 => b2 (fX5_make n σ3 o1 x3 (σ3 o1 8) (-1) x4 (σ3 o1 6)) (fun v5 σ4 => pf σ4 o1 8 v5 (fun σ6 => pf σ6 o1 9 v5 (fun σ7 => some (0, v5, σ7)))))) else (some (3, 0, σ))))
noncomputable def fX5_type_J24 (n : Nat) (σ : St) (x1 : Int) (x2 : Int) : Option (Nat × Int × St) := some (2, 0, σ)
noncomputable def fX5_type_J34 (n : Nat) (σ : St) (x1 : Int) (x2 : Int) (o3 : Nat) : Option (Nat × Int × St) := b2 (fX5_paperOf n σ o3) (fun o4 σ3 => xw 0 (fX5_writeBehindCursor n σ3 o3 o4 0 x2) (fun v6 σ5 => some (0, v6, σ5)))
noncomputable def fX5_type (n : Nat) (σ : St) (x1 : Int) (x2 : Int) : Option (Nat × Int × St) := xw 0 (fX5_siteAt σ x1) (fun o2 σ1 => if x2 = 32 then (fX5_type_J34 n σ1 x1 x2 o2) else (if x2 < 97 then (fX5_type_J24 n σ1 x1 x2) else (if x2 ≤ 122 then (fX5_type_J34 n σ1 x1 x2 o2) else (fX5_type_J24 n σ1 x1 x2))))
noncomputable def fX5_split (n : Nat) (σ : St) (x1 : Int) : Option (Nat × Int × St) := xw 0 (fX5_siteAt σ x1) (fun o2 σ1 => b2 (fX5_paperOf n σ1 o2) (fun o4 σ3 => xw 0 (fX5_writeBehindCursor n σ3 o2 o4 1 47) (fun v6 σ5 => some (0, v6, σ5))))
noncomputable def fX5_erase_J146 (n : Nat) (σ : St) (x1 : Int) (o2 : Nat) (x4 : Int) (x5 : Int) (x8 : Int) : Option (Nat × Int × St) := if x4 ≤ x5 then (if x5 ≤ x4 then (some (0, x8, σ)) else (pf σ o2 9 (σ o2 8) (fun σ18 => some (0, x8, σ18)))) else (pf σ o2 8 (σ o2 9) (fun σ19 => some (0, x8, σ19)))
noncomputable def fX5_erase_L103s (n : Nat) (x1 : Int) (o2 : Nat) (x4 : Int) (x5 : Int) (x8 : Int) (lp103 : (St → Int → Option (Nat × Int × St))) : St → Int → Option (Nat × Int × St) := fun σ x9 => if x8 ≤ x9 then (fX5_erase_J146 n σ x1 o2 x4 x5 x8) else (if 160 ≤ x9 then (fX5_erase_J146 n σ x1 o2 x4 x5 x8) else (rd σ 4 160 x9 (fun v14 => b2 (fX5_make n σ o2 2 v14 (-1) 0 (σ o2 6)) (fun v16 σ15 => ck (x9 + 1) (fun v17 => lp103 σ15 v17)))))
noncomputable def fX5_erase_L103 (n : Nat) (x1 : Int) (o2 : Nat) (x4 : Int) (x5 : Int) (x8 : Int) (k : Nat) : St → Int → Option (Nat × Int × St) := lpR (fun _ _ => none) (fX5_erase_L103s n x1 o2 x4 x5 x8) k
noncomputable def fX5_erase_J62 (n : Nat) (σ : St) (x1 : Int) (o2 : Nat) (o3 : Nat) (x4 : Int) (x5 : Int) (x6 : Int) (x7 : Int) : Option (Nat × Int × St) := if 0 ≤ x6 then (ck (x7 - x6) (fun v10 => xw 0 (fX5_checkRoomFor σ v10) (fun _ σ11 => b2 (fX3_pickSeen n σ11 o3 x6 x7 4) (fun v13 σ12 => fX5_erase_L103 n x1 o2 x4 x5 v13 n σ12 0)))) else (some (3, 0, σ))
noncomputable def fX5_erase (n : Nat) (σ : St) (x1 : Int) : Option (Nat × Int × St) := xw 0 (fX5_siteAt σ x1) (fun o2 σ1 => b2 (fX5_paperOf n σ1 o2) (fun o4 σ3 => b1 (fX3_seenThrough n σ3 o4 (σ3 o2 8)) (fun v5 => b1 (fX3_seenThrough n σ3 o4 (σ3 o2 9)) (fun v6 => vl (imin v5 v6) (fun v7 => vl (imax v5 v6) (fun v8 => if v7 ≠ v8 then (fX5_erase_J62 n σ3 x1 o2 o4 v5 v6 v7 v8) else (ck (v5 - 1) (fun v9 => fX5_erase_J62 n σ3 x1 o2 o4 v5 v6 v9 v8))))))))
noncomputable def fX5_elementAt (n : Nat) (σ : St) (o0 : Nat) (x1 : Int) : Option (Nat × Int × St) := b1 (fX3_seenAt n σ o0 x1) (fun v1 => if v1 ≠ (-1) then (some (0, v1, σ)) else (some (1, 0, σ)))
noncomputable def fX5_standAt (n : Nat) (σ : St) (o0 : Nat) (x1 : Int) : Option (Nat × Int × St) := if x1 ≠ 0 then (vl (i32 (x1 - 1)).toInt (fun v1 => xw 0 (fX5_elementAt n σ o0 v1) (fun v3 σ2 => some (0, v3, σ2)))) else (some (0, (-1), σ))
noncomputable def fX5_moveTo (n : Nat) (σ : St) (x1 : Int) (x2 : Int) : Option (Nat × Int × St) := xw 0 (fX5_siteAt σ x1) (fun o2 σ1 => b2 (fX5_paperOf n σ1 o2) (fun o4 σ3 => xw 0 (fX5_standAt n σ3 o4 x2) (fun v6 σ5 => b1 (fX3_seenThrough n σ5 o4 (σ5 o2 8)) (fun v7 => pf σ5 o2 8 v6 (fun σ8 => pf σ8 o2 9 v6 (fun σ9 => some (0, v7, σ9)))))))
noncomputable def fX5_extend (n : Nat) (σ : St) (x1 : Int) (x2 : Int) : Option (Nat × Int × St) := xw 0 (fX5_siteAt σ x1) (fun o2 σ1 => b2 (fX5_paperOf n σ1 o2) (fun o4 σ3 => xw 0 (fX5_standAt n σ3 o4 x2) (fun v6 σ5 => pf σ5 o2 8 v6 (fun σ7 => b1 (fX3_seenThrough n σ7 o4 (σ7 o2 9)) (fun v8 => vl (imax x2 v8) (fun v9 => vl (imin x2 v8) (fun v10 => ck (v9 - v10) (fun v11 => some (0, v11, σ7)))))))))
noncomputable def fX5_checkMark (σ : St) (x0 : Int) : Option (Nat × Int × St) := if x0 = 0 then (some (0, 0, σ)) else (if x0 = 1 then (some (0, 0, σ)) else (some (2, 0, σ)))
noncomputable def fX5_writeOnSelection (n : Nat) (σ : St) (o1 : Nat) (o2 : Nat) (x3 : Int) (x4 : Int) (x5 : Int) : Option (Nat × Int × St) := b1 (fX3_seenThrough n σ o2 (σ o1 8)) (fun v1 => b1 (fX3_seenThrough n σ o2 (σ o1 9)) (fun v2 => if v1 ≠ v2 then (xw 0 (fX5_checkRoomFor σ 1) (fun _ σ3 => vl (imin v1 v2) (fun v4 => b1 (fX3_seenAt n σ3 o2 v4) (fun v5 => vl (imax v1 v2) (fun v6 => ck (v6 - 1) (fun v7 => b1 (fX3_seenAt n σ3 o2 v7) (fun v8 => b2 (fX5_make n σ3 o1 x3 v5 v8 x4 x5) (fun v10 σ9 => some (0, v10, σ9))))))))) else (some (3, 0, σ))))
noncomputable def fX5_mark (n : Nat) (σ : St) (x1 : Int) (x2 : Int) (x3 : Int) : Option (Nat × Int × St) := xw 0 (fX5_siteAt σ x1) (fun o2 σ1 => xw 0 (fX5_checkMark σ1 x2) (fun _ σ3 => b2 (fX5_paperOf n σ3 o2) (fun o5 σ4 => xw 0 (fX5_writeOnSelection n σ4 o2 o5 4 x2 x3) (fun v7 σ6 => some (0, v7, σ6)))))
noncomputable def fX5_comment (n : Nat) (σ : St) (x1 : Int) : Option (Nat × Int × St) := xw 0 (fX5_siteAt σ x1) (fun o2 σ1 => if σ1 8 9 < 20 then (b2 (fX5_paperOf n σ1 o2) (fun o4 σ3 => xw 0 (fX5_writeOnSelection n σ3 o2 o4 7 (σ3 8 9) 0) (fun v6 σ5 => some (0, v6, σ5)))) else (some (3, 0, σ1)))
noncomputable def fX5_blockAt (n : Nat) (σ : St) (o0 : Nat) (x1 : Int) : Option (Nat × Int × St) := b1 (fX3_shownBlock n σ o0 x1) (fun v1 => if v1 ≠ (-2) then (some (0, v1, σ)) else (some (1, 0, σ)))
noncomputable def fX5_checkMayWriteIn (σ : St) (o1 : Nat) (o2 : Nat) (x3 : Int) : Option (Nat × Int × St) := b1 (fX3_levelIn σ o1 (σ o2 0) x3) (fun v1 => if v1 = 0 then (xw 0 (fX5_checkRoomFor σ 1) (fun _ σ2 => some (0, 0, σ2))) else (some (3, 0, σ)))
noncomputable def fX5_setKind_J31 (n : Nat) (σ : St) (x1 : Int) (x2 : Int) (x3 : Int) : Option (Nat × Int × St) := some (2, 0, σ)
noncomputable def fX5_setKind (n : Nat) (σ : St) (x1 : Int) (x2 : Int) (x3 : Int) : Option (Nat × Int × St) := xw 0 (fX5_siteAt σ x1) (fun o2 σ1 => b2 (fX5_paperOf n σ1 o2) (fun o4 σ3 => xw 0 (fX5_blockAt n σ3 o4 x2) (fun v6 σ5 => if x3 < 0 then (fX5_setKind_J31 n σ5 x1 x2 x3) else (if x3 < 4 then (xw 0 (fX5_checkMayWriteIn σ5 o4 o2 v6) (fun _ σ7 => b2 (fX5_make n σ7 o2 5 v6 (-1) x3 0) (fun v9 σ8 => some (0, v9, σ8)))) else (fX5_setKind_J31 n σ5 x1 x2 x3)))))
noncomputable def fX5_nest_J38 (n : Nat) (σ : St) (x1 : Int) (x2 : Int) (x3 : Int) (o4 : Nat) (o5 : Nat) (x6 : Int) (t0 : Int) : Option (Nat × Int × St) := xw 0 (fX5_checkMayWriteIn σ o5 o4 x6) (fun _ σ9 => b2 (fX5_make n σ9 o4 6 x6 t0 0 0) (fun v11 σ10 => some (0, v11, σ10)))
noncomputable def fX5_nest (n : Nat) (σ : St) (x1 : Int) (x2 : Int) (x3 : Int) : Option (Nat × Int × St) := xw 0 (fX5_siteAt σ x1) (fun o2 σ1 => b2 (fX5_paperOf n σ1 o2) (fun o4 σ3 => xw 0 (fX5_blockAt n σ3 o4 x2) (fun v6 σ5 => if x3 ≠ (-1) then (xw 0 (fX5_blockAt n σ5 o4 x3) (fun v8 σ7 => fX5_nest_J38 n σ7 x1 x2 x3 o2 o4 v6 v8)) else (fX5_nest_J38 n σ5 x1 x2 x3 o2 o4 v6 (-2)))))
noncomputable def fX5_propose (σ : St) (x1 : Int) (x2 : Int) : Option (Nat × Int × St) := xw 0 (fX5_siteAt σ x1) (fun o2 σ1 => pfb σ1 o2 6 x2 (fun σ3 => rb (σ1 o2 6) ( some (0, σ1 o2 6, σ3))))
noncomputable def fX5_checkHeld (σ : St) (o0 : Nat) (x1 : Int) : Option (Nat × Int × St) := b1 (fX0_contains σ (o0 + 1) x1) (fun v1 => if v1 ≠ 0 then (some (0, 0, σ)) else (some (1, 0, σ)))
noncomputable def fX5_decide_J59 (n : Nat) (σ : St) (x1 : Int) (x2 : Int) (x3 : Int) (t0 : Int) (u1 : Nat) : Option (Nat × Int × St) := b2 (fX5_make n σ u1 t0 x2 (-1) 0 0) (fun v9 σ8 => some (0, v9, σ8))
noncomputable def fX5_decide (n : Nat) (σ : St) (x1 : Int) (x2 : Int) (x3 : Int) : Option (Nat × Int × St) := xw 0 (fX5_siteAt σ x1) (fun o2 σ1 => xw 0 (fX5_checkHeld σ1 o2 x2) (fun _ σ3 => b2 (fX5_paperOf n σ3 o2) (fun o5 σ4 => b1 (fX3_mayDecide n σ4 o5 (σ4 o2 0) x2) (fun v6 => if v6 ≠ 0 then (xw 0 (fX5_checkRoomFor σ4 1) (fun _ σ7 => if x3 = 0 then (fX5_decide_J59 n σ7 x1 x2 x3 9 o2) else (fX5_decide_J59 n σ7 x1 x2 x3 8 o2))) else (some (3, 0, σ4))))))
noncomputable def fX5_allow_J28 (n : Nat) (σ : St) (x1 : Int) (x2 : Int) (x3 : Int) : Option (Nat × Int × St) := some (1, 0, σ)
noncomputable def fX5_allow_J47 (n : Nat) (σ : St) (x1 : Int) (x2 : Int) (x3 : Int) : Option (Nat × Int × St) := some (2, 0, σ)
noncomputable def fX5_allow (n : Nat) (σ : St) (x1 : Int) (x2 : Int) (x3 : Int) : Option (Nat × Int × St) := xw 0 (fX5_siteAt σ 0) (fun o2 σ1 => b2 (fX5_paperOf n σ1 o2) (fun o4 σ3 => xw 0 (fX5_blockAt n σ3 o4 x1) (fun v6 σ5 => if x2 < 1 then (fX5_allow_J28 n σ5 x1 x2 x3) else (if x2 < 4 then (if x3 < 0 then (fX5_allow_J47 n σ5 x1 x2 x3) else (if x3 ≤ 2 then (xw 0 (fX5_checkRoomFor σ5 1) (fun _ σ7 => b2 (fX5_make n σ7 o2 10 v6 x2 x3 0) (fun v9 σ8 => some (0, v9, σ8)))) else (fX5_allow_J47 n σ5 x1 x2 x3))) else (fX5_allow_J28 n σ5 x1 x2 x3)))))
noncomputable def fX5_madeAndHas (σ : St) (o1 : Nat) (x2 : Int) : Option Int := b1 (fX1_siteOf σ x2) (fun v1 => if v1 ≠ σ o1 0 then (some 0) else (b1 (fX0_contains σ (o1 + 1) x2) (fun v2 => if v2 = 0 then (some 0) else (some 1))))
noncomputable def fX5_lastNotUndone_L10s (n : Nat) (σ : St) (o1 : Nat) (o2 : Nat) (lp10 : (Int → Option Int)) : Int → Option Int := fun x3 => if x3 < 0 then (some (-1)) else (b1 (fX1_inOrder σ x3) (fun v2 => b1 (fX5_madeAndHas σ o1 v2) (fun v3 => if v3 = 0 then (ck (x3 + (-1)) (fun v4 => lp10 v4)) else (b1 (fX1_isUndoable σ v2) (fun v5 => if v5 = 0 then (ck (x3 + (-1)) (fun v6 => lp10 v6)) else (b1 (fX3_wasUndone σ o2 v2) (fun v7 => if v7 ≠ 0 then (ck (x3 + (-1)) (fun v8 => lp10 v8)) else (some v2))))))))
noncomputable def fX5_lastNotUndone_L10 (n : Nat) (σ : St) (o1 : Nat) (o2 : Nat) (k : Nat) : Int → Option Int := lpR (fun _ => none) (fX5_lastNotUndone_L10s n σ o1 o2) k
noncomputable def fX5_lastNotUndone (n : Nat) (σ : St) (o1 : Nat) (o2 : Nat) : Option Int := ck ((σ 8 8) - 1) (fun v1 => fX5_lastNotUndone_L10 n σ o1 o2 n v1)
set_option maxRecDepth 100000 in
set_option maxHeartbeats 4000000 in
theorem ok0_X5_siteAt {l : Launch} {D : va_G} {cy : Nat → ClassId} {ad : Nat → Nat} {nm nv sz : Nat} {σ : St} {x1 : Int} {r : Nat} {σ2 : St} (hx1 : inR x1) (hf : fX5_siteAt σ x1 = some (0, r, σ2)) : CA l yX5_siteAt cX5_siteAt 2 (some (.object "Marginnote$Site")) ({ frames := 0, cells := 0, slots := 0, locals := 0 } : Room) [.ref (ad 0), .int (i32 x1)] D cy ad nm nv sz σ isSite r σ2 := by
  refine m_entry RX5 rfl (by decide +kernel) (Nat.le_of_ble_eq_true rfl) ?_
  intro p e s m args below meth c Q hQ hr hlocks X hW hS ls hl
  have hx := X.1
  have hb := X.2.1
  have hl : lv_has ls 2 [(0, .ref (ad 0)), (1, .int (i32 x1))] := hl
  unfold fX5_siteAt at hf
  have hc22 : ∀ (σ : St) (H : Heap) (locs : List Loc) (ls : Array Slot), fX5_siteAt_J22 σ x1 = some (0, r, σ2) → Wd D cy ad nm nv σ H → va_S (AW ad nm nv sz) s.heap H locs → lv_has ls 2 [] → W p l e ({ frames := 0, cells := 0, slots := 0, locals := 0 } : Room) s m args below meth c H locs 0 0 Q (F0 m 22 ls []) := by
    intro σ H locs ls hf hW hS hl
    unfold fX5_siteAt_J22 at hf
    exact absurd (congrArg (fun q => q.1) (Option.some.inj hf)) (by simp)
  refine lv_iload_n hx hb dX5_siteAt_0 rfl (lv_at hl 1 rfl) ?_
  refine m_if_lt (tgt := 22) hx hb hx1 hf dX5_siteAt_1 (by decide) (fun hf => ?_) (fun hf => ?_)
  · skip
    exact hc22 _ _ _ _  hf hW hS (lv_sub hl [] rfl)
  · skip
    refine lv_iload_n hx hb dX5_siteAt_4 rfl (lv_at hl 1 rfl) ?_
    refine lv_aload_n hx hb dX5_siteAt_5 rfl (lv_at hl 0 rfl) ?_
    refine g_X5_sites X hW (X.2.2.2.2.1 _ mw180) dX5_siteAt_6 ?_
    refine m_alen (v := 4) 3 X hW a_X5_sites ent_4 rfl rfl rfl dX5_siteAt_9 ?_
    refine m_icmp_ge (tgt := 22) hx hb hx1 (by decide) hf dX5_siteAt_10 (by decide) (fun hf => ?_) (fun hf => ?_)
    · skip
      exact hc22 _ _ _ _  hf hW hS (lv_sub hl [] rfl)
    · skip
      refine lv_aload_n hx hb dX5_siteAt_13 rfl (lv_at hl 0 rfl) ?_
      refine g_X5_sites X hW (X.2.2.2.2.1 _ mw180) dX5_siteAt_14 ?_
      refine lv_iload_n hx hb dX5_siteAt_17 rfl (lv_at hl 1 rfl) ?_
      refine m_aaldS X hW hx1 hf dX5_siteAt_18 (fun o1 ho1 hf => ?_)
      refine lv_ifnonnull (tgt := 32) hx hb dX5_siteAt_19 (by decide) ?_
      refine lv_aload_n hx hb dX5_siteAt_32 rfl (lv_at hl 0 rfl) ?_
      refine g_X5_sites X hW (X.2.2.2.2.1 _ mw180) dX5_siteAt_33 ?_
      refine lv_iload_n hx hb dX5_siteAt_36 rfl (lv_at hl 1 rfl) ?_
      refine m_aaldS X hW hx1 hf dX5_siteAt_37 (fun o2 ho2 hf => ?_)
      exact m_aret (K := isSite) (Or.inl ⟨_, rfl⟩) X hr hlocks hW hS ho2 (congrArg (fun q => q.2.1) (Option.some.inj hf)) (congrArg (fun q => q.2.2) (Option.some.inj hf)) hQ dX5_siteAt_38
set_option maxRecDepth 100000 in
set_option maxHeartbeats 4000000 in
theorem ok_X5_paperOf {l : Launch} {D : va_G} {cy : Nat → ClassId} {ad : Nat → Nat} {nm nv sz : Nat} {σ : St} {n : Nat} {o0 : Nat} {r : Nat} {σ2 : St} (ho0 : isSite o0) (hf : fX5_paperOf n σ o0 = some (r, σ2)) : CA l yX5_paperOf cX5_paperOf 1 (some (.object "Marginnote$Paper")) ({ frames := 5, cells := 0, slots := 0, locals := 143 } : Room) [.ref (ad o0)] D cy ad nm nv sz σ isPaper r σ2 := by
  refine m_entry RX5 rfl (by decide +kernel) (Nat.le_of_ble_eq_true rfl) ?_
  intro p e s m args below meth c Q hQ hr hlocks X hW hS ls hl
  have hx := X.1
  have hb := X.2.1
  have hl : lv_has ls 1 [(0, .ref (ad o0))] := hl
  unfold fX5_paperOf at hf
  refine lv_aload_n hx hb dX5_paperOf_0 rfl (lv_at hl 0 rfl) ?_
  refine gN_X4_fresh X hW ho0 (nf_X5_226 X.2.2.2.2.2.2.2.2) dX5_paperOf_1 ?_
  refine m_if_ne (tgt := 23) hx hb (hW.2.1 _ _) hf dX5_paperOf_4 (by decide) (fun hf => ?_) (fun hf => ?_)
  · skip
    refine lv_aload_n hx hb dX5_paperOf_23 rfl (lv_at hl 0 rfl) ?_
    refine gN_X4_paper X hW ho0 (nf_X5_352 X.2.2.2.2.2.2.2.2) dX5_paperOf_24 ?_
    exact m_aret (K := isPaper) (Or.inl ⟨_, rfl⟩) X hr hlocks hW hS (r_X4_paper ho0) (congrArg Prod.fst (Option.some.inj hf)) (congrArg Prod.snd (Option.some.inj hf)) hQ dX5_paperOf_27
  · skip
    refine lv_aload_n hx hb dX5_paperOf_7 rfl (lv_at hl 0 rfl) ?_
    refine gN_X4_paper X hW ho0 (nf_X5_352 X.2.2.2.2.2.2.2.2) dX5_paperOf_8 ?_
    refine lv_aload_n hx hb dX5_paperOf_11 rfl (lv_at hl 0 rfl) ?_
    refine gN_X4_held X hW ho0 (nf_X5_193 X.2.2.2.2.2.2.2.2) dX5_paperOf_12 ?_
    refine m_callVv (As := [.ref (ad (o0 + 1))]) (rest := []) X hW hS hl.1 gc_X5_260 hd_X3_doAll ⟨rfl, rfl, Nat.le_of_ble_eq_true rfl, Nat.le_of_ble_eq_true rfl⟩ (rc_X3 X hW (r_X4_paper ho0)) (fun v q => ok_X3_doAll (r_X4_paper ho0) (r_X4_held ho0) q) hf rfl rfl (Nat.le_of_ble_eq_true rfl) dX5_paperOf_15 ⟨Nat.le_of_ble_eq_true rfl, Nat.le_of_ble_eq_true rfl⟩ (fun σ1 H locs hW1 hS1 hf => ?_)
    refine lv_aload_n hx hb dX5_paperOf_18 rfl (lv_at hl 0 rfl) ?_
    refine m_const (v := 1) hx hb dX5_paperOf_19 rfl ?_
    refine pN_X4_fresh X hW1 hS1 ho0 (by decide) hf (nf_X5_226 X.2.2.2.2.2.2.2.2) dX5_paperOf_20 (fun σ2 H locs hW2 hS2 hf => ?_)
    refine lv_aload_n hx hb dX5_paperOf_23 rfl (lv_at hl 0 rfl) ?_
    refine gN_X4_paper X hW2 ho0 (nf_X5_352 X.2.2.2.2.2.2.2.2) dX5_paperOf_24 ?_
    exact m_aret (K := isPaper) (Or.inl ⟨_, rfl⟩) X hr hlocks hW2 hS2 (r_X4_paper ho0) (congrArg Prod.fst (Option.some.inj hf)) (congrArg Prod.snd (Option.some.inj hf)) hQ dX5_paperOf_27
set_option maxRecDepth 100000 in
set_option maxHeartbeats 4000000 in
theorem ok0_X5_checkRoomFor {l : Launch} {D : va_G} {cy : Nat → ClassId} {ad : Nat → Nat} {nm nv sz : Nat} {σ : St} {x1 : Int} {r : Int} {σ2 : St} (hx1 : inR x1) (hf : fX5_checkRoomFor σ x1 = some (0, r, σ2)) : CV l yX5_checkRoomFor cX5_checkRoomFor 2 none ({ frames := 0, cells := 0, slots := 0, locals := 0 } : Room) [.ref (ad 0), .int (i32 x1)] D cy ad nm nv sz σ σ2 := by
  refine m_entry RX5 rfl (by decide +kernel) (Nat.le_of_ble_eq_true rfl) ?_
  intro p e s m args below meth c Q hQ hr hlocks X hW hS ls hl
  have hx := X.1
  have hb := X.2.1
  have hl : lv_has ls 2 [(0, .ref (ad 0)), (1, .int (i32 x1))] := hl
  unfold fX5_checkRoomFor at hf
  refine lv_iload_n hx hb dX5_checkRoomFor_0 rfl (lv_at hl 1 rfl) ?_
  refine m_sipush (v := 160) hx hb dX5_checkRoomFor_1 (by decide) ?_
  refine lv_aload_n hx hb dX5_checkRoomFor_4 rfl (lv_at hl 0 rfl) ?_
  refine g_X5_book X hW (X.2.2.2.2.1 _ mw179) dX5_checkRoomFor_5 ?_
  refine gN_X1_made X hW (nf_X5_199 X.2.2.2.2.2.2.2.2) dX5_checkRoomFor_8 ?_
  refine m_isub hx hb hf dX5_checkRoomFor_11 (fun v1 hv1 hf => ?_)
  refine m_icmp_le (tgt := 26) hx hb hx1 hv1 hf dX5_checkRoomFor_12 (by decide) (fun hf => ?_) (fun hf => ?_)
  · skip
    exact m_vret X hr hlocks hW hS (congrArg (fun q => q.2.2) (Option.some.inj hf)) hQ dX5_checkRoomFor_26
  · skip
    exact absurd (congrArg (fun q => q.1) (Option.some.inj hf)) (by simp)
set_option maxRecDepth 100000 in
set_option maxHeartbeats 4000000 in
theorem ok_X5_make {l : Launch} {D : va_G} {cy : Nat → ClassId} {ad : Nat → Nat} {nm nv sz : Nat} {σ : St} {n : Nat} {o1 : Nat} {x2 : Int} {x3 : Int} {x4 : Int} {x5 : Int} {x6 : Int} {r : Int} {σ2 : St} (ho1 : isSite o1) (hx2 : inR x2) (hx3 : inR x3) (hx4 : inR x4) (hx5 : inR x5) (hx6 : inR x6) (hf : fX5_make n σ o1 x2 x3 x4 x5 x6 = some (r, σ2)) : CI l yX5_make cX5_make 9 (some .int) ({ frames := 4, cells := 0, slots := 0, locals := 120 } : Room) [.ref (ad 0), .ref (ad o1), .int (i32 x2), .int (i32 x3), .int (i32 x4), .int (i32 x5), .int (i32 x6)] D cy ad nm nv sz σ false r σ2 := by
  refine m_entry RX5 rfl (by decide +kernel) (Nat.le_of_ble_eq_true rfl) ?_
  intro p e s m args below meth c Q hQ hr hlocks X hW hS ls hl
  have hx := X.1
  have hb := X.2.1
  have hl : lv_has ls 9 [(0, .ref (ad 0)), (1, .ref (ad o1)), (2, .int (i32 x2)), (3, .int (i32 x3)), (4, .int (i32 x4)), (5, .int (i32 x5)), (6, .int (i32 x6))] := hl
  unfold fX5_make at hf
  have hc51 : ∀ (σ : St) (H : Heap) (locs : List Loc) (ls : Array Slot) (x8 : Int), inR x8 → fX5_make_J51 n σ o1 x2 x3 x4 x5 x6 x8 = some (r, σ2) → Wd D cy ad nm nv σ H → va_S (AW ad nm nv sz) s.heap H locs → lv_has ls 9 [(1, .ref (ad o1)), (8, .int (i32 x8))] → W p l e ({ frames := 4, cells := 0, slots := 0, locals := 120 } : Room) s m args below meth c H locs 0 0 Q (F0 m 51 ls []) := by
    intro σ H locs ls x8 hx8 hf hW hS hl
    unfold fX5_make_J51 at hf
    refine lv_aload_n hx hb dX5_make_51 rfl (lv_at hl 0 rfl) ?_
    refine m_const (v := 0) hx hb dX5_make_52 rfl ?_
    refine pN_X4_fresh X hW hS ho1 (by decide) hf (nf_X5_226 X.2.2.2.2.2.2.2.2) dX5_make_53 (fun σ6 H locs hW6 hS6 hf => ?_)
    refine lv_goto (tgt := 75) hx hb dX5_make_56 (by decide) ?_
    refine lv_iload hx hb dX5_make_75 (lv_at hl 1 rfl) ?_
    exact m_ireti X hr hlocks rfl hx8 (fun h => Bool.noConfusion h) hW6 hS6 (congrArg Prod.fst (Option.some.inj hf)) (congrArg Prod.snd (Option.some.inj hf)) hQ dX5_make_77
  refine lv_aload_n hx hb dX5_make_0 rfl (lv_at hl 1 rfl) ?_
  refine gN_X4_clock X hW ho1 (nf_X5_362 X.2.2.2.2.2.2.2.2) dX5_make_1 ?_
  refine m_const (v := 1) hx hb dX5_make_4 rfl ?_
  refine m_iadd hx hb hf dX5_make_5 (fun v1 hv1 hf => ?_)
  refine lv_istore (lv' := [(7, .int (i32 v1)), (0, .ref (ad 0)), (1, .ref (ad o1)), (2, .int (i32 x2)), (3, .int (i32 x3)), (4, .int (i32 x4)), (5, .int (i32 x5)), (6, .int (i32 x6))]) hx hb dX5_make_6 hl (by decide) rfl (fun ls hl => ?_)
  refine lv_aload_n hx hb dX5_make_8 rfl (lv_at hl 1 rfl) ?_
  refine g_X5_book X hW (X.2.2.2.2.1 _ mw179) dX5_make_9 ?_
  refine lv_aload_n hx hb dX5_make_12 rfl (lv_at hl 2 rfl) ?_
  refine gN_X4_number X hW ho1 (nf_X5_150 X.2.2.2.2.2.2.2.2) dX5_make_13 ?_
  refine lv_iload hx hb dX5_make_16 (lv_at hl 0 rfl) ?_
  refine lv_iload_n hx hb dX5_make_18 rfl (lv_at hl 3 rfl) ?_
  refine lv_iload_n hx hb dX5_make_19 rfl (lv_at hl 4 rfl) ?_
  refine lv_iload hx hb dX5_make_20 (lv_at hl 5 rfl) ?_
  refine lv_iload hx hb dX5_make_22 (lv_at hl 6 rfl) ?_
  refine lv_iload hx hb dX5_make_24 (lv_at hl 7 rfl) ?_
  refine m_callVi (z := false) (As := [.int (i32 (σ o1 0)), .int (i32 v1), .int (i32 x2), .int (i32 x3), .int (i32 x4), .int (i32 x5), .int (i32 x6)]) (rest := []) X hW hS hl.1 gc_X5_365 hd_X1_enter ⟨rfl, rfl, Nat.le_of_ble_eq_true rfl, Nat.le_of_ble_eq_true rfl⟩ (rc_X1 X hW) (fun v q9 q => ok_X1_enter (hW.2.1 _ _) hv1 hx2 hx3 hx4 hx5 hx6 q) hf rfl rfl (Nat.le_of_ble_eq_true rfl) dX5_make_26 ⟨Nat.le_of_ble_eq_true rfl, Nat.le_of_ble_eq_true rfl⟩ (fun v3 σ2 H locs hv3 zv3 hW2 hS2 hf => ?_)
  refine lv_istore (lv' := [(8, .int (i32 v3)), (7, .int (i32 v1)), (0, .ref (ad 0)), (1, .ref (ad o1)), (2, .int (i32 x2)), (3, .int (i32 x3)), (4, .int (i32 x4)), (5, .int (i32 x5)), (6, .int (i32 x6))]) hx hb dX5_make_29 hl (by decide) rfl (fun ls hl => ?_)
  refine lv_aload_n hx hb dX5_make_31 rfl (lv_at hl 3 rfl) ?_
  refine lv_iload hx hb dX5_make_32 (lv_at hl 0 rfl) ?_
  refine lv_iload hx hb dX5_make_34 (lv_at hl 1 rfl) ?_
  refine m_callVv (As := [.int (i32 v3), .int (i32 v1)]) (rest := []) X hW2 hS2 hl.1 gc_X5_215 hd_X4_take ⟨rfl, rfl, Nat.le_of_ble_eq_true rfl, Nat.le_of_ble_eq_true rfl⟩ (rc_X4 X hW2 ho1) (fun v q => ok_X4_take ho1 hv3 hv1 q) hf rfl rfl (Nat.le_of_ble_eq_true rfl) dX5_make_36 ⟨Nat.le_of_ble_eq_true rfl, Nat.le_of_ble_eq_true rfl⟩ (fun σ4 H locs hW4 hS4 hf => ?_)
  refine lv_iload_n hx hb dX5_make_39 rfl (lv_at hl 4 rfl) ?_
  refine m_bipush (v := 11) hx hb dX5_make_40 (by decide) ?_
  refine m_icmp_eq (tgt := 51) hx hb hx2 (by decide) hf dX5_make_42 (by decide) (fun hf => ?_) (fun hf => ?_)
  · skip
    exact hc51 _ _ _ _ v3 hv3 hf hW4 hS4 (lv_sub hl [3, 0] rfl)
  · skip
    refine lv_iload_n hx hb dX5_make_45 rfl (lv_at hl 4 rfl) ?_
    refine m_bipush (v := 12) hx hb dX5_make_46 (by decide) ?_
    refine m_icmp_ne (tgt := 59) hx hb hx2 (by decide) hf dX5_make_48 (by decide) (fun hf => ?_) (fun hf => ?_)
    · skip
      refine lv_aload_n hx hb dX5_make_59 rfl (lv_at hl 3 rfl) ?_
      refine gN_X4_fresh X hW4 ho1 (nf_X5_226 X.2.2.2.2.2.2.2.2) dX5_make_60 ?_
      refine m_if_eq (tgt := 75) hx hb (hW4.2.1 _ _) hf dX5_make_63 (by decide) (fun hf => ?_) (fun hf => ?_)
      · skip
        refine lv_iload hx hb dX5_make_75 (lv_at hl 0 rfl) ?_
        exact m_ireti X hr hlocks rfl hv3 (fun h => Bool.noConfusion h) hW4 hS4 (congrArg Prod.fst (Option.some.inj hf)) (congrArg Prod.snd (Option.some.inj hf)) hQ dX5_make_77
      · skip
        refine lv_aload_n hx hb dX5_make_66 rfl (lv_at hl 3 rfl) ?_
        refine gN_X4_paper X hW4 ho1 (nf_X5_352 X.2.2.2.2.2.2.2.2) dX5_make_67 ?_
        refine lv_iload hx hb dX5_make_70 (lv_at hl 0 rfl) ?_
        refine m_callVv (As := [.int (i32 v3)]) (rest := []) X hW4 hS4 hl.1 gc_X5_369 hd_X3_perform ⟨rfl, rfl, Nat.le_of_ble_eq_true rfl, Nat.le_of_ble_eq_true rfl⟩ (rc_X3 X hW4 (r_X4_paper ho1)) (fun v q => ok_X3_perform (r_X4_paper ho1) hv3 q) hf rfl rfl (Nat.le_of_ble_eq_true rfl) dX5_make_72 ⟨Nat.le_of_ble_eq_true rfl, Nat.le_of_ble_eq_true rfl⟩ (fun σ5 H locs hW5 hS5 hf => ?_)
        refine lv_iload hx hb dX5_make_75 (lv_at hl 0 rfl) ?_
        exact m_ireti X hr hlocks rfl hv3 (fun h => Bool.noConfusion h) hW5 hS5 (congrArg Prod.fst (Option.some.inj hf)) (congrArg Prod.snd (Option.some.inj hf)) hQ dX5_make_77
    · skip
      exact hc51 _ _ _ _ v3 hv3 hf hW4 hS4 (lv_sub hl [3, 0] rfl)
set_option maxRecDepth 100000 in
set_option maxHeartbeats 4000000 in
theorem ok0_X5_writeBehindCursor {l : Launch} {D : va_G} {cy : Nat → ClassId} {ad : Nat → Nat} {nm nv sz : Nat} {σ : St} {n : Nat} {o1 : Nat} {o2 : Nat} {x3 : Int} {x4 : Int} {r : Int} {σ2 : St} (ho1 : isSite o1) (ho2 : isPaper o2) (hx3 : inR x3) (hx4 : inR x4) (hf : fX5_writeBehindCursor n σ o1 o2 x3 x4 = some (0, r, σ2)) : CI l yX5_writeBehindCursor cX5_writeBehindCursor 7 (some .int) ({ frames := 5, cells := 0, slots := 0, locals := 148 } : Room) [.ref (ad 0), .ref (ad o1), .ref (ad o2), .int (i32 x3), .int (i32 x4)] D cy ad nm nv sz σ false r σ2 := by
  refine m_entry RX5 rfl (by decide +kernel) (Nat.le_of_ble_eq_true rfl) ?_
  intro p e s m args below meth c Q hQ hr hlocks X hW hS ls hl
  have hx := X.1
  have hb := X.2.1
  have hl : lv_has ls 7 [(0, .ref (ad 0)), (1, .ref (ad o1)), (2, .ref (ad o2)), (3, .int (i32 x3)), (4, .int (i32 x4))] := hl
  unfold fX5_writeBehindCursor at hf
  refine lv_aload_n hx hb dX5_writeBehindCursor_0 rfl (lv_at hl 2 rfl) ?_
  refine lv_aload_n hx hb dX5_writeBehindCursor_1 rfl (lv_at hl 1 rfl) ?_
  refine gN_X4_cursor X hW ho1 (nf_X5_80 X.2.2.2.2.2.2.2.2) dX5_writeBehindCursor_2 ?_
  refine m_callVNi1 (z := false) (As := [.int (i32 (σ o1 8))]) (rest := []) X hW hS hl.1 (cg_G mw365) (nm_X5_355 X.2.2.2.2.2.2.2.2) (X.2.2.2.2.1 _ mw5) (X.2.2.2.2.1 _ mw364) (X.2.2.2.2.1 _ ms7) hdn_X3_blockOf ⟨rfl, rfl, Nat.le_of_ble_eq_true rfl, Nat.le_of_ble_eq_true rfl⟩ (rc_X3 X hW ho2) (fun v q => ok_X3_blockOf ho2 (hW.2.1 _ _) q) hf rfl rfl (Nat.le_of_ble_eq_true rfl) dX5_writeBehindCursor_5 ⟨Nat.le_of_ble_eq_true rfl, Nat.le_of_ble_eq_true rfl⟩ (fun v1 H locs hv1 zv1 hWv1 hSv1 hf => ?_)
  refine lv_istore (lv' := [(5, .int (i32 v1)), (0, .ref (ad 0)), (1, .ref (ad o1)), (2, .ref (ad o2)), (3, .int (i32 x3)), (4, .int (i32 x4))]) hx hb dX5_writeBehindCursor_8 hl (by decide) rfl (fun ls hl => ?_)
  refine lv_aload_n hx hb dX5_writeBehindCursor_10 rfl (lv_at hl 3 rfl) ?_
  refine lv_aload_n hx hb dX5_writeBehindCursor_11 rfl (lv_at hl 2 rfl) ?_
  refine gN_X4_number X hWv1 ho1 (nf_X5_150 X.2.2.2.2.2.2.2.2) dX5_writeBehindCursor_12 ?_
  refine lv_iload hx hb dX5_writeBehindCursor_15 (lv_at hl 0 rfl) ?_
  refine m_callVi1 (z := false) (As := [.int (i32 (σ o1 0)), .int (i32 v1)]) (rest := []) X hWv1 hSv1 hl.1 gc_X5_307 hd_X3_levelIn ⟨rfl, rfl, Nat.le_of_ble_eq_true rfl, Nat.le_of_ble_eq_true rfl⟩ (rc_X3 X hWv1 ho2) (fun v q => ok_X3_levelIn ho2 (hWv1.2.1 _ _) hv1 q) hf rfl rfl (Nat.le_of_ble_eq_true rfl) dX5_writeBehindCursor_17 ⟨Nat.le_of_ble_eq_true rfl, Nat.le_of_ble_eq_true rfl⟩ (fun v2 H locs hv2 zv2 hWv2 hSv2 hf => ?_)
  refine m_const (v := 2) hx hb dX5_writeBehindCursor_20 rfl ?_
  refine m_icmp_ne (tgt := 35) hx hb hv2 (by decide) hf dX5_writeBehindCursor_21 (by decide) (fun hf => ?_) (fun hf => ?_)
  · skip
    refine lv_aload_n hx hb dX5_writeBehindCursor_35 rfl (lv_at hl 1 rfl) ?_
    refine m_const (v := 1) hx hb dX5_writeBehindCursor_36 rfl ?_
    have hf := xw_b1 hf
    refine m_callVv (As := [.int (i32 1)]) (rest := []) X hWv2 hSv2 hl.1 gc_X5_105 hd_X5_checkRoomFor ⟨rfl, rfl, Nat.le_of_ble_eq_true rfl, Nat.le_of_ble_eq_true rfl⟩ (rc_X5 X hWv2) (fun q9 q => ok0_X5_checkRoomFor (by decide) (zv_of q).choose_spec) hf rfl rfl (Nat.le_of_ble_eq_true rfl) dX5_writeBehindCursor_37 ⟨Nat.le_of_ble_eq_true rfl, Nat.le_of_ble_eq_true rfl⟩ (fun σ3 H locs hW3 hS3 hf => ?_)
    refine lv_aload_n hx hb dX5_writeBehindCursor_40 rfl (lv_at hl 1 rfl) ?_
    refine lv_aload_n hx hb dX5_writeBehindCursor_41 rfl (lv_at hl 2 rfl) ?_
    refine lv_iload_n hx hb dX5_writeBehindCursor_42 rfl (lv_at hl 4 rfl) ?_
    refine lv_aload_n hx hb dX5_writeBehindCursor_43 rfl (lv_at hl 2 rfl) ?_
    refine gN_X4_cursor X hW3 ho1 (nf_X5_80 X.2.2.2.2.2.2.2.2) dX5_writeBehindCursor_44 ?_
    refine m_const (v := (-1)) hx hb dX5_writeBehindCursor_47 rfl ?_
    refine lv_iload hx hb dX5_writeBehindCursor_48 (lv_at hl 5 rfl) ?_
    refine lv_aload_n hx hb dX5_writeBehindCursor_50 rfl (lv_at hl 2 rfl) ?_
    refine gN_X4_proposing X hW3 ho1 (nf_X5_113 X.2.2.2.2.2.2.2.2) dX5_writeBehindCursor_51 ?_
    refine m_callVi (z := false) (As := [.ref (ad o1), .int (i32 x3), .int (i32 (σ3 o1 8)), .int (i32 (-1)), .int (i32 x4), .int (i32 (σ3 o1 6))]) (rest := []) X hW3 hS3 hl.1 gc_X5_117 hd_X5_make ⟨rfl, rfl, Nat.le_of_ble_eq_true rfl, Nat.le_of_ble_eq_true rfl⟩ (rc_X5 X hW3) (fun v q9 q => ok_X5_make ho1 hx3 (hW3.2.1 _ _) (by decide) hx4 (hW3.2.1 _ _) q) hf rfl rfl (Nat.le_of_ble_eq_true rfl) dX5_writeBehindCursor_54 ⟨Nat.le_of_ble_eq_true rfl, Nat.le_of_ble_eq_true rfl⟩ (fun v5 σ4 H locs hv5 zv5 hW4 hS4 hf => ?_)
    refine lv_istore (lv' := [(6, .int (i32 v5)), (5, .int (i32 v1)), (0, .ref (ad 0)), (1, .ref (ad o1)), (2, .ref (ad o2)), (3, .int (i32 x3)), (4, .int (i32 x4))]) hx hb dX5_writeBehindCursor_57 hl (by decide) rfl (fun ls hl => ?_)
    refine lv_aload_n hx hb dX5_writeBehindCursor_59 rfl (lv_at hl 3 rfl) ?_
    refine lv_iload hx hb dX5_writeBehindCursor_60 (lv_at hl 0 rfl) ?_
    refine pN_X4_cursor X hW4 hS4 ho1 hv5 hf (nf_X5_80 X.2.2.2.2.2.2.2.2) dX5_writeBehindCursor_62 (fun σ6 H locs hW6 hS6 hf => ?_)
    refine lv_aload_n hx hb dX5_writeBehindCursor_65 rfl (lv_at hl 3 rfl) ?_
    refine lv_iload hx hb dX5_writeBehindCursor_66 (lv_at hl 0 rfl) ?_
    refine pN_X4_tail X hW6 hS6 ho1 hv5 hf (nf_X5_88 X.2.2.2.2.2.2.2.2) dX5_writeBehindCursor_68 (fun σ7 H locs hW7 hS7 hf => ?_)
    refine lv_iload hx hb dX5_writeBehindCursor_71 (lv_at hl 0 rfl) ?_
    exact m_ireti X hr hlocks rfl hv5 (fun h => Bool.noConfusion h) hW7 hS7 (congrArg (fun q => q.2.1) (Option.some.inj hf)) (congrArg (fun q => q.2.2) (Option.some.inj hf)) hQ dX5_writeBehindCursor_73
  · skip
    exact absurd (congrArg (fun q => q.1) (Option.some.inj hf)) (by simp)
set_option maxRecDepth 100000 in
set_option maxHeartbeats 4000000 in
theorem ok0_X5_type {l : Launch} {D : va_G} {cy : Nat → ClassId} {ad : Nat → Nat} {nm nv sz : Nat} {σ : St} {n : Nat} {x1 : Int} {x2 : Int} {r : Int} {σ2 : St} (hx1 : inR x1) (hx2 : inR x2) (hf : fX5_type n σ x1 x2 = some (0, r, σ2)) : CI l yX5_type cX5_type 4 (some .int) ({ frames := 6, cells := 0, slots := 0, locals := 174 } : Room) [.ref (ad 0), .int (i32 x1), .int (i32 x2)] D cy ad nm nv sz σ false r σ2 := by
  refine m_entry RX5 rfl (by decide +kernel) (Nat.le_of_ble_eq_true rfl) ?_
  intro p e s m args below meth c Q hQ hr hlocks X hW hS ls hl
  have hx := X.1
  have hb := X.2.1
  have hl : lv_has ls 4 [(0, .ref (ad 0)), (1, .int (i32 x1)), (2, .int (i32 x2))] := hl
  unfold fX5_type at hf
  have hc24 : ∀ (σ : St) (H : Heap) (locs : List Loc) (ls : Array Slot), fX5_type_J24 n σ x1 x2 = some (0, r, σ2) → Wd D cy ad nm nv σ H → va_S (AW ad nm nv sz) s.heap H locs → lv_has ls 4 [] → W p l e ({ frames := 6, cells := 0, slots := 0, locals := 174 } : Room) s m args below meth c H locs 0 0 Q (F0 m 24 ls []) := by
    intro σ H locs ls hf hW hS hl
    unfold fX5_type_J24 at hf
    exact absurd (congrArg (fun q => q.1) (Option.some.inj hf)) (by simp)
  have hc34 : ∀ (σ : St) (H : Heap) (locs : List Loc) (ls : Array Slot) (o3 : Nat), isSite o3 → fX5_type_J34 n σ x1 x2 o3 = some (0, r, σ2) → Wd D cy ad nm nv σ H → va_S (AW ad nm nv sz) s.heap H locs → lv_has ls 4 [(0, .ref (ad 0)), (2, .int (i32 x2)), (3, .ref (ad o3))] → W p l e ({ frames := 6, cells := 0, slots := 0, locals := 174 } : Room) s m args below meth c H locs 0 0 Q (F0 m 34 ls []) := by
    intro σ H locs ls o3 ho3 hf hW hS hl
    unfold fX5_type_J34 at hf
    refine lv_aload_n hx hb dX5_type_34 rfl (lv_at hl 0 rfl) ?_
    refine lv_aload_n hx hb dX5_type_35 rfl (lv_at hl 2 rfl) ?_
    refine lv_aload_n hx hb dX5_type_36 rfl (lv_at hl 2 rfl) ?_
    refine m_callSr (K := isPaper) (As := [.ref (ad o3)]) (rest := [.ref (ad o3), .ref (ad 0)]) X hW hS hl.1 gc_X5_72 hd_X5_paperOf ⟨rfl, rfl, Nat.le_of_ble_eq_true rfl, Nat.le_of_ble_eq_true rfl⟩ (fun v q9 q => ok_X5_paperOf ho3 q) hf rfl rfl (Nat.le_of_ble_eq_true rfl) dX5_type_37 ⟨Nat.le_of_ble_eq_true rfl, Nat.le_of_ble_eq_true rfl⟩ (fun o4 σ3 H locs ho4 hW3 hS3 hf => ?_)
    refine m_const (v := 0) hx hb dX5_type_40 rfl ?_
    refine lv_iload_n hx hb dX5_type_41 rfl (lv_at hl 1 rfl) ?_
    have hf := xw_b2 hf
    refine m_callVi (z := false) (As := [.ref (ad o3), .ref (ad o4), .int (i32 0), .int (i32 x2)]) (rest := []) X hW3 hS3 hl.1 gc_X5_76 hd_X5_writeBehindCursor ⟨rfl, rfl, Nat.le_of_ble_eq_true rfl, Nat.le_of_ble_eq_true rfl⟩ (rc_X5 X hW3) (fun v q9 q => ok0_X5_writeBehindCursor ho3 ho4 (by decide) hx2 (zw_of q)) hf rfl rfl (Nat.le_of_ble_eq_true rfl) dX5_type_42 ⟨Nat.le_of_ble_eq_true rfl, Nat.le_of_ble_eq_true rfl⟩ (fun v6 σ5 H locs hv6 zv6 hW5 hS5 hf => ?_)
    exact m_ireti X hr hlocks rfl hv6 (fun h => Bool.noConfusion h) hW5 hS5 (congrArg (fun q => q.2.1) (Option.some.inj hf)) (congrArg (fun q => q.2.2) (Option.some.inj hf)) hQ dX5_type_45
  refine lv_aload_n hx hb dX5_type_0 rfl (lv_at hl 0 rfl) ?_
  refine lv_iload_n hx hb dX5_type_1 rfl (lv_at hl 1 rfl) ?_
  have hf := xw_b2 hf
  refine m_callVr (K := isSite) (As := [.int (i32 x1)]) (rest := []) X hW hS hl.1 gc_X5_61 hd_X5_siteAt ⟨rfl, rfl, Nat.le_of_ble_eq_true rfl, Nat.le_of_ble_eq_true rfl⟩ (rc_X5 X hW) (fun v q9 q => ok0_X5_siteAt hx1 (zw_of q)) hf rfl rfl (Nat.le_of_ble_eq_true rfl) dX5_type_2 ⟨Nat.le_of_ble_eq_true rfl, Nat.le_of_ble_eq_true rfl⟩ (fun o2 σ1 H locs ho2 hW1 hS1 hf => ?_)
  refine lv_astore_n (lv' := [(3, .ref (ad o2)), (0, .ref (ad 0)), (1, .int (i32 x1)), (2, .int (i32 x2))]) hx hb dX5_type_5 rfl hl (by decide) rfl (fun ls hl => ?_)
  refine lv_iload_n hx hb dX5_type_6 rfl (lv_at hl 3 rfl) ?_
  refine m_bipush (v := 32) hx hb dX5_type_7 (by decide) ?_
  refine m_icmp_eq (tgt := 34) hx hb hx2 (by decide) hf dX5_type_9 (by decide) (fun hf => ?_) (fun hf => ?_)
  · skip
    exact hc34 _ _ _ _ o2 ho2 hf hW1 hS1 (lv_sub hl [1, 3, 0] rfl)
  · skip
    refine lv_iload_n hx hb dX5_type_12 rfl (lv_at hl 3 rfl) ?_
    refine m_bipush (v := 97) hx hb dX5_type_13 (by decide) ?_
    refine m_icmp_lt (tgt := 24) hx hb hx2 (by decide) hf dX5_type_15 (by decide) (fun hf => ?_) (fun hf => ?_)
    · skip
      exact hc24 _ _ _ _  hf hW1 hS1 (lv_sub hl [] rfl)
    · skip
      refine lv_iload_n hx hb dX5_type_18 rfl (lv_at hl 3 rfl) ?_
      refine m_bipush (v := 122) hx hb dX5_type_19 (by decide) ?_
      refine m_icmp_le (tgt := 34) hx hb hx2 (by decide) hf dX5_type_21 (by decide) (fun hf => ?_) (fun hf => ?_)
      · skip
        exact hc34 _ _ _ _ o2 ho2 hf hW1 hS1 (lv_sub hl [1, 3, 0] rfl)
      · skip
        exact hc24 _ _ _ _  hf hW1 hS1 (lv_sub hl [] rfl)
set_option maxRecDepth 100000 in
set_option maxHeartbeats 4000000 in
theorem ok0_X5_split {l : Launch} {D : va_G} {cy : Nat → ClassId} {ad : Nat → Nat} {nm nv sz : Nat} {σ : St} {n : Nat} {x1 : Int} {r : Int} {σ2 : St} (hx1 : inR x1) (hf : fX5_split n σ x1 = some (0, r, σ2)) : CI l yX5_split cX5_split 3 (some .int) ({ frames := 6, cells := 0, slots := 0, locals := 174 } : Room) [.ref (ad 0), .int (i32 x1)] D cy ad nm nv sz σ false r σ2 := by
  refine m_entry RX5 rfl (by decide +kernel) (Nat.le_of_ble_eq_true rfl) ?_
  intro p e s m args below meth c Q hQ hr hlocks X hW hS ls hl
  have hx := X.1
  have hb := X.2.1
  have hl : lv_has ls 3 [(0, .ref (ad 0)), (1, .int (i32 x1))] := hl
  unfold fX5_split at hf
  refine lv_aload_n hx hb dX5_split_0 rfl (lv_at hl 0 rfl) ?_
  refine lv_iload_n hx hb dX5_split_1 rfl (lv_at hl 1 rfl) ?_
  have hf := xw_b2 hf
  refine m_callVr (K := isSite) (As := [.int (i32 x1)]) (rest := []) X hW hS hl.1 gc_X5_61 hd_X5_siteAt ⟨rfl, rfl, Nat.le_of_ble_eq_true rfl, Nat.le_of_ble_eq_true rfl⟩ (rc_X5 X hW) (fun v q9 q => ok0_X5_siteAt hx1 (zw_of q)) hf rfl rfl (Nat.le_of_ble_eq_true rfl) dX5_split_2 ⟨Nat.le_of_ble_eq_true rfl, Nat.le_of_ble_eq_true rfl⟩ (fun o2 σ1 H locs ho2 hW1 hS1 hf => ?_)
  refine lv_astore_n (lv' := [(2, .ref (ad o2)), (0, .ref (ad 0)), (1, .int (i32 x1))]) hx hb dX5_split_5 rfl hl (by decide) rfl (fun ls hl => ?_)
  refine lv_aload_n hx hb dX5_split_6 rfl (lv_at hl 1 rfl) ?_
  refine lv_aload_n hx hb dX5_split_7 rfl (lv_at hl 0 rfl) ?_
  refine lv_aload_n hx hb dX5_split_8 rfl (lv_at hl 0 rfl) ?_
  refine m_callSr (K := isPaper) (As := [.ref (ad o2)]) (rest := [.ref (ad o2), .ref (ad 0)]) X hW1 hS1 hl.1 gc_X5_72 hd_X5_paperOf ⟨rfl, rfl, Nat.le_of_ble_eq_true rfl, Nat.le_of_ble_eq_true rfl⟩ (fun v q9 q => ok_X5_paperOf ho2 q) hf rfl rfl (Nat.le_of_ble_eq_true rfl) dX5_split_9 ⟨Nat.le_of_ble_eq_true rfl, Nat.le_of_ble_eq_true rfl⟩ (fun o4 σ3 H locs ho4 hW3 hS3 hf => ?_)
  refine m_const (v := 1) hx hb dX5_split_12 rfl ?_
  refine m_bipush (v := 47) hx hb dX5_split_13 (by decide) ?_
  have hf := xw_b2 hf
  refine m_callVi (z := false) (As := [.ref (ad o2), .ref (ad o4), .int (i32 1), .int (i32 47)]) (rest := []) X hW3 hS3 hl.1 gc_X5_76 hd_X5_writeBehindCursor ⟨rfl, rfl, Nat.le_of_ble_eq_true rfl, Nat.le_of_ble_eq_true rfl⟩ (rc_X5 X hW3) (fun v q9 q => ok0_X5_writeBehindCursor ho2 ho4 (by decide) (by decide) (zw_of q)) hf rfl rfl (Nat.le_of_ble_eq_true rfl) dX5_split_15 ⟨Nat.le_of_ble_eq_true rfl, Nat.le_of_ble_eq_true rfl⟩ (fun v6 σ5 H locs hv6 zv6 hW5 hS5 hf => ?_)
  exact m_ireti X hr hlocks rfl hv6 (fun h => Bool.noConfusion h) hW5 hS5 (congrArg (fun q => q.2.1) (Option.some.inj hf)) (congrArg (fun q => q.2.2) (Option.some.inj hf)) hQ dX5_split_18
set_option maxRecDepth 100000 in
set_option maxHeartbeats 4000000 in
theorem ok0_X5_erase {l : Launch} {D : va_G} {cy : Nat → ClassId} {ad : Nat → Nat} {nm nv sz : Nat} {σ : St} {n : Nat} {x1 : Int} {r : Int} {σ2 : St} (hx1 : inR x1) (hf : fX5_erase n σ x1 = some (0, r, σ2)) : CI l yX5_erase cX5_erase 10 (some .int) ({ frames := 6, cells := 0, slots := 0, locals := 163 } : Room) [.ref (ad 0), .int (i32 x1)] D cy ad nm nv sz σ false r σ2 := by
  refine m_entry RX5 rfl (by decide +kernel) (Nat.le_of_ble_eq_true rfl) ?_
  intro p e s m args below meth c Q hQ hr hlocks X hW hS ls hl
  have hx := X.1
  have hb := X.2.1
  have hl : lv_has ls 10 [(0, .ref (ad 0)), (1, .int (i32 x1))] := hl
  unfold fX5_erase at hf
  have hc146 : ∀ (σ : St) (H : Heap) (locs : List Loc) (ls : Array Slot) (o2 : Nat) (x4 : Int) (x5 : Int) (x8 : Int), isSite o2 → inR x4 → inR x5 → inR x8 → fX5_erase_J146 n σ x1 o2 x4 x5 x8 = some (0, r, σ2) → Wd D cy ad nm nv σ H → va_S (AW ad nm nv sz) s.heap H locs → lv_has ls 10 [(2, .ref (ad o2)), (4, .int (i32 x4)), (5, .int (i32 x5)), (8, .int (i32 x8))] → W p l e ({ frames := 6, cells := 0, slots := 0, locals := 163 } : Room) s m args below meth c H locs 0 0 Q (F0 m 146 ls []) := by
    intro σ H locs ls o2 x4 x5 x8 ho2 hx4 hx5 hx8 hf hW hS hl
    unfold fX5_erase_J146 at hf
    refine lv_iload hx hb dX5_erase_146 (lv_at hl 1 rfl) ?_
    refine lv_iload hx hb dX5_erase_148 (lv_at hl 2 rfl) ?_
    refine m_icmp_le (tgt := 164) hx hb hx4 hx5 hf dX5_erase_150 (by decide) (fun hf => ?_) (fun hf => ?_)
    · skip
      refine lv_iload hx hb dX5_erase_164 (lv_at hl 2 rfl) ?_
      refine lv_iload hx hb dX5_erase_166 (lv_at hl 1 rfl) ?_
      refine m_icmp_le (tgt := 179) hx hb hx5 hx4 hf dX5_erase_168 (by decide) (fun hf => ?_) (fun hf => ?_)
      · skip
        refine lv_iload hx hb dX5_erase_179 (lv_at hl 3 rfl) ?_
        exact m_ireti X hr hlocks rfl hx8 (fun h => Bool.noConfusion h) hW hS (congrArg (fun q => q.2.1) (Option.some.inj hf)) (congrArg (fun q => q.2.2) (Option.some.inj hf)) hQ dX5_erase_181
      · skip
        refine lv_aload_n hx hb dX5_erase_171 rfl (lv_at hl 0 rfl) ?_
        refine lv_aload_n hx hb dX5_erase_172 rfl (lv_at hl 0 rfl) ?_
        refine gN_X4_cursor X hW ho2 (nf_X5_80 X.2.2.2.2.2.2.2.2) dX5_erase_173 ?_
        refine pN_X4_tail X hW hS ho2 (hW.2.1 _ _) hf (nf_X5_88 X.2.2.2.2.2.2.2.2) dX5_erase_176 (fun σ18 H locs hW18 hS18 hf => ?_)
        refine lv_iload hx hb dX5_erase_179 (lv_at hl 3 rfl) ?_
        exact m_ireti X hr hlocks rfl hx8 (fun h => Bool.noConfusion h) hW18 hS18 (congrArg (fun q => q.2.1) (Option.some.inj hf)) (congrArg (fun q => q.2.2) (Option.some.inj hf)) hQ dX5_erase_181
    · skip
      refine lv_aload_n hx hb dX5_erase_153 rfl (lv_at hl 0 rfl) ?_
      refine lv_aload_n hx hb dX5_erase_154 rfl (lv_at hl 0 rfl) ?_
      refine gN_X4_tail X hW ho2 (nf_X5_88 X.2.2.2.2.2.2.2.2) dX5_erase_155 ?_
      refine pN_X4_cursor X hW hS ho2 (hW.2.1 _ _) hf (nf_X5_80 X.2.2.2.2.2.2.2.2) dX5_erase_158 (fun σ19 H locs hW19 hS19 hf => ?_)
      refine lv_goto (tgt := 179) hx hb dX5_erase_161 (by decide) ?_
      refine lv_iload hx hb dX5_erase_179 (lv_at hl 3 rfl) ?_
      exact m_ireti X hr hlocks rfl hx8 (fun h => Bool.noConfusion h) hW19 hS19 (congrArg (fun q => q.2.1) (Option.some.inj hf)) (congrArg (fun q => q.2.2) (Option.some.inj hf)) hQ dX5_erase_181
  have hc103 : ∀ (k103 : Nat) (σ : St) (H : Heap) (locs : List Loc) (ls : Array Slot) (o2 : Nat) (x4 : Int) (x5 : Int) (x8 : Int) (x9 : Int), isSite o2 → inR x4 → inR x5 → inR x8 → inR x9 → fX5_erase_L103 n x1 o2 x4 x5 x8 k103 σ x9 = some (0, r, σ2) → Wd D cy ad nm nv σ H → va_S (AW ad nm nv sz) s.heap H locs → lv_has ls 10 [(0, .ref (ad 0)), (2, .ref (ad o2)), (4, .int (i32 x4)), (5, .int (i32 x5)), (8, .int (i32 x8)), (9, .int (i32 x9))] → W p l e ({ frames := 6, cells := 0, slots := 0, locals := 163 } : Room) s m args below meth c H locs 0 0 Q (F0 m 103 ls []) := by
    intro k103
    induction k103 with
    | zero =>
      intro σ H locs ls o2 x4 x5 x8 x9 ho2 hx4 hx5 hx8 hx9 hf
      have hf : (none : Option (Nat × Int × St)) = some (0, r, σ2) := hf
      cases hf
    | succ k103 ih103 =>
      intro σ H locs ls o2 x4 x5 x8 x9 ho2 hx4 hx5 hx8 hx9 hf hW hS hl
      have hf : fX5_erase_L103s n x1 o2 x4 x5 x8 (fX5_erase_L103 n x1 o2 x4 x5 x8 k103) σ x9 = some (0, r, σ2) := hf
      unfold fX5_erase_L103s at hf
      refine lv_iload hx hb dX5_erase_103 (lv_at hl 5 rfl) ?_
      refine lv_iload hx hb dX5_erase_105 (lv_at hl 4 rfl) ?_
      refine m_icmp_ge (tgt := 146) hx hb hx9 hx8 hf dX5_erase_107 (by decide) (fun hf => ?_) (fun hf => ?_)
      · skip
        exact hc146 _ _ _ _ o2 x4 x5 x8 ho2 hx4 hx5 hx8 hf hW hS (lv_sub hl [1, 2, 3, 4] rfl)
      · skip
        refine lv_iload hx hb dX5_erase_110 (lv_at hl 5 rfl) ?_
        refine lv_aload_n hx hb dX5_erase_112 rfl (lv_at hl 0 rfl) ?_
        refine g_X5_picked X hW (X.2.2.2.2.1 _ mw186) dX5_erase_113 ?_
        refine m_alen (v := 160) 0 X hW a_X5_picked ent_1 rfl rfl rfl dX5_erase_116 ?_
        refine m_icmp_ge (tgt := 146) hx hb hx9 (by decide) hf dX5_erase_117 (by decide) (fun hf => ?_) (fun hf => ?_)
        · skip
          exact hc146 _ _ _ _ o2 x4 x5 x8 ho2 hx4 hx5 hx8 hf hW hS (lv_sub hl [1, 2, 3, 4] rfl)
        · skip
          refine lv_aload_n hx hb dX5_erase_120 rfl (lv_at hl 0 rfl) ?_
          refine lv_aload_n hx hb dX5_erase_121 rfl (lv_at hl 1 rfl) ?_
          refine m_const (v := 2) hx hb dX5_erase_122 rfl ?_
          refine lv_aload_n hx hb dX5_erase_123 rfl (lv_at hl 0 rfl) ?_
          refine g_X5_picked X hW (X.2.2.2.2.1 _ mw186) dX5_erase_124 ?_
          refine lv_iload hx hb dX5_erase_127 (lv_at hl 5 rfl) ?_
          refine m_iald X hW a_X5_picked hx9 hf dX5_erase_129 (fun v14 hv14 hf => ?_)
          refine m_const (v := (-1)) hx hb dX5_erase_130 rfl ?_
          refine m_const (v := 0) hx hb dX5_erase_131 rfl ?_
          refine lv_aload_n hx hb dX5_erase_132 rfl (lv_at hl 1 rfl) ?_
          refine gN_X4_proposing X hW ho2 (nf_X5_113 X.2.2.2.2.2.2.2.2) dX5_erase_133 ?_
          refine m_callVi (z := false) (As := [.ref (ad o2), .int (i32 2), .int (i32 v14), .int (i32 (-1)), .int (i32 0), .int (i32 (σ o2 6))]) (rest := []) X hW hS hl.1 gc_X5_117 hd_X5_make ⟨rfl, rfl, Nat.le_of_ble_eq_true rfl, Nat.le_of_ble_eq_true rfl⟩ (rc_X5 X hW) (fun v q9 q => ok_X5_make ho2 (by decide) hv14 (by decide) (by decide) (hW.2.1 _ _) q) hf rfl rfl (Nat.le_of_ble_eq_true rfl) dX5_erase_136 ⟨Nat.le_of_ble_eq_true rfl, Nat.le_of_ble_eq_true rfl⟩ (fun v16 σ15 H locs hv16 zv16 hW15 hS15 hf => ?_)
          refine lv_pop hx hb dX5_erase_139 rfl ?_
          refine m_iinc (k0 := 5) (fun v17 => [(9, .int (i32 v17)), (0, .ref (ad 0)), (2, .ref (ad o2)), (4, .int (i32 x4)), (5, .int (i32 x5)), (8, .int (i32 x8))]) hx hb hf dX5_erase_140 hl rfl (by decide) (fun _ => rfl) (fun v17 ls hv17 hf hl => ?_)
          have hl : lv_has ls 10 [(9, .int (i32 v17)), (0, .ref (ad 0)), (2, .ref (ad o2)), (4, .int (i32 x4)), (5, .int (i32 x5)), (8, .int (i32 x8))] := hl
          refine lv_goto (tgt := 103) hx hb dX5_erase_143 (by decide) ?_
          exact ih103 _ _ _ _ o2 x4 x5 x8 v17 ho2 hx4 hx5 hx8 hv17 hf hW15 hS15 (lv_sub hl [1, 2, 3, 4, 5, 0] rfl)
  have hc62 : ∀ (σ : St) (H : Heap) (locs : List Loc) (ls : Array Slot) (o2 : Nat) (o3 : Nat) (x4 : Int) (x5 : Int) (x6 : Int) (x7 : Int), isSite o2 → isPaper o3 → inR x4 → inR x5 → inR x6 → inR x7 → fX5_erase_J62 n σ x1 o2 o3 x4 x5 x6 x7 = some (0, r, σ2) → Wd D cy ad nm nv σ H → va_S (AW ad nm nv sz) s.heap H locs → lv_has ls 10 [(0, .ref (ad 0)), (2, .ref (ad o2)), (3, .ref (ad o3)), (4, .int (i32 x4)), (5, .int (i32 x5)), (6, .int (i32 x6)), (7, .int (i32 x7))] → W p l e ({ frames := 6, cells := 0, slots := 0, locals := 163 } : Room) s m args below meth c H locs 0 0 Q (F0 m 62 ls []) := by
    intro σ H locs ls o2 o3 x4 x5 x6 x7 ho2 ho3 hx4 hx5 hx6 hx7 hf hW hS hl
    unfold fX5_erase_J62 at hf
    refine lv_iload hx hb dX5_erase_62 (lv_at hl 5 rfl) ?_
    refine m_if_ge (tgt := 77) hx hb hx6 hf dX5_erase_64 (by decide) (fun hf => ?_) (fun hf => ?_)
    · skip
      refine lv_aload_n hx hb dX5_erase_77 rfl (lv_at hl 0 rfl) ?_
      refine lv_iload hx hb dX5_erase_78 (lv_at hl 6 rfl) ?_
      refine lv_iload hx hb dX5_erase_80 (lv_at hl 5 rfl) ?_
      refine m_isub hx hb hf dX5_erase_82 (fun v10 hv10 hf => ?_)
      have hf := xw_b1 hf
      refine m_callVv (As := [.int (i32 v10)]) (rest := []) X hW hS hl.1 gc_X5_105 hd_X5_checkRoomFor ⟨rfl, rfl, Nat.le_of_ble_eq_true rfl, Nat.le_of_ble_eq_true rfl⟩ (rc_X5 X hW) (fun q9 q => ok0_X5_checkRoomFor hv10 (zv_of q).choose_spec) hf rfl rfl (Nat.le_of_ble_eq_true rfl) dX5_erase_83 ⟨Nat.le_of_ble_eq_true rfl, Nat.le_of_ble_eq_true rfl⟩ (fun σ11 H locs hW11 hS11 hf => ?_)
      refine lv_aload_n hx hb dX5_erase_86 rfl (lv_at hl 2 rfl) ?_
      refine lv_iload hx hb dX5_erase_87 (lv_at hl 5 rfl) ?_
      refine lv_iload hx hb dX5_erase_89 (lv_at hl 6 rfl) ?_
      refine lv_aload_n hx hb dX5_erase_91 rfl (lv_at hl 0 rfl) ?_
      refine g_X5_picked X hW11 (X.2.2.2.2.1 _ mw186) dX5_erase_92 ?_
      refine m_callVi (z := false) (As := [.int (i32 x6), .int (i32 x7), .ref (ad 4)]) (rest := []) X hW11 hS11 hl.1 gc_X5_109 hd_X3_pickSeen ⟨rfl, rfl, Nat.le_of_ble_eq_true rfl, Nat.le_of_ble_eq_true rfl⟩ (rc_X3 X hW11 ho3) (fun v q9 q => ok_X3_pickSeen ho3 hx6 hx7 (arrL a_X5_picked) q) hf rfl rfl (Nat.le_of_ble_eq_true rfl) dX5_erase_95 ⟨Nat.le_of_ble_eq_true rfl, Nat.le_of_ble_eq_true rfl⟩ (fun v13 σ12 H locs hv13 zv13 hW12 hS12 hf => ?_)
      refine lv_istore (lv' := [(8, .int (i32 v13)), (0, .ref (ad 0)), (2, .ref (ad o2)), (3, .ref (ad o3)), (4, .int (i32 x4)), (5, .int (i32 x5)), (6, .int (i32 x6)), (7, .int (i32 x7))]) hx hb dX5_erase_98 hl (by decide) rfl (fun ls hl => ?_)
      refine m_const (v := 0) hx hb dX5_erase_100 rfl ?_
      refine lv_istore (lv' := [(9, .int (i32 0)), (8, .int (i32 v13)), (0, .ref (ad 0)), (2, .ref (ad o2)), (3, .ref (ad o3)), (4, .int (i32 x4)), (5, .int (i32 x5)), (6, .int (i32 x6)), (7, .int (i32 x7))]) hx hb dX5_erase_101 hl (by decide) rfl (fun ls hl => ?_)
      exact hc103 n _ _ _ _ o2 x4 x5 v13 0 ho2 hx4 hx5 hv13 (by decide) hf hW12 hS12 (lv_sub hl [2, 3, 5, 6, 1, 0] rfl)
    · skip
      exact absurd (congrArg (fun q => q.1) (Option.some.inj hf)) (by simp)
  refine lv_aload_n hx hb dX5_erase_0 rfl (lv_at hl 0 rfl) ?_
  refine lv_iload_n hx hb dX5_erase_1 rfl (lv_at hl 1 rfl) ?_
  have hf := xw_b2 hf
  refine m_callVr (K := isSite) (As := [.int (i32 x1)]) (rest := []) X hW hS hl.1 gc_X5_61 hd_X5_siteAt ⟨rfl, rfl, Nat.le_of_ble_eq_true rfl, Nat.le_of_ble_eq_true rfl⟩ (rc_X5 X hW) (fun v q9 q => ok0_X5_siteAt hx1 (zw_of q)) hf rfl rfl (Nat.le_of_ble_eq_true rfl) dX5_erase_2 ⟨Nat.le_of_ble_eq_true rfl, Nat.le_of_ble_eq_true rfl⟩ (fun o2 σ1 H locs ho2 hW1 hS1 hf => ?_)
  refine lv_astore_n (lv' := [(2, .ref (ad o2)), (0, .ref (ad 0)), (1, .int (i32 x1))]) hx hb dX5_erase_5 rfl hl (by decide) rfl (fun ls hl => ?_)
  refine lv_aload_n hx hb dX5_erase_6 rfl (lv_at hl 0 rfl) ?_
  refine m_callSr (K := isPaper) (As := [.ref (ad o2)]) (rest := []) X hW1 hS1 hl.1 gc_X5_72 hd_X5_paperOf ⟨rfl, rfl, Nat.le_of_ble_eq_true rfl, Nat.le_of_ble_eq_true rfl⟩ (fun v q9 q => ok_X5_paperOf ho2 q) hf rfl rfl (Nat.le_of_ble_eq_true rfl) dX5_erase_7 ⟨Nat.le_of_ble_eq_true rfl, Nat.le_of_ble_eq_true rfl⟩ (fun o4 σ3 H locs ho4 hW3 hS3 hf => ?_)
  refine lv_astore_n (lv' := [(3, .ref (ad o4)), (2, .ref (ad o2)), (0, .ref (ad 0)), (1, .int (i32 x1))]) hx hb dX5_erase_10 rfl hl (by decide) rfl (fun ls hl => ?_)
  refine lv_aload_n hx hb dX5_erase_11 rfl (lv_at hl 0 rfl) ?_
  refine lv_aload_n hx hb dX5_erase_12 rfl (lv_at hl 1 rfl) ?_
  refine gN_X4_cursor X hW3 ho2 (nf_X5_80 X.2.2.2.2.2.2.2.2) dX5_erase_13 ?_
  refine m_callVi1 (z := false) (As := [.int (i32 (σ3 o2 8))]) (rest := []) X hW3 hS3 hl.1 gc_X5_84 hd_X3_seenThrough ⟨rfl, rfl, Nat.le_of_ble_eq_true rfl, Nat.le_of_ble_eq_true rfl⟩ (rc_X3 X hW3 ho4) (fun v q => ok_X3_seenThrough ho4 (hW3.2.1 _ _) q) hf rfl rfl (Nat.le_of_ble_eq_true rfl) dX5_erase_16 ⟨Nat.le_of_ble_eq_true rfl, Nat.le_of_ble_eq_true rfl⟩ (fun v5 H locs hv5 zv5 hWv5 hSv5 hf => ?_)
  refine lv_istore (lv' := [(4, .int (i32 v5)), (3, .ref (ad o4)), (2, .ref (ad o2)), (0, .ref (ad 0)), (1, .int (i32 x1))]) hx hb dX5_erase_19 hl (by decide) rfl (fun ls hl => ?_)
  refine lv_aload_n hx hb dX5_erase_21 rfl (lv_at hl 1 rfl) ?_
  refine lv_aload_n hx hb dX5_erase_22 rfl (lv_at hl 2 rfl) ?_
  refine gN_X4_tail X hWv5 ho2 (nf_X5_88 X.2.2.2.2.2.2.2.2) dX5_erase_23 ?_
  refine m_callVi1 (z := false) (As := [.int (i32 (σ3 o2 9))]) (rest := []) X hWv5 hSv5 hl.1 gc_X5_84 hd_X3_seenThrough ⟨rfl, rfl, Nat.le_of_ble_eq_true rfl, Nat.le_of_ble_eq_true rfl⟩ (rc_X3 X hWv5 ho4) (fun v q => ok_X3_seenThrough ho4 (hWv5.2.1 _ _) q) hf rfl rfl (Nat.le_of_ble_eq_true rfl) dX5_erase_26 ⟨Nat.le_of_ble_eq_true rfl, Nat.le_of_ble_eq_true rfl⟩ (fun v6 H locs hv6 zv6 hWv6 hSv6 hf => ?_)
  refine lv_istore (lv' := [(5, .int (i32 v6)), (4, .int (i32 v5)), (3, .ref (ad o4)), (2, .ref (ad o2)), (0, .ref (ad 0)), (1, .int (i32 x1))]) hx hb dX5_erase_29 hl (by decide) rfl (fun ls hl => ?_)
  refine lv_iload hx hb dX5_erase_31 (lv_at hl 1 rfl) ?_
  refine lv_iload hx hb dX5_erase_33 (lv_at hl 0 rfl) ?_
  refine m_mmin X hl.1 hv5 hv6 hf (X.2.2.2.2.1 _ mw520) (X.2.2.2.2.1 _ mw521) (X.2.2.2.2.1 _ mw13) (X.2.2.2.2.1 _ mw522) (rest := []) (Nat.le_of_ble_eq_true rfl) (Nat.le_of_ble_eq_true rfl) ⟨Nat.le_of_ble_eq_true rfl, Nat.le_of_ble_eq_true rfl⟩ dX5_erase_35 (fun v7 hv7 hf => ?_)
  refine lv_istore (lv' := [(6, .int (i32 v7)), (5, .int (i32 v6)), (4, .int (i32 v5)), (3, .ref (ad o4)), (2, .ref (ad o2)), (0, .ref (ad 0)), (1, .int (i32 x1))]) hx hb dX5_erase_38 hl (by decide) rfl (fun ls hl => ?_)
  refine lv_iload hx hb dX5_erase_40 (lv_at hl 2 rfl) ?_
  refine lv_iload hx hb dX5_erase_42 (lv_at hl 1 rfl) ?_
  refine m_mmax X hl.1 hv5 hv6 hf (X.2.2.2.2.1 _ mw523) (X.2.2.2.2.1 _ mw505) (X.2.2.2.2.1 _ mw13) (X.2.2.2.2.1 _ mw506) (rest := []) (Nat.le_of_ble_eq_true rfl) (Nat.le_of_ble_eq_true rfl) ⟨Nat.le_of_ble_eq_true rfl, Nat.le_of_ble_eq_true rfl⟩ dX5_erase_44 (fun v8 hv8 hf => ?_)
  refine lv_istore (lv' := [(7, .int (i32 v8)), (6, .int (i32 v7)), (5, .int (i32 v6)), (4, .int (i32 v5)), (3, .ref (ad o4)), (2, .ref (ad o2)), (0, .ref (ad 0)), (1, .int (i32 x1))]) hx hb dX5_erase_47 hl (by decide) rfl (fun ls hl => ?_)
  refine lv_iload hx hb dX5_erase_49 (lv_at hl 1 rfl) ?_
  refine lv_iload hx hb dX5_erase_51 (lv_at hl 0 rfl) ?_
  refine m_icmp_ne (tgt := 62) hx hb hv7 hv8 hf dX5_erase_53 (by decide) (fun hf => ?_) (fun hf => ?_)
  · skip
    exact hc62 _ _ _ _ o2 o4 v5 v6 v7 v8 ho2 ho4 hv5 hv6 hv7 hv8 hf hWv6 hSv6 (lv_sub hl [6, 5, 4, 3, 2, 1, 0] rfl)
  · skip
    refine lv_iload hx hb dX5_erase_56 (lv_at hl 3 rfl) ?_
    refine m_const (v := 1) hx hb dX5_erase_58 rfl ?_
    refine m_isub hx hb hf dX5_erase_59 (fun v9 hv9 hf => ?_)
    refine lv_istore (lv' := [(6, .int (i32 v9)), (7, .int (i32 v8)), (5, .int (i32 v6)), (4, .int (i32 v5)), (3, .ref (ad o4)), (2, .ref (ad o2)), (0, .ref (ad 0)), (1, .int (i32 x1))]) hx hb dX5_erase_60 hl (by decide) rfl (fun ls hl => ?_)
    exact hc62 _ _ _ _ o2 o4 v5 v6 v9 v8 ho2 ho4 hv5 hv6 hv9 hv8 hf hWv6 hSv6 (lv_sub hl [6, 5, 4, 3, 2, 0, 1] rfl)
set_option maxRecDepth 100000 in
set_option maxHeartbeats 4000000 in
theorem ok0_X5_elementAt {l : Launch} {D : va_G} {cy : Nat → ClassId} {ad : Nat → Nat} {nm nv sz : Nat} {σ : St} {n : Nat} {o0 : Nat} {x1 : Int} {r : Int} {σ2 : St} (ho0 : isPaper o0) (hx1 : inR x1) (hf : fX5_elementAt n σ o0 x1 = some (0, r, σ2)) : CI l yX5_elementAt cX5_elementAt 3 (some .int) ({ frames := 2, cells := 0, slots := 0, locals := 44 } : Room) [.ref (ad o0), .int (i32 x1)] D cy ad nm nv sz σ false r σ2 := by
  refine m_entry RX5 rfl (by decide +kernel) (Nat.le_of_ble_eq_true rfl) ?_
  intro p e s m args below meth c Q hQ hr hlocks X hW hS ls hl
  have hx := X.1
  have hb := X.2.1
  have hl : lv_has ls 3 [(0, .ref (ad o0)), (1, .int (i32 x1))] := hl
  unfold fX5_elementAt at hf
  refine lv_aload_n hx hb dX5_elementAt_0 rfl (lv_at hl 0 rfl) ?_
  refine lv_iload_n hx hb dX5_elementAt_1 rfl (lv_at hl 1 rfl) ?_
  refine m_callVi1 (z := false) (As := [.int (i32 x1)]) (rest := []) X hW hS hl.1 gc_X5_334 hd_X3_seenAt ⟨rfl, rfl, Nat.le_of_ble_eq_true rfl, Nat.le_of_ble_eq_true rfl⟩ (rc_X3 X hW ho0) (fun v q => ok_X3_seenAt ho0 hx1 q) hf rfl rfl (Nat.le_of_ble_eq_true rfl) dX5_elementAt_2 ⟨Nat.le_of_ble_eq_true rfl, Nat.le_of_ble_eq_true rfl⟩ (fun v1 H locs hv1 zv1 hWv1 hSv1 hf => ?_)
  refine lv_istore_n (lv' := [(2, .int (i32 v1)), (0, .ref (ad o0)), (1, .int (i32 x1))]) hx hb dX5_elementAt_5 rfl hl (by decide) rfl (fun ls hl => ?_)
  refine lv_iload_n hx hb dX5_elementAt_6 rfl (lv_at hl 0 rfl) ?_
  refine m_const (v := (-1)) hx hb dX5_elementAt_7 rfl ?_
  refine m_icmp_ne (tgt := 22) hx hb hv1 (by decide) hf dX5_elementAt_8 (by decide) (fun hf => ?_) (fun hf => ?_)
  · skip
    refine lv_iload_n hx hb dX5_elementAt_22 rfl (lv_at hl 0 rfl) ?_
    exact m_ireti X hr hlocks rfl hv1 (fun h => Bool.noConfusion h) hWv1 hSv1 (congrArg (fun q => q.2.1) (Option.some.inj hf)) (congrArg (fun q => q.2.2) (Option.some.inj hf)) hQ dX5_elementAt_23
  · skip
    exact absurd (congrArg (fun q => q.1) (Option.some.inj hf)) (by simp)
set_option maxRecDepth 100000 in
set_option maxHeartbeats 4000000 in
theorem ok0_X5_standAt {l : Launch} {D : va_G} {cy : Nat → ClassId} {ad : Nat → Nat} {nm nv sz : Nat} {σ : St} {n : Nat} {o0 : Nat} {x1 : Int} {r : Int} {σ2 : St} (ho0 : isPaper o0) (hx1 : inR x1) (hf : fX5_standAt n σ o0 x1 = some (0, r, σ2)) : CI l yX5_standAt cX5_standAt 2 (some .int) ({ frames := 3, cells := 0, slots := 0, locals := 66 } : Room) [.ref (ad o0), .int (i32 x1)] D cy ad nm nv sz σ false r σ2 := by
  refine m_entry RX5 rfl (by decide +kernel) (Nat.le_of_ble_eq_true rfl) ?_
  intro p e s m args below meth c Q hQ hr hlocks X hW hS ls hl
  have hx := X.1
  have hb := X.2.1
  have hl : lv_has ls 2 [(0, .ref (ad o0)), (1, .int (i32 x1))] := hl
  unfold fX5_standAt at hf
  refine lv_iload_n hx hb dX5_standAt_0 rfl (lv_at hl 1 rfl) ?_
  refine m_if_ne (tgt := 8) hx hb hx1 hf dX5_standAt_1 (by decide) (fun hf => ?_) (fun hf => ?_)
  · skip
    refine lv_aload_n hx hb dX5_standAt_8 rfl (lv_at hl 0 rfl) ?_
    refine lv_iload_n hx hb dX5_standAt_9 rfl (lv_at hl 1 rfl) ?_
    refine m_const (v := 1) hx hb dX5_standAt_10 rfl ?_
    refine m_isubW hx hb hf dX5_standAt_11 (fun v1 hv1 hf => ?_)
    have hf := xw_b2 hf
    refine m_callSi (z := false) (As := [.ref (ad o0), .int (i32 v1)]) (rest := []) X hW hS hl.1 gc_X5_276 hd_X5_elementAt ⟨rfl, rfl, Nat.le_of_ble_eq_true rfl, Nat.le_of_ble_eq_true rfl⟩ (fun v q9 q => ok0_X5_elementAt ho0 hv1 (zw_of q)) hf rfl rfl (Nat.le_of_ble_eq_true rfl) dX5_standAt_12 ⟨Nat.le_of_ble_eq_true rfl, Nat.le_of_ble_eq_true rfl⟩ (fun v3 σ2 H locs hv3 zv3 hW2 hS2 hf => ?_)
    exact m_ireti X hr hlocks rfl hv3 (fun h => Bool.noConfusion h) hW2 hS2 (congrArg (fun q => q.2.1) (Option.some.inj hf)) (congrArg (fun q => q.2.2) (Option.some.inj hf)) hQ dX5_standAt_15
  · skip
    refine m_const (v := (-1)) hx hb dX5_standAt_4 rfl ?_
    refine lv_goto (tgt := 15) hx hb dX5_standAt_5 (by decide) ?_
    exact m_ireti X hr hlocks rfl (by decide) (fun h => Bool.noConfusion h) hW hS (congrArg (fun q => q.2.1) (Option.some.inj hf)) (congrArg (fun q => q.2.2) (Option.some.inj hf)) hQ dX5_standAt_15
set_option maxRecDepth 100000 in
set_option maxHeartbeats 4000000 in
theorem ok0_X5_moveTo {l : Launch} {D : va_G} {cy : Nat → ClassId} {ad : Nat → Nat} {nm nv sz : Nat} {σ : St} {n : Nat} {x1 : Int} {x2 : Int} {r : Int} {σ2 : St} (hx1 : inR x1) (hx2 : inR x2) (hf : fX5_moveTo n σ x1 x2 = some (0, r, σ2)) : CI l yX5_moveTo cX5_moveTo 7 (some .int) ({ frames := 6, cells := 0, slots := 0, locals := 163 } : Room) [.ref (ad 0), .int (i32 x1), .int (i32 x2)] D cy ad nm nv sz σ false r σ2 := by
  refine m_entry RX5 rfl (by decide +kernel) (Nat.le_of_ble_eq_true rfl) ?_
  intro p e s m args below meth c Q hQ hr hlocks X hW hS ls hl
  have hx := X.1
  have hb := X.2.1
  have hl : lv_has ls 7 [(0, .ref (ad 0)), (1, .int (i32 x1)), (2, .int (i32 x2))] := hl
  unfold fX5_moveTo at hf
  refine lv_aload_n hx hb dX5_moveTo_0 rfl (lv_at hl 0 rfl) ?_
  refine lv_iload_n hx hb dX5_moveTo_1 rfl (lv_at hl 1 rfl) ?_
  have hf := xw_b2 hf
  refine m_callVr (K := isSite) (As := [.int (i32 x1)]) (rest := []) X hW hS hl.1 gc_X5_61 hd_X5_siteAt ⟨rfl, rfl, Nat.le_of_ble_eq_true rfl, Nat.le_of_ble_eq_true rfl⟩ (rc_X5 X hW) (fun v q9 q => ok0_X5_siteAt hx1 (zw_of q)) hf rfl rfl (Nat.le_of_ble_eq_true rfl) dX5_moveTo_2 ⟨Nat.le_of_ble_eq_true rfl, Nat.le_of_ble_eq_true rfl⟩ (fun o2 σ1 H locs ho2 hW1 hS1 hf => ?_)
  refine lv_astore_n (lv' := [(3, .ref (ad o2)), (0, .ref (ad 0)), (1, .int (i32 x1)), (2, .int (i32 x2))]) hx hb dX5_moveTo_5 rfl hl (by decide) rfl (fun ls hl => ?_)
  refine lv_aload_n hx hb dX5_moveTo_6 rfl (lv_at hl 0 rfl) ?_
  refine m_callSr (K := isPaper) (As := [.ref (ad o2)]) (rest := []) X hW1 hS1 hl.1 gc_X5_72 hd_X5_paperOf ⟨rfl, rfl, Nat.le_of_ble_eq_true rfl, Nat.le_of_ble_eq_true rfl⟩ (fun v q9 q => ok_X5_paperOf ho2 q) hf rfl rfl (Nat.le_of_ble_eq_true rfl) dX5_moveTo_7 ⟨Nat.le_of_ble_eq_true rfl, Nat.le_of_ble_eq_true rfl⟩ (fun o4 σ3 H locs ho4 hW3 hS3 hf => ?_)
  refine lv_astore (lv' := [(4, .ref (ad o4)), (3, .ref (ad o2)), (0, .ref (ad 0)), (1, .int (i32 x1)), (2, .int (i32 x2))]) hx hb dX5_moveTo_10 hl (by decide) rfl (fun ls hl => ?_)
  refine lv_aload hx hb dX5_moveTo_12 (lv_at hl 0 rfl) ?_
  refine lv_iload_n hx hb dX5_moveTo_14 rfl (lv_at hl 4 rfl) ?_
  have hf := xw_b2 hf
  refine m_callSi (z := false) (As := [.ref (ad o4), .int (i32 x2)]) (rest := []) X hW3 hS3 hl.1 gc_X5_121 hd_X5_standAt ⟨rfl, rfl, Nat.le_of_ble_eq_true rfl, Nat.le_of_ble_eq_true rfl⟩ (fun v q9 q => ok0_X5_standAt ho4 hx2 (zw_of q)) hf rfl rfl (Nat.le_of_ble_eq_true rfl) dX5_moveTo_15 ⟨Nat.le_of_ble_eq_true rfl, Nat.le_of_ble_eq_true rfl⟩ (fun v6 σ5 H locs hv6 zv6 hW5 hS5 hf => ?_)
  refine lv_istore (lv' := [(5, .int (i32 v6)), (4, .ref (ad o4)), (3, .ref (ad o2)), (0, .ref (ad 0)), (1, .int (i32 x1)), (2, .int (i32 x2))]) hx hb dX5_moveTo_18 hl (by decide) rfl (fun ls hl => ?_)
  refine lv_aload hx hb dX5_moveTo_20 (lv_at hl 1 rfl) ?_
  refine lv_aload_n hx hb dX5_moveTo_22 rfl (lv_at hl 2 rfl) ?_
  refine gN_X4_cursor X hW5 ho2 (nf_X5_80 X.2.2.2.2.2.2.2.2) dX5_moveTo_23 ?_
  refine m_callVi1 (z := false) (As := [.int (i32 (σ5 o2 8))]) (rest := []) X hW5 hS5 hl.1 gc_X5_84 hd_X3_seenThrough ⟨rfl, rfl, Nat.le_of_ble_eq_true rfl, Nat.le_of_ble_eq_true rfl⟩ (rc_X3 X hW5 ho4) (fun v q => ok_X3_seenThrough ho4 (hW5.2.1 _ _) q) hf rfl rfl (Nat.le_of_ble_eq_true rfl) dX5_moveTo_26 ⟨Nat.le_of_ble_eq_true rfl, Nat.le_of_ble_eq_true rfl⟩ (fun v7 H locs hv7 zv7 hWv7 hSv7 hf => ?_)
  refine lv_istore (lv' := [(6, .int (i32 v7)), (5, .int (i32 v6)), (4, .ref (ad o4)), (3, .ref (ad o2)), (0, .ref (ad 0)), (1, .int (i32 x1)), (2, .int (i32 x2))]) hx hb dX5_moveTo_29 hl (by decide) rfl (fun ls hl => ?_)
  refine lv_aload_n hx hb dX5_moveTo_31 rfl (lv_at hl 3 rfl) ?_
  refine lv_iload hx hb dX5_moveTo_32 (lv_at hl 1 rfl) ?_
  refine pN_X4_cursor X hWv7 hSv7 ho2 hv6 hf (nf_X5_80 X.2.2.2.2.2.2.2.2) dX5_moveTo_34 (fun σ8 H locs hW8 hS8 hf => ?_)
  refine lv_aload_n hx hb dX5_moveTo_37 rfl (lv_at hl 3 rfl) ?_
  refine lv_iload hx hb dX5_moveTo_38 (lv_at hl 1 rfl) ?_
  refine pN_X4_tail X hW8 hS8 ho2 hv6 hf (nf_X5_88 X.2.2.2.2.2.2.2.2) dX5_moveTo_40 (fun σ9 H locs hW9 hS9 hf => ?_)
  refine lv_iload hx hb dX5_moveTo_43 (lv_at hl 0 rfl) ?_
  exact m_ireti X hr hlocks rfl hv7 (fun h => Bool.noConfusion h) hW9 hS9 (congrArg (fun q => q.2.1) (Option.some.inj hf)) (congrArg (fun q => q.2.2) (Option.some.inj hf)) hQ dX5_moveTo_45
set_option maxRecDepth 100000 in
set_option maxHeartbeats 4000000 in
theorem ok0_X5_extend {l : Launch} {D : va_G} {cy : Nat → ClassId} {ad : Nat → Nat} {nm nv sz : Nat} {σ : St} {n : Nat} {x1 : Int} {x2 : Int} {r : Int} {σ2 : St} (hx1 : inR x1) (hx2 : inR x2) (hf : fX5_extend n σ x1 x2 = some (0, r, σ2)) : CI l yX5_extend cX5_extend 6 (some .int) ({ frames := 6, cells := 0, slots := 0, locals := 163 } : Room) [.ref (ad 0), .int (i32 x1), .int (i32 x2)] D cy ad nm nv sz σ false r σ2 := by
  refine m_entry RX5 rfl (by decide +kernel) (Nat.le_of_ble_eq_true rfl) ?_
  intro p e s m args below meth c Q hQ hr hlocks X hW hS ls hl
  have hx := X.1
  have hb := X.2.1
  have hl : lv_has ls 6 [(0, .ref (ad 0)), (1, .int (i32 x1)), (2, .int (i32 x2))] := hl
  unfold fX5_extend at hf
  refine lv_aload_n hx hb dX5_extend_0 rfl (lv_at hl 0 rfl) ?_
  refine lv_iload_n hx hb dX5_extend_1 rfl (lv_at hl 1 rfl) ?_
  have hf := xw_b2 hf
  refine m_callVr (K := isSite) (As := [.int (i32 x1)]) (rest := []) X hW hS hl.1 gc_X5_61 hd_X5_siteAt ⟨rfl, rfl, Nat.le_of_ble_eq_true rfl, Nat.le_of_ble_eq_true rfl⟩ (rc_X5 X hW) (fun v q9 q => ok0_X5_siteAt hx1 (zw_of q)) hf rfl rfl (Nat.le_of_ble_eq_true rfl) dX5_extend_2 ⟨Nat.le_of_ble_eq_true rfl, Nat.le_of_ble_eq_true rfl⟩ (fun o2 σ1 H locs ho2 hW1 hS1 hf => ?_)
  refine lv_astore_n (lv' := [(3, .ref (ad o2)), (0, .ref (ad 0)), (1, .int (i32 x1)), (2, .int (i32 x2))]) hx hb dX5_extend_5 rfl hl (by decide) rfl (fun ls hl => ?_)
  refine lv_aload_n hx hb dX5_extend_6 rfl (lv_at hl 0 rfl) ?_
  refine m_callSr (K := isPaper) (As := [.ref (ad o2)]) (rest := []) X hW1 hS1 hl.1 gc_X5_72 hd_X5_paperOf ⟨rfl, rfl, Nat.le_of_ble_eq_true rfl, Nat.le_of_ble_eq_true rfl⟩ (fun v q9 q => ok_X5_paperOf ho2 q) hf rfl rfl (Nat.le_of_ble_eq_true rfl) dX5_extend_7 ⟨Nat.le_of_ble_eq_true rfl, Nat.le_of_ble_eq_true rfl⟩ (fun o4 σ3 H locs ho4 hW3 hS3 hf => ?_)
  refine lv_astore (lv' := [(4, .ref (ad o4)), (3, .ref (ad o2)), (0, .ref (ad 0)), (1, .int (i32 x1)), (2, .int (i32 x2))]) hx hb dX5_extend_10 hl (by decide) rfl (fun ls hl => ?_)
  refine lv_aload_n hx hb dX5_extend_12 rfl (lv_at hl 1 rfl) ?_
  refine lv_aload hx hb dX5_extend_13 (lv_at hl 0 rfl) ?_
  refine lv_iload_n hx hb dX5_extend_15 rfl (lv_at hl 4 rfl) ?_
  have hf := xw_b2 hf
  refine m_callSi (z := false) (As := [.ref (ad o4), .int (i32 x2)]) (rest := [.ref (ad o2)]) X hW3 hS3 hl.1 gc_X5_121 hd_X5_standAt ⟨rfl, rfl, Nat.le_of_ble_eq_true rfl, Nat.le_of_ble_eq_true rfl⟩ (fun v q9 q => ok0_X5_standAt ho4 hx2 (zw_of q)) hf rfl rfl (Nat.le_of_ble_eq_true rfl) dX5_extend_16 ⟨Nat.le_of_ble_eq_true rfl, Nat.le_of_ble_eq_true rfl⟩ (fun v6 σ5 H locs hv6 zv6 hW5 hS5 hf => ?_)
  refine pN_X4_cursor X hW5 hS5 ho2 hv6 hf (nf_X5_80 X.2.2.2.2.2.2.2.2) dX5_extend_19 (fun σ7 H locs hW7 hS7 hf => ?_)
  refine lv_aload hx hb dX5_extend_22 (lv_at hl 0 rfl) ?_
  refine lv_aload_n hx hb dX5_extend_24 rfl (lv_at hl 1 rfl) ?_
  refine gN_X4_tail X hW7 ho2 (nf_X5_88 X.2.2.2.2.2.2.2.2) dX5_extend_25 ?_
  refine m_callVi1 (z := false) (As := [.int (i32 (σ7 o2 9))]) (rest := []) X hW7 hS7 hl.1 gc_X5_84 hd_X3_seenThrough ⟨rfl, rfl, Nat.le_of_ble_eq_true rfl, Nat.le_of_ble_eq_true rfl⟩ (rc_X3 X hW7 ho4) (fun v q => ok_X3_seenThrough ho4 (hW7.2.1 _ _) q) hf rfl rfl (Nat.le_of_ble_eq_true rfl) dX5_extend_28 ⟨Nat.le_of_ble_eq_true rfl, Nat.le_of_ble_eq_true rfl⟩ (fun v8 H locs hv8 zv8 hWv8 hSv8 hf => ?_)
  refine lv_istore (lv' := [(5, .int (i32 v8)), (4, .ref (ad o4)), (3, .ref (ad o2)), (0, .ref (ad 0)), (1, .int (i32 x1)), (2, .int (i32 x2))]) hx hb dX5_extend_31 hl (by decide) rfl (fun ls hl => ?_)
  refine lv_iload_n hx hb dX5_extend_33 rfl (lv_at hl 5 rfl) ?_
  refine lv_iload hx hb dX5_extend_34 (lv_at hl 0 rfl) ?_
  refine m_mmax X hl.1 hx2 hv8 hf (X.2.2.2.2.1 _ mw523) (X.2.2.2.2.1 _ mw505) (X.2.2.2.2.1 _ mw13) (X.2.2.2.2.1 _ mw506) (rest := []) (Nat.le_of_ble_eq_true rfl) (Nat.le_of_ble_eq_true rfl) ⟨Nat.le_of_ble_eq_true rfl, Nat.le_of_ble_eq_true rfl⟩ dX5_extend_36 (fun v9 hv9 hf => ?_)
  refine lv_iload_n hx hb dX5_extend_39 rfl (lv_at hl 5 rfl) ?_
  refine lv_iload hx hb dX5_extend_40 (lv_at hl 0 rfl) ?_
  refine m_mmin X hl.1 hx2 hv8 hf (X.2.2.2.2.1 _ mw520) (X.2.2.2.2.1 _ mw521) (X.2.2.2.2.1 _ mw13) (X.2.2.2.2.1 _ mw522) (rest := [.int (i32 v9)]) (Nat.le_of_ble_eq_true rfl) (Nat.le_of_ble_eq_true rfl) ⟨Nat.le_of_ble_eq_true rfl, Nat.le_of_ble_eq_true rfl⟩ dX5_extend_42 (fun v10 hv10 hf => ?_)
  refine m_isub hx hb hf dX5_extend_45 (fun v11 hv11 hf => ?_)
  exact m_ireti X hr hlocks rfl hv11 (fun h => Bool.noConfusion h) hWv8 hSv8 (congrArg (fun q => q.2.1) (Option.some.inj hf)) (congrArg (fun q => q.2.2) (Option.some.inj hf)) hQ dX5_extend_46
set_option maxRecDepth 100000 in
set_option maxHeartbeats 4000000 in
theorem ok0_X5_checkMark {l : Launch} {D : va_G} {cy : Nat → ClassId} {ad : Nat → Nat} {nm nv sz : Nat} {σ : St} {x0 : Int} {r : Int} {σ2 : St} (hx0 : inR x0) (hf : fX5_checkMark σ x0 = some (0, r, σ2)) : CV l yX5_checkMark cX5_checkMark 1 none ({ frames := 0, cells := 0, slots := 0, locals := 0 } : Room) [.int (i32 x0)] D cy ad nm nv sz σ σ2 := by
  refine m_entry RX5 rfl (by decide +kernel) (Nat.le_of_ble_eq_true rfl) ?_
  intro p e s m args below meth c Q hQ hr hlocks X hW hS ls hl
  have hx := X.1
  have hb := X.2.1
  have hl : lv_has ls 1 [(0, .int (i32 x0))] := hl
  unfold fX5_checkMark at hf
  refine lv_iload_n hx hb dX5_checkMark_0 rfl (lv_at hl 0 rfl) ?_
  refine m_if_eq (tgt := 20) hx hb hx0 hf dX5_checkMark_1 (by decide) (fun hf => ?_) (fun hf => ?_)
  · skip
    exact m_vret X hr hlocks hW hS (congrArg (fun q => q.2.2) (Option.some.inj hf)) hQ dX5_checkMark_20
  · skip
    refine lv_iload_n hx hb dX5_checkMark_4 rfl (lv_at hl 0 rfl) ?_
    refine m_const (v := 1) hx hb dX5_checkMark_5 rfl ?_
    refine m_icmp_eq (tgt := 20) hx hb hx0 (by decide) hf dX5_checkMark_6 (by decide) (fun hf => ?_) (fun hf => ?_)
    · skip
      exact m_vret X hr hlocks hW hS (congrArg (fun q => q.2.2) (Option.some.inj hf)) hQ dX5_checkMark_20
    · skip
      exact absurd (congrArg (fun q => q.1) (Option.some.inj hf)) (by simp)
set_option maxRecDepth 100000 in
set_option maxHeartbeats 4000000 in
theorem ok0_X5_writeOnSelection {l : Launch} {D : va_G} {cy : Nat → ClassId} {ad : Nat → Nat} {nm nv sz : Nat} {σ : St} {n : Nat} {o1 : Nat} {o2 : Nat} {x3 : Int} {x4 : Int} {x5 : Int} {r : Int} {σ2 : St} (ho1 : isSite o1) (ho2 : isPaper o2) (hx3 : inR x3) (hx4 : inR x4) (hx5 : inR x5) (hf : fX5_writeOnSelection n σ o1 o2 x3 x4 x5 = some (0, r, σ2)) : CI l yX5_writeOnSelection cX5_writeOnSelection 10 (some .int) ({ frames := 5, cells := 0, slots := 0, locals := 148 } : Room) [.ref (ad 0), .ref (ad o1), .ref (ad o2), .int (i32 x3), .int (i32 x4), .int (i32 x5)] D cy ad nm nv sz σ false r σ2 := by
  refine m_entry RX5 rfl (by decide +kernel) (Nat.le_of_ble_eq_true rfl) ?_
  intro p e s m args below meth c Q hQ hr hlocks X hW hS ls hl
  have hx := X.1
  have hb := X.2.1
  have hl : lv_has ls 10 [(0, .ref (ad 0)), (1, .ref (ad o1)), (2, .ref (ad o2)), (3, .int (i32 x3)), (4, .int (i32 x4)), (5, .int (i32 x5))] := hl
  unfold fX5_writeOnSelection at hf
  refine lv_aload_n hx hb dX5_writeOnSelection_0 rfl (lv_at hl 2 rfl) ?_
  refine lv_aload_n hx hb dX5_writeOnSelection_1 rfl (lv_at hl 1 rfl) ?_
  refine gN_X4_cursor X hW ho1 (nf_X5_80 X.2.2.2.2.2.2.2.2) dX5_writeOnSelection_2 ?_
  refine m_callVi1 (z := false) (As := [.int (i32 (σ o1 8))]) (rest := []) X hW hS hl.1 gc_X5_84 hd_X3_seenThrough ⟨rfl, rfl, Nat.le_of_ble_eq_true rfl, Nat.le_of_ble_eq_true rfl⟩ (rc_X3 X hW ho2) (fun v q => ok_X3_seenThrough ho2 (hW.2.1 _ _) q) hf rfl rfl (Nat.le_of_ble_eq_true rfl) dX5_writeOnSelection_5 ⟨Nat.le_of_ble_eq_true rfl, Nat.le_of_ble_eq_true rfl⟩ (fun v1 H locs hv1 zv1 hWv1 hSv1 hf => ?_)
  refine lv_istore (lv' := [(6, .int (i32 v1)), (0, .ref (ad 0)), (1, .ref (ad o1)), (2, .ref (ad o2)), (3, .int (i32 x3)), (4, .int (i32 x4)), (5, .int (i32 x5))]) hx hb dX5_writeOnSelection_8 hl (by decide) rfl (fun ls hl => ?_)
  refine lv_aload_n hx hb dX5_writeOnSelection_10 rfl (lv_at hl 3 rfl) ?_
  refine lv_aload_n hx hb dX5_writeOnSelection_11 rfl (lv_at hl 2 rfl) ?_
  refine gN_X4_tail X hWv1 ho1 (nf_X5_88 X.2.2.2.2.2.2.2.2) dX5_writeOnSelection_12 ?_
  refine m_callVi1 (z := false) (As := [.int (i32 (σ o1 9))]) (rest := []) X hWv1 hSv1 hl.1 gc_X5_84 hd_X3_seenThrough ⟨rfl, rfl, Nat.le_of_ble_eq_true rfl, Nat.le_of_ble_eq_true rfl⟩ (rc_X3 X hWv1 ho2) (fun v q => ok_X3_seenThrough ho2 (hWv1.2.1 _ _) q) hf rfl rfl (Nat.le_of_ble_eq_true rfl) dX5_writeOnSelection_15 ⟨Nat.le_of_ble_eq_true rfl, Nat.le_of_ble_eq_true rfl⟩ (fun v2 H locs hv2 zv2 hWv2 hSv2 hf => ?_)
  refine lv_istore (lv' := [(7, .int (i32 v2)), (6, .int (i32 v1)), (0, .ref (ad 0)), (1, .ref (ad o1)), (2, .ref (ad o2)), (3, .int (i32 x3)), (4, .int (i32 x4)), (5, .int (i32 x5))]) hx hb dX5_writeOnSelection_18 hl (by decide) rfl (fun ls hl => ?_)
  refine lv_iload hx hb dX5_writeOnSelection_20 (lv_at hl 1 rfl) ?_
  refine lv_iload hx hb dX5_writeOnSelection_22 (lv_at hl 0 rfl) ?_
  refine m_icmp_ne (tgt := 38) hx hb hv1 hv2 hf dX5_writeOnSelection_24 (by decide) (fun hf => ?_) (fun hf => ?_)
  · skip
    refine lv_aload_n hx hb dX5_writeOnSelection_38 rfl (lv_at hl 2 rfl) ?_
    refine m_const (v := 1) hx hb dX5_writeOnSelection_39 rfl ?_
    have hf := xw_b1 hf
    refine m_callVv (As := [.int (i32 1)]) (rest := []) X hWv2 hSv2 hl.1 gc_X5_105 hd_X5_checkRoomFor ⟨rfl, rfl, Nat.le_of_ble_eq_true rfl, Nat.le_of_ble_eq_true rfl⟩ (rc_X5 X hWv2) (fun q9 q => ok0_X5_checkRoomFor (by decide) (zv_of q).choose_spec) hf rfl rfl (Nat.le_of_ble_eq_true rfl) dX5_writeOnSelection_40 ⟨Nat.le_of_ble_eq_true rfl, Nat.le_of_ble_eq_true rfl⟩ (fun σ3 H locs hW3 hS3 hf => ?_)
    refine lv_aload_n hx hb dX5_writeOnSelection_43 rfl (lv_at hl 4 rfl) ?_
    refine lv_iload hx hb dX5_writeOnSelection_44 (lv_at hl 1 rfl) ?_
    refine lv_iload hx hb dX5_writeOnSelection_46 (lv_at hl 0 rfl) ?_
    refine m_mmin X hl.1 hv1 hv2 hf (X.2.2.2.2.1 _ mw520) (X.2.2.2.2.1 _ mw521) (X.2.2.2.2.1 _ mw13) (X.2.2.2.2.1 _ mw522) (rest := [.ref (ad o2)]) (Nat.le_of_ble_eq_true rfl) (Nat.le_of_ble_eq_true rfl) ⟨Nat.le_of_ble_eq_true rfl, Nat.le_of_ble_eq_true rfl⟩ dX5_writeOnSelection_48 (fun v4 hv4 hf => ?_)
    refine m_callVi1 (z := false) (As := [.int (i32 v4)]) (rest := []) X hW3 hS3 hl.1 gc_X5_334 hd_X3_seenAt ⟨rfl, rfl, Nat.le_of_ble_eq_true rfl, Nat.le_of_ble_eq_true rfl⟩ (rc_X3 X hW3 ho2) (fun v q => ok_X3_seenAt ho2 hv4 q) hf rfl rfl (Nat.le_of_ble_eq_true rfl) dX5_writeOnSelection_51 ⟨Nat.le_of_ble_eq_true rfl, Nat.le_of_ble_eq_true rfl⟩ (fun v5 H locs hv5 zv5 hWv5 hSv5 hf => ?_)
    refine lv_istore (lv' := [(8, .int (i32 v5)), (7, .int (i32 v2)), (6, .int (i32 v1)), (0, .ref (ad 0)), (1, .ref (ad o1)), (2, .ref (ad o2)), (3, .int (i32 x3)), (4, .int (i32 x4)), (5, .int (i32 x5))]) hx hb dX5_writeOnSelection_54 hl (by decide) rfl (fun ls hl => ?_)
    refine lv_aload_n hx hb dX5_writeOnSelection_56 rfl (lv_at hl 5 rfl) ?_
    refine lv_iload hx hb dX5_writeOnSelection_57 (lv_at hl 2 rfl) ?_
    refine lv_iload hx hb dX5_writeOnSelection_59 (lv_at hl 1 rfl) ?_
    refine m_mmax X hl.1 hv1 hv2 hf (X.2.2.2.2.1 _ mw523) (X.2.2.2.2.1 _ mw505) (X.2.2.2.2.1 _ mw13) (X.2.2.2.2.1 _ mw506) (rest := [.ref (ad o2)]) (Nat.le_of_ble_eq_true rfl) (Nat.le_of_ble_eq_true rfl) ⟨Nat.le_of_ble_eq_true rfl, Nat.le_of_ble_eq_true rfl⟩ dX5_writeOnSelection_61 (fun v6 hv6 hf => ?_)
    refine m_const (v := 1) hx hb dX5_writeOnSelection_64 rfl ?_
    refine m_isub hx hb hf dX5_writeOnSelection_65 (fun v7 hv7 hf => ?_)
    refine m_callVi1 (z := false) (As := [.int (i32 v7)]) (rest := []) X hWv5 hSv5 hl.1 gc_X5_334 hd_X3_seenAt ⟨rfl, rfl, Nat.le_of_ble_eq_true rfl, Nat.le_of_ble_eq_true rfl⟩ (rc_X3 X hWv5 ho2) (fun v q => ok_X3_seenAt ho2 hv7 q) hf rfl rfl (Nat.le_of_ble_eq_true rfl) dX5_writeOnSelection_66 ⟨Nat.le_of_ble_eq_true rfl, Nat.le_of_ble_eq_true rfl⟩ (fun v8 H locs hv8 zv8 hWv8 hSv8 hf => ?_)
    refine lv_istore (lv' := [(9, .int (i32 v8)), (8, .int (i32 v5)), (7, .int (i32 v2)), (6, .int (i32 v1)), (0, .ref (ad 0)), (1, .ref (ad o1)), (2, .ref (ad o2)), (3, .int (i32 x3)), (4, .int (i32 x4)), (5, .int (i32 x5))]) hx hb dX5_writeOnSelection_69 hl (by decide) rfl (fun ls hl => ?_)
    refine lv_aload_n hx hb dX5_writeOnSelection_71 rfl (lv_at hl 4 rfl) ?_
    refine lv_aload_n hx hb dX5_writeOnSelection_72 rfl (lv_at hl 5 rfl) ?_
    refine lv_iload_n hx hb dX5_writeOnSelection_73 rfl (lv_at hl 7 rfl) ?_
    refine lv_iload hx hb dX5_writeOnSelection_74 (lv_at hl 1 rfl) ?_
    refine lv_iload hx hb dX5_writeOnSelection_76 (lv_at hl 0 rfl) ?_
    refine lv_iload hx hb dX5_writeOnSelection_78 (lv_at hl 8 rfl) ?_
    refine lv_iload hx hb dX5_writeOnSelection_80 (lv_at hl 9 rfl) ?_
    refine m_callVi (z := false) (As := [.ref (ad o1), .int (i32 x3), .int (i32 v5), .int (i32 v8), .int (i32 x4), .int (i32 x5)]) (rest := []) X hWv8 hSv8 hl.1 gc_X5_117 hd_X5_make ⟨rfl, rfl, Nat.le_of_ble_eq_true rfl, Nat.le_of_ble_eq_true rfl⟩ (rc_X5 X hWv8) (fun v q9 q => ok_X5_make ho1 hx3 hv5 hv8 hx4 hx5 q) hf rfl rfl (Nat.le_of_ble_eq_true rfl) dX5_writeOnSelection_82 ⟨Nat.le_of_ble_eq_true rfl, Nat.le_of_ble_eq_true rfl⟩ (fun v10 σ9 H locs hv10 zv10 hW9 hS9 hf => ?_)
    exact m_ireti X hr hlocks rfl hv10 (fun h => Bool.noConfusion h) hW9 hS9 (congrArg (fun q => q.2.1) (Option.some.inj hf)) (congrArg (fun q => q.2.2) (Option.some.inj hf)) hQ dX5_writeOnSelection_85
  · skip
    exact absurd (congrArg (fun q => q.1) (Option.some.inj hf)) (by simp)
set_option maxRecDepth 100000 in
set_option maxHeartbeats 4000000 in
theorem ok0_X5_mark {l : Launch} {D : va_G} {cy : Nat → ClassId} {ad : Nat → Nat} {nm nv sz : Nat} {σ : St} {n : Nat} {x1 : Int} {x2 : Int} {x3 : Int} {r : Int} {σ2 : St} (hx1 : inR x1) (hx2 : inR x2) (hx3 : inR x3) (hf : fX5_mark n σ x1 x2 x3 = some (0, r, σ2)) : CI l yX5_mark cX5_mark 5 (some .int) ({ frames := 6, cells := 0, slots := 0, locals := 177 } : Room) [.ref (ad 0), .int (i32 x1), .int (i32 x2), .int (i32 x3)] D cy ad nm nv sz σ false r σ2 := by
  refine m_entry RX5 rfl (by decide +kernel) (Nat.le_of_ble_eq_true rfl) ?_
  intro p e s m args below meth c Q hQ hr hlocks X hW hS ls hl
  have hx := X.1
  have hb := X.2.1
  have hl : lv_has ls 5 [(0, .ref (ad 0)), (1, .int (i32 x1)), (2, .int (i32 x2)), (3, .int (i32 x3))] := hl
  unfold fX5_mark at hf
  refine lv_aload_n hx hb dX5_mark_0 rfl (lv_at hl 0 rfl) ?_
  refine lv_iload_n hx hb dX5_mark_1 rfl (lv_at hl 1 rfl) ?_
  have hf := xw_b2 hf
  refine m_callVr (K := isSite) (As := [.int (i32 x1)]) (rest := []) X hW hS hl.1 gc_X5_61 hd_X5_siteAt ⟨rfl, rfl, Nat.le_of_ble_eq_true rfl, Nat.le_of_ble_eq_true rfl⟩ (rc_X5 X hW) (fun v q9 q => ok0_X5_siteAt hx1 (zw_of q)) hf rfl rfl (Nat.le_of_ble_eq_true rfl) dX5_mark_2 ⟨Nat.le_of_ble_eq_true rfl, Nat.le_of_ble_eq_true rfl⟩ (fun o2 σ1 H locs ho2 hW1 hS1 hf => ?_)
  refine lv_astore (lv' := [(4, .ref (ad o2)), (0, .ref (ad 0)), (1, .int (i32 x1)), (2, .int (i32 x2)), (3, .int (i32 x3))]) hx hb dX5_mark_5 hl (by decide) rfl (fun ls hl => ?_)
  refine lv_iload_n hx hb dX5_mark_7 rfl (lv_at hl 3 rfl) ?_
  have hf := xw_b1 hf
  refine m_callSv (As := [.int (i32 x2)]) (rest := []) X hW1 hS1 hl.1 gc_X5_125 hd_X5_checkMark ⟨rfl, rfl, Nat.le_of_ble_eq_true rfl, Nat.le_of_ble_eq_true rfl⟩ (fun q9 q => ok0_X5_checkMark hx2 (zv_of q).choose_spec) hf rfl rfl (Nat.le_of_ble_eq_true rfl) dX5_mark_8 ⟨Nat.le_of_ble_eq_true rfl, Nat.le_of_ble_eq_true rfl⟩ (fun σ3 H locs hW3 hS3 hf => ?_)
  refine lv_aload_n hx hb dX5_mark_11 rfl (lv_at hl 1 rfl) ?_
  refine lv_aload hx hb dX5_mark_12 (lv_at hl 0 rfl) ?_
  refine lv_aload hx hb dX5_mark_14 (lv_at hl 0 rfl) ?_
  refine m_callSr (K := isPaper) (As := [.ref (ad o2)]) (rest := [.ref (ad o2), .ref (ad 0)]) X hW3 hS3 hl.1 gc_X5_72 hd_X5_paperOf ⟨rfl, rfl, Nat.le_of_ble_eq_true rfl, Nat.le_of_ble_eq_true rfl⟩ (fun v q9 q => ok_X5_paperOf ho2 q) hf rfl rfl (Nat.le_of_ble_eq_true rfl) dX5_mark_16 ⟨Nat.le_of_ble_eq_true rfl, Nat.le_of_ble_eq_true rfl⟩ (fun o5 σ4 H locs ho5 hW4 hS4 hf => ?_)
  refine m_const (v := 4) hx hb dX5_mark_19 rfl ?_
  refine lv_iload_n hx hb dX5_mark_20 rfl (lv_at hl 3 rfl) ?_
  refine lv_iload_n hx hb dX5_mark_21 rfl (lv_at hl 4 rfl) ?_
  have hf := xw_b2 hf
  refine m_callVi (z := false) (As := [.ref (ad o2), .ref (ad o5), .int (i32 4), .int (i32 x2), .int (i32 x3)]) (rest := []) X hW4 hS4 hl.1 gc_X5_128 hd_X5_writeOnSelection ⟨rfl, rfl, Nat.le_of_ble_eq_true rfl, Nat.le_of_ble_eq_true rfl⟩ (rc_X5 X hW4) (fun v q9 q => ok0_X5_writeOnSelection ho2 ho5 (by decide) hx2 hx3 (zw_of q)) hf rfl rfl (Nat.le_of_ble_eq_true rfl) dX5_mark_22 ⟨Nat.le_of_ble_eq_true rfl, Nat.le_of_ble_eq_true rfl⟩ (fun v7 σ6 H locs hv7 zv7 hW6 hS6 hf => ?_)
  exact m_ireti X hr hlocks rfl hv7 (fun h => Bool.noConfusion h) hW6 hS6 (congrArg (fun q => q.2.1) (Option.some.inj hf)) (congrArg (fun q => q.2.2) (Option.some.inj hf)) hQ dX5_mark_25
set_option maxRecDepth 100000 in
set_option maxHeartbeats 4000000 in
theorem ok0_X5_comment {l : Launch} {D : va_G} {cy : Nat → ClassId} {ad : Nat → Nat} {nm nv sz : Nat} {σ : St} {n : Nat} {x1 : Int} {r : Int} {σ2 : St} (hx1 : inR x1) (hf : fX5_comment n σ x1 = some (0, r, σ2)) : CI l yX5_comment cX5_comment 3 (some .int) ({ frames := 6, cells := 0, slots := 0, locals := 177 } : Room) [.ref (ad 0), .int (i32 x1)] D cy ad nm nv sz σ false r σ2 := by
  refine m_entry RX5 rfl (by decide +kernel) (Nat.le_of_ble_eq_true rfl) ?_
  intro p e s m args below meth c Q hQ hr hlocks X hW hS ls hl
  have hx := X.1
  have hb := X.2.1
  have hl : lv_has ls 3 [(0, .ref (ad 0)), (1, .int (i32 x1))] := hl
  unfold fX5_comment at hf
  refine lv_aload_n hx hb dX5_comment_0 rfl (lv_at hl 0 rfl) ?_
  refine lv_iload_n hx hb dX5_comment_1 rfl (lv_at hl 1 rfl) ?_
  have hf := xw_b2 hf
  refine m_callVr (K := isSite) (As := [.int (i32 x1)]) (rest := []) X hW hS hl.1 gc_X5_61 hd_X5_siteAt ⟨rfl, rfl, Nat.le_of_ble_eq_true rfl, Nat.le_of_ble_eq_true rfl⟩ (rc_X5 X hW) (fun v q9 q => ok0_X5_siteAt hx1 (zw_of q)) hf rfl rfl (Nat.le_of_ble_eq_true rfl) dX5_comment_2 ⟨Nat.le_of_ble_eq_true rfl, Nat.le_of_ble_eq_true rfl⟩ (fun o2 σ1 H locs ho2 hW1 hS1 hf => ?_)
  refine lv_astore_n (lv' := [(2, .ref (ad o2)), (0, .ref (ad 0)), (1, .int (i32 x1))]) hx hb dX5_comment_5 rfl hl (by decide) rfl (fun ls hl => ?_)
  refine lv_aload_n hx hb dX5_comment_6 rfl (lv_at hl 1 rfl) ?_
  refine g_X5_book X hW1 (X.2.2.2.2.1 _ mw179) dX5_comment_7 ?_
  refine gN_X1_comments X hW1 (nf_X5_132 X.2.2.2.2.2.2.2.2) dX5_comment_10 ?_
  refine m_bipush (v := 20) hx hb dX5_comment_13 (by decide) ?_
  refine m_icmp_lt (tgt := 28) hx hb (hW1.2.1 _ _) (by decide) hf dX5_comment_15 (by decide) (fun hf => ?_) (fun hf => ?_)
  · skip
    refine lv_aload_n hx hb dX5_comment_28 rfl (lv_at hl 1 rfl) ?_
    refine lv_aload_n hx hb dX5_comment_29 rfl (lv_at hl 0 rfl) ?_
    refine lv_aload_n hx hb dX5_comment_30 rfl (lv_at hl 0 rfl) ?_
    refine m_callSr (K := isPaper) (As := [.ref (ad o2)]) (rest := [.ref (ad o2), .ref (ad 0)]) X hW1 hS1 hl.1 gc_X5_72 hd_X5_paperOf ⟨rfl, rfl, Nat.le_of_ble_eq_true rfl, Nat.le_of_ble_eq_true rfl⟩ (fun v q9 q => ok_X5_paperOf ho2 q) hf rfl rfl (Nat.le_of_ble_eq_true rfl) dX5_comment_31 ⟨Nat.le_of_ble_eq_true rfl, Nat.le_of_ble_eq_true rfl⟩ (fun o4 σ3 H locs ho4 hW3 hS3 hf => ?_)
    refine m_bipush (v := 7) hx hb dX5_comment_34 (by decide) ?_
    refine lv_aload_n hx hb dX5_comment_36 rfl (lv_at hl 1 rfl) ?_
    refine g_X5_book X hW3 (X.2.2.2.2.1 _ mw179) dX5_comment_37 ?_
    refine gN_X1_comments X hW3 (nf_X5_132 X.2.2.2.2.2.2.2.2) dX5_comment_40 ?_
    refine m_const (v := 0) hx hb dX5_comment_43 rfl ?_
    have hf := xw_b2 hf
    refine m_callVi (z := false) (As := [.ref (ad o2), .ref (ad o4), .int (i32 7), .int (i32 (σ3 8 9)), .int (i32 0)]) (rest := []) X hW3 hS3 hl.1 gc_X5_128 hd_X5_writeOnSelection ⟨rfl, rfl, Nat.le_of_ble_eq_true rfl, Nat.le_of_ble_eq_true rfl⟩ (rc_X5 X hW3) (fun v q9 q => ok0_X5_writeOnSelection ho2 ho4 (by decide) (hW3.2.1 _ _) (by decide) (zw_of q)) hf rfl rfl (Nat.le_of_ble_eq_true rfl) dX5_comment_44 ⟨Nat.le_of_ble_eq_true rfl, Nat.le_of_ble_eq_true rfl⟩ (fun v6 σ5 H locs hv6 zv6 hW5 hS5 hf => ?_)
    exact m_ireti X hr hlocks rfl hv6 (fun h => Bool.noConfusion h) hW5 hS5 (congrArg (fun q => q.2.1) (Option.some.inj hf)) (congrArg (fun q => q.2.2) (Option.some.inj hf)) hQ dX5_comment_47
  · skip
    exact absurd (congrArg (fun q => q.1) (Option.some.inj hf)) (by simp)
set_option maxRecDepth 100000 in
set_option maxHeartbeats 4000000 in
theorem ok0_X5_blockAt {l : Launch} {D : va_G} {cy : Nat → ClassId} {ad : Nat → Nat} {nm nv sz : Nat} {σ : St} {n : Nat} {o0 : Nat} {x1 : Int} {r : Int} {σ2 : St} (ho0 : isPaper o0) (hx1 : inR x1) (hf : fX5_blockAt n σ o0 x1 = some (0, r, σ2)) : CI l yX5_blockAt cX5_blockAt 3 (some .int) ({ frames := 2, cells := 0, slots := 0, locals := 44 } : Room) [.ref (ad o0), .int (i32 x1)] D cy ad nm nv sz σ false r σ2 := by
  refine m_entry RX5 rfl (by decide +kernel) (Nat.le_of_ble_eq_true rfl) ?_
  intro p e s m args below meth c Q hQ hr hlocks X hW hS ls hl
  have hx := X.1
  have hb := X.2.1
  have hl : lv_has ls 3 [(0, .ref (ad o0)), (1, .int (i32 x1))] := hl
  unfold fX5_blockAt at hf
  refine lv_aload_n hx hb dX5_blockAt_0 rfl (lv_at hl 0 rfl) ?_
  refine lv_iload_n hx hb dX5_blockAt_1 rfl (lv_at hl 1 rfl) ?_
  refine m_callVi1 (z := false) (As := [.int (i32 x1)]) (rest := []) X hW hS hl.1 gc_X5_339 hd_X3_shownBlock ⟨rfl, rfl, Nat.le_of_ble_eq_true rfl, Nat.le_of_ble_eq_true rfl⟩ (rc_X3 X hW ho0) (fun v q => ok_X3_shownBlock ho0 hx1 q) hf rfl rfl (Nat.le_of_ble_eq_true rfl) dX5_blockAt_2 ⟨Nat.le_of_ble_eq_true rfl, Nat.le_of_ble_eq_true rfl⟩ (fun v1 H locs hv1 zv1 hWv1 hSv1 hf => ?_)
  refine lv_istore_n (lv' := [(2, .int (i32 v1)), (0, .ref (ad o0)), (1, .int (i32 x1))]) hx hb dX5_blockAt_5 rfl hl (by decide) rfl (fun ls hl => ?_)
  refine lv_iload_n hx hb dX5_blockAt_6 rfl (lv_at hl 0 rfl) ?_
  refine m_bipush (v := (-2)) hx hb dX5_blockAt_7 (by decide) ?_
  refine m_icmp_ne (tgt := 23) hx hb hv1 (by decide) hf dX5_blockAt_9 (by decide) (fun hf => ?_) (fun hf => ?_)
  · skip
    refine lv_iload_n hx hb dX5_blockAt_23 rfl (lv_at hl 0 rfl) ?_
    exact m_ireti X hr hlocks rfl hv1 (fun h => Bool.noConfusion h) hWv1 hSv1 (congrArg (fun q => q.2.1) (Option.some.inj hf)) (congrArg (fun q => q.2.2) (Option.some.inj hf)) hQ dX5_blockAt_24
  · skip
    exact absurd (congrArg (fun q => q.1) (Option.some.inj hf)) (by simp)
set_option maxRecDepth 100000 in
set_option maxHeartbeats 4000000 in
theorem ok0_X5_checkMayWriteIn {l : Launch} {D : va_G} {cy : Nat → ClassId} {ad : Nat → Nat} {nm nv sz : Nat} {σ : St} {o1 : Nat} {o2 : Nat} {x3 : Int} {r : Int} {σ2 : St} (ho1 : isPaper o1) (ho2 : isSite o2) (hx3 : inR x3) (hf : fX5_checkMayWriteIn σ o1 o2 x3 = some (0, r, σ2)) : CV l yX5_checkMayWriteIn cX5_checkMayWriteIn 4 none ({ frames := 2, cells := 0, slots := 0, locals := 42 } : Room) [.ref (ad 0), .ref (ad o1), .ref (ad o2), .int (i32 x3)] D cy ad nm nv sz σ σ2 := by
  refine m_entry RX5 rfl (by decide +kernel) (Nat.le_of_ble_eq_true rfl) ?_
  intro p e s m args below meth c Q hQ hr hlocks X hW hS ls hl
  have hx := X.1
  have hb := X.2.1
  have hl : lv_has ls 4 [(0, .ref (ad 0)), (1, .ref (ad o1)), (2, .ref (ad o2)), (3, .int (i32 x3))] := hl
  unfold fX5_checkMayWriteIn at hf
  refine lv_aload_n hx hb dX5_checkMayWriteIn_0 rfl (lv_at hl 1 rfl) ?_
  refine lv_aload_n hx hb dX5_checkMayWriteIn_1 rfl (lv_at hl 2 rfl) ?_
  refine gN_X4_number X hW ho2 (nf_X5_150 X.2.2.2.2.2.2.2.2) dX5_checkMayWriteIn_2 ?_
  refine lv_iload_n hx hb dX5_checkMayWriteIn_5 rfl (lv_at hl 3 rfl) ?_
  refine m_callVi1 (z := false) (As := [.int (i32 (σ o2 0)), .int (i32 x3)]) (rest := []) X hW hS hl.1 gc_X5_307 hd_X3_levelIn ⟨rfl, rfl, Nat.le_of_ble_eq_true rfl, Nat.le_of_ble_eq_true rfl⟩ (rc_X3 X hW ho1) (fun v q => ok_X3_levelIn ho1 (hW.2.1 _ _) hx3 q) hf rfl rfl (Nat.le_of_ble_eq_true rfl) dX5_checkMayWriteIn_6 ⟨Nat.le_of_ble_eq_true rfl, Nat.le_of_ble_eq_true rfl⟩ (fun v1 H locs hv1 zv1 hWv1 hSv1 hf => ?_)
  refine m_if_eq (tgt := 23) hx hb hv1 hf dX5_checkMayWriteIn_9 (by decide) (fun hf => ?_) (fun hf => ?_)
  · skip
    refine lv_aload_n hx hb dX5_checkMayWriteIn_23 rfl (lv_at hl 0 rfl) ?_
    refine m_const (v := 1) hx hb dX5_checkMayWriteIn_24 rfl ?_
    have hf := xw_b1 hf
    refine m_callVv (As := [.int (i32 1)]) (rest := []) X hWv1 hSv1 hl.1 gc_X5_105 hd_X5_checkRoomFor ⟨rfl, rfl, Nat.le_of_ble_eq_true rfl, Nat.le_of_ble_eq_true rfl⟩ (rc_X5 X hWv1) (fun q9 q => ok0_X5_checkRoomFor (by decide) (zv_of q).choose_spec) hf rfl rfl (Nat.le_of_ble_eq_true rfl) dX5_checkMayWriteIn_25 ⟨Nat.le_of_ble_eq_true rfl, Nat.le_of_ble_eq_true rfl⟩ (fun σ2 H locs hW2 hS2 hf => ?_)
    exact m_vret X hr hlocks hW2 hS2 (congrArg (fun q => q.2.2) (Option.some.inj hf)) hQ dX5_checkMayWriteIn_28
  · skip
    exact absurd (congrArg (fun q => q.1) (Option.some.inj hf)) (by simp)
set_option maxRecDepth 100000 in
set_option maxHeartbeats 4000000 in
theorem ok0_X5_setKind {l : Launch} {D : va_G} {cy : Nat → ClassId} {ad : Nat → Nat} {nm nv sz : Nat} {σ : St} {n : Nat} {x1 : Int} {x2 : Int} {x3 : Int} {r : Int} {σ2 : St} (hx1 : inR x1) (hx2 : inR x2) (hx3 : inR x3) (hf : fX5_setKind n σ x1 x2 x3 = some (0, r, σ2)) : CI l yX5_setKind cX5_setKind 7 (some .int) ({ frames := 6, cells := 0, slots := 0, locals := 163 } : Room) [.ref (ad 0), .int (i32 x1), .int (i32 x2), .int (i32 x3)] D cy ad nm nv sz σ false r σ2 := by
  refine m_entry RX5 rfl (by decide +kernel) (Nat.le_of_ble_eq_true rfl) ?_
  intro p e s m args below meth c Q hQ hr hlocks X hW hS ls hl
  have hx := X.1
  have hb := X.2.1
  have hl : lv_has ls 7 [(0, .ref (ad 0)), (1, .int (i32 x1)), (2, .int (i32 x2)), (3, .int (i32 x3))] := hl
  unfold fX5_setKind at hf
  have hc31 : ∀ (σ : St) (H : Heap) (locs : List Loc) (ls : Array Slot), fX5_setKind_J31 n σ x1 x2 x3 = some (0, r, σ2) → Wd D cy ad nm nv σ H → va_S (AW ad nm nv sz) s.heap H locs → lv_has ls 7 [] → W p l e ({ frames := 6, cells := 0, slots := 0, locals := 163 } : Room) s m args below meth c H locs 0 0 Q (F0 m 31 ls []) := by
    intro σ H locs ls hf hW hS hl
    unfold fX5_setKind_J31 at hf
    exact absurd (congrArg (fun q => q.1) (Option.some.inj hf)) (by simp)
  refine lv_aload_n hx hb dX5_setKind_0 rfl (lv_at hl 0 rfl) ?_
  refine lv_iload_n hx hb dX5_setKind_1 rfl (lv_at hl 1 rfl) ?_
  have hf := xw_b2 hf
  refine m_callVr (K := isSite) (As := [.int (i32 x1)]) (rest := []) X hW hS hl.1 gc_X5_61 hd_X5_siteAt ⟨rfl, rfl, Nat.le_of_ble_eq_true rfl, Nat.le_of_ble_eq_true rfl⟩ (rc_X5 X hW) (fun v q9 q => ok0_X5_siteAt hx1 (zw_of q)) hf rfl rfl (Nat.le_of_ble_eq_true rfl) dX5_setKind_2 ⟨Nat.le_of_ble_eq_true rfl, Nat.le_of_ble_eq_true rfl⟩ (fun o2 σ1 H locs ho2 hW1 hS1 hf => ?_)
  refine lv_astore (lv' := [(4, .ref (ad o2)), (0, .ref (ad 0)), (1, .int (i32 x1)), (2, .int (i32 x2)), (3, .int (i32 x3))]) hx hb dX5_setKind_5 hl (by decide) rfl (fun ls hl => ?_)
  refine lv_aload hx hb dX5_setKind_7 (lv_at hl 0 rfl) ?_
  refine m_callSr (K := isPaper) (As := [.ref (ad o2)]) (rest := []) X hW1 hS1 hl.1 gc_X5_72 hd_X5_paperOf ⟨rfl, rfl, Nat.le_of_ble_eq_true rfl, Nat.le_of_ble_eq_true rfl⟩ (fun v q9 q => ok_X5_paperOf ho2 q) hf rfl rfl (Nat.le_of_ble_eq_true rfl) dX5_setKind_9 ⟨Nat.le_of_ble_eq_true rfl, Nat.le_of_ble_eq_true rfl⟩ (fun o4 σ3 H locs ho4 hW3 hS3 hf => ?_)
  refine lv_astore (lv' := [(5, .ref (ad o4)), (4, .ref (ad o2)), (0, .ref (ad 0)), (1, .int (i32 x1)), (2, .int (i32 x2)), (3, .int (i32 x3))]) hx hb dX5_setKind_12 hl (by decide) rfl (fun ls hl => ?_)
  refine lv_aload hx hb dX5_setKind_14 (lv_at hl 0 rfl) ?_
  refine lv_iload_n hx hb dX5_setKind_16 rfl (lv_at hl 4 rfl) ?_
  have hf := xw_b2 hf
  refine m_callSi (z := false) (As := [.ref (ad o4), .int (i32 x2)]) (rest := []) X hW3 hS3 hl.1 gc_X5_137 hd_X5_blockAt ⟨rfl, rfl, Nat.le_of_ble_eq_true rfl, Nat.le_of_ble_eq_true rfl⟩ (fun v q9 q => ok0_X5_blockAt ho4 hx2 (zw_of q)) hf rfl rfl (Nat.le_of_ble_eq_true rfl) dX5_setKind_17 ⟨Nat.le_of_ble_eq_true rfl, Nat.le_of_ble_eq_true rfl⟩ (fun v6 σ5 H locs hv6 zv6 hW5 hS5 hf => ?_)
  refine lv_istore (lv' := [(6, .int (i32 v6)), (5, .ref (ad o4)), (4, .ref (ad o2)), (0, .ref (ad 0)), (1, .int (i32 x1)), (2, .int (i32 x2)), (3, .int (i32 x3))]) hx hb dX5_setKind_20 hl (by decide) rfl (fun ls hl => ?_)
  refine lv_iload_n hx hb dX5_setKind_22 rfl (lv_at hl 6 rfl) ?_
  refine m_if_lt (tgt := 31) hx hb hx3 hf dX5_setKind_23 (by decide) (fun hf => ?_) (fun hf => ?_)
  · skip
    exact hc31 _ _ _ _  hf hW5 hS5 (lv_sub hl [] rfl)
  · skip
    refine lv_iload_n hx hb dX5_setKind_26 rfl (lv_at hl 6 rfl) ?_
    refine m_const (v := 4) hx hb dX5_setKind_27 rfl ?_
    refine m_icmp_lt (tgt := 41) hx hb hx3 (by decide) hf dX5_setKind_28 (by decide) (fun hf => ?_) (fun hf => ?_)
    · skip
      refine lv_aload_n hx hb dX5_setKind_41 rfl (lv_at hl 3 rfl) ?_
      refine lv_aload hx hb dX5_setKind_42 (lv_at hl 1 rfl) ?_
      refine lv_aload hx hb dX5_setKind_44 (lv_at hl 2 rfl) ?_
      refine lv_iload hx hb dX5_setKind_46 (lv_at hl 0 rfl) ?_
      have hf := xw_b1 hf
      refine m_callVv (As := [.ref (ad o4), .ref (ad o2), .int (i32 v6)]) (rest := []) X hW5 hS5 hl.1 gc_X5_142 hd_X5_checkMayWriteIn ⟨rfl, rfl, Nat.le_of_ble_eq_true rfl, Nat.le_of_ble_eq_true rfl⟩ (rc_X5 X hW5) (fun q9 q => ok0_X5_checkMayWriteIn ho4 ho2 hv6 (zv_of q).choose_spec) hf rfl rfl (Nat.le_of_ble_eq_true rfl) dX5_setKind_48 ⟨Nat.le_of_ble_eq_true rfl, Nat.le_of_ble_eq_true rfl⟩ (fun σ7 H locs hW7 hS7 hf => ?_)
      refine lv_aload_n hx hb dX5_setKind_51 rfl (lv_at hl 3 rfl) ?_
      refine lv_aload hx hb dX5_setKind_52 (lv_at hl 2 rfl) ?_
      refine m_const (v := 5) hx hb dX5_setKind_54 rfl ?_
      refine lv_iload hx hb dX5_setKind_55 (lv_at hl 0 rfl) ?_
      refine m_const (v := (-1)) hx hb dX5_setKind_57 rfl ?_
      refine lv_iload_n hx hb dX5_setKind_58 rfl (lv_at hl 6 rfl) ?_
      refine m_const (v := 0) hx hb dX5_setKind_59 rfl ?_
      refine m_callVi (z := false) (As := [.ref (ad o2), .int (i32 5), .int (i32 v6), .int (i32 (-1)), .int (i32 x3), .int (i32 0)]) (rest := []) X hW7 hS7 hl.1 gc_X5_117 hd_X5_make ⟨rfl, rfl, Nat.le_of_ble_eq_true rfl, Nat.le_of_ble_eq_true rfl⟩ (rc_X5 X hW7) (fun v q9 q => ok_X5_make ho2 (by decide) hv6 (by decide) hx3 (by decide) q) hf rfl rfl (Nat.le_of_ble_eq_true rfl) dX5_setKind_60 ⟨Nat.le_of_ble_eq_true rfl, Nat.le_of_ble_eq_true rfl⟩ (fun v9 σ8 H locs hv9 zv9 hW8 hS8 hf => ?_)
      exact m_ireti X hr hlocks rfl hv9 (fun h => Bool.noConfusion h) hW8 hS8 (congrArg (fun q => q.2.1) (Option.some.inj hf)) (congrArg (fun q => q.2.2) (Option.some.inj hf)) hQ dX5_setKind_63
    · skip
      exact hc31 _ _ _ _  hf hW5 hS5 (lv_sub hl [] rfl)
set_option maxRecDepth 100000 in
set_option maxHeartbeats 4000000 in
theorem ok0_X5_nest {l : Launch} {D : va_G} {cy : Nat → ClassId} {ad : Nat → Nat} {nm nv sz : Nat} {σ : St} {n : Nat} {x1 : Int} {x2 : Int} {x3 : Int} {r : Int} {σ2 : St} (hx1 : inR x1) (hx2 : inR x2) (hx3 : inR x3) (hf : fX5_nest n σ x1 x2 x3 = some (0, r, σ2)) : CI l yX5_nest cX5_nest 8 (some .int) ({ frames := 6, cells := 0, slots := 0, locals := 163 } : Room) [.ref (ad 0), .int (i32 x1), .int (i32 x2), .int (i32 x3)] D cy ad nm nv sz σ false r σ2 := by
  refine m_entry RX5 rfl (by decide +kernel) (Nat.le_of_ble_eq_true rfl) ?_
  intro p e s m args below meth c Q hQ hr hlocks X hW hS ls hl
  have hx := X.1
  have hb := X.2.1
  have hl : lv_has ls 8 [(0, .ref (ad 0)), (1, .int (i32 x1)), (2, .int (i32 x2)), (3, .int (i32 x3))] := hl
  unfold fX5_nest at hf
  have hc38 : ∀ (σ : St) (H : Heap) (locs : List Loc) (ls : Array Slot) (o4 : Nat) (o5 : Nat) (x6 : Int) (t0 : Int), isSite o4 → isPaper o5 → inR x6 → inR t0 → fX5_nest_J38 n σ x1 x2 x3 o4 o5 x6 t0 = some (0, r, σ2) → Wd D cy ad nm nv σ H → va_S (AW ad nm nv sz) s.heap H locs → lv_has ls 8 [(0, .ref (ad 0)), (4, .ref (ad o4)), (5, .ref (ad o5)), (6, .int (i32 x6))] → W p l e ({ frames := 6, cells := 0, slots := 0, locals := 163 } : Room) s m args below meth c H locs 0 0 Q (F0 m 38 ls [.int (i32 t0)]) := by
    intro σ H locs ls o4 o5 x6 t0 ho4 ho5 hx6 ht0 hf hW hS hl
    unfold fX5_nest_J38 at hf
    refine lv_istore (lv' := [(7, .int (i32 t0)), (0, .ref (ad 0)), (4, .ref (ad o4)), (5, .ref (ad o5)), (6, .int (i32 x6))]) hx hb dX5_nest_38 hl (by decide) rfl (fun ls hl => ?_)
    refine lv_aload_n hx hb dX5_nest_40 rfl (lv_at hl 1 rfl) ?_
    refine lv_aload hx hb dX5_nest_41 (lv_at hl 3 rfl) ?_
    refine lv_aload hx hb dX5_nest_43 (lv_at hl 2 rfl) ?_
    refine lv_iload hx hb dX5_nest_45 (lv_at hl 4 rfl) ?_
    have hf := xw_b1 hf
    refine m_callVv (As := [.ref (ad o5), .ref (ad o4), .int (i32 x6)]) (rest := []) X hW hS hl.1 gc_X5_142 hd_X5_checkMayWriteIn ⟨rfl, rfl, Nat.le_of_ble_eq_true rfl, Nat.le_of_ble_eq_true rfl⟩ (rc_X5 X hW) (fun q9 q => ok0_X5_checkMayWriteIn ho5 ho4 hx6 (zv_of q).choose_spec) hf rfl rfl (Nat.le_of_ble_eq_true rfl) dX5_nest_47 ⟨Nat.le_of_ble_eq_true rfl, Nat.le_of_ble_eq_true rfl⟩ (fun σ9 H locs hW9 hS9 hf => ?_)
    refine lv_aload_n hx hb dX5_nest_50 rfl (lv_at hl 1 rfl) ?_
    refine lv_aload hx hb dX5_nest_51 (lv_at hl 2 rfl) ?_
    refine m_bipush (v := 6) hx hb dX5_nest_53 (by decide) ?_
    refine lv_iload hx hb dX5_nest_55 (lv_at hl 4 rfl) ?_
    refine lv_iload hx hb dX5_nest_57 (lv_at hl 0 rfl) ?_
    refine m_const (v := 0) hx hb dX5_nest_59 rfl ?_
    refine m_const (v := 0) hx hb dX5_nest_60 rfl ?_
    refine m_callVi (z := false) (As := [.ref (ad o4), .int (i32 6), .int (i32 x6), .int (i32 t0), .int (i32 0), .int (i32 0)]) (rest := []) X hW9 hS9 hl.1 gc_X5_117 hd_X5_make ⟨rfl, rfl, Nat.le_of_ble_eq_true rfl, Nat.le_of_ble_eq_true rfl⟩ (rc_X5 X hW9) (fun v q9 q => ok_X5_make ho4 (by decide) hx6 ht0 (by decide) (by decide) q) hf rfl rfl (Nat.le_of_ble_eq_true rfl) dX5_nest_61 ⟨Nat.le_of_ble_eq_true rfl, Nat.le_of_ble_eq_true rfl⟩ (fun v11 σ10 H locs hv11 zv11 hW10 hS10 hf => ?_)
    exact m_ireti X hr hlocks rfl hv11 (fun h => Bool.noConfusion h) hW10 hS10 (congrArg (fun q => q.2.1) (Option.some.inj hf)) (congrArg (fun q => q.2.2) (Option.some.inj hf)) hQ dX5_nest_64
  refine lv_aload_n hx hb dX5_nest_0 rfl (lv_at hl 0 rfl) ?_
  refine lv_iload_n hx hb dX5_nest_1 rfl (lv_at hl 1 rfl) ?_
  have hf := xw_b2 hf
  refine m_callVr (K := isSite) (As := [.int (i32 x1)]) (rest := []) X hW hS hl.1 gc_X5_61 hd_X5_siteAt ⟨rfl, rfl, Nat.le_of_ble_eq_true rfl, Nat.le_of_ble_eq_true rfl⟩ (rc_X5 X hW) (fun v q9 q => ok0_X5_siteAt hx1 (zw_of q)) hf rfl rfl (Nat.le_of_ble_eq_true rfl) dX5_nest_2 ⟨Nat.le_of_ble_eq_true rfl, Nat.le_of_ble_eq_true rfl⟩ (fun o2 σ1 H locs ho2 hW1 hS1 hf => ?_)
  refine lv_astore (lv' := [(4, .ref (ad o2)), (0, .ref (ad 0)), (1, .int (i32 x1)), (2, .int (i32 x2)), (3, .int (i32 x3))]) hx hb dX5_nest_5 hl (by decide) rfl (fun ls hl => ?_)
  refine lv_aload hx hb dX5_nest_7 (lv_at hl 0 rfl) ?_
  refine m_callSr (K := isPaper) (As := [.ref (ad o2)]) (rest := []) X hW1 hS1 hl.1 gc_X5_72 hd_X5_paperOf ⟨rfl, rfl, Nat.le_of_ble_eq_true rfl, Nat.le_of_ble_eq_true rfl⟩ (fun v q9 q => ok_X5_paperOf ho2 q) hf rfl rfl (Nat.le_of_ble_eq_true rfl) dX5_nest_9 ⟨Nat.le_of_ble_eq_true rfl, Nat.le_of_ble_eq_true rfl⟩ (fun o4 σ3 H locs ho4 hW3 hS3 hf => ?_)
  refine lv_astore (lv' := [(5, .ref (ad o4)), (4, .ref (ad o2)), (0, .ref (ad 0)), (1, .int (i32 x1)), (2, .int (i32 x2)), (3, .int (i32 x3))]) hx hb dX5_nest_12 hl (by decide) rfl (fun ls hl => ?_)
  refine lv_aload hx hb dX5_nest_14 (lv_at hl 0 rfl) ?_
  refine lv_iload_n hx hb dX5_nest_16 rfl (lv_at hl 4 rfl) ?_
  have hf := xw_b2 hf
  refine m_callSi (z := false) (As := [.ref (ad o4), .int (i32 x2)]) (rest := []) X hW3 hS3 hl.1 gc_X5_137 hd_X5_blockAt ⟨rfl, rfl, Nat.le_of_ble_eq_true rfl, Nat.le_of_ble_eq_true rfl⟩ (fun v q9 q => ok0_X5_blockAt ho4 hx2 (zw_of q)) hf rfl rfl (Nat.le_of_ble_eq_true rfl) dX5_nest_17 ⟨Nat.le_of_ble_eq_true rfl, Nat.le_of_ble_eq_true rfl⟩ (fun v6 σ5 H locs hv6 zv6 hW5 hS5 hf => ?_)
  refine lv_istore (lv' := [(6, .int (i32 v6)), (5, .ref (ad o4)), (4, .ref (ad o2)), (0, .ref (ad 0)), (1, .int (i32 x1)), (2, .int (i32 x2)), (3, .int (i32 x3))]) hx hb dX5_nest_20 hl (by decide) rfl (fun ls hl => ?_)
  refine lv_iload_n hx hb dX5_nest_22 rfl (lv_at hl 6 rfl) ?_
  refine m_const (v := (-1)) hx hb dX5_nest_23 rfl ?_
  refine m_icmp_ne (tgt := 32) hx hb hx3 (by decide) hf dX5_nest_24 (by decide) (fun hf => ?_) (fun hf => ?_)
  · skip
    refine lv_aload hx hb dX5_nest_32 (lv_at hl 1 rfl) ?_
    refine lv_iload_n hx hb dX5_nest_34 rfl (lv_at hl 6 rfl) ?_
    have hf := xw_b2 hf
    refine m_callSi (z := false) (As := [.ref (ad o4), .int (i32 x3)]) (rest := []) X hW5 hS5 hl.1 gc_X5_137 hd_X5_blockAt ⟨rfl, rfl, Nat.le_of_ble_eq_true rfl, Nat.le_of_ble_eq_true rfl⟩ (fun v q9 q => ok0_X5_blockAt ho4 hx3 (zw_of q)) hf rfl rfl (Nat.le_of_ble_eq_true rfl) dX5_nest_35 ⟨Nat.le_of_ble_eq_true rfl, Nat.le_of_ble_eq_true rfl⟩ (fun v8 σ7 H locs hv8 zv8 hW7 hS7 hf => ?_)
    exact hc38 _ _ _ _ o2 o4 v6 v8 ho2 ho4 hv6 hv8 hf hW7 hS7 (lv_sub hl [3, 2, 1, 0] rfl)
  · skip
    refine m_bipush (v := (-2)) hx hb dX5_nest_27 (by decide) ?_
    refine lv_goto (tgt := 38) hx hb dX5_nest_29 (by decide) ?_
    exact hc38 _ _ _ _ o2 o4 v6 (-2) ho2 ho4 hv6 (by decide) hf hW5 hS5 (lv_sub hl [3, 2, 1, 0] rfl)
set_option maxRecDepth 100000 in
set_option maxHeartbeats 4000000 in
theorem ok0_X5_propose {l : Launch} {D : va_G} {cy : Nat → ClassId} {ad : Nat → Nat} {nm nv sz : Nat} {σ : St} {x1 : Int} {x2 : Int} {r : Int} {σ2 : St} (hx1 : inR x1) (hx2 : inR x2) (hf : fX5_propose σ x1 x2 = some (0, r, σ2)) : CI l yX5_propose cX5_propose 5 (some .boolean) ({ frames := 1, cells := 0, slots := 0, locals := 21 } : Room) [.ref (ad 0), .int (i32 x1), .int (i32 x2)] D cy ad nm nv sz σ true r σ2 := by
  refine m_entry RX5 rfl (by decide +kernel) (Nat.le_of_ble_eq_true rfl) ?_
  intro p e s m args below meth c Q hQ hr hlocks X hW hS ls hl
  have hx := X.1
  have hb := X.2.1
  have hl : lv_has ls 5 [(0, .ref (ad 0)), (1, .int (i32 x1)), (2, .int (i32 x2))] := hl
  unfold fX5_propose at hf
  refine lv_aload_n hx hb dX5_propose_0 rfl (lv_at hl 0 rfl) ?_
  refine lv_iload_n hx hb dX5_propose_1 rfl (lv_at hl 1 rfl) ?_
  have hf := xw_b2 hf
  refine m_callVr (K := isSite) (As := [.int (i32 x1)]) (rest := []) X hW hS hl.1 gc_X5_61 hd_X5_siteAt ⟨rfl, rfl, Nat.le_of_ble_eq_true rfl, Nat.le_of_ble_eq_true rfl⟩ (rc_X5 X hW) (fun v q9 q => ok0_X5_siteAt hx1 (zw_of q)) hf rfl rfl (Nat.le_of_ble_eq_true rfl) dX5_propose_2 ⟨Nat.le_of_ble_eq_true rfl, Nat.le_of_ble_eq_true rfl⟩ (fun o2 σ1 H locs ho2 hW1 hS1 hf => ?_)
  refine lv_astore_n (lv' := [(3, .ref (ad o2)), (0, .ref (ad 0)), (1, .int (i32 x1)), (2, .int (i32 x2))]) hx hb dX5_propose_5 rfl hl (by decide) rfl (fun ls hl => ?_)
  refine lv_aload_n hx hb dX5_propose_6 rfl (lv_at hl 0 rfl) ?_
  refine gN_X4_proposing X hW1 ho2 (nf_X5_113 X.2.2.2.2.2.2.2.2) dX5_propose_7 ?_
  refine lv_istore (lv' := [(4, .int (i32 (σ1 o2 6))), (3, .ref (ad o2)), (0, .ref (ad 0)), (1, .int (i32 x1)), (2, .int (i32 x2))]) hx hb dX5_propose_10 hl (by decide) rfl (fun ls hl => ?_)
  refine lv_aload_n hx hb dX5_propose_12 rfl (lv_at hl 1 rfl) ?_
  refine lv_iload_n hx hb dX5_propose_13 rfl (lv_at hl 4 rfl) ?_
  refine pN_X4_proposing X hW1 hS1 ho2 hx2 hf (nf_X5_113 X.2.2.2.2.2.2.2.2) dX5_propose_14 (fun σ3 H locs hW3 hS3 hf => ?_)
  refine lv_iload hx hb dX5_propose_17 (lv_at hl 0 rfl) ?_
  obtain ⟨hb4, hf⟩ := rb_of hf
  exact m_ireti X hr hlocks (nar_b hb4).1 (hW1.2.1 _ _) (fun _ => hb4) hW3 hS3 (congrArg (fun q => q.2.1) (Option.some.inj hf)) (congrArg (fun q => q.2.2) (Option.some.inj hf)) hQ dX5_propose_19
set_option maxRecDepth 100000 in
set_option maxHeartbeats 4000000 in
theorem ok0_X5_checkHeld {l : Launch} {D : va_G} {cy : Nat → ClassId} {ad : Nat → Nat} {nm nv sz : Nat} {σ : St} {o0 : Nat} {x1 : Int} {r : Int} {σ2 : St} (ho0 : isSite o0) (hx1 : inR x1) (hf : fX5_checkHeld σ o0 x1 = some (0, r, σ2)) : CV l yX5_checkHeld cX5_checkHeld 2 none ({ frames := 1, cells := 0, slots := 0, locals := 21 } : Room) [.ref (ad o0), .int (i32 x1)] D cy ad nm nv sz σ σ2 := by
  refine m_entry RX5 rfl (by decide +kernel) (Nat.le_of_ble_eq_true rfl) ?_
  intro p e s m args below meth c Q hQ hr hlocks X hW hS ls hl
  have hx := X.1
  have hb := X.2.1
  have hl : lv_has ls 2 [(0, .ref (ad o0)), (1, .int (i32 x1))] := hl
  unfold fX5_checkHeld at hf
  refine lv_aload_n hx hb dX5_checkHeld_0 rfl (lv_at hl 0 rfl) ?_
  refine gN_X4_held X hW ho0 (nf_X5_193 X.2.2.2.2.2.2.2.2) dX5_checkHeld_1 ?_
  refine lv_iload_n hx hb dX5_checkHeld_4 rfl (lv_at hl 1 rfl) ?_
  refine m_callVi1 (z := true) (As := [.int (i32 x1)]) (rest := []) X hW hS hl.1 gc_X5_208 hd_X0_contains ⟨rfl, rfl, Nat.le_of_ble_eq_true rfl, Nat.le_of_ble_eq_true rfl⟩ (rc_X0 X hW (r_X4_held ho0)) (fun v q => ok_X0_contains (r_X4_held ho0) hx1 q) hf rfl rfl (Nat.le_of_ble_eq_true rfl) dX5_checkHeld_5 ⟨Nat.le_of_ble_eq_true rfl, Nat.le_of_ble_eq_true rfl⟩ (fun v1 H locs hv1 zv1 hWv1 hSv1 hf => ?_)
  refine m_if_ne (tgt := 22) hx hb hv1 hf dX5_checkHeld_8 (by decide) (fun hf => ?_) (fun hf => ?_)
  · skip
    exact m_vret X hr hlocks hWv1 hSv1 (congrArg (fun q => q.2.2) (Option.some.inj hf)) hQ dX5_checkHeld_22
  · skip
    exact absurd (congrArg (fun q => q.1) (Option.some.inj hf)) (by simp)
set_option maxRecDepth 100000 in
set_option maxHeartbeats 4000000 in
theorem ok0_X5_decide {l : Launch} {D : va_G} {cy : Nat → ClassId} {ad : Nat → Nat} {nm nv sz : Nat} {σ : St} {n : Nat} {x1 : Int} {x2 : Int} {x3 : Int} {r : Int} {σ2 : St} (hx1 : inR x1) (hx2 : inR x2) (hx3 : inR x3) (hf : fX5_decide n σ x1 x2 x3 = some (0, r, σ2)) : CI l yX5_decide cX5_decide 5 (some .int) ({ frames := 6, cells := 0, slots := 0, locals := 163 } : Room) [.ref (ad 0), .int (i32 x1), .int (i32 x2), .int (i32 x3)] D cy ad nm nv sz σ false r σ2 := by
  refine m_entry RX5 rfl (by decide +kernel) (Nat.le_of_ble_eq_true rfl) ?_
  intro p e s m args below meth c Q hQ hr hlocks X hW hS ls hl
  have hx := X.1
  have hb := X.2.1
  have hl : lv_has ls 5 [(0, .ref (ad 0)), (1, .int (i32 x1)), (2, .int (i32 x2)), (3, .int (i32 x3))] := hl
  unfold fX5_decide at hf
  have hc59 : ∀ (σ : St) (H : Heap) (locs : List Loc) (ls : Array Slot) (t0 : Int) (u1 : Nat), inR t0 → isSite u1 → fX5_decide_J59 n σ x1 x2 x3 t0 u1 = some (0, r, σ2) → Wd D cy ad nm nv σ H → va_S (AW ad nm nv sz) s.heap H locs → lv_has ls 5 [(2, .int (i32 x2))] → W p l e ({ frames := 6, cells := 0, slots := 0, locals := 163 } : Room) s m args below meth c H locs 0 0 Q (F0 m 59 ls [.int (i32 t0), .ref (ad u1), .ref (ad 0)]) := by
    intro σ H locs ls t0 u1 ht0 hu1 hf hW hS hl
    unfold fX5_decide_J59 at hf
    refine lv_iload_n hx hb dX5_decide_59 rfl (lv_at hl 0 rfl) ?_
    refine m_const (v := (-1)) hx hb dX5_decide_60 rfl ?_
    refine m_const (v := 0) hx hb dX5_decide_61 rfl ?_
    refine m_const (v := 0) hx hb dX5_decide_62 rfl ?_
    refine m_callVi (z := false) (As := [.ref (ad u1), .int (i32 t0), .int (i32 x2), .int (i32 (-1)), .int (i32 0), .int (i32 0)]) (rest := []) X hW hS hl.1 gc_X5_117 hd_X5_make ⟨rfl, rfl, Nat.le_of_ble_eq_true rfl, Nat.le_of_ble_eq_true rfl⟩ (rc_X5 X hW) (fun v q9 q => ok_X5_make hu1 ht0 hx2 (by decide) (by decide) (by decide) q) hf rfl rfl (Nat.le_of_ble_eq_true rfl) dX5_decide_63 ⟨Nat.le_of_ble_eq_true rfl, Nat.le_of_ble_eq_true rfl⟩ (fun v9 σ8 H locs hv9 zv9 hW8 hS8 hf => ?_)
    exact m_ireti X hr hlocks rfl hv9 (fun h => Bool.noConfusion h) hW8 hS8 (congrArg (fun q => q.2.1) (Option.some.inj hf)) (congrArg (fun q => q.2.2) (Option.some.inj hf)) hQ dX5_decide_66
  refine lv_aload_n hx hb dX5_decide_0 rfl (lv_at hl 0 rfl) ?_
  refine lv_iload_n hx hb dX5_decide_1 rfl (lv_at hl 1 rfl) ?_
  have hf := xw_b2 hf
  refine m_callVr (K := isSite) (As := [.int (i32 x1)]) (rest := []) X hW hS hl.1 gc_X5_61 hd_X5_siteAt ⟨rfl, rfl, Nat.le_of_ble_eq_true rfl, Nat.le_of_ble_eq_true rfl⟩ (rc_X5 X hW) (fun v q9 q => ok0_X5_siteAt hx1 (zw_of q)) hf rfl rfl (Nat.le_of_ble_eq_true rfl) dX5_decide_2 ⟨Nat.le_of_ble_eq_true rfl, Nat.le_of_ble_eq_true rfl⟩ (fun o2 σ1 H locs ho2 hW1 hS1 hf => ?_)
  refine lv_astore (lv' := [(4, .ref (ad o2)), (0, .ref (ad 0)), (1, .int (i32 x1)), (2, .int (i32 x2)), (3, .int (i32 x3))]) hx hb dX5_decide_5 hl (by decide) rfl (fun ls hl => ?_)
  refine lv_aload hx hb dX5_decide_7 (lv_at hl 0 rfl) ?_
  refine lv_iload_n hx hb dX5_decide_9 rfl (lv_at hl 3 rfl) ?_
  have hf := xw_b1 hf
  refine m_callSv (As := [.ref (ad o2), .int (i32 x2)]) (rest := []) X hW1 hS1 hl.1 gc_X5_146 hd_X5_checkHeld ⟨rfl, rfl, Nat.le_of_ble_eq_true rfl, Nat.le_of_ble_eq_true rfl⟩ (fun q9 q => ok0_X5_checkHeld ho2 hx2 (zv_of q).choose_spec) hf rfl rfl (Nat.le_of_ble_eq_true rfl) dX5_decide_10 ⟨Nat.le_of_ble_eq_true rfl, Nat.le_of_ble_eq_true rfl⟩ (fun σ3 H locs hW3 hS3 hf => ?_)
  refine lv_aload hx hb dX5_decide_13 (lv_at hl 0 rfl) ?_
  refine m_callSr (K := isPaper) (As := [.ref (ad o2)]) (rest := []) X hW3 hS3 hl.1 gc_X5_72 hd_X5_paperOf ⟨rfl, rfl, Nat.le_of_ble_eq_true rfl, Nat.le_of_ble_eq_true rfl⟩ (fun v q9 q => ok_X5_paperOf ho2 q) hf rfl rfl (Nat.le_of_ble_eq_true rfl) dX5_decide_15 ⟨Nat.le_of_ble_eq_true rfl, Nat.le_of_ble_eq_true rfl⟩ (fun o5 σ4 H locs ho5 hW4 hS4 hf => ?_)
  refine lv_aload hx hb dX5_decide_18 (lv_at hl 0 rfl) ?_
  refine gN_X4_number X hW4 ho2 (nf_X5_150 X.2.2.2.2.2.2.2.2) dX5_decide_20 ?_
  refine lv_iload_n hx hb dX5_decide_23 rfl (lv_at hl 3 rfl) ?_
  refine m_callVi1 (z := true) (As := [.int (i32 (σ4 o2 0)), .int (i32 x2)]) (rest := []) X hW4 hS4 hl.1 gc_X5_153 hd_X3_mayDecide ⟨rfl, rfl, Nat.le_of_ble_eq_true rfl, Nat.le_of_ble_eq_true rfl⟩ (rc_X3 X hW4 ho5) (fun v q => ok_X3_mayDecide ho5 (hW4.2.1 _ _) hx2 q) hf rfl rfl (Nat.le_of_ble_eq_true rfl) dX5_decide_24 ⟨Nat.le_of_ble_eq_true rfl, Nat.le_of_ble_eq_true rfl⟩ (fun v6 H locs hv6 zv6 hWv6 hSv6 hf => ?_)
  refine m_if_ne (tgt := 40) hx hb hv6 hf dX5_decide_27 (by decide) (fun hf => ?_) (fun hf => ?_)
  · skip
    refine lv_aload_n hx hb dX5_decide_40 rfl (lv_at hl 1 rfl) ?_
    refine m_const (v := 1) hx hb dX5_decide_41 rfl ?_
    have hf := xw_b1 hf
    refine m_callVv (As := [.int (i32 1)]) (rest := []) X hWv6 hSv6 hl.1 gc_X5_105 hd_X5_checkRoomFor ⟨rfl, rfl, Nat.le_of_ble_eq_true rfl, Nat.le_of_ble_eq_true rfl⟩ (rc_X5 X hWv6) (fun q9 q => ok0_X5_checkRoomFor (by decide) (zv_of q).choose_spec) hf rfl rfl (Nat.le_of_ble_eq_true rfl) dX5_decide_42 ⟨Nat.le_of_ble_eq_true rfl, Nat.le_of_ble_eq_true rfl⟩ (fun σ7 H locs hW7 hS7 hf => ?_)
    refine lv_aload_n hx hb dX5_decide_45 rfl (lv_at hl 1 rfl) ?_
    refine lv_aload hx hb dX5_decide_46 (lv_at hl 0 rfl) ?_
    refine lv_iload_n hx hb dX5_decide_48 rfl (lv_at hl 4 rfl) ?_
    refine m_if_eq (tgt := 57) hx hb hx3 hf dX5_decide_49 (by decide) (fun hf => ?_) (fun hf => ?_)
    · skip
      refine m_bipush (v := 9) hx hb dX5_decide_57 (by decide) ?_
      exact hc59 _ _ _ _ 9 o2 (by decide) ho2 hf hW7 hS7 (lv_sub hl [3] rfl)
    · skip
      refine m_bipush (v := 8) hx hb dX5_decide_52 (by decide) ?_
      refine lv_goto (tgt := 59) hx hb dX5_decide_54 (by decide) ?_
      exact hc59 _ _ _ _ 8 o2 (by decide) ho2 hf hW7 hS7 (lv_sub hl [3] rfl)
  · skip
    exact absurd (congrArg (fun q => q.1) (Option.some.inj hf)) (by simp)
set_option maxRecDepth 100000 in
set_option maxHeartbeats 4000000 in
theorem ok0_X5_allow {l : Launch} {D : va_G} {cy : Nat → ClassId} {ad : Nat → Nat} {nm nv sz : Nat} {σ : St} {n : Nat} {x1 : Int} {x2 : Int} {x3 : Int} {r : Int} {σ2 : St} (hx1 : inR x1) (hx2 : inR x2) (hx3 : inR x3) (hf : fX5_allow n σ x1 x2 x3 = some (0, r, σ2)) : CI l yX5_allow cX5_allow 6 (some .int) ({ frames := 6, cells := 0, slots := 0, locals := 163 } : Room) [.ref (ad 0), .int (i32 x1), .int (i32 x2), .int (i32 x3)] D cy ad nm nv sz σ false r σ2 := by
  refine m_entry RX5 rfl (by decide +kernel) (Nat.le_of_ble_eq_true rfl) ?_
  intro p e s m args below meth c Q hQ hr hlocks X hW hS ls hl
  have hx := X.1
  have hb := X.2.1
  have hl : lv_has ls 6 [(0, .ref (ad 0)), (1, .int (i32 x1)), (2, .int (i32 x2)), (3, .int (i32 x3))] := hl
  unfold fX5_allow at hf
  have hc28 : ∀ (σ : St) (H : Heap) (locs : List Loc) (ls : Array Slot), fX5_allow_J28 n σ x1 x2 x3 = some (0, r, σ2) → Wd D cy ad nm nv σ H → va_S (AW ad nm nv sz) s.heap H locs → lv_has ls 6 [] → W p l e ({ frames := 6, cells := 0, slots := 0, locals := 163 } : Room) s m args below meth c H locs 0 0 Q (F0 m 28 ls []) := by
    intro σ H locs ls hf hW hS hl
    unfold fX5_allow_J28 at hf
    exact absurd (congrArg (fun q => q.1) (Option.some.inj hf)) (by simp)
  have hc47 : ∀ (σ : St) (H : Heap) (locs : List Loc) (ls : Array Slot), fX5_allow_J47 n σ x1 x2 x3 = some (0, r, σ2) → Wd D cy ad nm nv σ H → va_S (AW ad nm nv sz) s.heap H locs → lv_has ls 6 [] → W p l e ({ frames := 6, cells := 0, slots := 0, locals := 163 } : Room) s m args below meth c H locs 0 0 Q (F0 m 47 ls []) := by
    intro σ H locs ls hf hW hS hl
    unfold fX5_allow_J47 at hf
    exact absurd (congrArg (fun q => q.1) (Option.some.inj hf)) (by simp)
  refine lv_aload_n hx hb dX5_allow_0 rfl (lv_at hl 0 rfl) ?_
  refine m_const (v := 0) hx hb dX5_allow_1 rfl ?_
  have hf := xw_b2 hf
  refine m_callVr (K := isSite) (As := [.int (i32 0)]) (rest := []) X hW hS hl.1 gc_X5_61 hd_X5_siteAt ⟨rfl, rfl, Nat.le_of_ble_eq_true rfl, Nat.le_of_ble_eq_true rfl⟩ (rc_X5 X hW) (fun v q9 q => ok0_X5_siteAt (by decide) (zw_of q)) hf rfl rfl (Nat.le_of_ble_eq_true rfl) dX5_allow_2 ⟨Nat.le_of_ble_eq_true rfl, Nat.le_of_ble_eq_true rfl⟩ (fun o2 σ1 H locs ho2 hW1 hS1 hf => ?_)
  refine lv_astore (lv' := [(4, .ref (ad o2)), (0, .ref (ad 0)), (1, .int (i32 x1)), (2, .int (i32 x2)), (3, .int (i32 x3))]) hx hb dX5_allow_5 hl (by decide) rfl (fun ls hl => ?_)
  refine lv_aload hx hb dX5_allow_7 (lv_at hl 0 rfl) ?_
  refine m_callSr (K := isPaper) (As := [.ref (ad o2)]) (rest := []) X hW1 hS1 hl.1 gc_X5_72 hd_X5_paperOf ⟨rfl, rfl, Nat.le_of_ble_eq_true rfl, Nat.le_of_ble_eq_true rfl⟩ (fun v q9 q => ok_X5_paperOf ho2 q) hf rfl rfl (Nat.le_of_ble_eq_true rfl) dX5_allow_9 ⟨Nat.le_of_ble_eq_true rfl, Nat.le_of_ble_eq_true rfl⟩ (fun o4 σ3 H locs ho4 hW3 hS3 hf => ?_)
  refine lv_iload_n hx hb dX5_allow_12 rfl (lv_at hl 2 rfl) ?_
  have hf := xw_b2 hf
  refine m_callSi (z := false) (As := [.ref (ad o4), .int (i32 x1)]) (rest := []) X hW3 hS3 hl.1 gc_X5_137 hd_X5_blockAt ⟨rfl, rfl, Nat.le_of_ble_eq_true rfl, Nat.le_of_ble_eq_true rfl⟩ (fun v q9 q => ok0_X5_blockAt ho4 hx1 (zw_of q)) hf rfl rfl (Nat.le_of_ble_eq_true rfl) dX5_allow_13 ⟨Nat.le_of_ble_eq_true rfl, Nat.le_of_ble_eq_true rfl⟩ (fun v6 σ5 H locs hv6 zv6 hW5 hS5 hf => ?_)
  refine lv_istore (lv' := [(5, .int (i32 v6)), (4, .ref (ad o2)), (0, .ref (ad 0)), (1, .int (i32 x1)), (2, .int (i32 x2)), (3, .int (i32 x3))]) hx hb dX5_allow_16 hl (by decide) rfl (fun ls hl => ?_)
  refine lv_iload_n hx hb dX5_allow_18 rfl (lv_at hl 4 rfl) ?_
  refine m_const (v := 1) hx hb dX5_allow_19 rfl ?_
  refine m_icmp_lt (tgt := 28) hx hb hx2 (by decide) hf dX5_allow_20 (by decide) (fun hf => ?_) (fun hf => ?_)
  · skip
    exact hc28 _ _ _ _  hf hW5 hS5 (lv_sub hl [] rfl)
  · skip
    refine lv_iload_n hx hb dX5_allow_23 rfl (lv_at hl 4 rfl) ?_
    refine m_const (v := 4) hx hb dX5_allow_24 rfl ?_
    refine m_icmp_lt (tgt := 38) hx hb hx2 (by decide) hf dX5_allow_25 (by decide) (fun hf => ?_) (fun hf => ?_)
    · skip
      refine lv_iload_n hx hb dX5_allow_38 rfl (lv_at hl 5 rfl) ?_
      refine m_if_lt (tgt := 47) hx hb hx3 hf dX5_allow_39 (by decide) (fun hf => ?_) (fun hf => ?_)
      · skip
        exact hc47 _ _ _ _  hf hW5 hS5 (lv_sub hl [] rfl)
      · skip
        refine lv_iload_n hx hb dX5_allow_42 rfl (lv_at hl 5 rfl) ?_
        refine m_const (v := 2) hx hb dX5_allow_43 rfl ?_
        refine m_icmp_le (tgt := 57) hx hb hx3 (by decide) hf dX5_allow_44 (by decide) (fun hf => ?_) (fun hf => ?_)
        · skip
          refine lv_aload_n hx hb dX5_allow_57 rfl (lv_at hl 2 rfl) ?_
          refine m_const (v := 1) hx hb dX5_allow_58 rfl ?_
          have hf := xw_b1 hf
          refine m_callVv (As := [.int (i32 1)]) (rest := []) X hW5 hS5 hl.1 gc_X5_105 hd_X5_checkRoomFor ⟨rfl, rfl, Nat.le_of_ble_eq_true rfl, Nat.le_of_ble_eq_true rfl⟩ (rc_X5 X hW5) (fun q9 q => ok0_X5_checkRoomFor (by decide) (zv_of q).choose_spec) hf rfl rfl (Nat.le_of_ble_eq_true rfl) dX5_allow_59 ⟨Nat.le_of_ble_eq_true rfl, Nat.le_of_ble_eq_true rfl⟩ (fun σ7 H locs hW7 hS7 hf => ?_)
          refine lv_aload_n hx hb dX5_allow_62 rfl (lv_at hl 2 rfl) ?_
          refine lv_aload hx hb dX5_allow_63 (lv_at hl 1 rfl) ?_
          refine m_bipush (v := 10) hx hb dX5_allow_65 (by decide) ?_
          refine lv_iload hx hb dX5_allow_67 (lv_at hl 0 rfl) ?_
          refine lv_iload_n hx hb dX5_allow_69 rfl (lv_at hl 4 rfl) ?_
          refine lv_iload_n hx hb dX5_allow_70 rfl (lv_at hl 5 rfl) ?_
          refine m_const (v := 0) hx hb dX5_allow_71 rfl ?_
          refine m_callVi (z := false) (As := [.ref (ad o2), .int (i32 10), .int (i32 v6), .int (i32 x2), .int (i32 x3), .int (i32 0)]) (rest := []) X hW7 hS7 hl.1 gc_X5_117 hd_X5_make ⟨rfl, rfl, Nat.le_of_ble_eq_true rfl, Nat.le_of_ble_eq_true rfl⟩ (rc_X5 X hW7) (fun v q9 q => ok_X5_make ho2 (by decide) hv6 hx2 hx3 (by decide) q) hf rfl rfl (Nat.le_of_ble_eq_true rfl) dX5_allow_72 ⟨Nat.le_of_ble_eq_true rfl, Nat.le_of_ble_eq_true rfl⟩ (fun v9 σ8 H locs hv9 zv9 hW8 hS8 hf => ?_)
          exact m_ireti X hr hlocks rfl hv9 (fun h => Bool.noConfusion h) hW8 hS8 (congrArg (fun q => q.2.1) (Option.some.inj hf)) (congrArg (fun q => q.2.2) (Option.some.inj hf)) hQ dX5_allow_75
        · skip
          exact hc47 _ _ _ _  hf hW5 hS5 (lv_sub hl [] rfl)
    · skip
      exact hc28 _ _ _ _  hf hW5 hS5 (lv_sub hl [] rfl)
set_option maxRecDepth 100000 in
set_option maxHeartbeats 4000000 in
theorem ok_X5_madeAndHas {l : Launch} {D : va_G} {cy : Nat → ClassId} {ad : Nat → Nat} {nm nv sz : Nat} {σ : St} {o1 : Nat} {x2 : Int} {r : Int} (ho1 : isSite o1) (hx2 : inR x2) (hf : fX5_madeAndHas σ o1 x2 = some r) : CI l yX5_madeAndHas cX5_madeAndHas 3 (some .boolean) ({ frames := 1, cells := 0, slots := 0, locals := 21 } : Room) [.ref (ad 0), .ref (ad o1), .int (i32 x2)] D cy ad nm nv sz σ true r σ := by
  refine m_entry RX5 rfl (by decide +kernel) (Nat.le_of_ble_eq_true rfl) ?_
  intro p e s m args below meth c Q hQ hr hlocks X hW hS ls hl
  have hx := X.1
  have hb := X.2.1
  have hl : lv_has ls 3 [(0, .ref (ad 0)), (1, .ref (ad o1)), (2, .int (i32 x2))] := hl
  unfold fX5_madeAndHas at hf
  refine lv_aload_n hx hb dX5_madeAndHas_0 rfl (lv_at hl 0 rfl) ?_
  refine g_X5_book X hW (X.2.2.2.2.1 _ mw179) dX5_madeAndHas_1 ?_
  refine lv_iload_n hx hb dX5_madeAndHas_4 rfl (lv_at hl 2 rfl) ?_
  refine m_callVi1 (z := false) (As := [.int (i32 x2)]) (rest := []) X hW hS hl.1 gc_X5_324 hd_X1_siteOf ⟨rfl, rfl, Nat.le_of_ble_eq_true rfl, Nat.le_of_ble_eq_true rfl⟩ (rc_X1 X hW) (fun v q => ok_X1_siteOf hx2 q) hf rfl rfl (Nat.le_of_ble_eq_true rfl) dX5_madeAndHas_5 ⟨Nat.le_of_ble_eq_true rfl, Nat.le_of_ble_eq_true rfl⟩ (fun v1 H locs hv1 zv1 hWv1 hSv1 hf => ?_)
  refine lv_aload_n hx hb dX5_madeAndHas_8 rfl (lv_at hl 1 rfl) ?_
  refine gN_X4_number X hWv1 ho1 (nf_X5_150 X.2.2.2.2.2.2.2.2) dX5_madeAndHas_9 ?_
  refine m_icmp_ne (tgt := 30) hx hb hv1 (hWv1.2.1 _ _) hf dX5_madeAndHas_12 (by decide) (fun hf => ?_) (fun hf => ?_)
  · skip
    refine m_const (v := 0) hx hb dX5_madeAndHas_30 rfl ?_
    exact m_ireti X hr hlocks (nar_b (Or.inl rfl)).1 (by decide) (fun _ => (Or.inl rfl)) hWv1 hSv1 (Option.some.inj hf) rfl hQ dX5_madeAndHas_31
  · skip
    refine lv_aload_n hx hb dX5_madeAndHas_15 rfl (lv_at hl 1 rfl) ?_
    refine gN_X4_held X hWv1 ho1 (nf_X5_193 X.2.2.2.2.2.2.2.2) dX5_madeAndHas_16 ?_
    refine lv_iload_n hx hb dX5_madeAndHas_19 rfl (lv_at hl 2 rfl) ?_
    refine m_callVi1 (z := true) (As := [.int (i32 x2)]) (rest := []) X hWv1 hSv1 hl.1 gc_X5_208 hd_X0_contains ⟨rfl, rfl, Nat.le_of_ble_eq_true rfl, Nat.le_of_ble_eq_true rfl⟩ (rc_X0 X hWv1 (r_X4_held ho1)) (fun v q => ok_X0_contains (r_X4_held ho1) hx2 q) hf rfl rfl (Nat.le_of_ble_eq_true rfl) dX5_madeAndHas_20 ⟨Nat.le_of_ble_eq_true rfl, Nat.le_of_ble_eq_true rfl⟩ (fun v2 H locs hv2 zv2 hWv2 hSv2 hf => ?_)
    refine m_if_eq (tgt := 30) hx hb hv2 hf dX5_madeAndHas_23 (by decide) (fun hf => ?_) (fun hf => ?_)
    · skip
      refine m_const (v := 0) hx hb dX5_madeAndHas_30 rfl ?_
      exact m_ireti X hr hlocks (nar_b (Or.inl rfl)).1 (by decide) (fun _ => (Or.inl rfl)) hWv2 hSv2 (Option.some.inj hf) rfl hQ dX5_madeAndHas_31
    · skip
      refine m_const (v := 1) hx hb dX5_madeAndHas_26 rfl ?_
      refine lv_goto (tgt := 31) hx hb dX5_madeAndHas_27 (by decide) ?_
      exact m_ireti X hr hlocks (nar_b (Or.inr rfl)).1 (by decide) (fun _ => (Or.inr rfl)) hWv2 hSv2 (Option.some.inj hf) rfl hQ dX5_madeAndHas_31
set_option maxRecDepth 100000 in
set_option maxHeartbeats 4000000 in
theorem ok_X5_lastNotUndone {l : Launch} {D : va_G} {cy : Nat → ClassId} {ad : Nat → Nat} {nm nv sz : Nat} {σ : St} {n : Nat} {o1 : Nat} {o2 : Nat} {r : Int} (ho1 : isSite o1) (ho2 : isPaper o2) (hf : fX5_lastNotUndone n σ o1 o2 = some r) : CI l yX5_lastNotUndone cX5_lastNotUndone 5 (some .int) ({ frames := 2, cells := 0, slots := 0, locals := 43 } : Room) [.ref (ad 0), .ref (ad o1), .ref (ad o2)] D cy ad nm nv sz σ false r σ := by
  refine m_entry RX5 rfl (by decide +kernel) (Nat.le_of_ble_eq_true rfl) ?_
  intro p e s m args below meth c Q hQ hr hlocks X hW hS ls hl
  have hx := X.1
  have hb := X.2.1
  have hl : lv_has ls 5 [(0, .ref (ad 0)), (1, .ref (ad o1)), (2, .ref (ad o2))] := hl
  unfold fX5_lastNotUndone at hf
  have hc10 : ∀ (k10 : Nat) (H : Heap) (locs : List Loc) (ls : Array Slot) (x3 : Int), inR x3 → fX5_lastNotUndone_L10 n σ o1 o2 k10 x3 = some r → Wd D cy ad nm nv σ H → va_S (AW ad nm nv sz) s.heap H locs → lv_has ls 5 [(0, .ref (ad 0)), (1, .ref (ad o1)), (2, .ref (ad o2)), (3, .int (i32 x3))] → W p l e ({ frames := 2, cells := 0, slots := 0, locals := 43 } : Room) s m args below meth c H locs 0 0 Q (F0 m 10 ls []) := by
    intro k10
    induction k10 with
    | zero =>
      intro H locs ls x3 hx3 hf
      have hf : (none : Option Int) = some r := hf
      cases hf
    | succ k10 ih10 =>
      intro H locs ls x3 hx3 hf hW hS hl
      have hf : fX5_lastNotUndone_L10s n σ o1 o2 (fX5_lastNotUndone_L10 n σ o1 o2 k10) x3 = some r := hf
      unfold fX5_lastNotUndone_L10s at hf
      refine lv_iload_n hx hb dX5_lastNotUndone_10 rfl (lv_at hl 3 rfl) ?_
      refine m_if_lt (tgt := 64) hx hb hx3 hf dX5_lastNotUndone_11 (by decide) (fun hf => ?_) (fun hf => ?_)
      · skip
        refine m_const (v := (-1)) hx hb dX5_lastNotUndone_64 rfl ?_
        exact m_ireti X hr hlocks rfl (by decide) (fun h => Bool.noConfusion h) hW hS (Option.some.inj hf) rfl hQ dX5_lastNotUndone_65
      · skip
        refine lv_aload_n hx hb dX5_lastNotUndone_14 rfl (lv_at hl 0 rfl) ?_
        refine g_X5_book X hW (X.2.2.2.2.1 _ mw179) dX5_lastNotUndone_15 ?_
        refine lv_iload_n hx hb dX5_lastNotUndone_18 rfl (lv_at hl 3 rfl) ?_
        refine m_callVi1 (z := false) (As := [.int (i32 x3)]) (rest := []) X hW hS hl.1 gc_X5_202 hd_X1_inOrder ⟨rfl, rfl, Nat.le_of_ble_eq_true rfl, Nat.le_of_ble_eq_true rfl⟩ (rc_X1 X hW) (fun v q => ok_X1_inOrder hx3 q) hf rfl rfl (Nat.le_of_ble_eq_true rfl) dX5_lastNotUndone_19 ⟨Nat.le_of_ble_eq_true rfl, Nat.le_of_ble_eq_true rfl⟩ (fun v2 H locs hv2 zv2 hWv2 hSv2 hf => ?_)
        refine lv_istore (lv' := [(4, .int (i32 v2)), (0, .ref (ad 0)), (1, .ref (ad o1)), (2, .ref (ad o2)), (3, .int (i32 x3))]) hx hb dX5_lastNotUndone_22 hl (by decide) rfl (fun ls hl => ?_)
        refine lv_aload_n hx hb dX5_lastNotUndone_24 rfl (lv_at hl 1 rfl) ?_
        refine lv_aload_n hx hb dX5_lastNotUndone_25 rfl (lv_at hl 2 rfl) ?_
        refine lv_iload hx hb dX5_lastNotUndone_26 (lv_at hl 0 rfl) ?_
        refine m_callVi1 (z := true) (As := [.ref (ad o1), .int (i32 v2)]) (rest := []) X hWv2 hSv2 hl.1 gc_X5_372 hd_X5_madeAndHas ⟨rfl, rfl, Nat.le_of_ble_eq_true rfl, Nat.le_of_ble_eq_true rfl⟩ (rc_X5 X hWv2) (fun v q => ok_X5_madeAndHas ho1 hv2 q) hf rfl rfl (Nat.le_of_ble_eq_true rfl) dX5_lastNotUndone_28 ⟨Nat.le_of_ble_eq_true rfl, Nat.le_of_ble_eq_true rfl⟩ (fun v3 H locs hv3 zv3 hWv3 hSv3 hf => ?_)
        refine m_if_eq (tgt := 58) hx hb hv3 hf dX5_lastNotUndone_31 (by decide) (fun hf => ?_) (fun hf => ?_)
        · skip
          refine m_iinc (k0 := 4) (fun v4 => [(3, .int (i32 v4)), (4, .int (i32 v2)), (0, .ref (ad 0)), (1, .ref (ad o1)), (2, .ref (ad o2))]) hx hb hf dX5_lastNotUndone_58 hl rfl (by decide) (fun _ => rfl) (fun v4 ls hv4 hf hl => ?_)
          have hl : lv_has ls 5 [(3, .int (i32 v4)), (4, .int (i32 v2)), (0, .ref (ad 0)), (1, .ref (ad o1)), (2, .ref (ad o2))] := hl
          refine lv_goto (tgt := 10) hx hb dX5_lastNotUndone_61 (by decide) ?_
          exact ih10 _ _ _ v4 hv4 hf hWv3 hSv3 (lv_sub hl [2, 3, 4, 0] rfl)
        · skip
          refine lv_aload_n hx hb dX5_lastNotUndone_34 rfl (lv_at hl 1 rfl) ?_
          refine g_X5_book X hWv3 (X.2.2.2.2.1 _ mw179) dX5_lastNotUndone_35 ?_
          refine lv_iload hx hb dX5_lastNotUndone_38 (lv_at hl 0 rfl) ?_
          refine m_callVi1 (z := true) (As := [.int (i32 v2)]) (rest := []) X hWv3 hSv3 hl.1 gc_X5_376 hd_X1_isUndoable ⟨rfl, rfl, Nat.le_of_ble_eq_true rfl, Nat.le_of_ble_eq_true rfl⟩ (rc_X1 X hWv3) (fun v q => ok_X1_isUndoable hv2 q) hf rfl rfl (Nat.le_of_ble_eq_true rfl) dX5_lastNotUndone_40 ⟨Nat.le_of_ble_eq_true rfl, Nat.le_of_ble_eq_true rfl⟩ (fun v5 H locs hv5 zv5 hWv5 hSv5 hf => ?_)
          refine m_if_eq (tgt := 58) hx hb hv5 hf dX5_lastNotUndone_43 (by decide) (fun hf => ?_) (fun hf => ?_)
          · skip
            refine m_iinc (k0 := 4) (fun v6 => [(3, .int (i32 v6)), (4, .int (i32 v2)), (0, .ref (ad 0)), (1, .ref (ad o1)), (2, .ref (ad o2))]) hx hb hf dX5_lastNotUndone_58 hl rfl (by decide) (fun _ => rfl) (fun v6 ls hv6 hf hl => ?_)
            have hl : lv_has ls 5 [(3, .int (i32 v6)), (4, .int (i32 v2)), (0, .ref (ad 0)), (1, .ref (ad o1)), (2, .ref (ad o2))] := hl
            refine lv_goto (tgt := 10) hx hb dX5_lastNotUndone_61 (by decide) ?_
            exact ih10 _ _ _ v6 hv6 hf hWv5 hSv5 (lv_sub hl [2, 3, 4, 0] rfl)
          · skip
            refine lv_aload_n hx hb dX5_lastNotUndone_46 rfl (lv_at hl 3 rfl) ?_
            refine lv_iload hx hb dX5_lastNotUndone_47 (lv_at hl 0 rfl) ?_
            refine m_callVi1 (z := true) (As := [.int (i32 v2)]) (rest := []) X hWv5 hSv5 hl.1 gc_X5_327 hd_X3_wasUndone ⟨rfl, rfl, Nat.le_of_ble_eq_true rfl, Nat.le_of_ble_eq_true rfl⟩ (rc_X3 X hWv5 ho2) (fun v q => ok_X3_wasUndone ho2 hv2 q) hf rfl rfl (Nat.le_of_ble_eq_true rfl) dX5_lastNotUndone_49 ⟨Nat.le_of_ble_eq_true rfl, Nat.le_of_ble_eq_true rfl⟩ (fun v7 H locs hv7 zv7 hWv7 hSv7 hf => ?_)
            refine m_if_ne (tgt := 58) hx hb hv7 hf dX5_lastNotUndone_52 (by decide) (fun hf => ?_) (fun hf => ?_)
            · skip
              refine m_iinc (k0 := 4) (fun v8 => [(3, .int (i32 v8)), (4, .int (i32 v2)), (0, .ref (ad 0)), (1, .ref (ad o1)), (2, .ref (ad o2))]) hx hb hf dX5_lastNotUndone_58 hl rfl (by decide) (fun _ => rfl) (fun v8 ls hv8 hf hl => ?_)
              have hl : lv_has ls 5 [(3, .int (i32 v8)), (4, .int (i32 v2)), (0, .ref (ad 0)), (1, .ref (ad o1)), (2, .ref (ad o2))] := hl
              refine lv_goto (tgt := 10) hx hb dX5_lastNotUndone_61 (by decide) ?_
              exact ih10 _ _ _ v8 hv8 hf hWv7 hSv7 (lv_sub hl [2, 3, 4, 0] rfl)
            · skip
              refine lv_iload hx hb dX5_lastNotUndone_55 (lv_at hl 0 rfl) ?_
              exact m_ireti X hr hlocks rfl hv2 (fun h => Bool.noConfusion h) hWv7 hSv7 (Option.some.inj hf) rfl hQ dX5_lastNotUndone_57
  refine lv_aload_n hx hb dX5_lastNotUndone_0 rfl (lv_at hl 0 rfl) ?_
  refine g_X5_book X hW (X.2.2.2.2.1 _ mw179) dX5_lastNotUndone_1 ?_
  refine gN_X1_made X hW (nf_X5_199 X.2.2.2.2.2.2.2.2) dX5_lastNotUndone_4 ?_
  refine m_const (v := 1) hx hb dX5_lastNotUndone_7 rfl ?_
  refine m_isub hx hb hf dX5_lastNotUndone_8 (fun v1 hv1 hf => ?_)
  refine lv_istore_n (lv' := [(3, .int (i32 v1)), (0, .ref (ad 0)), (1, .ref (ad o1)), (2, .ref (ad o2))]) hx hb dX5_lastNotUndone_9 rfl hl (by decide) rfl (fun ls hl => ?_)
  exact hc10 n _ _ _ v1 hv1 hf hW hS (lv_sub hl [1, 2, 3, 0] rfl)
