theorem gc_X5_166 : GoodIn GW (wsV RX5 166 RX5 yX5_lastNotUndone (wsG yX5_lastNotUndone cX5_lastNotUndone 5 (some .int))) := cg_V mw615 mw617 ms27 mw1 mw618
theorem gc_X5_291 : GoodIn GW (wsV RX5 291 RX1 yX1_kindOf (wsG yX1_kindOf cX1_kindOf 2 (some .int))) := cg_V mw639 mw324 mw325 mw2 mw326
theorem gc_X5_379 : GoodIn GW (wsV RX5 379 RX1 yX1_firstOf (wsG yX1_firstOf cX1_firstOf 2 (some .int))) := cg_V mw640 mw328 mw329 mw2 mw330
theorem gc_X5_172 : GoodIn GW (wsV RX5 172 RX5 yX5_lastToRedo (wsG yX5_lastToRedo cX5_lastToRedo 5 (some .int))) := cg_V mw635 mw637 ms29 mw1 mw638
theorem gc_X5_186 : GoodIn GW (wsV RX5 186 RX5 yX5_messageAt (wsG yX5_messageAt cX5_messageAt 2 (some (.object "Marginnote$Message")))) := cg_V mw684 mw686 ms30 mw1 mw687
theorem gc_X5_222 : GoodIn GW (wsV RX5 222 RX4 yX4_learn (wsG yX4_learn cX4_learn 3 none)) := cg_V mw690 mw691 mw692 mw3 mw693
theorem gc_X5_212 : GoodIn GW (wsV RX5 212 RX1 yX1_countOf (wsG yX1_countOf cX1_countOf 2 (some .int))) := cg_V mw689 mw491 mw492 mw2 mw493
theorem gc_X5_270 : GoodIn GW (wsV RX5 270 RX3 yX3_countSeen (wsG yX3_countSeen cX3_countSeen 3 (some .int))) := cg_V mw698 mw699 mw700 mw5 mw701
theorem gc_X5_273 : GoodIn GW (wsV RX5 273 RX3 yX3_countShown (wsG yX3_countShown cX3_countShown 3 (some .int))) := cg_V mw795 mw796 mw797 mw5 mw798
theorem gc_X5_279 : GoodIn GW (wsV RX5 279 RX1 yX1_valueOf (wsG yX1_valueOf cX1_valueOf 2 (some .int))) := cg_V mw726 mw397 mw398 mw2 mw399
theorem gc_X5_282 : GoodIn GW (wsV RX5 282 RX3 yX3_proposalsFor (wsG yX3_proposalsFor cX3_proposalsFor 5 (some .int))) := cg_V mw710 mw711 mw712 mw5 mw713
theorem gc_X5_285 : GoodIn GW (wsV RX5 285 RX3 yX3_countOpen (wsG yX3_countOpen cX3_countOpen 3 (some .int))) := cg_V mw718 mw719 mw720 mw5 mw721
theorem gc_X5_288 : GoodIn GW (wsV RX5 288 RX3 yX3_hasBit (wsG yX3_hasBit cX3_hasBit 3 (some .boolean))) := cg_V mw820 mw733 mw734 mw5 mw735
theorem gc_X5_294 : GoodIn GW (wsS RX5 294 yX5_commentBit (wsG yX5_commentBit cX5_commentBit 1 (some .int))) := cg_S mw727 mw421 mw1 mw422
theorem gc_X5_297 : GoodIn GW (wsV RX5 297 RX3 yX3_countSeenWith (wsG yX3_countSeenWith cX3_countSeenWith 4 (some .int))) := cg_V mw728 mw729 mw730 mw5 mw731
theorem gc_X5_300 : GoodIn GW (wsV RX5 300 RX3 yX3_countBlocks (wsG yX3_countBlocks cX3_countBlocks 3 (some .int))) := cg_V mw740 mw741 mw742 mw5 mw743
theorem gc_X5_303 : GoodIn GW (wsV RX5 303 RX3 yX3_kindOf (wsG yX3_kindOf cX3_kindOf 2 (some .int))) := cg_V mw748 mw749 mw750 mw5 mw751
theorem gc_X5_304 : GoodIn GW (wsV RX5 304 RX3 yX3_depthOf (wsG yX3_depthOf cX3_depthOf 5 (some .int))) := cg_V mw853 mw854 mw855 mw5 mw856
theorem gc_X5_310 : GoodIn GW (wsV RX5 310 RX3 yX3_countGraves (wsG yX3_countGraves cX3_countGraves 1 (some .int))) := cg_V mw807 mw808 mw809 mw5 mw810
theorem gc_X5_389 : GoodIn GW (wsV RX5 389 RX0 yX0_clear (wsG yX0_clear cX0_clear 2 none)) := cg_V mw840 mw841 mw842 mw4 mw843
theorem gc_X5_382 : GoodIn GW (wsV RX5 382 RX4 yX4_knownOf (wsG yX4_knownOf cX4_knownOf 2 (some .int))) := cg_V mw832 mw833 mw834 mw3 mw835
theorem gc_X5_385 : GoodIn GW (wsV RX5 385 RX4 yX4_countFirst (wsG yX4_countFirst cX4_countFirst 5 none)) := cg_V mw836 mw837 mw838 mw3 mw839
theorem gc_X5_392 : GoodIn GW (wsV RX5 392 RX0 yX0_add (wsG yX0_add cX0_add 2 none)) := cg_V mw844 mw501 mw502 mw4 mw503
theorem gc_X5_313 : GoodIn GW (wsV RX5 313 RX5 yX5_collectHadByAll (wsG yX5_collectHadByAll cX5_collectHadByAll 3 none)) := cg_V mw828 mw830 ms31 mw1 mw831
theorem gc_X5_317 : GoodIn GW (wsV RX5 317 RX3 yX3_isGrave (wsG yX3_isGrave cX3_isGrave 2 (some .boolean))) := cg_V mw845 mw846 mw847 mw5 mw848
theorem hd_X5_lastNotUndone : yX5_lastNotUndone.cls = RX5 ∧ yX5_lastNotUndone.cls ≠ "java/lang/invoke/MethodHandle" ∧ yX5_lastNotUndone.cls ≠ "java/lang/invoke/VarHandle" ∧ (parseMethodDescriptor yX5_lastNotUndone.desc).map (fun d => d.parameters.length) = some 2 := by decide +kernel
theorem hd_X5_lastToRedo : yX5_lastToRedo.cls = RX5 ∧ yX5_lastToRedo.cls ≠ "java/lang/invoke/MethodHandle" ∧ yX5_lastToRedo.cls ≠ "java/lang/invoke/VarHandle" ∧ (parseMethodDescriptor yX5_lastToRedo.desc).map (fun d => d.parameters.length) = some 2 := by decide +kernel
theorem hd_X5_messageAt : yX5_messageAt.cls = RX5 ∧ yX5_messageAt.cls ≠ "java/lang/invoke/MethodHandle" ∧ yX5_messageAt.cls ≠ "java/lang/invoke/VarHandle" ∧ (parseMethodDescriptor yX5_messageAt.desc).map (fun d => d.parameters.length) = some 1 := by decide +kernel
theorem hd_X4_learn : yX4_learn.cls = RX4 ∧ yX4_learn.cls ≠ "java/lang/invoke/MethodHandle" ∧ yX4_learn.cls ≠ "java/lang/invoke/VarHandle" ∧ (parseMethodDescriptor yX4_learn.desc).map (fun d => d.parameters.length) = some 1 := by decide +kernel
theorem hd_X3_countShown : yX3_countShown.cls = RX3 ∧ yX3_countShown.cls ≠ "java/lang/invoke/MethodHandle" ∧ yX3_countShown.cls ≠ "java/lang/invoke/VarHandle" ∧ (parseMethodDescriptor yX3_countShown.desc).map (fun d => d.parameters.length) = some 0 := by decide +kernel
theorem hd_X3_proposalsFor : yX3_proposalsFor.cls = RX3 ∧ yX3_proposalsFor.cls ≠ "java/lang/invoke/MethodHandle" ∧ yX3_proposalsFor.cls ≠ "java/lang/invoke/VarHandle" ∧ (parseMethodDescriptor yX3_proposalsFor.desc).map (fun d => d.parameters.length) = some 1 := by decide +kernel
theorem hd_X3_countOpen : yX3_countOpen.cls = RX3 ∧ yX3_countOpen.cls ≠ "java/lang/invoke/MethodHandle" ∧ yX3_countOpen.cls ≠ "java/lang/invoke/VarHandle" ∧ (parseMethodDescriptor yX3_countOpen.desc).map (fun d => d.parameters.length) = some 0 := by decide +kernel
theorem hd_X5_commentBit : yX5_commentBit.cls = RX5 ∧ yX5_commentBit.cls ≠ "java/lang/invoke/MethodHandle" ∧ yX5_commentBit.cls ≠ "java/lang/invoke/VarHandle" ∧ (parseMethodDescriptor yX5_commentBit.desc).map (fun d => d.parameters.length) = some 1 := by decide +kernel
theorem hd_X3_countSeenWith : yX3_countSeenWith.cls = RX3 ∧ yX3_countSeenWith.cls ≠ "java/lang/invoke/MethodHandle" ∧ yX3_countSeenWith.cls ≠ "java/lang/invoke/VarHandle" ∧ (parseMethodDescriptor yX3_countSeenWith.desc).map (fun d => d.parameters.length) = some 1 := by decide +kernel
theorem hd_X3_countBlocks : yX3_countBlocks.cls = RX3 ∧ yX3_countBlocks.cls ≠ "java/lang/invoke/MethodHandle" ∧ yX3_countBlocks.cls ≠ "java/lang/invoke/VarHandle" ∧ (parseMethodDescriptor yX3_countBlocks.desc).map (fun d => d.parameters.length) = some 0 := by decide +kernel
theorem hd_X3_kindOf : yX3_kindOf.cls = RX3 ∧ yX3_kindOf.cls ≠ "java/lang/invoke/MethodHandle" ∧ yX3_kindOf.cls ≠ "java/lang/invoke/VarHandle" ∧ (parseMethodDescriptor yX3_kindOf.desc).map (fun d => d.parameters.length) = some 1 := by decide +kernel
theorem hd_X3_depthOf : yX3_depthOf.cls = RX3 ∧ yX3_depthOf.cls ≠ "java/lang/invoke/MethodHandle" ∧ yX3_depthOf.cls ≠ "java/lang/invoke/VarHandle" ∧ (parseMethodDescriptor yX3_depthOf.desc).map (fun d => d.parameters.length) = some 1 := by decide +kernel
theorem hd_X3_countGraves : yX3_countGraves.cls = RX3 ∧ yX3_countGraves.cls ≠ "java/lang/invoke/MethodHandle" ∧ yX3_countGraves.cls ≠ "java/lang/invoke/VarHandle" ∧ (parseMethodDescriptor yX3_countGraves.desc).map (fun d => d.parameters.length) = some 0 := by decide +kernel
theorem hd_X0_clear : yX0_clear.cls = RX0 ∧ yX0_clear.cls ≠ "java/lang/invoke/MethodHandle" ∧ yX0_clear.cls ≠ "java/lang/invoke/VarHandle" ∧ (parseMethodDescriptor yX0_clear.desc).map (fun d => d.parameters.length) = some 0 := by decide +kernel
theorem hd_X4_knownOf : yX4_knownOf.cls = RX4 ∧ yX4_knownOf.cls ≠ "java/lang/invoke/MethodHandle" ∧ yX4_knownOf.cls ≠ "java/lang/invoke/VarHandle" ∧ (parseMethodDescriptor yX4_knownOf.desc).map (fun d => d.parameters.length) = some 1 := by decide +kernel
theorem hd_X4_countFirst : yX4_countFirst.cls = RX4 ∧ yX4_countFirst.cls ≠ "java/lang/invoke/MethodHandle" ∧ yX4_countFirst.cls ≠ "java/lang/invoke/VarHandle" ∧ (parseMethodDescriptor yX4_countFirst.desc).map (fun d => d.parameters.length) = some 2 := by decide +kernel
theorem hd_X5_collectHadByAll : yX5_collectHadByAll.cls = RX5 ∧ yX5_collectHadByAll.cls ≠ "java/lang/invoke/MethodHandle" ∧ yX5_collectHadByAll.cls ≠ "java/lang/invoke/VarHandle" ∧ (parseMethodDescriptor yX5_collectHadByAll.desc).map (fun d => d.parameters.length) = some 1 := by decide +kernel
theorem hd_X3_isGrave : yX3_isGrave.cls = RX3 ∧ yX3_isGrave.cls ≠ "java/lang/invoke/MethodHandle" ∧ yX3_isGrave.cls ≠ "java/lang/invoke/VarHandle" ∧ (parseMethodDescriptor yX3_isGrave.desc).map (fun d => d.parameters.length) = some 1 := by decide +kernel
noncomputable def fX5_undo (n : Nat) (σ : St) (x1 : Int) : Option (Nat × Int × St) := xw 0 (fX5_siteAt σ x1) (fun o2 σ1 => b2 (fX5_paperOf n σ1 o2) (fun o4 σ3 => b1 (fX5_lastNotUndone n σ3 o2 o4) (fun v5 => if v5 ≠ (-1) then (xw 0 (fX5_checkRoomFor σ3 1) (fun _ σ6 => b2 (fX5_make n σ6 o2 11 v5 (-1) 0 0) (fun v8 σ7 => some (0, v5, σ7)))) else (some (3, 0, σ3)))))
noncomputable def fX5_lastToRedo_L10s (n : Nat) (σ : St) (o1 : Nat) (o2 : Nat) (lp10 : (Int → Option Int)) : Int → Option Int := fun x3 => if x3 < 0 then (some (-1)) else (b1 (fX1_inOrder σ x3) (fun v2 => b1 (fX5_madeAndHas σ o1 v2) (fun v3 => if v3 ≠ 0 then (b1 (fX1_isUndoable σ v2) (fun v4 => if v4 = 0 then (b1 (fX1_kindOf σ v2) (fun v5 => if v5 ≠ 11 then (ck (x3 + (-1)) (fun v6 => lp10 v6)) else (b1 (fX1_firstOf σ v2) (fun v7 => b1 (fX3_wasUndone σ o2 v7) (fun v8 => if v8 = 0 then (ck (x3 + (-1)) (fun v9 => lp10 v9)) else (b1 (fX1_firstOf σ v2) (fun v10 => some v10))))))) else (some (-1)))) else (ck (x3 + (-1)) (fun v11 => lp10 v11)))))
noncomputable def fX5_lastToRedo_L10 (n : Nat) (σ : St) (o1 : Nat) (o2 : Nat) (k : Nat) : Int → Option Int := lpR (fun _ => none) (fX5_lastToRedo_L10s n σ o1 o2) k
noncomputable def fX5_lastToRedo (n : Nat) (σ : St) (o1 : Nat) (o2 : Nat) : Option Int := ck ((σ 8 8) - 1) (fun v1 => fX5_lastToRedo_L10 n σ o1 o2 n v1)
noncomputable def fX5_redo (n : Nat) (σ : St) (x1 : Int) : Option (Nat × Int × St) := xw 0 (fX5_siteAt σ x1) (fun o2 σ1 => b2 (fX5_paperOf n σ1 o2) (fun o4 σ3 => b1 (fX5_lastToRedo n σ3 o2 o4) (fun v5 => if v5 ≠ (-1) then (xw 0 (fX5_checkRoomFor σ3 1) (fun _ σ6 => b2 (fX5_make n σ6 o2 12 v5 (-1) 0 0) (fun v8 σ7 => some (0, v5, σ7)))) else (some (3, 0, σ3)))))
noncomputable def fX5_messageAt_J22 (σ : St) (x1 : Int) : Option (Nat × Nat × St) := some (1, 0, σ)
noncomputable def fX5_messageAt (σ : St) (x1 : Int) : Option (Nat × Nat × St) := if x1 < 0 then (fX5_messageAt_J22 σ x1) else (if 80 ≤ x1 then (fX5_messageAt_J22 σ x1) else (rn x1 80 (σ 2 0) (fun j => 300 + 4 * j) (fX5_messageAt_J22 σ x1) (fun o1 => rn x1 80 (σ 2 0) (fun j => 300 + 4 * j) (none) (fun o2 => some (0, o2, σ)))))
noncomputable def fX5_deliver_L27s (n : Nat) (x1 : Int) (o2 : Nat) (o3 : Nat) (x4 : Int) (lp27 : (St → Int → Option (Nat × Int × St))) : St → Int → Option (Nat × Int × St) := fun σ x5 => if σ 8 8 ≤ x5 then (b1 (fX4_learn n σ o3 (o2 + 3)) (fun σ5 => ck ((σ5 (o3 + 1) 1) - x4) (fun v6 => if v6 ≤ 0 then (some (0, v6, σ5)) else (pfb σ5 o3 5 0 (fun σ7 => some (0, v6, σ7)))))) else (b1 (fX1_inOrder σ x5) (fun v8 => b1 (fX0_contains σ (o2 + 1) v8) (fun v9 => if v9 = 0 then (ck (x5 + 1) (fun v10 => lp27 σ v10)) else (b1 (fX1_countOf σ v8) (fun v11 => b1 (fX4_take σ o3 v8 v11) (fun σ12 => ck (x5 + 1) (fun v13 => lp27 σ12 v13)))))))
noncomputable def fX5_deliver_L27 (n : Nat) (x1 : Int) (o2 : Nat) (o3 : Nat) (x4 : Int) (k : Nat) : St → Int → Option (Nat × Int × St) := lpR (fun _ _ => none) (fX5_deliver_L27s n x1 o2 o3 x4) k
noncomputable def fX5_deliver (n : Nat) (σ : St) (x1 : Int) : Option (Nat × Int × St) := xw 0 (fX5_messageAt σ x1) (fun o2 σ1 => xw 0 (fX5_siteAt σ1 (σ1 o2 0)) (fun o4 σ3 => fX5_deliver_L27 n x1 o2 o4 (σ3 (o4 + 1) 1) n σ3 0))
noncomputable def fX5_length (n : Nat) (σ : St) (x1 : Int) : Option (Nat × Int × St) := xw 0 (fX5_siteAt σ x1) (fun o2 σ1 => b2 (fX5_paperOf n σ1 o2) (fun o4 σ3 => b1 (fX3_countSeen n σ3 o4) (fun v5 => some (0, v5, σ3))))
noncomputable def fX5_shown (n : Nat) (σ : St) (x1 : Int) : Option (Nat × Int × St) := xw 0 (fX5_siteAt σ x1) (fun o2 σ1 => b2 (fX5_paperOf n σ1 o2) (fun o4 σ3 => b1 (fX3_countShown n σ3 o4) (fun v5 => some (0, v5, σ3))))
noncomputable def fX5_element (n : Nat) (σ : St) (x1 : Int) (x2 : Int) : Option (Nat × Int × St) := xw 0 (fX5_siteAt σ x1) (fun o2 σ1 => b2 (fX5_paperOf n σ1 o2) (fun o4 σ3 => xw 0 (fX5_elementAt n σ3 o4 x2) (fun v6 σ5 => some (0, v6, σ5))))
noncomputable def fX5_elementAnew (n : Nat) (σ : St) (x1 : Int) (x2 : Int) : Option (Nat × Int × St) := xw 0 (fX5_siteAt σ x1) (fun o2 σ1 => b1 (fX3_doAll n σ1 180 (o2 + 1)) (fun σ3 => xw 0 (fX5_elementAt n σ3 180 x2) (fun v5 σ4 => some (0, v5, σ4))))
noncomputable def fX5_letter (n : Nat) (σ : St) (x1 : Int) (x2 : Int) : Option (Nat × Int × St) := xw 0 (fX5_siteAt σ x1) (fun o2 σ1 => b2 (fX5_paperOf n σ1 o2) (fun o4 σ3 => xw 0 (fX5_elementAt n σ3 o4 x2) (fun v6 σ5 => b1 (fX1_valueOf σ5 v6) (fun v7 => vl (v7 % 65536) (fun v8 => some (0, v8, σ5))))))
noncomputable def fX5_proposed (n : Nat) (σ : St) (x1 : Int) (x2 : Int) : Option (Nat × Int × St) := xw 0 (fX5_siteAt σ x1) (fun o2 σ1 => b2 (fX5_paperOf n σ1 o2) (fun o4 σ3 => xw 0 (fX5_elementAt n σ3 o4 x2) (fun v6 σ5 => b1 (fX3_proposalsFor n σ5 o4 v6) (fun v7 => some (0, v7, σ5)))))
noncomputable def fX5_open (n : Nat) (σ : St) (x1 : Int) : Option (Nat × Int × St) := xw 0 (fX5_siteAt σ x1) (fun o2 σ1 => b2 (fX5_paperOf n σ1 o2) (fun o4 σ3 => b1 (fX3_countOpen n σ3 o4) (fun v5 => some (0, v5, σ3))))
noncomputable def fX5_isMarked (n : Nat) (σ : St) (x1 : Int) (x2 : Int) (x3 : Int) : Option (Nat × Int × St) := xw 0 (fX5_siteAt σ x1) (fun o2 σ1 => b2 (fX5_paperOf n σ1 o2) (fun o4 σ3 => xw 0 (fX5_elementAt n σ3 o4 x2) (fun v6 σ5 => xw 0 (fX5_checkMark σ5 x3) (fun _ σ7 => vl (bshl 1 x3) (fun v8 => b1 (fX3_hasBit σ7 o4 v6 v8) (fun v9 => some (0, v9, σ7)))))))
noncomputable def fX5_covered (n : Nat) (σ : St) (x1 : Int) (x2 : Int) : Option (Nat × Int × St) := xw 0 (fX5_siteAt σ x1) (fun o2 σ1 => xw 0 (fX5_checkHeld σ1 o2 x2) (fun _ σ3 => b1 (fX1_kindOf σ3 x2) (fun v4 => if v4 = 7 then (b2 (fX5_paperOf n σ3 o2) (fun o6 σ5 => b1 (fX1_valueOf σ5 x2) (fun v7 => b1 (fX5_commentBit v7) (fun v8 => b1 (fX3_countSeenWith n σ5 o6 v8) (fun v9 => some (0, v9, σ5)))))) else (some (0, (-1), σ3)))))
noncomputable def fX5_blocks (n : Nat) (σ : St) (x1 : Int) : Option (Nat × Int × St) := xw 0 (fX5_siteAt σ x1) (fun o2 σ1 => b2 (fX5_paperOf n σ1 o2) (fun o4 σ3 => b1 (fX3_countBlocks n σ3 o4) (fun v5 => some (0, v5, σ3))))
noncomputable def fX5_kind (n : Nat) (σ : St) (x1 : Int) (x2 : Int) : Option (Nat × Int × St) := xw 0 (fX5_siteAt σ x1) (fun o2 σ1 => b2 (fX5_paperOf n σ1 o2) (fun o4 σ3 => xw 0 (fX5_blockAt n σ3 o4 x2) (fun v6 σ5 => b1 (fX3_kindOf σ5 o4 v6) (fun v7 => some (0, v7, σ5)))))
noncomputable def fX5_depth (n : Nat) (σ : St) (x1 : Int) (x2 : Int) : Option (Nat × Int × St) := xw 0 (fX5_siteAt σ x1) (fun o2 σ1 => b2 (fX5_paperOf n σ1 o2) (fun o4 σ3 => xw 0 (fX5_blockAt n σ3 o4 x2) (fun v6 σ5 => b1 (fX3_depthOf n σ5 o4 v6) (fun v7 => some (0, v7, σ5)))))
noncomputable def fX5_level (n : Nat) (σ : St) (x1 : Int) (x2 : Int) : Option (Nat × Int × St) := xw 0 (fX5_siteAt σ x1) (fun o2 σ1 => b2 (fX5_paperOf n σ1 o2) (fun o4 σ3 => xw 0 (fX5_blockAt n σ3 o4 x2) (fun v6 σ5 => b1 (fX3_levelIn σ5 o4 x1 v6) (fun v7 => some (0, v7, σ5)))))
noncomputable def fX5_cursor (n : Nat) (σ : St) (x1 : Int) : Option (Nat × Int × St) := xw 0 (fX5_siteAt σ x1) (fun o2 σ1 => b2 (fX5_paperOf n σ1 o2) (fun o4 σ3 => b1 (fX3_seenThrough n σ3 o4 (σ3 o2 8)) (fun v5 => some (0, v5, σ3))))
noncomputable def fX5_tail (n : Nat) (σ : St) (x1 : Int) : Option (Nat × Int × St) := xw 0 (fX5_siteAt σ x1) (fun o2 σ1 => b2 (fX5_paperOf n σ1 o2) (fun o4 σ3 => b1 (fX3_seenThrough n σ3 o4 (σ3 o2 9)) (fun v5 => some (0, v5, σ3))))
noncomputable def fX5_graves (n : Nat) (σ : St) (x1 : Int) : Option (Nat × Int × St) := xw 0 (fX5_siteAt σ x1) (fun o2 σ1 => b2 (fX5_paperOf n σ1 o2) (fun o4 σ3 => b1 (fX3_countGraves n σ3 o4) (fun v5 => some (0, v5, σ3))))
noncomputable def fX5_collectHadByAll_L63s (n : Nat) (o1 : Nat) (lp63 : (St → Int → Option St)) : St → Int → Option St := fun σ x2 => if 160 ≤ x2 then (some σ) else (rd σ 5 160 x2 (fun v9 => if v9 ≠ 4 then (ck (x2 + 1) (fun v10 => lp63 σ v10)) else (b1 (fX0_add σ 6 x2) (fun σ11 => ck (x2 + 1) (fun v12 => lp63 σ11 v12)))))
noncomputable def fX5_collectHadByAll_L63 (n : Nat) (o1 : Nat) (k : Nat) : St → Int → Option St := lpR (fun _ _ => none) (fX5_collectHadByAll_L63s n o1) k
noncomputable def fX5_collectHadByAll_L26s (n : Nat) (o1 : Nat) (lp26 : (St → Int → Option St)) : St → Int → Option St := fun σ x2 => if 4 ≤ x2 then (b1 (fX0_clear n σ 6) (fun σ3 => fX5_collectHadByAll_L63 n o1 n σ3 0)) else (b2 (zw (fX5_siteAt σ x2)) (fun o5 σ4 => b1 (fX4_knownOf σ4 o1 x2) (fun v6 => b1 (fX4_countFirst n σ4 o5 v6 5) (fun σ7 => ck (x2 + 1) (fun v8 => lp26 σ7 v8)))))
noncomputable def fX5_collectHadByAll_L26 (n : Nat) (o1 : Nat) (k : Nat) : St → Int → Option St := lpR (fun _ _ => none) (fX5_collectHadByAll_L26s n o1) k
noncomputable def fX5_collectHadByAll_L2s (n : Nat) (o1 : Nat) (lp2 : (St → Int → Option St)) : St → Int → Option St := fun σ x2 => if 160 ≤ x2 then (fX5_collectHadByAll_L26 n o1 n σ 0) else (wr σ 5 160 x2 0 (fun σ1 => ck (x2 + 1) (fun v2 => lp2 σ1 v2)))
noncomputable def fX5_collectHadByAll_L2 (n : Nat) (o1 : Nat) (k : Nat) : St → Int → Option St := lpR (fun _ _ => none) (fX5_collectHadByAll_L2s n o1) k
noncomputable def fX5_collectHadByAll (n : Nat) (σ : St) (o1 : Nat) : Option St := fX5_collectHadByAll_L2 n o1 n σ 0
noncomputable def fX5_buried_L33s (n : Nat) (σ : St) (x1 : Int) (o3 : Nat) (lp33 : (Int → Int → Option (Nat × Int × St))) : Int → Int → Option (Nat × Int × St) := fun x4 x5 => if σ 8 8 ≤ x5 then (some (0, x4, σ)) else (b1 (fX3_isGrave σ o3 x5) (fun v7 => if v7 = 0 then (ck (x5 + 1) (fun v8 => lp33 x4 v8)) else (b1 (fX3_isGrave σ 180 x5) (fun v9 => if v9 = 0 then (ck (x5 + 1) (fun v10 => lp33 x4 v10)) else (ck (x4 + 1) (fun v11 => ck (x5 + 1) (fun v12 => lp33 v11 v12)))))))
noncomputable def fX5_buried_L33 (n : Nat) (σ : St) (x1 : Int) (o3 : Nat) (k : Nat) : Int → Int → Option (Nat × Int × St) := lpR (fun _ _ => none) (fX5_buried_L33s n σ x1 o3) k
noncomputable def fX5_buried (n : Nat) (σ : St) (x1 : Int) : Option (Nat × Int × St) := xw 0 (fX5_siteAt σ x1) (fun o2 σ1 => b1 (fX5_collectHadByAll n σ1 o2) (fun σ3 => b1 (fX3_doAll n σ3 180 6) (fun σ4 => b2 (fX5_paperOf n σ4 o2) (fun o6 σ5 => fX5_buried_L33 n σ5 x1 o6 n 0 0))))
noncomputable def fX5_acts (σ : St) : Option Int := some (σ 8 8)
noncomputable def fX5_has (σ : St) (x1 : Int) : Option (Nat × Int × St) := xw 0 (fX5_siteAt σ x1) (fun o2 σ1 => some (0, σ1 (o2 + 1) 1, σ1))
noncomputable def fX5_act_J15 (σ : St) (x1 : Int) : Option (Nat × Int × St) := some (1, 0, σ)
noncomputable def fX5_act (σ : St) (x1 : Int) : Option (Nat × Int × St) := if x1 < 0 then (fX5_act_J15 σ x1) else (if x1 < σ 8 8 then (b1 (fX1_countOf σ x1) (fun v1 => ck (1000 * v1) (fun v2 => b1 (fX1_siteOf σ x1) (fun v3 => ck (100 * v3) (fun v4 => ck (v2 + v4) (fun v5 => b1 (fX1_kindOf σ x1) (fun v6 => ck (v5 + v6) (fun v7 => some (0, v7, σ))))))))) else (fX5_act_J15 σ x1))
noncomputable def fX5_isUndone (n : Nat) (σ : St) (x1 : Int) (x2 : Int) : Option (Nat × Int × St) := xw 0 (fX5_siteAt σ x1) (fun o2 σ1 => xw 0 (fX5_checkHeld σ1 o2 x2) (fun _ σ3 => b2 (fX5_paperOf n σ3 o2) (fun o5 σ4 => b1 (fX3_wasUndone σ4 o5 x2) (fun v6 => some (0, v6, σ4)))))
set_option maxRecDepth 100000 in
set_option maxHeartbeats 4000000 in
theorem ok0_X5_undo {l : Launch} {D : va_G} {cy : Nat → ClassId} {ad : Nat → Nat} {nm nv sz : Nat} {σ : St} {n : Nat} {x1 : Int} {r : Int} {σ2 : St} (hx1 : inR x1) (hf : fX5_undo n σ x1 = some (0, r, σ2)) : CI l yX5_undo cX5_undo 4 (some .int) ({ frames := 6, cells := 0, slots := 0, locals := 163 } : Room) [.ref (ad 0), .int (i32 x1)] D cy ad nm nv sz σ false r σ2 := by
  refine m_entry RX5 rfl (by decide +kernel) (Nat.le_of_ble_eq_true rfl) ?_
  intro p e s m args below meth c Q hQ hr hlocks X hW hS ls hl
  have hx := X.1
  have hb := X.2.1
  have hl : lv_has ls 4 [(0, .ref (ad 0)), (1, .int (i32 x1))] := hl
  unfold fX5_undo at hf
  refine lv_aload_n hx hb dX5_undo_0 rfl (lv_at hl 0 rfl) ?_
  refine lv_iload_n hx hb dX5_undo_1 rfl (lv_at hl 1 rfl) ?_
  have hf := xw_b2 hf
  refine m_callVr (K := isSite) (As := [.int (i32 x1)]) (rest := []) X hW hS hl.1 gc_X5_61 hd_X5_siteAt ⟨rfl, rfl, Nat.le_of_ble_eq_true rfl, Nat.le_of_ble_eq_true rfl⟩ (rc_X5 X hW) (fun v q9 q => ok0_X5_siteAt hx1 (zw_of q)) hf rfl rfl (Nat.le_of_ble_eq_true rfl) dX5_undo_2 ⟨Nat.le_of_ble_eq_true rfl, Nat.le_of_ble_eq_true rfl⟩ (fun o2 σ1 H locs ho2 hW1 hS1 hf => ?_)
  refine lv_astore_n (lv' := [(2, .ref (ad o2)), (0, .ref (ad 0)), (1, .int (i32 x1))]) hx hb dX5_undo_5 rfl hl (by decide) rfl (fun ls hl => ?_)
  refine lv_aload_n hx hb dX5_undo_6 rfl (lv_at hl 1 rfl) ?_
  refine lv_aload_n hx hb dX5_undo_7 rfl (lv_at hl 0 rfl) ?_
  refine lv_aload_n hx hb dX5_undo_8 rfl (lv_at hl 0 rfl) ?_
  refine m_callSr (K := isPaper) (As := [.ref (ad o2)]) (rest := [.ref (ad o2), .ref (ad 0)]) X hW1 hS1 hl.1 gc_X5_72 hd_X5_paperOf ⟨rfl, rfl, Nat.le_of_ble_eq_true rfl, Nat.le_of_ble_eq_true rfl⟩ (fun v q9 q => ok_X5_paperOf ho2 q) hf rfl rfl (Nat.le_of_ble_eq_true rfl) dX5_undo_9 ⟨Nat.le_of_ble_eq_true rfl, Nat.le_of_ble_eq_true rfl⟩ (fun o4 σ3 H locs ho4 hW3 hS3 hf => ?_)
  refine m_callVi1 (z := false) (As := [.ref (ad o2), .ref (ad o4)]) (rest := []) X hW3 hS3 hl.1 gc_X5_166 hd_X5_lastNotUndone ⟨rfl, rfl, Nat.le_of_ble_eq_true rfl, Nat.le_of_ble_eq_true rfl⟩ (rc_X5 X hW3) (fun v q => ok_X5_lastNotUndone ho2 ho4 q) hf rfl rfl (Nat.le_of_ble_eq_true rfl) dX5_undo_12 ⟨Nat.le_of_ble_eq_true rfl, Nat.le_of_ble_eq_true rfl⟩ (fun v5 H locs hv5 zv5 hWv5 hSv5 hf => ?_)
  refine lv_istore_n (lv' := [(3, .int (i32 v5)), (2, .ref (ad o2)), (0, .ref (ad 0)), (1, .int (i32 x1))]) hx hb dX5_undo_15 rfl hl (by decide) rfl (fun ls hl => ?_)
  refine lv_iload_n hx hb dX5_undo_16 rfl (lv_at hl 0 rfl) ?_
  refine m_const (v := (-1)) hx hb dX5_undo_17 rfl ?_
  refine m_icmp_ne (tgt := 31) hx hb hv5 (by decide) hf dX5_undo_18 (by decide) (fun hf => ?_) (fun hf => ?_)
  · skip
    refine lv_aload_n hx hb dX5_undo_31 rfl (lv_at hl 2 rfl) ?_
    refine m_const (v := 1) hx hb dX5_undo_32 rfl ?_
    have hf := xw_b1 hf
    refine m_callVv (As := [.int (i32 1)]) (rest := []) X hWv5 hSv5 hl.1 gc_X5_105 hd_X5_checkRoomFor ⟨rfl, rfl, Nat.le_of_ble_eq_true rfl, Nat.le_of_ble_eq_true rfl⟩ (rc_X5 X hWv5) (fun q9 q => ok0_X5_checkRoomFor (by decide) (zv_of q).choose_spec) hf rfl rfl (Nat.le_of_ble_eq_true rfl) dX5_undo_33 ⟨Nat.le_of_ble_eq_true rfl, Nat.le_of_ble_eq_true rfl⟩ (fun σ6 H locs hW6 hS6 hf => ?_)
    refine lv_aload_n hx hb dX5_undo_36 rfl (lv_at hl 2 rfl) ?_
    refine lv_aload_n hx hb dX5_undo_37 rfl (lv_at hl 1 rfl) ?_
    refine m_bipush (v := 11) hx hb dX5_undo_38 (by decide) ?_
    refine lv_iload_n hx hb dX5_undo_40 rfl (lv_at hl 0 rfl) ?_
    refine m_const (v := (-1)) hx hb dX5_undo_41 rfl ?_
    refine m_const (v := 0) hx hb dX5_undo_42 rfl ?_
    refine m_const (v := 0) hx hb dX5_undo_43 rfl ?_
    refine m_callVi (z := false) (As := [.ref (ad o2), .int (i32 11), .int (i32 v5), .int (i32 (-1)), .int (i32 0), .int (i32 0)]) (rest := []) X hW6 hS6 hl.1 gc_X5_117 hd_X5_make ⟨rfl, rfl, Nat.le_of_ble_eq_true rfl, Nat.le_of_ble_eq_true rfl⟩ (rc_X5 X hW6) (fun v q9 q => ok_X5_make ho2 (by decide) hv5 (by decide) (by decide) (by decide) q) hf rfl rfl (Nat.le_of_ble_eq_true rfl) dX5_undo_44 ⟨Nat.le_of_ble_eq_true rfl, Nat.le_of_ble_eq_true rfl⟩ (fun v8 σ7 H locs hv8 zv8 hW7 hS7 hf => ?_)
    refine lv_pop hx hb dX5_undo_47 rfl ?_
    refine lv_iload_n hx hb dX5_undo_48 rfl (lv_at hl 0 rfl) ?_
    exact m_ireti X hr hlocks rfl hv5 (fun h => Bool.noConfusion h) hW7 hS7 (congrArg (fun q => q.2.1) (Option.some.inj hf)) (congrArg (fun q => q.2.2) (Option.some.inj hf)) hQ dX5_undo_49
  · skip
    exact absurd (congrArg (fun q => q.1) (Option.some.inj hf)) (by simp)
set_option maxRecDepth 100000 in
set_option maxHeartbeats 4000000 in
theorem ok_X5_lastToRedo {l : Launch} {D : va_G} {cy : Nat → ClassId} {ad : Nat → Nat} {nm nv sz : Nat} {σ : St} {n : Nat} {o1 : Nat} {o2 : Nat} {r : Int} (ho1 : isSite o1) (ho2 : isPaper o2) (hf : fX5_lastToRedo n σ o1 o2 = some r) : CI l yX5_lastToRedo cX5_lastToRedo 5 (some .int) ({ frames := 2, cells := 0, slots := 0, locals := 43 } : Room) [.ref (ad 0), .ref (ad o1), .ref (ad o2)] D cy ad nm nv sz σ false r σ := by
  refine m_entry RX5 rfl (by decide +kernel) (Nat.le_of_ble_eq_true rfl) ?_
  intro p e s m args below meth c Q hQ hr hlocks X hW hS ls hl
  have hx := X.1
  have hb := X.2.1
  have hl : lv_has ls 5 [(0, .ref (ad 0)), (1, .ref (ad o1)), (2, .ref (ad o2))] := hl
  unfold fX5_lastToRedo at hf
  have hc10 : ∀ (k10 : Nat) (H : Heap) (locs : List Loc) (ls : Array Slot) (x3 : Int), inR x3 → fX5_lastToRedo_L10 n σ o1 o2 k10 x3 = some r → Wd D cy ad nm nv σ H → va_S (AW ad nm nv sz) s.heap H locs → lv_has ls 5 [(0, .ref (ad 0)), (1, .ref (ad o1)), (2, .ref (ad o2)), (3, .int (i32 x3))] → W p l e ({ frames := 2, cells := 0, slots := 0, locals := 43 } : Room) s m args below meth c H locs 0 0 Q (F0 m 10 ls []) := by
    intro k10
    induction k10 with
    | zero =>
      intro H locs ls x3 hx3 hf
      have hf : (none : Option Int) = some r := hf
      cases hf
    | succ k10 ih10 =>
      intro H locs ls x3 hx3 hf hW hS hl
      have hf : fX5_lastToRedo_L10s n σ o1 o2 (fX5_lastToRedo_L10 n σ o1 o2 k10) x3 = some r := hf
      unfold fX5_lastToRedo_L10s at hf
      refine lv_iload_n hx hb dX5_lastToRedo_10 rfl (lv_at hl 3 rfl) ?_
      refine m_if_lt (tgt := 97) hx hb hx3 hf dX5_lastToRedo_11 (by decide) (fun hf => ?_) (fun hf => ?_)
      · skip
        refine m_const (v := (-1)) hx hb dX5_lastToRedo_97 rfl ?_
        exact m_ireti X hr hlocks rfl (by decide) (fun h => Bool.noConfusion h) hW hS (Option.some.inj hf) rfl hQ dX5_lastToRedo_98
      · skip
        refine lv_aload_n hx hb dX5_lastToRedo_14 rfl (lv_at hl 0 rfl) ?_
        refine g_X5_book X hW (X.2.2.2.2.1 _ mw179) dX5_lastToRedo_15 ?_
        refine lv_iload_n hx hb dX5_lastToRedo_18 rfl (lv_at hl 3 rfl) ?_
        refine m_callVi1 (z := false) (As := [.int (i32 x3)]) (rest := []) X hW hS hl.1 gc_X5_202 hd_X1_inOrder ⟨rfl, rfl, Nat.le_of_ble_eq_true rfl, Nat.le_of_ble_eq_true rfl⟩ (rc_X1 X hW) (fun v q => ok_X1_inOrder hx3 q) hf rfl rfl (Nat.le_of_ble_eq_true rfl) dX5_lastToRedo_19 ⟨Nat.le_of_ble_eq_true rfl, Nat.le_of_ble_eq_true rfl⟩ (fun v2 H locs hv2 zv2 hWv2 hSv2 hf => ?_)
        refine lv_istore (lv' := [(4, .int (i32 v2)), (0, .ref (ad 0)), (1, .ref (ad o1)), (2, .ref (ad o2)), (3, .int (i32 x3))]) hx hb dX5_lastToRedo_22 hl (by decide) rfl (fun ls hl => ?_)
        refine lv_aload_n hx hb dX5_lastToRedo_24 rfl (lv_at hl 1 rfl) ?_
        refine lv_aload_n hx hb dX5_lastToRedo_25 rfl (lv_at hl 2 rfl) ?_
        refine lv_iload hx hb dX5_lastToRedo_26 (lv_at hl 0 rfl) ?_
        refine m_callVi1 (z := true) (As := [.ref (ad o1), .int (i32 v2)]) (rest := []) X hWv2 hSv2 hl.1 gc_X5_372 hd_X5_madeAndHas ⟨rfl, rfl, Nat.le_of_ble_eq_true rfl, Nat.le_of_ble_eq_true rfl⟩ (rc_X5 X hWv2) (fun v q => ok_X5_madeAndHas ho1 hv2 q) hf rfl rfl (Nat.le_of_ble_eq_true rfl) dX5_lastToRedo_28 ⟨Nat.le_of_ble_eq_true rfl, Nat.le_of_ble_eq_true rfl⟩ (fun v3 H locs hv3 zv3 hWv3 hSv3 hf => ?_)
        refine m_if_ne (tgt := 37) hx hb hv3 hf dX5_lastToRedo_31 (by decide) (fun hf => ?_) (fun hf => ?_)
        · skip
          refine lv_aload_n hx hb dX5_lastToRedo_37 rfl (lv_at hl 1 rfl) ?_
          refine g_X5_book X hWv3 (X.2.2.2.2.1 _ mw179) dX5_lastToRedo_38 ?_
          refine lv_iload hx hb dX5_lastToRedo_41 (lv_at hl 0 rfl) ?_
          refine m_callVi1 (z := true) (As := [.int (i32 v2)]) (rest := []) X hWv3 hSv3 hl.1 gc_X5_376 hd_X1_isUndoable ⟨rfl, rfl, Nat.le_of_ble_eq_true rfl, Nat.le_of_ble_eq_true rfl⟩ (rc_X1 X hWv3) (fun v q => ok_X1_isUndoable hv2 q) hf rfl rfl (Nat.le_of_ble_eq_true rfl) dX5_lastToRedo_43 ⟨Nat.le_of_ble_eq_true rfl, Nat.le_of_ble_eq_true rfl⟩ (fun v4 H locs hv4 zv4 hWv4 hSv4 hf => ?_)
          refine m_if_eq (tgt := 51) hx hb hv4 hf dX5_lastToRedo_46 (by decide) (fun hf => ?_) (fun hf => ?_)
          · skip
            refine lv_aload_n hx hb dX5_lastToRedo_51 rfl (lv_at hl 1 rfl) ?_
            refine g_X5_book X hWv4 (X.2.2.2.2.1 _ mw179) dX5_lastToRedo_52 ?_
            refine lv_iload hx hb dX5_lastToRedo_55 (lv_at hl 0 rfl) ?_
            refine m_callVi1 (z := false) (As := [.int (i32 v2)]) (rest := []) X hWv4 hSv4 hl.1 gc_X5_291 hd_X1_kindOf ⟨rfl, rfl, Nat.le_of_ble_eq_true rfl, Nat.le_of_ble_eq_true rfl⟩ (rc_X1 X hWv4) (fun v q => ok_X1_kindOf hv2 q) hf rfl rfl (Nat.le_of_ble_eq_true rfl) dX5_lastToRedo_57 ⟨Nat.le_of_ble_eq_true rfl, Nat.le_of_ble_eq_true rfl⟩ (fun v5 H locs hv5 zv5 hWv5 hSv5 hf => ?_)
            refine m_bipush (v := 11) hx hb dX5_lastToRedo_60 (by decide) ?_
            refine m_icmp_ne (tgt := 91) hx hb hv5 (by decide) hf dX5_lastToRedo_62 (by decide) (fun hf => ?_) (fun hf => ?_)
            · skip
              refine m_iinc (k0 := 4) (fun v6 => [(3, .int (i32 v6)), (4, .int (i32 v2)), (0, .ref (ad 0)), (1, .ref (ad o1)), (2, .ref (ad o2))]) hx hb hf dX5_lastToRedo_91 hl rfl (by decide) (fun _ => rfl) (fun v6 ls hv6 hf hl => ?_)
              have hl : lv_has ls 5 [(3, .int (i32 v6)), (4, .int (i32 v2)), (0, .ref (ad 0)), (1, .ref (ad o1)), (2, .ref (ad o2))] := hl
              refine lv_goto (tgt := 10) hx hb dX5_lastToRedo_94 (by decide) ?_
              exact ih10 _ _ _ v6 hv6 hf hWv5 hSv5 (lv_sub hl [2, 3, 4, 0] rfl)
            · skip
              refine lv_aload_n hx hb dX5_lastToRedo_65 rfl (lv_at hl 3 rfl) ?_
              refine lv_aload_n hx hb dX5_lastToRedo_66 rfl (lv_at hl 1 rfl) ?_
              refine g_X5_book X hWv5 (X.2.2.2.2.1 _ mw179) dX5_lastToRedo_67 ?_
              refine lv_iload hx hb dX5_lastToRedo_70 (lv_at hl 0 rfl) ?_
              refine m_callVi1 (z := false) (As := [.int (i32 v2)]) (rest := [.ref (ad o2)]) X hWv5 hSv5 hl.1 gc_X5_379 hd_X1_firstOf ⟨rfl, rfl, Nat.le_of_ble_eq_true rfl, Nat.le_of_ble_eq_true rfl⟩ (rc_X1 X hWv5) (fun v q => ok_X1_firstOf hv2 q) hf rfl rfl (Nat.le_of_ble_eq_true rfl) dX5_lastToRedo_72 ⟨Nat.le_of_ble_eq_true rfl, Nat.le_of_ble_eq_true rfl⟩ (fun v7 H locs hv7 zv7 hWv7 hSv7 hf => ?_)
              refine m_callVi1 (z := true) (As := [.int (i32 v7)]) (rest := []) X hWv7 hSv7 hl.1 gc_X5_327 hd_X3_wasUndone ⟨rfl, rfl, Nat.le_of_ble_eq_true rfl, Nat.le_of_ble_eq_true rfl⟩ (rc_X3 X hWv7 ho2) (fun v q => ok_X3_wasUndone ho2 hv7 q) hf rfl rfl (Nat.le_of_ble_eq_true rfl) dX5_lastToRedo_75 ⟨Nat.le_of_ble_eq_true rfl, Nat.le_of_ble_eq_true rfl⟩ (fun v8 H locs hv8 zv8 hWv8 hSv8 hf => ?_)
              refine m_if_eq (tgt := 91) hx hb hv8 hf dX5_lastToRedo_78 (by decide) (fun hf => ?_) (fun hf => ?_)
              · skip
                refine m_iinc (k0 := 4) (fun v9 => [(3, .int (i32 v9)), (4, .int (i32 v2)), (0, .ref (ad 0)), (1, .ref (ad o1)), (2, .ref (ad o2))]) hx hb hf dX5_lastToRedo_91 hl rfl (by decide) (fun _ => rfl) (fun v9 ls hv9 hf hl => ?_)
                have hl : lv_has ls 5 [(3, .int (i32 v9)), (4, .int (i32 v2)), (0, .ref (ad 0)), (1, .ref (ad o1)), (2, .ref (ad o2))] := hl
                refine lv_goto (tgt := 10) hx hb dX5_lastToRedo_94 (by decide) ?_
                exact ih10 _ _ _ v9 hv9 hf hWv8 hSv8 (lv_sub hl [2, 3, 4, 0] rfl)
              · skip
                refine lv_aload_n hx hb dX5_lastToRedo_81 rfl (lv_at hl 1 rfl) ?_
                refine g_X5_book X hWv8 (X.2.2.2.2.1 _ mw179) dX5_lastToRedo_82 ?_
                refine lv_iload hx hb dX5_lastToRedo_85 (lv_at hl 0 rfl) ?_
                refine m_callVi1 (z := false) (As := [.int (i32 v2)]) (rest := []) X hWv8 hSv8 hl.1 gc_X5_379 hd_X1_firstOf ⟨rfl, rfl, Nat.le_of_ble_eq_true rfl, Nat.le_of_ble_eq_true rfl⟩ (rc_X1 X hWv8) (fun v q => ok_X1_firstOf hv2 q) hf rfl rfl (Nat.le_of_ble_eq_true rfl) dX5_lastToRedo_87 ⟨Nat.le_of_ble_eq_true rfl, Nat.le_of_ble_eq_true rfl⟩ (fun v10 H locs hv10 zv10 hWv10 hSv10 hf => ?_)
                exact m_ireti X hr hlocks rfl hv10 (fun h => Bool.noConfusion h) hWv10 hSv10 (Option.some.inj hf) rfl hQ dX5_lastToRedo_90
          · skip
            refine m_const (v := (-1)) hx hb dX5_lastToRedo_49 rfl ?_
            exact m_ireti X hr hlocks rfl (by decide) (fun h => Bool.noConfusion h) hWv4 hSv4 (Option.some.inj hf) rfl hQ dX5_lastToRedo_50
        · skip
          refine lv_goto (tgt := 91) hx hb dX5_lastToRedo_34 (by decide) ?_
          refine m_iinc (k0 := 4) (fun v11 => [(3, .int (i32 v11)), (4, .int (i32 v2)), (0, .ref (ad 0)), (1, .ref (ad o1)), (2, .ref (ad o2))]) hx hb hf dX5_lastToRedo_91 hl rfl (by decide) (fun _ => rfl) (fun v11 ls hv11 hf hl => ?_)
          have hl : lv_has ls 5 [(3, .int (i32 v11)), (4, .int (i32 v2)), (0, .ref (ad 0)), (1, .ref (ad o1)), (2, .ref (ad o2))] := hl
          refine lv_goto (tgt := 10) hx hb dX5_lastToRedo_94 (by decide) ?_
          exact ih10 _ _ _ v11 hv11 hf hWv3 hSv3 (lv_sub hl [2, 3, 4, 0] rfl)
  refine lv_aload_n hx hb dX5_lastToRedo_0 rfl (lv_at hl 0 rfl) ?_
  refine g_X5_book X hW (X.2.2.2.2.1 _ mw179) dX5_lastToRedo_1 ?_
  refine gN_X1_made X hW (nf_X5_199 X.2.2.2.2.2.2.2.2) dX5_lastToRedo_4 ?_
  refine m_const (v := 1) hx hb dX5_lastToRedo_7 rfl ?_
  refine m_isub hx hb hf dX5_lastToRedo_8 (fun v1 hv1 hf => ?_)
  refine lv_istore_n (lv' := [(3, .int (i32 v1)), (0, .ref (ad 0)), (1, .ref (ad o1)), (2, .ref (ad o2))]) hx hb dX5_lastToRedo_9 rfl hl (by decide) rfl (fun ls hl => ?_)
  exact hc10 n _ _ _ v1 hv1 hf hW hS (lv_sub hl [1, 2, 3, 0] rfl)
set_option maxRecDepth 100000 in
set_option maxHeartbeats 4000000 in
theorem ok0_X5_redo {l : Launch} {D : va_G} {cy : Nat → ClassId} {ad : Nat → Nat} {nm nv sz : Nat} {σ : St} {n : Nat} {x1 : Int} {r : Int} {σ2 : St} (hx1 : inR x1) (hf : fX5_redo n σ x1 = some (0, r, σ2)) : CI l yX5_redo cX5_redo 4 (some .int) ({ frames := 6, cells := 0, slots := 0, locals := 163 } : Room) [.ref (ad 0), .int (i32 x1)] D cy ad nm nv sz σ false r σ2 := by
  refine m_entry RX5 rfl (by decide +kernel) (Nat.le_of_ble_eq_true rfl) ?_
  intro p e s m args below meth c Q hQ hr hlocks X hW hS ls hl
  have hx := X.1
  have hb := X.2.1
  have hl : lv_has ls 4 [(0, .ref (ad 0)), (1, .int (i32 x1))] := hl
  unfold fX5_redo at hf
  refine lv_aload_n hx hb dX5_redo_0 rfl (lv_at hl 0 rfl) ?_
  refine lv_iload_n hx hb dX5_redo_1 rfl (lv_at hl 1 rfl) ?_
  have hf := xw_b2 hf
  refine m_callVr (K := isSite) (As := [.int (i32 x1)]) (rest := []) X hW hS hl.1 gc_X5_61 hd_X5_siteAt ⟨rfl, rfl, Nat.le_of_ble_eq_true rfl, Nat.le_of_ble_eq_true rfl⟩ (rc_X5 X hW) (fun v q9 q => ok0_X5_siteAt hx1 (zw_of q)) hf rfl rfl (Nat.le_of_ble_eq_true rfl) dX5_redo_2 ⟨Nat.le_of_ble_eq_true rfl, Nat.le_of_ble_eq_true rfl⟩ (fun o2 σ1 H locs ho2 hW1 hS1 hf => ?_)
  refine lv_astore_n (lv' := [(2, .ref (ad o2)), (0, .ref (ad 0)), (1, .int (i32 x1))]) hx hb dX5_redo_5 rfl hl (by decide) rfl (fun ls hl => ?_)
  refine lv_aload_n hx hb dX5_redo_6 rfl (lv_at hl 1 rfl) ?_
  refine lv_aload_n hx hb dX5_redo_7 rfl (lv_at hl 0 rfl) ?_
  refine lv_aload_n hx hb dX5_redo_8 rfl (lv_at hl 0 rfl) ?_
  refine m_callSr (K := isPaper) (As := [.ref (ad o2)]) (rest := [.ref (ad o2), .ref (ad 0)]) X hW1 hS1 hl.1 gc_X5_72 hd_X5_paperOf ⟨rfl, rfl, Nat.le_of_ble_eq_true rfl, Nat.le_of_ble_eq_true rfl⟩ (fun v q9 q => ok_X5_paperOf ho2 q) hf rfl rfl (Nat.le_of_ble_eq_true rfl) dX5_redo_9 ⟨Nat.le_of_ble_eq_true rfl, Nat.le_of_ble_eq_true rfl⟩ (fun o4 σ3 H locs ho4 hW3 hS3 hf => ?_)
  refine m_callVi1 (z := false) (As := [.ref (ad o2), .ref (ad o4)]) (rest := []) X hW3 hS3 hl.1 gc_X5_172 hd_X5_lastToRedo ⟨rfl, rfl, Nat.le_of_ble_eq_true rfl, Nat.le_of_ble_eq_true rfl⟩ (rc_X5 X hW3) (fun v q => ok_X5_lastToRedo ho2 ho4 q) hf rfl rfl (Nat.le_of_ble_eq_true rfl) dX5_redo_12 ⟨Nat.le_of_ble_eq_true rfl, Nat.le_of_ble_eq_true rfl⟩ (fun v5 H locs hv5 zv5 hWv5 hSv5 hf => ?_)
  refine lv_istore_n (lv' := [(3, .int (i32 v5)), (2, .ref (ad o2)), (0, .ref (ad 0)), (1, .int (i32 x1))]) hx hb dX5_redo_15 rfl hl (by decide) rfl (fun ls hl => ?_)
  refine lv_iload_n hx hb dX5_redo_16 rfl (lv_at hl 0 rfl) ?_
  refine m_const (v := (-1)) hx hb dX5_redo_17 rfl ?_
  refine m_icmp_ne (tgt := 31) hx hb hv5 (by decide) hf dX5_redo_18 (by decide) (fun hf => ?_) (fun hf => ?_)
  · skip
    refine lv_aload_n hx hb dX5_redo_31 rfl (lv_at hl 2 rfl) ?_
    refine m_const (v := 1) hx hb dX5_redo_32 rfl ?_
    have hf := xw_b1 hf
    refine m_callVv (As := [.int (i32 1)]) (rest := []) X hWv5 hSv5 hl.1 gc_X5_105 hd_X5_checkRoomFor ⟨rfl, rfl, Nat.le_of_ble_eq_true rfl, Nat.le_of_ble_eq_true rfl⟩ (rc_X5 X hWv5) (fun q9 q => ok0_X5_checkRoomFor (by decide) (zv_of q).choose_spec) hf rfl rfl (Nat.le_of_ble_eq_true rfl) dX5_redo_33 ⟨Nat.le_of_ble_eq_true rfl, Nat.le_of_ble_eq_true rfl⟩ (fun σ6 H locs hW6 hS6 hf => ?_)
    refine lv_aload_n hx hb dX5_redo_36 rfl (lv_at hl 2 rfl) ?_
    refine lv_aload_n hx hb dX5_redo_37 rfl (lv_at hl 1 rfl) ?_
    refine m_bipush (v := 12) hx hb dX5_redo_38 (by decide) ?_
    refine lv_iload_n hx hb dX5_redo_40 rfl (lv_at hl 0 rfl) ?_
    refine m_const (v := (-1)) hx hb dX5_redo_41 rfl ?_
    refine m_const (v := 0) hx hb dX5_redo_42 rfl ?_
    refine m_const (v := 0) hx hb dX5_redo_43 rfl ?_
    refine m_callVi (z := false) (As := [.ref (ad o2), .int (i32 12), .int (i32 v5), .int (i32 (-1)), .int (i32 0), .int (i32 0)]) (rest := []) X hW6 hS6 hl.1 gc_X5_117 hd_X5_make ⟨rfl, rfl, Nat.le_of_ble_eq_true rfl, Nat.le_of_ble_eq_true rfl⟩ (rc_X5 X hW6) (fun v q9 q => ok_X5_make ho2 (by decide) hv5 (by decide) (by decide) (by decide) q) hf rfl rfl (Nat.le_of_ble_eq_true rfl) dX5_redo_44 ⟨Nat.le_of_ble_eq_true rfl, Nat.le_of_ble_eq_true rfl⟩ (fun v8 σ7 H locs hv8 zv8 hW7 hS7 hf => ?_)
    refine lv_pop hx hb dX5_redo_47 rfl ?_
    refine lv_iload_n hx hb dX5_redo_48 rfl (lv_at hl 0 rfl) ?_
    exact m_ireti X hr hlocks rfl hv5 (fun h => Bool.noConfusion h) hW7 hS7 (congrArg (fun q => q.2.1) (Option.some.inj hf)) (congrArg (fun q => q.2.2) (Option.some.inj hf)) hQ dX5_redo_49
  · skip
    exact absurd (congrArg (fun q => q.1) (Option.some.inj hf)) (by simp)
set_option maxRecDepth 100000 in
set_option maxHeartbeats 4000000 in
theorem ok0_X5_messageAt {l : Launch} {D : va_G} {cy : Nat → ClassId} {ad : Nat → Nat} {nm nv sz : Nat} {σ : St} {x1 : Int} {r : Nat} {σ2 : St} (hx1 : inR x1) (hf : fX5_messageAt σ x1 = some (0, r, σ2)) : CA l yX5_messageAt cX5_messageAt 2 (some (.object "Marginnote$Message")) ({ frames := 0, cells := 0, slots := 0, locals := 0 } : Room) [.ref (ad 0), .int (i32 x1)] D cy ad nm nv sz σ (isMsg nm) r σ2 := by
  refine m_entry RX5 rfl (by decide +kernel) (Nat.le_of_ble_eq_true rfl) ?_
  intro p e s m args below meth c Q hQ hr hlocks X hW hS ls hl
  have hx := X.1
  have hb := X.2.1
  have hl : lv_has ls 2 [(0, .ref (ad 0)), (1, .int (i32 x1))] := hl
  unfold fX5_messageAt at hf
  have hc22 : ∀ (σ : St) (H : Heap) (locs : List Loc) (ls : Array Slot), fX5_messageAt_J22 σ x1 = some (0, r, σ2) → Wd D cy ad nm nv σ H → va_S (AW ad nm nv sz) s.heap H locs → lv_has ls 2 [] → W p l e ({ frames := 0, cells := 0, slots := 0, locals := 0 } : Room) s m args below meth c H locs 0 0 Q (F0 m 22 ls []) := by
    intro σ H locs ls hf hW hS hl
    unfold fX5_messageAt_J22 at hf
    exact absurd (congrArg (fun q => q.1) (Option.some.inj hf)) (by simp)
  refine lv_iload_n hx hb dX5_messageAt_0 rfl (lv_at hl 1 rfl) ?_
  refine m_if_lt (tgt := 22) hx hb hx1 hf dX5_messageAt_1 (by decide) (fun hf => ?_) (fun hf => ?_)
  · skip
    exact hc22 _ _ _ _  hf hW hS (lv_sub hl [] rfl)
  · skip
    refine lv_iload_n hx hb dX5_messageAt_4 rfl (lv_at hl 1 rfl) ?_
    refine lv_aload_n hx hb dX5_messageAt_5 rfl (lv_at hl 0 rfl) ?_
    refine g_X5_messages X hW (X.2.2.2.2.1 _ mw181) dX5_messageAt_6 ?_
    refine m_alen (v := 80) 4 X hW a_X5_messages ent_5 rfl rfl rfl dX5_messageAt_9 ?_
    refine m_icmp_ge (tgt := 22) hx hb hx1 (by decide) hf dX5_messageAt_10 (by decide) (fun hf => ?_) (fun hf => ?_)
    · skip
      exact hc22 _ _ _ _  hf hW hS (lv_sub hl [] rfl)
    · skip
      refine lv_aload_n hx hb dX5_messageAt_13 rfl (lv_at hl 0 rfl) ?_
      refine g_X5_messages X hW (X.2.2.2.2.1 _ mw181) dX5_messageAt_14 ?_
      refine lv_iload_n hx hb dX5_messageAt_17 rfl (lv_at hl 1 rfl) ?_
      refine m_aaldM X hW hx1 hf dX5_messageAt_18 (fun hf => ?_) (fun o1 ho1 hf => ?_)
      · skip
        refine lv_ifnonnullN hx hb dX5_messageAt_19 ?_
        exact hc22 _ _ _ _  hf hW hS (lv_sub hl [] rfl)
      · skip
        refine lv_ifnonnull (tgt := 33) hx hb dX5_messageAt_19 (by decide) ?_
        refine lv_aload_n hx hb dX5_messageAt_33 rfl (lv_at hl 0 rfl) ?_
        refine g_X5_messages X hW (X.2.2.2.2.1 _ mw181) dX5_messageAt_34 ?_
        refine lv_iload_n hx hb dX5_messageAt_37 rfl (lv_at hl 1 rfl) ?_
        refine m_aaldM X hW hx1 hf dX5_messageAt_38 (fun hf => ?_) (fun o2 ho2 hf => ?_)
        · skip
          cases hf
        · skip
          exact m_aret (K := (isMsg nm)) (Or.inl ⟨_, rfl⟩) X hr hlocks hW hS ho2 (congrArg (fun q => q.2.1) (Option.some.inj hf)) (congrArg (fun q => q.2.2) (Option.some.inj hf)) hQ dX5_messageAt_39
set_option maxRecDepth 100000 in
set_option maxHeartbeats 4000000 in
theorem ok0_X5_deliver {l : Launch} {D : va_G} {cy : Nat → ClassId} {ad : Nat → Nat} {nm nv sz : Nat} {σ : St} {n : Nat} {x1 : Int} {r : Int} {σ2 : St} (hx1 : inR x1) (hf : fX5_deliver n σ x1 = some (0, r, σ2)) : CI l yX5_deliver cX5_deliver 7 (some .int) ({ frames := 2, cells := 0, slots := 0, locals := 43 } : Room) [.ref (ad 0), .int (i32 x1)] D cy ad nm nv sz σ false r σ2 := by
  refine m_entry RX5 rfl (by decide +kernel) (Nat.le_of_ble_eq_true rfl) ?_
  intro p e s m args below meth c Q hQ hr hlocks X hW hS ls hl
  have hx := X.1
  have hb := X.2.1
  have hl : lv_has ls 7 [(0, .ref (ad 0)), (1, .int (i32 x1))] := hl
  unfold fX5_deliver at hf
  have hc27 : ∀ (k27 : Nat) (σ : St) (H : Heap) (locs : List Loc) (ls : Array Slot) (o2 : Nat) (o3 : Nat) (x4 : Int) (x5 : Int), isMsg nm o2 → isSite o3 → inR x4 → inR x5 → fX5_deliver_L27 n x1 o2 o3 x4 k27 σ x5 = some (0, r, σ2) → Wd D cy ad nm nv σ H → va_S (AW ad nm nv sz) s.heap H locs → lv_has ls 7 [(0, .ref (ad 0)), (2, .ref (ad o2)), (3, .ref (ad o3)), (4, .int (i32 x4)), (5, .int (i32 x5))] → W p l e ({ frames := 2, cells := 0, slots := 0, locals := 43 } : Room) s m args below meth c H locs 0 0 Q (F0 m 27 ls []) := by
    intro k27
    induction k27 with
    | zero =>
      intro σ H locs ls o2 o3 x4 x5 ho2 ho3 hx4 hx5 hf
      have hf : (none : Option (Nat × Int × St)) = some (0, r, σ2) := hf
      cases hf
    | succ k27 ih27 =>
      intro σ H locs ls o2 o3 x4 x5 ho2 ho3 hx4 hx5 hf hW hS hl
      have hf : fX5_deliver_L27s n x1 o2 o3 x4 (fX5_deliver_L27 n x1 o2 o3 x4 k27) σ x5 = some (0, r, σ2) := hf
      unfold fX5_deliver_L27s at hf
      refine lv_iload hx hb dX5_deliver_27 (lv_at hl 4 rfl) ?_
      refine lv_aload_n hx hb dX5_deliver_29 rfl (lv_at hl 0 rfl) ?_
      refine g_X5_book X hW (X.2.2.2.2.1 _ mw179) dX5_deliver_30 ?_
      refine gN_X1_made X hW (nf_X5_199 X.2.2.2.2.2.2.2.2) dX5_deliver_33 ?_
      refine m_icmp_ge (tgt := 83) hx hb hx5 (hW.2.1 _ _) hf dX5_deliver_36 (by decide) (fun hf => ?_) (fun hf => ?_)
      · skip
        refine lv_aload_n hx hb dX5_deliver_83 rfl (lv_at hl 2 rfl) ?_
        refine lv_aload_n hx hb dX5_deliver_84 rfl (lv_at hl 1 rfl) ?_
        refine gN_X2_known X hW ho2 (nf_X5_219 X.2.2.2.2.2.2.2.2) dX5_deliver_85 ?_
        refine m_callVv (As := [.ref (ad (o2 + 3))]) (rest := []) X hW hS hl.1 gc_X5_222 hd_X4_learn ⟨rfl, rfl, Nat.le_of_ble_eq_true rfl, Nat.le_of_ble_eq_true rfl⟩ (rc_X4 X hW ho3) (fun v q => ok_X4_learn ho3 (arrL (a_X2_known ho2)) q) hf rfl rfl (Nat.le_of_ble_eq_true rfl) dX5_deliver_88 ⟨Nat.le_of_ble_eq_true rfl, Nat.le_of_ble_eq_true rfl⟩ (fun σ5 H locs hW5 hS5 hf => ?_)
        refine lv_aload_n hx hb dX5_deliver_91 rfl (lv_at hl 2 rfl) ?_
        refine gN_X4_held X hW5 ho3 (nf_X5_193 X.2.2.2.2.2.2.2.2) dX5_deliver_92 ?_
        refine gN_X0_size X hW5 (r_X4_held ho3) (nf_X5_196 X.2.2.2.2.2.2.2.2) dX5_deliver_95 ?_
        refine lv_iload hx hb dX5_deliver_98 (lv_at hl 3 rfl) ?_
        refine m_isub hx hb hf dX5_deliver_100 (fun v6 hv6 hf => ?_)
        refine lv_istore (lv' := [(5, .int (i32 v6)), (0, .ref (ad 0)), (2, .ref (ad o2)), (3, .ref (ad o3)), (4, .int (i32 x4))]) hx hb dX5_deliver_101 hl (by decide) rfl (fun ls hl => ?_)
        refine lv_iload hx hb dX5_deliver_103 (lv_at hl 0 rfl) ?_
        refine m_if_le (tgt := 113) hx hb hv6 hf dX5_deliver_105 (by decide) (fun hf => ?_) (fun hf => ?_)
        · skip
          refine lv_iload hx hb dX5_deliver_113 (lv_at hl 0 rfl) ?_
          exact m_ireti X hr hlocks rfl hv6 (fun h => Bool.noConfusion h) hW5 hS5 (congrArg (fun q => q.2.1) (Option.some.inj hf)) (congrArg (fun q => q.2.2) (Option.some.inj hf)) hQ dX5_deliver_115
        · skip
          refine lv_aload_n hx hb dX5_deliver_108 rfl (lv_at hl 3 rfl) ?_
          refine m_const (v := 0) hx hb dX5_deliver_109 rfl ?_
          refine pN_X4_fresh X hW5 hS5 ho3 (by decide) hf (nf_X5_226 X.2.2.2.2.2.2.2.2) dX5_deliver_110 (fun σ7 H locs hW7 hS7 hf => ?_)
          refine lv_iload hx hb dX5_deliver_113 (lv_at hl 0 rfl) ?_
          exact m_ireti X hr hlocks rfl hv6 (fun h => Bool.noConfusion h) hW7 hS7 (congrArg (fun q => q.2.1) (Option.some.inj hf)) (congrArg (fun q => q.2.2) (Option.some.inj hf)) hQ dX5_deliver_115
      · skip
        refine lv_aload_n hx hb dX5_deliver_39 rfl (lv_at hl 0 rfl) ?_
        refine g_X5_book X hW (X.2.2.2.2.1 _ mw179) dX5_deliver_40 ?_
        refine lv_iload hx hb dX5_deliver_43 (lv_at hl 4 rfl) ?_
        refine m_callVi1 (z := false) (As := [.int (i32 x5)]) (rest := []) X hW hS hl.1 gc_X5_202 hd_X1_inOrder ⟨rfl, rfl, Nat.le_of_ble_eq_true rfl, Nat.le_of_ble_eq_true rfl⟩ (rc_X1 X hW) (fun v q => ok_X1_inOrder hx5 q) hf rfl rfl (Nat.le_of_ble_eq_true rfl) dX5_deliver_45 ⟨Nat.le_of_ble_eq_true rfl, Nat.le_of_ble_eq_true rfl⟩ (fun v8 H locs hv8 zv8 hWv8 hSv8 hf => ?_)
        refine lv_istore (lv' := [(6, .int (i32 v8)), (0, .ref (ad 0)), (2, .ref (ad o2)), (3, .ref (ad o3)), (4, .int (i32 x4)), (5, .int (i32 x5))]) hx hb dX5_deliver_48 hl (by decide) rfl (fun ls hl => ?_)
        refine lv_aload_n hx hb dX5_deliver_50 rfl (lv_at hl 2 rfl) ?_
        refine gN_X2_acts X hWv8 ho2 (nf_X5_205 X.2.2.2.2.2.2.2.2) dX5_deliver_51 ?_
        refine lv_iload hx hb dX5_deliver_54 (lv_at hl 0 rfl) ?_
        refine m_callVi1 (z := true) (As := [.int (i32 v8)]) (rest := []) X hWv8 hSv8 hl.1 gc_X5_208 hd_X0_contains ⟨rfl, rfl, Nat.le_of_ble_eq_true rfl, Nat.le_of_ble_eq_true rfl⟩ (rc_X0 X hWv8 (r_X2_acts ho2)) (fun v q => ok_X0_contains (r_X2_acts ho2) hv8 q) hf rfl rfl (Nat.le_of_ble_eq_true rfl) dX5_deliver_56 ⟨Nat.le_of_ble_eq_true rfl, Nat.le_of_ble_eq_true rfl⟩ (fun v9 H locs hv9 zv9 hWv9 hSv9 hf => ?_)
        refine m_if_eq (tgt := 77) hx hb hv9 hf dX5_deliver_59 (by decide) (fun hf => ?_) (fun hf => ?_)
        · skip
          refine m_iinc (k0 := 5) (fun v10 => [(5, .int (i32 v10)), (6, .int (i32 v8)), (0, .ref (ad 0)), (2, .ref (ad o2)), (3, .ref (ad o3)), (4, .int (i32 x4))]) hx hb hf dX5_deliver_77 hl rfl (by decide) (fun _ => rfl) (fun v10 ls hv10 hf hl => ?_)
          have hl : lv_has ls 7 [(5, .int (i32 v10)), (6, .int (i32 v8)), (0, .ref (ad 0)), (2, .ref (ad o2)), (3, .ref (ad o3)), (4, .int (i32 x4))] := hl
          refine lv_goto (tgt := 27) hx hb dX5_deliver_80 (by decide) ?_
          exact ih27 _ _ _ _ o2 o3 x4 v10 ho2 ho3 hx4 hv10 hf hWv9 hSv9 (lv_sub hl [2, 3, 4, 5, 0] rfl)
        · skip
          refine lv_aload_n hx hb dX5_deliver_62 rfl (lv_at hl 3 rfl) ?_
          refine lv_iload hx hb dX5_deliver_63 (lv_at hl 0 rfl) ?_
          refine lv_aload_n hx hb dX5_deliver_65 rfl (lv_at hl 1 rfl) ?_
          refine g_X5_book X hWv9 (X.2.2.2.2.1 _ mw179) dX5_deliver_66 ?_
          refine lv_iload hx hb dX5_deliver_69 (lv_at hl 0 rfl) ?_
          refine m_callVi1 (z := false) (As := [.int (i32 v8)]) (rest := [.int (i32 v8), .ref (ad o3)]) X hWv9 hSv9 hl.1 gc_X5_212 hd_X1_countOf ⟨rfl, rfl, Nat.le_of_ble_eq_true rfl, Nat.le_of_ble_eq_true rfl⟩ (rc_X1 X hWv9) (fun v q => ok_X1_countOf hv8 q) hf rfl rfl (Nat.le_of_ble_eq_true rfl) dX5_deliver_71 ⟨Nat.le_of_ble_eq_true rfl, Nat.le_of_ble_eq_true rfl⟩ (fun v11 H locs hv11 zv11 hWv11 hSv11 hf => ?_)
          refine m_callVv (As := [.int (i32 v8), .int (i32 v11)]) (rest := []) X hWv11 hSv11 hl.1 gc_X5_215 hd_X4_take ⟨rfl, rfl, Nat.le_of_ble_eq_true rfl, Nat.le_of_ble_eq_true rfl⟩ (rc_X4 X hWv11 ho3) (fun v q => ok_X4_take ho3 hv8 hv11 q) hf rfl rfl (Nat.le_of_ble_eq_true rfl) dX5_deliver_74 ⟨Nat.le_of_ble_eq_true rfl, Nat.le_of_ble_eq_true rfl⟩ (fun σ12 H locs hW12 hS12 hf => ?_)
          refine m_iinc (k0 := 5) (fun v13 => [(5, .int (i32 v13)), (6, .int (i32 v8)), (0, .ref (ad 0)), (2, .ref (ad o2)), (3, .ref (ad o3)), (4, .int (i32 x4))]) hx hb hf dX5_deliver_77 hl rfl (by decide) (fun _ => rfl) (fun v13 ls hv13 hf hl => ?_)
          have hl : lv_has ls 7 [(5, .int (i32 v13)), (6, .int (i32 v8)), (0, .ref (ad 0)), (2, .ref (ad o2)), (3, .ref (ad o3)), (4, .int (i32 x4))] := hl
          refine lv_goto (tgt := 27) hx hb dX5_deliver_80 (by decide) ?_
          exact ih27 _ _ _ _ o2 o3 x4 v13 ho2 ho3 hx4 hv13 hf hW12 hS12 (lv_sub hl [2, 3, 4, 5, 0] rfl)
  refine lv_aload_n hx hb dX5_deliver_0 rfl (lv_at hl 0 rfl) ?_
  refine lv_iload_n hx hb dX5_deliver_1 rfl (lv_at hl 1 rfl) ?_
  have hf := xw_b2 hf
  refine m_callVr (K := (isMsg nm)) (As := [.int (i32 x1)]) (rest := []) X hW hS hl.1 gc_X5_186 hd_X5_messageAt ⟨rfl, rfl, Nat.le_of_ble_eq_true rfl, Nat.le_of_ble_eq_true rfl⟩ (rc_X5 X hW) (fun v q9 q => ok0_X5_messageAt hx1 (zw_of q)) hf rfl rfl (Nat.le_of_ble_eq_true rfl) dX5_deliver_2 ⟨Nat.le_of_ble_eq_true rfl, Nat.le_of_ble_eq_true rfl⟩ (fun o2 σ1 H locs ho2 hW1 hS1 hf => ?_)
  refine lv_astore_n (lv' := [(2, .ref (ad o2)), (0, .ref (ad 0)), (1, .int (i32 x1))]) hx hb dX5_deliver_5 rfl hl (by decide) rfl (fun ls hl => ?_)
  refine lv_aload_n hx hb dX5_deliver_6 rfl (lv_at hl 1 rfl) ?_
  refine lv_aload_n hx hb dX5_deliver_7 rfl (lv_at hl 0 rfl) ?_
  refine gN_X2_receiver X hW1 ho2 (nf_X5_190 X.2.2.2.2.2.2.2.2) dX5_deliver_8 ?_
  have hf := xw_b2 hf
  refine m_callVr (K := isSite) (As := [.int (i32 (σ1 o2 0))]) (rest := []) X hW1 hS1 hl.1 gc_X5_61 hd_X5_siteAt ⟨rfl, rfl, Nat.le_of_ble_eq_true rfl, Nat.le_of_ble_eq_true rfl⟩ (rc_X5 X hW1) (fun v q9 q => ok0_X5_siteAt (hW1.2.1 _ _) (zw_of q)) hf rfl rfl (Nat.le_of_ble_eq_true rfl) dX5_deliver_11 ⟨Nat.le_of_ble_eq_true rfl, Nat.le_of_ble_eq_true rfl⟩ (fun o4 σ3 H locs ho4 hW3 hS3 hf => ?_)
  refine lv_astore_n (lv' := [(3, .ref (ad o4)), (2, .ref (ad o2)), (0, .ref (ad 0)), (1, .int (i32 x1))]) hx hb dX5_deliver_14 rfl hl (by decide) rfl (fun ls hl => ?_)
  refine lv_aload_n hx hb dX5_deliver_15 rfl (lv_at hl 0 rfl) ?_
  refine gN_X4_held X hW3 ho4 (nf_X5_193 X.2.2.2.2.2.2.2.2) dX5_deliver_16 ?_
  refine gN_X0_size X hW3 (r_X4_held ho4) (nf_X5_196 X.2.2.2.2.2.2.2.2) dX5_deliver_19 ?_
  refine lv_istore (lv' := [(4, .int (i32 (σ3 (o4 + 1) 1))), (3, .ref (ad o4)), (2, .ref (ad o2)), (0, .ref (ad 0)), (1, .int (i32 x1))]) hx hb dX5_deliver_22 hl (by decide) rfl (fun ls hl => ?_)
  refine m_const (v := 0) hx hb dX5_deliver_24 rfl ?_
  refine lv_istore (lv' := [(5, .int (i32 0)), (4, .int (i32 (σ3 (o4 + 1) 1))), (3, .ref (ad o4)), (2, .ref (ad o2)), (0, .ref (ad 0)), (1, .int (i32 x1))]) hx hb dX5_deliver_25 hl (by decide) rfl (fun ls hl => ?_)
  exact hc27 n _ _ _ _ o2 o4 (σ3 (o4 + 1) 1) 0 ho2 ho4 (hW3.2.1 _ _) (by decide) hf hW3 hS3 (lv_sub hl [4, 3, 2, 1, 0] rfl)
set_option maxRecDepth 100000 in
set_option maxHeartbeats 4000000 in
theorem ok0_X5_length {l : Launch} {D : va_G} {cy : Nat → ClassId} {ad : Nat → Nat} {nm nv sz : Nat} {σ : St} {n : Nat} {x1 : Int} {r : Int} {σ2 : St} (hx1 : inR x1) (hf : fX5_length n σ x1 = some (0, r, σ2)) : CI l yX5_length cX5_length 2 (some .int) ({ frames := 6, cells := 0, slots := 0, locals := 163 } : Room) [.ref (ad 0), .int (i32 x1)] D cy ad nm nv sz σ false r σ2 := by
  refine m_entry RX5 rfl (by decide +kernel) (Nat.le_of_ble_eq_true rfl) ?_
  intro p e s m args below meth c Q hQ hr hlocks X hW hS ls hl
  have hx := X.1
  have hb := X.2.1
  have hl : lv_has ls 2 [(0, .ref (ad 0)), (1, .int (i32 x1))] := hl
  unfold fX5_length at hf
  refine lv_aload_n hx hb dX5_length_0 rfl (lv_at hl 0 rfl) ?_
  refine lv_iload_n hx hb dX5_length_1 rfl (lv_at hl 1 rfl) ?_
  have hf := xw_b2 hf
  refine m_callVr (K := isSite) (As := [.int (i32 x1)]) (rest := []) X hW hS hl.1 gc_X5_61 hd_X5_siteAt ⟨rfl, rfl, Nat.le_of_ble_eq_true rfl, Nat.le_of_ble_eq_true rfl⟩ (rc_X5 X hW) (fun v q9 q => ok0_X5_siteAt hx1 (zw_of q)) hf rfl rfl (Nat.le_of_ble_eq_true rfl) dX5_length_2 ⟨Nat.le_of_ble_eq_true rfl, Nat.le_of_ble_eq_true rfl⟩ (fun o2 σ1 H locs ho2 hW1 hS1 hf => ?_)
  refine m_callSr (K := isPaper) (As := [.ref (ad o2)]) (rest := []) X hW1 hS1 hl.1 gc_X5_72 hd_X5_paperOf ⟨rfl, rfl, Nat.le_of_ble_eq_true rfl, Nat.le_of_ble_eq_true rfl⟩ (fun v q9 q => ok_X5_paperOf ho2 q) hf rfl rfl (Nat.le_of_ble_eq_true rfl) dX5_length_5 ⟨Nat.le_of_ble_eq_true rfl, Nat.le_of_ble_eq_true rfl⟩ (fun o4 σ3 H locs ho4 hW3 hS3 hf => ?_)
  refine m_callVi1 (z := false) (As := []) (rest := []) X hW3 hS3 hl.1 gc_X5_270 hd_X3_countSeen ⟨rfl, rfl, Nat.le_of_ble_eq_true rfl, Nat.le_of_ble_eq_true rfl⟩ (rc_X3 X hW3 ho4) (fun v q => ok_X3_countSeen ho4 q) hf rfl rfl (Nat.le_of_ble_eq_true rfl) dX5_length_8 ⟨Nat.le_of_ble_eq_true rfl, Nat.le_of_ble_eq_true rfl⟩ (fun v5 H locs hv5 zv5 hWv5 hSv5 hf => ?_)
  exact m_ireti X hr hlocks rfl hv5 (fun h => Bool.noConfusion h) hWv5 hSv5 (congrArg (fun q => q.2.1) (Option.some.inj hf)) (congrArg (fun q => q.2.2) (Option.some.inj hf)) hQ dX5_length_11
set_option maxRecDepth 100000 in
set_option maxHeartbeats 4000000 in
theorem ok0_X5_shown {l : Launch} {D : va_G} {cy : Nat → ClassId} {ad : Nat → Nat} {nm nv sz : Nat} {σ : St} {n : Nat} {x1 : Int} {r : Int} {σ2 : St} (hx1 : inR x1) (hf : fX5_shown n σ x1 = some (0, r, σ2)) : CI l yX5_shown cX5_shown 2 (some .int) ({ frames := 6, cells := 0, slots := 0, locals := 163 } : Room) [.ref (ad 0), .int (i32 x1)] D cy ad nm nv sz σ false r σ2 := by
  refine m_entry RX5 rfl (by decide +kernel) (Nat.le_of_ble_eq_true rfl) ?_
  intro p e s m args below meth c Q hQ hr hlocks X hW hS ls hl
  have hx := X.1
  have hb := X.2.1
  have hl : lv_has ls 2 [(0, .ref (ad 0)), (1, .int (i32 x1))] := hl
  unfold fX5_shown at hf
  refine lv_aload_n hx hb dX5_shown_0 rfl (lv_at hl 0 rfl) ?_
  refine lv_iload_n hx hb dX5_shown_1 rfl (lv_at hl 1 rfl) ?_
  have hf := xw_b2 hf
  refine m_callVr (K := isSite) (As := [.int (i32 x1)]) (rest := []) X hW hS hl.1 gc_X5_61 hd_X5_siteAt ⟨rfl, rfl, Nat.le_of_ble_eq_true rfl, Nat.le_of_ble_eq_true rfl⟩ (rc_X5 X hW) (fun v q9 q => ok0_X5_siteAt hx1 (zw_of q)) hf rfl rfl (Nat.le_of_ble_eq_true rfl) dX5_shown_2 ⟨Nat.le_of_ble_eq_true rfl, Nat.le_of_ble_eq_true rfl⟩ (fun o2 σ1 H locs ho2 hW1 hS1 hf => ?_)
  refine m_callSr (K := isPaper) (As := [.ref (ad o2)]) (rest := []) X hW1 hS1 hl.1 gc_X5_72 hd_X5_paperOf ⟨rfl, rfl, Nat.le_of_ble_eq_true rfl, Nat.le_of_ble_eq_true rfl⟩ (fun v q9 q => ok_X5_paperOf ho2 q) hf rfl rfl (Nat.le_of_ble_eq_true rfl) dX5_shown_5 ⟨Nat.le_of_ble_eq_true rfl, Nat.le_of_ble_eq_true rfl⟩ (fun o4 σ3 H locs ho4 hW3 hS3 hf => ?_)
  refine m_callVi1 (z := false) (As := []) (rest := []) X hW3 hS3 hl.1 gc_X5_273 hd_X3_countShown ⟨rfl, rfl, Nat.le_of_ble_eq_true rfl, Nat.le_of_ble_eq_true rfl⟩ (rc_X3 X hW3 ho4) (fun v q => ok_X3_countShown ho4 q) hf rfl rfl (Nat.le_of_ble_eq_true rfl) dX5_shown_8 ⟨Nat.le_of_ble_eq_true rfl, Nat.le_of_ble_eq_true rfl⟩ (fun v5 H locs hv5 zv5 hWv5 hSv5 hf => ?_)
  exact m_ireti X hr hlocks rfl hv5 (fun h => Bool.noConfusion h) hWv5 hSv5 (congrArg (fun q => q.2.1) (Option.some.inj hf)) (congrArg (fun q => q.2.2) (Option.some.inj hf)) hQ dX5_shown_11
set_option maxRecDepth 100000 in
set_option maxHeartbeats 4000000 in
theorem ok0_X5_element {l : Launch} {D : va_G} {cy : Nat → ClassId} {ad : Nat → Nat} {nm nv sz : Nat} {σ : St} {n : Nat} {x1 : Int} {x2 : Int} {r : Int} {σ2 : St} (hx1 : inR x1) (hx2 : inR x2) (hf : fX5_element n σ x1 x2 = some (0, r, σ2)) : CI l yX5_element cX5_element 3 (some .int) ({ frames := 6, cells := 0, slots := 0, locals := 163 } : Room) [.ref (ad 0), .int (i32 x1), .int (i32 x2)] D cy ad nm nv sz σ false r σ2 := by
  refine m_entry RX5 rfl (by decide +kernel) (Nat.le_of_ble_eq_true rfl) ?_
  intro p e s m args below meth c Q hQ hr hlocks X hW hS ls hl
  have hx := X.1
  have hb := X.2.1
  have hl : lv_has ls 3 [(0, .ref (ad 0)), (1, .int (i32 x1)), (2, .int (i32 x2))] := hl
  unfold fX5_element at hf
  refine lv_aload_n hx hb dX5_element_0 rfl (lv_at hl 0 rfl) ?_
  refine lv_iload_n hx hb dX5_element_1 rfl (lv_at hl 1 rfl) ?_
  have hf := xw_b2 hf
  refine m_callVr (K := isSite) (As := [.int (i32 x1)]) (rest := []) X hW hS hl.1 gc_X5_61 hd_X5_siteAt ⟨rfl, rfl, Nat.le_of_ble_eq_true rfl, Nat.le_of_ble_eq_true rfl⟩ (rc_X5 X hW) (fun v q9 q => ok0_X5_siteAt hx1 (zw_of q)) hf rfl rfl (Nat.le_of_ble_eq_true rfl) dX5_element_2 ⟨Nat.le_of_ble_eq_true rfl, Nat.le_of_ble_eq_true rfl⟩ (fun o2 σ1 H locs ho2 hW1 hS1 hf => ?_)
  refine m_callSr (K := isPaper) (As := [.ref (ad o2)]) (rest := []) X hW1 hS1 hl.1 gc_X5_72 hd_X5_paperOf ⟨rfl, rfl, Nat.le_of_ble_eq_true rfl, Nat.le_of_ble_eq_true rfl⟩ (fun v q9 q => ok_X5_paperOf ho2 q) hf rfl rfl (Nat.le_of_ble_eq_true rfl) dX5_element_5 ⟨Nat.le_of_ble_eq_true rfl, Nat.le_of_ble_eq_true rfl⟩ (fun o4 σ3 H locs ho4 hW3 hS3 hf => ?_)
  refine lv_iload_n hx hb dX5_element_8 rfl (lv_at hl 2 rfl) ?_
  have hf := xw_b2 hf
  refine m_callSi (z := false) (As := [.ref (ad o4), .int (i32 x2)]) (rest := []) X hW3 hS3 hl.1 gc_X5_276 hd_X5_elementAt ⟨rfl, rfl, Nat.le_of_ble_eq_true rfl, Nat.le_of_ble_eq_true rfl⟩ (fun v q9 q => ok0_X5_elementAt ho4 hx2 (zw_of q)) hf rfl rfl (Nat.le_of_ble_eq_true rfl) dX5_element_9 ⟨Nat.le_of_ble_eq_true rfl, Nat.le_of_ble_eq_true rfl⟩ (fun v6 σ5 H locs hv6 zv6 hW5 hS5 hf => ?_)
  exact m_ireti X hr hlocks rfl hv6 (fun h => Bool.noConfusion h) hW5 hS5 (congrArg (fun q => q.2.1) (Option.some.inj hf)) (congrArg (fun q => q.2.2) (Option.some.inj hf)) hQ dX5_element_12
set_option maxRecDepth 100000 in
set_option maxHeartbeats 4000000 in
theorem ok0_X5_elementAnew {l : Launch} {D : va_G} {cy : Nat → ClassId} {ad : Nat → Nat} {nm nv sz : Nat} {σ : St} {n : Nat} {x1 : Int} {x2 : Int} {r : Int} {σ2 : St} (hx1 : inR x1) (hx2 : inR x2) (hf : fX5_elementAnew n σ x1 x2 = some (0, r, σ2)) : CI l yX5_elementAnew cX5_elementAnew 3 (some .int) ({ frames := 5, cells := 0, slots := 0, locals := 143 } : Room) [.ref (ad 0), .int (i32 x1), .int (i32 x2)] D cy ad nm nv sz σ false r σ2 := by
  refine m_entry RX5 rfl (by decide +kernel) (Nat.le_of_ble_eq_true rfl) ?_
  intro p e s m args below meth c Q hQ hr hlocks X hW hS ls hl
  have hx := X.1
  have hb := X.2.1
  have hl : lv_has ls 3 [(0, .ref (ad 0)), (1, .int (i32 x1)), (2, .int (i32 x2))] := hl
  unfold fX5_elementAnew at hf
  refine lv_aload_n hx hb dX5_elementAnew_0 rfl (lv_at hl 0 rfl) ?_
  refine g_X5_scratch X hW (X.2.2.2.2.1 _ mw183) dX5_elementAnew_1 ?_
  refine lv_aload_n hx hb dX5_elementAnew_4 rfl (lv_at hl 0 rfl) ?_
  refine lv_iload_n hx hb dX5_elementAnew_5 rfl (lv_at hl 1 rfl) ?_
  have hf := xw_b2 hf
  refine m_callVr (K := isSite) (As := [.int (i32 x1)]) (rest := [.ref (ad 180)]) X hW hS hl.1 gc_X5_61 hd_X5_siteAt ⟨rfl, rfl, Nat.le_of_ble_eq_true rfl, Nat.le_of_ble_eq_true rfl⟩ (rc_X5 X hW) (fun v q9 q => ok0_X5_siteAt hx1 (zw_of q)) hf rfl rfl (Nat.le_of_ble_eq_true rfl) dX5_elementAnew_6 ⟨Nat.le_of_ble_eq_true rfl, Nat.le_of_ble_eq_true rfl⟩ (fun o2 σ1 H locs ho2 hW1 hS1 hf => ?_)
  refine gN_X4_held X hW1 ho2 (nf_X5_193 X.2.2.2.2.2.2.2.2) dX5_elementAnew_9 ?_
  refine m_callVv (As := [.ref (ad (o2 + 1))]) (rest := []) X hW1 hS1 hl.1 gc_X5_260 hd_X3_doAll ⟨rfl, rfl, Nat.le_of_ble_eq_true rfl, Nat.le_of_ble_eq_true rfl⟩ (rc_X3 X hW1 r_X5_scratch) (fun v q => ok_X3_doAll r_X5_scratch (r_X4_held ho2) q) hf rfl rfl (Nat.le_of_ble_eq_true rfl) dX5_elementAnew_12 ⟨Nat.le_of_ble_eq_true rfl, Nat.le_of_ble_eq_true rfl⟩ (fun σ3 H locs hW3 hS3 hf => ?_)
  refine lv_aload_n hx hb dX5_elementAnew_15 rfl (lv_at hl 0 rfl) ?_
  refine g_X5_scratch X hW3 (X.2.2.2.2.1 _ mw183) dX5_elementAnew_16 ?_
  refine lv_iload_n hx hb dX5_elementAnew_19 rfl (lv_at hl 2 rfl) ?_
  have hf := xw_b2 hf
  refine m_callSi (z := false) (As := [.ref (ad 180), .int (i32 x2)]) (rest := []) X hW3 hS3 hl.1 gc_X5_276 hd_X5_elementAt ⟨rfl, rfl, Nat.le_of_ble_eq_true rfl, Nat.le_of_ble_eq_true rfl⟩ (fun v q9 q => ok0_X5_elementAt r_X5_scratch hx2 (zw_of q)) hf rfl rfl (Nat.le_of_ble_eq_true rfl) dX5_elementAnew_20 ⟨Nat.le_of_ble_eq_true rfl, Nat.le_of_ble_eq_true rfl⟩ (fun v5 σ4 H locs hv5 zv5 hW4 hS4 hf => ?_)
  exact m_ireti X hr hlocks rfl hv5 (fun h => Bool.noConfusion h) hW4 hS4 (congrArg (fun q => q.2.1) (Option.some.inj hf)) (congrArg (fun q => q.2.2) (Option.some.inj hf)) hQ dX5_elementAnew_23
set_option maxRecDepth 100000 in
set_option maxHeartbeats 4000000 in
theorem ok0_X5_letter {l : Launch} {D : va_G} {cy : Nat → ClassId} {ad : Nat → Nat} {nm nv sz : Nat} {σ : St} {n : Nat} {x1 : Int} {x2 : Int} {r : Int} {σ2 : St} (hx1 : inR x1) (hx2 : inR x2) (hf : fX5_letter n σ x1 x2 = some (0, r, σ2)) : CI l yX5_letter cX5_letter 3 (some .char) ({ frames := 6, cells := 0, slots := 0, locals := 163 } : Room) [.ref (ad 0), .int (i32 x1), .int (i32 x2)] D cy ad nm nv sz σ false r σ2 := by
  refine m_entry RX5 rfl (by decide +kernel) (Nat.le_of_ble_eq_true rfl) ?_
  intro p e s m args below meth c Q hQ hr hlocks X hW hS ls hl
  have hx := X.1
  have hb := X.2.1
  have hl : lv_has ls 3 [(0, .ref (ad 0)), (1, .int (i32 x1)), (2, .int (i32 x2))] := hl
  unfold fX5_letter at hf
  refine lv_aload_n hx hb dX5_letter_0 rfl (lv_at hl 0 rfl) ?_
  refine g_X5_book X hW (X.2.2.2.2.1 _ mw179) dX5_letter_1 ?_
  refine lv_aload_n hx hb dX5_letter_4 rfl (lv_at hl 0 rfl) ?_
  refine lv_iload_n hx hb dX5_letter_5 rfl (lv_at hl 1 rfl) ?_
  have hf := xw_b2 hf
  refine m_callVr (K := isSite) (As := [.int (i32 x1)]) (rest := [.ref (ad 8)]) X hW hS hl.1 gc_X5_61 hd_X5_siteAt ⟨rfl, rfl, Nat.le_of_ble_eq_true rfl, Nat.le_of_ble_eq_true rfl⟩ (rc_X5 X hW) (fun v q9 q => ok0_X5_siteAt hx1 (zw_of q)) hf rfl rfl (Nat.le_of_ble_eq_true rfl) dX5_letter_6 ⟨Nat.le_of_ble_eq_true rfl, Nat.le_of_ble_eq_true rfl⟩ (fun o2 σ1 H locs ho2 hW1 hS1 hf => ?_)
  refine m_callSr (K := isPaper) (As := [.ref (ad o2)]) (rest := [.ref (ad 8)]) X hW1 hS1 hl.1 gc_X5_72 hd_X5_paperOf ⟨rfl, rfl, Nat.le_of_ble_eq_true rfl, Nat.le_of_ble_eq_true rfl⟩ (fun v q9 q => ok_X5_paperOf ho2 q) hf rfl rfl (Nat.le_of_ble_eq_true rfl) dX5_letter_9 ⟨Nat.le_of_ble_eq_true rfl, Nat.le_of_ble_eq_true rfl⟩ (fun o4 σ3 H locs ho4 hW3 hS3 hf => ?_)
  refine lv_iload_n hx hb dX5_letter_12 rfl (lv_at hl 2 rfl) ?_
  have hf := xw_b2 hf
  refine m_callSi (z := false) (As := [.ref (ad o4), .int (i32 x2)]) (rest := [.ref (ad 8)]) X hW3 hS3 hl.1 gc_X5_276 hd_X5_elementAt ⟨rfl, rfl, Nat.le_of_ble_eq_true rfl, Nat.le_of_ble_eq_true rfl⟩ (fun v q9 q => ok0_X5_elementAt ho4 hx2 (zw_of q)) hf rfl rfl (Nat.le_of_ble_eq_true rfl) dX5_letter_13 ⟨Nat.le_of_ble_eq_true rfl, Nat.le_of_ble_eq_true rfl⟩ (fun v6 σ5 H locs hv6 zv6 hW5 hS5 hf => ?_)
  refine m_callVi1 (z := false) (As := [.int (i32 v6)]) (rest := []) X hW5 hS5 hl.1 gc_X5_279 hd_X1_valueOf ⟨rfl, rfl, Nat.le_of_ble_eq_true rfl, Nat.le_of_ble_eq_true rfl⟩ (rc_X1 X hW5) (fun v q => ok_X1_valueOf hv6 q) hf rfl rfl (Nat.le_of_ble_eq_true rfl) dX5_letter_16 ⟨Nat.le_of_ble_eq_true rfl, Nat.le_of_ble_eq_true rfl⟩ (fun v7 H locs hv7 zv7 hWv7 hSv7 hf => ?_)
  refine m_i2c hx hb hf dX5_letter_19 (fun v8 hv8 cv8 hf => ?_)
  exact m_ireti X hr hlocks (nar_c cv8) hv8 (fun h => Bool.noConfusion h) hWv7 hSv7 (congrArg (fun q => q.2.1) (Option.some.inj hf)) (congrArg (fun q => q.2.2) (Option.some.inj hf)) hQ dX5_letter_20
set_option maxRecDepth 100000 in
set_option maxHeartbeats 4000000 in
theorem ok0_X5_proposed {l : Launch} {D : va_G} {cy : Nat → ClassId} {ad : Nat → Nat} {nm nv sz : Nat} {σ : St} {n : Nat} {x1 : Int} {x2 : Int} {r : Int} {σ2 : St} (hx1 : inR x1) (hx2 : inR x2) (hf : fX5_proposed n σ x1 x2 = some (0, r, σ2)) : CI l yX5_proposed cX5_proposed 4 (some .int) ({ frames := 6, cells := 0, slots := 0, locals := 163 } : Room) [.ref (ad 0), .int (i32 x1), .int (i32 x2)] D cy ad nm nv sz σ false r σ2 := by
  refine m_entry RX5 rfl (by decide +kernel) (Nat.le_of_ble_eq_true rfl) ?_
  intro p e s m args below meth c Q hQ hr hlocks X hW hS ls hl
  have hx := X.1
  have hb := X.2.1
  have hl : lv_has ls 4 [(0, .ref (ad 0)), (1, .int (i32 x1)), (2, .int (i32 x2))] := hl
  unfold fX5_proposed at hf
  refine lv_aload_n hx hb dX5_proposed_0 rfl (lv_at hl 0 rfl) ?_
  refine lv_iload_n hx hb dX5_proposed_1 rfl (lv_at hl 1 rfl) ?_
  have hf := xw_b2 hf
  refine m_callVr (K := isSite) (As := [.int (i32 x1)]) (rest := []) X hW hS hl.1 gc_X5_61 hd_X5_siteAt ⟨rfl, rfl, Nat.le_of_ble_eq_true rfl, Nat.le_of_ble_eq_true rfl⟩ (rc_X5 X hW) (fun v q9 q => ok0_X5_siteAt hx1 (zw_of q)) hf rfl rfl (Nat.le_of_ble_eq_true rfl) dX5_proposed_2 ⟨Nat.le_of_ble_eq_true rfl, Nat.le_of_ble_eq_true rfl⟩ (fun o2 σ1 H locs ho2 hW1 hS1 hf => ?_)
  refine m_callSr (K := isPaper) (As := [.ref (ad o2)]) (rest := []) X hW1 hS1 hl.1 gc_X5_72 hd_X5_paperOf ⟨rfl, rfl, Nat.le_of_ble_eq_true rfl, Nat.le_of_ble_eq_true rfl⟩ (fun v q9 q => ok_X5_paperOf ho2 q) hf rfl rfl (Nat.le_of_ble_eq_true rfl) dX5_proposed_5 ⟨Nat.le_of_ble_eq_true rfl, Nat.le_of_ble_eq_true rfl⟩ (fun o4 σ3 H locs ho4 hW3 hS3 hf => ?_)
  refine lv_astore_n (lv' := [(3, .ref (ad o4)), (0, .ref (ad 0)), (1, .int (i32 x1)), (2, .int (i32 x2))]) hx hb dX5_proposed_8 rfl hl (by decide) rfl (fun ls hl => ?_)
  refine lv_aload_n hx hb dX5_proposed_9 rfl (lv_at hl 0 rfl) ?_
  refine lv_aload_n hx hb dX5_proposed_10 rfl (lv_at hl 0 rfl) ?_
  refine lv_iload_n hx hb dX5_proposed_11 rfl (lv_at hl 3 rfl) ?_
  have hf := xw_b2 hf
  refine m_callSi (z := false) (As := [.ref (ad o4), .int (i32 x2)]) (rest := [.ref (ad o4)]) X hW3 hS3 hl.1 gc_X5_276 hd_X5_elementAt ⟨rfl, rfl, Nat.le_of_ble_eq_true rfl, Nat.le_of_ble_eq_true rfl⟩ (fun v q9 q => ok0_X5_elementAt ho4 hx2 (zw_of q)) hf rfl rfl (Nat.le_of_ble_eq_true rfl) dX5_proposed_12 ⟨Nat.le_of_ble_eq_true rfl, Nat.le_of_ble_eq_true rfl⟩ (fun v6 σ5 H locs hv6 zv6 hW5 hS5 hf => ?_)
  refine m_callVi1 (z := false) (As := [.int (i32 v6)]) (rest := []) X hW5 hS5 hl.1 gc_X5_282 hd_X3_proposalsFor ⟨rfl, rfl, Nat.le_of_ble_eq_true rfl, Nat.le_of_ble_eq_true rfl⟩ (rc_X3 X hW5 ho4) (fun v q => ok_X3_proposalsFor ho4 hv6 q) hf rfl rfl (Nat.le_of_ble_eq_true rfl) dX5_proposed_15 ⟨Nat.le_of_ble_eq_true rfl, Nat.le_of_ble_eq_true rfl⟩ (fun v7 H locs hv7 zv7 hWv7 hSv7 hf => ?_)
  exact m_ireti X hr hlocks rfl hv7 (fun h => Bool.noConfusion h) hWv7 hSv7 (congrArg (fun q => q.2.1) (Option.some.inj hf)) (congrArg (fun q => q.2.2) (Option.some.inj hf)) hQ dX5_proposed_18
set_option maxRecDepth 100000 in
set_option maxHeartbeats 4000000 in
theorem ok0_X5_open {l : Launch} {D : va_G} {cy : Nat → ClassId} {ad : Nat → Nat} {nm nv sz : Nat} {σ : St} {n : Nat} {x1 : Int} {r : Int} {σ2 : St} (hx1 : inR x1) (hf : fX5_open n σ x1 = some (0, r, σ2)) : CI l yX5_open cX5_open 2 (some .int) ({ frames := 6, cells := 0, slots := 0, locals := 163 } : Room) [.ref (ad 0), .int (i32 x1)] D cy ad nm nv sz σ false r σ2 := by
  refine m_entry RX5 rfl (by decide +kernel) (Nat.le_of_ble_eq_true rfl) ?_
  intro p e s m args below meth c Q hQ hr hlocks X hW hS ls hl
  have hx := X.1
  have hb := X.2.1
  have hl : lv_has ls 2 [(0, .ref (ad 0)), (1, .int (i32 x1))] := hl
  unfold fX5_open at hf
  refine lv_aload_n hx hb dX5_open_0 rfl (lv_at hl 0 rfl) ?_
  refine lv_iload_n hx hb dX5_open_1 rfl (lv_at hl 1 rfl) ?_
  have hf := xw_b2 hf
  refine m_callVr (K := isSite) (As := [.int (i32 x1)]) (rest := []) X hW hS hl.1 gc_X5_61 hd_X5_siteAt ⟨rfl, rfl, Nat.le_of_ble_eq_true rfl, Nat.le_of_ble_eq_true rfl⟩ (rc_X5 X hW) (fun v q9 q => ok0_X5_siteAt hx1 (zw_of q)) hf rfl rfl (Nat.le_of_ble_eq_true rfl) dX5_open_2 ⟨Nat.le_of_ble_eq_true rfl, Nat.le_of_ble_eq_true rfl⟩ (fun o2 σ1 H locs ho2 hW1 hS1 hf => ?_)
  refine m_callSr (K := isPaper) (As := [.ref (ad o2)]) (rest := []) X hW1 hS1 hl.1 gc_X5_72 hd_X5_paperOf ⟨rfl, rfl, Nat.le_of_ble_eq_true rfl, Nat.le_of_ble_eq_true rfl⟩ (fun v q9 q => ok_X5_paperOf ho2 q) hf rfl rfl (Nat.le_of_ble_eq_true rfl) dX5_open_5 ⟨Nat.le_of_ble_eq_true rfl, Nat.le_of_ble_eq_true rfl⟩ (fun o4 σ3 H locs ho4 hW3 hS3 hf => ?_)
  refine m_callVi1 (z := false) (As := []) (rest := []) X hW3 hS3 hl.1 gc_X5_285 hd_X3_countOpen ⟨rfl, rfl, Nat.le_of_ble_eq_true rfl, Nat.le_of_ble_eq_true rfl⟩ (rc_X3 X hW3 ho4) (fun v q => ok_X3_countOpen ho4 q) hf rfl rfl (Nat.le_of_ble_eq_true rfl) dX5_open_8 ⟨Nat.le_of_ble_eq_true rfl, Nat.le_of_ble_eq_true rfl⟩ (fun v5 H locs hv5 zv5 hWv5 hSv5 hf => ?_)
  exact m_ireti X hr hlocks rfl hv5 (fun h => Bool.noConfusion h) hWv5 hSv5 (congrArg (fun q => q.2.1) (Option.some.inj hf)) (congrArg (fun q => q.2.2) (Option.some.inj hf)) hQ dX5_open_11
set_option maxRecDepth 100000 in
set_option maxHeartbeats 4000000 in
theorem ok0_X5_isMarked {l : Launch} {D : va_G} {cy : Nat → ClassId} {ad : Nat → Nat} {nm nv sz : Nat} {σ : St} {n : Nat} {x1 : Int} {x2 : Int} {x3 : Int} {r : Int} {σ2 : St} (hx1 : inR x1) (hx2 : inR x2) (hx3 : inR x3) (hf : fX5_isMarked n σ x1 x2 x3 = some (0, r, σ2)) : CI l yX5_isMarked cX5_isMarked 6 (some .boolean) ({ frames := 6, cells := 0, slots := 0, locals := 163 } : Room) [.ref (ad 0), .int (i32 x1), .int (i32 x2), .int (i32 x3)] D cy ad nm nv sz σ true r σ2 := by
  refine m_entry RX5 rfl (by decide +kernel) (Nat.le_of_ble_eq_true rfl) ?_
  intro p e s m args below meth c Q hQ hr hlocks X hW hS ls hl
  have hx := X.1
  have hb := X.2.1
  have hl : lv_has ls 6 [(0, .ref (ad 0)), (1, .int (i32 x1)), (2, .int (i32 x2)), (3, .int (i32 x3))] := hl
  unfold fX5_isMarked at hf
  refine lv_aload_n hx hb dX5_isMarked_0 rfl (lv_at hl 0 rfl) ?_
  refine lv_iload_n hx hb dX5_isMarked_1 rfl (lv_at hl 1 rfl) ?_
  have hf := xw_b2 hf
  refine m_callVr (K := isSite) (As := [.int (i32 x1)]) (rest := []) X hW hS hl.1 gc_X5_61 hd_X5_siteAt ⟨rfl, rfl, Nat.le_of_ble_eq_true rfl, Nat.le_of_ble_eq_true rfl⟩ (rc_X5 X hW) (fun v q9 q => ok0_X5_siteAt hx1 (zw_of q)) hf rfl rfl (Nat.le_of_ble_eq_true rfl) dX5_isMarked_2 ⟨Nat.le_of_ble_eq_true rfl, Nat.le_of_ble_eq_true rfl⟩ (fun o2 σ1 H locs ho2 hW1 hS1 hf => ?_)
  refine m_callSr (K := isPaper) (As := [.ref (ad o2)]) (rest := []) X hW1 hS1 hl.1 gc_X5_72 hd_X5_paperOf ⟨rfl, rfl, Nat.le_of_ble_eq_true rfl, Nat.le_of_ble_eq_true rfl⟩ (fun v q9 q => ok_X5_paperOf ho2 q) hf rfl rfl (Nat.le_of_ble_eq_true rfl) dX5_isMarked_5 ⟨Nat.le_of_ble_eq_true rfl, Nat.le_of_ble_eq_true rfl⟩ (fun o4 σ3 H locs ho4 hW3 hS3 hf => ?_)
  refine lv_astore (lv' := [(4, .ref (ad o4)), (0, .ref (ad 0)), (1, .int (i32 x1)), (2, .int (i32 x2)), (3, .int (i32 x3))]) hx hb dX5_isMarked_8 hl (by decide) rfl (fun ls hl => ?_)
  refine lv_aload hx hb dX5_isMarked_10 (lv_at hl 0 rfl) ?_
  refine lv_iload_n hx hb dX5_isMarked_12 rfl (lv_at hl 3 rfl) ?_
  have hf := xw_b2 hf
  refine m_callSi (z := false) (As := [.ref (ad o4), .int (i32 x2)]) (rest := []) X hW3 hS3 hl.1 gc_X5_276 hd_X5_elementAt ⟨rfl, rfl, Nat.le_of_ble_eq_true rfl, Nat.le_of_ble_eq_true rfl⟩ (fun v q9 q => ok0_X5_elementAt ho4 hx2 (zw_of q)) hf rfl rfl (Nat.le_of_ble_eq_true rfl) dX5_isMarked_13 ⟨Nat.le_of_ble_eq_true rfl, Nat.le_of_ble_eq_true rfl⟩ (fun v6 σ5 H locs hv6 zv6 hW5 hS5 hf => ?_)
  refine lv_istore (lv' := [(5, .int (i32 v6)), (4, .ref (ad o4)), (0, .ref (ad 0)), (1, .int (i32 x1)), (2, .int (i32 x2)), (3, .int (i32 x3))]) hx hb dX5_isMarked_16 hl (by decide) rfl (fun ls hl => ?_)
  refine lv_iload_n hx hb dX5_isMarked_18 rfl (lv_at hl 5 rfl) ?_
  have hf := xw_b1 hf
  refine m_callSv (As := [.int (i32 x3)]) (rest := []) X hW5 hS5 hl.1 gc_X5_125 hd_X5_checkMark ⟨rfl, rfl, Nat.le_of_ble_eq_true rfl, Nat.le_of_ble_eq_true rfl⟩ (fun q9 q => ok0_X5_checkMark hx3 (zv_of q).choose_spec) hf rfl rfl (Nat.le_of_ble_eq_true rfl) dX5_isMarked_19 ⟨Nat.le_of_ble_eq_true rfl, Nat.le_of_ble_eq_true rfl⟩ (fun σ7 H locs hW7 hS7 hf => ?_)
  refine lv_aload hx hb dX5_isMarked_22 (lv_at hl 1 rfl) ?_
  refine lv_iload hx hb dX5_isMarked_24 (lv_at hl 0 rfl) ?_
  refine m_const (v := 1) hx hb dX5_isMarked_26 rfl ?_
  refine lv_iload_n hx hb dX5_isMarked_27 rfl (lv_at hl 5 rfl) ?_
  refine m_ishl hx hb hf dX5_isMarked_28 (fun v8 hv8 hf => ?_)
  refine m_callVi1 (z := true) (As := [.int (i32 v6), .int (i32 v8)]) (rest := []) X hW7 hS7 hl.1 gc_X5_288 hd_X3_hasBit ⟨rfl, rfl, Nat.le_of_ble_eq_true rfl, Nat.le_of_ble_eq_true rfl⟩ (rc_X3 X hW7 ho4) (fun v q => ok_X3_hasBit ho4 hv6 hv8 q) hf rfl rfl (Nat.le_of_ble_eq_true rfl) dX5_isMarked_29 ⟨Nat.le_of_ble_eq_true rfl, Nat.le_of_ble_eq_true rfl⟩ (fun v9 H locs hv9 zv9 hWv9 hSv9 hf => ?_)
  exact m_ireti X hr hlocks (nar_b (zv9 rfl)).1 hv9 (fun _ => (zv9 rfl)) hWv9 hSv9 (congrArg (fun q => q.2.1) (Option.some.inj hf)) (congrArg (fun q => q.2.2) (Option.some.inj hf)) hQ dX5_isMarked_32
set_option maxRecDepth 100000 in
set_option maxHeartbeats 4000000 in
theorem ok0_X5_covered {l : Launch} {D : va_G} {cy : Nat → ClassId} {ad : Nat → Nat} {nm nv sz : Nat} {σ : St} {n : Nat} {x1 : Int} {x2 : Int} {r : Int} {σ2 : St} (hx1 : inR x1) (hx2 : inR x2) (hf : fX5_covered n σ x1 x2 = some (0, r, σ2)) : CI l yX5_covered cX5_covered 4 (some .int) ({ frames := 6, cells := 0, slots := 0, locals := 163 } : Room) [.ref (ad 0), .int (i32 x1), .int (i32 x2)] D cy ad nm nv sz σ false r σ2 := by
  refine m_entry RX5 rfl (by decide +kernel) (Nat.le_of_ble_eq_true rfl) ?_
  intro p e s m args below meth c Q hQ hr hlocks X hW hS ls hl
  have hx := X.1
  have hb := X.2.1
  have hl : lv_has ls 4 [(0, .ref (ad 0)), (1, .int (i32 x1)), (2, .int (i32 x2))] := hl
  unfold fX5_covered at hf
  refine lv_aload_n hx hb dX5_covered_0 rfl (lv_at hl 0 rfl) ?_
  refine lv_iload_n hx hb dX5_covered_1 rfl (lv_at hl 1 rfl) ?_
  have hf := xw_b2 hf
  refine m_callVr (K := isSite) (As := [.int (i32 x1)]) (rest := []) X hW hS hl.1 gc_X5_61 hd_X5_siteAt ⟨rfl, rfl, Nat.le_of_ble_eq_true rfl, Nat.le_of_ble_eq_true rfl⟩ (rc_X5 X hW) (fun v q9 q => ok0_X5_siteAt hx1 (zw_of q)) hf rfl rfl (Nat.le_of_ble_eq_true rfl) dX5_covered_2 ⟨Nat.le_of_ble_eq_true rfl, Nat.le_of_ble_eq_true rfl⟩ (fun o2 σ1 H locs ho2 hW1 hS1 hf => ?_)
  refine lv_astore_n (lv' := [(3, .ref (ad o2)), (0, .ref (ad 0)), (1, .int (i32 x1)), (2, .int (i32 x2))]) hx hb dX5_covered_5 rfl hl (by decide) rfl (fun ls hl => ?_)
  refine lv_aload_n hx hb dX5_covered_6 rfl (lv_at hl 0 rfl) ?_
  refine lv_iload_n hx hb dX5_covered_7 rfl (lv_at hl 3 rfl) ?_
  have hf := xw_b1 hf
  refine m_callSv (As := [.ref (ad o2), .int (i32 x2)]) (rest := []) X hW1 hS1 hl.1 gc_X5_146 hd_X5_checkHeld ⟨rfl, rfl, Nat.le_of_ble_eq_true rfl, Nat.le_of_ble_eq_true rfl⟩ (fun q9 q => ok0_X5_checkHeld ho2 hx2 (zv_of q).choose_spec) hf rfl rfl (Nat.le_of_ble_eq_true rfl) dX5_covered_8 ⟨Nat.le_of_ble_eq_true rfl, Nat.le_of_ble_eq_true rfl⟩ (fun σ3 H locs hW3 hS3 hf => ?_)
  refine lv_aload_n hx hb dX5_covered_11 rfl (lv_at hl 1 rfl) ?_
  refine g_X5_book X hW3 (X.2.2.2.2.1 _ mw179) dX5_covered_12 ?_
  refine lv_iload_n hx hb dX5_covered_15 rfl (lv_at hl 3 rfl) ?_
  refine m_callVi1 (z := false) (As := [.int (i32 x2)]) (rest := []) X hW3 hS3 hl.1 gc_X5_291 hd_X1_kindOf ⟨rfl, rfl, Nat.le_of_ble_eq_true rfl, Nat.le_of_ble_eq_true rfl⟩ (rc_X1 X hW3) (fun v q => ok_X1_kindOf hx2 q) hf rfl rfl (Nat.le_of_ble_eq_true rfl) dX5_covered_16 ⟨Nat.le_of_ble_eq_true rfl, Nat.le_of_ble_eq_true rfl⟩ (fun v4 H locs hv4 zv4 hWv4 hSv4 hf => ?_)
  refine m_bipush (v := 7) hx hb dX5_covered_19 (by decide) ?_
  refine m_icmp_eq (tgt := 26) hx hb hv4 (by decide) hf dX5_covered_21 (by decide) (fun hf => ?_) (fun hf => ?_)
  · skip
    refine lv_aload_n hx hb dX5_covered_26 rfl (lv_at hl 0 rfl) ?_
    refine m_callSr (K := isPaper) (As := [.ref (ad o2)]) (rest := []) X hWv4 hSv4 hl.1 gc_X5_72 hd_X5_paperOf ⟨rfl, rfl, Nat.le_of_ble_eq_true rfl, Nat.le_of_ble_eq_true rfl⟩ (fun v q9 q => ok_X5_paperOf ho2 q) hf rfl rfl (Nat.le_of_ble_eq_true rfl) dX5_covered_27 ⟨Nat.le_of_ble_eq_true rfl, Nat.le_of_ble_eq_true rfl⟩ (fun o6 σ5 H locs ho6 hW5 hS5 hf => ?_)
    refine lv_aload_n hx hb dX5_covered_30 rfl (lv_at hl 1 rfl) ?_
    refine g_X5_book X hW5 (X.2.2.2.2.1 _ mw179) dX5_covered_31 ?_
    refine lv_iload_n hx hb dX5_covered_34 rfl (lv_at hl 3 rfl) ?_
    refine m_callVi1 (z := false) (As := [.int (i32 x2)]) (rest := [.ref (ad o6)]) X hW5 hS5 hl.1 gc_X5_279 hd_X1_valueOf ⟨rfl, rfl, Nat.le_of_ble_eq_true rfl, Nat.le_of_ble_eq_true rfl⟩ (rc_X1 X hW5) (fun v q => ok_X1_valueOf hx2 q) hf rfl rfl (Nat.le_of_ble_eq_true rfl) dX5_covered_35 ⟨Nat.le_of_ble_eq_true rfl, Nat.le_of_ble_eq_true rfl⟩ (fun v7 H locs hv7 zv7 hWv7 hSv7 hf => ?_)
    refine m_callSi1 (z := false) (As := [.int (i32 v7)]) (rest := [.ref (ad o6)]) X hWv7 hSv7 hl.1 gc_X5_294 hd_X5_commentBit ⟨rfl, rfl, Nat.le_of_ble_eq_true rfl, Nat.le_of_ble_eq_true rfl⟩ (fun v q => ok_X5_commentBit hv7 q) hf rfl rfl (Nat.le_of_ble_eq_true rfl) dX5_covered_38 ⟨Nat.le_of_ble_eq_true rfl, Nat.le_of_ble_eq_true rfl⟩ (fun v8 H locs hv8 zv8 hWv8 hSv8 hf => ?_)
    refine m_callVi1 (z := false) (As := [.int (i32 v8)]) (rest := []) X hWv8 hSv8 hl.1 gc_X5_297 hd_X3_countSeenWith ⟨rfl, rfl, Nat.le_of_ble_eq_true rfl, Nat.le_of_ble_eq_true rfl⟩ (rc_X3 X hWv8 ho6) (fun v q => ok_X3_countSeenWith ho6 hv8 q) hf rfl rfl (Nat.le_of_ble_eq_true rfl) dX5_covered_41 ⟨Nat.le_of_ble_eq_true rfl, Nat.le_of_ble_eq_true rfl⟩ (fun v9 H locs hv9 zv9 hWv9 hSv9 hf => ?_)
    exact m_ireti X hr hlocks rfl hv9 (fun h => Bool.noConfusion h) hWv9 hSv9 (congrArg (fun q => q.2.1) (Option.some.inj hf)) (congrArg (fun q => q.2.2) (Option.some.inj hf)) hQ dX5_covered_44
  · skip
    refine m_const (v := (-1)) hx hb dX5_covered_24 rfl ?_
    exact m_ireti X hr hlocks rfl (by decide) (fun h => Bool.noConfusion h) hWv4 hSv4 (congrArg (fun q => q.2.1) (Option.some.inj hf)) (congrArg (fun q => q.2.2) (Option.some.inj hf)) hQ dX5_covered_25
set_option maxRecDepth 100000 in
set_option maxHeartbeats 4000000 in
theorem ok0_X5_blocks {l : Launch} {D : va_G} {cy : Nat → ClassId} {ad : Nat → Nat} {nm nv sz : Nat} {σ : St} {n : Nat} {x1 : Int} {r : Int} {σ2 : St} (hx1 : inR x1) (hf : fX5_blocks n σ x1 = some (0, r, σ2)) : CI l yX5_blocks cX5_blocks 2 (some .int) ({ frames := 6, cells := 0, slots := 0, locals := 163 } : Room) [.ref (ad 0), .int (i32 x1)] D cy ad nm nv sz σ false r σ2 := by
  refine m_entry RX5 rfl (by decide +kernel) (Nat.le_of_ble_eq_true rfl) ?_
  intro p e s m args below meth c Q hQ hr hlocks X hW hS ls hl
  have hx := X.1
  have hb := X.2.1
  have hl : lv_has ls 2 [(0, .ref (ad 0)), (1, .int (i32 x1))] := hl
  unfold fX5_blocks at hf
  refine lv_aload_n hx hb dX5_blocks_0 rfl (lv_at hl 0 rfl) ?_
  refine lv_iload_n hx hb dX5_blocks_1 rfl (lv_at hl 1 rfl) ?_
  have hf := xw_b2 hf
  refine m_callVr (K := isSite) (As := [.int (i32 x1)]) (rest := []) X hW hS hl.1 gc_X5_61 hd_X5_siteAt ⟨rfl, rfl, Nat.le_of_ble_eq_true rfl, Nat.le_of_ble_eq_true rfl⟩ (rc_X5 X hW) (fun v q9 q => ok0_X5_siteAt hx1 (zw_of q)) hf rfl rfl (Nat.le_of_ble_eq_true rfl) dX5_blocks_2 ⟨Nat.le_of_ble_eq_true rfl, Nat.le_of_ble_eq_true rfl⟩ (fun o2 σ1 H locs ho2 hW1 hS1 hf => ?_)
  refine m_callSr (K := isPaper) (As := [.ref (ad o2)]) (rest := []) X hW1 hS1 hl.1 gc_X5_72 hd_X5_paperOf ⟨rfl, rfl, Nat.le_of_ble_eq_true rfl, Nat.le_of_ble_eq_true rfl⟩ (fun v q9 q => ok_X5_paperOf ho2 q) hf rfl rfl (Nat.le_of_ble_eq_true rfl) dX5_blocks_5 ⟨Nat.le_of_ble_eq_true rfl, Nat.le_of_ble_eq_true rfl⟩ (fun o4 σ3 H locs ho4 hW3 hS3 hf => ?_)
  refine m_callVi1 (z := false) (As := []) (rest := []) X hW3 hS3 hl.1 gc_X5_300 hd_X3_countBlocks ⟨rfl, rfl, Nat.le_of_ble_eq_true rfl, Nat.le_of_ble_eq_true rfl⟩ (rc_X3 X hW3 ho4) (fun v q => ok_X3_countBlocks ho4 q) hf rfl rfl (Nat.le_of_ble_eq_true rfl) dX5_blocks_8 ⟨Nat.le_of_ble_eq_true rfl, Nat.le_of_ble_eq_true rfl⟩ (fun v5 H locs hv5 zv5 hWv5 hSv5 hf => ?_)
  exact m_ireti X hr hlocks rfl hv5 (fun h => Bool.noConfusion h) hWv5 hSv5 (congrArg (fun q => q.2.1) (Option.some.inj hf)) (congrArg (fun q => q.2.2) (Option.some.inj hf)) hQ dX5_blocks_11
set_option maxRecDepth 100000 in
set_option maxHeartbeats 4000000 in
theorem ok0_X5_kind {l : Launch} {D : va_G} {cy : Nat → ClassId} {ad : Nat → Nat} {nm nv sz : Nat} {σ : St} {n : Nat} {x1 : Int} {x2 : Int} {r : Int} {σ2 : St} (hx1 : inR x1) (hx2 : inR x2) (hf : fX5_kind n σ x1 x2 = some (0, r, σ2)) : CI l yX5_kind cX5_kind 4 (some .int) ({ frames := 6, cells := 0, slots := 0, locals := 163 } : Room) [.ref (ad 0), .int (i32 x1), .int (i32 x2)] D cy ad nm nv sz σ false r σ2 := by
  refine m_entry RX5 rfl (by decide +kernel) (Nat.le_of_ble_eq_true rfl) ?_
  intro p e s m args below meth c Q hQ hr hlocks X hW hS ls hl
  have hx := X.1
  have hb := X.2.1
  have hl : lv_has ls 4 [(0, .ref (ad 0)), (1, .int (i32 x1)), (2, .int (i32 x2))] := hl
  unfold fX5_kind at hf
  refine lv_aload_n hx hb dX5_kind_0 rfl (lv_at hl 0 rfl) ?_
  refine lv_iload_n hx hb dX5_kind_1 rfl (lv_at hl 1 rfl) ?_
  have hf := xw_b2 hf
  refine m_callVr (K := isSite) (As := [.int (i32 x1)]) (rest := []) X hW hS hl.1 gc_X5_61 hd_X5_siteAt ⟨rfl, rfl, Nat.le_of_ble_eq_true rfl, Nat.le_of_ble_eq_true rfl⟩ (rc_X5 X hW) (fun v q9 q => ok0_X5_siteAt hx1 (zw_of q)) hf rfl rfl (Nat.le_of_ble_eq_true rfl) dX5_kind_2 ⟨Nat.le_of_ble_eq_true rfl, Nat.le_of_ble_eq_true rfl⟩ (fun o2 σ1 H locs ho2 hW1 hS1 hf => ?_)
  refine m_callSr (K := isPaper) (As := [.ref (ad o2)]) (rest := []) X hW1 hS1 hl.1 gc_X5_72 hd_X5_paperOf ⟨rfl, rfl, Nat.le_of_ble_eq_true rfl, Nat.le_of_ble_eq_true rfl⟩ (fun v q9 q => ok_X5_paperOf ho2 q) hf rfl rfl (Nat.le_of_ble_eq_true rfl) dX5_kind_5 ⟨Nat.le_of_ble_eq_true rfl, Nat.le_of_ble_eq_true rfl⟩ (fun o4 σ3 H locs ho4 hW3 hS3 hf => ?_)
  refine lv_astore_n (lv' := [(3, .ref (ad o4)), (0, .ref (ad 0)), (1, .int (i32 x1)), (2, .int (i32 x2))]) hx hb dX5_kind_8 rfl hl (by decide) rfl (fun ls hl => ?_)
  refine lv_aload_n hx hb dX5_kind_9 rfl (lv_at hl 0 rfl) ?_
  refine lv_aload_n hx hb dX5_kind_10 rfl (lv_at hl 0 rfl) ?_
  refine lv_iload_n hx hb dX5_kind_11 rfl (lv_at hl 3 rfl) ?_
  have hf := xw_b2 hf
  refine m_callSi (z := false) (As := [.ref (ad o4), .int (i32 x2)]) (rest := [.ref (ad o4)]) X hW3 hS3 hl.1 gc_X5_137 hd_X5_blockAt ⟨rfl, rfl, Nat.le_of_ble_eq_true rfl, Nat.le_of_ble_eq_true rfl⟩ (fun v q9 q => ok0_X5_blockAt ho4 hx2 (zw_of q)) hf rfl rfl (Nat.le_of_ble_eq_true rfl) dX5_kind_12 ⟨Nat.le_of_ble_eq_true rfl, Nat.le_of_ble_eq_true rfl⟩ (fun v6 σ5 H locs hv6 zv6 hW5 hS5 hf => ?_)
  refine m_callVi1 (z := false) (As := [.int (i32 v6)]) (rest := []) X hW5 hS5 hl.1 gc_X5_303 hd_X3_kindOf ⟨rfl, rfl, Nat.le_of_ble_eq_true rfl, Nat.le_of_ble_eq_true rfl⟩ (rc_X3 X hW5 ho4) (fun v q => ok_X3_kindOf ho4 hv6 q) hf rfl rfl (Nat.le_of_ble_eq_true rfl) dX5_kind_15 ⟨Nat.le_of_ble_eq_true rfl, Nat.le_of_ble_eq_true rfl⟩ (fun v7 H locs hv7 zv7 hWv7 hSv7 hf => ?_)
  exact m_ireti X hr hlocks rfl hv7 (fun h => Bool.noConfusion h) hWv7 hSv7 (congrArg (fun q => q.2.1) (Option.some.inj hf)) (congrArg (fun q => q.2.2) (Option.some.inj hf)) hQ dX5_kind_18
set_option maxRecDepth 100000 in
set_option maxHeartbeats 4000000 in
theorem ok0_X5_depth {l : Launch} {D : va_G} {cy : Nat → ClassId} {ad : Nat → Nat} {nm nv sz : Nat} {σ : St} {n : Nat} {x1 : Int} {x2 : Int} {r : Int} {σ2 : St} (hx1 : inR x1) (hx2 : inR x2) (hf : fX5_depth n σ x1 x2 = some (0, r, σ2)) : CI l yX5_depth cX5_depth 4 (some .int) ({ frames := 6, cells := 0, slots := 0, locals := 163 } : Room) [.ref (ad 0), .int (i32 x1), .int (i32 x2)] D cy ad nm nv sz σ false r σ2 := by
  refine m_entry RX5 rfl (by decide +kernel) (Nat.le_of_ble_eq_true rfl) ?_
  intro p e s m args below meth c Q hQ hr hlocks X hW hS ls hl
  have hx := X.1
  have hb := X.2.1
  have hl : lv_has ls 4 [(0, .ref (ad 0)), (1, .int (i32 x1)), (2, .int (i32 x2))] := hl
  unfold fX5_depth at hf
  refine lv_aload_n hx hb dX5_depth_0 rfl (lv_at hl 0 rfl) ?_
  refine lv_iload_n hx hb dX5_depth_1 rfl (lv_at hl 1 rfl) ?_
  have hf := xw_b2 hf
  refine m_callVr (K := isSite) (As := [.int (i32 x1)]) (rest := []) X hW hS hl.1 gc_X5_61 hd_X5_siteAt ⟨rfl, rfl, Nat.le_of_ble_eq_true rfl, Nat.le_of_ble_eq_true rfl⟩ (rc_X5 X hW) (fun v q9 q => ok0_X5_siteAt hx1 (zw_of q)) hf rfl rfl (Nat.le_of_ble_eq_true rfl) dX5_depth_2 ⟨Nat.le_of_ble_eq_true rfl, Nat.le_of_ble_eq_true rfl⟩ (fun o2 σ1 H locs ho2 hW1 hS1 hf => ?_)
  refine m_callSr (K := isPaper) (As := [.ref (ad o2)]) (rest := []) X hW1 hS1 hl.1 gc_X5_72 hd_X5_paperOf ⟨rfl, rfl, Nat.le_of_ble_eq_true rfl, Nat.le_of_ble_eq_true rfl⟩ (fun v q9 q => ok_X5_paperOf ho2 q) hf rfl rfl (Nat.le_of_ble_eq_true rfl) dX5_depth_5 ⟨Nat.le_of_ble_eq_true rfl, Nat.le_of_ble_eq_true rfl⟩ (fun o4 σ3 H locs ho4 hW3 hS3 hf => ?_)
  refine lv_astore_n (lv' := [(3, .ref (ad o4)), (0, .ref (ad 0)), (1, .int (i32 x1)), (2, .int (i32 x2))]) hx hb dX5_depth_8 rfl hl (by decide) rfl (fun ls hl => ?_)
  refine lv_aload_n hx hb dX5_depth_9 rfl (lv_at hl 0 rfl) ?_
  refine lv_aload_n hx hb dX5_depth_10 rfl (lv_at hl 0 rfl) ?_
  refine lv_iload_n hx hb dX5_depth_11 rfl (lv_at hl 3 rfl) ?_
  have hf := xw_b2 hf
  refine m_callSi (z := false) (As := [.ref (ad o4), .int (i32 x2)]) (rest := [.ref (ad o4)]) X hW3 hS3 hl.1 gc_X5_137 hd_X5_blockAt ⟨rfl, rfl, Nat.le_of_ble_eq_true rfl, Nat.le_of_ble_eq_true rfl⟩ (fun v q9 q => ok0_X5_blockAt ho4 hx2 (zw_of q)) hf rfl rfl (Nat.le_of_ble_eq_true rfl) dX5_depth_12 ⟨Nat.le_of_ble_eq_true rfl, Nat.le_of_ble_eq_true rfl⟩ (fun v6 σ5 H locs hv6 zv6 hW5 hS5 hf => ?_)
  refine m_callVi1 (z := false) (As := [.int (i32 v6)]) (rest := []) X hW5 hS5 hl.1 gc_X5_304 hd_X3_depthOf ⟨rfl, rfl, Nat.le_of_ble_eq_true rfl, Nat.le_of_ble_eq_true rfl⟩ (rc_X3 X hW5 ho4) (fun v q => ok_X3_depthOf ho4 hv6 q) hf rfl rfl (Nat.le_of_ble_eq_true rfl) dX5_depth_15 ⟨Nat.le_of_ble_eq_true rfl, Nat.le_of_ble_eq_true rfl⟩ (fun v7 H locs hv7 zv7 hWv7 hSv7 hf => ?_)
  exact m_ireti X hr hlocks rfl hv7 (fun h => Bool.noConfusion h) hWv7 hSv7 (congrArg (fun q => q.2.1) (Option.some.inj hf)) (congrArg (fun q => q.2.2) (Option.some.inj hf)) hQ dX5_depth_18
set_option maxRecDepth 100000 in
set_option maxHeartbeats 4000000 in
theorem ok0_X5_level {l : Launch} {D : va_G} {cy : Nat → ClassId} {ad : Nat → Nat} {nm nv sz : Nat} {σ : St} {n : Nat} {x1 : Int} {x2 : Int} {r : Int} {σ2 : St} (hx1 : inR x1) (hx2 : inR x2) (hf : fX5_level n σ x1 x2 = some (0, r, σ2)) : CI l yX5_level cX5_level 4 (some .int) ({ frames := 6, cells := 0, slots := 0, locals := 163 } : Room) [.ref (ad 0), .int (i32 x1), .int (i32 x2)] D cy ad nm nv sz σ false r σ2 := by
  refine m_entry RX5 rfl (by decide +kernel) (Nat.le_of_ble_eq_true rfl) ?_
  intro p e s m args below meth c Q hQ hr hlocks X hW hS ls hl
  have hx := X.1
  have hb := X.2.1
  have hl : lv_has ls 4 [(0, .ref (ad 0)), (1, .int (i32 x1)), (2, .int (i32 x2))] := hl
  unfold fX5_level at hf
  refine lv_aload_n hx hb dX5_level_0 rfl (lv_at hl 0 rfl) ?_
  refine lv_iload_n hx hb dX5_level_1 rfl (lv_at hl 1 rfl) ?_
  have hf := xw_b2 hf
  refine m_callVr (K := isSite) (As := [.int (i32 x1)]) (rest := []) X hW hS hl.1 gc_X5_61 hd_X5_siteAt ⟨rfl, rfl, Nat.le_of_ble_eq_true rfl, Nat.le_of_ble_eq_true rfl⟩ (rc_X5 X hW) (fun v q9 q => ok0_X5_siteAt hx1 (zw_of q)) hf rfl rfl (Nat.le_of_ble_eq_true rfl) dX5_level_2 ⟨Nat.le_of_ble_eq_true rfl, Nat.le_of_ble_eq_true rfl⟩ (fun o2 σ1 H locs ho2 hW1 hS1 hf => ?_)
  refine m_callSr (K := isPaper) (As := [.ref (ad o2)]) (rest := []) X hW1 hS1 hl.1 gc_X5_72 hd_X5_paperOf ⟨rfl, rfl, Nat.le_of_ble_eq_true rfl, Nat.le_of_ble_eq_true rfl⟩ (fun v q9 q => ok_X5_paperOf ho2 q) hf rfl rfl (Nat.le_of_ble_eq_true rfl) dX5_level_5 ⟨Nat.le_of_ble_eq_true rfl, Nat.le_of_ble_eq_true rfl⟩ (fun o4 σ3 H locs ho4 hW3 hS3 hf => ?_)
  refine lv_astore_n (lv' := [(3, .ref (ad o4)), (0, .ref (ad 0)), (1, .int (i32 x1)), (2, .int (i32 x2))]) hx hb dX5_level_8 rfl hl (by decide) rfl (fun ls hl => ?_)
  refine lv_aload_n hx hb dX5_level_9 rfl (lv_at hl 0 rfl) ?_
  refine lv_iload_n hx hb dX5_level_10 rfl (lv_at hl 2 rfl) ?_
  refine lv_aload_n hx hb dX5_level_11 rfl (lv_at hl 0 rfl) ?_
  refine lv_iload_n hx hb dX5_level_12 rfl (lv_at hl 3 rfl) ?_
  have hf := xw_b2 hf
  refine m_callSi (z := false) (As := [.ref (ad o4), .int (i32 x2)]) (rest := [.int (i32 x1), .ref (ad o4)]) X hW3 hS3 hl.1 gc_X5_137 hd_X5_blockAt ⟨rfl, rfl, Nat.le_of_ble_eq_true rfl, Nat.le_of_ble_eq_true rfl⟩ (fun v q9 q => ok0_X5_blockAt ho4 hx2 (zw_of q)) hf rfl rfl (Nat.le_of_ble_eq_true rfl) dX5_level_13 ⟨Nat.le_of_ble_eq_true rfl, Nat.le_of_ble_eq_true rfl⟩ (fun v6 σ5 H locs hv6 zv6 hW5 hS5 hf => ?_)
  refine m_callVi1 (z := false) (As := [.int (i32 x1), .int (i32 v6)]) (rest := []) X hW5 hS5 hl.1 gc_X5_307 hd_X3_levelIn ⟨rfl, rfl, Nat.le_of_ble_eq_true rfl, Nat.le_of_ble_eq_true rfl⟩ (rc_X3 X hW5 ho4) (fun v q => ok_X3_levelIn ho4 hx1 hv6 q) hf rfl rfl (Nat.le_of_ble_eq_true rfl) dX5_level_16 ⟨Nat.le_of_ble_eq_true rfl, Nat.le_of_ble_eq_true rfl⟩ (fun v7 H locs hv7 zv7 hWv7 hSv7 hf => ?_)
  exact m_ireti X hr hlocks rfl hv7 (fun h => Bool.noConfusion h) hWv7 hSv7 (congrArg (fun q => q.2.1) (Option.some.inj hf)) (congrArg (fun q => q.2.2) (Option.some.inj hf)) hQ dX5_level_19
set_option maxRecDepth 100000 in
set_option maxHeartbeats 4000000 in
theorem ok0_X5_cursor {l : Launch} {D : va_G} {cy : Nat → ClassId} {ad : Nat → Nat} {nm nv sz : Nat} {σ : St} {n : Nat} {x1 : Int} {r : Int} {σ2 : St} (hx1 : inR x1) (hf : fX5_cursor n σ x1 = some (0, r, σ2)) : CI l yX5_cursor cX5_cursor 3 (some .int) ({ frames := 6, cells := 0, slots := 0, locals := 163 } : Room) [.ref (ad 0), .int (i32 x1)] D cy ad nm nv sz σ false r σ2 := by
  refine m_entry RX5 rfl (by decide +kernel) (Nat.le_of_ble_eq_true rfl) ?_
  intro p e s m args below meth c Q hQ hr hlocks X hW hS ls hl
  have hx := X.1
  have hb := X.2.1
  have hl : lv_has ls 3 [(0, .ref (ad 0)), (1, .int (i32 x1))] := hl
  unfold fX5_cursor at hf
  refine lv_aload_n hx hb dX5_cursor_0 rfl (lv_at hl 0 rfl) ?_
  refine lv_iload_n hx hb dX5_cursor_1 rfl (lv_at hl 1 rfl) ?_
  have hf := xw_b2 hf
  refine m_callVr (K := isSite) (As := [.int (i32 x1)]) (rest := []) X hW hS hl.1 gc_X5_61 hd_X5_siteAt ⟨rfl, rfl, Nat.le_of_ble_eq_true rfl, Nat.le_of_ble_eq_true rfl⟩ (rc_X5 X hW) (fun v q9 q => ok0_X5_siteAt hx1 (zw_of q)) hf rfl rfl (Nat.le_of_ble_eq_true rfl) dX5_cursor_2 ⟨Nat.le_of_ble_eq_true rfl, Nat.le_of_ble_eq_true rfl⟩ (fun o2 σ1 H locs ho2 hW1 hS1 hf => ?_)
  refine lv_astore_n (lv' := [(2, .ref (ad o2)), (0, .ref (ad 0)), (1, .int (i32 x1))]) hx hb dX5_cursor_5 rfl hl (by decide) rfl (fun ls hl => ?_)
  refine lv_aload_n hx hb dX5_cursor_6 rfl (lv_at hl 0 rfl) ?_
  refine m_callSr (K := isPaper) (As := [.ref (ad o2)]) (rest := []) X hW1 hS1 hl.1 gc_X5_72 hd_X5_paperOf ⟨rfl, rfl, Nat.le_of_ble_eq_true rfl, Nat.le_of_ble_eq_true rfl⟩ (fun v q9 q => ok_X5_paperOf ho2 q) hf rfl rfl (Nat.le_of_ble_eq_true rfl) dX5_cursor_7 ⟨Nat.le_of_ble_eq_true rfl, Nat.le_of_ble_eq_true rfl⟩ (fun o4 σ3 H locs ho4 hW3 hS3 hf => ?_)
  refine lv_aload_n hx hb dX5_cursor_10 rfl (lv_at hl 0 rfl) ?_
  refine gN_X4_cursor X hW3 ho2 (nf_X5_80 X.2.2.2.2.2.2.2.2) dX5_cursor_11 ?_
  refine m_callVi1 (z := false) (As := [.int (i32 (σ3 o2 8))]) (rest := []) X hW3 hS3 hl.1 gc_X5_84 hd_X3_seenThrough ⟨rfl, rfl, Nat.le_of_ble_eq_true rfl, Nat.le_of_ble_eq_true rfl⟩ (rc_X3 X hW3 ho4) (fun v q => ok_X3_seenThrough ho4 (hW3.2.1 _ _) q) hf rfl rfl (Nat.le_of_ble_eq_true rfl) dX5_cursor_14 ⟨Nat.le_of_ble_eq_true rfl, Nat.le_of_ble_eq_true rfl⟩ (fun v5 H locs hv5 zv5 hWv5 hSv5 hf => ?_)
  exact m_ireti X hr hlocks rfl hv5 (fun h => Bool.noConfusion h) hWv5 hSv5 (congrArg (fun q => q.2.1) (Option.some.inj hf)) (congrArg (fun q => q.2.2) (Option.some.inj hf)) hQ dX5_cursor_17
set_option maxRecDepth 100000 in
set_option maxHeartbeats 4000000 in
theorem ok0_X5_tail {l : Launch} {D : va_G} {cy : Nat → ClassId} {ad : Nat → Nat} {nm nv sz : Nat} {σ : St} {n : Nat} {x1 : Int} {r : Int} {σ2 : St} (hx1 : inR x1) (hf : fX5_tail n σ x1 = some (0, r, σ2)) : CI l yX5_tail cX5_tail 3 (some .int) ({ frames := 6, cells := 0, slots := 0, locals := 163 } : Room) [.ref (ad 0), .int (i32 x1)] D cy ad nm nv sz σ false r σ2 := by
  refine m_entry RX5 rfl (by decide +kernel) (Nat.le_of_ble_eq_true rfl) ?_
  intro p e s m args below meth c Q hQ hr hlocks X hW hS ls hl
  have hx := X.1
  have hb := X.2.1
  have hl : lv_has ls 3 [(0, .ref (ad 0)), (1, .int (i32 x1))] := hl
  unfold fX5_tail at hf
  refine lv_aload_n hx hb dX5_tail_0 rfl (lv_at hl 0 rfl) ?_
  refine lv_iload_n hx hb dX5_tail_1 rfl (lv_at hl 1 rfl) ?_
  have hf := xw_b2 hf
  refine m_callVr (K := isSite) (As := [.int (i32 x1)]) (rest := []) X hW hS hl.1 gc_X5_61 hd_X5_siteAt ⟨rfl, rfl, Nat.le_of_ble_eq_true rfl, Nat.le_of_ble_eq_true rfl⟩ (rc_X5 X hW) (fun v q9 q => ok0_X5_siteAt hx1 (zw_of q)) hf rfl rfl (Nat.le_of_ble_eq_true rfl) dX5_tail_2 ⟨Nat.le_of_ble_eq_true rfl, Nat.le_of_ble_eq_true rfl⟩ (fun o2 σ1 H locs ho2 hW1 hS1 hf => ?_)
  refine lv_astore_n (lv' := [(2, .ref (ad o2)), (0, .ref (ad 0)), (1, .int (i32 x1))]) hx hb dX5_tail_5 rfl hl (by decide) rfl (fun ls hl => ?_)
  refine lv_aload_n hx hb dX5_tail_6 rfl (lv_at hl 0 rfl) ?_
  refine m_callSr (K := isPaper) (As := [.ref (ad o2)]) (rest := []) X hW1 hS1 hl.1 gc_X5_72 hd_X5_paperOf ⟨rfl, rfl, Nat.le_of_ble_eq_true rfl, Nat.le_of_ble_eq_true rfl⟩ (fun v q9 q => ok_X5_paperOf ho2 q) hf rfl rfl (Nat.le_of_ble_eq_true rfl) dX5_tail_7 ⟨Nat.le_of_ble_eq_true rfl, Nat.le_of_ble_eq_true rfl⟩ (fun o4 σ3 H locs ho4 hW3 hS3 hf => ?_)
  refine lv_aload_n hx hb dX5_tail_10 rfl (lv_at hl 0 rfl) ?_
  refine gN_X4_tail X hW3 ho2 (nf_X5_88 X.2.2.2.2.2.2.2.2) dX5_tail_11 ?_
  refine m_callVi1 (z := false) (As := [.int (i32 (σ3 o2 9))]) (rest := []) X hW3 hS3 hl.1 gc_X5_84 hd_X3_seenThrough ⟨rfl, rfl, Nat.le_of_ble_eq_true rfl, Nat.le_of_ble_eq_true rfl⟩ (rc_X3 X hW3 ho4) (fun v q => ok_X3_seenThrough ho4 (hW3.2.1 _ _) q) hf rfl rfl (Nat.le_of_ble_eq_true rfl) dX5_tail_14 ⟨Nat.le_of_ble_eq_true rfl, Nat.le_of_ble_eq_true rfl⟩ (fun v5 H locs hv5 zv5 hWv5 hSv5 hf => ?_)
  exact m_ireti X hr hlocks rfl hv5 (fun h => Bool.noConfusion h) hWv5 hSv5 (congrArg (fun q => q.2.1) (Option.some.inj hf)) (congrArg (fun q => q.2.2) (Option.some.inj hf)) hQ dX5_tail_17
set_option maxRecDepth 100000 in
set_option maxHeartbeats 4000000 in
theorem ok0_X5_graves {l : Launch} {D : va_G} {cy : Nat → ClassId} {ad : Nat → Nat} {nm nv sz : Nat} {σ : St} {n : Nat} {x1 : Int} {r : Int} {σ2 : St} (hx1 : inR x1) (hf : fX5_graves n σ x1 = some (0, r, σ2)) : CI l yX5_graves cX5_graves 2 (some .int) ({ frames := 6, cells := 0, slots := 0, locals := 163 } : Room) [.ref (ad 0), .int (i32 x1)] D cy ad nm nv sz σ false r σ2 := by
  refine m_entry RX5 rfl (by decide +kernel) (Nat.le_of_ble_eq_true rfl) ?_
  intro p e s m args below meth c Q hQ hr hlocks X hW hS ls hl
  have hx := X.1
  have hb := X.2.1
  have hl : lv_has ls 2 [(0, .ref (ad 0)), (1, .int (i32 x1))] := hl
  unfold fX5_graves at hf
  refine lv_aload_n hx hb dX5_graves_0 rfl (lv_at hl 0 rfl) ?_
  refine lv_iload_n hx hb dX5_graves_1 rfl (lv_at hl 1 rfl) ?_
  have hf := xw_b2 hf
  refine m_callVr (K := isSite) (As := [.int (i32 x1)]) (rest := []) X hW hS hl.1 gc_X5_61 hd_X5_siteAt ⟨rfl, rfl, Nat.le_of_ble_eq_true rfl, Nat.le_of_ble_eq_true rfl⟩ (rc_X5 X hW) (fun v q9 q => ok0_X5_siteAt hx1 (zw_of q)) hf rfl rfl (Nat.le_of_ble_eq_true rfl) dX5_graves_2 ⟨Nat.le_of_ble_eq_true rfl, Nat.le_of_ble_eq_true rfl⟩ (fun o2 σ1 H locs ho2 hW1 hS1 hf => ?_)
  refine m_callSr (K := isPaper) (As := [.ref (ad o2)]) (rest := []) X hW1 hS1 hl.1 gc_X5_72 hd_X5_paperOf ⟨rfl, rfl, Nat.le_of_ble_eq_true rfl, Nat.le_of_ble_eq_true rfl⟩ (fun v q9 q => ok_X5_paperOf ho2 q) hf rfl rfl (Nat.le_of_ble_eq_true rfl) dX5_graves_5 ⟨Nat.le_of_ble_eq_true rfl, Nat.le_of_ble_eq_true rfl⟩ (fun o4 σ3 H locs ho4 hW3 hS3 hf => ?_)
  refine m_callVi1 (z := false) (As := []) (rest := []) X hW3 hS3 hl.1 gc_X5_310 hd_X3_countGraves ⟨rfl, rfl, Nat.le_of_ble_eq_true rfl, Nat.le_of_ble_eq_true rfl⟩ (rc_X3 X hW3 ho4) (fun v q => ok_X3_countGraves ho4 q) hf rfl rfl (Nat.le_of_ble_eq_true rfl) dX5_graves_8 ⟨Nat.le_of_ble_eq_true rfl, Nat.le_of_ble_eq_true rfl⟩ (fun v5 H locs hv5 zv5 hWv5 hSv5 hf => ?_)
  exact m_ireti X hr hlocks rfl hv5 (fun h => Bool.noConfusion h) hWv5 hSv5 (congrArg (fun q => q.2.1) (Option.some.inj hf)) (congrArg (fun q => q.2.2) (Option.some.inj hf)) hQ dX5_graves_11
set_option maxRecDepth 100000 in
set_option maxHeartbeats 4000000 in
theorem ok_X5_collectHadByAll {l : Launch} {D : va_G} {cy : Nat → ClassId} {ad : Nat → Nat} {nm nv sz : Nat} {σ : St} {n : Nat} {o1 : Nat} {σ2 : St} (ho1 : isSite o1) (hf : fX5_collectHadByAll n σ o1 = some σ2) : CV l yX5_collectHadByAll cX5_collectHadByAll 3 none ({ frames := 1, cells := 0, slots := 0, locals := 24 } : Room) [.ref (ad 0), .ref (ad o1)] D cy ad nm nv sz σ σ2 := by
  refine m_entry RX5 rfl (by decide +kernel) (Nat.le_of_ble_eq_true rfl) ?_
  intro p e s m args below meth c Q hQ hr hlocks X hW hS ls hl
  have hx := X.1
  have hb := X.2.1
  have hl : lv_has ls 3 [(0, .ref (ad 0)), (1, .ref (ad o1))] := hl
  unfold fX5_collectHadByAll at hf
  have hc63 : ∀ (k63 : Nat) (σ : St) (H : Heap) (locs : List Loc) (ls : Array Slot) (x2 : Int), inR x2 → fX5_collectHadByAll_L63 n o1 k63 σ x2 = some σ2 → Wd D cy ad nm nv σ H → va_S (AW ad nm nv sz) s.heap H locs → lv_has ls 3 [(0, .ref (ad 0)), (2, .int (i32 x2))] → W p l e ({ frames := 1, cells := 0, slots := 0, locals := 24 } : Room) s m args below meth c H locs 0 0 Q (F0 m 63 ls []) := by
    intro k63
    induction k63 with
    | zero =>
      intro σ H locs ls x2 hx2 hf
      have hf : (none : Option St) = some σ2 := hf
      cases hf
    | succ k63 ih63 =>
      intro σ H locs ls x2 hx2 hf hW hS hl
      have hf : fX5_collectHadByAll_L63s n o1 (fX5_collectHadByAll_L63 n o1 k63) σ x2 = some σ2 := hf
      unfold fX5_collectHadByAll_L63s at hf
      refine lv_iload_n hx hb dX5_collectHadByAll_63 rfl (lv_at hl 1 rfl) ?_
      refine lv_aload_n hx hb dX5_collectHadByAll_64 rfl (lv_at hl 0 rfl) ?_
      refine g_X5_owners X hW (X.2.2.2.2.1 _ mw187) dX5_collectHadByAll_65 ?_
      refine m_alen (v := 160) 0 X hW a_X5_owners ent_1 rfl rfl rfl dX5_collectHadByAll_68 ?_
      refine m_icmp_ge (tgt := 96) hx hb hx2 (by decide) hf dX5_collectHadByAll_69 (by decide) (fun hf => ?_) (fun hf => ?_)
      · skip
        exact m_vret X hr hlocks hW hS (Option.some.inj hf) hQ dX5_collectHadByAll_96
      · skip
        refine lv_aload_n hx hb dX5_collectHadByAll_72 rfl (lv_at hl 0 rfl) ?_
        refine g_X5_owners X hW (X.2.2.2.2.1 _ mw187) dX5_collectHadByAll_73 ?_
        refine lv_iload_n hx hb dX5_collectHadByAll_76 rfl (lv_at hl 1 rfl) ?_
        refine m_iald X hW a_X5_owners hx2 hf dX5_collectHadByAll_77 (fun v9 hv9 hf => ?_)
        refine m_const (v := 4) hx hb dX5_collectHadByAll_78 rfl ?_
        refine m_icmp_ne (tgt := 90) hx hb hv9 (by decide) hf dX5_collectHadByAll_79 (by decide) (fun hf => ?_) (fun hf => ?_)
        · skip
          refine m_iinc (k0 := 1) (fun v10 => [(2, .int (i32 v10)), (0, .ref (ad 0))]) hx hb hf dX5_collectHadByAll_90 hl rfl (by decide) (fun _ => rfl) (fun v10 ls hv10 hf hl => ?_)
          have hl : lv_has ls 3 [(2, .int (i32 v10)), (0, .ref (ad 0))] := hl
          refine lv_goto (tgt := 63) hx hb dX5_collectHadByAll_93 (by decide) ?_
          exact ih63 _ _ _ _ v10 hv10 hf hW hS (lv_sub hl [1, 0] rfl)
        · skip
          refine lv_aload_n hx hb dX5_collectHadByAll_82 rfl (lv_at hl 0 rfl) ?_
          refine g_X5_scratchSet X hW (X.2.2.2.2.1 _ mw185) dX5_collectHadByAll_83 ?_
          refine lv_iload_n hx hb dX5_collectHadByAll_86 rfl (lv_at hl 1 rfl) ?_
          refine m_callVv (As := [.int (i32 x2)]) (rest := []) X hW hS hl.1 gc_X5_392 hd_X0_add ⟨rfl, rfl, Nat.le_of_ble_eq_true rfl, Nat.le_of_ble_eq_true rfl⟩ (rc_X0 X hW r_X5_scratchSet) (fun v q => ok_X0_add r_X5_scratchSet hx2 q) hf rfl rfl (Nat.le_of_ble_eq_true rfl) dX5_collectHadByAll_87 ⟨Nat.le_of_ble_eq_true rfl, Nat.le_of_ble_eq_true rfl⟩ (fun σ11 H locs hW11 hS11 hf => ?_)
          refine m_iinc (k0 := 1) (fun v12 => [(2, .int (i32 v12)), (0, .ref (ad 0))]) hx hb hf dX5_collectHadByAll_90 hl rfl (by decide) (fun _ => rfl) (fun v12 ls hv12 hf hl => ?_)
          have hl : lv_has ls 3 [(2, .int (i32 v12)), (0, .ref (ad 0))] := hl
          refine lv_goto (tgt := 63) hx hb dX5_collectHadByAll_93 (by decide) ?_
          exact ih63 _ _ _ _ v12 hv12 hf hW11 hS11 (lv_sub hl [1, 0] rfl)
  have hc26 : ∀ (k26 : Nat) (σ : St) (H : Heap) (locs : List Loc) (ls : Array Slot) (x2 : Int), inR x2 → fX5_collectHadByAll_L26 n o1 k26 σ x2 = some σ2 → Wd D cy ad nm nv σ H → va_S (AW ad nm nv sz) s.heap H locs → lv_has ls 3 [(0, .ref (ad 0)), (1, .ref (ad o1)), (2, .int (i32 x2))] → W p l e ({ frames := 1, cells := 0, slots := 0, locals := 24 } : Room) s m args below meth c H locs 0 0 Q (F0 m 26 ls []) := by
    intro k26
    induction k26 with
    | zero =>
      intro σ H locs ls x2 hx2 hf
      have hf : (none : Option St) = some σ2 := hf
      cases hf
    | succ k26 ih26 =>
      intro σ H locs ls x2 hx2 hf hW hS hl
      have hf : fX5_collectHadByAll_L26s n o1 (fX5_collectHadByAll_L26 n o1 k26) σ x2 = some σ2 := hf
      unfold fX5_collectHadByAll_L26s at hf
      refine lv_iload_n hx hb dX5_collectHadByAll_26 rfl (lv_at hl 2 rfl) ?_
      refine m_const (v := 4) hx hb dX5_collectHadByAll_27 rfl ?_
      refine m_icmp_ge (tgt := 54) hx hb hx2 (by decide) hf dX5_collectHadByAll_28 (by decide) (fun hf => ?_) (fun hf => ?_)
      · skip
        refine lv_aload_n hx hb dX5_collectHadByAll_54 rfl (lv_at hl 0 rfl) ?_
        refine g_X5_scratchSet X hW (X.2.2.2.2.1 _ mw185) dX5_collectHadByAll_55 ?_
        refine m_callVv (As := []) (rest := []) X hW hS hl.1 gc_X5_389 hd_X0_clear ⟨rfl, rfl, Nat.le_of_ble_eq_true rfl, Nat.le_of_ble_eq_true rfl⟩ (rc_X0 X hW r_X5_scratchSet) (fun v q => ok_X0_clear r_X5_scratchSet q) hf rfl rfl (Nat.le_of_ble_eq_true rfl) dX5_collectHadByAll_58 ⟨Nat.le_of_ble_eq_true rfl, Nat.le_of_ble_eq_true rfl⟩ (fun σ3 H locs hW3 hS3 hf => ?_)
        refine m_const (v := 0) hx hb dX5_collectHadByAll_61 rfl ?_
        refine lv_istore_n (lv' := [(2, .int (i32 0)), (0, .ref (ad 0)), (1, .ref (ad o1))]) hx hb dX5_collectHadByAll_62 rfl hl (by decide) rfl (fun ls hl => ?_)
        exact hc63 n _ _ _ _ 0 (by decide) hf hW3 hS3 (lv_sub hl [1, 0] rfl)
      · skip
        refine lv_aload_n hx hb dX5_collectHadByAll_31 rfl (lv_at hl 0 rfl) ?_
        refine lv_iload_n hx hb dX5_collectHadByAll_32 rfl (lv_at hl 2 rfl) ?_
        refine m_callVr (K := isSite) (As := [.int (i32 x2)]) (rest := []) X hW hS hl.1 gc_X5_61 hd_X5_siteAt ⟨rfl, rfl, Nat.le_of_ble_eq_true rfl, Nat.le_of_ble_eq_true rfl⟩ (rc_X5 X hW) (fun v q9 q => ok0_X5_siteAt hx2 (zw_of q)) hf rfl rfl (Nat.le_of_ble_eq_true rfl) dX5_collectHadByAll_33 ⟨Nat.le_of_ble_eq_true rfl, Nat.le_of_ble_eq_true rfl⟩ (fun o5 σ4 H locs ho5 hW4 hS4 hf => ?_)
        refine lv_aload_n hx hb dX5_collectHadByAll_36 rfl (lv_at hl 1 rfl) ?_
        refine lv_iload_n hx hb dX5_collectHadByAll_37 rfl (lv_at hl 2 rfl) ?_
        refine m_callVi1 (z := false) (As := [.int (i32 x2)]) (rest := [.ref (ad o5)]) X hW4 hS4 hl.1 gc_X5_382 hd_X4_knownOf ⟨rfl, rfl, Nat.le_of_ble_eq_true rfl, Nat.le_of_ble_eq_true rfl⟩ (rc_X4 X hW4 ho1) (fun v q => ok_X4_knownOf ho1 hx2 q) hf rfl rfl (Nat.le_of_ble_eq_true rfl) dX5_collectHadByAll_38 ⟨Nat.le_of_ble_eq_true rfl, Nat.le_of_ble_eq_true rfl⟩ (fun v6 H locs hv6 zv6 hWv6 hSv6 hf => ?_)
        refine lv_aload_n hx hb dX5_collectHadByAll_41 rfl (lv_at hl 0 rfl) ?_
        refine g_X5_owners X hWv6 (X.2.2.2.2.1 _ mw187) dX5_collectHadByAll_42 ?_
        refine m_callVv (As := [.int (i32 v6), .ref (ad 5)]) (rest := []) X hWv6 hSv6 hl.1 gc_X5_385 hd_X4_countFirst ⟨rfl, rfl, Nat.le_of_ble_eq_true rfl, Nat.le_of_ble_eq_true rfl⟩ (rc_X4 X hWv6 ho5) (fun v q => ok_X4_countFirst ho5 hv6 (arrL a_X5_owners) q) hf rfl rfl (Nat.le_of_ble_eq_true rfl) dX5_collectHadByAll_45 ⟨Nat.le_of_ble_eq_true rfl, Nat.le_of_ble_eq_true rfl⟩ (fun σ7 H locs hW7 hS7 hf => ?_)
        refine m_iinc (k0 := 2) (fun v8 => [(2, .int (i32 v8)), (0, .ref (ad 0)), (1, .ref (ad o1))]) hx hb hf dX5_collectHadByAll_48 hl rfl (by decide) (fun _ => rfl) (fun v8 ls hv8 hf hl => ?_)
        have hl : lv_has ls 3 [(2, .int (i32 v8)), (0, .ref (ad 0)), (1, .ref (ad o1))] := hl
        refine lv_goto (tgt := 26) hx hb dX5_collectHadByAll_51 (by decide) ?_
        exact ih26 _ _ _ _ v8 hv8 hf hW7 hS7 (lv_sub hl [1, 2, 0] rfl)
  have hc2 : ∀ (k2 : Nat) (σ : St) (H : Heap) (locs : List Loc) (ls : Array Slot) (x2 : Int), inR x2 → fX5_collectHadByAll_L2 n o1 k2 σ x2 = some σ2 → Wd D cy ad nm nv σ H → va_S (AW ad nm nv sz) s.heap H locs → lv_has ls 3 [(0, .ref (ad 0)), (1, .ref (ad o1)), (2, .int (i32 x2))] → W p l e ({ frames := 1, cells := 0, slots := 0, locals := 24 } : Room) s m args below meth c H locs 0 0 Q (F0 m 2 ls []) := by
    intro k2
    induction k2 with
    | zero =>
      intro σ H locs ls x2 hx2 hf
      have hf : (none : Option St) = some σ2 := hf
      cases hf
    | succ k2 ih2 =>
      intro σ H locs ls x2 hx2 hf hW hS hl
      have hf : fX5_collectHadByAll_L2s n o1 (fX5_collectHadByAll_L2 n o1 k2) σ x2 = some σ2 := hf
      unfold fX5_collectHadByAll_L2s at hf
      refine lv_iload_n hx hb dX5_collectHadByAll_2 rfl (lv_at hl 2 rfl) ?_
      refine lv_aload_n hx hb dX5_collectHadByAll_3 rfl (lv_at hl 0 rfl) ?_
      refine g_X5_owners X hW (X.2.2.2.2.1 _ mw187) dX5_collectHadByAll_4 ?_
      refine m_alen (v := 160) 0 X hW a_X5_owners ent_1 rfl rfl rfl dX5_collectHadByAll_7 ?_
      refine m_icmp_ge (tgt := 24) hx hb hx2 (by decide) hf dX5_collectHadByAll_8 (by decide) (fun hf => ?_) (fun hf => ?_)
      · skip
        refine m_const (v := 0) hx hb dX5_collectHadByAll_24 rfl ?_
        refine lv_istore_n (lv' := [(2, .int (i32 0)), (0, .ref (ad 0)), (1, .ref (ad o1))]) hx hb dX5_collectHadByAll_25 rfl hl (by decide) rfl (fun ls hl => ?_)
        exact hc26 n _ _ _ _ 0 (by decide) hf hW hS (lv_sub hl [1, 2, 0] rfl)
      · skip
        refine lv_aload_n hx hb dX5_collectHadByAll_11 rfl (lv_at hl 0 rfl) ?_
        refine g_X5_owners X hW (X.2.2.2.2.1 _ mw187) dX5_collectHadByAll_12 ?_
        refine lv_iload_n hx hb dX5_collectHadByAll_15 rfl (lv_at hl 2 rfl) ?_
        refine m_const (v := 0) hx hb dX5_collectHadByAll_16 rfl ?_
        refine m_iast X hW hS a_X5_owners hx2 (by decide) hf dX5_collectHadByAll_17 (fun σ1 H locs hW1 hS1 hf => ?_)
        refine m_iinc (k0 := 2) (fun v2 => [(2, .int (i32 v2)), (0, .ref (ad 0)), (1, .ref (ad o1))]) hx hb hf dX5_collectHadByAll_18 hl rfl (by decide) (fun _ => rfl) (fun v2 ls hv2 hf hl => ?_)
        have hl : lv_has ls 3 [(2, .int (i32 v2)), (0, .ref (ad 0)), (1, .ref (ad o1))] := hl
        refine lv_goto (tgt := 2) hx hb dX5_collectHadByAll_21 (by decide) ?_
        exact ih2 _ _ _ _ v2 hv2 hf hW1 hS1 (lv_sub hl [1, 2, 0] rfl)
  refine m_const (v := 0) hx hb dX5_collectHadByAll_0 rfl ?_
  refine lv_istore_n (lv' := [(2, .int (i32 0)), (0, .ref (ad 0)), (1, .ref (ad o1))]) hx hb dX5_collectHadByAll_1 rfl hl (by decide) rfl (fun ls hl => ?_)
  exact hc2 n _ _ _ _ 0 (by decide) hf hW hS (lv_sub hl [1, 2, 0] rfl)
set_option maxRecDepth 100000 in
set_option maxHeartbeats 4000000 in
theorem ok0_X5_buried {l : Launch} {D : va_G} {cy : Nat → ClassId} {ad : Nat → Nat} {nm nv sz : Nat} {σ : St} {n : Nat} {x1 : Int} {r : Int} {σ2 : St} (hx1 : inR x1) (hf : fX5_buried n σ x1 = some (0, r, σ2)) : CI l yX5_buried cX5_buried 6 (some .int) ({ frames := 6, cells := 0, slots := 0, locals := 163 } : Room) [.ref (ad 0), .int (i32 x1)] D cy ad nm nv sz σ false r σ2 := by
  refine m_entry RX5 rfl (by decide +kernel) (Nat.le_of_ble_eq_true rfl) ?_
  intro p e s m args below meth c Q hQ hr hlocks X hW hS ls hl
  have hx := X.1
  have hb := X.2.1
  have hl : lv_has ls 6 [(0, .ref (ad 0)), (1, .int (i32 x1))] := hl
  unfold fX5_buried at hf
  have hc33 : ∀ (k33 : Nat) (σ : St) (H : Heap) (locs : List Loc) (ls : Array Slot) (o3 : Nat) (x4 : Int) (x5 : Int), isPaper o3 → inR x4 → inR x5 → fX5_buried_L33 n σ x1 o3 k33 x4 x5 = some (0, r, σ2) → Wd D cy ad nm nv σ H → va_S (AW ad nm nv sz) s.heap H locs → lv_has ls 6 [(0, .ref (ad 0)), (3, .ref (ad o3)), (4, .int (i32 x4)), (5, .int (i32 x5))] → W p l e ({ frames := 6, cells := 0, slots := 0, locals := 163 } : Room) s m args below meth c H locs 0 0 Q (F0 m 33 ls []) := by
    intro k33
    induction k33 with
    | zero =>
      intro σ H locs ls o3 x4 x5 ho3 hx4 hx5 hf
      have hf : (none : Option (Nat × Int × St)) = some (0, r, σ2) := hf
      cases hf
    | succ k33 ih33 =>
      intro σ H locs ls o3 x4 x5 ho3 hx4 hx5 hf hW hS hl
      have hf : fX5_buried_L33s n σ x1 o3 (fX5_buried_L33 n σ x1 o3 k33) x4 x5 = some (0, r, σ2) := hf
      unfold fX5_buried_L33s at hf
      refine lv_iload hx hb dX5_buried_33 (lv_at hl 3 rfl) ?_
      refine lv_aload_n hx hb dX5_buried_35 rfl (lv_at hl 0 rfl) ?_
      refine g_X5_book X hW (X.2.2.2.2.1 _ mw179) dX5_buried_36 ?_
      refine gN_X1_made X hW (nf_X5_199 X.2.2.2.2.2.2.2.2) dX5_buried_39 ?_
      refine m_icmp_ge (tgt := 75) hx hb hx5 (hW.2.1 _ _) hf dX5_buried_42 (by decide) (fun hf => ?_) (fun hf => ?_)
      · skip
        refine lv_iload hx hb dX5_buried_75 (lv_at hl 2 rfl) ?_
        exact m_ireti X hr hlocks rfl hx4 (fun h => Bool.noConfusion h) hW hS (congrArg (fun q => q.2.1) (Option.some.inj hf)) (congrArg (fun q => q.2.2) (Option.some.inj hf)) hQ dX5_buried_77
      · skip
        refine lv_aload_n hx hb dX5_buried_45 rfl (lv_at hl 1 rfl) ?_
        refine lv_iload hx hb dX5_buried_46 (lv_at hl 3 rfl) ?_
        refine m_callVi1 (z := true) (As := [.int (i32 x5)]) (rest := []) X hW hS hl.1 gc_X5_317 hd_X3_isGrave ⟨rfl, rfl, Nat.le_of_ble_eq_true rfl, Nat.le_of_ble_eq_true rfl⟩ (rc_X3 X hW ho3) (fun v q => ok_X3_isGrave ho3 hx5 q) hf rfl rfl (Nat.le_of_ble_eq_true rfl) dX5_buried_48 ⟨Nat.le_of_ble_eq_true rfl, Nat.le_of_ble_eq_true rfl⟩ (fun v7 H locs hv7 zv7 hWv7 hSv7 hf => ?_)
        refine m_if_eq (tgt := 69) hx hb hv7 hf dX5_buried_51 (by decide) (fun hf => ?_) (fun hf => ?_)
        · skip
          refine m_iinc (k0 := 3) (fun v8 => [(5, .int (i32 v8)), (0, .ref (ad 0)), (3, .ref (ad o3)), (4, .int (i32 x4))]) hx hb hf dX5_buried_69 hl rfl (by decide) (fun _ => rfl) (fun v8 ls hv8 hf hl => ?_)
          have hl : lv_has ls 6 [(5, .int (i32 v8)), (0, .ref (ad 0)), (3, .ref (ad o3)), (4, .int (i32 x4))] := hl
          refine lv_goto (tgt := 33) hx hb dX5_buried_72 (by decide) ?_
          exact ih33 _ _ _ _ o3 x4 v8 ho3 hx4 hv8 hf hWv7 hSv7 (lv_sub hl [1, 2, 3, 0] rfl)
        · skip
          refine lv_aload_n hx hb dX5_buried_54 rfl (lv_at hl 0 rfl) ?_
          refine g_X5_scratch X hWv7 (X.2.2.2.2.1 _ mw183) dX5_buried_55 ?_
          refine lv_iload hx hb dX5_buried_58 (lv_at hl 3 rfl) ?_
          refine m_callVi1 (z := true) (As := [.int (i32 x5)]) (rest := []) X hWv7 hSv7 hl.1 gc_X5_317 hd_X3_isGrave ⟨rfl, rfl, Nat.le_of_ble_eq_true rfl, Nat.le_of_ble_eq_true rfl⟩ (rc_X3 X hWv7 r_X5_scratch) (fun v q => ok_X3_isGrave r_X5_scratch hx5 q) hf rfl rfl (Nat.le_of_ble_eq_true rfl) dX5_buried_60 ⟨Nat.le_of_ble_eq_true rfl, Nat.le_of_ble_eq_true rfl⟩ (fun v9 H locs hv9 zv9 hWv9 hSv9 hf => ?_)
          refine m_if_eq (tgt := 69) hx hb hv9 hf dX5_buried_63 (by decide) (fun hf => ?_) (fun hf => ?_)
          · skip
            refine m_iinc (k0 := 3) (fun v10 => [(5, .int (i32 v10)), (0, .ref (ad 0)), (3, .ref (ad o3)), (4, .int (i32 x4))]) hx hb hf dX5_buried_69 hl rfl (by decide) (fun _ => rfl) (fun v10 ls hv10 hf hl => ?_)
            have hl : lv_has ls 6 [(5, .int (i32 v10)), (0, .ref (ad 0)), (3, .ref (ad o3)), (4, .int (i32 x4))] := hl
            refine lv_goto (tgt := 33) hx hb dX5_buried_72 (by decide) ?_
            exact ih33 _ _ _ _ o3 x4 v10 ho3 hx4 hv10 hf hWv9 hSv9 (lv_sub hl [1, 2, 3, 0] rfl)
          · skip
            refine m_iinc (k0 := 2) (fun v11 => [(4, .int (i32 v11)), (0, .ref (ad 0)), (3, .ref (ad o3)), (5, .int (i32 x5))]) hx hb hf dX5_buried_66 hl rfl (by decide) (fun _ => rfl) (fun v11 ls hv11 hf hl => ?_)
            have hl : lv_has ls 6 [(4, .int (i32 v11)), (0, .ref (ad 0)), (3, .ref (ad o3)), (5, .int (i32 x5))] := hl
            refine m_iinc (k0 := 3) (fun v12 => [(5, .int (i32 v12)), (4, .int (i32 v11)), (0, .ref (ad 0)), (3, .ref (ad o3))]) hx hb hf dX5_buried_69 hl rfl (by decide) (fun _ => rfl) (fun v12 ls hv12 hf hl => ?_)
            have hl : lv_has ls 6 [(5, .int (i32 v12)), (4, .int (i32 v11)), (0, .ref (ad 0)), (3, .ref (ad o3))] := hl
            refine lv_goto (tgt := 33) hx hb dX5_buried_72 (by decide) ?_
            exact ih33 _ _ _ _ o3 v11 v12 ho3 hv11 hv12 hf hWv9 hSv9 (lv_sub hl [2, 3, 1, 0] rfl)
  refine lv_aload_n hx hb dX5_buried_0 rfl (lv_at hl 0 rfl) ?_
  refine lv_iload_n hx hb dX5_buried_1 rfl (lv_at hl 1 rfl) ?_
  have hf := xw_b2 hf
  refine m_callVr (K := isSite) (As := [.int (i32 x1)]) (rest := []) X hW hS hl.1 gc_X5_61 hd_X5_siteAt ⟨rfl, rfl, Nat.le_of_ble_eq_true rfl, Nat.le_of_ble_eq_true rfl⟩ (rc_X5 X hW) (fun v q9 q => ok0_X5_siteAt hx1 (zw_of q)) hf rfl rfl (Nat.le_of_ble_eq_true rfl) dX5_buried_2 ⟨Nat.le_of_ble_eq_true rfl, Nat.le_of_ble_eq_true rfl⟩ (fun o2 σ1 H locs ho2 hW1 hS1 hf => ?_)
  refine lv_astore_n (lv' := [(2, .ref (ad o2)), (0, .ref (ad 0)), (1, .int (i32 x1))]) hx hb dX5_buried_5 rfl hl (by decide) rfl (fun ls hl => ?_)
  refine lv_aload_n hx hb dX5_buried_6 rfl (lv_at hl 1 rfl) ?_
  refine lv_aload_n hx hb dX5_buried_7 rfl (lv_at hl 0 rfl) ?_
  refine m_callVv (As := [.ref (ad o2)]) (rest := []) X hW1 hS1 hl.1 gc_X5_313 hd_X5_collectHadByAll ⟨rfl, rfl, Nat.le_of_ble_eq_true rfl, Nat.le_of_ble_eq_true rfl⟩ (rc_X5 X hW1) (fun v q => ok_X5_collectHadByAll ho2 q) hf rfl rfl (Nat.le_of_ble_eq_true rfl) dX5_buried_8 ⟨Nat.le_of_ble_eq_true rfl, Nat.le_of_ble_eq_true rfl⟩ (fun σ3 H locs hW3 hS3 hf => ?_)
  refine lv_aload_n hx hb dX5_buried_11 rfl (lv_at hl 1 rfl) ?_
  refine g_X5_scratch X hW3 (X.2.2.2.2.1 _ mw183) dX5_buried_12 ?_
  refine lv_aload_n hx hb dX5_buried_15 rfl (lv_at hl 1 rfl) ?_
  refine g_X5_scratchSet X hW3 (X.2.2.2.2.1 _ mw185) dX5_buried_16 ?_
  refine m_callVv (As := [.ref (ad 6)]) (rest := []) X hW3 hS3 hl.1 gc_X5_260 hd_X3_doAll ⟨rfl, rfl, Nat.le_of_ble_eq_true rfl, Nat.le_of_ble_eq_true rfl⟩ (rc_X3 X hW3 r_X5_scratch) (fun v q => ok_X3_doAll r_X5_scratch r_X5_scratchSet q) hf rfl rfl (Nat.le_of_ble_eq_true rfl) dX5_buried_19 ⟨Nat.le_of_ble_eq_true rfl, Nat.le_of_ble_eq_true rfl⟩ (fun σ4 H locs hW4 hS4 hf => ?_)
  refine lv_aload_n hx hb dX5_buried_22 rfl (lv_at hl 0 rfl) ?_
  refine m_callSr (K := isPaper) (As := [.ref (ad o2)]) (rest := []) X hW4 hS4 hl.1 gc_X5_72 hd_X5_paperOf ⟨rfl, rfl, Nat.le_of_ble_eq_true rfl, Nat.le_of_ble_eq_true rfl⟩ (fun v q9 q => ok_X5_paperOf ho2 q) hf rfl rfl (Nat.le_of_ble_eq_true rfl) dX5_buried_23 ⟨Nat.le_of_ble_eq_true rfl, Nat.le_of_ble_eq_true rfl⟩ (fun o6 σ5 H locs ho6 hW5 hS5 hf => ?_)
  refine lv_astore_n (lv' := [(3, .ref (ad o6)), (2, .ref (ad o2)), (0, .ref (ad 0)), (1, .int (i32 x1))]) hx hb dX5_buried_26 rfl hl (by decide) rfl (fun ls hl => ?_)
  refine m_const (v := 0) hx hb dX5_buried_27 rfl ?_
  refine lv_istore (lv' := [(4, .int (i32 0)), (3, .ref (ad o6)), (2, .ref (ad o2)), (0, .ref (ad 0)), (1, .int (i32 x1))]) hx hb dX5_buried_28 hl (by decide) rfl (fun ls hl => ?_)
  refine m_const (v := 0) hx hb dX5_buried_30 rfl ?_
  refine lv_istore (lv' := [(5, .int (i32 0)), (4, .int (i32 0)), (3, .ref (ad o6)), (2, .ref (ad o2)), (0, .ref (ad 0)), (1, .int (i32 x1))]) hx hb dX5_buried_31 hl (by decide) rfl (fun ls hl => ?_)
  exact hc33 n _ _ _ _ o6 0 0 ho6 (by decide) (by decide) hf hW5 hS5 (lv_sub hl [4, 2, 1, 0] rfl)
set_option maxRecDepth 100000 in
set_option maxHeartbeats 4000000 in
theorem ok_X5_acts {l : Launch} {D : va_G} {cy : Nat → ClassId} {ad : Nat → Nat} {nm nv sz : Nat} {σ : St} {r : Int} (hf : fX5_acts σ = some r) : CI l yX5_acts cX5_acts 1 (some .int) ({ frames := 0, cells := 0, slots := 0, locals := 0 } : Room) [.ref (ad 0)] D cy ad nm nv sz σ false r σ := by
  refine m_entry RX5 rfl (by decide +kernel) (Nat.le_of_ble_eq_true rfl) ?_
  intro p e s m args below meth c Q hQ hr hlocks X hW hS ls hl
  have hx := X.1
  have hb := X.2.1
  have hl : lv_has ls 1 [(0, .ref (ad 0))] := hl
  unfold fX5_acts at hf
  refine lv_aload_n hx hb dX5_acts_0 rfl (lv_at hl 0 rfl) ?_
  refine g_X5_book X hW (X.2.2.2.2.1 _ mw179) dX5_acts_1 ?_
  refine gN_X1_made X hW (nf_X5_199 X.2.2.2.2.2.2.2.2) dX5_acts_4 ?_
  exact m_ireti X hr hlocks rfl (hW.2.1 _ _) (fun h => Bool.noConfusion h) hW hS (Option.some.inj hf) rfl hQ dX5_acts_7
set_option maxRecDepth 100000 in
set_option maxHeartbeats 4000000 in
theorem ok0_X5_has {l : Launch} {D : va_G} {cy : Nat → ClassId} {ad : Nat → Nat} {nm nv sz : Nat} {σ : St} {x1 : Int} {r : Int} {σ2 : St} (hx1 : inR x1) (hf : fX5_has σ x1 = some (0, r, σ2)) : CI l yX5_has cX5_has 2 (some .int) ({ frames := 1, cells := 0, slots := 0, locals := 21 } : Room) [.ref (ad 0), .int (i32 x1)] D cy ad nm nv sz σ false r σ2 := by
  refine m_entry RX5 rfl (by decide +kernel) (Nat.le_of_ble_eq_true rfl) ?_
  intro p e s m args below meth c Q hQ hr hlocks X hW hS ls hl
  have hx := X.1
  have hb := X.2.1
  have hl : lv_has ls 2 [(0, .ref (ad 0)), (1, .int (i32 x1))] := hl
  unfold fX5_has at hf
  refine lv_aload_n hx hb dX5_has_0 rfl (lv_at hl 0 rfl) ?_
  refine lv_iload_n hx hb dX5_has_1 rfl (lv_at hl 1 rfl) ?_
  have hf := xw_b2 hf
  refine m_callVr (K := isSite) (As := [.int (i32 x1)]) (rest := []) X hW hS hl.1 gc_X5_61 hd_X5_siteAt ⟨rfl, rfl, Nat.le_of_ble_eq_true rfl, Nat.le_of_ble_eq_true rfl⟩ (rc_X5 X hW) (fun v q9 q => ok0_X5_siteAt hx1 (zw_of q)) hf rfl rfl (Nat.le_of_ble_eq_true rfl) dX5_has_2 ⟨Nat.le_of_ble_eq_true rfl, Nat.le_of_ble_eq_true rfl⟩ (fun o2 σ1 H locs ho2 hW1 hS1 hf => ?_)
  refine gN_X4_held X hW1 ho2 (nf_X5_193 X.2.2.2.2.2.2.2.2) dX5_has_5 ?_
  refine gN_X0_size X hW1 (r_X4_held ho2) (nf_X5_196 X.2.2.2.2.2.2.2.2) dX5_has_8 ?_
  exact m_ireti X hr hlocks rfl (hW1.2.1 _ _) (fun h => Bool.noConfusion h) hW1 hS1 (congrArg (fun q => q.2.1) (Option.some.inj hf)) (congrArg (fun q => q.2.2) (Option.some.inj hf)) hQ dX5_has_11
set_option maxRecDepth 100000 in
set_option maxHeartbeats 4000000 in
theorem ok0_X5_act {l : Launch} {D : va_G} {cy : Nat → ClassId} {ad : Nat → Nat} {nm nv sz : Nat} {σ : St} {x1 : Int} {r : Int} {σ2 : St} (hx1 : inR x1) (hf : fX5_act σ x1 = some (0, r, σ2)) : CI l yX5_act cX5_act 2 (some .int) ({ frames := 1, cells := 0, slots := 0, locals := 21 } : Room) [.ref (ad 0), .int (i32 x1)] D cy ad nm nv sz σ false r σ2 := by
  refine m_entry RX5 rfl (by decide +kernel) (Nat.le_of_ble_eq_true rfl) ?_
  intro p e s m args below meth c Q hQ hr hlocks X hW hS ls hl
  have hx := X.1
  have hb := X.2.1
  have hl : lv_has ls 2 [(0, .ref (ad 0)), (1, .int (i32 x1))] := hl
  unfold fX5_act at hf
  have hc15 : ∀ (σ : St) (H : Heap) (locs : List Loc) (ls : Array Slot), fX5_act_J15 σ x1 = some (0, r, σ2) → Wd D cy ad nm nv σ H → va_S (AW ad nm nv sz) s.heap H locs → lv_has ls 2 [] → W p l e ({ frames := 1, cells := 0, slots := 0, locals := 21 } : Room) s m args below meth c H locs 0 0 Q (F0 m 15 ls []) := by
    intro σ H locs ls hf hW hS hl
    unfold fX5_act_J15 at hf
    exact absurd (congrArg (fun q => q.1) (Option.some.inj hf)) (by simp)
  refine lv_iload_n hx hb dX5_act_0 rfl (lv_at hl 1 rfl) ?_
  refine m_if_lt (tgt := 15) hx hb hx1 hf dX5_act_1 (by decide) (fun hf => ?_) (fun hf => ?_)
  · skip
    exact hc15 _ _ _ _  hf hW hS (lv_sub hl [] rfl)
  · skip
    refine lv_iload_n hx hb dX5_act_4 rfl (lv_at hl 1 rfl) ?_
    refine lv_aload_n hx hb dX5_act_5 rfl (lv_at hl 0 rfl) ?_
    refine g_X5_book X hW (X.2.2.2.2.1 _ mw179) dX5_act_6 ?_
    refine gN_X1_made X hW (nf_X5_199 X.2.2.2.2.2.2.2.2) dX5_act_9 ?_
    refine m_icmp_lt (tgt := 26) hx hb hx1 (hW.2.1 _ _) hf dX5_act_12 (by decide) (fun hf => ?_) (fun hf => ?_)
    · skip
      refine m_sipush (v := 1000) hx hb dX5_act_26 (by decide) ?_
      refine lv_aload_n hx hb dX5_act_29 rfl (lv_at hl 0 rfl) ?_
      refine g_X5_book X hW (X.2.2.2.2.1 _ mw179) dX5_act_30 ?_
      refine lv_iload_n hx hb dX5_act_33 rfl (lv_at hl 1 rfl) ?_
      refine m_callVi1 (z := false) (As := [.int (i32 x1)]) (rest := [.int (i32 1000)]) X hW hS hl.1 gc_X5_212 hd_X1_countOf ⟨rfl, rfl, Nat.le_of_ble_eq_true rfl, Nat.le_of_ble_eq_true rfl⟩ (rc_X1 X hW) (fun v q => ok_X1_countOf hx1 q) hf rfl rfl (Nat.le_of_ble_eq_true rfl) dX5_act_34 ⟨Nat.le_of_ble_eq_true rfl, Nat.le_of_ble_eq_true rfl⟩ (fun v1 H locs hv1 zv1 hWv1 hSv1 hf => ?_)
      refine m_imul hx hb hf dX5_act_37 (fun v2 hv2 hf => ?_)
      refine m_bipush (v := 100) hx hb dX5_act_38 (by decide) ?_
      refine lv_aload_n hx hb dX5_act_40 rfl (lv_at hl 0 rfl) ?_
      refine g_X5_book X hWv1 (X.2.2.2.2.1 _ mw179) dX5_act_41 ?_
      refine lv_iload_n hx hb dX5_act_44 rfl (lv_at hl 1 rfl) ?_
      refine m_callVi1 (z := false) (As := [.int (i32 x1)]) (rest := [.int (i32 100), .int (i32 v2)]) X hWv1 hSv1 hl.1 gc_X5_324 hd_X1_siteOf ⟨rfl, rfl, Nat.le_of_ble_eq_true rfl, Nat.le_of_ble_eq_true rfl⟩ (rc_X1 X hWv1) (fun v q => ok_X1_siteOf hx1 q) hf rfl rfl (Nat.le_of_ble_eq_true rfl) dX5_act_45 ⟨Nat.le_of_ble_eq_true rfl, Nat.le_of_ble_eq_true rfl⟩ (fun v3 H locs hv3 zv3 hWv3 hSv3 hf => ?_)
      refine m_imul hx hb hf dX5_act_48 (fun v4 hv4 hf => ?_)
      refine m_iadd hx hb hf dX5_act_49 (fun v5 hv5 hf => ?_)
      refine lv_aload_n hx hb dX5_act_50 rfl (lv_at hl 0 rfl) ?_
      refine g_X5_book X hWv3 (X.2.2.2.2.1 _ mw179) dX5_act_51 ?_
      refine lv_iload_n hx hb dX5_act_54 rfl (lv_at hl 1 rfl) ?_
      refine m_callVi1 (z := false) (As := [.int (i32 x1)]) (rest := [.int (i32 v5)]) X hWv3 hSv3 hl.1 gc_X5_291 hd_X1_kindOf ⟨rfl, rfl, Nat.le_of_ble_eq_true rfl, Nat.le_of_ble_eq_true rfl⟩ (rc_X1 X hWv3) (fun v q => ok_X1_kindOf hx1 q) hf rfl rfl (Nat.le_of_ble_eq_true rfl) dX5_act_55 ⟨Nat.le_of_ble_eq_true rfl, Nat.le_of_ble_eq_true rfl⟩ (fun v6 H locs hv6 zv6 hWv6 hSv6 hf => ?_)
      refine m_iadd hx hb hf dX5_act_58 (fun v7 hv7 hf => ?_)
      exact m_ireti X hr hlocks rfl hv7 (fun h => Bool.noConfusion h) hWv6 hSv6 (congrArg (fun q => q.2.1) (Option.some.inj hf)) (congrArg (fun q => q.2.2) (Option.some.inj hf)) hQ dX5_act_59
    · skip
      exact hc15 _ _ _ _  hf hW hS (lv_sub hl [] rfl)
set_option maxRecDepth 100000 in
set_option maxHeartbeats 4000000 in
theorem ok0_X5_isUndone {l : Launch} {D : va_G} {cy : Nat → ClassId} {ad : Nat → Nat} {nm nv sz : Nat} {σ : St} {n : Nat} {x1 : Int} {x2 : Int} {r : Int} {σ2 : St} (hx1 : inR x1) (hx2 : inR x2) (hf : fX5_isUndone n σ x1 x2 = some (0, r, σ2)) : CI l yX5_isUndone cX5_isUndone 4 (some .boolean) ({ frames := 6, cells := 0, slots := 0, locals := 163 } : Room) [.ref (ad 0), .int (i32 x1), .int (i32 x2)] D cy ad nm nv sz σ true r σ2 := by
  refine m_entry RX5 rfl (by decide +kernel) (Nat.le_of_ble_eq_true rfl) ?_
  intro p e s m args below meth c Q hQ hr hlocks X hW hS ls hl
  have hx := X.1
  have hb := X.2.1
  have hl : lv_has ls 4 [(0, .ref (ad 0)), (1, .int (i32 x1)), (2, .int (i32 x2))] := hl
  unfold fX5_isUndone at hf
  refine lv_aload_n hx hb dX5_isUndone_0 rfl (lv_at hl 0 rfl) ?_
  refine lv_iload_n hx hb dX5_isUndone_1 rfl (lv_at hl 1 rfl) ?_
  have hf := xw_b2 hf
  refine m_callVr (K := isSite) (As := [.int (i32 x1)]) (rest := []) X hW hS hl.1 gc_X5_61 hd_X5_siteAt ⟨rfl, rfl, Nat.le_of_ble_eq_true rfl, Nat.le_of_ble_eq_true rfl⟩ (rc_X5 X hW) (fun v q9 q => ok0_X5_siteAt hx1 (zw_of q)) hf rfl rfl (Nat.le_of_ble_eq_true rfl) dX5_isUndone_2 ⟨Nat.le_of_ble_eq_true rfl, Nat.le_of_ble_eq_true rfl⟩ (fun o2 σ1 H locs ho2 hW1 hS1 hf => ?_)
  refine lv_astore_n (lv' := [(3, .ref (ad o2)), (0, .ref (ad 0)), (1, .int (i32 x1)), (2, .int (i32 x2))]) hx hb dX5_isUndone_5 rfl hl (by decide) rfl (fun ls hl => ?_)
  refine lv_aload_n hx hb dX5_isUndone_6 rfl (lv_at hl 0 rfl) ?_
  refine lv_iload_n hx hb dX5_isUndone_7 rfl (lv_at hl 3 rfl) ?_
  have hf := xw_b1 hf
  refine m_callSv (As := [.ref (ad o2), .int (i32 x2)]) (rest := []) X hW1 hS1 hl.1 gc_X5_146 hd_X5_checkHeld ⟨rfl, rfl, Nat.le_of_ble_eq_true rfl, Nat.le_of_ble_eq_true rfl⟩ (fun q9 q => ok0_X5_checkHeld ho2 hx2 (zv_of q).choose_spec) hf rfl rfl (Nat.le_of_ble_eq_true rfl) dX5_isUndone_8 ⟨Nat.le_of_ble_eq_true rfl, Nat.le_of_ble_eq_true rfl⟩ (fun σ3 H locs hW3 hS3 hf => ?_)
  refine lv_aload_n hx hb dX5_isUndone_11 rfl (lv_at hl 0 rfl) ?_
  refine m_callSr (K := isPaper) (As := [.ref (ad o2)]) (rest := []) X hW3 hS3 hl.1 gc_X5_72 hd_X5_paperOf ⟨rfl, rfl, Nat.le_of_ble_eq_true rfl, Nat.le_of_ble_eq_true rfl⟩ (fun v q9 q => ok_X5_paperOf ho2 q) hf rfl rfl (Nat.le_of_ble_eq_true rfl) dX5_isUndone_12 ⟨Nat.le_of_ble_eq_true rfl, Nat.le_of_ble_eq_true rfl⟩ (fun o5 σ4 H locs ho5 hW4 hS4 hf => ?_)
  refine lv_iload_n hx hb dX5_isUndone_15 rfl (lv_at hl 3 rfl) ?_
  refine m_callVi1 (z := true) (As := [.int (i32 x2)]) (rest := []) X hW4 hS4 hl.1 gc_X5_327 hd_X3_wasUndone ⟨rfl, rfl, Nat.le_of_ble_eq_true rfl, Nat.le_of_ble_eq_true rfl⟩ (rc_X3 X hW4 ho5) (fun v q => ok_X3_wasUndone ho5 hx2 q) hf rfl rfl (Nat.le_of_ble_eq_true rfl) dX5_isUndone_16 ⟨Nat.le_of_ble_eq_true rfl, Nat.le_of_ble_eq_true rfl⟩ (fun v6 H locs hv6 zv6 hWv6 hSv6 hf => ?_)
  exact m_ireti X hr hlocks (nar_b (zv6 rfl)).1 hv6 (fun _ => (zv6 rfl)) hWv6 hSv6 (congrArg (fun q => q.2.1) (Option.some.inj hf)) (congrArg (fun q => q.2.2) (Option.some.inj hf)) hQ dX5_isUndone_19
