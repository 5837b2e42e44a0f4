theorem gc_X6_268 : GoodIn GW (wsV RX6 268 RX6 yX6_isVersion (wsG yX6_isVersion cX6_isVersion 2 (some .boolean))) := cg_V mw1408 mw1410 ms67 mw6 mw1411
theorem gc_X6_271 : GoodIn GW (wsV RX6 271 RX6 yX6_keeps (wsG yX6_keeps cX6_keeps 3 none)) := cg_V mw1412 mw1414 ms68 mw6 mw1415
theorem gc_X6_274 : GoodIn GW (wsV RX6 274 RX6 yX6_isPlace (wsG yX6_isPlace cX6_isPlace 3 (some .boolean))) := cg_V mw1432 mw1434 ms69 mw6 mw1435
theorem gc_X6_277 : GoodIn GW (wsV RX6 277 RX6 yX6_element (wsG yX6_element cX6_element 3 (some .int))) := cg_V mw1440 mw1429 mw1430 mw6 mw1431
theorem hd_X6_isVersion : yX6_isVersion.cls = RX6 ∧ yX6_isVersion.cls ≠ "java/lang/invoke/MethodHandle" ∧ yX6_isVersion.cls ≠ "java/lang/invoke/VarHandle" ∧ (parseMethodDescriptor yX6_isVersion.desc).map (fun d => d.parameters.length) = some 1 := by decide +kernel
theorem hd_X6_keeps : yX6_keeps.cls = RX6 ∧ yX6_keeps.cls ≠ "java/lang/invoke/MethodHandle" ∧ yX6_keeps.cls ≠ "java/lang/invoke/VarHandle" ∧ (parseMethodDescriptor yX6_keeps.desc).map (fun d => d.parameters.length) = some 1 := by decide +kernel
theorem hd_X6_isPlace : yX6_isPlace.cls = RX6 ∧ yX6_isPlace.cls ≠ "java/lang/invoke/MethodHandle" ∧ yX6_isPlace.cls ≠ "java/lang/invoke/VarHandle" ∧ (parseMethodDescriptor yX6_isPlace.desc).map (fun d => d.parameters.length) = some 2 := by decide +kernel
theorem hd_X6_element : yX6_element.cls = RX6 ∧ yX6_element.cls ≠ "java/lang/invoke/MethodHandle" ∧ yX6_element.cls ≠ "java/lang/invoke/VarHandle" ∧ (parseMethodDescriptor yX6_element.desc).map (fun d => d.parameters.length) = some 2 := by decide +kernel
noncomputable def fX6_name_L40s (n : Nat) (x1 : Int) (lp40 : (St → Int → Option (Int × St))) : St → Int → Option (Int × St) := fun σ x2 => if 160 ≤ x2 then (ck ((σ 230 26) + 1) (fun v3 => pf σ 230 26 v3 (fun σ4 => ck ((σ4 230 26) - 1) (fun v5 => some (v5, σ4))))) else (ck (160 * (σ 230 26)) (fun v6 => ck (v6 + x2) (fun v7 => ck (160 * x1) (fun v8 => ck (v8 + x2) (fun v9 => rd σ 243 640 v9 (fun v10 => wrb σ 258 1600 v7 v10 (fun σ11 => ck (x2 + 1) (fun v12 => lp40 σ11 v12))))))))
noncomputable def fX6_name_L40 (n : Nat) (x1 : Int) (k : Nat) : St → Int → Option (Int × St) := lpR (fun _ _ => none) (fX6_name_L40s n x1) k
noncomputable def fX6_name_J26 (n : Nat) (σ : St) (x1 : Int) (t0 : Int) : Option (Int × St) := pf σ 230 0 t0 (fun σ2 => if σ2 230 0 ≤ 0 then (fX6_name_L40 n x1 n σ2 0) else (some (0, σ2)))
noncomputable def fX6_name (n : Nat) (σ : St) (x1 : Int) : Option (Int × St) := b1 (fX6_isSite x1) (fun v1 => if v1 ≠ 0 then (if σ 230 26 ≠ 10 then (fX6_name_J26 n σ x1 0) else (fX6_name_J26 n σ x1 2)) else (fX6_name_J26 n σ x1 1))
noncomputable def fX6_isVersion (σ : St) (x1 : Int) : Option Int := ck ((σ 230 26) - 1) (fun v1 => b1 (fX6_isIn x1 0 v1) (fun v2 => some v2))
noncomputable def fX6_keeps_L37s (n : Nat) (x1 : Int) (lp37 : (St → Int → Option St)) : St → Int → Option St := fun σ x2 => if σ 230 32 ≤ x2 then (some σ) else (rd σ 264 160 x2 (fun v5 => rd σ 264 160 x2 (fun v6 => b1 (fX6_isShown σ v6) (fun v7 => wrb σ 273 160 v5 v7 (fun σ8 => ck (x2 + 1) (fun v9 => lp37 σ8 v9))))))
noncomputable def fX6_keeps_L37 (n : Nat) (x1 : Int) (k : Nat) : St → Int → Option St := lpR (fun _ _ => none) (fX6_keeps_L37s n x1) k
noncomputable def fX6_keeps_L15s (n : Nat) (x1 : Int) (lp15 : (St → Int → Option St)) : St → Int → Option St := fun σ x2 => if 160 ≤ x2 then (fX6_keeps_L37 n x1 n σ 0) else (wrb σ 273 160 x2 0 (fun σ3 => ck (x2 + 1) (fun v4 => lp15 σ3 v4)))
noncomputable def fX6_keeps_L15 (n : Nat) (x1 : Int) (k : Nat) : St → Int → Option St := lpR (fun _ _ => none) (fX6_keeps_L15s n x1) k
noncomputable def fX6_keeps (n : Nat) (σ : St) (x1 : Int) : Option St := ck (160 * x1) (fun v1 => b1 (fX6_finds n σ 258 v1) (fun σ2 => fX6_keeps_L15 n x1 n σ2 0))
noncomputable def fX6_bringBack_J151 (n : Nat) (lp111 : (St → Int → Int → Option (Int × St))) (σ : St) (x1 : Int) (x2 : Int) (x3 : Int) (x4 : Int) (x5 : Int) (t0 : Int) : Option (Int × St) := rd σ 264 160 x5 (fun v26 => wr σ 274 161 x4 v26 (fun σ27 => if t0 = 0 then (ck (x4 + 0) (fun v28 => ck (x5 + 1) (fun v29 => lp111 σ27 v28 v29))) else (ck (x4 + 1) (fun v30 => ck (x5 + 1) (fun v31 => lp111 σ27 v30 v31)))))
noncomputable def fX6_bringBack_J253 (n : Nat) (lp217 : (St → Int → Option (Int × St))) (σ : St) (x1 : Int) (x2 : Int) (x4 : Int) (x5 : Int) (t0 : Int) (t1 : Int) : Option (Int × St) := rd σ 274 161 x5 (fun v32 => b2 (fX6_makes σ t1 t0 v32 0 0 0 0) (fun v34 σ33 => ck (x5 + 1) (fun v35 => lp217 σ33 v35)))
noncomputable def fX6_bringBack_J274 (n : Nat) (σ : St) (x1 : Int) (x2 : Int) (x4 : Int) : Option (Int × St) := if σ 230 0 ≤ 0 then (some (x4, σ)) else (some (0, σ))
noncomputable def fX6_bringBack_L217s (n : Nat) (x1 : Int) (x2 : Int) (x4 : Int) (lp217 : (St → Int → Option (Int × St))) : St → Int → Option (Int × St) := fun σ x5 => if x4 ≤ x5 then (fX6_bringBack_J274 n σ x1 x2 x4) else (if σ 230 0 ≠ 0 then (fX6_bringBack_J274 n σ x1 x2 x4) else (rd σ 274 161 x5 (fun v24 => rd σ 273 160 v24 (fun v25 => if v25 = 0 then (fX6_bringBack_J253 n lp217 σ x1 x2 x4 x5 2 x1) else (fX6_bringBack_J253 n lp217 σ x1 x2 x4 x5 3 x1)))))
noncomputable def fX6_bringBack_L217 (n : Nat) (x1 : Int) (x2 : Int) (x4 : Int) (k : Nat) : St → Int → Option (Int × St) := lpR (fun _ _ => none) (fX6_bringBack_L217s n x1 x2 x4) k
noncomputable def fX6_bringBack_L111s (n : Nat) (x1 : Int) (x2 : Int) (x3 : Int) (lp111 : (St → Int → Int → Option (Int × St))) : St → Int → Int → Option (Int × St) := fun σ x4 x5 => if σ 230 32 ≤ x5 then (if x3 = 0 then (pf σ 230 0 2 (fun σ16 => fX6_bringBack_L217 n x1 x2 x4 n σ16 0)) else (ck ((σ 230 1) + x4) (fun v17 => if 160 < v17 then (pf σ 230 0 2 (fun σ18 => fX6_bringBack_L217 n x1 x2 x4 n σ18 0)) else (pf σ 230 0 0 (fun σ19 => fX6_bringBack_L217 n x1 x2 x4 n σ19 0))))) else (rd σ 264 160 x5 (fun v20 => b1 (fX6_isShown σ v20) (fun v21 => rd σ 264 160 x5 (fun v22 => rd σ 273 160 v22 (fun v23 => if v21 = v23 then (fX6_bringBack_J151 n lp111 σ x1 x2 x3 x4 x5 0) else (fX6_bringBack_J151 n lp111 σ x1 x2 x3 x4 x5 1))))))
noncomputable def fX6_bringBack_L111 (n : Nat) (x1 : Int) (x2 : Int) (x3 : Int) (k : Nat) : St → Int → Int → Option (Int × St) := lpR (fun _ _ _ => none) (fX6_bringBack_L111s n x1 x2 x3) k
noncomputable def fX6_bringBack_L38s (n : Nat) (σ : St) (x1 : Int) (x2 : Int) (lp38 : (Int → Int → Option (Int × St))) : Int → Int → Option (Int × St) := fun x3 x4 => if σ 230 1 ≤ x4 then (b1 (fX6_keeps n σ x2) (fun σ4 => b1 (fX6_findsSite n σ4 x1) (fun σ5 => fX6_bringBack_L111 n x1 x2 x3 n σ5 0 0))) else (if x3 = 0 then (ck (x4 + 1) (fun v6 => lp38 0 v6)) else (ck (160 * x2) (fun v7 => ck (v7 + x4) (fun v8 => rd σ 258 1600 v8 (fun v9 => if v9 = 0 then (ck (x4 + 1) (fun v10 => lp38 1 v10)) else (ck (160 * x1) (fun v11 => ck (v11 + x4) (fun v12 => rd σ 243 640 v12 (fun v13 => if v13 = 0 then (ck (x4 + 1) (fun v14 => lp38 0 v14)) else (ck (x4 + 1) (fun v15 => lp38 1 v15)))))))))))
noncomputable def fX6_bringBack_L38 (n : Nat) (σ : St) (x1 : Int) (x2 : Int) (k : Nat) : Int → Int → Option (Int × St) := lpR (fun _ _ => none) (fX6_bringBack_L38s n σ x1 x2) k
noncomputable def fX6_bringBack_J21 (n : Nat) (σ : St) (x1 : Int) (x2 : Int) (t0 : Int) : Option (Int × St) := pf σ 230 0 t0 (fun σ3 => if σ3 230 0 ≤ 0 then (fX6_bringBack_L38 n σ3 x1 x2 n 1 0) else (some (0, σ3)))
noncomputable def fX6_bringBack_J20 (n : Nat) (σ : St) (x1 : Int) (x2 : Int) : Option (Int × St) := fX6_bringBack_J21 n σ x1 x2 1
noncomputable def fX6_bringBack (n : Nat) (σ : St) (x1 : Int) (x2 : Int) : Option (Int × St) := b1 (fX6_isSite x1) (fun v1 => if v1 = 0 then (fX6_bringBack_J20 n σ x1 x2) else (b1 (fX6_isVersion σ x2) (fun v2 => if v2 = 0 then (fX6_bringBack_J20 n σ x1 x2) else (fX6_bringBack_J21 n σ x1 x2 0))))
noncomputable def fX6_differ_J93 (n : Nat) (lp57 : (Int → Int → Option (Int × St))) (σ : St) (x1 : Int) (x2 : Int) (x3 : Int) (x4 : Int) (t0 : Int) : Option (Int × St) := rd σ 273 160 x4 (fun v9 => if t0 = v9 then (ck (x3 + 0) (fun v10 => ck (x4 + 1) (fun v11 => lp57 v10 v11))) else (ck (x3 + 1) (fun v12 => ck (x4 + 1) (fun v13 => lp57 v12 v13))))
noncomputable def fX6_differ_J92 (n : Nat) (lp57 : (Int → Int → Option (Int × St))) (σ : St) (x1 : Int) (x2 : Int) (x3 : Int) (x4 : Int) : Option (Int × St) := fX6_differ_J93 n lp57 σ x1 x2 x3 x4 0
noncomputable def fX6_differ_L57s (n : Nat) (σ : St) (x1 : Int) (x2 : Int) (lp57 : (Int → Int → Option (Int × St))) : Int → Int → Option (Int × St) := fun x3 x4 => if σ 230 1 ≤ x4 then (some (x3, σ)) else (b1 (fX6_spot n σ x4) (fun v7 => if σ 230 32 ≤ v7 then (fX6_differ_J92 n lp57 σ x1 x2 x3 x4) else (b1 (fX6_isShown σ x4) (fun v8 => if v8 = 0 then (fX6_differ_J92 n lp57 σ x1 x2 x3 x4) else (fX6_differ_J93 n lp57 σ x1 x2 x3 x4 1)))))
noncomputable def fX6_differ_L57 (n : Nat) (σ : St) (x1 : Int) (x2 : Int) (k : Nat) : Int → Int → Option (Int × St) := lpR (fun _ _ => none) (fX6_differ_L57s n σ x1 x2) k
noncomputable def fX6_differ_J22 (n : Nat) (σ : St) (x1 : Int) (x2 : Int) (t0 : Int) : Option (Int × St) := pf σ 230 0 t0 (fun σ3 => if σ3 230 0 ≤ 0 then (b1 (fX6_keeps n σ3 x1) (fun σ4 => ck (160 * x2) (fun v5 => b1 (fX6_finds n σ4 258 v5) (fun σ6 => fX6_differ_L57 n σ6 x1 x2 n 0 0)))) else (some (0, σ3)))
noncomputable def fX6_differ_J21 (n : Nat) (σ : St) (x1 : Int) (x2 : Int) : Option (Int × St) := fX6_differ_J22 n σ x1 x2 1
noncomputable def fX6_differ (n : Nat) (σ : St) (x1 : Int) (x2 : Int) : Option (Int × St) := b1 (fX6_isVersion σ x1) (fun v1 => if v1 = 0 then (fX6_differ_J21 n σ x1 x2) else (b1 (fX6_isVersion σ x2) (fun v2 => if v2 = 0 then (fX6_differ_J21 n σ x1 x2) else (fX6_differ_J22 n σ x1 x2 0))))
noncomputable def fX6_length (n : Nat) (σ : St) (x1 : Int) : Option (Int × St) := b1 (fX6_isSite x1) (fun v1 => if v1 ≠ 0 then (pf σ 230 0 0 (fun σ2 => b1 (fX6_findsSite n σ2 x1) (fun σ3 => b1 (fX6_seen n σ3) (fun v4 => some (v4, σ3))))) else (b2 (fX6_fails σ 1) (fun v6 σ5 => some (v6, σ5))))
noncomputable def fX6_shown_L27s (n : Nat) (σ : St) (x1 : Int) (lp27 : (Int → Int → Option (Int × St))) : Int → Int → Option (Int × St) := fun x2 x3 => if σ 230 32 ≤ x3 then (some (x2, σ)) else (rd σ 264 160 x3 (fun v6 => b1 (fX6_isShown σ v6) (fun v7 => if v7 = 0 then (ck (x2 + 0) (fun v8 => ck (x3 + 1) (fun v9 => lp27 v8 v9))) else (ck (x2 + 1) (fun v10 => ck (x3 + 1) (fun v11 => lp27 v10 v11))))))
noncomputable def fX6_shown_L27 (n : Nat) (σ : St) (x1 : Int) (k : Nat) : Int → Int → Option (Int × St) := lpR (fun _ _ => none) (fX6_shown_L27s n σ x1) k
noncomputable def fX6_shown (n : Nat) (σ : St) (x1 : Int) : Option (Int × St) := b1 (fX6_isSite x1) (fun v1 => if v1 ≠ 0 then (pf σ 230 0 0 (fun σ2 => b1 (fX6_findsSite n σ2 x1) (fun σ3 => fX6_shown_L27 n σ3 x1 n 0 0))) else (b2 (fX6_fails σ 1) (fun v5 σ4 => some (v5, σ4))))
noncomputable def fX6_isPlace (n : Nat) (σ : St) (x1 : Int) (x2 : Int) : Option (Int × St) := b1 (fX6_isSite x1) (fun v1 => if v1 ≠ 0 then (b1 (fX6_findsSite n σ x1) (fun σ2 => b1 (fX6_seen n σ2) (fun v3 => ck (v3 - 1) (fun v4 => b1 (fX6_isIn x2 0 v4) (fun v5 => some (v5, σ2)))))) else (some (0, σ)))
noncomputable def fX6_element_J15 (n : Nat) (σ : St) (x1 : Int) (x2 : Int) (t0 : Int) : Option (Int × St) := pf σ 230 0 t0 (fun σ3 => if σ3 230 0 ≤ 0 then (b1 (fX6_seenAt n σ3 x2) (fun v4 => some (v4, σ3))) else (some (0, σ3)))
noncomputable def fX6_element (n : Nat) (σ : St) (x1 : Int) (x2 : Int) : Option (Int × St) := b2 (fX6_isPlace n σ x1 x2) (fun v2 σ1 => if v2 = 0 then (fX6_element_J15 n σ1 x1 x2 1) else (fX6_element_J15 n σ1 x1 x2 0))
noncomputable def fX6_elementAnew (n : Nat) (σ : St) (x1 : Int) (x2 : Int) : Option (Int × St) := b2 (fX6_element n σ x1 x2) (fun v2 σ1 => some (v2, σ1))
noncomputable def fX6_letter_J15 (n : Nat) (σ : St) (x1 : Int) (x2 : Int) (t0 : Int) : Option (Int × St) := pf σ 230 0 t0 (fun σ3 => if σ3 230 0 ≤ 0 then (b1 (fX6_seenAt n σ3 x2) (fun v4 => rd σ3 237 160 v4 (fun v5 => vl (v5 % 65536) (fun v6 => some (v6, σ3))))) else (rc 0 ( some (0, σ3))))
noncomputable def fX6_letter (n : Nat) (σ : St) (x1 : Int) (x2 : Int) : Option (Int × St) := b2 (fX6_isPlace n σ x1 x2) (fun v2 σ1 => if v2 = 0 then (fX6_letter_J15 n σ1 x1 x2 1) else (fX6_letter_J15 n σ1 x1 x2 0))
noncomputable def fX6_proposed_J127 (n : Nat) (σ : St) (x1 : Int) (x2 : Int) (x4 : Int) (t0 : Int) : Option (Int × St) := if x4 = 0 then (ck (t0 + 0) (fun v17 => some (v17, σ))) else (ck (t0 + 2) (fun v18 => some (v18, σ)))
noncomputable def fX6_proposed_L39s (n : Nat) (σ : St) (x1 : Int) (x2 : Int) (x3 : Int) (lp39 : (Int → Int → Option (Int × St))) : Int → Int → Option (Int × St) := fun x4 x5 => if σ 230 29 ≤ x5 then (rd σ 265 160 x3 (fun v5 => if v5 ≠ 1 then (fX6_proposed_J127 n σ x1 x2 x4 0) else (fX6_proposed_J127 n σ x1 x2 x4 1))) else (if x4 ≠ 0 then (ck (x5 + 1) (fun v6 => lp39 1 v6)) else (rd σ 261 160 x5 (fun v7 => rd σ 235 160 v7 (fun v8 => if v8 ≠ 2 then (ck (x5 + 1) (fun v9 => lp39 0 v9)) else (rd σ 261 160 x5 (fun v10 => rd σ 236 160 v10 (fun v11 => if v11 ≠ x3 then (ck (x5 + 1) (fun v12 => lp39 0 v12)) else (rd σ 261 160 x5 (fun v13 => b1 (fX6_isOpen σ v13) (fun v14 => if v14 = 0 then (ck (x5 + 1) (fun v15 => lp39 0 v15)) else (ck (x5 + 1) (fun v16 => lp39 1 v16))))))))))))
noncomputable def fX6_proposed_L39 (n : Nat) (σ : St) (x1 : Int) (x2 : Int) (x3 : Int) (k : Nat) : Int → Int → Option (Int × St) := lpR (fun _ _ => none) (fX6_proposed_L39s n σ x1 x2 x3) k
noncomputable def fX6_proposed_J15 (n : Nat) (σ : St) (x1 : Int) (x2 : Int) (t0 : Int) : Option (Int × St) := pf σ 230 0 t0 (fun σ3 => if σ3 230 0 ≤ 0 then (b1 (fX6_seenAt n σ3 x2) (fun v4 => fX6_proposed_L39 n σ3 x1 x2 v4 n 0 0)) else (some (0, σ3)))
noncomputable def fX6_proposed (n : Nat) (σ : St) (x1 : Int) (x2 : Int) : Option (Int × St) := b2 (fX6_isPlace n σ x1 x2) (fun v2 σ1 => if v2 = 0 then (fX6_proposed_J15 n σ1 x1 x2 1) else (fX6_proposed_J15 n σ1 x1 x2 0))
noncomputable def fX6_open_L27s (n : Nat) (σ : St) (x1 : Int) (lp27 : (Int → Int → Option (Int × St))) : Int → Int → Option (Int × St) := fun x2 x3 => if σ 230 29 ≤ x3 then (some (x2, σ)) else (rd σ 261 160 x3 (fun v6 => b1 (fX6_isOpen σ v6) (fun v7 => if v7 = 0 then (ck (x2 + 0) (fun v8 => ck (x3 + 1) (fun v9 => lp27 v8 v9))) else (ck (x2 + 1) (fun v10 => ck (x3 + 1) (fun v11 => lp27 v10 v11))))))
noncomputable def fX6_open_L27 (n : Nat) (σ : St) (x1 : Int) (k : Nat) : Int → Int → Option (Int × St) := lpR (fun _ _ => none) (fX6_open_L27s n σ x1) k
noncomputable def fX6_open (n : Nat) (σ : St) (x1 : Int) : Option (Int × St) := b1 (fX6_isSite x1) (fun v1 => if v1 ≠ 0 then (pf σ 230 0 0 (fun σ2 => b1 (fX6_findsSite n σ2 x1) (fun σ3 => fX6_open_L27 n σ3 x1 n 0 0))) else (b2 (fX6_fails σ 1) (fun v5 σ4 => some (v5, σ4))))
noncomputable def fX6_isMarked_J28 (n : Nat) (σ : St) (x1 : Int) (x2 : Int) (x3 : Int) (t0 : Int) : Option (Int × St) := pf σ 230 0 t0 (fun σ4 => if σ4 230 0 ≠ 0 then (some (0, σ4)) else (b1 (fX6_seenAt n σ4 x2) (fun v5 => rd σ4 267 160 v5 (fun v6 => vl (bshr v6 x3) (fun v7 => vl (band v7 1) (fun v8 => if v8 ≠ 1 then (some (0, σ4)) else (some (1, σ4))))))))
noncomputable def fX6_isMarked (n : Nat) (σ : St) (x1 : Int) (x2 : Int) (x3 : Int) : Option (Int × St) := b2 (fX6_isPlace n σ x1 x2) (fun v2 σ1 => if v2 ≠ 0 then (b1 (fX6_isIn x3 0 1) (fun v3 => if v3 = 0 then (fX6_isMarked_J28 n σ1 x1 x2 x3 2) else (fX6_isMarked_J28 n σ1 x1 x2 x3 0))) else (fX6_isMarked_J28 n σ1 x1 x2 x3 1))
noncomputable def fX6_covered_L57s (n : Nat) (σ : St) (x1 : Int) (x2 : Int) (lp57 : (Int → Int → Option (Int × St))) : Int → Int → Option (Int × St) := fun x3 x4 => if σ 230 32 ≤ x4 then (some (x3, σ)) else (rd σ 264 160 x4 (fun v6 => b1 (fX6_isSeen σ v6) (fun v7 => if v7 = 0 then (ck (x3 + 0) (fun v8 => ck (x4 + 1) (fun v9 => lp57 v8 v9))) else (rd σ 264 160 x4 (fun v10 => rd σ 268 160 v10 (fun v11 => rd σ 242 160 x2 (fun v12 => vl (bshr v11 v12) (fun v13 => vl (band v13 1) (fun v14 => if v14 ≠ 1 then (ck (x3 + 0) (fun v15 => ck (x4 + 1) (fun v16 => lp57 v15 v16))) else (ck (x3 + 1) (fun v17 => ck (x4 + 1) (fun v18 => lp57 v17 v18))))))))))))
noncomputable def fX6_covered_L57 (n : Nat) (σ : St) (x1 : Int) (x2 : Int) (k : Nat) : Int → Int → Option (Int × St) := lpR (fun _ _ => none) (fX6_covered_L57s n σ x1 x2) k
noncomputable def fX6_covered_J22 (n : Nat) (σ : St) (x1 : Int) (x2 : Int) (t0 : Int) : Option (Int × St) := pf σ 230 0 t0 (fun σ3 => if σ3 230 0 ≤ 0 then (rd σ3 235 160 x2 (fun v4 => if v4 = 7 then (b1 (fX6_findsSite n σ3 x1) (fun σ5 => fX6_covered_L57 n σ5 x1 x2 n 0 0)) else (some ((-1), σ3)))) else (some (0, σ3)))
noncomputable def fX6_covered_J21 (n : Nat) (σ : St) (x1 : Int) (x2 : Int) : Option (Int × St) := fX6_covered_J22 n σ x1 x2 1
noncomputable def fX6_covered (n : Nat) (σ : St) (x1 : Int) (x2 : Int) : Option (Int × St) := b1 (fX6_isSite x1) (fun v1 => if v1 = 0 then (fX6_covered_J21 n σ x1 x2) else (b1 (fX6_hasAct σ x1 x2) (fun v2 => if v2 = 0 then (fX6_covered_J21 n σ x1 x2) else (fX6_covered_J22 n σ x1 x2 0))))
noncomputable def fX6_blocks (n : Nat) (σ : St) (x1 : Int) : Option (Int × St) := b1 (fX6_isSite x1) (fun v1 => if v1 ≠ 0 then (pf σ 230 0 0 (fun σ2 => b1 (fX6_findsSite n σ2 x1) (fun σ3 => b1 (fX6_shownBlocks n σ3) (fun v4 => some (v4, σ3))))) else (b2 (fX6_fails σ 1) (fun v6 σ5 => some (v6, σ5))))
noncomputable def fX6_kind_J15 (n : Nat) (σ : St) (x1 : Int) (x2 : Int) (t0 : Int) : Option (Int × St) := pf σ 230 0 t0 (fun σ3 => if σ3 230 0 ≤ 0 then (b1 (fX6_blockNumber n σ3 x2) (fun v4 => ck (v4 + 1) (fun v5 => rd σ3 270 161 v5 (fun v6 => some (v6, σ3))))) else (some (0, σ3)))
noncomputable def fX6_kind (n : Nat) (σ : St) (x1 : Int) (x2 : Int) : Option (Int × St) := b2 (fX6_isBlock n σ x1 x2) (fun v2 σ1 => if v2 = 0 then (fX6_kind_J15 n σ1 x1 x2 1) else (fX6_kind_J15 n σ1 x1 x2 0))
noncomputable def fX6_depth_J84 (n : Nat) (lp43 : (Int → Int → Option (Int × St))) (σ : St) (x1 : Int) (x2 : Int) (x4 : Int) (t0 : Int) (t1 : Int) : Option (Int × St) := ck (t1 + t0) (fun v9 => ck (x4 + 1) (fun v10 => rd σ 271 161 v10 (fun v11 => lp43 v9 v11)))
noncomputable def fX6_depth_J79 (n : Nat) (lp43 : (Int → Int → Option (Int × St))) (σ : St) (x1 : Int) (x2 : Int) (x4 : Int) (t0 : Int) : Option (Int × St) := fX6_depth_J84 n lp43 σ x1 x2 x4 1 t0
noncomputable def fX6_depth_J83 (n : Nat) (lp43 : (Int → Int → Option (Int × St))) (σ : St) (x1 : Int) (x2 : Int) (x4 : Int) (t0 : Int) : Option (Int × St) := fX6_depth_J84 n lp43 σ x1 x2 x4 0 t0
noncomputable def fX6_depth_L43s (n : Nat) (σ : St) (x1 : Int) (x2 : Int) (lp43 : (Int → Int → Option (Int × St))) : Int → Int → Option (Int × St) := fun x3 x4 => if x4 = (-2) then (some (x3, σ)) else (if x4 = (-1) then (fX6_depth_J79 n lp43 σ x1 x2 x4 x3) else (b1 (fX6_spot n σ x4) (fun v7 => if σ 230 32 ≤ v7 then (fX6_depth_J83 n lp43 σ x1 x2 x4 x3) else (b1 (fX6_isShown σ x4) (fun v8 => if v8 = 0 then (fX6_depth_J83 n lp43 σ x1 x2 x4 x3) else (fX6_depth_J79 n lp43 σ x1 x2 x4 x3))))))
noncomputable def fX6_depth_L43 (n : Nat) (σ : St) (x1 : Int) (x2 : Int) (k : Nat) : Int → Int → Option (Int × St) := lpR (fun _ _ => none) (fX6_depth_L43s n σ x1 x2) k
noncomputable def fX6_depth_J15 (n : Nat) (σ : St) (x1 : Int) (x2 : Int) (t0 : Int) : Option (Int × St) := pf σ 230 0 t0 (fun σ3 => if σ3 230 0 ≤ 0 then (b1 (fX6_blockNumber n σ3 x2) (fun v4 => ck (v4 + 1) (fun v5 => rd σ3 271 161 v5 (fun v6 => fX6_depth_L43 n σ3 x1 x2 n 0 v6)))) else (some (0, σ3)))
noncomputable def fX6_depth (n : Nat) (σ : St) (x1 : Int) (x2 : Int) : Option (Int × St) := b2 (fX6_isBlock n σ x1 x2) (fun v2 σ1 => if v2 = 0 then (fX6_depth_J15 n σ1 x1 x2 1) else (fX6_depth_J15 n σ1 x1 x2 0))
noncomputable def fX6_level_J15 (n : Nat) (σ : St) (x1 : Int) (x2 : Int) (t0 : Int) : Option (Int × St) := pf σ 230 0 t0 (fun σ3 => if σ3 230 0 ≤ 0 then (b1 (fX6_blockNumber n σ3 x2) (fun v4 => b1 (fX6_levelIn σ3 x1 v4) (fun v5 => some (v5, σ3)))) else (some (0, σ3)))
noncomputable def fX6_level (n : Nat) (σ : St) (x1 : Int) (x2 : Int) : Option (Int × St) := b2 (fX6_isBlock n σ x1 x2) (fun v2 σ1 => if v2 = 0 then (fX6_level_J15 n σ1 x1 x2 1) else (fX6_level_J15 n σ1 x1 x2 0))
noncomputable def fX6_cursor (n : Nat) (σ : St) (x1 : Int) : Option (Int × St) := b1 (fX6_isSite x1) (fun v1 => if v1 ≠ 0 then (pf σ 230 0 0 (fun σ2 => b1 (fX6_findsSite n σ2 x1) (fun σ3 => rd σ3 248 4 x1 (fun v4 => b1 (fX6_placeOf n σ3 v4) (fun v5 => some (v5, σ3)))))) else (b2 (fX6_fails σ 1) (fun v7 σ6 => some (v7, σ6))))
noncomputable def fX6_tail (n : Nat) (σ : St) (x1 : Int) : Option (Int × St) := b1 (fX6_isSite x1) (fun v1 => if v1 ≠ 0 then (pf σ 230 0 0 (fun σ2 => b1 (fX6_findsSite n σ2 x1) (fun σ3 => rd σ3 249 4 x1 (fun v4 => b1 (fX6_placeOf n σ3 v4) (fun v5 => some (v5, σ3)))))) else (b2 (fX6_fails σ 1) (fun v7 σ6 => some (v7, σ6))))
noncomputable def fX6_graves (n : Nat) (σ : St) (x1 : Int) : Option (Int × St) := b1 (fX6_isSite x1) (fun v1 => if v1 ≠ 0 then (pf σ 230 0 0 (fun σ2 => b1 (fX6_findsSite n σ2 x1) (fun σ3 => b1 (fX6_seen n σ3) (fun v4 => ck ((σ3 230 32) - v4) (fun v5 => some (v5, σ3)))))) else (b2 (fX6_fails σ 1) (fun v7 σ6 => some (v7, σ6))))
noncomputable def fX6_buried_L92s (n : Nat) (lp25 : (St → Int → Option (Int × St))) (x1 : Int) (x2 : Int) (lp92 : (St → Int → Option (Int × St))) : St → Int → Option (Int × St) := fun σ x3 => if 4 ≤ x3 then (ck (x2 + 1) (fun v22 => lp25 σ v22)) else (rd σ 275 160 x2 (fun v23 => if v23 = 0 then (ck (x2 + 1) (fun v24 => lp25 σ v24)) else (b1 (fX6_knowsOf n σ x1 x3 x2) (fun v25 => wrb σ 275 160 x2 v25 (fun σ26 => ck (x3 + 1) (fun v27 => lp92 σ26 v27))))))
noncomputable def fX6_buried_L92 (n : Nat) (lp25 : (St → Int → Option (Int × St))) (x1 : Int) (x2 : Int) (k : Nat) : St → Int → Option (Int × St) := lpR (fun _ _ => none) (fX6_buried_L92s n lp25 x1 x2) k
noncomputable def fX6_buried_J70 (n : Nat) (lp25 : (St → Int → Option (Int × St))) (σ : St) (x1 : Int) (x2 : Int) (t0 : Int) (t1 : Int) : Option (Int × St) := wrb σ 273 160 t1 t0 (fun σ19 => if σ19 230 1 ≤ x2 then (wrb σ19 275 160 x2 0 (fun σ20 => fX6_buried_L92 n lp25 x1 x2 n σ20 0)) else (wrb σ19 275 160 x2 1 (fun σ21 => fX6_buried_L92 n lp25 x1 x2 n σ21 0)))
noncomputable def fX6_buried_J69 (n : Nat) (lp25 : (St → Int → Option (Int × St))) (σ : St) (x1 : Int) (x2 : Int) (t0 : Int) : Option (Int × St) := fX6_buried_J70 n lp25 σ x1 x2 0 t0
noncomputable def fX6_buried_L144s (n : Nat) (σ : St) (x1 : Int) (lp144 : (Int → Int → Option (Int × St))) : Int → Int → Option (Int × St) := fun x2 x3 => if σ 230 32 ≤ x3 then (some (x2, σ)) else (rd σ 264 160 x3 (fun v9 => rd σ 273 160 v9 (fun v10 => if v10 = 0 then (ck (x2 + 0) (fun v11 => ck (x3 + 1) (fun v12 => lp144 v11 v12))) else (rd σ 264 160 x3 (fun v13 => b1 (fX6_isSeen σ v13) (fun v14 => if v14 ≠ 0 then (ck (x2 + 0) (fun v15 => ck (x3 + 1) (fun v16 => lp144 v15 v16))) else (ck (x2 + 1) (fun v17 => ck (x3 + 1) (fun v18 => lp144 v17 v18)))))))))
noncomputable def fX6_buried_L144 (n : Nat) (σ : St) (x1 : Int) (k : Nat) : Int → Int → Option (Int × St) := lpR (fun _ _ => none) (fX6_buried_L144s n σ x1) k
noncomputable def fX6_buried_L25s (n : Nat) (x1 : Int) (lp25 : (St → Int → Option (Int × St))) : St → Int → Option (Int × St) := fun σ x2 => if 160 ≤ x2 then (b1 (fX6_finds n σ 275 0) (fun σ6 => fX6_buried_L144 n σ6 x1 n 0 0)) else (if σ 230 1 ≤ x2 then (fX6_buried_J69 n lp25 σ x1 x2 x2) else (b1 (fX6_spot n σ x2) (fun v7 => if σ 230 32 ≤ v7 then (fX6_buried_J69 n lp25 σ x1 x2 x2) else (b1 (fX6_isSeen σ x2) (fun v8 => if v8 ≠ 0 then (fX6_buried_J69 n lp25 σ x1 x2 x2) else (fX6_buried_J70 n lp25 σ x1 x2 1 x2))))))
noncomputable def fX6_buried_L25 (n : Nat) (x1 : Int) (k : Nat) : St → Int → Option (Int × St) := lpR (fun _ _ => none) (fX6_buried_L25s n x1) k
noncomputable def fX6_buried (n : Nat) (σ : St) (x1 : Int) : Option (Int × St) := b1 (fX6_isSite x1) (fun v1 => if v1 ≠ 0 then (pf σ 230 0 0 (fun σ2 => b1 (fX6_findsSite n σ2 x1) (fun σ3 => fX6_buried_L25 n x1 n σ3 0))) else (b2 (fX6_fails σ 1) (fun v5 σ4 => some (v5, σ4))))
noncomputable def fX6_acts (σ : St) : Option (Int × St) := pf σ 230 0 0 (fun σ1 => some (σ1 230 1, σ1))
noncomputable def fX6_has (σ : St) (x1 : Int) : Option (Int × St) := pf σ 230 0 0 (fun σ1 => b1 (fX6_isSite x1) (fun v2 => if v2 = 0 then (b2 (fX6_fails σ1 1) (fun v4 σ3 => some (v4, σ3))) else (rd σ1 245 4 x1 (fun v5 => some (v5, σ1)))))
noncomputable def fX6_actAt_J29 (n : Nat) (σ : St) (x1 : Int) (x2 : Int) (t0 : Int) : Option (Int × St) := pf σ 230 0 t0 (fun σ5 => if σ5 230 0 ≤ 0 then (ck (160 * x1) (fun v6 => b1 (fX6_orders n σ5 243 v6) (fun σ7 => rd σ7 261 160 x2 (fun v8 => some (v8, σ7))))) else (some (0, σ5)))
noncomputable def fX6_actAt_J28 (n : Nat) (σ : St) (x1 : Int) (x2 : Int) : Option (Int × St) := fX6_actAt_J29 n σ x1 x2 1
noncomputable def fX6_actAt (n : Nat) (σ : St) (x1 : Int) (x2 : Int) : Option (Int × St) := b1 (fX6_isSite x1) (fun v1 => if v1 = 0 then (fX6_actAt_J28 n σ x1 x2) else (rd σ 245 4 x1 (fun v2 => ck (v2 - 1) (fun v3 => b1 (fX6_isIn x2 0 v3) (fun v4 => if v4 = 0 then (fX6_actAt_J28 n σ x1 x2) else (fX6_actAt_J29 n σ x1 x2 0))))))
noncomputable def fX6_act (σ : St) (x1 : Int) : Option (Int × St) := pf σ 230 0 0 (fun σ1 => ck ((σ1 230 1) - 1) (fun v2 => b1 (fX6_isIn x1 0 v2) (fun v3 => if v3 = 0 then (b2 (fX6_fails σ1 1) (fun v5 σ4 => some (v5, σ4))) else (rd σ1 234 160 x1 (fun v6 => ck (1000 * v6) (fun v7 => rd σ1 233 160 x1 (fun v8 => ck (100 * v8) (fun v9 => ck (v7 + v9) (fun v10 => rd σ1 235 160 x1 (fun v11 => ck (v10 + v11) (fun v12 => some (v12, σ1))))))))))))
noncomputable def fX6_isUndone_J22 (n : Nat) (σ : St) (x1 : Int) (x2 : Int) (t0 : Int) : Option (Int × St) := pf σ 230 0 t0 (fun σ3 => if σ3 230 0 ≤ 0 then (ck (160 * x1) (fun v4 => b1 (fX6_orders n σ3 243 v4) (fun σ5 => rd σ5 262 160 x2 (fun v6 => rb v6 ( some (v6, σ5)))))) else (some (0, σ3)))
noncomputable def fX6_isUndone_J21 (n : Nat) (σ : St) (x1 : Int) (x2 : Int) : Option (Int × St) := fX6_isUndone_J22 n σ x1 x2 1
noncomputable def fX6_isUndone (n : Nat) (σ : St) (x1 : Int) (x2 : Int) : Option (Int × St) := b1 (fX6_isSite x1) (fun v1 => if v1 = 0 then (fX6_isUndone_J21 n σ x1 x2) else (b1 (fX6_hasAct σ x1 x2) (fun v2 => if v2 = 0 then (fX6_isUndone_J21 n σ x1 x2) else (fX6_isUndone_J22 n σ x1 x2 0))))
set_option maxRecDepth 100000 in
set_option maxHeartbeats 4000000 in
theorem ok_X6_name {l : Launch} {D : va_G} {cy : Nat → ClassId} {ad : Nat → Nat} {nm nv sz : Nat} {σ : St} {n : Nat} {x1 : Int} {r : Int} {σ2 : St} (hx1 : inR x1) (hf : fX6_name n σ x1 = some (r, σ2)) : CI l yX6_name cX6_name 3 (some .int) ({ frames := 2, cells := 0, slots := 0, locals := 42 } : Room) [.ref (ad 230), .int (i32 x1)] D cy ad nm nv sz σ false r σ2 := by
  refine m_entry RX6 rfl (by decide +kernel) (Nat.le_of_ble_eq_true rfl) ?_
  intro p e s m args below meth c Q hQ hr hlocks X hW hS ls hl
  have hx := X.1
  have hb := X.2.1
  have hl : lv_has ls 3 [(0, .ref (ad 230)), (1, .int (i32 x1))] := hl
  unfold fX6_name at hf
  have hc40 : ∀ (k40 : Nat) (σ : St) (H : Heap) (locs : List Loc) (ls : Array Slot) (x2 : Int), inR x2 → fX6_name_L40 n x1 k40 σ x2 = some (r, σ2) → Wd D cy ad nm nv σ H → va_S (AW ad nm nv sz) s.heap H locs → lv_has ls 3 [(0, .ref (ad 230)), (1, .int (i32 x1)), (2, .int (i32 x2))] → W p l e ({ frames := 2, cells := 0, slots := 0, locals := 42 } : Room) s m args below meth c H locs 0 0 Q (F0 m 40 ls []) := by
    intro k40
    induction k40 with
    | zero =>
      intro σ H locs ls x2 hx2 hf
      have hf : (none : Option (Int × St)) = some (r, σ2) := hf
      cases hf
    | succ k40 ih40 =>
      intro σ H locs ls x2 hx2 hf hW hS hl
      have hf : fX6_name_L40s n x1 (fX6_name_L40 n x1 k40) σ x2 = some (r, σ2) := hf
      unfold fX6_name_L40s at hf
      refine lv_iload_n hx hb dX6_name_40 rfl (lv_at hl 2 rfl) ?_
      refine m_sipush (v := 160) hx hb dX6_name_41 (by decide) ?_
      refine m_icmp_ge (tgt := 80) hx hb hx2 (by decide) hf dX6_name_44 (by decide) (fun hf => ?_) (fun hf => ?_)
      · skip
        refine lv_aload_n hx hb dX6_name_80 rfl (lv_at hl 0 rfl) ?_
        refine lv_dup hx hb dX6_name_81 rfl ?_
        refine g_X6_versionMany X hW (X.2.2.2.2.1 _ mw1072) dX6_name_82 ?_
        refine m_const (v := 1) hx hb dX6_name_85 rfl ?_
        refine m_iadd hx hb hf dX6_name_86 (fun v3 hv3 hf => ?_)
        refine p_X6_versionMany X hW hS hv3 hf (X.2.2.2.2.1 _ mw1072) dX6_name_87 (fun σ4 H locs hW4 hS4 hf => ?_)
        refine lv_aload_n hx hb dX6_name_90 rfl (lv_at hl 0 rfl) ?_
        refine g_X6_versionMany X hW4 (X.2.2.2.2.1 _ mw1072) dX6_name_91 ?_
        refine m_const (v := 1) hx hb dX6_name_94 rfl ?_
        refine m_isub hx hb hf dX6_name_95 (fun v5 hv5 hf => ?_)
        exact m_ireti X hr hlocks rfl hv5 (fun h => Bool.noConfusion h) hW4 hS4 (congrArg Prod.fst (Option.some.inj hf)) (congrArg Prod.snd (Option.some.inj hf)) hQ dX6_name_96
      · skip
        refine lv_aload_n hx hb dX6_name_47 rfl (lv_at hl 0 rfl) ?_
        refine g_X6_versions X hW (X.2.2.2.2.1 _ mw1073) dX6_name_48 ?_
        refine m_sipush (v := 160) hx hb dX6_name_51 (by decide) ?_
        refine lv_aload_n hx hb dX6_name_54 rfl (lv_at hl 0 rfl) ?_
        refine g_X6_versionMany X hW (X.2.2.2.2.1 _ mw1072) dX6_name_55 ?_
        refine m_imul hx hb hf dX6_name_58 (fun v6 hv6 hf => ?_)
        refine lv_iload_n hx hb dX6_name_59 rfl (lv_at hl 2 rfl) ?_
        refine m_iadd hx hb hf dX6_name_60 (fun v7 hv7 hf => ?_)
        refine lv_aload_n hx hb dX6_name_61 rfl (lv_at hl 0 rfl) ?_
        refine g_X6_has X hW (X.2.2.2.2.1 _ mw1058) dX6_name_62 ?_
        refine m_sipush (v := 160) hx hb dX6_name_65 (by decide) ?_
        refine lv_iload_n hx hb dX6_name_68 rfl (lv_at hl 1 rfl) ?_
        refine m_imul hx hb hf dX6_name_69 (fun v8 hv8 hf => ?_)
        refine lv_iload_n hx hb dX6_name_70 rfl (lv_at hl 2 rfl) ?_
        refine m_iadd hx hb hf dX6_name_71 (fun v9 hv9 hf => ?_)
        refine m_zald X hW a_X6_has hv9 hf dX6_name_72 (fun v10 hv10 hf => ?_)
        refine m_zast X hW hS a_X6_versions hv7 hv10 hf dX6_name_73 (fun σ11 H locs hW11 hS11 hf => ?_)
        refine m_iinc (k0 := 2) (fun v12 => [(2, .int (i32 v12)), (0, .ref (ad 230)), (1, .int (i32 x1))]) hx hb hf dX6_name_74 hl rfl (by decide) (fun _ => rfl) (fun v12 ls hv12 hf hl => ?_)
        have hl : lv_has ls 3 [(2, .int (i32 v12)), (0, .ref (ad 230)), (1, .int (i32 x1))] := hl
        refine lv_goto (tgt := 40) hx hb dX6_name_77 (by decide) ?_
        exact ih40 _ _ _ _ v12 hv12 hf hW11 hS11 (lv_sub hl [1, 2, 0] rfl)
  have hc26 : ∀ (σ : St) (H : Heap) (locs : List Loc) (ls : Array Slot) (t0 : Int), inR t0 → fX6_name_J26 n σ x1 t0 = some (r, σ2) → Wd D cy ad nm nv σ H → va_S (AW ad nm nv sz) s.heap H locs → lv_has ls 3 [(0, .ref (ad 230)), (1, .int (i32 x1))] → W p l e ({ frames := 2, cells := 0, slots := 0, locals := 42 } : Room) s m args below meth c H locs 0 0 Q (F0 m 26 ls [.int (i32 t0), .ref (ad 230)]) := by
    intro σ H locs ls t0 ht0 hf hW hS hl
    unfold fX6_name_J26 at hf
    refine p_X6_thrown X hW hS ht0 hf (X.2.2.2.2.1 _ mw1046) dX6_name_26 (fun σ2 H locs hW2 hS2 hf => ?_)
    refine lv_aload_n hx hb dX6_name_29 rfl (lv_at hl 0 rfl) ?_
    refine g_X6_thrown X hW2 (X.2.2.2.2.1 _ mw1046) dX6_name_30 ?_
    refine m_if_le (tgt := 38) hx hb (hW2.2.1 _ _) hf dX6_name_33 (by decide) (fun hf => ?_) (fun hf => ?_)
    · skip
      refine m_const (v := 0) hx hb dX6_name_38 rfl ?_
      refine lv_istore_n (lv' := [(2, .int (i32 0)), (0, .ref (ad 230)), (1, .int (i32 x1))]) hx hb dX6_name_39 rfl hl (by decide) rfl (fun ls hl => ?_)
      exact hc40 n _ _ _ _ 0 (by decide) hf hW2 hS2 (lv_sub hl [1, 2, 0] rfl)
    · skip
      refine m_const (v := 0) hx hb dX6_name_36 rfl ?_
      exact m_ireti X hr hlocks rfl (by decide) (fun h => Bool.noConfusion h) hW2 hS2 (congrArg Prod.fst (Option.some.inj hf)) (congrArg Prod.snd (Option.some.inj hf)) hQ dX6_name_37
  refine lv_aload_n hx hb dX6_name_0 rfl (lv_at hl 0 rfl) ?_
  refine lv_iload_n hx hb dX6_name_1 rfl (lv_at hl 1 rfl) ?_
  refine m_callSi1 (z := true) (As := [.int (i32 x1)]) (rest := [.ref (ad 230)]) X hW hS hl.1 gc_X6_215 hd_X6_isSite ⟨rfl, rfl, Nat.le_of_ble_eq_true rfl, Nat.le_of_ble_eq_true rfl⟩ (fun v q => ok_X6_isSite hx1 q) hf rfl rfl (Nat.le_of_ble_eq_true rfl) dX6_name_2 ⟨Nat.le_of_ble_eq_true rfl, Nat.le_of_ble_eq_true rfl⟩ (fun v1 H locs hv1 zv1 hWv1 hSv1 hf => ?_)
  refine m_if_ne (tgt := 12) hx hb hv1 hf dX6_name_5 (by decide) (fun hf => ?_) (fun hf => ?_)
  · skip
    refine lv_aload_n hx hb dX6_name_12 rfl (lv_at hl 0 rfl) ?_
    refine g_X6_versionMany X hWv1 (X.2.2.2.2.1 _ mw1072) dX6_name_13 ?_
    refine m_bipush (v := 10) hx hb dX6_name_16 (by decide) ?_
    refine m_icmp_ne (tgt := 25) hx hb (hWv1.2.1 _ _) (by decide) hf dX6_name_18 (by decide) (fun hf => ?_) (fun hf => ?_)
    · skip
      refine m_const (v := 0) hx hb dX6_name_25 rfl ?_
      exact hc26 _ _ _ _ 0 (by decide) hf hWv1 hSv1 (lv_sub hl [0, 1] rfl)
    · skip
      refine m_const (v := 2) hx hb dX6_name_21 rfl ?_
      refine lv_goto (tgt := 26) hx hb dX6_name_22 (by decide) ?_
      exact hc26 _ _ _ _ 2 (by decide) hf hWv1 hSv1 (lv_sub hl [0, 1] rfl)
  · skip
    refine m_const (v := 1) hx hb dX6_name_8 rfl ?_
    refine lv_goto (tgt := 26) hx hb dX6_name_9 (by decide) ?_
    exact hc26 _ _ _ _ 1 (by decide) hf hWv1 hSv1 (lv_sub hl [0, 1] rfl)
set_option maxRecDepth 100000 in
set_option maxHeartbeats 4000000 in
theorem ok_X6_isVersion {l : Launch} {D : va_G} {cy : Nat → ClassId} {ad : Nat → Nat} {nm nv sz : Nat} {σ : St} {x1 : Int} {r : Int} (hx1 : inR x1) (hf : fX6_isVersion σ x1 = some r) : CI l yX6_isVersion cX6_isVersion 2 (some .boolean) ({ frames := 1, cells := 0, slots := 0, locals := 22 } : Room) [.ref (ad 230), .int (i32 x1)] D cy ad nm nv sz σ true r σ := by
  refine m_entry RX6 rfl (by decide +kernel) (Nat.le_of_ble_eq_true rfl) ?_
  intro p e s m args below meth c Q hQ hr hlocks X hW hS ls hl
  have hx := X.1
  have hb := X.2.1
  have hl : lv_has ls 2 [(0, .ref (ad 230)), (1, .int (i32 x1))] := hl
  unfold fX6_isVersion at hf
  refine lv_iload_n hx hb dX6_isVersion_0 rfl (lv_at hl 1 rfl) ?_
  refine m_const (v := 0) hx hb dX6_isVersion_1 rfl ?_
  refine lv_aload_n hx hb dX6_isVersion_2 rfl (lv_at hl 0 rfl) ?_
  refine g_X6_versionMany X hW (X.2.2.2.2.1 _ mw1072) dX6_isVersion_3 ?_
  refine m_const (v := 1) hx hb dX6_isVersion_6 rfl ?_
  refine m_isub hx hb hf dX6_isVersion_7 (fun v1 hv1 hf => ?_)
  refine m_callSi1 (z := true) (As := [.int (i32 x1), .int (i32 0), .int (i32 v1)]) (rest := []) X hW hS hl.1 gc_X6_130 hd_X6_isIn ⟨rfl, rfl, Nat.le_of_ble_eq_true rfl, Nat.le_of_ble_eq_true rfl⟩ (fun v q => ok_X6_isIn hx1 (by decide) hv1 q) hf rfl rfl (Nat.le_of_ble_eq_true rfl) dX6_isVersion_8 ⟨Nat.le_of_ble_eq_true rfl, Nat.le_of_ble_eq_true rfl⟩ (fun v2 H locs hv2 zv2 hWv2 hSv2 hf => ?_)
  exact m_ireti X hr hlocks (nar_b (zv2 rfl)).1 hv2 (fun _ => (zv2 rfl)) hWv2 hSv2 (Option.some.inj hf) rfl hQ dX6_isVersion_11
set_option maxRecDepth 100000 in
set_option maxHeartbeats 4000000 in
theorem ok_X6_keeps {l : Launch} {D : va_G} {cy : Nat → ClassId} {ad : Nat → Nat} {nm nv sz : Nat} {σ : St} {n : Nat} {x1 : Int} {σ2 : St} (hx1 : inR x1) (hf : fX6_keeps n σ x1 = some σ2) : CV l yX6_keeps cX6_keeps 3 none ({ frames := 6, cells := 0, slots := 0, locals := 135 } : Room) [.ref (ad 230), .int (i32 x1)] D cy ad nm nv sz σ σ2 := by
  refine m_entry RX6 rfl (by decide +kernel) (Nat.le_of_ble_eq_true rfl) ?_
  intro p e s m args below meth c Q hQ hr hlocks X hW hS ls hl
  have hx := X.1
  have hb := X.2.1
  have hl : lv_has ls 3 [(0, .ref (ad 230)), (1, .int (i32 x1))] := hl
  unfold fX6_keeps at hf
  have hc37 : ∀ (k37 : Nat) (σ : St) (H : Heap) (locs : List Loc) (ls : Array Slot) (x2 : Int), inR x2 → fX6_keeps_L37 n x1 k37 σ x2 = some σ2 → Wd D cy ad nm nv σ H → va_S (AW ad nm nv sz) s.heap H locs → lv_has ls 3 [(0, .ref (ad 230)), (2, .int (i32 x2))] → W p l e ({ frames := 6, cells := 0, slots := 0, locals := 135 } : Room) s m args below meth c H locs 0 0 Q (F0 m 37 ls []) := by
    intro k37
    induction k37 with
    | zero =>
      intro σ H locs ls x2 hx2 hf
      have hf : (none : Option St) = some σ2 := hf
      cases hf
    | succ k37 ih37 =>
      intro σ H locs ls x2 hx2 hf hW hS hl
      have hf : fX6_keeps_L37s n x1 (fX6_keeps_L37 n x1 k37) σ x2 = some σ2 := hf
      unfold fX6_keeps_L37s at hf
      refine lv_iload_n hx hb dX6_keeps_37 rfl (lv_at hl 1 rfl) ?_
      refine lv_aload_n hx hb dX6_keeps_38 rfl (lv_at hl 0 rfl) ?_
      refine g_X6_rowMany X hW (X.2.2.2.2.1 _ mw1078) dX6_keeps_39 ?_
      refine m_icmp_ge (tgt := 72) hx hb hx2 (hW.2.1 _ _) hf dX6_keeps_42 (by decide) (fun hf => ?_) (fun hf => ?_)
      · skip
        exact m_vret X hr hlocks hW hS (Option.some.inj hf) hQ dX6_keeps_72
      · skip
        refine lv_aload_n hx hb dX6_keeps_45 rfl (lv_at hl 0 rfl) ?_
        refine g_X6_kept X hW (X.2.2.2.2.1 _ mw1088) dX6_keeps_46 ?_
        refine lv_aload_n hx hb dX6_keeps_49 rfl (lv_at hl 0 rfl) ?_
        refine g_X6_row X hW (X.2.2.2.2.1 _ mw1079) dX6_keeps_50 ?_
        refine lv_iload_n hx hb dX6_keeps_53 rfl (lv_at hl 1 rfl) ?_
        refine m_iald X hW a_X6_row hx2 hf dX6_keeps_54 (fun v5 hv5 hf => ?_)
        refine lv_aload_n hx hb dX6_keeps_55 rfl (lv_at hl 0 rfl) ?_
        refine lv_aload_n hx hb dX6_keeps_56 rfl (lv_at hl 0 rfl) ?_
        refine g_X6_row X hW (X.2.2.2.2.1 _ mw1079) dX6_keeps_57 ?_
        refine lv_iload_n hx hb dX6_keeps_60 rfl (lv_at hl 1 rfl) ?_
        refine m_iald X hW a_X6_row hx2 hf dX6_keeps_61 (fun v6 hv6 hf => ?_)
        refine m_callVi1 (z := true) (As := [.int (i32 v6)]) (rest := [.int (i32 v5), .ref (ad 273)]) X hW hS hl.1 gc_X6_147 hd_X6_isShown ⟨rfl, rfl, Nat.le_of_ble_eq_true rfl, Nat.le_of_ble_eq_true rfl⟩ (rc_X6 X hW) (fun v q => ok_X6_isShown hv6 q) hf rfl rfl (Nat.le_of_ble_eq_true rfl) dX6_keeps_62 ⟨Nat.le_of_ble_eq_true rfl, Nat.le_of_ble_eq_true rfl⟩ (fun v7 H locs hv7 zv7 hWv7 hSv7 hf => ?_)
        refine m_zast X hWv7 hSv7 a_X6_kept hv5 hv7 hf dX6_keeps_65 (fun σ8 H locs hW8 hS8 hf => ?_)
        refine m_iinc (k0 := 1) (fun v9 => [(2, .int (i32 v9)), (0, .ref (ad 230))]) hx hb hf dX6_keeps_66 hl rfl (by decide) (fun _ => rfl) (fun v9 ls hv9 hf hl => ?_)
        have hl : lv_has ls 3 [(2, .int (i32 v9)), (0, .ref (ad 230))] := hl
        refine lv_goto (tgt := 37) hx hb dX6_keeps_69 (by decide) ?_
        exact ih37 _ _ _ _ v9 hv9 hf hW8 hS8 (lv_sub hl [1, 0] rfl)
  have hc15 : ∀ (k15 : Nat) (σ : St) (H : Heap) (locs : List Loc) (ls : Array Slot) (x2 : Int), inR x2 → fX6_keeps_L15 n x1 k15 σ x2 = some σ2 → Wd D cy ad nm nv σ H → va_S (AW ad nm nv sz) s.heap H locs → lv_has ls 3 [(0, .ref (ad 230)), (2, .int (i32 x2))] → W p l e ({ frames := 6, cells := 0, slots := 0, locals := 135 } : Room) s m args below meth c H locs 0 0 Q (F0 m 15 ls []) := by
    intro k15
    induction k15 with
    | zero =>
      intro σ H locs ls x2 hx2 hf
      have hf : (none : Option St) = some σ2 := hf
      cases hf
    | succ k15 ih15 =>
      intro σ H locs ls x2 hx2 hf hW hS hl
      have hf : fX6_keeps_L15s n x1 (fX6_keeps_L15 n x1 k15) σ x2 = some σ2 := hf
      unfold fX6_keeps_L15s at hf
      refine lv_iload_n hx hb dX6_keeps_15 rfl (lv_at hl 1 rfl) ?_
      refine m_sipush (v := 160) hx hb dX6_keeps_16 (by decide) ?_
      refine m_icmp_ge (tgt := 35) hx hb hx2 (by decide) hf dX6_keeps_19 (by decide) (fun hf => ?_) (fun hf => ?_)
      · skip
        refine m_const (v := 0) hx hb dX6_keeps_35 rfl ?_
        refine lv_istore_n (lv' := [(2, .int (i32 0)), (0, .ref (ad 230))]) hx hb dX6_keeps_36 rfl hl (by decide) rfl (fun ls hl => ?_)
        exact hc37 n _ _ _ _ 0 (by decide) hf hW hS (lv_sub hl [1, 0] rfl)
      · skip
        refine lv_aload_n hx hb dX6_keeps_22 rfl (lv_at hl 0 rfl) ?_
        refine g_X6_kept X hW (X.2.2.2.2.1 _ mw1088) dX6_keeps_23 ?_
        refine lv_iload_n hx hb dX6_keeps_26 rfl (lv_at hl 1 rfl) ?_
        refine m_const (v := 0) hx hb dX6_keeps_27 rfl ?_
        refine m_zast X hW hS a_X6_kept hx2 (by decide) hf dX6_keeps_28 (fun σ3 H locs hW3 hS3 hf => ?_)
        refine m_iinc (k0 := 1) (fun v4 => [(2, .int (i32 v4)), (0, .ref (ad 230))]) hx hb hf dX6_keeps_29 hl rfl (by decide) (fun _ => rfl) (fun v4 ls hv4 hf hl => ?_)
        have hl : lv_has ls 3 [(2, .int (i32 v4)), (0, .ref (ad 230))] := hl
        refine lv_goto (tgt := 15) hx hb dX6_keeps_32 (by decide) ?_
        exact ih15 _ _ _ _ v4 hv4 hf hW3 hS3 (lv_sub hl [1, 0] rfl)
  refine lv_aload_n hx hb dX6_keeps_0 rfl (lv_at hl 0 rfl) ?_
  refine lv_aload_n hx hb dX6_keeps_1 rfl (lv_at hl 0 rfl) ?_
  refine g_X6_versions X hW (X.2.2.2.2.1 _ mw1073) dX6_keeps_2 ?_
  refine m_sipush (v := 160) hx hb dX6_keeps_5 (by decide) ?_
  refine lv_iload_n hx hb dX6_keeps_8 rfl (lv_at hl 1 rfl) ?_
  refine m_imul hx hb hf dX6_keeps_9 (fun v1 hv1 hf => ?_)
  refine m_callVv (As := [.ref (ad 258), .int (i32 v1)]) (rest := []) X hW hS hl.1 gc_X6_201 hd_X6_finds ⟨rfl, rfl, Nat.le_of_ble_eq_true rfl, Nat.le_of_ble_eq_true rfl⟩ (rc_X6 X hW) (fun v q => ok_X6_finds (arrL a_X6_versions) hv1 q) hf rfl rfl (Nat.le_of_ble_eq_true rfl) dX6_keeps_10 ⟨Nat.le_of_ble_eq_true rfl, Nat.le_of_ble_eq_true rfl⟩ (fun σ2 H locs hW2 hS2 hf => ?_)
  refine m_const (v := 0) hx hb dX6_keeps_13 rfl ?_
  refine lv_istore_n (lv' := [(2, .int (i32 0)), (0, .ref (ad 230)), (1, .int (i32 x1))]) hx hb dX6_keeps_14 rfl hl (by decide) rfl (fun ls hl => ?_)
  exact hc15 n _ _ _ _ 0 (by decide) hf hW2 hS2 (lv_sub hl [1, 0] rfl)
set_option maxRecDepth 100000 in
set_option maxHeartbeats 4000000 in
theorem ok_X6_bringBack {l : Launch} {D : va_G} {cy : Nat → ClassId} {ad : Nat → Nat} {nm nv sz : Nat} {σ : St} {n : Nat} {x1 : Int} {x2 : Int} {r : Int} {σ2 : St} (hx1 : inR x1) (hx2 : inR x2) (hf : fX6_bringBack n σ x1 x2 = some (r, σ2)) : CI l yX6_bringBack cX6_bringBack 7 (some .int) ({ frames := 7, cells := 0, slots := 0, locals := 157 } : Room) [.ref (ad 230), .int (i32 x1), .int (i32 x2)] D cy ad nm nv sz σ false r σ2 := by
  refine m_entry RX6 rfl (by decide +kernel) (Nat.le_of_ble_eq_true rfl) ?_
  intro p e s m args below meth c Q hQ hr hlocks X hW hS ls hl
  have hx := X.1
  have hb := X.2.1
  have hl : lv_has ls 7 [(0, .ref (ad 230)), (1, .int (i32 x1)), (2, .int (i32 x2))] := hl
  unfold fX6_bringBack at hf
  have hc274 : ∀ (σ : St) (H : Heap) (locs : List Loc) (ls : Array Slot) (x4 : Int), inR x4 → fX6_bringBack_J274 n σ x1 x2 x4 = some (r, σ2) → Wd D cy ad nm nv σ H → va_S (AW ad nm nv sz) s.heap H locs → lv_has ls 7 [(0, .ref (ad 230)), (4, .int (i32 x4))] → W p l e ({ frames := 7, cells := 0, slots := 0, locals := 157 } : Room) s m args below meth c H locs 0 0 Q (F0 m 274 ls []) := by
    intro σ H locs ls x4 hx4 hf hW hS hl
    unfold fX6_bringBack_J274 at hf
    refine lv_aload_n hx hb dX6_bringBack_274 rfl (lv_at hl 0 rfl) ?_
    refine g_X6_thrown X hW (X.2.2.2.2.1 _ mw1046) dX6_bringBack_275 ?_
    refine m_if_le (tgt := 285) hx hb (hW.2.1 _ _) hf dX6_bringBack_278 (by decide) (fun hf => ?_) (fun hf => ?_)
    · skip
      refine lv_iload hx hb dX6_bringBack_285 (lv_at hl 1 rfl) ?_
      exact m_ireti X hr hlocks rfl hx4 (fun h => Bool.noConfusion h) hW hS (congrArg Prod.fst (Option.some.inj hf)) (congrArg Prod.snd (Option.some.inj hf)) hQ dX6_bringBack_287
    · skip
      refine m_const (v := 0) hx hb dX6_bringBack_281 rfl ?_
      refine lv_goto (tgt := 287) hx hb dX6_bringBack_282 (by decide) ?_
      exact m_ireti X hr hlocks rfl (by decide) (fun h => Bool.noConfusion h) hW hS (congrArg Prod.fst (Option.some.inj hf)) (congrArg Prod.snd (Option.some.inj hf)) hQ dX6_bringBack_287
  have hc217 : ∀ (k217 : Nat) (σ : St) (H : Heap) (locs : List Loc) (ls : Array Slot) (x4 : Int) (x5 : Int), inR x4 → inR x5 → fX6_bringBack_L217 n x1 x2 x4 k217 σ x5 = some (r, σ2) → Wd D cy ad nm nv σ H → va_S (AW ad nm nv sz) s.heap H locs → lv_has ls 7 [(0, .ref (ad 230)), (1, .int (i32 x1)), (4, .int (i32 x4)), (5, .int (i32 x5))] → W p l e ({ frames := 7, cells := 0, slots := 0, locals := 157 } : Room) s m args below meth c H locs 0 0 Q (F0 m 217 ls []) := by
    intro k217
    induction k217 with
    | zero =>
      intro σ H locs ls x4 x5 hx4 hx5 hf
      have hf : (none : Option (Int × St)) = some (r, σ2) := hf
      cases hf
    | succ k217 ih217 =>
      intro σ H locs ls x4 x5 hx4 hx5 hf hW hS hl
      have hf : fX6_bringBack_L217s n x1 x2 x4 (fX6_bringBack_L217 n x1 x2 x4 k217) σ x5 = some (r, σ2) := hf
      unfold fX6_bringBack_L217s at hf
      have hc253 : ∀ (σ : St) (H : Heap) (locs : List Loc) (ls : Array Slot) (x4 : Int) (x5 : Int) (t0 : Int) (t1 : Int), inR x4 → inR x5 → inR t0 → inR t1 → fX6_bringBack_J253 n (fX6_bringBack_L217 n x1 x2 x4 k217) σ x1 x2 x4 x5 t0 t1 = some (r, σ2) → Wd D cy ad nm nv σ H → va_S (AW ad nm nv sz) s.heap H locs → lv_has ls 7 [(0, .ref (ad 230)), (1, .int (i32 x1)), (4, .int (i32 x4)), (5, .int (i32 x5))] → W p l e ({ frames := 7, cells := 0, slots := 0, locals := 157 } : Room) s m args below meth c H locs 0 0 Q (F0 m 253 ls [.int (i32 t0), .int (i32 t1), .ref (ad 230)]) := by
        intro σ H locs ls x4 x5 t0 t1 hx4 hx5 ht0 ht1 hf hW hS hl
        unfold fX6_bringBack_J253 at hf
        refine lv_aload_n hx hb dX6_bringBack_253 rfl (lv_at hl 0 rfl) ?_
        refine g_X6_erased X hW (X.2.2.2.2.1 _ mw1089) dX6_bringBack_254 ?_
        refine lv_iload hx hb dX6_bringBack_257 (lv_at hl 3 rfl) ?_
        refine m_iald X hW a_X6_erased hx5 hf dX6_bringBack_259 (fun v32 hv32 hf => ?_)
        refine m_const (v := 0) hx hb dX6_bringBack_260 rfl ?_
        refine m_const (v := 0) hx hb dX6_bringBack_261 rfl ?_
        refine m_const (v := 0) hx hb dX6_bringBack_262 rfl ?_
        refine m_const (v := 0) hx hb dX6_bringBack_263 rfl ?_
        refine m_callVi (z := false) (As := [.int (i32 t1), .int (i32 t0), .int (i32 v32), .int (i32 0), .int (i32 0), .int (i32 0), .int (i32 0)]) (rest := []) X hW hS hl.1 gc_X6_211 hd_X6_makes ⟨rfl, rfl, Nat.le_of_ble_eq_true rfl, Nat.le_of_ble_eq_true rfl⟩ (rc_X6 X hW) (fun v q9 q => ok_X6_makes ht1 ht0 hv32 (by decide) (by decide) (by decide) (by decide) q) hf rfl rfl (Nat.le_of_ble_eq_true rfl) dX6_bringBack_264 ⟨Nat.le_of_ble_eq_true rfl, Nat.le_of_ble_eq_true rfl⟩ (fun v34 σ33 H locs hv34 zv34 hW33 hS33 hf => ?_)
        refine lv_pop hx hb dX6_bringBack_267 rfl ?_
        refine m_iinc (k0 := 3) (fun v35 => [(5, .int (i32 v35)), (0, .ref (ad 230)), (1, .int (i32 x1)), (4, .int (i32 x4))]) hx hb hf dX6_bringBack_268 hl rfl (by decide) (fun _ => rfl) (fun v35 ls hv35 hf hl => ?_)
        have hl : lv_has ls 7 [(5, .int (i32 v35)), (0, .ref (ad 230)), (1, .int (i32 x1)), (4, .int (i32 x4))] := hl
        refine lv_goto (tgt := 217) hx hb dX6_bringBack_271 (by decide) ?_
        exact ih217 _ _ _ _ x4 v35 hx4 hv35 hf hW33 hS33 (lv_sub hl [1, 2, 3, 0] rfl)
      refine lv_iload hx hb dX6_bringBack_217 (lv_at hl 3 rfl) ?_
      refine lv_iload hx hb dX6_bringBack_219 (lv_at hl 2 rfl) ?_
      refine m_icmp_ge (tgt := 274) hx hb hx5 hx4 hf dX6_bringBack_221 (by decide) (fun hf => ?_) (fun hf => ?_)
      · skip
        exact hc274 _ _ _ _ x4 hx4 hf hW hS (lv_sub hl [0, 2] rfl)
      · skip
        refine lv_aload_n hx hb dX6_bringBack_224 rfl (lv_at hl 0 rfl) ?_
        refine g_X6_thrown X hW (X.2.2.2.2.1 _ mw1046) dX6_bringBack_225 ?_
        refine m_if_ne (tgt := 274) hx hb (hW.2.1 _ _) hf dX6_bringBack_228 (by decide) (fun hf => ?_) (fun hf => ?_)
        · skip
          exact hc274 _ _ _ _ x4 hx4 hf hW hS (lv_sub hl [0, 2] rfl)
        · skip
          refine lv_aload_n hx hb dX6_bringBack_231 rfl (lv_at hl 0 rfl) ?_
          refine lv_iload_n hx hb dX6_bringBack_232 rfl (lv_at hl 1 rfl) ?_
          refine lv_aload_n hx hb dX6_bringBack_233 rfl (lv_at hl 0 rfl) ?_
          refine g_X6_kept X hW (X.2.2.2.2.1 _ mw1088) dX6_bringBack_234 ?_
          refine lv_aload_n hx hb dX6_bringBack_237 rfl (lv_at hl 0 rfl) ?_
          refine g_X6_erased X hW (X.2.2.2.2.1 _ mw1089) dX6_bringBack_238 ?_
          refine lv_iload hx hb dX6_bringBack_241 (lv_at hl 3 rfl) ?_
          refine m_iald X hW a_X6_erased hx5 hf dX6_bringBack_243 (fun v24 hv24 hf => ?_)
          refine m_zald X hW a_X6_kept hv24 hf dX6_bringBack_244 (fun v25 hv25 hf => ?_)
          refine m_if_eq (tgt := 252) hx hb hv25 hf dX6_bringBack_245 (by decide) (fun hf => ?_) (fun hf => ?_)
          · skip
            refine m_const (v := 2) hx hb dX6_bringBack_252 rfl ?_
            exact hc253 _ _ _ _ x4 x5 2 x1 hx4 hx5 (by decide) hx1 hf hW hS (lv_sub hl [0, 1, 2, 3] rfl)
          · skip
            refine m_const (v := 3) hx hb dX6_bringBack_248 rfl ?_
            refine lv_goto (tgt := 253) hx hb dX6_bringBack_249 (by decide) ?_
            exact hc253 _ _ _ _ x4 x5 3 x1 hx4 hx5 (by decide) hx1 hf hW hS (lv_sub hl [0, 1, 2, 3] rfl)
  have hc111 : ∀ (k111 : Nat) (σ : St) (H : Heap) (locs : List Loc) (ls : Array Slot) (x3 : Int) (x4 : Int) (x5 : Int), inR x3 → inR x4 → inR x5 → fX6_bringBack_L111 n x1 x2 x3 k111 σ x4 x5 = some (r, σ2) → Wd D cy ad nm nv σ H → va_S (AW ad nm nv sz) s.heap H locs → lv_has ls 7 [(0, .ref (ad 230)), (1, .int (i32 x1)), (3, .int (i32 x3)), (4, .int (i32 x4)), (5, .int (i32 x5))] → W p l e ({ frames := 7, cells := 0, slots := 0, locals := 157 } : Room) s m args below meth c H locs 0 0 Q (F0 m 111 ls []) := by
    intro k111
    induction k111 with
    | zero =>
      intro σ H locs ls x3 x4 x5 hx3 hx4 hx5 hf
      have hf : (none : Option (Int × St)) = some (r, σ2) := hf
      cases hf
    | succ k111 ih111 =>
      intro σ H locs ls x3 x4 x5 hx3 hx4 hx5 hf hW hS hl
      have hf : fX6_bringBack_L111s n x1 x2 x3 (fX6_bringBack_L111 n x1 x2 x3 k111) σ x4 x5 = some (r, σ2) := hf
      unfold fX6_bringBack_L111s at hf
      have hc151 : ∀ (σ : St) (H : Heap) (locs : List Loc) (ls : Array Slot) (x3 : Int) (x4 : Int) (x5 : Int) (t0 : Int), inR x3 → inR x4 → inR x5 → inR t0 → fX6_bringBack_J151 n (fX6_bringBack_L111 n x1 x2 x3 k111) σ x1 x2 x3 x4 x5 t0 = some (r, σ2) → Wd D cy ad nm nv σ H → va_S (AW ad nm nv sz) s.heap H locs → lv_has ls 7 [(0, .ref (ad 230)), (1, .int (i32 x1)), (3, .int (i32 x3)), (4, .int (i32 x4)), (5, .int (i32 x5))] → W p l e ({ frames := 7, cells := 0, slots := 0, locals := 157 } : Room) s m args below meth c H locs 0 0 Q (F0 m 151 ls [.int (i32 t0)]) := by
        intro σ H locs ls x3 x4 x5 t0 hx3 hx4 hx5 ht0 hf hW hS hl
        unfold fX6_bringBack_J151 at hf
        refine lv_istore (lv' := [(6, .int (i32 t0)), (0, .ref (ad 230)), (1, .int (i32 x1)), (3, .int (i32 x3)), (4, .int (i32 x4)), (5, .int (i32 x5))]) hx hb dX6_bringBack_151 hl (by decide) rfl (fun ls hl => ?_)
        refine lv_aload_n hx hb dX6_bringBack_153 rfl (lv_at hl 1 rfl) ?_
        refine g_X6_erased X hW (X.2.2.2.2.1 _ mw1089) dX6_bringBack_154 ?_
        refine lv_iload hx hb dX6_bringBack_157 (lv_at hl 4 rfl) ?_
        refine lv_aload_n hx hb dX6_bringBack_159 rfl (lv_at hl 1 rfl) ?_
        refine g_X6_row X hW (X.2.2.2.2.1 _ mw1079) dX6_bringBack_160 ?_
        refine lv_iload hx hb dX6_bringBack_163 (lv_at hl 5 rfl) ?_
        refine m_iald X hW a_X6_row hx5 hf dX6_bringBack_165 (fun v26 hv26 hf => ?_)
        refine m_iast X hW hS a_X6_erased hx4 hv26 hf dX6_bringBack_166 (fun σ27 H locs hW27 hS27 hf => ?_)
        refine lv_iload hx hb dX6_bringBack_167 (lv_at hl 4 rfl) ?_
        refine lv_iload hx hb dX6_bringBack_169 (lv_at hl 0 rfl) ?_
        refine m_if_eq (tgt := 178) hx hb ht0 hf dX6_bringBack_171 (by decide) (fun hf => ?_) (fun hf => ?_)
        · skip
          refine m_const (v := 0) hx hb dX6_bringBack_178 rfl ?_
          refine m_iadd hx hb hf dX6_bringBack_179 (fun v28 hv28 hf => ?_)
          refine lv_istore (lv' := [(4, .int (i32 v28)), (6, .int (i32 t0)), (0, .ref (ad 230)), (1, .int (i32 x1)), (3, .int (i32 x3)), (5, .int (i32 x5))]) hx hb dX6_bringBack_180 hl (by decide) rfl (fun ls hl => ?_)
          refine m_iinc (k0 := 5) (fun v29 => [(5, .int (i32 v29)), (4, .int (i32 v28)), (6, .int (i32 t0)), (0, .ref (ad 230)), (1, .int (i32 x1)), (3, .int (i32 x3))]) hx hb hf dX6_bringBack_182 hl rfl (by decide) (fun _ => rfl) (fun v29 ls hv29 hf hl => ?_)
          have hl : lv_has ls 7 [(5, .int (i32 v29)), (4, .int (i32 v28)), (6, .int (i32 t0)), (0, .ref (ad 230)), (1, .int (i32 x1)), (3, .int (i32 x3))] := hl
          refine lv_goto (tgt := 111) hx hb dX6_bringBack_185 (by decide) ?_
          exact ih111 _ _ _ _ x3 v28 v29 hx3 hv28 hv29 hf hW27 hS27 (lv_sub hl [3, 4, 5, 1, 0] rfl)
        · skip
          refine m_const (v := 1) hx hb dX6_bringBack_174 rfl ?_
          refine lv_goto (tgt := 179) hx hb dX6_bringBack_175 (by decide) ?_
          refine m_iadd hx hb hf dX6_bringBack_179 (fun v30 hv30 hf => ?_)
          refine lv_istore (lv' := [(4, .int (i32 v30)), (6, .int (i32 t0)), (0, .ref (ad 230)), (1, .int (i32 x1)), (3, .int (i32 x3)), (5, .int (i32 x5))]) hx hb dX6_bringBack_180 hl (by decide) rfl (fun ls hl => ?_)
          refine m_iinc (k0 := 5) (fun v31 => [(5, .int (i32 v31)), (4, .int (i32 v30)), (6, .int (i32 t0)), (0, .ref (ad 230)), (1, .int (i32 x1)), (3, .int (i32 x3))]) hx hb hf dX6_bringBack_182 hl rfl (by decide) (fun _ => rfl) (fun v31 ls hv31 hf hl => ?_)
          have hl : lv_has ls 7 [(5, .int (i32 v31)), (4, .int (i32 v30)), (6, .int (i32 t0)), (0, .ref (ad 230)), (1, .int (i32 x1)), (3, .int (i32 x3))] := hl
          refine lv_goto (tgt := 111) hx hb dX6_bringBack_185 (by decide) ?_
          exact ih111 _ _ _ _ x3 v30 v31 hx3 hv30 hv31 hf hW27 hS27 (lv_sub hl [3, 4, 5, 1, 0] rfl)
      refine lv_iload hx hb dX6_bringBack_111 (lv_at hl 4 rfl) ?_
      refine lv_aload_n hx hb dX6_bringBack_113 rfl (lv_at hl 0 rfl) ?_
      refine g_X6_rowMany X hW (X.2.2.2.2.1 _ mw1078) dX6_bringBack_114 ?_
      refine m_icmp_ge (tgt := 188) hx hb hx5 (hW.2.1 _ _) hf dX6_bringBack_117 (by decide) (fun hf => ?_) (fun hf => ?_)
      · skip
        refine lv_aload_n hx hb dX6_bringBack_188 rfl (lv_at hl 0 rfl) ?_
        refine lv_iload_n hx hb dX6_bringBack_189 rfl (lv_at hl 2 rfl) ?_
        refine m_if_eq (tgt := 210) hx hb hx3 hf dX6_bringBack_190 (by decide) (fun hf => ?_) (fun hf => ?_)
        · skip
          refine m_const (v := 2) hx hb dX6_bringBack_210 rfl ?_
          refine p_X6_thrown X hW hS (by decide) hf (X.2.2.2.2.1 _ mw1046) dX6_bringBack_211 (fun σ16 H locs hW16 hS16 hf => ?_)
          refine m_const (v := 0) hx hb dX6_bringBack_214 rfl ?_
          refine lv_istore (lv' := [(5, .int (i32 0)), (0, .ref (ad 230)), (1, .int (i32 x1)), (3, .int (i32 x3)), (4, .int (i32 x4))]) hx hb dX6_bringBack_215 hl (by decide) rfl (fun ls hl => ?_)
          exact hc217 n _ _ _ _ x4 0 hx4 (by decide) hf hW16 hS16 (lv_sub hl [1, 2, 4, 0] rfl)
        · skip
          refine lv_aload_n hx hb dX6_bringBack_193 rfl (lv_at hl 0 rfl) ?_
          refine g_X6_actMany X hW (X.2.2.2.2.1 _ mw1047) dX6_bringBack_194 ?_
          refine lv_iload hx hb dX6_bringBack_197 (lv_at hl 3 rfl) ?_
          refine m_iadd hx hb hf dX6_bringBack_199 (fun v17 hv17 hf => ?_)
          refine m_sipush (v := 160) hx hb dX6_bringBack_200 (by decide) ?_
          refine m_icmp_gt (tgt := 210) hx hb hv17 (by decide) hf dX6_bringBack_203 (by decide) (fun hf => ?_) (fun hf => ?_)
          · skip
            refine m_const (v := 2) hx hb dX6_bringBack_210 rfl ?_
            refine p_X6_thrown X hW hS (by decide) hf (X.2.2.2.2.1 _ mw1046) dX6_bringBack_211 (fun σ18 H locs hW18 hS18 hf => ?_)
            refine m_const (v := 0) hx hb dX6_bringBack_214 rfl ?_
            refine lv_istore (lv' := [(5, .int (i32 0)), (0, .ref (ad 230)), (1, .int (i32 x1)), (3, .int (i32 x3)), (4, .int (i32 x4))]) hx hb dX6_bringBack_215 hl (by decide) rfl (fun ls hl => ?_)
            exact hc217 n _ _ _ _ x4 0 hx4 (by decide) hf hW18 hS18 (lv_sub hl [1, 2, 4, 0] rfl)
          · skip
            refine m_const (v := 0) hx hb dX6_bringBack_206 rfl ?_
            refine lv_goto (tgt := 211) hx hb dX6_bringBack_207 (by decide) ?_
            refine p_X6_thrown X hW hS (by decide) hf (X.2.2.2.2.1 _ mw1046) dX6_bringBack_211 (fun σ19 H locs hW19 hS19 hf => ?_)
            refine m_const (v := 0) hx hb dX6_bringBack_214 rfl ?_
            refine lv_istore (lv' := [(5, .int (i32 0)), (0, .ref (ad 230)), (1, .int (i32 x1)), (3, .int (i32 x3)), (4, .int (i32 x4))]) hx hb dX6_bringBack_215 hl (by decide) rfl (fun ls hl => ?_)
            exact hc217 n _ _ _ _ x4 0 hx4 (by decide) hf hW19 hS19 (lv_sub hl [1, 2, 4, 0] rfl)
      · skip
        refine lv_aload_n hx hb dX6_bringBack_120 rfl (lv_at hl 0 rfl) ?_
        refine lv_aload_n hx hb dX6_bringBack_121 rfl (lv_at hl 0 rfl) ?_
        refine g_X6_row X hW (X.2.2.2.2.1 _ mw1079) dX6_bringBack_122 ?_
        refine lv_iload hx hb dX6_bringBack_125 (lv_at hl 4 rfl) ?_
        refine m_iald X hW a_X6_row hx5 hf dX6_bringBack_127 (fun v20 hv20 hf => ?_)
        refine m_callVi1 (z := true) (As := [.int (i32 v20)]) (rest := []) X hW hS hl.1 gc_X6_147 hd_X6_isShown ⟨rfl, rfl, Nat.le_of_ble_eq_true rfl, Nat.le_of_ble_eq_true rfl⟩ (rc_X6 X hW) (fun v q => ok_X6_isShown hv20 q) hf rfl rfl (Nat.le_of_ble_eq_true rfl) dX6_bringBack_128 ⟨Nat.le_of_ble_eq_true rfl, Nat.le_of_ble_eq_true rfl⟩ (fun v21 H locs hv21 zv21 hWv21 hSv21 hf => ?_)
        refine lv_aload_n hx hb dX6_bringBack_131 rfl (lv_at hl 0 rfl) ?_
        refine g_X6_kept X hWv21 (X.2.2.2.2.1 _ mw1088) dX6_bringBack_132 ?_
        refine lv_aload_n hx hb dX6_bringBack_135 rfl (lv_at hl 0 rfl) ?_
        refine g_X6_row X hWv21 (X.2.2.2.2.1 _ mw1079) dX6_bringBack_136 ?_
        refine lv_iload hx hb dX6_bringBack_139 (lv_at hl 4 rfl) ?_
        refine m_iald X hWv21 a_X6_row hx5 hf dX6_bringBack_141 (fun v22 hv22 hf => ?_)
        refine m_zald X hWv21 a_X6_kept hv22 hf dX6_bringBack_142 (fun v23 hv23 hf => ?_)
        refine m_icmp_eq (tgt := 150) hx hb hv21 hv23 hf dX6_bringBack_143 (by decide) (fun hf => ?_) (fun hf => ?_)
        · skip
          refine m_const (v := 0) hx hb dX6_bringBack_150 rfl ?_
          exact hc151 _ _ _ _ x3 x4 x5 0 hx3 hx4 hx5 (by decide) hf hWv21 hSv21 (lv_sub hl [0, 1, 2, 3, 4] rfl)
        · skip
          refine m_const (v := 1) hx hb dX6_bringBack_146 rfl ?_
          refine lv_goto (tgt := 151) hx hb dX6_bringBack_147 (by decide) ?_
          exact hc151 _ _ _ _ x3 x4 x5 1 hx3 hx4 hx5 (by decide) hf hWv21 hSv21 (lv_sub hl [0, 1, 2, 3, 4] rfl)
  have hc38 : ∀ (k38 : Nat) (σ : St) (H : Heap) (locs : List Loc) (ls : Array Slot) (x3 : Int) (x4 : Int), inR x3 → inR x4 → fX6_bringBack_L38 n σ x1 x2 k38 x3 x4 = some (r, σ2) → Wd D cy ad nm nv σ H → va_S (AW ad nm nv sz) s.heap H locs → lv_has ls 7 [(0, .ref (ad 230)), (1, .int (i32 x1)), (2, .int (i32 x2)), (3, .int (i32 x3)), (4, .int (i32 x4))] → W p l e ({ frames := 7, cells := 0, slots := 0, locals := 157 } : Room) s m args below meth c H locs 0 0 Q (F0 m 38 ls []) := by
    intro k38
    induction k38 with
    | zero =>
      intro σ H locs ls x3 x4 hx3 hx4 hf
      have hf : (none : Option (Int × St)) = some (r, σ2) := hf
      cases hf
    | succ k38 ih38 =>
      intro σ H locs ls x3 x4 hx3 hx4 hf hW hS hl
      have hf : fX6_bringBack_L38s n σ x1 x2 (fX6_bringBack_L38 n σ x1 x2 k38) x3 x4 = some (r, σ2) := hf
      unfold fX6_bringBack_L38s at hf
      refine lv_iload hx hb dX6_bringBack_38 (lv_at hl 4 rfl) ?_
      refine lv_aload_n hx hb dX6_bringBack_40 rfl (lv_at hl 0 rfl) ?_
      refine g_X6_actMany X hW (X.2.2.2.2.1 _ mw1047) dX6_bringBack_41 ?_
      refine m_icmp_ge (tgt := 95) hx hb hx4 (hW.2.1 _ _) hf dX6_bringBack_44 (by decide) (fun hf => ?_) (fun hf => ?_)
      · skip
        refine lv_aload_n hx hb dX6_bringBack_95 rfl (lv_at hl 0 rfl) ?_
        refine lv_iload_n hx hb dX6_bringBack_96 rfl (lv_at hl 2 rfl) ?_
        refine m_callVv (As := [.int (i32 x2)]) (rest := []) X hW hS hl.1 gc_X6_271 hd_X6_keeps ⟨rfl, rfl, Nat.le_of_ble_eq_true rfl, Nat.le_of_ble_eq_true rfl⟩ (rc_X6 X hW) (fun v q => ok_X6_keeps hx2 q) hf rfl rfl (Nat.le_of_ble_eq_true rfl) dX6_bringBack_97 ⟨Nat.le_of_ble_eq_true rfl, Nat.le_of_ble_eq_true rfl⟩ (fun σ4 H locs hW4 hS4 hf => ?_)
        refine lv_aload_n hx hb dX6_bringBack_100 rfl (lv_at hl 0 rfl) ?_
        refine lv_iload_n hx hb dX6_bringBack_101 rfl (lv_at hl 1 rfl) ?_
        refine m_callVv (As := [.int (i32 x1)]) (rest := []) X hW4 hS4 hl.1 gc_X6_208 hd_X6_findsSite ⟨rfl, rfl, Nat.le_of_ble_eq_true rfl, Nat.le_of_ble_eq_true rfl⟩ (rc_X6 X hW4) (fun v q => ok_X6_findsSite hx1 q) hf rfl rfl (Nat.le_of_ble_eq_true rfl) dX6_bringBack_102 ⟨Nat.le_of_ble_eq_true rfl, Nat.le_of_ble_eq_true rfl⟩ (fun σ5 H locs hW5 hS5 hf => ?_)
        refine m_const (v := 0) hx hb dX6_bringBack_105 rfl ?_
        refine lv_istore (lv' := [(4, .int (i32 0)), (0, .ref (ad 230)), (1, .int (i32 x1)), (2, .int (i32 x2)), (3, .int (i32 x3))]) hx hb dX6_bringBack_106 hl (by decide) rfl (fun ls hl => ?_)
        refine m_const (v := 0) hx hb dX6_bringBack_108 rfl ?_
        refine lv_istore (lv' := [(5, .int (i32 0)), (4, .int (i32 0)), (0, .ref (ad 230)), (1, .int (i32 x1)), (2, .int (i32 x2)), (3, .int (i32 x3))]) hx hb dX6_bringBack_109 hl (by decide) rfl (fun ls hl => ?_)
        exact hc111 n _ _ _ _ x3 0 0 hx3 (by decide) (by decide) hf hW5 hS5 (lv_sub hl [2, 3, 5, 1, 0] rfl)
      · skip
        refine lv_iload_n hx hb dX6_bringBack_47 rfl (lv_at hl 3 rfl) ?_
        refine m_if_eq (tgt := 87) hx hb hx3 hf dX6_bringBack_48 (by decide) (fun hf => ?_) (fun hf => ?_)
        · skip
          refine m_const (v := 0) hx hb dX6_bringBack_87 rfl ?_
          refine lv_istore_n (lv' := [(3, .int (i32 0)), (0, .ref (ad 230)), (1, .int (i32 x1)), (2, .int (i32 x2)), (4, .int (i32 x4))]) hx hb dX6_bringBack_88 rfl hl (by decide) rfl (fun ls hl => ?_)
          refine m_iinc (k0 := 4) (fun v6 => [(4, .int (i32 v6)), (3, .int (i32 0)), (0, .ref (ad 230)), (1, .int (i32 x1)), (2, .int (i32 x2))]) hx hb hf dX6_bringBack_89 hl rfl (by decide) (fun _ => rfl) (fun v6 ls hv6 hf hl => ?_)
          have hl : lv_has ls 7 [(4, .int (i32 v6)), (3, .int (i32 0)), (0, .ref (ad 230)), (1, .int (i32 x1)), (2, .int (i32 x2))] := hl
          refine lv_goto (tgt := 38) hx hb dX6_bringBack_92 (by decide) ?_
          exact ih38 _ _ _ _ 0 v6 (by decide) hv6 hf hW hS (lv_sub hl [2, 3, 4, 1, 0] rfl)
        · skip
          refine lv_aload_n hx hb dX6_bringBack_51 rfl (lv_at hl 0 rfl) ?_
          refine g_X6_versions X hW (X.2.2.2.2.1 _ mw1073) dX6_bringBack_52 ?_
          refine m_sipush (v := 160) hx hb dX6_bringBack_55 (by decide) ?_
          refine lv_iload_n hx hb dX6_bringBack_58 rfl (lv_at hl 2 rfl) ?_
          refine m_imul hx hb hf dX6_bringBack_59 (fun v7 hv7 hf => ?_)
          refine lv_iload hx hb dX6_bringBack_60 (lv_at hl 4 rfl) ?_
          refine m_iadd hx hb hf dX6_bringBack_62 (fun v8 hv8 hf => ?_)
          refine m_zald X hW a_X6_versions hv8 hf dX6_bringBack_63 (fun v9 hv9 hf => ?_)
          refine m_if_eq (tgt := 83) hx hb hv9 hf dX6_bringBack_64 (by decide) (fun hf => ?_) (fun hf => ?_)
          · skip
            refine m_const (v := 1) hx hb dX6_bringBack_83 rfl ?_
            refine lv_goto (tgt := 88) hx hb dX6_bringBack_84 (by decide) ?_
            refine lv_istore_n (lv' := [(3, .int (i32 1)), (0, .ref (ad 230)), (1, .int (i32 x1)), (2, .int (i32 x2)), (4, .int (i32 x4))]) hx hb dX6_bringBack_88 rfl hl (by decide) rfl (fun ls hl => ?_)
            refine m_iinc (k0 := 4) (fun v10 => [(4, .int (i32 v10)), (3, .int (i32 1)), (0, .ref (ad 230)), (1, .int (i32 x1)), (2, .int (i32 x2))]) hx hb hf dX6_bringBack_89 hl rfl (by decide) (fun _ => rfl) (fun v10 ls hv10 hf hl => ?_)
            have hl : lv_has ls 7 [(4, .int (i32 v10)), (3, .int (i32 1)), (0, .ref (ad 230)), (1, .int (i32 x1)), (2, .int (i32 x2))] := hl
            refine lv_goto (tgt := 38) hx hb dX6_bringBack_92 (by decide) ?_
            exact ih38 _ _ _ _ 1 v10 (by decide) hv10 hf hW hS (lv_sub hl [2, 3, 4, 1, 0] rfl)
          · skip
            refine lv_aload_n hx hb dX6_bringBack_67 rfl (lv_at hl 0 rfl) ?_
            refine g_X6_has X hW (X.2.2.2.2.1 _ mw1058) dX6_bringBack_68 ?_
            refine m_sipush (v := 160) hx hb dX6_bringBack_71 (by decide) ?_
            refine lv_iload_n hx hb dX6_bringBack_74 rfl (lv_at hl 1 rfl) ?_
            refine m_imul hx hb hf dX6_bringBack_75 (fun v11 hv11 hf => ?_)
            refine lv_iload hx hb dX6_bringBack_76 (lv_at hl 4 rfl) ?_
            refine m_iadd hx hb hf dX6_bringBack_78 (fun v12 hv12 hf => ?_)
            refine m_zald X hW a_X6_has hv12 hf dX6_bringBack_79 (fun v13 hv13 hf => ?_)
            refine m_if_eq (tgt := 87) hx hb hv13 hf dX6_bringBack_80 (by decide) (fun hf => ?_) (fun hf => ?_)
            · skip
              refine m_const (v := 0) hx hb dX6_bringBack_87 rfl ?_
              refine lv_istore_n (lv' := [(3, .int (i32 0)), (0, .ref (ad 230)), (1, .int (i32 x1)), (2, .int (i32 x2)), (4, .int (i32 x4))]) hx hb dX6_bringBack_88 rfl hl (by decide) rfl (fun ls hl => ?_)
              refine m_iinc (k0 := 4) (fun v14 => [(4, .int (i32 v14)), (3, .int (i32 0)), (0, .ref (ad 230)), (1, .int (i32 x1)), (2, .int (i32 x2))]) hx hb hf dX6_bringBack_89 hl rfl (by decide) (fun _ => rfl) (fun v14 ls hv14 hf hl => ?_)
              have hl : lv_has ls 7 [(4, .int (i32 v14)), (3, .int (i32 0)), (0, .ref (ad 230)), (1, .int (i32 x1)), (2, .int (i32 x2))] := hl
              refine lv_goto (tgt := 38) hx hb dX6_bringBack_92 (by decide) ?_
              exact ih38 _ _ _ _ 0 v14 (by decide) hv14 hf hW hS (lv_sub hl [2, 3, 4, 1, 0] rfl)
            · skip
              refine m_const (v := 1) hx hb dX6_bringBack_83 rfl ?_
              refine lv_goto (tgt := 88) hx hb dX6_bringBack_84 (by decide) ?_
              refine lv_istore_n (lv' := [(3, .int (i32 1)), (0, .ref (ad 230)), (1, .int (i32 x1)), (2, .int (i32 x2)), (4, .int (i32 x4))]) hx hb dX6_bringBack_88 rfl hl (by decide) rfl (fun ls hl => ?_)
              refine m_iinc (k0 := 4) (fun v15 => [(4, .int (i32 v15)), (3, .int (i32 1)), (0, .ref (ad 230)), (1, .int (i32 x1)), (2, .int (i32 x2))]) hx hb hf dX6_bringBack_89 hl rfl (by decide) (fun _ => rfl) (fun v15 ls hv15 hf hl => ?_)
              have hl : lv_has ls 7 [(4, .int (i32 v15)), (3, .int (i32 1)), (0, .ref (ad 230)), (1, .int (i32 x1)), (2, .int (i32 x2))] := hl
              refine lv_goto (tgt := 38) hx hb dX6_bringBack_92 (by decide) ?_
              exact ih38 _ _ _ _ 1 v15 (by decide) hv15 hf hW hS (lv_sub hl [2, 3, 4, 1, 0] rfl)
  have hc21 : ∀ (σ : St) (H : Heap) (locs : List Loc) (ls : Array Slot) (t0 : Int), inR t0 → fX6_bringBack_J21 n σ x1 x2 t0 = some (r, σ2) → Wd D cy ad nm nv σ H → va_S (AW ad nm nv sz) s.heap H locs → lv_has ls 7 [(0, .ref (ad 230)), (1, .int (i32 x1)), (2, .int (i32 x2))] → W p l e ({ frames := 7, cells := 0, slots := 0, locals := 157 } : Room) s m args below meth c H locs 0 0 Q (F0 m 21 ls [.int (i32 t0), .ref (ad 230)]) := by
    intro σ H locs ls t0 ht0 hf hW hS hl
    unfold fX6_bringBack_J21 at hf
    refine p_X6_thrown X hW hS ht0 hf (X.2.2.2.2.1 _ mw1046) dX6_bringBack_21 (fun σ3 H locs hW3 hS3 hf => ?_)
    refine lv_aload_n hx hb dX6_bringBack_24 rfl (lv_at hl 0 rfl) ?_
    refine g_X6_thrown X hW3 (X.2.2.2.2.1 _ mw1046) dX6_bringBack_25 ?_
    refine m_if_le (tgt := 33) hx hb (hW3.2.1 _ _) hf dX6_bringBack_28 (by decide) (fun hf => ?_) (fun hf => ?_)
    · skip
      refine m_const (v := 1) hx hb dX6_bringBack_33 rfl ?_
      refine lv_istore_n (lv' := [(3, .int (i32 1)), (0, .ref (ad 230)), (1, .int (i32 x1)), (2, .int (i32 x2))]) hx hb dX6_bringBack_34 rfl hl (by decide) rfl (fun ls hl => ?_)
      refine m_const (v := 0) hx hb dX6_bringBack_35 rfl ?_
      refine lv_istore (lv' := [(4, .int (i32 0)), (3, .int (i32 1)), (0, .ref (ad 230)), (1, .int (i32 x1)), (2, .int (i32 x2))]) hx hb dX6_bringBack_36 hl (by decide) rfl (fun ls hl => ?_)
      exact hc38 n _ _ _ _ 1 0 (by decide) (by decide) hf hW3 hS3 (lv_sub hl [2, 3, 4, 1, 0] rfl)
    · skip
      refine m_const (v := 0) hx hb dX6_bringBack_31 rfl ?_
      exact m_ireti X hr hlocks rfl (by decide) (fun h => Bool.noConfusion h) hW3 hS3 (congrArg Prod.fst (Option.some.inj hf)) (congrArg Prod.snd (Option.some.inj hf)) hQ dX6_bringBack_32
  have hc20 : ∀ (σ : St) (H : Heap) (locs : List Loc) (ls : Array Slot), fX6_bringBack_J20 n σ x1 x2 = some (r, σ2) → Wd D cy ad nm nv σ H → va_S (AW ad nm nv sz) s.heap H locs → lv_has ls 7 [(0, .ref (ad 230)), (1, .int (i32 x1)), (2, .int (i32 x2))] → W p l e ({ frames := 7, cells := 0, slots := 0, locals := 157 } : Room) s m args below meth c H locs 0 0 Q (F0 m 20 ls [.ref (ad 230)]) := by
    intro σ H locs ls hf hW hS hl
    unfold fX6_bringBack_J20 at hf
    refine m_const (v := 1) hx hb dX6_bringBack_20 rfl ?_
    exact hc21 _ _ _ _ 1 (by decide) hf hW hS (lv_sub hl [0, 1, 2] rfl)
  refine lv_aload_n hx hb dX6_bringBack_0 rfl (lv_at hl 0 rfl) ?_
  refine lv_iload_n hx hb dX6_bringBack_1 rfl (lv_at hl 1 rfl) ?_
  refine m_callSi1 (z := true) (As := [.int (i32 x1)]) (rest := [.ref (ad 230)]) X hW hS hl.1 gc_X6_215 hd_X6_isSite ⟨rfl, rfl, Nat.le_of_ble_eq_true rfl, Nat.le_of_ble_eq_true rfl⟩ (fun v q => ok_X6_isSite hx1 q) hf rfl rfl (Nat.le_of_ble_eq_true rfl) dX6_bringBack_2 ⟨Nat.le_of_ble_eq_true rfl, Nat.le_of_ble_eq_true rfl⟩ (fun v1 H locs hv1 zv1 hWv1 hSv1 hf => ?_)
  refine m_if_eq (tgt := 20) hx hb hv1 hf dX6_bringBack_5 (by decide) (fun hf => ?_) (fun hf => ?_)
  · skip
    exact hc20 _ _ _ _  hf hWv1 hSv1 (lv_sub hl [0, 1, 2] rfl)
  · skip
    refine lv_aload_n hx hb dX6_bringBack_8 rfl (lv_at hl 0 rfl) ?_
    refine lv_iload_n hx hb dX6_bringBack_9 rfl (lv_at hl 2 rfl) ?_
    refine m_callVi1 (z := true) (As := [.int (i32 x2)]) (rest := [.ref (ad 230)]) X hWv1 hSv1 hl.1 gc_X6_268 hd_X6_isVersion ⟨rfl, rfl, Nat.le_of_ble_eq_true rfl, Nat.le_of_ble_eq_true rfl⟩ (rc_X6 X hWv1) (fun v q => ok_X6_isVersion hx2 q) hf rfl rfl (Nat.le_of_ble_eq_true rfl) dX6_bringBack_10 ⟨Nat.le_of_ble_eq_true rfl, Nat.le_of_ble_eq_true rfl⟩ (fun v2 H locs hv2 zv2 hWv2 hSv2 hf => ?_)
    refine m_if_eq (tgt := 20) hx hb hv2 hf dX6_bringBack_13 (by decide) (fun hf => ?_) (fun hf => ?_)
    · skip
      exact hc20 _ _ _ _  hf hWv2 hSv2 (lv_sub hl [0, 1, 2] rfl)
    · skip
      refine m_const (v := 0) hx hb dX6_bringBack_16 rfl ?_
      refine lv_goto (tgt := 21) hx hb dX6_bringBack_17 (by decide) ?_
      exact hc21 _ _ _ _ 0 (by decide) hf hWv2 hSv2 (lv_sub hl [0, 1, 2] rfl)
set_option maxRecDepth 100000 in
set_option maxHeartbeats 4000000 in
theorem ok_X6_differ {l : Launch} {D : va_G} {cy : Nat → ClassId} {ad : Nat → Nat} {nm nv sz : Nat} {σ : St} {n : Nat} {x1 : Int} {x2 : Int} {r : Int} {σ2 : St} (hx1 : inR x1) (hx2 : inR x2) (hf : fX6_differ n σ x1 x2 = some (r, σ2)) : CI l yX6_differ cX6_differ 6 (some .int) ({ frames := 7, cells := 0, slots := 0, locals := 157 } : Room) [.ref (ad 230), .int (i32 x1), .int (i32 x2)] D cy ad nm nv sz σ false r σ2 := by
  refine m_entry RX6 rfl (by decide +kernel) (Nat.le_of_ble_eq_true rfl) ?_
  intro p e s m args below meth c Q hQ hr hlocks X hW hS ls hl
  have hx := X.1
  have hb := X.2.1
  have hl : lv_has ls 6 [(0, .ref (ad 230)), (1, .int (i32 x1)), (2, .int (i32 x2))] := hl
  unfold fX6_differ at hf
  have hc57 : ∀ (k57 : Nat) (σ : St) (H : Heap) (locs : List Loc) (ls : Array Slot) (x3 : Int) (x4 : Int), inR x3 → inR x4 → fX6_differ_L57 n σ x1 x2 k57 x3 x4 = some (r, σ2) → Wd D cy ad nm nv σ H → va_S (AW ad nm nv sz) s.heap H locs → lv_has ls 6 [(0, .ref (ad 230)), (3, .int (i32 x3)), (4, .int (i32 x4))] → W p l e ({ frames := 7, cells := 0, slots := 0, locals := 157 } : Room) s m args below meth c H locs 0 0 Q (F0 m 57 ls []) := by
    intro k57
    induction k57 with
    | zero =>
      intro σ H locs ls x3 x4 hx3 hx4 hf
      have hf : (none : Option (Int × St)) = some (r, σ2) := hf
      cases hf
    | succ k57 ih57 =>
      intro σ H locs ls x3 x4 hx3 hx4 hf hW hS hl
      have hf : fX6_differ_L57s n σ x1 x2 (fX6_differ_L57 n σ x1 x2 k57) x3 x4 = some (r, σ2) := hf
      unfold fX6_differ_L57s at hf
      have hc93 : ∀ (σ : St) (H : Heap) (locs : List Loc) (ls : Array Slot) (x3 : Int) (x4 : Int) (t0 : Int), inR x3 → inR x4 → inR t0 → fX6_differ_J93 n (fX6_differ_L57 n σ x1 x2 k57) σ x1 x2 x3 x4 t0 = some (r, σ2) → Wd D cy ad nm nv σ H → va_S (AW ad nm nv sz) s.heap H locs → lv_has ls 6 [(0, .ref (ad 230)), (3, .int (i32 x3)), (4, .int (i32 x4))] → W p l e ({ frames := 7, cells := 0, slots := 0, locals := 157 } : Room) s m args below meth c H locs 0 0 Q (F0 m 93 ls [.int (i32 t0)]) := by
        intro σ H locs ls x3 x4 t0 hx3 hx4 ht0 hf hW hS hl
        unfold fX6_differ_J93 at hf
        refine lv_istore (lv' := [(5, .int (i32 t0)), (0, .ref (ad 230)), (3, .int (i32 x3)), (4, .int (i32 x4))]) hx hb dX6_differ_93 hl (by decide) rfl (fun ls hl => ?_)
        refine lv_iload_n hx hb dX6_differ_95 rfl (lv_at hl 2 rfl) ?_
        refine lv_iload hx hb dX6_differ_96 (lv_at hl 0 rfl) ?_
        refine lv_aload_n hx hb dX6_differ_98 rfl (lv_at hl 1 rfl) ?_
        refine g_X6_kept X hW (X.2.2.2.2.1 _ mw1088) dX6_differ_99 ?_
        refine lv_iload hx hb dX6_differ_102 (lv_at hl 3 rfl) ?_
        refine m_zald X hW a_X6_kept hx4 hf dX6_differ_104 (fun v9 hv9 hf => ?_)
        refine m_icmp_eq (tgt := 112) hx hb ht0 hv9 hf dX6_differ_105 (by decide) (fun hf => ?_) (fun hf => ?_)
        · skip
          refine m_const (v := 0) hx hb dX6_differ_112 rfl ?_
          refine m_iadd hx hb hf dX6_differ_113 (fun v10 hv10 hf => ?_)
          refine lv_istore_n (lv' := [(3, .int (i32 v10)), (5, .int (i32 t0)), (0, .ref (ad 230)), (4, .int (i32 x4))]) hx hb dX6_differ_114 rfl hl (by decide) rfl (fun ls hl => ?_)
          refine m_iinc (k0 := 3) (fun v11 => [(4, .int (i32 v11)), (3, .int (i32 v10)), (5, .int (i32 t0)), (0, .ref (ad 230))]) hx hb hf dX6_differ_115 hl rfl (by decide) (fun _ => rfl) (fun v11 ls hv11 hf hl => ?_)
          have hl : lv_has ls 6 [(4, .int (i32 v11)), (3, .int (i32 v10)), (5, .int (i32 t0)), (0, .ref (ad 230))] := hl
          refine lv_goto (tgt := 57) hx hb dX6_differ_118 (by decide) ?_
          exact ih57 _ _ _ _ v10 v11 hv10 hv11 hf hW hS (lv_sub hl [3, 1, 0] rfl)
        · skip
          refine m_const (v := 1) hx hb dX6_differ_108 rfl ?_
          refine lv_goto (tgt := 113) hx hb dX6_differ_109 (by decide) ?_
          refine m_iadd hx hb hf dX6_differ_113 (fun v12 hv12 hf => ?_)
          refine lv_istore_n (lv' := [(3, .int (i32 v12)), (5, .int (i32 t0)), (0, .ref (ad 230)), (4, .int (i32 x4))]) hx hb dX6_differ_114 rfl hl (by decide) rfl (fun ls hl => ?_)
          refine m_iinc (k0 := 3) (fun v13 => [(4, .int (i32 v13)), (3, .int (i32 v12)), (5, .int (i32 t0)), (0, .ref (ad 230))]) hx hb hf dX6_differ_115 hl rfl (by decide) (fun _ => rfl) (fun v13 ls hv13 hf hl => ?_)
          have hl : lv_has ls 6 [(4, .int (i32 v13)), (3, .int (i32 v12)), (5, .int (i32 t0)), (0, .ref (ad 230))] := hl
          refine lv_goto (tgt := 57) hx hb dX6_differ_118 (by decide) ?_
          exact ih57 _ _ _ _ v12 v13 hv12 hv13 hf hW hS (lv_sub hl [3, 1, 0] rfl)
      have hc92 : ∀ (σ : St) (H : Heap) (locs : List Loc) (ls : Array Slot) (x3 : Int) (x4 : Int), inR x3 → inR x4 → fX6_differ_J92 n (fX6_differ_L57 n σ x1 x2 k57) σ x1 x2 x3 x4 = some (r, σ2) → Wd D cy ad nm nv σ H → va_S (AW ad nm nv sz) s.heap H locs → lv_has ls 6 [(0, .ref (ad 230)), (3, .int (i32 x3)), (4, .int (i32 x4))] → W p l e ({ frames := 7, cells := 0, slots := 0, locals := 157 } : Room) s m args below meth c H locs 0 0 Q (F0 m 92 ls []) := by
        intro σ H locs ls x3 x4 hx3 hx4 hf hW hS hl
        unfold fX6_differ_J92 at hf
        refine m_const (v := 0) hx hb dX6_differ_92 rfl ?_
        exact hc93 _ _ _ _ x3 x4 0 hx3 hx4 (by decide) hf hW hS (lv_sub hl [0, 1, 2] rfl)
      refine lv_iload hx hb dX6_differ_57 (lv_at hl 2 rfl) ?_
      refine lv_aload_n hx hb dX6_differ_59 rfl (lv_at hl 0 rfl) ?_
      refine g_X6_actMany X hW (X.2.2.2.2.1 _ mw1047) dX6_differ_60 ?_
      refine m_icmp_ge (tgt := 121) hx hb hx4 (hW.2.1 _ _) hf dX6_differ_63 (by decide) (fun hf => ?_) (fun hf => ?_)
      · skip
        refine lv_iload_n hx hb dX6_differ_121 rfl (lv_at hl 1 rfl) ?_
        exact m_ireti X hr hlocks rfl hx3 (fun h => Bool.noConfusion h) hW hS (congrArg Prod.fst (Option.some.inj hf)) (congrArg Prod.snd (Option.some.inj hf)) hQ dX6_differ_122
      · skip
        refine lv_aload_n hx hb dX6_differ_66 rfl (lv_at hl 0 rfl) ?_
        refine lv_iload hx hb dX6_differ_67 (lv_at hl 2 rfl) ?_
        refine m_callVi1 (z := false) (As := [.int (i32 x4)]) (rest := []) X hW hS hl.1 gc_X6_151 hd_X6_spot ⟨rfl, rfl, Nat.le_of_ble_eq_true rfl, Nat.le_of_ble_eq_true rfl⟩ (rc_X6 X hW) (fun v q => ok_X6_spot hx4 q) hf rfl rfl (Nat.le_of_ble_eq_true rfl) dX6_differ_69 ⟨Nat.le_of_ble_eq_true rfl, Nat.le_of_ble_eq_true rfl⟩ (fun v7 H locs hv7 zv7 hWv7 hSv7 hf => ?_)
        refine lv_aload_n hx hb dX6_differ_72 rfl (lv_at hl 0 rfl) ?_
        refine g_X6_rowMany X hWv7 (X.2.2.2.2.1 _ mw1078) dX6_differ_73 ?_
        refine m_icmp_ge (tgt := 92) hx hb hv7 (hWv7.2.1 _ _) hf dX6_differ_76 (by decide) (fun hf => ?_) (fun hf => ?_)
        · skip
          exact hc92 _ _ _ _ x3 x4 hx3 hx4 hf hWv7 hSv7 (lv_sub hl [0, 1, 2] rfl)
        · skip
          refine lv_aload_n hx hb dX6_differ_79 rfl (lv_at hl 0 rfl) ?_
          refine lv_iload hx hb dX6_differ_80 (lv_at hl 2 rfl) ?_
          refine m_callVi1 (z := true) (As := [.int (i32 x4)]) (rest := []) X hWv7 hSv7 hl.1 gc_X6_147 hd_X6_isShown ⟨rfl, rfl, Nat.le_of_ble_eq_true rfl, Nat.le_of_ble_eq_true rfl⟩ (rc_X6 X hWv7) (fun v q => ok_X6_isShown hx4 q) hf rfl rfl (Nat.le_of_ble_eq_true rfl) dX6_differ_82 ⟨Nat.le_of_ble_eq_true rfl, Nat.le_of_ble_eq_true rfl⟩ (fun v8 H locs hv8 zv8 hWv8 hSv8 hf => ?_)
          refine m_if_eq (tgt := 92) hx hb hv8 hf dX6_differ_85 (by decide) (fun hf => ?_) (fun hf => ?_)
          · skip
            exact hc92 _ _ _ _ x3 x4 hx3 hx4 hf hWv8 hSv8 (lv_sub hl [0, 1, 2] rfl)
          · skip
            refine m_const (v := 1) hx hb dX6_differ_88 rfl ?_
            refine lv_goto (tgt := 93) hx hb dX6_differ_89 (by decide) ?_
            exact hc93 _ _ _ _ x3 x4 1 hx3 hx4 (by decide) hf hWv8 hSv8 (lv_sub hl [0, 1, 2] rfl)
  have hc22 : ∀ (σ : St) (H : Heap) (locs : List Loc) (ls : Array Slot) (t0 : Int), inR t0 → fX6_differ_J22 n σ x1 x2 t0 = some (r, σ2) → Wd D cy ad nm nv σ H → va_S (AW ad nm nv sz) s.heap H locs → lv_has ls 6 [(0, .ref (ad 230)), (1, .int (i32 x1)), (2, .int (i32 x2))] → W p l e ({ frames := 7, cells := 0, slots := 0, locals := 157 } : Room) s m args below meth c H locs 0 0 Q (F0 m 22 ls [.int (i32 t0), .ref (ad 230)]) := by
    intro σ H locs ls t0 ht0 hf hW hS hl
    unfold fX6_differ_J22 at hf
    refine p_X6_thrown X hW hS ht0 hf (X.2.2.2.2.1 _ mw1046) dX6_differ_22 (fun σ3 H locs hW3 hS3 hf => ?_)
    refine lv_aload_n hx hb dX6_differ_25 rfl (lv_at hl 0 rfl) ?_
    refine g_X6_thrown X hW3 (X.2.2.2.2.1 _ mw1046) dX6_differ_26 ?_
    refine m_if_le (tgt := 34) hx hb (hW3.2.1 _ _) hf dX6_differ_29 (by decide) (fun hf => ?_) (fun hf => ?_)
    · skip
      refine lv_aload_n hx hb dX6_differ_34 rfl (lv_at hl 0 rfl) ?_
      refine lv_iload_n hx hb dX6_differ_35 rfl (lv_at hl 1 rfl) ?_
      refine m_callVv (As := [.int (i32 x1)]) (rest := []) X hW3 hS3 hl.1 gc_X6_271 hd_X6_keeps ⟨rfl, rfl, Nat.le_of_ble_eq_true rfl, Nat.le_of_ble_eq_true rfl⟩ (rc_X6 X hW3) (fun v q => ok_X6_keeps hx1 q) hf rfl rfl (Nat.le_of_ble_eq_true rfl) dX6_differ_36 ⟨Nat.le_of_ble_eq_true rfl, Nat.le_of_ble_eq_true rfl⟩ (fun σ4 H locs hW4 hS4 hf => ?_)
      refine lv_aload_n hx hb dX6_differ_39 rfl (lv_at hl 0 rfl) ?_
      refine lv_aload_n hx hb dX6_differ_40 rfl (lv_at hl 0 rfl) ?_
      refine g_X6_versions X hW4 (X.2.2.2.2.1 _ mw1073) dX6_differ_41 ?_
      refine m_sipush (v := 160) hx hb dX6_differ_44 (by decide) ?_
      refine lv_iload_n hx hb dX6_differ_47 rfl (lv_at hl 2 rfl) ?_
      refine m_imul hx hb hf dX6_differ_48 (fun v5 hv5 hf => ?_)
      refine m_callVv (As := [.ref (ad 258), .int (i32 v5)]) (rest := []) X hW4 hS4 hl.1 gc_X6_201 hd_X6_finds ⟨rfl, rfl, Nat.le_of_ble_eq_true rfl, Nat.le_of_ble_eq_true rfl⟩ (rc_X6 X hW4) (fun v q => ok_X6_finds (arrL a_X6_versions) hv5 q) hf rfl rfl (Nat.le_of_ble_eq_true rfl) dX6_differ_49 ⟨Nat.le_of_ble_eq_true rfl, Nat.le_of_ble_eq_true rfl⟩ (fun σ6 H locs hW6 hS6 hf => ?_)
      refine m_const (v := 0) hx hb dX6_differ_52 rfl ?_
      refine lv_istore_n (lv' := [(3, .int (i32 0)), (0, .ref (ad 230)), (1, .int (i32 x1)), (2, .int (i32 x2))]) hx hb dX6_differ_53 rfl hl (by decide) rfl (fun ls hl => ?_)
      refine m_const (v := 0) hx hb dX6_differ_54 rfl ?_
      refine lv_istore (lv' := [(4, .int (i32 0)), (3, .int (i32 0)), (0, .ref (ad 230)), (1, .int (i32 x1)), (2, .int (i32 x2))]) hx hb dX6_differ_55 hl (by decide) rfl (fun ls hl => ?_)
      exact hc57 n _ _ _ _ 0 0 (by decide) (by decide) hf hW6 hS6 (lv_sub hl [2, 1, 0] rfl)
    · skip
      refine m_const (v := 0) hx hb dX6_differ_32 rfl ?_
      exact m_ireti X hr hlocks rfl (by decide) (fun h => Bool.noConfusion h) hW3 hS3 (congrArg Prod.fst (Option.some.inj hf)) (congrArg Prod.snd (Option.some.inj hf)) hQ dX6_differ_33
  have hc21 : ∀ (σ : St) (H : Heap) (locs : List Loc) (ls : Array Slot), fX6_differ_J21 n σ x1 x2 = some (r, σ2) → Wd D cy ad nm nv σ H → va_S (AW ad nm nv sz) s.heap H locs → lv_has ls 6 [(0, .ref (ad 230)), (1, .int (i32 x1)), (2, .int (i32 x2))] → W p l e ({ frames := 7, cells := 0, slots := 0, locals := 157 } : Room) s m args below meth c H locs 0 0 Q (F0 m 21 ls [.ref (ad 230)]) := by
    intro σ H locs ls hf hW hS hl
    unfold fX6_differ_J21 at hf
    refine m_const (v := 1) hx hb dX6_differ_21 rfl ?_
    exact hc22 _ _ _ _ 1 (by decide) hf hW hS (lv_sub hl [0, 1, 2] rfl)
  refine lv_aload_n hx hb dX6_differ_0 rfl (lv_at hl 0 rfl) ?_
  refine lv_aload_n hx hb dX6_differ_1 rfl (lv_at hl 0 rfl) ?_
  refine lv_iload_n hx hb dX6_differ_2 rfl (lv_at hl 1 rfl) ?_
  refine m_callVi1 (z := true) (As := [.int (i32 x1)]) (rest := [.ref (ad 230)]) X hW hS hl.1 gc_X6_268 hd_X6_isVersion ⟨rfl, rfl, Nat.le_of_ble_eq_true rfl, Nat.le_of_ble_eq_true rfl⟩ (rc_X6 X hW) (fun v q => ok_X6_isVersion hx1 q) hf rfl rfl (Nat.le_of_ble_eq_true rfl) dX6_differ_3 ⟨Nat.le_of_ble_eq_true rfl, Nat.le_of_ble_eq_true rfl⟩ (fun v1 H locs hv1 zv1 hWv1 hSv1 hf => ?_)
  refine m_if_eq (tgt := 21) hx hb hv1 hf dX6_differ_6 (by decide) (fun hf => ?_) (fun hf => ?_)
  · skip
    exact hc21 _ _ _ _  hf hWv1 hSv1 (lv_sub hl [0, 1, 2] rfl)
  · skip
    refine lv_aload_n hx hb dX6_differ_9 rfl (lv_at hl 0 rfl) ?_
    refine lv_iload_n hx hb dX6_differ_10 rfl (lv_at hl 2 rfl) ?_
    refine m_callVi1 (z := true) (As := [.int (i32 x2)]) (rest := [.ref (ad 230)]) X hWv1 hSv1 hl.1 gc_X6_268 hd_X6_isVersion ⟨rfl, rfl, Nat.le_of_ble_eq_true rfl, Nat.le_of_ble_eq_true rfl⟩ (rc_X6 X hWv1) (fun v q => ok_X6_isVersion hx2 q) hf rfl rfl (Nat.le_of_ble_eq_true rfl) dX6_differ_11 ⟨Nat.le_of_ble_eq_true rfl, Nat.le_of_ble_eq_true rfl⟩ (fun v2 H locs hv2 zv2 hWv2 hSv2 hf => ?_)
    refine m_if_eq (tgt := 21) hx hb hv2 hf dX6_differ_14 (by decide) (fun hf => ?_) (fun hf => ?_)
    · skip
      exact hc21 _ _ _ _  hf hWv2 hSv2 (lv_sub hl [0, 1, 2] rfl)
    · skip
      refine m_const (v := 0) hx hb dX6_differ_17 rfl ?_
      refine lv_goto (tgt := 22) hx hb dX6_differ_18 (by decide) ?_
      exact hc22 _ _ _ _ 0 (by decide) hf hWv2 hSv2 (lv_sub hl [0, 1, 2] rfl)
set_option maxRecDepth 100000 in
set_option maxHeartbeats 4000000 in
theorem ok_X6_length {l : Launch} {D : va_G} {cy : Nat → ClassId} {ad : Nat → Nat} {nm nv sz : Nat} {σ : St} {n : Nat} {x1 : Int} {r : Int} {σ2 : St} (hx1 : inR x1) (hf : fX6_length n σ x1 = some (r, σ2)) : CI l yX6_length cX6_length 2 (some .int) ({ frames := 7, cells := 0, slots := 0, locals := 156 } : Room) [.ref (ad 230), .int (i32 x1)] D cy ad nm nv sz σ false r σ2 := by
  refine m_entry RX6 rfl (by decide +kernel) (Nat.le_of_ble_eq_true rfl) ?_
  intro p e s m args below meth c Q hQ hr hlocks X hW hS ls hl
  have hx := X.1
  have hb := X.2.1
  have hl : lv_has ls 2 [(0, .ref (ad 230)), (1, .int (i32 x1))] := hl
  unfold fX6_length at hf
  refine lv_iload_n hx hb dX6_length_0 rfl (lv_at hl 1 rfl) ?_
  refine m_callSi1 (z := true) (As := [.int (i32 x1)]) (rest := []) X hW hS hl.1 gc_X6_215 hd_X6_isSite ⟨rfl, rfl, Nat.le_of_ble_eq_true rfl, Nat.le_of_ble_eq_true rfl⟩ (fun v q => ok_X6_isSite hx1 q) hf rfl rfl (Nat.le_of_ble_eq_true rfl) dX6_length_1 ⟨Nat.le_of_ble_eq_true rfl, Nat.le_of_ble_eq_true rfl⟩ (fun v1 H locs hv1 zv1 hWv1 hSv1 hf => ?_)
  refine m_if_ne (tgt := 13) hx hb hv1 hf dX6_length_4 (by decide) (fun hf => ?_) (fun hf => ?_)
  · skip
    refine lv_aload_n hx hb dX6_length_13 rfl (lv_at hl 0 rfl) ?_
    refine m_const (v := 0) hx hb dX6_length_14 rfl ?_
    refine p_X6_thrown X hWv1 hSv1 (by decide) hf (X.2.2.2.2.1 _ mw1046) dX6_length_15 (fun σ2 H locs hW2 hS2 hf => ?_)
    refine lv_aload_n hx hb dX6_length_18 rfl (lv_at hl 0 rfl) ?_
    refine lv_iload_n hx hb dX6_length_19 rfl (lv_at hl 1 rfl) ?_
    refine m_callVv (As := [.int (i32 x1)]) (rest := []) X hW2 hS2 hl.1 gc_X6_208 hd_X6_findsSite ⟨rfl, rfl, Nat.le_of_ble_eq_true rfl, Nat.le_of_ble_eq_true rfl⟩ (rc_X6 X hW2) (fun v q => ok_X6_findsSite hx1 q) hf rfl rfl (Nat.le_of_ble_eq_true rfl) dX6_length_20 ⟨Nat.le_of_ble_eq_true rfl, Nat.le_of_ble_eq_true rfl⟩ (fun σ3 H locs hW3 hS3 hf => ?_)
    refine lv_aload_n hx hb dX6_length_23 rfl (lv_at hl 0 rfl) ?_
    refine m_callVi1 (z := false) (As := []) (rest := []) X hW3 hS3 hl.1 gc_X6_237 hd_X6_seen ⟨rfl, rfl, Nat.le_of_ble_eq_true rfl, Nat.le_of_ble_eq_true rfl⟩ (rc_X6 X hW3) (fun v q => ok_X6_seen  q) hf rfl rfl (Nat.le_of_ble_eq_true rfl) dX6_length_24 ⟨Nat.le_of_ble_eq_true rfl, Nat.le_of_ble_eq_true rfl⟩ (fun v4 H locs hv4 zv4 hWv4 hSv4 hf => ?_)
    exact m_ireti X hr hlocks rfl hv4 (fun h => Bool.noConfusion h) hWv4 hSv4 (congrArg Prod.fst (Option.some.inj hf)) (congrArg Prod.snd (Option.some.inj hf)) hQ dX6_length_27
  · skip
    refine lv_aload_n hx hb dX6_length_7 rfl (lv_at hl 0 rfl) ?_
    refine m_const (v := 1) hx hb dX6_length_8 rfl ?_
    refine m_callVi (z := false) (As := [.int (i32 1)]) (rest := []) X hWv1 hSv1 hl.1 gc_X6_222 hd_X6_fails ⟨rfl, rfl, Nat.le_of_ble_eq_true rfl, Nat.le_of_ble_eq_true rfl⟩ (rc_X6 X hWv1) (fun v q9 q => ok_X6_fails (by decide) q) hf rfl rfl (Nat.le_of_ble_eq_true rfl) dX6_length_9 ⟨Nat.le_of_ble_eq_true rfl, Nat.le_of_ble_eq_true rfl⟩ (fun v6 σ5 H locs hv6 zv6 hW5 hS5 hf => ?_)
    exact m_ireti X hr hlocks rfl hv6 (fun h => Bool.noConfusion h) hW5 hS5 (congrArg Prod.fst (Option.some.inj hf)) (congrArg Prod.snd (Option.some.inj hf)) hQ dX6_length_12
set_option maxRecDepth 100000 in
set_option maxHeartbeats 4000000 in
theorem ok_X6_shown {l : Launch} {D : va_G} {cy : Nat → ClassId} {ad : Nat → Nat} {nm nv sz : Nat} {σ : St} {n : Nat} {x1 : Int} {r : Int} {σ2 : St} (hx1 : inR x1) (hf : fX6_shown n σ x1 = some (r, σ2)) : CI l yX6_shown cX6_shown 4 (some .int) ({ frames := 7, cells := 0, slots := 0, locals := 156 } : Room) [.ref (ad 230), .int (i32 x1)] D cy ad nm nv sz σ false r σ2 := by
  refine m_entry RX6 rfl (by decide +kernel) (Nat.le_of_ble_eq_true rfl) ?_
  intro p e s m args below meth c Q hQ hr hlocks X hW hS ls hl
  have hx := X.1
  have hb := X.2.1
  have hl : lv_has ls 4 [(0, .ref (ad 230)), (1, .int (i32 x1))] := hl
  unfold fX6_shown at hf
  have hc27 : ∀ (k27 : Nat) (σ : St) (H : Heap) (locs : List Loc) (ls : Array Slot) (x2 : Int) (x3 : Int), inR x2 → inR x3 → fX6_shown_L27 n σ x1 k27 x2 x3 = some (r, σ2) → Wd D cy ad nm nv σ H → va_S (AW ad nm nv sz) s.heap H locs → lv_has ls 4 [(0, .ref (ad 230)), (2, .int (i32 x2)), (3, .int (i32 x3))] → W p l e ({ frames := 7, cells := 0, slots := 0, locals := 156 } : Room) s m args below meth c H locs 0 0 Q (F0 m 27 ls []) := by
    intro k27
    induction k27 with
    | zero =>
      intro σ H locs ls x2 x3 hx2 hx3 hf
      have hf : (none : Option (Int × St)) = some (r, σ2) := hf
      cases hf
    | succ k27 ih27 =>
      intro σ H locs ls x2 x3 hx2 hx3 hf hW hS hl
      have hf : fX6_shown_L27s n σ x1 (fX6_shown_L27 n σ x1 k27) x2 x3 = some (r, σ2) := hf
      unfold fX6_shown_L27s at hf
      refine lv_iload_n hx hb dX6_shown_27 rfl (lv_at hl 2 rfl) ?_
      refine lv_aload_n hx hb dX6_shown_28 rfl (lv_at hl 0 rfl) ?_
      refine g_X6_rowMany X hW (X.2.2.2.2.1 _ mw1078) dX6_shown_29 ?_
      refine m_icmp_ge (tgt := 62) hx hb hx3 (hW.2.1 _ _) hf dX6_shown_32 (by decide) (fun hf => ?_) (fun hf => ?_)
      · skip
        refine lv_iload_n hx hb dX6_shown_62 rfl (lv_at hl 1 rfl) ?_
        exact m_ireti X hr hlocks rfl hx2 (fun h => Bool.noConfusion h) hW hS (congrArg Prod.fst (Option.some.inj hf)) (congrArg Prod.snd (Option.some.inj hf)) hQ dX6_shown_63
      · skip
        refine lv_iload_n hx hb dX6_shown_35 rfl (lv_at hl 1 rfl) ?_
        refine lv_aload_n hx hb dX6_shown_36 rfl (lv_at hl 0 rfl) ?_
        refine lv_aload_n hx hb dX6_shown_37 rfl (lv_at hl 0 rfl) ?_
        refine g_X6_row X hW (X.2.2.2.2.1 _ mw1079) dX6_shown_38 ?_
        refine lv_iload_n hx hb dX6_shown_41 rfl (lv_at hl 2 rfl) ?_
        refine m_iald X hW a_X6_row hx3 hf dX6_shown_42 (fun v6 hv6 hf => ?_)
        refine m_callVi1 (z := true) (As := [.int (i32 v6)]) (rest := [.int (i32 x2)]) X hW hS hl.1 gc_X6_147 hd_X6_isShown ⟨rfl, rfl, Nat.le_of_ble_eq_true rfl, Nat.le_of_ble_eq_true rfl⟩ (rc_X6 X hW) (fun v q => ok_X6_isShown hv6 q) hf rfl rfl (Nat.le_of_ble_eq_true rfl) dX6_shown_43 ⟨Nat.le_of_ble_eq_true rfl, Nat.le_of_ble_eq_true rfl⟩ (fun v7 H locs hv7 zv7 hWv7 hSv7 hf => ?_)
        refine m_if_eq (tgt := 53) hx hb hv7 hf dX6_shown_46 (by decide) (fun hf => ?_) (fun hf => ?_)
        · skip
          refine m_const (v := 0) hx hb dX6_shown_53 rfl ?_
          refine m_iadd hx hb hf dX6_shown_54 (fun v8 hv8 hf => ?_)
          refine lv_istore_n (lv' := [(2, .int (i32 v8)), (0, .ref (ad 230)), (3, .int (i32 x3))]) hx hb dX6_shown_55 rfl hl (by decide) rfl (fun ls hl => ?_)
          refine m_iinc (k0 := 2) (fun v9 => [(3, .int (i32 v9)), (2, .int (i32 v8)), (0, .ref (ad 230))]) hx hb hf dX6_shown_56 hl rfl (by decide) (fun _ => rfl) (fun v9 ls hv9 hf hl => ?_)
          have hl : lv_has ls 4 [(3, .int (i32 v9)), (2, .int (i32 v8)), (0, .ref (ad 230))] := hl
          refine lv_goto (tgt := 27) hx hb dX6_shown_59 (by decide) ?_
          exact ih27 _ _ _ _ v8 v9 hv8 hv9 hf hWv7 hSv7 (lv_sub hl [2, 1, 0] rfl)
        · skip
          refine m_const (v := 1) hx hb dX6_shown_49 rfl ?_
          refine lv_goto (tgt := 54) hx hb dX6_shown_50 (by decide) ?_
          refine m_iadd hx hb hf dX6_shown_54 (fun v10 hv10 hf => ?_)
          refine lv_istore_n (lv' := [(2, .int (i32 v10)), (0, .ref (ad 230)), (3, .int (i32 x3))]) hx hb dX6_shown_55 rfl hl (by decide) rfl (fun ls hl => ?_)
          refine m_iinc (k0 := 2) (fun v11 => [(3, .int (i32 v11)), (2, .int (i32 v10)), (0, .ref (ad 230))]) hx hb hf dX6_shown_56 hl rfl (by decide) (fun _ => rfl) (fun v11 ls hv11 hf hl => ?_)
          have hl : lv_has ls 4 [(3, .int (i32 v11)), (2, .int (i32 v10)), (0, .ref (ad 230))] := hl
          refine lv_goto (tgt := 27) hx hb dX6_shown_59 (by decide) ?_
          exact ih27 _ _ _ _ v10 v11 hv10 hv11 hf hWv7 hSv7 (lv_sub hl [2, 1, 0] rfl)
  refine lv_iload_n hx hb dX6_shown_0 rfl (lv_at hl 1 rfl) ?_
  refine m_callSi1 (z := true) (As := [.int (i32 x1)]) (rest := []) X hW hS hl.1 gc_X6_215 hd_X6_isSite ⟨rfl, rfl, Nat.le_of_ble_eq_true rfl, Nat.le_of_ble_eq_true rfl⟩ (fun v q => ok_X6_isSite hx1 q) hf rfl rfl (Nat.le_of_ble_eq_true rfl) dX6_shown_1 ⟨Nat.le_of_ble_eq_true rfl, Nat.le_of_ble_eq_true rfl⟩ (fun v1 H locs hv1 zv1 hWv1 hSv1 hf => ?_)
  refine m_if_ne (tgt := 13) hx hb hv1 hf dX6_shown_4 (by decide) (fun hf => ?_) (fun hf => ?_)
  · skip
    refine lv_aload_n hx hb dX6_shown_13 rfl (lv_at hl 0 rfl) ?_
    refine m_const (v := 0) hx hb dX6_shown_14 rfl ?_
    refine p_X6_thrown X hWv1 hSv1 (by decide) hf (X.2.2.2.2.1 _ mw1046) dX6_shown_15 (fun σ2 H locs hW2 hS2 hf => ?_)
    refine lv_aload_n hx hb dX6_shown_18 rfl (lv_at hl 0 rfl) ?_
    refine lv_iload_n hx hb dX6_shown_19 rfl (lv_at hl 1 rfl) ?_
    refine m_callVv (As := [.int (i32 x1)]) (rest := []) X hW2 hS2 hl.1 gc_X6_208 hd_X6_findsSite ⟨rfl, rfl, Nat.le_of_ble_eq_true rfl, Nat.le_of_ble_eq_true rfl⟩ (rc_X6 X hW2) (fun v q => ok_X6_findsSite hx1 q) hf rfl rfl (Nat.le_of_ble_eq_true rfl) dX6_shown_20 ⟨Nat.le_of_ble_eq_true rfl, Nat.le_of_ble_eq_true rfl⟩ (fun σ3 H locs hW3 hS3 hf => ?_)
    refine m_const (v := 0) hx hb dX6_shown_23 rfl ?_
    refine lv_istore_n (lv' := [(2, .int (i32 0)), (0, .ref (ad 230)), (1, .int (i32 x1))]) hx hb dX6_shown_24 rfl hl (by decide) rfl (fun ls hl => ?_)
    refine m_const (v := 0) hx hb dX6_shown_25 rfl ?_
    refine lv_istore_n (lv' := [(3, .int (i32 0)), (2, .int (i32 0)), (0, .ref (ad 230)), (1, .int (i32 x1))]) hx hb dX6_shown_26 rfl hl (by decide) rfl (fun ls hl => ?_)
    exact hc27 n _ _ _ _ 0 0 (by decide) (by decide) hf hW3 hS3 (lv_sub hl [2, 1, 0] rfl)
  · skip
    refine lv_aload_n hx hb dX6_shown_7 rfl (lv_at hl 0 rfl) ?_
    refine m_const (v := 1) hx hb dX6_shown_8 rfl ?_
    refine m_callVi (z := false) (As := [.int (i32 1)]) (rest := []) X hWv1 hSv1 hl.1 gc_X6_222 hd_X6_fails ⟨rfl, rfl, Nat.le_of_ble_eq_true rfl, Nat.le_of_ble_eq_true rfl⟩ (rc_X6 X hWv1) (fun v q9 q => ok_X6_fails (by decide) q) hf rfl rfl (Nat.le_of_ble_eq_true rfl) dX6_shown_9 ⟨Nat.le_of_ble_eq_true rfl, Nat.le_of_ble_eq_true rfl⟩ (fun v5 σ4 H locs hv5 zv5 hW4 hS4 hf => ?_)
    exact m_ireti X hr hlocks rfl hv5 (fun h => Bool.noConfusion h) hW4 hS4 (congrArg Prod.fst (Option.some.inj hf)) (congrArg Prod.snd (Option.some.inj hf)) hQ dX6_shown_12
set_option maxRecDepth 100000 in
set_option maxHeartbeats 4000000 in
theorem ok_X6_isPlace {l : Launch} {D : va_G} {cy : Nat → ClassId} {ad : Nat → Nat} {nm nv sz : Nat} {σ : St} {n : Nat} {x1 : Int} {x2 : Int} {r : Int} {σ2 : St} (hx1 : inR x1) (hx2 : inR x2) (hf : fX6_isPlace n σ x1 x2 = some (r, σ2)) : CI l yX6_isPlace cX6_isPlace 3 (some .boolean) ({ frames := 7, cells := 0, slots := 0, locals := 156 } : Room) [.ref (ad 230), .int (i32 x1), .int (i32 x2)] D cy ad nm nv sz σ true r σ2 := by
  refine m_entry RX6 rfl (by decide +kernel) (Nat.le_of_ble_eq_true rfl) ?_
  intro p e s m args below meth c Q hQ hr hlocks X hW hS ls hl
  have hx := X.1
  have hb := X.2.1
  have hl : lv_has ls 3 [(0, .ref (ad 230)), (1, .int (i32 x1)), (2, .int (i32 x2))] := hl
  unfold fX6_isPlace at hf
  refine lv_iload_n hx hb dX6_isPlace_0 rfl (lv_at hl 1 rfl) ?_
  refine m_callSi1 (z := true) (As := [.int (i32 x1)]) (rest := []) X hW hS hl.1 gc_X6_215 hd_X6_isSite ⟨rfl, rfl, Nat.le_of_ble_eq_true rfl, Nat.le_of_ble_eq_true rfl⟩ (fun v q => ok_X6_isSite hx1 q) hf rfl rfl (Nat.le_of_ble_eq_true rfl) dX6_isPlace_1 ⟨Nat.le_of_ble_eq_true rfl, Nat.le_of_ble_eq_true rfl⟩ (fun v1 H locs hv1 zv1 hWv1 hSv1 hf => ?_)
  refine m_if_ne (tgt := 9) hx hb hv1 hf dX6_isPlace_4 (by decide) (fun hf => ?_) (fun hf => ?_)
  · skip
    refine lv_aload_n hx hb dX6_isPlace_9 rfl (lv_at hl 0 rfl) ?_
    refine lv_iload_n hx hb dX6_isPlace_10 rfl (lv_at hl 1 rfl) ?_
    refine m_callVv (As := [.int (i32 x1)]) (rest := []) X hWv1 hSv1 hl.1 gc_X6_208 hd_X6_findsSite ⟨rfl, rfl, Nat.le_of_ble_eq_true rfl, Nat.le_of_ble_eq_true rfl⟩ (rc_X6 X hWv1) (fun v q => ok_X6_findsSite hx1 q) hf rfl rfl (Nat.le_of_ble_eq_true rfl) dX6_isPlace_11 ⟨Nat.le_of_ble_eq_true rfl, Nat.le_of_ble_eq_true rfl⟩ (fun σ2 H locs hW2 hS2 hf => ?_)
    refine lv_iload_n hx hb dX6_isPlace_14 rfl (lv_at hl 2 rfl) ?_
    refine m_const (v := 0) hx hb dX6_isPlace_15 rfl ?_
    refine lv_aload_n hx hb dX6_isPlace_16 rfl (lv_at hl 0 rfl) ?_
    refine m_callVi1 (z := false) (As := []) (rest := [.int (i32 0), .int (i32 x2)]) X hW2 hS2 hl.1 gc_X6_237 hd_X6_seen ⟨rfl, rfl, Nat.le_of_ble_eq_true rfl, Nat.le_of_ble_eq_true rfl⟩ (rc_X6 X hW2) (fun v q => ok_X6_seen  q) hf rfl rfl (Nat.le_of_ble_eq_true rfl) dX6_isPlace_17 ⟨Nat.le_of_ble_eq_true rfl, Nat.le_of_ble_eq_true rfl⟩ (fun v3 H locs hv3 zv3 hWv3 hSv3 hf => ?_)
    refine m_const (v := 1) hx hb dX6_isPlace_20 rfl ?_
    refine m_isub hx hb hf dX6_isPlace_21 (fun v4 hv4 hf => ?_)
    refine m_callSi1 (z := true) (As := [.int (i32 x2), .int (i32 0), .int (i32 v4)]) (rest := []) X hWv3 hSv3 hl.1 gc_X6_130 hd_X6_isIn ⟨rfl, rfl, Nat.le_of_ble_eq_true rfl, Nat.le_of_ble_eq_true rfl⟩ (fun v q => ok_X6_isIn hx2 (by decide) hv4 q) hf rfl rfl (Nat.le_of_ble_eq_true rfl) dX6_isPlace_22 ⟨Nat.le_of_ble_eq_true rfl, Nat.le_of_ble_eq_true rfl⟩ (fun v5 H locs hv5 zv5 hWv5 hSv5 hf => ?_)
    exact m_ireti X hr hlocks (nar_b (zv5 rfl)).1 hv5 (fun _ => (zv5 rfl)) hWv5 hSv5 (congrArg Prod.fst (Option.some.inj hf)) (congrArg Prod.snd (Option.some.inj hf)) hQ dX6_isPlace_25
  · skip
    refine m_const (v := 0) hx hb dX6_isPlace_7 rfl ?_
    exact m_ireti X hr hlocks (nar_b (Or.inl rfl)).1 (by decide) (fun _ => (Or.inl rfl)) hWv1 hSv1 (congrArg Prod.fst (Option.some.inj hf)) (congrArg Prod.snd (Option.some.inj hf)) hQ dX6_isPlace_8
set_option maxRecDepth 100000 in
set_option maxHeartbeats 4000000 in
theorem ok_X6_element {l : Launch} {D : va_G} {cy : Nat → ClassId} {ad : Nat → Nat} {nm nv sz : Nat} {σ : St} {n : Nat} {x1 : Int} {x2 : Int} {r : Int} {σ2 : St} (hx1 : inR x1) (hx2 : inR x2) (hf : fX6_element n σ x1 x2 = some (r, σ2)) : CI l yX6_element cX6_element 3 (some .int) ({ frames := 8, cells := 0, slots := 0, locals := 178 } : Room) [.ref (ad 230), .int (i32 x1), .int (i32 x2)] D cy ad nm nv sz σ false r σ2 := by
  refine m_entry RX6 rfl (by decide +kernel) (Nat.le_of_ble_eq_true rfl) ?_
  intro p e s m args below meth c Q hQ hr hlocks X hW hS ls hl
  have hx := X.1
  have hb := X.2.1
  have hl : lv_has ls 3 [(0, .ref (ad 230)), (1, .int (i32 x1)), (2, .int (i32 x2))] := hl
  unfold fX6_element at hf
  have hc15 : ∀ (σ : St) (H : Heap) (locs : List Loc) (ls : Array Slot) (t0 : Int), inR t0 → fX6_element_J15 n σ x1 x2 t0 = some (r, σ2) → Wd D cy ad nm nv σ H → va_S (AW ad nm nv sz) s.heap H locs → lv_has ls 3 [(0, .ref (ad 230)), (2, .int (i32 x2))] → W p l e ({ frames := 8, cells := 0, slots := 0, locals := 178 } : Room) s m args below meth c H locs 0 0 Q (F0 m 15 ls [.int (i32 t0), .ref (ad 230)]) := by
    intro σ H locs ls t0 ht0 hf hW hS hl
    unfold fX6_element_J15 at hf
    refine p_X6_thrown X hW hS ht0 hf (X.2.2.2.2.1 _ mw1046) dX6_element_15 (fun σ3 H locs hW3 hS3 hf => ?_)
    refine lv_aload_n hx hb dX6_element_18 rfl (lv_at hl 0 rfl) ?_
    refine g_X6_thrown X hW3 (X.2.2.2.2.1 _ mw1046) dX6_element_19 ?_
    refine m_if_le (tgt := 29) hx hb (hW3.2.1 _ _) hf dX6_element_22 (by decide) (fun hf => ?_) (fun hf => ?_)
    · skip
      refine lv_aload_n hx hb dX6_element_29 rfl (lv_at hl 0 rfl) ?_
      refine lv_iload_n hx hb dX6_element_30 rfl (lv_at hl 1 rfl) ?_
      refine m_callVi1 (z := false) (As := [.int (i32 x2)]) (rest := []) X hW3 hS3 hl.1 gc_X6_234 hd_X6_seenAt ⟨rfl, rfl, Nat.le_of_ble_eq_true rfl, Nat.le_of_ble_eq_true rfl⟩ (rc_X6 X hW3) (fun v q => ok_X6_seenAt hx2 q) hf rfl rfl (Nat.le_of_ble_eq_true rfl) dX6_element_31 ⟨Nat.le_of_ble_eq_true rfl, Nat.le_of_ble_eq_true rfl⟩ (fun v4 H locs hv4 zv4 hWv4 hSv4 hf => ?_)
      exact m_ireti X hr hlocks rfl hv4 (fun h => Bool.noConfusion h) hWv4 hSv4 (congrArg Prod.fst (Option.some.inj hf)) (congrArg Prod.snd (Option.some.inj hf)) hQ dX6_element_34
    · skip
      refine m_const (v := 0) hx hb dX6_element_25 rfl ?_
      refine lv_goto (tgt := 34) hx hb dX6_element_26 (by decide) ?_
      exact m_ireti X hr hlocks rfl (by decide) (fun h => Bool.noConfusion h) hW3 hS3 (congrArg Prod.fst (Option.some.inj hf)) (congrArg Prod.snd (Option.some.inj hf)) hQ dX6_element_34
  refine lv_aload_n hx hb dX6_element_0 rfl (lv_at hl 0 rfl) ?_
  refine lv_aload_n hx hb dX6_element_1 rfl (lv_at hl 0 rfl) ?_
  refine lv_iload_n hx hb dX6_element_2 rfl (lv_at hl 1 rfl) ?_
  refine lv_iload_n hx hb dX6_element_3 rfl (lv_at hl 2 rfl) ?_
  refine m_callVi (z := true) (As := [.int (i32 x1), .int (i32 x2)]) (rest := [.ref (ad 230)]) X hW hS hl.1 gc_X6_274 hd_X6_isPlace ⟨rfl, rfl, Nat.le_of_ble_eq_true rfl, Nat.le_of_ble_eq_true rfl⟩ (rc_X6 X hW) (fun v q9 q => ok_X6_isPlace hx1 hx2 q) hf rfl rfl (Nat.le_of_ble_eq_true rfl) dX6_element_4 ⟨Nat.le_of_ble_eq_true rfl, Nat.le_of_ble_eq_true rfl⟩ (fun v2 σ1 H locs hv2 zv2 hW1 hS1 hf => ?_)
  refine m_if_eq (tgt := 14) hx hb hv2 hf dX6_element_7 (by decide) (fun hf => ?_) (fun hf => ?_)
  · skip
    refine m_const (v := 1) hx hb dX6_element_14 rfl ?_
    exact hc15 _ _ _ _ 1 (by decide) hf hW1 hS1 (lv_sub hl [0, 2] rfl)
  · skip
    refine m_const (v := 0) hx hb dX6_element_10 rfl ?_
    refine lv_goto (tgt := 15) hx hb dX6_element_11 (by decide) ?_
    exact hc15 _ _ _ _ 0 (by decide) hf hW1 hS1 (lv_sub hl [0, 2] rfl)
set_option maxRecDepth 100000 in
set_option maxHeartbeats 4000000 in
theorem ok_X6_elementAnew {l : Launch} {D : va_G} {cy : Nat → ClassId} {ad : Nat → Nat} {nm nv sz : Nat} {σ : St} {n : Nat} {x1 : Int} {x2 : Int} {r : Int} {σ2 : St} (hx1 : inR x1) (hx2 : inR x2) (hf : fX6_elementAnew n σ x1 x2 = some (r, σ2)) : CI l yX6_elementAnew cX6_elementAnew 3 (some .int) ({ frames := 9, cells := 0, slots := 0, locals := 200 } : Room) [.ref (ad 230), .int (i32 x1), .int (i32 x2)] D cy ad nm nv sz σ false r σ2 := by
  refine m_entry RX6 rfl (by decide +kernel) (Nat.le_of_ble_eq_true rfl) ?_
  intro p e s m args below meth c Q hQ hr hlocks X hW hS ls hl
  have hx := X.1
  have hb := X.2.1
  have hl : lv_has ls 3 [(0, .ref (ad 230)), (1, .int (i32 x1)), (2, .int (i32 x2))] := hl
  unfold fX6_elementAnew at hf
  refine lv_aload_n hx hb dX6_elementAnew_0 rfl (lv_at hl 0 rfl) ?_
  refine lv_iload_n hx hb dX6_elementAnew_1 rfl (lv_at hl 1 rfl) ?_
  refine lv_iload_n hx hb dX6_elementAnew_2 rfl (lv_at hl 2 rfl) ?_
  refine m_callVi (z := false) (As := [.int (i32 x1), .int (i32 x2)]) (rest := []) X hW hS hl.1 gc_X6_277 hd_X6_element ⟨rfl, rfl, Nat.le_of_ble_eq_true rfl, Nat.le_of_ble_eq_true rfl⟩ (rc_X6 X hW) (fun v q9 q => ok_X6_element hx1 hx2 q) hf rfl rfl (Nat.le_of_ble_eq_true rfl) dX6_elementAnew_3 ⟨Nat.le_of_ble_eq_true rfl, Nat.le_of_ble_eq_true rfl⟩ (fun v2 σ1 H locs hv2 zv2 hW1 hS1 hf => ?_)
  exact m_ireti X hr hlocks rfl hv2 (fun h => Bool.noConfusion h) hW1 hS1 (congrArg Prod.fst (Option.some.inj hf)) (congrArg Prod.snd (Option.some.inj hf)) hQ dX6_elementAnew_6
set_option maxRecDepth 100000 in
set_option maxHeartbeats 4000000 in
theorem ok_X6_letter {l : Launch} {D : va_G} {cy : Nat → ClassId} {ad : Nat → Nat} {nm nv sz : Nat} {σ : St} {n : Nat} {x1 : Int} {x2 : Int} {r : Int} {σ2 : St} (hx1 : inR x1) (hx2 : inR x2) (hf : fX6_letter n σ x1 x2 = some (r, σ2)) : CI l yX6_letter cX6_letter 3 (some .char) ({ frames := 8, cells := 0, slots := 0, locals := 178 } : Room) [.ref (ad 230), .int (i32 x1), .int (i32 x2)] D cy ad nm nv sz σ false r σ2 := by
  refine m_entry RX6 rfl (by decide +kernel) (Nat.le_of_ble_eq_true rfl) ?_
  intro p e s m args below meth c Q hQ hr hlocks X hW hS ls hl
  have hx := X.1
  have hb := X.2.1
  have hl : lv_has ls 3 [(0, .ref (ad 230)), (1, .int (i32 x1)), (2, .int (i32 x2))] := hl
  unfold fX6_letter at hf
  have hc15 : ∀ (σ : St) (H : Heap) (locs : List Loc) (ls : Array Slot) (t0 : Int), inR t0 → fX6_letter_J15 n σ x1 x2 t0 = some (r, σ2) → Wd D cy ad nm nv σ H → va_S (AW ad nm nv sz) s.heap H locs → lv_has ls 3 [(0, .ref (ad 230)), (2, .int (i32 x2))] → W p l e ({ frames := 8, cells := 0, slots := 0, locals := 178 } : Room) s m args below meth c H locs 0 0 Q (F0 m 15 ls [.int (i32 t0), .ref (ad 230)]) := by
    intro σ H locs ls t0 ht0 hf hW hS hl
    unfold fX6_letter_J15 at hf
    refine p_X6_thrown X hW hS ht0 hf (X.2.2.2.2.1 _ mw1046) dX6_letter_15 (fun σ3 H locs hW3 hS3 hf => ?_)
    refine lv_aload_n hx hb dX6_letter_18 rfl (lv_at hl 0 rfl) ?_
    refine g_X6_thrown X hW3 (X.2.2.2.2.1 _ mw1046) dX6_letter_19 ?_
    refine m_if_le (tgt := 29) hx hb (hW3.2.1 _ _) hf dX6_letter_22 (by decide) (fun hf => ?_) (fun hf => ?_)
    · skip
      refine lv_aload_n hx hb dX6_letter_29 rfl (lv_at hl 0 rfl) ?_
      refine g_X6_twos X hW3 (X.2.2.2.2.1 _ mw1052) dX6_letter_30 ?_
      refine lv_aload_n hx hb dX6_letter_33 rfl (lv_at hl 0 rfl) ?_
      refine lv_iload_n hx hb dX6_letter_34 rfl (lv_at hl 1 rfl) ?_
      refine m_callVi1 (z := false) (As := [.int (i32 x2)]) (rest := [.ref (ad 237)]) X hW3 hS3 hl.1 gc_X6_234 hd_X6_seenAt ⟨rfl, rfl, Nat.le_of_ble_eq_true rfl, Nat.le_of_ble_eq_true rfl⟩ (rc_X6 X hW3) (fun v q => ok_X6_seenAt hx2 q) hf rfl rfl (Nat.le_of_ble_eq_true rfl) dX6_letter_35 ⟨Nat.le_of_ble_eq_true rfl, Nat.le_of_ble_eq_true rfl⟩ (fun v4 H locs hv4 zv4 hWv4 hSv4 hf => ?_)
      refine m_iald X hWv4 a_X6_twos hv4 hf dX6_letter_38 (fun v5 hv5 hf => ?_)
      refine m_i2c hx hb hf dX6_letter_39 (fun v6 hv6 cv6 hf => ?_)
      exact m_ireti X hr hlocks (nar_c cv6) hv6 (fun h => Bool.noConfusion h) hWv4 hSv4 (congrArg Prod.fst (Option.some.inj hf)) (congrArg Prod.snd (Option.some.inj hf)) hQ dX6_letter_40
    · skip
      refine m_const (v := 0) hx hb dX6_letter_25 rfl ?_
      refine lv_goto (tgt := 40) hx hb dX6_letter_26 (by decide) ?_
      obtain ⟨hc7, hf⟩ := rc_of hf
      exact m_ireti X hr hlocks (nar_c hc7) (by decide) (fun h => Bool.noConfusion h) hW3 hS3 (congrArg Prod.fst (Option.some.inj hf)) (congrArg Prod.snd (Option.some.inj hf)) hQ dX6_letter_40
  refine lv_aload_n hx hb dX6_letter_0 rfl (lv_at hl 0 rfl) ?_
  refine lv_aload_n hx hb dX6_letter_1 rfl (lv_at hl 0 rfl) ?_
  refine lv_iload_n hx hb dX6_letter_2 rfl (lv_at hl 1 rfl) ?_
  refine lv_iload_n hx hb dX6_letter_3 rfl (lv_at hl 2 rfl) ?_
  refine m_callVi (z := true) (As := [.int (i32 x1), .int (i32 x2)]) (rest := [.ref (ad 230)]) X hW hS hl.1 gc_X6_274 hd_X6_isPlace ⟨rfl, rfl, Nat.le_of_ble_eq_true rfl, Nat.le_of_ble_eq_true rfl⟩ (rc_X6 X hW) (fun v q9 q => ok_X6_isPlace hx1 hx2 q) hf rfl rfl (Nat.le_of_ble_eq_true rfl) dX6_letter_4 ⟨Nat.le_of_ble_eq_true rfl, Nat.le_of_ble_eq_true rfl⟩ (fun v2 σ1 H locs hv2 zv2 hW1 hS1 hf => ?_)
  refine m_if_eq (tgt := 14) hx hb hv2 hf dX6_letter_7 (by decide) (fun hf => ?_) (fun hf => ?_)
  · skip
    refine m_const (v := 1) hx hb dX6_letter_14 rfl ?_
    exact hc15 _ _ _ _ 1 (by decide) hf hW1 hS1 (lv_sub hl [0, 2] rfl)
  · skip
    refine m_const (v := 0) hx hb dX6_letter_10 rfl ?_
    refine lv_goto (tgt := 15) hx hb dX6_letter_11 (by decide) ?_
    exact hc15 _ _ _ _ 0 (by decide) hf hW1 hS1 (lv_sub hl [0, 2] rfl)
set_option maxRecDepth 100000 in
set_option maxHeartbeats 4000000 in
theorem ok_X6_proposed {l : Launch} {D : va_G} {cy : Nat → ClassId} {ad : Nat → Nat} {nm nv sz : Nat} {σ : St} {n : Nat} {x1 : Int} {x2 : Int} {r : Int} {σ2 : St} (hx1 : inR x1) (hx2 : inR x2) (hf : fX6_proposed n σ x1 x2 = some (r, σ2)) : CI l yX6_proposed cX6_proposed 6 (some .int) ({ frames := 8, cells := 0, slots := 0, locals := 178 } : Room) [.ref (ad 230), .int (i32 x1), .int (i32 x2)] D cy ad nm nv sz σ false r σ2 := by
  refine m_entry RX6 rfl (by decide +kernel) (Nat.le_of_ble_eq_true rfl) ?_
  intro p e s m args below meth c Q hQ hr hlocks X hW hS ls hl
  have hx := X.1
  have hb := X.2.1
  have hl : lv_has ls 6 [(0, .ref (ad 230)), (1, .int (i32 x1)), (2, .int (i32 x2))] := hl
  unfold fX6_proposed at hf
  have hc127 : ∀ (σ : St) (H : Heap) (locs : List Loc) (ls : Array Slot) (x4 : Int) (t0 : Int), inR x4 → inR t0 → fX6_proposed_J127 n σ x1 x2 x4 t0 = some (r, σ2) → Wd D cy ad nm nv σ H → va_S (AW ad nm nv sz) s.heap H locs → lv_has ls 6 [(4, .int (i32 x4))] → W p l e ({ frames := 8, cells := 0, slots := 0, locals := 178 } : Room) s m args below meth c H locs 0 0 Q (F0 m 127 ls [.int (i32 t0)]) := by
    intro σ H locs ls x4 t0 hx4 ht0 hf hW hS hl
    unfold fX6_proposed_J127 at hf
    refine lv_iload hx hb dX6_proposed_127 (lv_at hl 0 rfl) ?_
    refine m_if_eq (tgt := 136) hx hb hx4 hf dX6_proposed_129 (by decide) (fun hf => ?_) (fun hf => ?_)
    · skip
      refine m_const (v := 0) hx hb dX6_proposed_136 rfl ?_
      refine m_iadd hx hb hf dX6_proposed_137 (fun v17 hv17 hf => ?_)
      exact m_ireti X hr hlocks rfl hv17 (fun h => Bool.noConfusion h) hW hS (congrArg Prod.fst (Option.some.inj hf)) (congrArg Prod.snd (Option.some.inj hf)) hQ dX6_proposed_138
    · skip
      refine m_const (v := 2) hx hb dX6_proposed_132 rfl ?_
      refine lv_goto (tgt := 137) hx hb dX6_proposed_133 (by decide) ?_
      refine m_iadd hx hb hf dX6_proposed_137 (fun v18 hv18 hf => ?_)
      exact m_ireti X hr hlocks rfl hv18 (fun h => Bool.noConfusion h) hW hS (congrArg Prod.fst (Option.some.inj hf)) (congrArg Prod.snd (Option.some.inj hf)) hQ dX6_proposed_138
  have hc39 : ∀ (k39 : Nat) (σ : St) (H : Heap) (locs : List Loc) (ls : Array Slot) (x3 : Int) (x4 : Int) (x5 : Int), inR x3 → inR x4 → inR x5 → fX6_proposed_L39 n σ x1 x2 x3 k39 x4 x5 = some (r, σ2) → Wd D cy ad nm nv σ H → va_S (AW ad nm nv sz) s.heap H locs → lv_has ls 6 [(0, .ref (ad 230)), (3, .int (i32 x3)), (4, .int (i32 x4)), (5, .int (i32 x5))] → W p l e ({ frames := 8, cells := 0, slots := 0, locals := 178 } : Room) s m args below meth c H locs 0 0 Q (F0 m 39 ls []) := by
    intro k39
    induction k39 with
    | zero =>
      intro σ H locs ls x3 x4 x5 hx3 hx4 hx5 hf
      have hf : (none : Option (Int × St)) = some (r, σ2) := hf
      cases hf
    | succ k39 ih39 =>
      intro σ H locs ls x3 x4 x5 hx3 hx4 hx5 hf hW hS hl
      have hf : fX6_proposed_L39s n σ x1 x2 x3 (fX6_proposed_L39 n σ x1 x2 x3 k39) x4 x5 = some (r, σ2) := hf
      unfold fX6_proposed_L39s at hf
      refine lv_iload hx hb dX6_proposed_39 (lv_at hl 3 rfl) ?_
      refine lv_aload_n hx hb dX6_proposed_41 rfl (lv_at hl 0 rfl) ?_
      refine g_X6_orderMany X hW (X.2.2.2.2.1 _ mw1075) dX6_proposed_42 ?_
      refine m_icmp_ge (tgt := 112) hx hb hx5 (hW.2.1 _ _) hf dX6_proposed_45 (by decide) (fun hf => ?_) (fun hf => ?_)
      · skip
        refine lv_aload_n hx hb dX6_proposed_112 rfl (lv_at hl 0 rfl) ?_
        refine g_X6_states X hW (X.2.2.2.2.1 _ mw1080) dX6_proposed_113 ?_
        refine lv_iload_n hx hb dX6_proposed_116 rfl (lv_at hl 1 rfl) ?_
        refine m_iald X hW a_X6_states hx3 hf dX6_proposed_117 (fun v5 hv5 hf => ?_)
        refine m_const (v := 1) hx hb dX6_proposed_118 rfl ?_
        refine m_icmp_ne (tgt := 126) hx hb hv5 (by decide) hf dX6_proposed_119 (by decide) (fun hf => ?_) (fun hf => ?_)
        · skip
          refine m_const (v := 0) hx hb dX6_proposed_126 rfl ?_
          exact hc127 _ _ _ _ x4 0 hx4 (by decide) hf hW hS (lv_sub hl [2] rfl)
        · skip
          refine m_const (v := 1) hx hb dX6_proposed_122 rfl ?_
          refine lv_goto (tgt := 127) hx hb dX6_proposed_123 (by decide) ?_
          exact hc127 _ _ _ _ x4 1 hx4 (by decide) hf hW hS (lv_sub hl [2] rfl)
      · skip
        refine lv_iload hx hb dX6_proposed_48 (lv_at hl 2 rfl) ?_
        refine m_if_ne (tgt := 99) hx hb hx4 hf dX6_proposed_50 (by decide) (fun hf => ?_) (fun hf => ?_)
        · skip
          refine m_const (v := 1) hx hb dX6_proposed_99 rfl ?_
          refine lv_goto (tgt := 104) hx hb dX6_proposed_100 (by decide) ?_
          refine lv_istore (lv' := [(4, .int (i32 1)), (0, .ref (ad 230)), (3, .int (i32 x3)), (5, .int (i32 x5))]) hx hb dX6_proposed_104 hl (by decide) rfl (fun ls hl => ?_)
          refine m_iinc (k0 := 3) (fun v6 => [(5, .int (i32 v6)), (4, .int (i32 1)), (0, .ref (ad 230)), (3, .int (i32 x3))]) hx hb hf dX6_proposed_106 hl rfl (by decide) (fun _ => rfl) (fun v6 ls hv6 hf hl => ?_)
          have hl : lv_has ls 6 [(5, .int (i32 v6)), (4, .int (i32 1)), (0, .ref (ad 230)), (3, .int (i32 x3))] := hl
          refine lv_goto (tgt := 39) hx hb dX6_proposed_109 (by decide) ?_
          exact ih39 _ _ _ _ x3 1 v6 hx3 (by decide) hv6 hf hW hS (lv_sub hl [2, 3, 1, 0] rfl)
        · skip
          refine lv_aload_n hx hb dX6_proposed_53 rfl (lv_at hl 0 rfl) ?_
          refine g_X6_kinds X hW (X.2.2.2.2.1 _ mw1050) dX6_proposed_54 ?_
          refine lv_aload_n hx hb dX6_proposed_57 rfl (lv_at hl 0 rfl) ?_
          refine g_X6_order X hW (X.2.2.2.2.1 _ mw1076) dX6_proposed_58 ?_
          refine lv_iload hx hb dX6_proposed_61 (lv_at hl 3 rfl) ?_
          refine m_iald X hW a_X6_order hx5 hf dX6_proposed_63 (fun v7 hv7 hf => ?_)
          refine m_iald X hW a_X6_kinds hv7 hf dX6_proposed_64 (fun v8 hv8 hf => ?_)
          refine m_const (v := 2) hx hb dX6_proposed_65 rfl ?_
          refine m_icmp_ne (tgt := 103) hx hb hv8 (by decide) hf dX6_proposed_66 (by decide) (fun hf => ?_) (fun hf => ?_)
          · skip
            refine m_const (v := 0) hx hb dX6_proposed_103 rfl ?_
            refine lv_istore (lv' := [(4, .int (i32 0)), (0, .ref (ad 230)), (3, .int (i32 x3)), (5, .int (i32 x5))]) hx hb dX6_proposed_104 hl (by decide) rfl (fun ls hl => ?_)
            refine m_iinc (k0 := 3) (fun v9 => [(5, .int (i32 v9)), (4, .int (i32 0)), (0, .ref (ad 230)), (3, .int (i32 x3))]) hx hb hf dX6_proposed_106 hl rfl (by decide) (fun _ => rfl) (fun v9 ls hv9 hf hl => ?_)
            have hl : lv_has ls 6 [(5, .int (i32 v9)), (4, .int (i32 0)), (0, .ref (ad 230)), (3, .int (i32 x3))] := hl
            refine lv_goto (tgt := 39) hx hb dX6_proposed_109 (by decide) ?_
            exact ih39 _ _ _ _ x3 0 v9 hx3 (by decide) hv9 hf hW hS (lv_sub hl [2, 3, 1, 0] rfl)
          · skip
            refine lv_aload_n hx hb dX6_proposed_69 rfl (lv_at hl 0 rfl) ?_
            refine g_X6_ones X hW (X.2.2.2.2.1 _ mw1051) dX6_proposed_70 ?_
            refine lv_aload_n hx hb dX6_proposed_73 rfl (lv_at hl 0 rfl) ?_
            refine g_X6_order X hW (X.2.2.2.2.1 _ mw1076) dX6_proposed_74 ?_
            refine lv_iload hx hb dX6_proposed_77 (lv_at hl 3 rfl) ?_
            refine m_iald X hW a_X6_order hx5 hf dX6_proposed_79 (fun v10 hv10 hf => ?_)
            refine m_iald X hW a_X6_ones hv10 hf dX6_proposed_80 (fun v11 hv11 hf => ?_)
            refine lv_iload_n hx hb dX6_proposed_81 rfl (lv_at hl 1 rfl) ?_
            refine m_icmp_ne (tgt := 103) hx hb hv11 hx3 hf dX6_proposed_82 (by decide) (fun hf => ?_) (fun hf => ?_)
            · skip
              refine m_const (v := 0) hx hb dX6_proposed_103 rfl ?_
              refine lv_istore (lv' := [(4, .int (i32 0)), (0, .ref (ad 230)), (3, .int (i32 x3)), (5, .int (i32 x5))]) hx hb dX6_proposed_104 hl (by decide) rfl (fun ls hl => ?_)
              refine m_iinc (k0 := 3) (fun v12 => [(5, .int (i32 v12)), (4, .int (i32 0)), (0, .ref (ad 230)), (3, .int (i32 x3))]) hx hb hf dX6_proposed_106 hl rfl (by decide) (fun _ => rfl) (fun v12 ls hv12 hf hl => ?_)
              have hl : lv_has ls 6 [(5, .int (i32 v12)), (4, .int (i32 0)), (0, .ref (ad 230)), (3, .int (i32 x3))] := hl
              refine lv_goto (tgt := 39) hx hb dX6_proposed_109 (by decide) ?_
              exact ih39 _ _ _ _ x3 0 v12 hx3 (by decide) hv12 hf hW hS (lv_sub hl [2, 3, 1, 0] rfl)
            · skip
              refine lv_aload_n hx hb dX6_proposed_85 rfl (lv_at hl 0 rfl) ?_
              refine lv_aload_n hx hb dX6_proposed_86 rfl (lv_at hl 0 rfl) ?_
              refine g_X6_order X hW (X.2.2.2.2.1 _ mw1076) dX6_proposed_87 ?_
              refine lv_iload hx hb dX6_proposed_90 (lv_at hl 3 rfl) ?_
              refine m_iald X hW a_X6_order hx5 hf dX6_proposed_92 (fun v13 hv13 hf => ?_)
              refine m_callVi1 (z := true) (As := [.int (i32 v13)]) (rest := []) X hW hS hl.1 gc_X6_195 hd_X6_isOpen ⟨rfl, rfl, Nat.le_of_ble_eq_true rfl, Nat.le_of_ble_eq_true rfl⟩ (rc_X6 X hW) (fun v q => ok_X6_isOpen hv13 q) hf rfl rfl (Nat.le_of_ble_eq_true rfl) dX6_proposed_93 ⟨Nat.le_of_ble_eq_true rfl, Nat.le_of_ble_eq_true rfl⟩ (fun v14 H locs hv14 zv14 hWv14 hSv14 hf => ?_)
              refine m_if_eq (tgt := 103) hx hb hv14 hf dX6_proposed_96 (by decide) (fun hf => ?_) (fun hf => ?_)
              · skip
                refine m_const (v := 0) hx hb dX6_proposed_103 rfl ?_
                refine lv_istore (lv' := [(4, .int (i32 0)), (0, .ref (ad 230)), (3, .int (i32 x3)), (5, .int (i32 x5))]) hx hb dX6_proposed_104 hl (by decide) rfl (fun ls hl => ?_)
                refine m_iinc (k0 := 3) (fun v15 => [(5, .int (i32 v15)), (4, .int (i32 0)), (0, .ref (ad 230)), (3, .int (i32 x3))]) hx hb hf dX6_proposed_106 hl rfl (by decide) (fun _ => rfl) (fun v15 ls hv15 hf hl => ?_)
                have hl : lv_has ls 6 [(5, .int (i32 v15)), (4, .int (i32 0)), (0, .ref (ad 230)), (3, .int (i32 x3))] := hl
                refine lv_goto (tgt := 39) hx hb dX6_proposed_109 (by decide) ?_
                exact ih39 _ _ _ _ x3 0 v15 hx3 (by decide) hv15 hf hWv14 hSv14 (lv_sub hl [2, 3, 1, 0] rfl)
              · skip
                refine m_const (v := 1) hx hb dX6_proposed_99 rfl ?_
                refine lv_goto (tgt := 104) hx hb dX6_proposed_100 (by decide) ?_
                refine lv_istore (lv' := [(4, .int (i32 1)), (0, .ref (ad 230)), (3, .int (i32 x3)), (5, .int (i32 x5))]) hx hb dX6_proposed_104 hl (by decide) rfl (fun ls hl => ?_)
                refine m_iinc (k0 := 3) (fun v16 => [(5, .int (i32 v16)), (4, .int (i32 1)), (0, .ref (ad 230)), (3, .int (i32 x3))]) hx hb hf dX6_proposed_106 hl rfl (by decide) (fun _ => rfl) (fun v16 ls hv16 hf hl => ?_)
                have hl : lv_has ls 6 [(5, .int (i32 v16)), (4, .int (i32 1)), (0, .ref (ad 230)), (3, .int (i32 x3))] := hl
                refine lv_goto (tgt := 39) hx hb dX6_proposed_109 (by decide) ?_
                exact ih39 _ _ _ _ x3 1 v16 hx3 (by decide) hv16 hf hWv14 hSv14 (lv_sub hl [2, 3, 1, 0] rfl)
  have hc15 : ∀ (σ : St) (H : Heap) (locs : List Loc) (ls : Array Slot) (t0 : Int), inR t0 → fX6_proposed_J15 n σ x1 x2 t0 = some (r, σ2) → Wd D cy ad nm nv σ H → va_S (AW ad nm nv sz) s.heap H locs → lv_has ls 6 [(0, .ref (ad 230)), (2, .int (i32 x2))] → W p l e ({ frames := 8, cells := 0, slots := 0, locals := 178 } : Room) s m args below meth c H locs 0 0 Q (F0 m 15 ls [.int (i32 t0), .ref (ad 230)]) := by
    intro σ H locs ls t0 ht0 hf hW hS hl
    unfold fX6_proposed_J15 at hf
    refine p_X6_thrown X hW hS ht0 hf (X.2.2.2.2.1 _ mw1046) dX6_proposed_15 (fun σ3 H locs hW3 hS3 hf => ?_)
    refine lv_aload_n hx hb dX6_proposed_18 rfl (lv_at hl 0 rfl) ?_
    refine g_X6_thrown X hW3 (X.2.2.2.2.1 _ mw1046) dX6_proposed_19 ?_
    refine m_if_le (tgt := 27) hx hb (hW3.2.1 _ _) hf dX6_proposed_22 (by decide) (fun hf => ?_) (fun hf => ?_)
    · skip
      refine lv_aload_n hx hb dX6_proposed_27 rfl (lv_at hl 0 rfl) ?_
      refine lv_iload_n hx hb dX6_proposed_28 rfl (lv_at hl 1 rfl) ?_
      refine m_callVi1 (z := false) (As := [.int (i32 x2)]) (rest := []) X hW3 hS3 hl.1 gc_X6_234 hd_X6_seenAt ⟨rfl, rfl, Nat.le_of_ble_eq_true rfl, Nat.le_of_ble_eq_true rfl⟩ (rc_X6 X hW3) (fun v q => ok_X6_seenAt hx2 q) hf rfl rfl (Nat.le_of_ble_eq_true rfl) dX6_proposed_29 ⟨Nat.le_of_ble_eq_true rfl, Nat.le_of_ble_eq_true rfl⟩ (fun v4 H locs hv4 zv4 hWv4 hSv4 hf => ?_)
      refine lv_istore_n (lv' := [(3, .int (i32 v4)), (0, .ref (ad 230)), (2, .int (i32 x2))]) hx hb dX6_proposed_32 rfl hl (by decide) rfl (fun ls hl => ?_)
      refine m_const (v := 0) hx hb dX6_proposed_33 rfl ?_
      refine lv_istore (lv' := [(4, .int (i32 0)), (3, .int (i32 v4)), (0, .ref (ad 230)), (2, .int (i32 x2))]) hx hb dX6_proposed_34 hl (by decide) rfl (fun ls hl => ?_)
      refine m_const (v := 0) hx hb dX6_proposed_36 rfl ?_
      refine lv_istore (lv' := [(5, .int (i32 0)), (4, .int (i32 0)), (3, .int (i32 v4)), (0, .ref (ad 230)), (2, .int (i32 x2))]) hx hb dX6_proposed_37 hl (by decide) rfl (fun ls hl => ?_)
      exact hc39 n _ _ _ _ v4 0 0 hv4 (by decide) (by decide) hf hWv4 hSv4 (lv_sub hl [3, 2, 1, 0] rfl)
    · skip
      refine m_const (v := 0) hx hb dX6_proposed_25 rfl ?_
      exact m_ireti X hr hlocks rfl (by decide) (fun h => Bool.noConfusion h) hW3 hS3 (congrArg Prod.fst (Option.some.inj hf)) (congrArg Prod.snd (Option.some.inj hf)) hQ dX6_proposed_26
  refine lv_aload_n hx hb dX6_proposed_0 rfl (lv_at hl 0 rfl) ?_
  refine lv_aload_n hx hb dX6_proposed_1 rfl (lv_at hl 0 rfl) ?_
  refine lv_iload_n hx hb dX6_proposed_2 rfl (lv_at hl 1 rfl) ?_
  refine lv_iload_n hx hb dX6_proposed_3 rfl (lv_at hl 2 rfl) ?_
  refine m_callVi (z := true) (As := [.int (i32 x1), .int (i32 x2)]) (rest := [.ref (ad 230)]) X hW hS hl.1 gc_X6_274 hd_X6_isPlace ⟨rfl, rfl, Nat.le_of_ble_eq_true rfl, Nat.le_of_ble_eq_true rfl⟩ (rc_X6 X hW) (fun v q9 q => ok_X6_isPlace hx1 hx2 q) hf rfl rfl (Nat.le_of_ble_eq_true rfl) dX6_proposed_4 ⟨Nat.le_of_ble_eq_true rfl, Nat.le_of_ble_eq_true rfl⟩ (fun v2 σ1 H locs hv2 zv2 hW1 hS1 hf => ?_)
  refine m_if_eq (tgt := 14) hx hb hv2 hf dX6_proposed_7 (by decide) (fun hf => ?_) (fun hf => ?_)
  · skip
    refine m_const (v := 1) hx hb dX6_proposed_14 rfl ?_
    exact hc15 _ _ _ _ 1 (by decide) hf hW1 hS1 (lv_sub hl [0, 2] rfl)
  · skip
    refine m_const (v := 0) hx hb dX6_proposed_10 rfl ?_
    refine lv_goto (tgt := 15) hx hb dX6_proposed_11 (by decide) ?_
    exact hc15 _ _ _ _ 0 (by decide) hf hW1 hS1 (lv_sub hl [0, 2] rfl)
set_option maxRecDepth 100000 in
set_option maxHeartbeats 4000000 in
theorem ok_X6_open {l : Launch} {D : va_G} {cy : Nat → ClassId} {ad : Nat → Nat} {nm nv sz : Nat} {σ : St} {n : Nat} {x1 : Int} {r : Int} {σ2 : St} (hx1 : inR x1) (hf : fX6_open n σ x1 = some (r, σ2)) : CI l yX6_open cX6_open 4 (some .int) ({ frames := 7, cells := 0, slots := 0, locals := 156 } : Room) [.ref (ad 230), .int (i32 x1)] D cy ad nm nv sz σ false r σ2 := by
  refine m_entry RX6 rfl (by decide +kernel) (Nat.le_of_ble_eq_true rfl) ?_
  intro p e s m args below meth c Q hQ hr hlocks X hW hS ls hl
  have hx := X.1
  have hb := X.2.1
  have hl : lv_has ls 4 [(0, .ref (ad 230)), (1, .int (i32 x1))] := hl
  unfold fX6_open at hf
  have hc27 : ∀ (k27 : Nat) (σ : St) (H : Heap) (locs : List Loc) (ls : Array Slot) (x2 : Int) (x3 : Int), inR x2 → inR x3 → fX6_open_L27 n σ x1 k27 x2 x3 = some (r, σ2) → Wd D cy ad nm nv σ H → va_S (AW ad nm nv sz) s.heap H locs → lv_has ls 4 [(0, .ref (ad 230)), (2, .int (i32 x2)), (3, .int (i32 x3))] → W p l e ({ frames := 7, cells := 0, slots := 0, locals := 156 } : Room) s m args below meth c H locs 0 0 Q (F0 m 27 ls []) := by
    intro k27
    induction k27 with
    | zero =>
      intro σ H locs ls x2 x3 hx2 hx3 hf
      have hf : (none : Option (Int × St)) = some (r, σ2) := hf
      cases hf
    | succ k27 ih27 =>
      intro σ H locs ls x2 x3 hx2 hx3 hf hW hS hl
      have hf : fX6_open_L27s n σ x1 (fX6_open_L27 n σ x1 k27) x2 x3 = some (r, σ2) := hf
      unfold fX6_open_L27s at hf
      refine lv_iload_n hx hb dX6_open_27 rfl (lv_at hl 2 rfl) ?_
      refine lv_aload_n hx hb dX6_open_28 rfl (lv_at hl 0 rfl) ?_
      refine g_X6_orderMany X hW (X.2.2.2.2.1 _ mw1075) dX6_open_29 ?_
      refine m_icmp_ge (tgt := 62) hx hb hx3 (hW.2.1 _ _) hf dX6_open_32 (by decide) (fun hf => ?_) (fun hf => ?_)
      · skip
        refine lv_iload_n hx hb dX6_open_62 rfl (lv_at hl 1 rfl) ?_
        exact m_ireti X hr hlocks rfl hx2 (fun h => Bool.noConfusion h) hW hS (congrArg Prod.fst (Option.some.inj hf)) (congrArg Prod.snd (Option.some.inj hf)) hQ dX6_open_63
      · skip
        refine lv_iload_n hx hb dX6_open_35 rfl (lv_at hl 1 rfl) ?_
        refine lv_aload_n hx hb dX6_open_36 rfl (lv_at hl 0 rfl) ?_
        refine lv_aload_n hx hb dX6_open_37 rfl (lv_at hl 0 rfl) ?_
        refine g_X6_order X hW (X.2.2.2.2.1 _ mw1076) dX6_open_38 ?_
        refine lv_iload_n hx hb dX6_open_41 rfl (lv_at hl 2 rfl) ?_
        refine m_iald X hW a_X6_order hx3 hf dX6_open_42 (fun v6 hv6 hf => ?_)
        refine m_callVi1 (z := true) (As := [.int (i32 v6)]) (rest := [.int (i32 x2)]) X hW hS hl.1 gc_X6_195 hd_X6_isOpen ⟨rfl, rfl, Nat.le_of_ble_eq_true rfl, Nat.le_of_ble_eq_true rfl⟩ (rc_X6 X hW) (fun v q => ok_X6_isOpen hv6 q) hf rfl rfl (Nat.le_of_ble_eq_true rfl) dX6_open_43 ⟨Nat.le_of_ble_eq_true rfl, Nat.le_of_ble_eq_true rfl⟩ (fun v7 H locs hv7 zv7 hWv7 hSv7 hf => ?_)
        refine m_if_eq (tgt := 53) hx hb hv7 hf dX6_open_46 (by decide) (fun hf => ?_) (fun hf => ?_)
        · skip
          refine m_const (v := 0) hx hb dX6_open_53 rfl ?_
          refine m_iadd hx hb hf dX6_open_54 (fun v8 hv8 hf => ?_)
          refine lv_istore_n (lv' := [(2, .int (i32 v8)), (0, .ref (ad 230)), (3, .int (i32 x3))]) hx hb dX6_open_55 rfl hl (by decide) rfl (fun ls hl => ?_)
          refine m_iinc (k0 := 2) (fun v9 => [(3, .int (i32 v9)), (2, .int (i32 v8)), (0, .ref (ad 230))]) hx hb hf dX6_open_56 hl rfl (by decide) (fun _ => rfl) (fun v9 ls hv9 hf hl => ?_)
          have hl : lv_has ls 4 [(3, .int (i32 v9)), (2, .int (i32 v8)), (0, .ref (ad 230))] := hl
          refine lv_goto (tgt := 27) hx hb dX6_open_59 (by decide) ?_
          exact ih27 _ _ _ _ v8 v9 hv8 hv9 hf hWv7 hSv7 (lv_sub hl [2, 1, 0] rfl)
        · skip
          refine m_const (v := 1) hx hb dX6_open_49 rfl ?_
          refine lv_goto (tgt := 54) hx hb dX6_open_50 (by decide) ?_
          refine m_iadd hx hb hf dX6_open_54 (fun v10 hv10 hf => ?_)
          refine lv_istore_n (lv' := [(2, .int (i32 v10)), (0, .ref (ad 230)), (3, .int (i32 x3))]) hx hb dX6_open_55 rfl hl (by decide) rfl (fun ls hl => ?_)
          refine m_iinc (k0 := 2) (fun v11 => [(3, .int (i32 v11)), (2, .int (i32 v10)), (0, .ref (ad 230))]) hx hb hf dX6_open_56 hl rfl (by decide) (fun _ => rfl) (fun v11 ls hv11 hf hl => ?_)
          have hl : lv_has ls 4 [(3, .int (i32 v11)), (2, .int (i32 v10)), (0, .ref (ad 230))] := hl
          refine lv_goto (tgt := 27) hx hb dX6_open_59 (by decide) ?_
          exact ih27 _ _ _ _ v10 v11 hv10 hv11 hf hWv7 hSv7 (lv_sub hl [2, 1, 0] rfl)
  refine lv_iload_n hx hb dX6_open_0 rfl (lv_at hl 1 rfl) ?_
  refine m_callSi1 (z := true) (As := [.int (i32 x1)]) (rest := []) X hW hS hl.1 gc_X6_215 hd_X6_isSite ⟨rfl, rfl, Nat.le_of_ble_eq_true rfl, Nat.le_of_ble_eq_true rfl⟩ (fun v q => ok_X6_isSite hx1 q) hf rfl rfl (Nat.le_of_ble_eq_true rfl) dX6_open_1 ⟨Nat.le_of_ble_eq_true rfl, Nat.le_of_ble_eq_true rfl⟩ (fun v1 H locs hv1 zv1 hWv1 hSv1 hf => ?_)
  refine m_if_ne (tgt := 13) hx hb hv1 hf dX6_open_4 (by decide) (fun hf => ?_) (fun hf => ?_)
  · skip
    refine lv_aload_n hx hb dX6_open_13 rfl (lv_at hl 0 rfl) ?_
    refine m_const (v := 0) hx hb dX6_open_14 rfl ?_
    refine p_X6_thrown X hWv1 hSv1 (by decide) hf (X.2.2.2.2.1 _ mw1046) dX6_open_15 (fun σ2 H locs hW2 hS2 hf => ?_)
    refine lv_aload_n hx hb dX6_open_18 rfl (lv_at hl 0 rfl) ?_
    refine lv_iload_n hx hb dX6_open_19 rfl (lv_at hl 1 rfl) ?_
    refine m_callVv (As := [.int (i32 x1)]) (rest := []) X hW2 hS2 hl.1 gc_X6_208 hd_X6_findsSite ⟨rfl, rfl, Nat.le_of_ble_eq_true rfl, Nat.le_of_ble_eq_true rfl⟩ (rc_X6 X hW2) (fun v q => ok_X6_findsSite hx1 q) hf rfl rfl (Nat.le_of_ble_eq_true rfl) dX6_open_20 ⟨Nat.le_of_ble_eq_true rfl, Nat.le_of_ble_eq_true rfl⟩ (fun σ3 H locs hW3 hS3 hf => ?_)
    refine m_const (v := 0) hx hb dX6_open_23 rfl ?_
    refine lv_istore_n (lv' := [(2, .int (i32 0)), (0, .ref (ad 230)), (1, .int (i32 x1))]) hx hb dX6_open_24 rfl hl (by decide) rfl (fun ls hl => ?_)
    refine m_const (v := 0) hx hb dX6_open_25 rfl ?_
    refine lv_istore_n (lv' := [(3, .int (i32 0)), (2, .int (i32 0)), (0, .ref (ad 230)), (1, .int (i32 x1))]) hx hb dX6_open_26 rfl hl (by decide) rfl (fun ls hl => ?_)
    exact hc27 n _ _ _ _ 0 0 (by decide) (by decide) hf hW3 hS3 (lv_sub hl [2, 1, 0] rfl)
  · skip
    refine lv_aload_n hx hb dX6_open_7 rfl (lv_at hl 0 rfl) ?_
    refine m_const (v := 1) hx hb dX6_open_8 rfl ?_
    refine m_callVi (z := false) (As := [.int (i32 1)]) (rest := []) X hWv1 hSv1 hl.1 gc_X6_222 hd_X6_fails ⟨rfl, rfl, Nat.le_of_ble_eq_true rfl, Nat.le_of_ble_eq_true rfl⟩ (rc_X6 X hWv1) (fun v q9 q => ok_X6_fails (by decide) q) hf rfl rfl (Nat.le_of_ble_eq_true rfl) dX6_open_9 ⟨Nat.le_of_ble_eq_true rfl, Nat.le_of_ble_eq_true rfl⟩ (fun v5 σ4 H locs hv5 zv5 hW4 hS4 hf => ?_)
    exact m_ireti X hr hlocks rfl hv5 (fun h => Bool.noConfusion h) hW4 hS4 (congrArg Prod.fst (Option.some.inj hf)) (congrArg Prod.snd (Option.some.inj hf)) hQ dX6_open_12
set_option maxRecDepth 100000 in
set_option maxHeartbeats 4000000 in
theorem ok_X6_isMarked {l : Launch} {D : va_G} {cy : Nat → ClassId} {ad : Nat → Nat} {nm nv sz : Nat} {σ : St} {n : Nat} {x1 : Int} {x2 : Int} {x3 : Int} {r : Int} {σ2 : St} (hx1 : inR x1) (hx2 : inR x2) (hx3 : inR x3) (hf : fX6_isMarked n σ x1 x2 x3 = some (r, σ2)) : CI l yX6_isMarked cX6_isMarked 4 (some .boolean) ({ frames := 8, cells := 0, slots := 0, locals := 178 } : Room) [.ref (ad 230), .int (i32 x1), .int (i32 x2), .int (i32 x3)] D cy ad nm nv sz σ true r σ2 := by
  refine m_entry RX6 rfl (by decide +kernel) (Nat.le_of_ble_eq_true rfl) ?_
  intro p e s m args below meth c Q hQ hr hlocks X hW hS ls hl
  have hx := X.1
  have hb := X.2.1
  have hl : lv_has ls 4 [(0, .ref (ad 230)), (1, .int (i32 x1)), (2, .int (i32 x2)), (3, .int (i32 x3))] := hl
  unfold fX6_isMarked at hf
  have hc28 : ∀ (σ : St) (H : Heap) (locs : List Loc) (ls : Array Slot) (t0 : Int), inR t0 → fX6_isMarked_J28 n σ x1 x2 x3 t0 = some (r, σ2) → Wd D cy ad nm nv σ H → va_S (AW ad nm nv sz) s.heap H locs → lv_has ls 4 [(0, .ref (ad 230)), (2, .int (i32 x2)), (3, .int (i32 x3))] → W p l e ({ frames := 8, cells := 0, slots := 0, locals := 178 } : Room) s m args below meth c H locs 0 0 Q (F0 m 28 ls [.int (i32 t0), .ref (ad 230)]) := by
    intro σ H locs ls t0 ht0 hf hW hS hl
    unfold fX6_isMarked_J28 at hf
    refine p_X6_thrown X hW hS ht0 hf (X.2.2.2.2.1 _ mw1046) dX6_isMarked_28 (fun σ4 H locs hW4 hS4 hf => ?_)
    refine lv_aload_n hx hb dX6_isMarked_31 rfl (lv_at hl 0 rfl) ?_
    refine g_X6_thrown X hW4 (X.2.2.2.2.1 _ mw1046) dX6_isMarked_32 ?_
    refine m_if_ne (tgt := 60) hx hb (hW4.2.1 _ _) hf dX6_isMarked_35 (by decide) (fun hf => ?_) (fun hf => ?_)
    · skip
      refine m_const (v := 0) hx hb dX6_isMarked_60 rfl ?_
      exact m_ireti X hr hlocks (nar_b (Or.inl rfl)).1 (by decide) (fun _ => (Or.inl rfl)) hW4 hS4 (congrArg Prod.fst (Option.some.inj hf)) (congrArg Prod.snd (Option.some.inj hf)) hQ dX6_isMarked_61
    · skip
      refine lv_aload_n hx hb dX6_isMarked_38 rfl (lv_at hl 0 rfl) ?_
      refine g_X6_marks X hW4 (X.2.2.2.2.1 _ mw1082) dX6_isMarked_39 ?_
      refine lv_aload_n hx hb dX6_isMarked_42 rfl (lv_at hl 0 rfl) ?_
      refine lv_iload_n hx hb dX6_isMarked_43 rfl (lv_at hl 1 rfl) ?_
      refine m_callVi1 (z := false) (As := [.int (i32 x2)]) (rest := [.ref (ad 267)]) X hW4 hS4 hl.1 gc_X6_234 hd_X6_seenAt ⟨rfl, rfl, Nat.le_of_ble_eq_true rfl, Nat.le_of_ble_eq_true rfl⟩ (rc_X6 X hW4) (fun v q => ok_X6_seenAt hx2 q) hf rfl rfl (Nat.le_of_ble_eq_true rfl) dX6_isMarked_44 ⟨Nat.le_of_ble_eq_true rfl, Nat.le_of_ble_eq_true rfl⟩ (fun v5 H locs hv5 zv5 hWv5 hSv5 hf => ?_)
      refine m_iald X hWv5 a_X6_marks hv5 hf dX6_isMarked_47 (fun v6 hv6 hf => ?_)
      refine lv_iload_n hx hb dX6_isMarked_48 rfl (lv_at hl 2 rfl) ?_
      refine m_ishr hx hb hf dX6_isMarked_49 (fun v7 hv7 hf => ?_)
      refine m_const (v := 1) hx hb dX6_isMarked_50 rfl ?_
      refine m_iand hx hb hf dX6_isMarked_51 (fun v8 hv8 hf => ?_)
      refine m_const (v := 1) hx hb dX6_isMarked_52 rfl ?_
      refine m_icmp_ne (tgt := 60) hx hb hv8 (by decide) hf dX6_isMarked_53 (by decide) (fun hf => ?_) (fun hf => ?_)
      · skip
        refine m_const (v := 0) hx hb dX6_isMarked_60 rfl ?_
        exact m_ireti X hr hlocks (nar_b (Or.inl rfl)).1 (by decide) (fun _ => (Or.inl rfl)) hWv5 hSv5 (congrArg Prod.fst (Option.some.inj hf)) (congrArg Prod.snd (Option.some.inj hf)) hQ dX6_isMarked_61
      · skip
        refine m_const (v := 1) hx hb dX6_isMarked_56 rfl ?_
        refine lv_goto (tgt := 61) hx hb dX6_isMarked_57 (by decide) ?_
        exact m_ireti X hr hlocks (nar_b (Or.inr rfl)).1 (by decide) (fun _ => (Or.inr rfl)) hWv5 hSv5 (congrArg Prod.fst (Option.some.inj hf)) (congrArg Prod.snd (Option.some.inj hf)) hQ dX6_isMarked_61
  refine lv_aload_n hx hb dX6_isMarked_0 rfl (lv_at hl 0 rfl) ?_
  refine lv_aload_n hx hb dX6_isMarked_1 rfl (lv_at hl 0 rfl) ?_
  refine lv_iload_n hx hb dX6_isMarked_2 rfl (lv_at hl 1 rfl) ?_
  refine lv_iload_n hx hb dX6_isMarked_3 rfl (lv_at hl 2 rfl) ?_
  refine m_callVi (z := true) (As := [.int (i32 x1), .int (i32 x2)]) (rest := [.ref (ad 230)]) X hW hS hl.1 gc_X6_274 hd_X6_isPlace ⟨rfl, rfl, Nat.le_of_ble_eq_true rfl, Nat.le_of_ble_eq_true rfl⟩ (rc_X6 X hW) (fun v q9 q => ok_X6_isPlace hx1 hx2 q) hf rfl rfl (Nat.le_of_ble_eq_true rfl) dX6_isMarked_4 ⟨Nat.le_of_ble_eq_true rfl, Nat.le_of_ble_eq_true rfl⟩ (fun v2 σ1 H locs hv2 zv2 hW1 hS1 hf => ?_)
  refine m_if_ne (tgt := 14) hx hb hv2 hf dX6_isMarked_7 (by decide) (fun hf => ?_) (fun hf => ?_)
  · skip
    refine lv_iload_n hx hb dX6_isMarked_14 rfl (lv_at hl 3 rfl) ?_
    refine m_const (v := 0) hx hb dX6_isMarked_15 rfl ?_
    refine m_const (v := 1) hx hb dX6_isMarked_16 rfl ?_
    refine m_callSi1 (z := true) (As := [.int (i32 x3), .int (i32 0), .int (i32 1)]) (rest := [.ref (ad 230)]) X hW1 hS1 hl.1 gc_X6_130 hd_X6_isIn ⟨rfl, rfl, Nat.le_of_ble_eq_true rfl, Nat.le_of_ble_eq_true rfl⟩ (fun v q => ok_X6_isIn hx3 (by decide) (by decide) q) hf rfl rfl (Nat.le_of_ble_eq_true rfl) dX6_isMarked_17 ⟨Nat.le_of_ble_eq_true rfl, Nat.le_of_ble_eq_true rfl⟩ (fun v3 H locs hv3 zv3 hWv3 hSv3 hf => ?_)
    refine m_if_eq (tgt := 27) hx hb hv3 hf dX6_isMarked_20 (by decide) (fun hf => ?_) (fun hf => ?_)
    · skip
      refine m_const (v := 2) hx hb dX6_isMarked_27 rfl ?_
      exact hc28 _ _ _ _ 2 (by decide) hf hWv3 hSv3 (lv_sub hl [0, 2, 3] rfl)
    · skip
      refine m_const (v := 0) hx hb dX6_isMarked_23 rfl ?_
      refine lv_goto (tgt := 28) hx hb dX6_isMarked_24 (by decide) ?_
      exact hc28 _ _ _ _ 0 (by decide) hf hWv3 hSv3 (lv_sub hl [0, 2, 3] rfl)
  · skip
    refine m_const (v := 1) hx hb dX6_isMarked_10 rfl ?_
    refine lv_goto (tgt := 28) hx hb dX6_isMarked_11 (by decide) ?_
    exact hc28 _ _ _ _ 1 (by decide) hf hW1 hS1 (lv_sub hl [0, 2, 3] rfl)
set_option maxRecDepth 100000 in
set_option maxHeartbeats 4000000 in
theorem ok_X6_covered {l : Launch} {D : va_G} {cy : Nat → ClassId} {ad : Nat → Nat} {nm nv sz : Nat} {σ : St} {n : Nat} {x1 : Int} {x2 : Int} {r : Int} {σ2 : St} (hx1 : inR x1) (hx2 : inR x2) (hf : fX6_covered n σ x1 x2 = some (r, σ2)) : CI l yX6_covered cX6_covered 5 (some .int) ({ frames := 7, cells := 0, slots := 0, locals := 156 } : Room) [.ref (ad 230), .int (i32 x1), .int (i32 x2)] D cy ad nm nv sz σ false r σ2 := by
  refine m_entry RX6 rfl (by decide +kernel) (Nat.le_of_ble_eq_true rfl) ?_
  intro p e s m args below meth c Q hQ hr hlocks X hW hS ls hl
  have hx := X.1
  have hb := X.2.1
  have hl : lv_has ls 5 [(0, .ref (ad 230)), (1, .int (i32 x1)), (2, .int (i32 x2))] := hl
  unfold fX6_covered at hf
  have hc57 : ∀ (k57 : Nat) (σ : St) (H : Heap) (locs : List Loc) (ls : Array Slot) (x3 : Int) (x4 : Int), inR x3 → inR x4 → fX6_covered_L57 n σ x1 x2 k57 x3 x4 = some (r, σ2) → Wd D cy ad nm nv σ H → va_S (AW ad nm nv sz) s.heap H locs → lv_has ls 5 [(0, .ref (ad 230)), (2, .int (i32 x2)), (3, .int (i32 x3)), (4, .int (i32 x4))] → W p l e ({ frames := 7, cells := 0, slots := 0, locals := 156 } : Room) s m args below meth c H locs 0 0 Q (F0 m 57 ls []) := by
    intro k57
    induction k57 with
    | zero =>
      intro σ H locs ls x3 x4 hx3 hx4 hf
      have hf : (none : Option (Int × St)) = some (r, σ2) := hf
      cases hf
    | succ k57 ih57 =>
      intro σ H locs ls x3 x4 hx3 hx4 hf hW hS hl
      have hf : fX6_covered_L57s n σ x1 x2 (fX6_covered_L57 n σ x1 x2 k57) x3 x4 = some (r, σ2) := hf
      unfold fX6_covered_L57s at hf
      refine lv_iload hx hb dX6_covered_57 (lv_at hl 3 rfl) ?_
      refine lv_aload_n hx hb dX6_covered_59 rfl (lv_at hl 0 rfl) ?_
      refine g_X6_rowMany X hW (X.2.2.2.2.1 _ mw1078) dX6_covered_60 ?_
      refine m_icmp_ge (tgt := 119) hx hb hx4 (hW.2.1 _ _) hf dX6_covered_63 (by decide) (fun hf => ?_) (fun hf => ?_)
      · skip
        refine lv_iload_n hx hb dX6_covered_119 rfl (lv_at hl 2 rfl) ?_
        exact m_ireti X hr hlocks rfl hx3 (fun h => Bool.noConfusion h) hW hS (congrArg Prod.fst (Option.some.inj hf)) (congrArg Prod.snd (Option.some.inj hf)) hQ dX6_covered_120
      · skip
        refine lv_iload_n hx hb dX6_covered_66 rfl (lv_at hl 2 rfl) ?_
        refine lv_aload_n hx hb dX6_covered_67 rfl (lv_at hl 0 rfl) ?_
        refine lv_aload_n hx hb dX6_covered_68 rfl (lv_at hl 0 rfl) ?_
        refine g_X6_row X hW (X.2.2.2.2.1 _ mw1079) dX6_covered_69 ?_
        refine lv_iload hx hb dX6_covered_72 (lv_at hl 3 rfl) ?_
        refine m_iald X hW a_X6_row hx4 hf dX6_covered_74 (fun v6 hv6 hf => ?_)
        refine m_callVi1 (z := true) (As := [.int (i32 v6)]) (rest := [.int (i32 x3)]) X hW hS hl.1 gc_X6_189 hd_X6_isSeen ⟨rfl, rfl, Nat.le_of_ble_eq_true rfl, Nat.le_of_ble_eq_true rfl⟩ (rc_X6 X hW) (fun v q => ok_X6_isSeen hv6 q) hf rfl rfl (Nat.le_of_ble_eq_true rfl) dX6_covered_75 ⟨Nat.le_of_ble_eq_true rfl, Nat.le_of_ble_eq_true rfl⟩ (fun v7 H locs hv7 zv7 hWv7 hSv7 hf => ?_)
        refine m_if_eq (tgt := 110) hx hb hv7 hf dX6_covered_78 (by decide) (fun hf => ?_) (fun hf => ?_)
        · skip
          refine m_const (v := 0) hx hb dX6_covered_110 rfl ?_
          refine m_iadd hx hb hf dX6_covered_111 (fun v8 hv8 hf => ?_)
          refine lv_istore_n (lv' := [(3, .int (i32 v8)), (0, .ref (ad 230)), (2, .int (i32 x2)), (4, .int (i32 x4))]) hx hb dX6_covered_112 rfl hl (by decide) rfl (fun ls hl => ?_)
          refine m_iinc (k0 := 3) (fun v9 => [(4, .int (i32 v9)), (3, .int (i32 v8)), (0, .ref (ad 230)), (2, .int (i32 x2))]) hx hb hf dX6_covered_113 hl rfl (by decide) (fun _ => rfl) (fun v9 ls hv9 hf hl => ?_)
          have hl : lv_has ls 5 [(4, .int (i32 v9)), (3, .int (i32 v8)), (0, .ref (ad 230)), (2, .int (i32 x2))] := hl
          refine lv_goto (tgt := 57) hx hb dX6_covered_116 (by decide) ?_
          exact ih57 _ _ _ _ v8 v9 hv8 hv9 hf hWv7 hSv7 (lv_sub hl [2, 3, 1, 0] rfl)
        · skip
          refine lv_aload_n hx hb dX6_covered_81 rfl (lv_at hl 0 rfl) ?_
          refine g_X6_covers X hWv7 (X.2.2.2.2.1 _ mw1083) dX6_covered_82 ?_
          refine lv_aload_n hx hb dX6_covered_85 rfl (lv_at hl 0 rfl) ?_
          refine g_X6_row X hWv7 (X.2.2.2.2.1 _ mw1079) dX6_covered_86 ?_
          refine lv_iload hx hb dX6_covered_89 (lv_at hl 3 rfl) ?_
          refine m_iald X hWv7 a_X6_row hx4 hf dX6_covered_91 (fun v10 hv10 hf => ?_)
          refine m_iald X hWv7 a_X6_covers hv10 hf dX6_covered_92 (fun v11 hv11 hf => ?_)
          refine lv_aload_n hx hb dX6_covered_93 rfl (lv_at hl 0 rfl) ?_
          refine g_X6_commentOf X hWv7 (X.2.2.2.2.1 _ mw1057) dX6_covered_94 ?_
          refine lv_iload_n hx hb dX6_covered_97 rfl (lv_at hl 1 rfl) ?_
          refine m_iald X hWv7 a_X6_commentOf hx2 hf dX6_covered_98 (fun v12 hv12 hf => ?_)
          refine m_ishr hx hb hf dX6_covered_99 (fun v13 hv13 hf => ?_)
          refine m_const (v := 1) hx hb dX6_covered_100 rfl ?_
          refine m_iand hx hb hf dX6_covered_101 (fun v14 hv14 hf => ?_)
          refine m_const (v := 1) hx hb dX6_covered_102 rfl ?_
          refine m_icmp_ne (tgt := 110) hx hb hv14 (by decide) hf dX6_covered_103 (by decide) (fun hf => ?_) (fun hf => ?_)
          · skip
            refine m_const (v := 0) hx hb dX6_covered_110 rfl ?_
            refine m_iadd hx hb hf dX6_covered_111 (fun v15 hv15 hf => ?_)
            refine lv_istore_n (lv' := [(3, .int (i32 v15)), (0, .ref (ad 230)), (2, .int (i32 x2)), (4, .int (i32 x4))]) hx hb dX6_covered_112 rfl hl (by decide) rfl (fun ls hl => ?_)
            refine m_iinc (k0 := 3) (fun v16 => [(4, .int (i32 v16)), (3, .int (i32 v15)), (0, .ref (ad 230)), (2, .int (i32 x2))]) hx hb hf dX6_covered_113 hl rfl (by decide) (fun _ => rfl) (fun v16 ls hv16 hf hl => ?_)
            have hl : lv_has ls 5 [(4, .int (i32 v16)), (3, .int (i32 v15)), (0, .ref (ad 230)), (2, .int (i32 x2))] := hl
            refine lv_goto (tgt := 57) hx hb dX6_covered_116 (by decide) ?_
            exact ih57 _ _ _ _ v15 v16 hv15 hv16 hf hWv7 hSv7 (lv_sub hl [2, 3, 1, 0] rfl)
          · skip
            refine m_const (v := 1) hx hb dX6_covered_106 rfl ?_
            refine lv_goto (tgt := 111) hx hb dX6_covered_107 (by decide) ?_
            refine m_iadd hx hb hf dX6_covered_111 (fun v17 hv17 hf => ?_)
            refine lv_istore_n (lv' := [(3, .int (i32 v17)), (0, .ref (ad 230)), (2, .int (i32 x2)), (4, .int (i32 x4))]) hx hb dX6_covered_112 rfl hl (by decide) rfl (fun ls hl => ?_)
            refine m_iinc (k0 := 3) (fun v18 => [(4, .int (i32 v18)), (3, .int (i32 v17)), (0, .ref (ad 230)), (2, .int (i32 x2))]) hx hb hf dX6_covered_113 hl rfl (by decide) (fun _ => rfl) (fun v18 ls hv18 hf hl => ?_)
            have hl : lv_has ls 5 [(4, .int (i32 v18)), (3, .int (i32 v17)), (0, .ref (ad 230)), (2, .int (i32 x2))] := hl
            refine lv_goto (tgt := 57) hx hb dX6_covered_116 (by decide) ?_
            exact ih57 _ _ _ _ v17 v18 hv17 hv18 hf hWv7 hSv7 (lv_sub hl [2, 3, 1, 0] rfl)
  have hc22 : ∀ (σ : St) (H : Heap) (locs : List Loc) (ls : Array Slot) (t0 : Int), inR t0 → fX6_covered_J22 n σ x1 x2 t0 = some (r, σ2) → Wd D cy ad nm nv σ H → va_S (AW ad nm nv sz) s.heap H locs → lv_has ls 5 [(0, .ref (ad 230)), (1, .int (i32 x1)), (2, .int (i32 x2))] → W p l e ({ frames := 7, cells := 0, slots := 0, locals := 156 } : Room) s m args below meth c H locs 0 0 Q (F0 m 22 ls [.int (i32 t0), .ref (ad 230)]) := by
    intro σ H locs ls t0 ht0 hf hW hS hl
    unfold fX6_covered_J22 at hf
    refine p_X6_thrown X hW hS ht0 hf (X.2.2.2.2.1 _ mw1046) dX6_covered_22 (fun σ3 H locs hW3 hS3 hf => ?_)
    refine lv_aload_n hx hb dX6_covered_25 rfl (lv_at hl 0 rfl) ?_
    refine g_X6_thrown X hW3 (X.2.2.2.2.1 _ mw1046) dX6_covered_26 ?_
    refine m_if_le (tgt := 34) hx hb (hW3.2.1 _ _) hf dX6_covered_29 (by decide) (fun hf => ?_) (fun hf => ?_)
    · skip
      refine lv_aload_n hx hb dX6_covered_34 rfl (lv_at hl 0 rfl) ?_
      refine g_X6_kinds X hW3 (X.2.2.2.2.1 _ mw1050) dX6_covered_35 ?_
      refine lv_iload_n hx hb dX6_covered_38 rfl (lv_at hl 2 rfl) ?_
      refine m_iald X hW3 a_X6_kinds hx2 hf dX6_covered_39 (fun v4 hv4 hf => ?_)
      refine m_bipush (v := 7) hx hb dX6_covered_40 (by decide) ?_
      refine m_icmp_eq (tgt := 47) hx hb hv4 (by decide) hf dX6_covered_42 (by decide) (fun hf => ?_) (fun hf => ?_)
      · skip
        refine lv_aload_n hx hb dX6_covered_47 rfl (lv_at hl 0 rfl) ?_
        refine lv_iload_n hx hb dX6_covered_48 rfl (lv_at hl 1 rfl) ?_
        refine m_callVv (As := [.int (i32 x1)]) (rest := []) X hW3 hS3 hl.1 gc_X6_208 hd_X6_findsSite ⟨rfl, rfl, Nat.le_of_ble_eq_true rfl, Nat.le_of_ble_eq_true rfl⟩ (rc_X6 X hW3) (fun v q => ok_X6_findsSite hx1 q) hf rfl rfl (Nat.le_of_ble_eq_true rfl) dX6_covered_49 ⟨Nat.le_of_ble_eq_true rfl, Nat.le_of_ble_eq_true rfl⟩ (fun σ5 H locs hW5 hS5 hf => ?_)
        refine m_const (v := 0) hx hb dX6_covered_52 rfl ?_
        refine lv_istore_n (lv' := [(3, .int (i32 0)), (0, .ref (ad 230)), (1, .int (i32 x1)), (2, .int (i32 x2))]) hx hb dX6_covered_53 rfl hl (by decide) rfl (fun ls hl => ?_)
        refine m_const (v := 0) hx hb dX6_covered_54 rfl ?_
        refine lv_istore (lv' := [(4, .int (i32 0)), (3, .int (i32 0)), (0, .ref (ad 230)), (1, .int (i32 x1)), (2, .int (i32 x2))]) hx hb dX6_covered_55 hl (by decide) rfl (fun ls hl => ?_)
        exact hc57 n _ _ _ _ 0 0 (by decide) (by decide) hf hW5 hS5 (lv_sub hl [2, 4, 1, 0] rfl)
      · skip
        refine m_const (v := (-1)) hx hb dX6_covered_45 rfl ?_
        exact m_ireti X hr hlocks rfl (by decide) (fun h => Bool.noConfusion h) hW3 hS3 (congrArg Prod.fst (Option.some.inj hf)) (congrArg Prod.snd (Option.some.inj hf)) hQ dX6_covered_46
    · skip
      refine m_const (v := 0) hx hb dX6_covered_32 rfl ?_
      exact m_ireti X hr hlocks rfl (by decide) (fun h => Bool.noConfusion h) hW3 hS3 (congrArg Prod.fst (Option.some.inj hf)) (congrArg Prod.snd (Option.some.inj hf)) hQ dX6_covered_33
  have hc21 : ∀ (σ : St) (H : Heap) (locs : List Loc) (ls : Array Slot), fX6_covered_J21 n σ x1 x2 = some (r, σ2) → Wd D cy ad nm nv σ H → va_S (AW ad nm nv sz) s.heap H locs → lv_has ls 5 [(0, .ref (ad 230)), (1, .int (i32 x1)), (2, .int (i32 x2))] → W p l e ({ frames := 7, cells := 0, slots := 0, locals := 156 } : Room) s m args below meth c H locs 0 0 Q (F0 m 21 ls [.ref (ad 230)]) := by
    intro σ H locs ls hf hW hS hl
    unfold fX6_covered_J21 at hf
    refine m_const (v := 1) hx hb dX6_covered_21 rfl ?_
    exact hc22 _ _ _ _ 1 (by decide) hf hW hS (lv_sub hl [0, 1, 2] rfl)
  refine lv_aload_n hx hb dX6_covered_0 rfl (lv_at hl 0 rfl) ?_
  refine lv_iload_n hx hb dX6_covered_1 rfl (lv_at hl 1 rfl) ?_
  refine m_callSi1 (z := true) (As := [.int (i32 x1)]) (rest := [.ref (ad 230)]) X hW hS hl.1 gc_X6_215 hd_X6_isSite ⟨rfl, rfl, Nat.le_of_ble_eq_true rfl, Nat.le_of_ble_eq_true rfl⟩ (fun v q => ok_X6_isSite hx1 q) hf rfl rfl (Nat.le_of_ble_eq_true rfl) dX6_covered_2 ⟨Nat.le_of_ble_eq_true rfl, Nat.le_of_ble_eq_true rfl⟩ (fun v1 H locs hv1 zv1 hWv1 hSv1 hf => ?_)
  refine m_if_eq (tgt := 21) hx hb hv1 hf dX6_covered_5 (by decide) (fun hf => ?_) (fun hf => ?_)
  · skip
    exact hc21 _ _ _ _  hf hWv1 hSv1 (lv_sub hl [0, 1, 2] rfl)
  · skip
    refine lv_aload_n hx hb dX6_covered_8 rfl (lv_at hl 0 rfl) ?_
    refine lv_iload_n hx hb dX6_covered_9 rfl (lv_at hl 1 rfl) ?_
    refine lv_iload_n hx hb dX6_covered_10 rfl (lv_at hl 2 rfl) ?_
    refine m_callVi1 (z := true) (As := [.int (i32 x1), .int (i32 x2)]) (rest := [.ref (ad 230)]) X hWv1 hSv1 hl.1 gc_X6_253 hd_X6_hasAct ⟨rfl, rfl, Nat.le_of_ble_eq_true rfl, Nat.le_of_ble_eq_true rfl⟩ (rc_X6 X hWv1) (fun v q => ok_X6_hasAct hx1 hx2 q) hf rfl rfl (Nat.le_of_ble_eq_true rfl) dX6_covered_11 ⟨Nat.le_of_ble_eq_true rfl, Nat.le_of_ble_eq_true rfl⟩ (fun v2 H locs hv2 zv2 hWv2 hSv2 hf => ?_)
    refine m_if_eq (tgt := 21) hx hb hv2 hf dX6_covered_14 (by decide) (fun hf => ?_) (fun hf => ?_)
    · skip
      exact hc21 _ _ _ _  hf hWv2 hSv2 (lv_sub hl [0, 1, 2] rfl)
    · skip
      refine m_const (v := 0) hx hb dX6_covered_17 rfl ?_
      refine lv_goto (tgt := 22) hx hb dX6_covered_18 (by decide) ?_
      exact hc22 _ _ _ _ 0 (by decide) hf hWv2 hSv2 (lv_sub hl [0, 1, 2] rfl)
set_option maxRecDepth 100000 in
set_option maxHeartbeats 4000000 in
theorem ok_X6_blocks {l : Launch} {D : va_G} {cy : Nat → ClassId} {ad : Nat → Nat} {nm nv sz : Nat} {σ : St} {n : Nat} {x1 : Int} {r : Int} {σ2 : St} (hx1 : inR x1) (hf : fX6_blocks n σ x1 = some (r, σ2)) : CI l yX6_blocks cX6_blocks 2 (some .int) ({ frames := 7, cells := 0, slots := 0, locals := 156 } : Room) [.ref (ad 230), .int (i32 x1)] D cy ad nm nv sz σ false r σ2 := by
  refine m_entry RX6 rfl (by decide +kernel) (Nat.le_of_ble_eq_true rfl) ?_
  intro p e s m args below meth c Q hQ hr hlocks X hW hS ls hl
  have hx := X.1
  have hb := X.2.1
  have hl : lv_has ls 2 [(0, .ref (ad 230)), (1, .int (i32 x1))] := hl
  unfold fX6_blocks at hf
  refine lv_iload_n hx hb dX6_blocks_0 rfl (lv_at hl 1 rfl) ?_
  refine m_callSi1 (z := true) (As := [.int (i32 x1)]) (rest := []) X hW hS hl.1 gc_X6_215 hd_X6_isSite ⟨rfl, rfl, Nat.le_of_ble_eq_true rfl, Nat.le_of_ble_eq_true rfl⟩ (fun v q => ok_X6_isSite hx1 q) hf rfl rfl (Nat.le_of_ble_eq_true rfl) dX6_blocks_1 ⟨Nat.le_of_ble_eq_true rfl, Nat.le_of_ble_eq_true rfl⟩ (fun v1 H locs hv1 zv1 hWv1 hSv1 hf => ?_)
  refine m_if_ne (tgt := 13) hx hb hv1 hf dX6_blocks_4 (by decide) (fun hf => ?_) (fun hf => ?_)
  · skip
    refine lv_aload_n hx hb dX6_blocks_13 rfl (lv_at hl 0 rfl) ?_
    refine m_const (v := 0) hx hb dX6_blocks_14 rfl ?_
    refine p_X6_thrown X hWv1 hSv1 (by decide) hf (X.2.2.2.2.1 _ mw1046) dX6_blocks_15 (fun σ2 H locs hW2 hS2 hf => ?_)
    refine lv_aload_n hx hb dX6_blocks_18 rfl (lv_at hl 0 rfl) ?_
    refine lv_iload_n hx hb dX6_blocks_19 rfl (lv_at hl 1 rfl) ?_
    refine m_callVv (As := [.int (i32 x1)]) (rest := []) X hW2 hS2 hl.1 gc_X6_208 hd_X6_findsSite ⟨rfl, rfl, Nat.le_of_ble_eq_true rfl, Nat.le_of_ble_eq_true rfl⟩ (rc_X6 X hW2) (fun v q => ok_X6_findsSite hx1 q) hf rfl rfl (Nat.le_of_ble_eq_true rfl) dX6_blocks_20 ⟨Nat.le_of_ble_eq_true rfl, Nat.le_of_ble_eq_true rfl⟩ (fun σ3 H locs hW3 hS3 hf => ?_)
    refine lv_aload_n hx hb dX6_blocks_23 rfl (lv_at hl 0 rfl) ?_
    refine m_callVi1 (z := false) (As := []) (rest := []) X hW3 hS3 hl.1 gc_X6_244 hd_X6_shownBlocks ⟨rfl, rfl, Nat.le_of_ble_eq_true rfl, Nat.le_of_ble_eq_true rfl⟩ (rc_X6 X hW3) (fun v q => ok_X6_shownBlocks  q) hf rfl rfl (Nat.le_of_ble_eq_true rfl) dX6_blocks_24 ⟨Nat.le_of_ble_eq_true rfl, Nat.le_of_ble_eq_true rfl⟩ (fun v4 H locs hv4 zv4 hWv4 hSv4 hf => ?_)
    exact m_ireti X hr hlocks rfl hv4 (fun h => Bool.noConfusion h) hWv4 hSv4 (congrArg Prod.fst (Option.some.inj hf)) (congrArg Prod.snd (Option.some.inj hf)) hQ dX6_blocks_27
  · skip
    refine lv_aload_n hx hb dX6_blocks_7 rfl (lv_at hl 0 rfl) ?_
    refine m_const (v := 1) hx hb dX6_blocks_8 rfl ?_
    refine m_callVi (z := false) (As := [.int (i32 1)]) (rest := []) X hWv1 hSv1 hl.1 gc_X6_222 hd_X6_fails ⟨rfl, rfl, Nat.le_of_ble_eq_true rfl, Nat.le_of_ble_eq_true rfl⟩ (rc_X6 X hWv1) (fun v q9 q => ok_X6_fails (by decide) q) hf rfl rfl (Nat.le_of_ble_eq_true rfl) dX6_blocks_9 ⟨Nat.le_of_ble_eq_true rfl, Nat.le_of_ble_eq_true rfl⟩ (fun v6 σ5 H locs hv6 zv6 hW5 hS5 hf => ?_)
    exact m_ireti X hr hlocks rfl hv6 (fun h => Bool.noConfusion h) hW5 hS5 (congrArg Prod.fst (Option.some.inj hf)) (congrArg Prod.snd (Option.some.inj hf)) hQ dX6_blocks_12
set_option maxRecDepth 100000 in
set_option maxHeartbeats 4000000 in
theorem ok_X6_kind {l : Launch} {D : va_G} {cy : Nat → ClassId} {ad : Nat → Nat} {nm nv sz : Nat} {σ : St} {n : Nat} {x1 : Int} {x2 : Int} {r : Int} {σ2 : St} (hx1 : inR x1) (hx2 : inR x2) (hf : fX6_kind n σ x1 x2 = some (r, σ2)) : CI l yX6_kind cX6_kind 3 (some .int) ({ frames := 8, cells := 0, slots := 0, locals := 178 } : Room) [.ref (ad 230), .int (i32 x1), .int (i32 x2)] D cy ad nm nv sz σ false r σ2 := by
  refine m_entry RX6 rfl (by decide +kernel) (Nat.le_of_ble_eq_true rfl) ?_
  intro p e s m args below meth c Q hQ hr hlocks X hW hS ls hl
  have hx := X.1
  have hb := X.2.1
  have hl : lv_has ls 3 [(0, .ref (ad 230)), (1, .int (i32 x1)), (2, .int (i32 x2))] := hl
  unfold fX6_kind at hf
  have hc15 : ∀ (σ : St) (H : Heap) (locs : List Loc) (ls : Array Slot) (t0 : Int), inR t0 → fX6_kind_J15 n σ x1 x2 t0 = some (r, σ2) → Wd D cy ad nm nv σ H → va_S (AW ad nm nv sz) s.heap H locs → lv_has ls 3 [(0, .ref (ad 230)), (2, .int (i32 x2))] → W p l e ({ frames := 8, cells := 0, slots := 0, locals := 178 } : Room) s m args below meth c H locs 0 0 Q (F0 m 15 ls [.int (i32 t0), .ref (ad 230)]) := by
    intro σ H locs ls t0 ht0 hf hW hS hl
    unfold fX6_kind_J15 at hf
    refine p_X6_thrown X hW hS ht0 hf (X.2.2.2.2.1 _ mw1046) dX6_kind_15 (fun σ3 H locs hW3 hS3 hf => ?_)
    refine lv_aload_n hx hb dX6_kind_18 rfl (lv_at hl 0 rfl) ?_
    refine g_X6_thrown X hW3 (X.2.2.2.2.1 _ mw1046) dX6_kind_19 ?_
    refine m_if_le (tgt := 29) hx hb (hW3.2.1 _ _) hf dX6_kind_22 (by decide) (fun hf => ?_) (fun hf => ?_)
    · skip
      refine lv_aload_n hx hb dX6_kind_29 rfl (lv_at hl 0 rfl) ?_
      refine g_X6_blockKinds X hW3 (X.2.2.2.2.1 _ mw1085) dX6_kind_30 ?_
      refine lv_aload_n hx hb dX6_kind_33 rfl (lv_at hl 0 rfl) ?_
      refine lv_iload_n hx hb dX6_kind_34 rfl (lv_at hl 1 rfl) ?_
      refine m_callVi1 (z := false) (As := [.int (i32 x2)]) (rest := [.ref (ad 270)]) X hW3 hS3 hl.1 gc_X6_250 hd_X6_blockNumber ⟨rfl, rfl, Nat.le_of_ble_eq_true rfl, Nat.le_of_ble_eq_true rfl⟩ (rc_X6 X hW3) (fun v q => ok_X6_blockNumber hx2 q) hf rfl rfl (Nat.le_of_ble_eq_true rfl) dX6_kind_35 ⟨Nat.le_of_ble_eq_true rfl, Nat.le_of_ble_eq_true rfl⟩ (fun v4 H locs hv4 zv4 hWv4 hSv4 hf => ?_)
      refine m_const (v := 1) hx hb dX6_kind_38 rfl ?_
      refine m_iadd hx hb hf dX6_kind_39 (fun v5 hv5 hf => ?_)
      refine m_iald X hWv4 a_X6_blockKinds hv5 hf dX6_kind_40 (fun v6 hv6 hf => ?_)
      exact m_ireti X hr hlocks rfl hv6 (fun h => Bool.noConfusion h) hWv4 hSv4 (congrArg Prod.fst (Option.some.inj hf)) (congrArg Prod.snd (Option.some.inj hf)) hQ dX6_kind_41
    · skip
      refine m_const (v := 0) hx hb dX6_kind_25 rfl ?_
      refine lv_goto (tgt := 41) hx hb dX6_kind_26 (by decide) ?_
      exact m_ireti X hr hlocks rfl (by decide) (fun h => Bool.noConfusion h) hW3 hS3 (congrArg Prod.fst (Option.some.inj hf)) (congrArg Prod.snd (Option.some.inj hf)) hQ dX6_kind_41
  refine lv_aload_n hx hb dX6_kind_0 rfl (lv_at hl 0 rfl) ?_
  refine lv_aload_n hx hb dX6_kind_1 rfl (lv_at hl 0 rfl) ?_
  refine lv_iload_n hx hb dX6_kind_2 rfl (lv_at hl 1 rfl) ?_
  refine lv_iload_n hx hb dX6_kind_3 rfl (lv_at hl 2 rfl) ?_
  refine m_callVi (z := true) (As := [.int (i32 x1), .int (i32 x2)]) (rest := [.ref (ad 230)]) X hW hS hl.1 gc_X6_247 hd_X6_isBlock ⟨rfl, rfl, Nat.le_of_ble_eq_true rfl, Nat.le_of_ble_eq_true rfl⟩ (rc_X6 X hW) (fun v q9 q => ok_X6_isBlock hx1 hx2 q) hf rfl rfl (Nat.le_of_ble_eq_true rfl) dX6_kind_4 ⟨Nat.le_of_ble_eq_true rfl, Nat.le_of_ble_eq_true rfl⟩ (fun v2 σ1 H locs hv2 zv2 hW1 hS1 hf => ?_)
  refine m_if_eq (tgt := 14) hx hb hv2 hf dX6_kind_7 (by decide) (fun hf => ?_) (fun hf => ?_)
  · skip
    refine m_const (v := 1) hx hb dX6_kind_14 rfl ?_
    exact hc15 _ _ _ _ 1 (by decide) hf hW1 hS1 (lv_sub hl [0, 2] rfl)
  · skip
    refine m_const (v := 0) hx hb dX6_kind_10 rfl ?_
    refine lv_goto (tgt := 15) hx hb dX6_kind_11 (by decide) ?_
    exact hc15 _ _ _ _ 0 (by decide) hf hW1 hS1 (lv_sub hl [0, 2] rfl)
set_option maxRecDepth 100000 in
set_option maxHeartbeats 4000000 in
theorem ok_X6_depth {l : Launch} {D : va_G} {cy : Nat → ClassId} {ad : Nat → Nat} {nm nv sz : Nat} {σ : St} {n : Nat} {x1 : Int} {x2 : Int} {r : Int} {σ2 : St} (hx1 : inR x1) (hx2 : inR x2) (hf : fX6_depth n σ x1 x2 = some (r, σ2)) : CI l yX6_depth cX6_depth 5 (some .int) ({ frames := 8, cells := 0, slots := 0, locals := 178 } : Room) [.ref (ad 230), .int (i32 x1), .int (i32 x2)] D cy ad nm nv sz σ false r σ2 := by
  refine m_entry RX6 rfl (by decide +kernel) (Nat.le_of_ble_eq_true rfl) ?_
  intro p e s m args below meth c Q hQ hr hlocks X hW hS ls hl
  have hx := X.1
  have hb := X.2.1
  have hl : lv_has ls 5 [(0, .ref (ad 230)), (1, .int (i32 x1)), (2, .int (i32 x2))] := hl
  unfold fX6_depth at hf
  have hc43 : ∀ (k43 : Nat) (σ : St) (H : Heap) (locs : List Loc) (ls : Array Slot) (x3 : Int) (x4 : Int), inR x3 → inR x4 → fX6_depth_L43 n σ x1 x2 k43 x3 x4 = some (r, σ2) → Wd D cy ad nm nv σ H → va_S (AW ad nm nv sz) s.heap H locs → lv_has ls 5 [(0, .ref (ad 230)), (3, .int (i32 x3)), (4, .int (i32 x4))] → W p l e ({ frames := 8, cells := 0, slots := 0, locals := 178 } : Room) s m args below meth c H locs 0 0 Q (F0 m 43 ls []) := by
    intro k43
    induction k43 with
    | zero =>
      intro σ H locs ls x3 x4 hx3 hx4 hf
      have hf : (none : Option (Int × St)) = some (r, σ2) := hf
      cases hf
    | succ k43 ih43 =>
      intro σ H locs ls x3 x4 hx3 hx4 hf hW hS hl
      have hf : fX6_depth_L43s n σ x1 x2 (fX6_depth_L43 n σ x1 x2 k43) x3 x4 = some (r, σ2) := hf
      unfold fX6_depth_L43s at hf
      have hc84 : ∀ (σ : St) (H : Heap) (locs : List Loc) (ls : Array Slot) (x4 : Int) (t0 : Int) (t1 : Int), inR x4 → inR t0 → inR t1 → fX6_depth_J84 n (fX6_depth_L43 n σ x1 x2 k43) σ x1 x2 x4 t0 t1 = some (r, σ2) → Wd D cy ad nm nv σ H → va_S (AW ad nm nv sz) s.heap H locs → lv_has ls 5 [(0, .ref (ad 230)), (4, .int (i32 x4))] → W p l e ({ frames := 8, cells := 0, slots := 0, locals := 178 } : Room) s m args below meth c H locs 0 0 Q (F0 m 84 ls [.int (i32 t0), .int (i32 t1)]) := by
        intro σ H locs ls x4 t0 t1 hx4 ht0 ht1 hf hW hS hl
        unfold fX6_depth_J84 at hf
        refine m_iadd hx hb hf dX6_depth_84 (fun v9 hv9 hf => ?_)
        refine lv_istore_n (lv' := [(3, .int (i32 v9)), (0, .ref (ad 230)), (4, .int (i32 x4))]) hx hb dX6_depth_85 rfl hl (by decide) rfl (fun ls hl => ?_)
        refine lv_aload_n hx hb dX6_depth_86 rfl (lv_at hl 1 rfl) ?_
        refine g_X6_aboves X hW (X.2.2.2.2.1 _ mw1086) dX6_depth_87 ?_
        refine lv_iload hx hb dX6_depth_90 (lv_at hl 2 rfl) ?_
        refine m_const (v := 1) hx hb dX6_depth_92 rfl ?_
        refine m_iadd hx hb hf dX6_depth_93 (fun v10 hv10 hf => ?_)
        refine m_iald X hW a_X6_aboves hv10 hf dX6_depth_94 (fun v11 hv11 hf => ?_)
        refine lv_istore (lv' := [(4, .int (i32 v11)), (3, .int (i32 v9)), (0, .ref (ad 230))]) hx hb dX6_depth_95 hl (by decide) rfl (fun ls hl => ?_)
        refine lv_goto (tgt := 43) hx hb dX6_depth_97 (by decide) ?_
        exact ih43 _ _ _ _ v9 v11 hv9 hv11 hf hW hS (lv_sub hl [2, 1, 0] rfl)
      have hc79 : ∀ (σ : St) (H : Heap) (locs : List Loc) (ls : Array Slot) (x4 : Int) (t0 : Int), inR x4 → inR t0 → fX6_depth_J79 n (fX6_depth_L43 n σ x1 x2 k43) σ x1 x2 x4 t0 = some (r, σ2) → Wd D cy ad nm nv σ H → va_S (AW ad nm nv sz) s.heap H locs → lv_has ls 5 [(0, .ref (ad 230)), (4, .int (i32 x4))] → W p l e ({ frames := 8, cells := 0, slots := 0, locals := 178 } : Room) s m args below meth c H locs 0 0 Q (F0 m 79 ls [.int (i32 t0)]) := by
        intro σ H locs ls x4 t0 hx4 ht0 hf hW hS hl
        unfold fX6_depth_J79 at hf
        refine m_const (v := 1) hx hb dX6_depth_79 rfl ?_
        refine lv_goto (tgt := 84) hx hb dX6_depth_80 (by decide) ?_
        exact hc84 _ _ _ _ x4 1 t0 hx4 (by decide) ht0 hf hW hS (lv_sub hl [0, 1] rfl)
      have hc83 : ∀ (σ : St) (H : Heap) (locs : List Loc) (ls : Array Slot) (x4 : Int) (t0 : Int), inR x4 → inR t0 → fX6_depth_J83 n (fX6_depth_L43 n σ x1 x2 k43) σ x1 x2 x4 t0 = some (r, σ2) → Wd D cy ad nm nv σ H → va_S (AW ad nm nv sz) s.heap H locs → lv_has ls 5 [(0, .ref (ad 230)), (4, .int (i32 x4))] → W p l e ({ frames := 8, cells := 0, slots := 0, locals := 178 } : Room) s m args below meth c H locs 0 0 Q (F0 m 83 ls [.int (i32 t0)]) := by
        intro σ H locs ls x4 t0 hx4 ht0 hf hW hS hl
        unfold fX6_depth_J83 at hf
        refine m_const (v := 0) hx hb dX6_depth_83 rfl ?_
        exact hc84 _ _ _ _ x4 0 t0 hx4 (by decide) ht0 hf hW hS (lv_sub hl [0, 1] rfl)
      refine lv_iload hx hb dX6_depth_43 (lv_at hl 2 rfl) ?_
      refine m_bipush (v := (-2)) hx hb dX6_depth_45 (by decide) ?_
      refine m_icmp_eq (tgt := 100) hx hb hx4 (by decide) hf dX6_depth_47 (by decide) (fun hf => ?_) (fun hf => ?_)
      · skip
        refine lv_iload_n hx hb dX6_depth_100 rfl (lv_at hl 1 rfl) ?_
        exact m_ireti X hr hlocks rfl hx3 (fun h => Bool.noConfusion h) hW hS (congrArg Prod.fst (Option.some.inj hf)) (congrArg Prod.snd (Option.some.inj hf)) hQ dX6_depth_101
      · skip
        refine lv_iload_n hx hb dX6_depth_50 rfl (lv_at hl 1 rfl) ?_
        refine lv_iload hx hb dX6_depth_51 (lv_at hl 2 rfl) ?_
        refine m_const (v := (-1)) hx hb dX6_depth_53 rfl ?_
        refine m_icmp_eq (tgt := 79) hx hb hx4 (by decide) hf dX6_depth_54 (by decide) (fun hf => ?_) (fun hf => ?_)
        · skip
          exact hc79 _ _ _ _ x4 x3 hx4 hx3 hf hW hS (lv_sub hl [0, 2] rfl)
        · skip
          refine lv_aload_n hx hb dX6_depth_57 rfl (lv_at hl 0 rfl) ?_
          refine lv_iload hx hb dX6_depth_58 (lv_at hl 2 rfl) ?_
          refine m_callVi1 (z := false) (As := [.int (i32 x4)]) (rest := [.int (i32 x3)]) X hW hS hl.1 gc_X6_151 hd_X6_spot ⟨rfl, rfl, Nat.le_of_ble_eq_true rfl, Nat.le_of_ble_eq_true rfl⟩ (rc_X6 X hW) (fun v q => ok_X6_spot hx4 q) hf rfl rfl (Nat.le_of_ble_eq_true rfl) dX6_depth_60 ⟨Nat.le_of_ble_eq_true rfl, Nat.le_of_ble_eq_true rfl⟩ (fun v7 H locs hv7 zv7 hWv7 hSv7 hf => ?_)
          refine lv_aload_n hx hb dX6_depth_63 rfl (lv_at hl 0 rfl) ?_
          refine g_X6_rowMany X hWv7 (X.2.2.2.2.1 _ mw1078) dX6_depth_64 ?_
          refine m_icmp_ge (tgt := 83) hx hb hv7 (hWv7.2.1 _ _) hf dX6_depth_67 (by decide) (fun hf => ?_) (fun hf => ?_)
          · skip
            exact hc83 _ _ _ _ x4 x3 hx4 hx3 hf hWv7 hSv7 (lv_sub hl [0, 2] rfl)
          · skip
            refine lv_aload_n hx hb dX6_depth_70 rfl (lv_at hl 0 rfl) ?_
            refine lv_iload hx hb dX6_depth_71 (lv_at hl 2 rfl) ?_
            refine m_callVi1 (z := true) (As := [.int (i32 x4)]) (rest := [.int (i32 x3)]) X hWv7 hSv7 hl.1 gc_X6_147 hd_X6_isShown ⟨rfl, rfl, Nat.le_of_ble_eq_true rfl, Nat.le_of_ble_eq_true rfl⟩ (rc_X6 X hWv7) (fun v q => ok_X6_isShown hx4 q) hf rfl rfl (Nat.le_of_ble_eq_true rfl) dX6_depth_73 ⟨Nat.le_of_ble_eq_true rfl, Nat.le_of_ble_eq_true rfl⟩ (fun v8 H locs hv8 zv8 hWv8 hSv8 hf => ?_)
            refine m_if_eq (tgt := 83) hx hb hv8 hf dX6_depth_76 (by decide) (fun hf => ?_) (fun hf => ?_)
            · skip
              exact hc83 _ _ _ _ x4 x3 hx4 hx3 hf hWv8 hSv8 (lv_sub hl [0, 2] rfl)
            · skip
              exact hc79 _ _ _ _ x4 x3 hx4 hx3 hf hWv8 hSv8 (lv_sub hl [0, 2] rfl)
  have hc15 : ∀ (σ : St) (H : Heap) (locs : List Loc) (ls : Array Slot) (t0 : Int), inR t0 → fX6_depth_J15 n σ x1 x2 t0 = some (r, σ2) → Wd D cy ad nm nv σ H → va_S (AW ad nm nv sz) s.heap H locs → lv_has ls 5 [(0, .ref (ad 230)), (2, .int (i32 x2))] → W p l e ({ frames := 8, cells := 0, slots := 0, locals := 178 } : Room) s m args below meth c H locs 0 0 Q (F0 m 15 ls [.int (i32 t0), .ref (ad 230)]) := by
    intro σ H locs ls t0 ht0 hf hW hS hl
    unfold fX6_depth_J15 at hf
    refine p_X6_thrown X hW hS ht0 hf (X.2.2.2.2.1 _ mw1046) dX6_depth_15 (fun σ3 H locs hW3 hS3 hf => ?_)
    refine lv_aload_n hx hb dX6_depth_18 rfl (lv_at hl 0 rfl) ?_
    refine g_X6_thrown X hW3 (X.2.2.2.2.1 _ mw1046) dX6_depth_19 ?_
    refine m_if_le (tgt := 27) hx hb (hW3.2.1 _ _) hf dX6_depth_22 (by decide) (fun hf => ?_) (fun hf => ?_)
    · skip
      refine m_const (v := 0) hx hb dX6_depth_27 rfl ?_
      refine lv_istore_n (lv' := [(3, .int (i32 0)), (0, .ref (ad 230)), (2, .int (i32 x2))]) hx hb dX6_depth_28 rfl hl (by decide) rfl (fun ls hl => ?_)
      refine lv_aload_n hx hb dX6_depth_29 rfl (lv_at hl 1 rfl) ?_
      refine g_X6_aboves X hW3 (X.2.2.2.2.1 _ mw1086) dX6_depth_30 ?_
      refine lv_aload_n hx hb dX6_depth_33 rfl (lv_at hl 1 rfl) ?_
      refine lv_iload_n hx hb dX6_depth_34 rfl (lv_at hl 2 rfl) ?_
      refine m_callVi1 (z := false) (As := [.int (i32 x2)]) (rest := [.ref (ad 271)]) X hW3 hS3 hl.1 gc_X6_250 hd_X6_blockNumber ⟨rfl, rfl, Nat.le_of_ble_eq_true rfl, Nat.le_of_ble_eq_true rfl⟩ (rc_X6 X hW3) (fun v q => ok_X6_blockNumber hx2 q) hf rfl rfl (Nat.le_of_ble_eq_true rfl) dX6_depth_35 ⟨Nat.le_of_ble_eq_true rfl, Nat.le_of_ble_eq_true rfl⟩ (fun v4 H locs hv4 zv4 hWv4 hSv4 hf => ?_)
      refine m_const (v := 1) hx hb dX6_depth_38 rfl ?_
      refine m_iadd hx hb hf dX6_depth_39 (fun v5 hv5 hf => ?_)
      refine m_iald X hWv4 a_X6_aboves hv5 hf dX6_depth_40 (fun v6 hv6 hf => ?_)
      refine lv_istore (lv' := [(4, .int (i32 v6)), (3, .int (i32 0)), (0, .ref (ad 230)), (2, .int (i32 x2))]) hx hb dX6_depth_41 hl (by decide) rfl (fun ls hl => ?_)
      exact hc43 n _ _ _ _ 0 v6 (by decide) hv6 hf hWv4 hSv4 (lv_sub hl [2, 1, 0] rfl)
    · skip
      refine m_const (v := 0) hx hb dX6_depth_25 rfl ?_
      exact m_ireti X hr hlocks rfl (by decide) (fun h => Bool.noConfusion h) hW3 hS3 (congrArg Prod.fst (Option.some.inj hf)) (congrArg Prod.snd (Option.some.inj hf)) hQ dX6_depth_26
  refine lv_aload_n hx hb dX6_depth_0 rfl (lv_at hl 0 rfl) ?_
  refine lv_aload_n hx hb dX6_depth_1 rfl (lv_at hl 0 rfl) ?_
  refine lv_iload_n hx hb dX6_depth_2 rfl (lv_at hl 1 rfl) ?_
  refine lv_iload_n hx hb dX6_depth_3 rfl (lv_at hl 2 rfl) ?_
  refine m_callVi (z := true) (As := [.int (i32 x1), .int (i32 x2)]) (rest := [.ref (ad 230)]) X hW hS hl.1 gc_X6_247 hd_X6_isBlock ⟨rfl, rfl, Nat.le_of_ble_eq_true rfl, Nat.le_of_ble_eq_true rfl⟩ (rc_X6 X hW) (fun v q9 q => ok_X6_isBlock hx1 hx2 q) hf rfl rfl (Nat.le_of_ble_eq_true rfl) dX6_depth_4 ⟨Nat.le_of_ble_eq_true rfl, Nat.le_of_ble_eq_true rfl⟩ (fun v2 σ1 H locs hv2 zv2 hW1 hS1 hf => ?_)
  refine m_if_eq (tgt := 14) hx hb hv2 hf dX6_depth_7 (by decide) (fun hf => ?_) (fun hf => ?_)
  · skip
    refine m_const (v := 1) hx hb dX6_depth_14 rfl ?_
    exact hc15 _ _ _ _ 1 (by decide) hf hW1 hS1 (lv_sub hl [0, 2] rfl)
  · skip
    refine m_const (v := 0) hx hb dX6_depth_10 rfl ?_
    refine lv_goto (tgt := 15) hx hb dX6_depth_11 (by decide) ?_
    exact hc15 _ _ _ _ 0 (by decide) hf hW1 hS1 (lv_sub hl [0, 2] rfl)
set_option maxRecDepth 100000 in
set_option maxHeartbeats 4000000 in
theorem ok_X6_level {l : Launch} {D : va_G} {cy : Nat → ClassId} {ad : Nat → Nat} {nm nv sz : Nat} {σ : St} {n : Nat} {x1 : Int} {x2 : Int} {r : Int} {σ2 : St} (hx1 : inR x1) (hx2 : inR x2) (hf : fX6_level n σ x1 x2 = some (r, σ2)) : CI l yX6_level cX6_level 3 (some .int) ({ frames := 8, cells := 0, slots := 0, locals := 178 } : Room) [.ref (ad 230), .int (i32 x1), .int (i32 x2)] D cy ad nm nv sz σ false r σ2 := by
  refine m_entry RX6 rfl (by decide +kernel) (Nat.le_of_ble_eq_true rfl) ?_
  intro p e s m args below meth c Q hQ hr hlocks X hW hS ls hl
  have hx := X.1
  have hb := X.2.1
  have hl : lv_has ls 3 [(0, .ref (ad 230)), (1, .int (i32 x1)), (2, .int (i32 x2))] := hl
  unfold fX6_level at hf
  have hc15 : ∀ (σ : St) (H : Heap) (locs : List Loc) (ls : Array Slot) (t0 : Int), inR t0 → fX6_level_J15 n σ x1 x2 t0 = some (r, σ2) → Wd D cy ad nm nv σ H → va_S (AW ad nm nv sz) s.heap H locs → lv_has ls 3 [(0, .ref (ad 230)), (1, .int (i32 x1)), (2, .int (i32 x2))] → W p l e ({ frames := 8, cells := 0, slots := 0, locals := 178 } : Room) s m args below meth c H locs 0 0 Q (F0 m 15 ls [.int (i32 t0), .ref (ad 230)]) := by
    intro σ H locs ls t0 ht0 hf hW hS hl
    unfold fX6_level_J15 at hf
    refine p_X6_thrown X hW hS ht0 hf (X.2.2.2.2.1 _ mw1046) dX6_level_15 (fun σ3 H locs hW3 hS3 hf => ?_)
    refine lv_aload_n hx hb dX6_level_18 rfl (lv_at hl 0 rfl) ?_
    refine g_X6_thrown X hW3 (X.2.2.2.2.1 _ mw1046) dX6_level_19 ?_
    refine m_if_le (tgt := 29) hx hb (hW3.2.1 _ _) hf dX6_level_22 (by decide) (fun hf => ?_) (fun hf => ?_)
    · skip
      refine lv_aload_n hx hb dX6_level_29 rfl (lv_at hl 0 rfl) ?_
      refine lv_iload_n hx hb dX6_level_30 rfl (lv_at hl 1 rfl) ?_
      refine lv_aload_n hx hb dX6_level_31 rfl (lv_at hl 0 rfl) ?_
      refine lv_iload_n hx hb dX6_level_32 rfl (lv_at hl 2 rfl) ?_
      refine m_callVi1 (z := false) (As := [.int (i32 x2)]) (rest := [.int (i32 x1), .ref (ad 230)]) X hW3 hS3 hl.1 gc_X6_250 hd_X6_blockNumber ⟨rfl, rfl, Nat.le_of_ble_eq_true rfl, Nat.le_of_ble_eq_true rfl⟩ (rc_X6 X hW3) (fun v q => ok_X6_blockNumber hx2 q) hf rfl rfl (Nat.le_of_ble_eq_true rfl) dX6_level_33 ⟨Nat.le_of_ble_eq_true rfl, Nat.le_of_ble_eq_true rfl⟩ (fun v4 H locs hv4 zv4 hWv4 hSv4 hf => ?_)
      refine m_callVi1 (z := false) (As := [.int (i32 x1), .int (i32 v4)]) (rest := []) X hWv4 hSv4 hl.1 gc_X6_175 hd_X6_levelIn ⟨rfl, rfl, Nat.le_of_ble_eq_true rfl, Nat.le_of_ble_eq_true rfl⟩ (rc_X6 X hWv4) (fun v q => ok_X6_levelIn hx1 hv4 q) hf rfl rfl (Nat.le_of_ble_eq_true rfl) dX6_level_36 ⟨Nat.le_of_ble_eq_true rfl, Nat.le_of_ble_eq_true rfl⟩ (fun v5 H locs hv5 zv5 hWv5 hSv5 hf => ?_)
      exact m_ireti X hr hlocks rfl hv5 (fun h => Bool.noConfusion h) hWv5 hSv5 (congrArg Prod.fst (Option.some.inj hf)) (congrArg Prod.snd (Option.some.inj hf)) hQ dX6_level_39
    · skip
      refine m_const (v := 0) hx hb dX6_level_25 rfl ?_
      refine lv_goto (tgt := 39) hx hb dX6_level_26 (by decide) ?_
      exact m_ireti X hr hlocks rfl (by decide) (fun h => Bool.noConfusion h) hW3 hS3 (congrArg Prod.fst (Option.some.inj hf)) (congrArg Prod.snd (Option.some.inj hf)) hQ dX6_level_39
  refine lv_aload_n hx hb dX6_level_0 rfl (lv_at hl 0 rfl) ?_
  refine lv_aload_n hx hb dX6_level_1 rfl (lv_at hl 0 rfl) ?_
  refine lv_iload_n hx hb dX6_level_2 rfl (lv_at hl 1 rfl) ?_
  refine lv_iload_n hx hb dX6_level_3 rfl (lv_at hl 2 rfl) ?_
  refine m_callVi (z := true) (As := [.int (i32 x1), .int (i32 x2)]) (rest := [.ref (ad 230)]) X hW hS hl.1 gc_X6_247 hd_X6_isBlock ⟨rfl, rfl, Nat.le_of_ble_eq_true rfl, Nat.le_of_ble_eq_true rfl⟩ (rc_X6 X hW) (fun v q9 q => ok_X6_isBlock hx1 hx2 q) hf rfl rfl (Nat.le_of_ble_eq_true rfl) dX6_level_4 ⟨Nat.le_of_ble_eq_true rfl, Nat.le_of_ble_eq_true rfl⟩ (fun v2 σ1 H locs hv2 zv2 hW1 hS1 hf => ?_)
  refine m_if_eq (tgt := 14) hx hb hv2 hf dX6_level_7 (by decide) (fun hf => ?_) (fun hf => ?_)
  · skip
    refine m_const (v := 1) hx hb dX6_level_14 rfl ?_
    exact hc15 _ _ _ _ 1 (by decide) hf hW1 hS1 (lv_sub hl [0, 1, 2] rfl)
  · skip
    refine m_const (v := 0) hx hb dX6_level_10 rfl ?_
    refine lv_goto (tgt := 15) hx hb dX6_level_11 (by decide) ?_
    exact hc15 _ _ _ _ 0 (by decide) hf hW1 hS1 (lv_sub hl [0, 1, 2] rfl)
set_option maxRecDepth 100000 in
set_option maxHeartbeats 4000000 in
theorem ok_X6_cursor {l : Launch} {D : va_G} {cy : Nat → ClassId} {ad : Nat → Nat} {nm nv sz : Nat} {σ : St} {n : Nat} {x1 : Int} {r : Int} {σ2 : St} (hx1 : inR x1) (hf : fX6_cursor n σ x1 = some (r, σ2)) : CI l yX6_cursor cX6_cursor 2 (some .int) ({ frames := 7, cells := 0, slots := 0, locals := 156 } : Room) [.ref (ad 230), .int (i32 x1)] D cy ad nm nv sz σ false r σ2 := by
  refine m_entry RX6 rfl (by decide +kernel) (Nat.le_of_ble_eq_true rfl) ?_
  intro p e s m args below meth c Q hQ hr hlocks X hW hS ls hl
  have hx := X.1
  have hb := X.2.1
  have hl : lv_has ls 2 [(0, .ref (ad 230)), (1, .int (i32 x1))] := hl
  unfold fX6_cursor at hf
  refine lv_iload_n hx hb dX6_cursor_0 rfl (lv_at hl 1 rfl) ?_
  refine m_callSi1 (z := true) (As := [.int (i32 x1)]) (rest := []) X hW hS hl.1 gc_X6_215 hd_X6_isSite ⟨rfl, rfl, Nat.le_of_ble_eq_true rfl, Nat.le_of_ble_eq_true rfl⟩ (fun v q => ok_X6_isSite hx1 q) hf rfl rfl (Nat.le_of_ble_eq_true rfl) dX6_cursor_1 ⟨Nat.le_of_ble_eq_true rfl, Nat.le_of_ble_eq_true rfl⟩ (fun v1 H locs hv1 zv1 hWv1 hSv1 hf => ?_)
  refine m_if_ne (tgt := 13) hx hb hv1 hf dX6_cursor_4 (by decide) (fun hf => ?_) (fun hf => ?_)
  · skip
    refine lv_aload_n hx hb dX6_cursor_13 rfl (lv_at hl 0 rfl) ?_
    refine m_const (v := 0) hx hb dX6_cursor_14 rfl ?_
    refine p_X6_thrown X hWv1 hSv1 (by decide) hf (X.2.2.2.2.1 _ mw1046) dX6_cursor_15 (fun σ2 H locs hW2 hS2 hf => ?_)
    refine lv_aload_n hx hb dX6_cursor_18 rfl (lv_at hl 0 rfl) ?_
    refine lv_iload_n hx hb dX6_cursor_19 rfl (lv_at hl 1 rfl) ?_
    refine m_callVv (As := [.int (i32 x1)]) (rest := []) X hW2 hS2 hl.1 gc_X6_208 hd_X6_findsSite ⟨rfl, rfl, Nat.le_of_ble_eq_true rfl, Nat.le_of_ble_eq_true rfl⟩ (rc_X6 X hW2) (fun v q => ok_X6_findsSite hx1 q) hf rfl rfl (Nat.le_of_ble_eq_true rfl) dX6_cursor_20 ⟨Nat.le_of_ble_eq_true rfl, Nat.le_of_ble_eq_true rfl⟩ (fun σ3 H locs hW3 hS3 hf => ?_)
    refine lv_aload_n hx hb dX6_cursor_23 rfl (lv_at hl 0 rfl) ?_
    refine lv_aload_n hx hb dX6_cursor_24 rfl (lv_at hl 0 rfl) ?_
    refine g_X6_cursors X hW3 (X.2.2.2.2.1 _ mw1063) dX6_cursor_25 ?_
    refine lv_iload_n hx hb dX6_cursor_28 rfl (lv_at hl 1 rfl) ?_
    refine m_iald X hW3 a_X6_cursors hx1 hf dX6_cursor_29 (fun v4 hv4 hf => ?_)
    refine m_callVi1 (z := false) (As := [.int (i32 v4)]) (rest := []) X hW3 hS3 hl.1 gc_X6_225 hd_X6_placeOf ⟨rfl, rfl, Nat.le_of_ble_eq_true rfl, Nat.le_of_ble_eq_true rfl⟩ (rc_X6 X hW3) (fun v q => ok_X6_placeOf hv4 q) hf rfl rfl (Nat.le_of_ble_eq_true rfl) dX6_cursor_30 ⟨Nat.le_of_ble_eq_true rfl, Nat.le_of_ble_eq_true rfl⟩ (fun v5 H locs hv5 zv5 hWv5 hSv5 hf => ?_)
    exact m_ireti X hr hlocks rfl hv5 (fun h => Bool.noConfusion h) hWv5 hSv5 (congrArg Prod.fst (Option.some.inj hf)) (congrArg Prod.snd (Option.some.inj hf)) hQ dX6_cursor_33
  · skip
    refine lv_aload_n hx hb dX6_cursor_7 rfl (lv_at hl 0 rfl) ?_
    refine m_const (v := 1) hx hb dX6_cursor_8 rfl ?_
    refine m_callVi (z := false) (As := [.int (i32 1)]) (rest := []) X hWv1 hSv1 hl.1 gc_X6_222 hd_X6_fails ⟨rfl, rfl, Nat.le_of_ble_eq_true rfl, Nat.le_of_ble_eq_true rfl⟩ (rc_X6 X hWv1) (fun v q9 q => ok_X6_fails (by decide) q) hf rfl rfl (Nat.le_of_ble_eq_true rfl) dX6_cursor_9 ⟨Nat.le_of_ble_eq_true rfl, Nat.le_of_ble_eq_true rfl⟩ (fun v7 σ6 H locs hv7 zv7 hW6 hS6 hf => ?_)
    exact m_ireti X hr hlocks rfl hv7 (fun h => Bool.noConfusion h) hW6 hS6 (congrArg Prod.fst (Option.some.inj hf)) (congrArg Prod.snd (Option.some.inj hf)) hQ dX6_cursor_12
set_option maxRecDepth 100000 in
set_option maxHeartbeats 4000000 in
theorem ok_X6_tail {l : Launch} {D : va_G} {cy : Nat → ClassId} {ad : Nat → Nat} {nm nv sz : Nat} {σ : St} {n : Nat} {x1 : Int} {r : Int} {σ2 : St} (hx1 : inR x1) (hf : fX6_tail n σ x1 = some (r, σ2)) : CI l yX6_tail cX6_tail 2 (some .int) ({ frames := 7, cells := 0, slots := 0, locals := 156 } : Room) [.ref (ad 230), .int (i32 x1)] D cy ad nm nv sz σ false r σ2 := by
  refine m_entry RX6 rfl (by decide +kernel) (Nat.le_of_ble_eq_true rfl) ?_
  intro p e s m args below meth c Q hQ hr hlocks X hW hS ls hl
  have hx := X.1
  have hb := X.2.1
  have hl : lv_has ls 2 [(0, .ref (ad 230)), (1, .int (i32 x1))] := hl
  unfold fX6_tail at hf
  refine lv_iload_n hx hb dX6_tail_0 rfl (lv_at hl 1 rfl) ?_
  refine m_callSi1 (z := true) (As := [.int (i32 x1)]) (rest := []) X hW hS hl.1 gc_X6_215 hd_X6_isSite ⟨rfl, rfl, Nat.le_of_ble_eq_true rfl, Nat.le_of_ble_eq_true rfl⟩ (fun v q => ok_X6_isSite hx1 q) hf rfl rfl (Nat.le_of_ble_eq_true rfl) dX6_tail_1 ⟨Nat.le_of_ble_eq_true rfl, Nat.le_of_ble_eq_true rfl⟩ (fun v1 H locs hv1 zv1 hWv1 hSv1 hf => ?_)
  refine m_if_ne (tgt := 13) hx hb hv1 hf dX6_tail_4 (by decide) (fun hf => ?_) (fun hf => ?_)
  · skip
    refine lv_aload_n hx hb dX6_tail_13 rfl (lv_at hl 0 rfl) ?_
    refine m_const (v := 0) hx hb dX6_tail_14 rfl ?_
    refine p_X6_thrown X hWv1 hSv1 (by decide) hf (X.2.2.2.2.1 _ mw1046) dX6_tail_15 (fun σ2 H locs hW2 hS2 hf => ?_)
    refine lv_aload_n hx hb dX6_tail_18 rfl (lv_at hl 0 rfl) ?_
    refine lv_iload_n hx hb dX6_tail_19 rfl (lv_at hl 1 rfl) ?_
    refine m_callVv (As := [.int (i32 x1)]) (rest := []) X hW2 hS2 hl.1 gc_X6_208 hd_X6_findsSite ⟨rfl, rfl, Nat.le_of_ble_eq_true rfl, Nat.le_of_ble_eq_true rfl⟩ (rc_X6 X hW2) (fun v q => ok_X6_findsSite hx1 q) hf rfl rfl (Nat.le_of_ble_eq_true rfl) dX6_tail_20 ⟨Nat.le_of_ble_eq_true rfl, Nat.le_of_ble_eq_true rfl⟩ (fun σ3 H locs hW3 hS3 hf => ?_)
    refine lv_aload_n hx hb dX6_tail_23 rfl (lv_at hl 0 rfl) ?_
    refine lv_aload_n hx hb dX6_tail_24 rfl (lv_at hl 0 rfl) ?_
    refine g_X6_tails X hW3 (X.2.2.2.2.1 _ mw1064) dX6_tail_25 ?_
    refine lv_iload_n hx hb dX6_tail_28 rfl (lv_at hl 1 rfl) ?_
    refine m_iald X hW3 a_X6_tails hx1 hf dX6_tail_29 (fun v4 hv4 hf => ?_)
    refine m_callVi1 (z := false) (As := [.int (i32 v4)]) (rest := []) X hW3 hS3 hl.1 gc_X6_225 hd_X6_placeOf ⟨rfl, rfl, Nat.le_of_ble_eq_true rfl, Nat.le_of_ble_eq_true rfl⟩ (rc_X6 X hW3) (fun v q => ok_X6_placeOf hv4 q) hf rfl rfl (Nat.le_of_ble_eq_true rfl) dX6_tail_30 ⟨Nat.le_of_ble_eq_true rfl, Nat.le_of_ble_eq_true rfl⟩ (fun v5 H locs hv5 zv5 hWv5 hSv5 hf => ?_)
    exact m_ireti X hr hlocks rfl hv5 (fun h => Bool.noConfusion h) hWv5 hSv5 (congrArg Prod.fst (Option.some.inj hf)) (congrArg Prod.snd (Option.some.inj hf)) hQ dX6_tail_33
  · skip
    refine lv_aload_n hx hb dX6_tail_7 rfl (lv_at hl 0 rfl) ?_
    refine m_const (v := 1) hx hb dX6_tail_8 rfl ?_
    refine m_callVi (z := false) (As := [.int (i32 1)]) (rest := []) X hWv1 hSv1 hl.1 gc_X6_222 hd_X6_fails ⟨rfl, rfl, Nat.le_of_ble_eq_true rfl, Nat.le_of_ble_eq_true rfl⟩ (rc_X6 X hWv1) (fun v q9 q => ok_X6_fails (by decide) q) hf rfl rfl (Nat.le_of_ble_eq_true rfl) dX6_tail_9 ⟨Nat.le_of_ble_eq_true rfl, Nat.le_of_ble_eq_true rfl⟩ (fun v7 σ6 H locs hv7 zv7 hW6 hS6 hf => ?_)
    exact m_ireti X hr hlocks rfl hv7 (fun h => Bool.noConfusion h) hW6 hS6 (congrArg Prod.fst (Option.some.inj hf)) (congrArg Prod.snd (Option.some.inj hf)) hQ dX6_tail_12
set_option maxRecDepth 100000 in
set_option maxHeartbeats 4000000 in
theorem ok_X6_graves {l : Launch} {D : va_G} {cy : Nat → ClassId} {ad : Nat → Nat} {nm nv sz : Nat} {σ : St} {n : Nat} {x1 : Int} {r : Int} {σ2 : St} (hx1 : inR x1) (hf : fX6_graves n σ x1 = some (r, σ2)) : CI l yX6_graves cX6_graves 2 (some .int) ({ frames := 7, cells := 0, slots := 0, locals := 156 } : Room) [.ref (ad 230), .int (i32 x1)] D cy ad nm nv sz σ false r σ2 := by
  refine m_entry RX6 rfl (by decide +kernel) (Nat.le_of_ble_eq_true rfl) ?_
  intro p e s m args below meth c Q hQ hr hlocks X hW hS ls hl
  have hx := X.1
  have hb := X.2.1
  have hl : lv_has ls 2 [(0, .ref (ad 230)), (1, .int (i32 x1))] := hl
  unfold fX6_graves at hf
  refine lv_iload_n hx hb dX6_graves_0 rfl (lv_at hl 1 rfl) ?_
  refine m_callSi1 (z := true) (As := [.int (i32 x1)]) (rest := []) X hW hS hl.1 gc_X6_215 hd_X6_isSite ⟨rfl, rfl, Nat.le_of_ble_eq_true rfl, Nat.le_of_ble_eq_true rfl⟩ (fun v q => ok_X6_isSite hx1 q) hf rfl rfl (Nat.le_of_ble_eq_true rfl) dX6_graves_1 ⟨Nat.le_of_ble_eq_true rfl, Nat.le_of_ble_eq_true rfl⟩ (fun v1 H locs hv1 zv1 hWv1 hSv1 hf => ?_)
  refine m_if_ne (tgt := 13) hx hb hv1 hf dX6_graves_4 (by decide) (fun hf => ?_) (fun hf => ?_)
  · skip
    refine lv_aload_n hx hb dX6_graves_13 rfl (lv_at hl 0 rfl) ?_
    refine m_const (v := 0) hx hb dX6_graves_14 rfl ?_
    refine p_X6_thrown X hWv1 hSv1 (by decide) hf (X.2.2.2.2.1 _ mw1046) dX6_graves_15 (fun σ2 H locs hW2 hS2 hf => ?_)
    refine lv_aload_n hx hb dX6_graves_18 rfl (lv_at hl 0 rfl) ?_
    refine lv_iload_n hx hb dX6_graves_19 rfl (lv_at hl 1 rfl) ?_
    refine m_callVv (As := [.int (i32 x1)]) (rest := []) X hW2 hS2 hl.1 gc_X6_208 hd_X6_findsSite ⟨rfl, rfl, Nat.le_of_ble_eq_true rfl, Nat.le_of_ble_eq_true rfl⟩ (rc_X6 X hW2) (fun v q => ok_X6_findsSite hx1 q) hf rfl rfl (Nat.le_of_ble_eq_true rfl) dX6_graves_20 ⟨Nat.le_of_ble_eq_true rfl, Nat.le_of_ble_eq_true rfl⟩ (fun σ3 H locs hW3 hS3 hf => ?_)
    refine lv_aload_n hx hb dX6_graves_23 rfl (lv_at hl 0 rfl) ?_
    refine g_X6_rowMany X hW3 (X.2.2.2.2.1 _ mw1078) dX6_graves_24 ?_
    refine lv_aload_n hx hb dX6_graves_27 rfl (lv_at hl 0 rfl) ?_
    refine m_callVi1 (z := false) (As := []) (rest := [.int (i32 (σ3 230 32))]) X hW3 hS3 hl.1 gc_X6_237 hd_X6_seen ⟨rfl, rfl, Nat.le_of_ble_eq_true rfl, Nat.le_of_ble_eq_true rfl⟩ (rc_X6 X hW3) (fun v q => ok_X6_seen  q) hf rfl rfl (Nat.le_of_ble_eq_true rfl) dX6_graves_28 ⟨Nat.le_of_ble_eq_true rfl, Nat.le_of_ble_eq_true rfl⟩ (fun v4 H locs hv4 zv4 hWv4 hSv4 hf => ?_)
    refine m_isub hx hb hf dX6_graves_31 (fun v5 hv5 hf => ?_)
    exact m_ireti X hr hlocks rfl hv5 (fun h => Bool.noConfusion h) hWv4 hSv4 (congrArg Prod.fst (Option.some.inj hf)) (congrArg Prod.snd (Option.some.inj hf)) hQ dX6_graves_32
  · skip
    refine lv_aload_n hx hb dX6_graves_7 rfl (lv_at hl 0 rfl) ?_
    refine m_const (v := 1) hx hb dX6_graves_8 rfl ?_
    refine m_callVi (z := false) (As := [.int (i32 1)]) (rest := []) X hWv1 hSv1 hl.1 gc_X6_222 hd_X6_fails ⟨rfl, rfl, Nat.le_of_ble_eq_true rfl, Nat.le_of_ble_eq_true rfl⟩ (rc_X6 X hWv1) (fun v q9 q => ok_X6_fails (by decide) q) hf rfl rfl (Nat.le_of_ble_eq_true rfl) dX6_graves_9 ⟨Nat.le_of_ble_eq_true rfl, Nat.le_of_ble_eq_true rfl⟩ (fun v7 σ6 H locs hv7 zv7 hW6 hS6 hf => ?_)
    exact m_ireti X hr hlocks rfl hv7 (fun h => Bool.noConfusion h) hW6 hS6 (congrArg Prod.fst (Option.some.inj hf)) (congrArg Prod.snd (Option.some.inj hf)) hQ dX6_graves_12
set_option maxRecDepth 100000 in
set_option maxHeartbeats 4000000 in
theorem ok_X6_buried {l : Launch} {D : va_G} {cy : Nat → ClassId} {ad : Nat → Nat} {nm nv sz : Nat} {σ : St} {n : Nat} {x1 : Int} {r : Int} {σ2 : St} (hx1 : inR x1) (hf : fX6_buried n σ x1 = some (r, σ2)) : CI l yX6_buried cX6_buried 4 (some .int) ({ frames := 7, cells := 0, slots := 0, locals := 156 } : Room) [.ref (ad 230), .int (i32 x1)] D cy ad nm nv sz σ false r σ2 := by
  refine m_entry RX6 rfl (by decide +kernel) (Nat.le_of_ble_eq_true rfl) ?_
  intro p e s m args below meth c Q hQ hr hlocks X hW hS ls hl
  have hx := X.1
  have hb := X.2.1
  have hl : lv_has ls 4 [(0, .ref (ad 230)), (1, .int (i32 x1))] := hl
  unfold fX6_buried at hf
  have hc144 : ∀ (k144 : Nat) (σ : St) (H : Heap) (locs : List Loc) (ls : Array Slot) (x2 : Int) (x3 : Int), inR x2 → inR x3 → fX6_buried_L144 n σ x1 k144 x2 x3 = some (r, σ2) → Wd D cy ad nm nv σ H → va_S (AW ad nm nv sz) s.heap H locs → lv_has ls 4 [(0, .ref (ad 230)), (2, .int (i32 x2)), (3, .int (i32 x3))] → W p l e ({ frames := 7, cells := 0, slots := 0, locals := 156 } : Room) s m args below meth c H locs 0 0 Q (F0 m 144 ls []) := by
    intro k144
    induction k144 with
    | zero =>
      intro σ H locs ls x2 x3 hx2 hx3 hf
      have hf : (none : Option (Int × St)) = some (r, σ2) := hf
      cases hf
    | succ k144 ih144 =>
      intro σ H locs ls x2 x3 hx2 hx3 hf hW hS hl
      have hf : fX6_buried_L144s n σ x1 (fX6_buried_L144 n σ x1 k144) x2 x3 = some (r, σ2) := hf
      unfold fX6_buried_L144s at hf
      refine lv_iload_n hx hb dX6_buried_144 rfl (lv_at hl 2 rfl) ?_
      refine lv_aload_n hx hb dX6_buried_145 rfl (lv_at hl 0 rfl) ?_
      refine g_X6_rowMany X hW (X.2.2.2.2.1 _ mw1078) dX6_buried_146 ?_
      refine m_icmp_ge (tgt := 193) hx hb hx3 (hW.2.1 _ _) hf dX6_buried_149 (by decide) (fun hf => ?_) (fun hf => ?_)
      · skip
        refine lv_iload_n hx hb dX6_buried_193 rfl (lv_at hl 1 rfl) ?_
        exact m_ireti X hr hlocks rfl hx2 (fun h => Bool.noConfusion h) hW hS (congrArg Prod.fst (Option.some.inj hf)) (congrArg Prod.snd (Option.some.inj hf)) hQ dX6_buried_194
      · skip
        refine lv_iload_n hx hb dX6_buried_152 rfl (lv_at hl 1 rfl) ?_
        refine lv_aload_n hx hb dX6_buried_153 rfl (lv_at hl 0 rfl) ?_
        refine g_X6_kept X hW (X.2.2.2.2.1 _ mw1088) dX6_buried_154 ?_
        refine lv_aload_n hx hb dX6_buried_157 rfl (lv_at hl 0 rfl) ?_
        refine g_X6_row X hW (X.2.2.2.2.1 _ mw1079) dX6_buried_158 ?_
        refine lv_iload_n hx hb dX6_buried_161 rfl (lv_at hl 2 rfl) ?_
        refine m_iald X hW a_X6_row hx3 hf dX6_buried_162 (fun v9 hv9 hf => ?_)
        refine m_zald X hW a_X6_kept hv9 hf dX6_buried_163 (fun v10 hv10 hf => ?_)
        refine m_if_eq (tgt := 184) hx hb hv10 hf dX6_buried_164 (by decide) (fun hf => ?_) (fun hf => ?_)
        · skip
          refine m_const (v := 0) hx hb dX6_buried_184 rfl ?_
          refine m_iadd hx hb hf dX6_buried_185 (fun v11 hv11 hf => ?_)
          refine lv_istore_n (lv' := [(2, .int (i32 v11)), (0, .ref (ad 230)), (3, .int (i32 x3))]) hx hb dX6_buried_186 rfl hl (by decide) rfl (fun ls hl => ?_)
          refine m_iinc (k0 := 2) (fun v12 => [(3, .int (i32 v12)), (2, .int (i32 v11)), (0, .ref (ad 230))]) hx hb hf dX6_buried_187 hl rfl (by decide) (fun _ => rfl) (fun v12 ls hv12 hf hl => ?_)
          have hl : lv_has ls 4 [(3, .int (i32 v12)), (2, .int (i32 v11)), (0, .ref (ad 230))] := hl
          refine lv_goto (tgt := 144) hx hb dX6_buried_190 (by decide) ?_
          exact ih144 _ _ _ _ v11 v12 hv11 hv12 hf hW hS (lv_sub hl [2, 1, 0] rfl)
        · skip
          refine lv_aload_n hx hb dX6_buried_167 rfl (lv_at hl 0 rfl) ?_
          refine lv_aload_n hx hb dX6_buried_168 rfl (lv_at hl 0 rfl) ?_
          refine g_X6_row X hW (X.2.2.2.2.1 _ mw1079) dX6_buried_169 ?_
          refine lv_iload_n hx hb dX6_buried_172 rfl (lv_at hl 2 rfl) ?_
          refine m_iald X hW a_X6_row hx3 hf dX6_buried_173 (fun v13 hv13 hf => ?_)
          refine m_callVi1 (z := true) (As := [.int (i32 v13)]) (rest := [.int (i32 x2)]) X hW hS hl.1 gc_X6_189 hd_X6_isSeen ⟨rfl, rfl, Nat.le_of_ble_eq_true rfl, Nat.le_of_ble_eq_true rfl⟩ (rc_X6 X hW) (fun v q => ok_X6_isSeen hv13 q) hf rfl rfl (Nat.le_of_ble_eq_true rfl) dX6_buried_174 ⟨Nat.le_of_ble_eq_true rfl, Nat.le_of_ble_eq_true rfl⟩ (fun v14 H locs hv14 zv14 hWv14 hSv14 hf => ?_)
          refine m_if_ne (tgt := 184) hx hb hv14 hf dX6_buried_177 (by decide) (fun hf => ?_) (fun hf => ?_)
          · skip
            refine m_const (v := 0) hx hb dX6_buried_184 rfl ?_
            refine m_iadd hx hb hf dX6_buried_185 (fun v15 hv15 hf => ?_)
            refine lv_istore_n (lv' := [(2, .int (i32 v15)), (0, .ref (ad 230)), (3, .int (i32 x3))]) hx hb dX6_buried_186 rfl hl (by decide) rfl (fun ls hl => ?_)
            refine m_iinc (k0 := 2) (fun v16 => [(3, .int (i32 v16)), (2, .int (i32 v15)), (0, .ref (ad 230))]) hx hb hf dX6_buried_187 hl rfl (by decide) (fun _ => rfl) (fun v16 ls hv16 hf hl => ?_)
            have hl : lv_has ls 4 [(3, .int (i32 v16)), (2, .int (i32 v15)), (0, .ref (ad 230))] := hl
            refine lv_goto (tgt := 144) hx hb dX6_buried_190 (by decide) ?_
            exact ih144 _ _ _ _ v15 v16 hv15 hv16 hf hWv14 hSv14 (lv_sub hl [2, 1, 0] rfl)
          · skip
            refine m_const (v := 1) hx hb dX6_buried_180 rfl ?_
            refine lv_goto (tgt := 185) hx hb dX6_buried_181 (by decide) ?_
            refine m_iadd hx hb hf dX6_buried_185 (fun v17 hv17 hf => ?_)
            refine lv_istore_n (lv' := [(2, .int (i32 v17)), (0, .ref (ad 230)), (3, .int (i32 x3))]) hx hb dX6_buried_186 rfl hl (by decide) rfl (fun ls hl => ?_)
            refine m_iinc (k0 := 2) (fun v18 => [(3, .int (i32 v18)), (2, .int (i32 v17)), (0, .ref (ad 230))]) hx hb hf dX6_buried_187 hl rfl (by decide) (fun _ => rfl) (fun v18 ls hv18 hf hl => ?_)
            have hl : lv_has ls 4 [(3, .int (i32 v18)), (2, .int (i32 v17)), (0, .ref (ad 230))] := hl
            refine lv_goto (tgt := 144) hx hb dX6_buried_190 (by decide) ?_
            exact ih144 _ _ _ _ v17 v18 hv17 hv18 hf hWv14 hSv14 (lv_sub hl [2, 1, 0] rfl)
  have hc25 : ∀ (k25 : Nat) (σ : St) (H : Heap) (locs : List Loc) (ls : Array Slot) (x2 : Int), inR x2 → fX6_buried_L25 n x1 k25 σ x2 = some (r, σ2) → Wd D cy ad nm nv σ H → va_S (AW ad nm nv sz) s.heap H locs → lv_has ls 4 [(0, .ref (ad 230)), (1, .int (i32 x1)), (2, .int (i32 x2))] → W p l e ({ frames := 7, cells := 0, slots := 0, locals := 156 } : Room) s m args below meth c H locs 0 0 Q (F0 m 25 ls []) := by
    intro k25
    induction k25 with
    | zero =>
      intro σ H locs ls x2 hx2 hf
      have hf : (none : Option (Int × St)) = some (r, σ2) := hf
      cases hf
    | succ k25 ih25 =>
      intro σ H locs ls x2 hx2 hf hW hS hl
      have hf : fX6_buried_L25s n x1 (fX6_buried_L25 n x1 k25) σ x2 = some (r, σ2) := hf
      unfold fX6_buried_L25s at hf
      have hc92 : ∀ (k92 : Nat) (σ : St) (H : Heap) (locs : List Loc) (ls : Array Slot) (x2 : Int) (x3 : Int), inR x2 → inR x3 → fX6_buried_L92 n (fX6_buried_L25 n x1 k25) x1 x2 k92 σ x3 = some (r, σ2) → Wd D cy ad nm nv σ H → va_S (AW ad nm nv sz) s.heap H locs → lv_has ls 4 [(0, .ref (ad 230)), (1, .int (i32 x1)), (2, .int (i32 x2)), (3, .int (i32 x3))] → W p l e ({ frames := 7, cells := 0, slots := 0, locals := 156 } : Room) s m args below meth c H locs 0 0 Q (F0 m 92 ls []) := by
        intro k92
        induction k92 with
        | zero =>
          intro σ H locs ls x2 x3 hx2 hx3 hf
          have hf : (none : Option (Int × St)) = some (r, σ2) := hf
          cases hf
        | succ k92 ih92 =>
          intro σ H locs ls x2 x3 hx2 hx3 hf hW hS hl
          have hf : fX6_buried_L92s n (fX6_buried_L25 n x1 k25) x1 x2 (fX6_buried_L92 n (fX6_buried_L25 n x1 k25) x1 x2 k92) σ x3 = some (r, σ2) := hf
          unfold fX6_buried_L92s at hf
          refine lv_iload_n hx hb dX6_buried_92 rfl (lv_at hl 3 rfl) ?_
          refine m_const (v := 4) hx hb dX6_buried_93 rfl ?_
          refine m_icmp_ge (tgt := 125) hx hb hx3 (by decide) hf dX6_buried_94 (by decide) (fun hf => ?_) (fun hf => ?_)
          · skip
            refine m_iinc (k0 := 2) (fun v22 => [(2, .int (i32 v22)), (0, .ref (ad 230)), (1, .int (i32 x1)), (3, .int (i32 x3))]) hx hb hf dX6_buried_125 hl rfl (by decide) (fun _ => rfl) (fun v22 ls hv22 hf hl => ?_)
            have hl : lv_has ls 4 [(2, .int (i32 v22)), (0, .ref (ad 230)), (1, .int (i32 x1)), (3, .int (i32 x3))] := hl
            refine lv_goto (tgt := 25) hx hb dX6_buried_128 (by decide) ?_
            exact ih25 _ _ _ _ v22 hv22 hf hW hS (lv_sub hl [1, 2, 0] rfl)
          · skip
            refine lv_aload_n hx hb dX6_buried_97 rfl (lv_at hl 0 rfl) ?_
            refine g_X6_asked X hW (X.2.2.2.2.1 _ mw1090) dX6_buried_98 ?_
            refine lv_iload_n hx hb dX6_buried_101 rfl (lv_at hl 2 rfl) ?_
            refine m_zald X hW a_X6_asked hx2 hf dX6_buried_102 (fun v23 hv23 hf => ?_)
            refine m_if_eq (tgt := 125) hx hb hv23 hf dX6_buried_103 (by decide) (fun hf => ?_) (fun hf => ?_)
            · skip
              refine m_iinc (k0 := 2) (fun v24 => [(2, .int (i32 v24)), (0, .ref (ad 230)), (1, .int (i32 x1)), (3, .int (i32 x3))]) hx hb hf dX6_buried_125 hl rfl (by decide) (fun _ => rfl) (fun v24 ls hv24 hf hl => ?_)
              have hl : lv_has ls 4 [(2, .int (i32 v24)), (0, .ref (ad 230)), (1, .int (i32 x1)), (3, .int (i32 x3))] := hl
              refine lv_goto (tgt := 25) hx hb dX6_buried_128 (by decide) ?_
              exact ih25 _ _ _ _ v24 hv24 hf hW hS (lv_sub hl [1, 2, 0] rfl)
            · skip
              refine lv_aload_n hx hb dX6_buried_106 rfl (lv_at hl 0 rfl) ?_
              refine g_X6_asked X hW (X.2.2.2.2.1 _ mw1090) dX6_buried_107 ?_
              refine lv_iload_n hx hb dX6_buried_110 rfl (lv_at hl 2 rfl) ?_
              refine lv_aload_n hx hb dX6_buried_111 rfl (lv_at hl 0 rfl) ?_
              refine lv_iload_n hx hb dX6_buried_112 rfl (lv_at hl 1 rfl) ?_
              refine lv_iload_n hx hb dX6_buried_113 rfl (lv_at hl 3 rfl) ?_
              refine lv_iload_n hx hb dX6_buried_114 rfl (lv_at hl 2 rfl) ?_
              refine m_callVi1 (z := true) (As := [.int (i32 x1), .int (i32 x3), .int (i32 x2)]) (rest := [.int (i32 x2), .ref (ad 275)]) X hW hS hl.1 gc_X6_262 hd_X6_knowsOf ⟨rfl, rfl, Nat.le_of_ble_eq_true rfl, Nat.le_of_ble_eq_true rfl⟩ (rc_X6 X hW) (fun v q => ok_X6_knowsOf hx1 hx3 hx2 q) hf rfl rfl (Nat.le_of_ble_eq_true rfl) dX6_buried_115 ⟨Nat.le_of_ble_eq_true rfl, Nat.le_of_ble_eq_true rfl⟩ (fun v25 H locs hv25 zv25 hWv25 hSv25 hf => ?_)
              refine m_zast X hWv25 hSv25 a_X6_asked hx2 hv25 hf dX6_buried_118 (fun σ26 H locs hW26 hS26 hf => ?_)
              refine m_iinc (k0 := 3) (fun v27 => [(3, .int (i32 v27)), (0, .ref (ad 230)), (1, .int (i32 x1)), (2, .int (i32 x2))]) hx hb hf dX6_buried_119 hl rfl (by decide) (fun _ => rfl) (fun v27 ls hv27 hf hl => ?_)
              have hl : lv_has ls 4 [(3, .int (i32 v27)), (0, .ref (ad 230)), (1, .int (i32 x1)), (2, .int (i32 x2))] := hl
              refine lv_goto (tgt := 92) hx hb dX6_buried_122 (by decide) ?_
              exact ih92 _ _ _ _ x2 v27 hx2 hv27 hf hW26 hS26 (lv_sub hl [1, 2, 3, 0] rfl)
      have hc70 : ∀ (σ : St) (H : Heap) (locs : List Loc) (ls : Array Slot) (x2 : Int) (t0 : Int) (t1 : Int), inR x2 → inR t0 → inR t1 → fX6_buried_J70 n (fX6_buried_L25 n x1 k25) σ x1 x2 t0 t1 = some (r, σ2) → Wd D cy ad nm nv σ H → va_S (AW ad nm nv sz) s.heap H locs → lv_has ls 4 [(0, .ref (ad 230)), (1, .int (i32 x1)), (2, .int (i32 x2))] → W p l e ({ frames := 7, cells := 0, slots := 0, locals := 156 } : Room) s m args below meth c H locs 0 0 Q (F0 m 70 ls [.int (i32 t0), .int (i32 t1), .ref (ad 273)]) := by
        intro σ H locs ls x2 t0 t1 hx2 ht0 ht1 hf hW hS hl
        unfold fX6_buried_J70 at hf
        refine m_zast X hW hS a_X6_kept ht1 ht0 hf dX6_buried_70 (fun σ19 H locs hW19 hS19 hf => ?_)
        refine lv_aload_n hx hb dX6_buried_71 rfl (lv_at hl 0 rfl) ?_
        refine g_X6_asked X hW19 (X.2.2.2.2.1 _ mw1090) dX6_buried_72 ?_
        refine lv_iload_n hx hb dX6_buried_75 rfl (lv_at hl 2 rfl) ?_
        refine lv_iload_n hx hb dX6_buried_76 rfl (lv_at hl 2 rfl) ?_
        refine lv_aload_n hx hb dX6_buried_77 rfl (lv_at hl 0 rfl) ?_
        refine g_X6_actMany X hW19 (X.2.2.2.2.1 _ mw1047) dX6_buried_78 ?_
        refine m_icmp_ge (tgt := 88) hx hb hx2 (hW19.2.1 _ _) hf dX6_buried_81 (by decide) (fun hf => ?_) (fun hf => ?_)
        · skip
          refine m_const (v := 0) hx hb dX6_buried_88 rfl ?_
          refine m_zast X hW19 hS19 a_X6_asked hx2 (by decide) hf dX6_buried_89 (fun σ20 H locs hW20 hS20 hf => ?_)
          refine m_const (v := 0) hx hb dX6_buried_90 rfl ?_
          refine lv_istore_n (lv' := [(3, .int (i32 0)), (0, .ref (ad 230)), (1, .int (i32 x1)), (2, .int (i32 x2))]) hx hb dX6_buried_91 rfl hl (by decide) rfl (fun ls hl => ?_)
          exact hc92 n _ _ _ _ x2 0 hx2 (by decide) hf hW20 hS20 (lv_sub hl [1, 2, 3, 0] rfl)
        · skip
          refine m_const (v := 1) hx hb dX6_buried_84 rfl ?_
          refine lv_goto (tgt := 89) hx hb dX6_buried_85 (by decide) ?_
          refine m_zast X hW19 hS19 a_X6_asked hx2 (by decide) hf dX6_buried_89 (fun σ21 H locs hW21 hS21 hf => ?_)
          refine m_const (v := 0) hx hb dX6_buried_90 rfl ?_
          refine lv_istore_n (lv' := [(3, .int (i32 0)), (0, .ref (ad 230)), (1, .int (i32 x1)), (2, .int (i32 x2))]) hx hb dX6_buried_91 rfl hl (by decide) rfl (fun ls hl => ?_)
          exact hc92 n _ _ _ _ x2 0 hx2 (by decide) hf hW21 hS21 (lv_sub hl [1, 2, 3, 0] rfl)
      have hc69 : ∀ (σ : St) (H : Heap) (locs : List Loc) (ls : Array Slot) (x2 : Int) (t0 : Int), inR x2 → inR t0 → fX6_buried_J69 n (fX6_buried_L25 n x1 k25) σ x1 x2 t0 = some (r, σ2) → Wd D cy ad nm nv σ H → va_S (AW ad nm nv sz) s.heap H locs → lv_has ls 4 [(0, .ref (ad 230)), (1, .int (i32 x1)), (2, .int (i32 x2))] → W p l e ({ frames := 7, cells := 0, slots := 0, locals := 156 } : Room) s m args below meth c H locs 0 0 Q (F0 m 69 ls [.int (i32 t0), .ref (ad 273)]) := by
        intro σ H locs ls x2 t0 hx2 ht0 hf hW hS hl
        unfold fX6_buried_J69 at hf
        refine m_const (v := 0) hx hb dX6_buried_69 rfl ?_
        exact hc70 _ _ _ _ x2 0 t0 hx2 (by decide) ht0 hf hW hS (lv_sub hl [0, 1, 2] rfl)
      refine lv_iload_n hx hb dX6_buried_25 rfl (lv_at hl 2 rfl) ?_
      refine m_sipush (v := 160) hx hb dX6_buried_26 (by decide) ?_
      refine m_icmp_ge (tgt := 131) hx hb hx2 (by decide) hf dX6_buried_29 (by decide) (fun hf => ?_) (fun hf => ?_)
      · skip
        refine lv_aload_n hx hb dX6_buried_131 rfl (lv_at hl 0 rfl) ?_
        refine lv_aload_n hx hb dX6_buried_132 rfl (lv_at hl 0 rfl) ?_
        refine g_X6_asked X hW (X.2.2.2.2.1 _ mw1090) dX6_buried_133 ?_
        refine m_const (v := 0) hx hb dX6_buried_136 rfl ?_
        refine m_callVv (As := [.ref (ad 275), .int (i32 0)]) (rest := []) X hW hS hl.1 gc_X6_201 hd_X6_finds ⟨rfl, rfl, Nat.le_of_ble_eq_true rfl, Nat.le_of_ble_eq_true rfl⟩ (rc_X6 X hW) (fun v q => ok_X6_finds (arrL a_X6_asked) (by decide) q) hf rfl rfl (Nat.le_of_ble_eq_true rfl) dX6_buried_137 ⟨Nat.le_of_ble_eq_true rfl, Nat.le_of_ble_eq_true rfl⟩ (fun σ6 H locs hW6 hS6 hf => ?_)
        refine m_const (v := 0) hx hb dX6_buried_140 rfl ?_
        refine lv_istore_n (lv' := [(2, .int (i32 0)), (0, .ref (ad 230)), (1, .int (i32 x1))]) hx hb dX6_buried_141 rfl hl (by decide) rfl (fun ls hl => ?_)
        refine m_const (v := 0) hx hb dX6_buried_142 rfl ?_
        refine lv_istore_n (lv' := [(3, .int (i32 0)), (2, .int (i32 0)), (0, .ref (ad 230)), (1, .int (i32 x1))]) hx hb dX6_buried_143 rfl hl (by decide) rfl (fun ls hl => ?_)
        exact hc144 n _ _ _ _ 0 0 (by decide) (by decide) hf hW6 hS6 (lv_sub hl [2, 1, 0] rfl)
      · skip
        refine lv_aload_n hx hb dX6_buried_32 rfl (lv_at hl 0 rfl) ?_
        refine g_X6_kept X hW (X.2.2.2.2.1 _ mw1088) dX6_buried_33 ?_
        refine lv_iload_n hx hb dX6_buried_36 rfl (lv_at hl 2 rfl) ?_
        refine lv_iload_n hx hb dX6_buried_37 rfl (lv_at hl 2 rfl) ?_
        refine lv_aload_n hx hb dX6_buried_38 rfl (lv_at hl 0 rfl) ?_
        refine g_X6_actMany X hW (X.2.2.2.2.1 _ mw1047) dX6_buried_39 ?_
        refine m_icmp_ge (tgt := 69) hx hb hx2 (hW.2.1 _ _) hf dX6_buried_42 (by decide) (fun hf => ?_) (fun hf => ?_)
        · skip
          exact hc69 _ _ _ _ x2 x2 hx2 hx2 hf hW hS (lv_sub hl [0, 1, 2] rfl)
        · skip
          refine lv_aload_n hx hb dX6_buried_45 rfl (lv_at hl 0 rfl) ?_
          refine lv_iload_n hx hb dX6_buried_46 rfl (lv_at hl 2 rfl) ?_
          refine m_callVi1 (z := false) (As := [.int (i32 x2)]) (rest := [.int (i32 x2), .ref (ad 273)]) X hW hS hl.1 gc_X6_151 hd_X6_spot ⟨rfl, rfl, Nat.le_of_ble_eq_true rfl, Nat.le_of_ble_eq_true rfl⟩ (rc_X6 X hW) (fun v q => ok_X6_spot hx2 q) hf rfl rfl (Nat.le_of_ble_eq_true rfl) dX6_buried_47 ⟨Nat.le_of_ble_eq_true rfl, Nat.le_of_ble_eq_true rfl⟩ (fun v7 H locs hv7 zv7 hWv7 hSv7 hf => ?_)
          refine lv_aload_n hx hb dX6_buried_50 rfl (lv_at hl 0 rfl) ?_
          refine g_X6_rowMany X hWv7 (X.2.2.2.2.1 _ mw1078) dX6_buried_51 ?_
          refine m_icmp_ge (tgt := 69) hx hb hv7 (hWv7.2.1 _ _) hf dX6_buried_54 (by decide) (fun hf => ?_) (fun hf => ?_)
          · skip
            exact hc69 _ _ _ _ x2 x2 hx2 hx2 hf hWv7 hSv7 (lv_sub hl [0, 1, 2] rfl)
          · skip
            refine lv_aload_n hx hb dX6_buried_57 rfl (lv_at hl 0 rfl) ?_
            refine lv_iload_n hx hb dX6_buried_58 rfl (lv_at hl 2 rfl) ?_
            refine m_callVi1 (z := true) (As := [.int (i32 x2)]) (rest := [.int (i32 x2), .ref (ad 273)]) X hWv7 hSv7 hl.1 gc_X6_189 hd_X6_isSeen ⟨rfl, rfl, Nat.le_of_ble_eq_true rfl, Nat.le_of_ble_eq_true rfl⟩ (rc_X6 X hWv7) (fun v q => ok_X6_isSeen hx2 q) hf rfl rfl (Nat.le_of_ble_eq_true rfl) dX6_buried_59 ⟨Nat.le_of_ble_eq_true rfl, Nat.le_of_ble_eq_true rfl⟩ (fun v8 H locs hv8 zv8 hWv8 hSv8 hf => ?_)
            refine m_if_ne (tgt := 69) hx hb hv8 hf dX6_buried_62 (by decide) (fun hf => ?_) (fun hf => ?_)
            · skip
              exact hc69 _ _ _ _ x2 x2 hx2 hx2 hf hWv8 hSv8 (lv_sub hl [0, 1, 2] rfl)
            · skip
              refine m_const (v := 1) hx hb dX6_buried_65 rfl ?_
              refine lv_goto (tgt := 70) hx hb dX6_buried_66 (by decide) ?_
              exact hc70 _ _ _ _ x2 1 x2 hx2 (by decide) hx2 hf hWv8 hSv8 (lv_sub hl [0, 1, 2] rfl)
  refine lv_iload_n hx hb dX6_buried_0 rfl (lv_at hl 1 rfl) ?_
  refine m_callSi1 (z := true) (As := [.int (i32 x1)]) (rest := []) X hW hS hl.1 gc_X6_215 hd_X6_isSite ⟨rfl, rfl, Nat.le_of_ble_eq_true rfl, Nat.le_of_ble_eq_true rfl⟩ (fun v q => ok_X6_isSite hx1 q) hf rfl rfl (Nat.le_of_ble_eq_true rfl) dX6_buried_1 ⟨Nat.le_of_ble_eq_true rfl, Nat.le_of_ble_eq_true rfl⟩ (fun v1 H locs hv1 zv1 hWv1 hSv1 hf => ?_)
  refine m_if_ne (tgt := 13) hx hb hv1 hf dX6_buried_4 (by decide) (fun hf => ?_) (fun hf => ?_)
  · skip
    refine lv_aload_n hx hb dX6_buried_13 rfl (lv_at hl 0 rfl) ?_
    refine m_const (v := 0) hx hb dX6_buried_14 rfl ?_
    refine p_X6_thrown X hWv1 hSv1 (by decide) hf (X.2.2.2.2.1 _ mw1046) dX6_buried_15 (fun σ2 H locs hW2 hS2 hf => ?_)
    refine lv_aload_n hx hb dX6_buried_18 rfl (lv_at hl 0 rfl) ?_
    refine lv_iload_n hx hb dX6_buried_19 rfl (lv_at hl 1 rfl) ?_
    refine m_callVv (As := [.int (i32 x1)]) (rest := []) X hW2 hS2 hl.1 gc_X6_208 hd_X6_findsSite ⟨rfl, rfl, Nat.le_of_ble_eq_true rfl, Nat.le_of_ble_eq_true rfl⟩ (rc_X6 X hW2) (fun v q => ok_X6_findsSite hx1 q) hf rfl rfl (Nat.le_of_ble_eq_true rfl) dX6_buried_20 ⟨Nat.le_of_ble_eq_true rfl, Nat.le_of_ble_eq_true rfl⟩ (fun σ3 H locs hW3 hS3 hf => ?_)
    refine m_const (v := 0) hx hb dX6_buried_23 rfl ?_
    refine lv_istore_n (lv' := [(2, .int (i32 0)), (0, .ref (ad 230)), (1, .int (i32 x1))]) hx hb dX6_buried_24 rfl hl (by decide) rfl (fun ls hl => ?_)
    exact hc25 n _ _ _ _ 0 (by decide) hf hW3 hS3 (lv_sub hl [1, 2, 0] rfl)
  · skip
    refine lv_aload_n hx hb dX6_buried_7 rfl (lv_at hl 0 rfl) ?_
    refine m_const (v := 1) hx hb dX6_buried_8 rfl ?_
    refine m_callVi (z := false) (As := [.int (i32 1)]) (rest := []) X hWv1 hSv1 hl.1 gc_X6_222 hd_X6_fails ⟨rfl, rfl, Nat.le_of_ble_eq_true rfl, Nat.le_of_ble_eq_true rfl⟩ (rc_X6 X hWv1) (fun v q9 q => ok_X6_fails (by decide) q) hf rfl rfl (Nat.le_of_ble_eq_true rfl) dX6_buried_9 ⟨Nat.le_of_ble_eq_true rfl, Nat.le_of_ble_eq_true rfl⟩ (fun v5 σ4 H locs hv5 zv5 hW4 hS4 hf => ?_)
    exact m_ireti X hr hlocks rfl hv5 (fun h => Bool.noConfusion h) hW4 hS4 (congrArg Prod.fst (Option.some.inj hf)) (congrArg Prod.snd (Option.some.inj hf)) hQ dX6_buried_12
set_option maxRecDepth 100000 in
set_option maxHeartbeats 4000000 in
theorem ok_X6_acts {l : Launch} {D : va_G} {cy : Nat → ClassId} {ad : Nat → Nat} {nm nv sz : Nat} {σ : St} {r : Int} {σ2 : St} (hf : fX6_acts σ = some (r, σ2)) : CI l yX6_acts cX6_acts 1 (some .int) ({ frames := 0, cells := 0, slots := 0, locals := 0 } : Room) [.ref (ad 230)] D cy ad nm nv sz σ false r σ2 := by
  refine m_entry RX6 rfl (by decide +kernel) (Nat.le_of_ble_eq_true rfl) ?_
  intro p e s m args below meth c Q hQ hr hlocks X hW hS ls hl
  have hx := X.1
  have hb := X.2.1
  have hl : lv_has ls 1 [(0, .ref (ad 230))] := hl
  unfold fX6_acts at hf
  refine lv_aload_n hx hb dX6_acts_0 rfl (lv_at hl 0 rfl) ?_
  refine m_const (v := 0) hx hb dX6_acts_1 rfl ?_
  refine p_X6_thrown X hW hS (by decide) hf (X.2.2.2.2.1 _ mw1046) dX6_acts_2 (fun σ1 H locs hW1 hS1 hf => ?_)
  refine lv_aload_n hx hb dX6_acts_5 rfl (lv_at hl 0 rfl) ?_
  refine g_X6_actMany X hW1 (X.2.2.2.2.1 _ mw1047) dX6_acts_6 ?_
  exact m_ireti X hr hlocks rfl (hW1.2.1 _ _) (fun h => Bool.noConfusion h) hW1 hS1 (congrArg Prod.fst (Option.some.inj hf)) (congrArg Prod.snd (Option.some.inj hf)) hQ dX6_acts_9
set_option maxRecDepth 100000 in
set_option maxHeartbeats 4000000 in
theorem ok_X6_has {l : Launch} {D : va_G} {cy : Nat → ClassId} {ad : Nat → Nat} {nm nv sz : Nat} {σ : St} {x1 : Int} {r : Int} {σ2 : St} (hx1 : inR x1) (hf : fX6_has σ x1 = some (r, σ2)) : CI l yX6_has cX6_has 2 (some .int) ({ frames := 2, cells := 0, slots := 0, locals := 42 } : Room) [.ref (ad 230), .int (i32 x1)] D cy ad nm nv sz σ false r σ2 := by
  refine m_entry RX6 rfl (by decide +kernel) (Nat.le_of_ble_eq_true rfl) ?_
  intro p e s m args below meth c Q hQ hr hlocks X hW hS ls hl
  have hx := X.1
  have hb := X.2.1
  have hl : lv_has ls 2 [(0, .ref (ad 230)), (1, .int (i32 x1))] := hl
  unfold fX6_has at hf
  refine lv_aload_n hx hb dX6_has_0 rfl (lv_at hl 0 rfl) ?_
  refine m_const (v := 0) hx hb dX6_has_1 rfl ?_
  refine p_X6_thrown X hW hS (by decide) hf (X.2.2.2.2.1 _ mw1046) dX6_has_2 (fun σ1 H locs hW1 hS1 hf => ?_)
  refine lv_iload_n hx hb dX6_has_5 rfl (lv_at hl 1 rfl) ?_
  refine m_callSi1 (z := true) (As := [.int (i32 x1)]) (rest := []) X hW1 hS1 hl.1 gc_X6_215 hd_X6_isSite ⟨rfl, rfl, Nat.le_of_ble_eq_true rfl, Nat.le_of_ble_eq_true rfl⟩ (fun v q => ok_X6_isSite hx1 q) hf rfl rfl (Nat.le_of_ble_eq_true rfl) dX6_has_6 ⟨Nat.le_of_ble_eq_true rfl, Nat.le_of_ble_eq_true rfl⟩ (fun v2 H locs hv2 zv2 hWv2 hSv2 hf => ?_)
  refine m_if_eq (tgt := 21) hx hb hv2 hf dX6_has_9 (by decide) (fun hf => ?_) (fun hf => ?_)
  · skip
    refine lv_aload_n hx hb dX6_has_21 rfl (lv_at hl 0 rfl) ?_
    refine m_const (v := 1) hx hb dX6_has_22 rfl ?_
    refine m_callVi (z := false) (As := [.int (i32 1)]) (rest := []) X hWv2 hSv2 hl.1 gc_X6_222 hd_X6_fails ⟨rfl, rfl, Nat.le_of_ble_eq_true rfl, Nat.le_of_ble_eq_true rfl⟩ (rc_X6 X hWv2) (fun v q9 q => ok_X6_fails (by decide) q) hf rfl rfl (Nat.le_of_ble_eq_true rfl) dX6_has_23 ⟨Nat.le_of_ble_eq_true rfl, Nat.le_of_ble_eq_true rfl⟩ (fun v4 σ3 H locs hv4 zv4 hW3 hS3 hf => ?_)
    exact m_ireti X hr hlocks rfl hv4 (fun h => Bool.noConfusion h) hW3 hS3 (congrArg Prod.fst (Option.some.inj hf)) (congrArg Prod.snd (Option.some.inj hf)) hQ dX6_has_26
  · skip
    refine lv_aload_n hx hb dX6_has_12 rfl (lv_at hl 0 rfl) ?_
    refine g_X6_journalMany X hWv2 (X.2.2.2.2.1 _ mw1060) dX6_has_13 ?_
    refine lv_iload_n hx hb dX6_has_16 rfl (lv_at hl 1 rfl) ?_
    refine m_iald X hWv2 a_X6_journalMany hx1 hf dX6_has_17 (fun v5 hv5 hf => ?_)
    refine lv_goto (tgt := 26) hx hb dX6_has_18 (by decide) ?_
    exact m_ireti X hr hlocks rfl hv5 (fun h => Bool.noConfusion h) hWv2 hSv2 (congrArg Prod.fst (Option.some.inj hf)) (congrArg Prod.snd (Option.some.inj hf)) hQ dX6_has_26
set_option maxRecDepth 100000 in
set_option maxHeartbeats 4000000 in
theorem ok_X6_actAt {l : Launch} {D : va_G} {cy : Nat → ClassId} {ad : Nat → Nat} {nm nv sz : Nat} {σ : St} {n : Nat} {x1 : Int} {x2 : Int} {r : Int} {σ2 : St} (hx1 : inR x1) (hx2 : inR x2) (hf : fX6_actAt n σ x1 x2 = some (r, σ2)) : CI l yX6_actAt cX6_actAt 3 (some .int) ({ frames := 2, cells := 0, slots := 0, locals := 46 } : Room) [.ref (ad 230), .int (i32 x1), .int (i32 x2)] D cy ad nm nv sz σ false r σ2 := by
  refine m_entry RX6 rfl (by decide +kernel) (Nat.le_of_ble_eq_true rfl) ?_
  intro p e s m args below meth c Q hQ hr hlocks X hW hS ls hl
  have hx := X.1
  have hb := X.2.1
  have hl : lv_has ls 3 [(0, .ref (ad 230)), (1, .int (i32 x1)), (2, .int (i32 x2))] := hl
  unfold fX6_actAt at hf
  have hc29 : ∀ (σ : St) (H : Heap) (locs : List Loc) (ls : Array Slot) (t0 : Int), inR t0 → fX6_actAt_J29 n σ x1 x2 t0 = some (r, σ2) → Wd D cy ad nm nv σ H → va_S (AW ad nm nv sz) s.heap H locs → lv_has ls 3 [(0, .ref (ad 230)), (1, .int (i32 x1)), (2, .int (i32 x2))] → W p l e ({ frames := 2, cells := 0, slots := 0, locals := 46 } : Room) s m args below meth c H locs 0 0 Q (F0 m 29 ls [.int (i32 t0), .ref (ad 230)]) := by
    intro σ H locs ls t0 ht0 hf hW hS hl
    unfold fX6_actAt_J29 at hf
    refine p_X6_thrown X hW hS ht0 hf (X.2.2.2.2.1 _ mw1046) dX6_actAt_29 (fun σ5 H locs hW5 hS5 hf => ?_)
    refine lv_aload_n hx hb dX6_actAt_32 rfl (lv_at hl 0 rfl) ?_
    refine g_X6_thrown X hW5 (X.2.2.2.2.1 _ mw1046) dX6_actAt_33 ?_
    refine m_if_le (tgt := 41) hx hb (hW5.2.1 _ _) hf dX6_actAt_36 (by decide) (fun hf => ?_) (fun hf => ?_)
    · skip
      refine lv_aload_n hx hb dX6_actAt_41 rfl (lv_at hl 0 rfl) ?_
      refine lv_aload_n hx hb dX6_actAt_42 rfl (lv_at hl 0 rfl) ?_
      refine g_X6_has X hW5 (X.2.2.2.2.1 _ mw1058) dX6_actAt_43 ?_
      refine m_sipush (v := 160) hx hb dX6_actAt_46 (by decide) ?_
      refine lv_iload_n hx hb dX6_actAt_49 rfl (lv_at hl 1 rfl) ?_
      refine m_imul hx hb hf dX6_actAt_50 (fun v6 hv6 hf => ?_)
      refine m_callVv (As := [.ref (ad 243), .int (i32 v6)]) (rest := []) X hW5 hS5 hl.1 gc_X6_158 hd_X6_orders ⟨rfl, rfl, Nat.le_of_ble_eq_true rfl, Nat.le_of_ble_eq_true rfl⟩ (rc_X6 X hW5) (fun v q => ok_X6_orders (arrL a_X6_has) hv6 q) hf rfl rfl (Nat.le_of_ble_eq_true rfl) dX6_actAt_51 ⟨Nat.le_of_ble_eq_true rfl, Nat.le_of_ble_eq_true rfl⟩ (fun σ7 H locs hW7 hS7 hf => ?_)
      refine lv_aload_n hx hb dX6_actAt_54 rfl (lv_at hl 0 rfl) ?_
      refine g_X6_order X hW7 (X.2.2.2.2.1 _ mw1076) dX6_actAt_55 ?_
      refine lv_iload_n hx hb dX6_actAt_58 rfl (lv_at hl 2 rfl) ?_
      refine m_iald X hW7 a_X6_order hx2 hf dX6_actAt_59 (fun v8 hv8 hf => ?_)
      exact m_ireti X hr hlocks rfl hv8 (fun h => Bool.noConfusion h) hW7 hS7 (congrArg Prod.fst (Option.some.inj hf)) (congrArg Prod.snd (Option.some.inj hf)) hQ dX6_actAt_60
    · skip
      refine m_const (v := 0) hx hb dX6_actAt_39 rfl ?_
      exact m_ireti X hr hlocks rfl (by decide) (fun h => Bool.noConfusion h) hW5 hS5 (congrArg Prod.fst (Option.some.inj hf)) (congrArg Prod.snd (Option.some.inj hf)) hQ dX6_actAt_40
  have hc28 : ∀ (σ : St) (H : Heap) (locs : List Loc) (ls : Array Slot), fX6_actAt_J28 n σ x1 x2 = some (r, σ2) → Wd D cy ad nm nv σ H → va_S (AW ad nm nv sz) s.heap H locs → lv_has ls 3 [(0, .ref (ad 230)), (1, .int (i32 x1)), (2, .int (i32 x2))] → W p l e ({ frames := 2, cells := 0, slots := 0, locals := 46 } : Room) s m args below meth c H locs 0 0 Q (F0 m 28 ls [.ref (ad 230)]) := by
    intro σ H locs ls hf hW hS hl
    unfold fX6_actAt_J28 at hf
    refine m_const (v := 1) hx hb dX6_actAt_28 rfl ?_
    exact hc29 _ _ _ _ 1 (by decide) hf hW hS (lv_sub hl [0, 1, 2] rfl)
  refine lv_aload_n hx hb dX6_actAt_0 rfl (lv_at hl 0 rfl) ?_
  refine lv_iload_n hx hb dX6_actAt_1 rfl (lv_at hl 1 rfl) ?_
  refine m_callSi1 (z := true) (As := [.int (i32 x1)]) (rest := [.ref (ad 230)]) X hW hS hl.1 gc_X6_215 hd_X6_isSite ⟨rfl, rfl, Nat.le_of_ble_eq_true rfl, Nat.le_of_ble_eq_true rfl⟩ (fun v q => ok_X6_isSite hx1 q) hf rfl rfl (Nat.le_of_ble_eq_true rfl) dX6_actAt_2 ⟨Nat.le_of_ble_eq_true rfl, Nat.le_of_ble_eq_true rfl⟩ (fun v1 H locs hv1 zv1 hWv1 hSv1 hf => ?_)
  refine m_if_eq (tgt := 28) hx hb hv1 hf dX6_actAt_5 (by decide) (fun hf => ?_) (fun hf => ?_)
  · skip
    exact hc28 _ _ _ _  hf hWv1 hSv1 (lv_sub hl [0, 1, 2] rfl)
  · skip
    refine lv_iload_n hx hb dX6_actAt_8 rfl (lv_at hl 2 rfl) ?_
    refine m_const (v := 0) hx hb dX6_actAt_9 rfl ?_
    refine lv_aload_n hx hb dX6_actAt_10 rfl (lv_at hl 0 rfl) ?_
    refine g_X6_journalMany X hWv1 (X.2.2.2.2.1 _ mw1060) dX6_actAt_11 ?_
    refine lv_iload_n hx hb dX6_actAt_14 rfl (lv_at hl 1 rfl) ?_
    refine m_iald X hWv1 a_X6_journalMany hx1 hf dX6_actAt_15 (fun v2 hv2 hf => ?_)
    refine m_const (v := 1) hx hb dX6_actAt_16 rfl ?_
    refine m_isub hx hb hf dX6_actAt_17 (fun v3 hv3 hf => ?_)
    refine m_callSi1 (z := true) (As := [.int (i32 x2), .int (i32 0), .int (i32 v3)]) (rest := [.ref (ad 230)]) X hWv1 hSv1 hl.1 gc_X6_130 hd_X6_isIn ⟨rfl, rfl, Nat.le_of_ble_eq_true rfl, Nat.le_of_ble_eq_true rfl⟩ (fun v q => ok_X6_isIn hx2 (by decide) hv3 q) hf rfl rfl (Nat.le_of_ble_eq_true rfl) dX6_actAt_18 ⟨Nat.le_of_ble_eq_true rfl, Nat.le_of_ble_eq_true rfl⟩ (fun v4 H locs hv4 zv4 hWv4 hSv4 hf => ?_)
    refine m_if_eq (tgt := 28) hx hb hv4 hf dX6_actAt_21 (by decide) (fun hf => ?_) (fun hf => ?_)
    · skip
      exact hc28 _ _ _ _  hf hWv4 hSv4 (lv_sub hl [0, 1, 2] rfl)
    · skip
      refine m_const (v := 0) hx hb dX6_actAt_24 rfl ?_
      refine lv_goto (tgt := 29) hx hb dX6_actAt_25 (by decide) ?_
      exact hc29 _ _ _ _ 0 (by decide) hf hWv4 hSv4 (lv_sub hl [0, 1, 2] rfl)
set_option maxRecDepth 100000 in
set_option maxHeartbeats 4000000 in
theorem ok_X6_act {l : Launch} {D : va_G} {cy : Nat → ClassId} {ad : Nat → Nat} {nm nv sz : Nat} {σ : St} {x1 : Int} {r : Int} {σ2 : St} (hx1 : inR x1) (hf : fX6_act σ x1 = some (r, σ2)) : CI l yX6_act cX6_act 2 (some .int) ({ frames := 1, cells := 0, slots := 0, locals := 22 } : Room) [.ref (ad 230), .int (i32 x1)] D cy ad nm nv sz σ false r σ2 := by
  refine m_entry RX6 rfl (by decide +kernel) (Nat.le_of_ble_eq_true rfl) ?_
  intro p e s m args below meth c Q hQ hr hlocks X hW hS ls hl
  have hx := X.1
  have hb := X.2.1
  have hl : lv_has ls 2 [(0, .ref (ad 230)), (1, .int (i32 x1))] := hl
  unfold fX6_act at hf
  refine lv_aload_n hx hb dX6_act_0 rfl (lv_at hl 0 rfl) ?_
  refine m_const (v := 0) hx hb dX6_act_1 rfl ?_
  refine p_X6_thrown X hW hS (by decide) hf (X.2.2.2.2.1 _ mw1046) dX6_act_2 (fun σ1 H locs hW1 hS1 hf => ?_)
  refine lv_iload_n hx hb dX6_act_5 rfl (lv_at hl 1 rfl) ?_
  refine m_const (v := 0) hx hb dX6_act_6 rfl ?_
  refine lv_aload_n hx hb dX6_act_7 rfl (lv_at hl 0 rfl) ?_
  refine g_X6_actMany X hW1 (X.2.2.2.2.1 _ mw1047) dX6_act_8 ?_
  refine m_const (v := 1) hx hb dX6_act_11 rfl ?_
  refine m_isub hx hb hf dX6_act_12 (fun v2 hv2 hf => ?_)
  refine m_callSi1 (z := true) (As := [.int (i32 x1), .int (i32 0), .int (i32 v2)]) (rest := []) X hW1 hS1 hl.1 gc_X6_130 hd_X6_isIn ⟨rfl, rfl, Nat.le_of_ble_eq_true rfl, Nat.le_of_ble_eq_true rfl⟩ (fun v q => ok_X6_isIn hx1 (by decide) hv2 q) hf rfl rfl (Nat.le_of_ble_eq_true rfl) dX6_act_13 ⟨Nat.le_of_ble_eq_true rfl, Nat.le_of_ble_eq_true rfl⟩ (fun v3 H locs hv3 zv3 hWv3 hSv3 hf => ?_)
  refine m_if_eq (tgt := 49) hx hb hv3 hf dX6_act_16 (by decide) (fun hf => ?_) (fun hf => ?_)
  · skip
    refine lv_aload_n hx hb dX6_act_49 rfl (lv_at hl 0 rfl) ?_
    refine m_const (v := 1) hx hb dX6_act_50 rfl ?_
    refine m_callVi (z := false) (As := [.int (i32 1)]) (rest := []) X hWv3 hSv3 hl.1 gc_X6_222 hd_X6_fails ⟨rfl, rfl, Nat.le_of_ble_eq_true rfl, Nat.le_of_ble_eq_true rfl⟩ (rc_X6 X hWv3) (fun v q9 q => ok_X6_fails (by decide) q) hf rfl rfl (Nat.le_of_ble_eq_true rfl) dX6_act_51 ⟨Nat.le_of_ble_eq_true rfl, Nat.le_of_ble_eq_true rfl⟩ (fun v5 σ4 H locs hv5 zv5 hW4 hS4 hf => ?_)
    exact m_ireti X hr hlocks rfl hv5 (fun h => Bool.noConfusion h) hW4 hS4 (congrArg Prod.fst (Option.some.inj hf)) (congrArg Prod.snd (Option.some.inj hf)) hQ dX6_act_54
  · skip
    refine m_sipush (v := 1000) hx hb dX6_act_19 (by decide) ?_
    refine lv_aload_n hx hb dX6_act_22 rfl (lv_at hl 0 rfl) ?_
    refine g_X6_counts X hWv3 (X.2.2.2.2.1 _ mw1049) dX6_act_23 ?_
    refine lv_iload_n hx hb dX6_act_26 rfl (lv_at hl 1 rfl) ?_
    refine m_iald X hWv3 a_X6_counts hx1 hf dX6_act_27 (fun v6 hv6 hf => ?_)
    refine m_imul hx hb hf dX6_act_28 (fun v7 hv7 hf => ?_)
    refine m_bipush (v := 100) hx hb dX6_act_29 (by decide) ?_
    refine lv_aload_n hx hb dX6_act_31 rfl (lv_at hl 0 rfl) ?_
    refine g_X6_makers X hWv3 (X.2.2.2.2.1 _ mw1048) dX6_act_32 ?_
    refine lv_iload_n hx hb dX6_act_35 rfl (lv_at hl 1 rfl) ?_
    refine m_iald X hWv3 a_X6_makers hx1 hf dX6_act_36 (fun v8 hv8 hf => ?_)
    refine m_imul hx hb hf dX6_act_37 (fun v9 hv9 hf => ?_)
    refine m_iadd hx hb hf dX6_act_38 (fun v10 hv10 hf => ?_)
    refine lv_aload_n hx hb dX6_act_39 rfl (lv_at hl 0 rfl) ?_
    refine g_X6_kinds X hWv3 (X.2.2.2.2.1 _ mw1050) dX6_act_40 ?_
    refine lv_iload_n hx hb dX6_act_43 rfl (lv_at hl 1 rfl) ?_
    refine m_iald X hWv3 a_X6_kinds hx1 hf dX6_act_44 (fun v11 hv11 hf => ?_)
    refine m_iadd hx hb hf dX6_act_45 (fun v12 hv12 hf => ?_)
    refine lv_goto (tgt := 54) hx hb dX6_act_46 (by decide) ?_
    exact m_ireti X hr hlocks rfl hv12 (fun h => Bool.noConfusion h) hWv3 hSv3 (congrArg Prod.fst (Option.some.inj hf)) (congrArg Prod.snd (Option.some.inj hf)) hQ dX6_act_54
set_option maxRecDepth 100000 in
set_option maxHeartbeats 4000000 in
theorem ok_X6_isUndone {l : Launch} {D : va_G} {cy : Nat → ClassId} {ad : Nat → Nat} {nm nv sz : Nat} {σ : St} {n : Nat} {x1 : Int} {x2 : Int} {r : Int} {σ2 : St} (hx1 : inR x1) (hx2 : inR x2) (hf : fX6_isUndone n σ x1 x2 = some (r, σ2)) : CI l yX6_isUndone cX6_isUndone 3 (some .boolean) ({ frames := 2, cells := 0, slots := 0, locals := 46 } : Room) [.ref (ad 230), .int (i32 x1), .int (i32 x2)] D cy ad nm nv sz σ true r σ2 := by
  refine m_entry RX6 rfl (by decide +kernel) (Nat.le_of_ble_eq_true rfl) ?_
  intro p e s m args below meth c Q hQ hr hlocks X hW hS ls hl
  have hx := X.1
  have hb := X.2.1
  have hl : lv_has ls 3 [(0, .ref (ad 230)), (1, .int (i32 x1)), (2, .int (i32 x2))] := hl
  unfold fX6_isUndone at hf
  have hc22 : ∀ (σ : St) (H : Heap) (locs : List Loc) (ls : Array Slot) (t0 : Int), inR t0 → fX6_isUndone_J22 n σ x1 x2 t0 = some (r, σ2) → Wd D cy ad nm nv σ H → va_S (AW ad nm nv sz) s.heap H locs → lv_has ls 3 [(0, .ref (ad 230)), (1, .int (i32 x1)), (2, .int (i32 x2))] → W p l e ({ frames := 2, cells := 0, slots := 0, locals := 46 } : Room) s m args below meth c H locs 0 0 Q (F0 m 22 ls [.int (i32 t0), .ref (ad 230)]) := by
    intro σ H locs ls t0 ht0 hf hW hS hl
    unfold fX6_isUndone_J22 at hf
    refine p_X6_thrown X hW hS ht0 hf (X.2.2.2.2.1 _ mw1046) dX6_isUndone_22 (fun σ3 H locs hW3 hS3 hf => ?_)
    refine lv_aload_n hx hb dX6_isUndone_25 rfl (lv_at hl 0 rfl) ?_
    refine g_X6_thrown X hW3 (X.2.2.2.2.1 _ mw1046) dX6_isUndone_26 ?_
    refine m_if_le (tgt := 34) hx hb (hW3.2.1 _ _) hf dX6_isUndone_29 (by decide) (fun hf => ?_) (fun hf => ?_)
    · skip
      refine lv_aload_n hx hb dX6_isUndone_34 rfl (lv_at hl 0 rfl) ?_
      refine lv_aload_n hx hb dX6_isUndone_35 rfl (lv_at hl 0 rfl) ?_
      refine g_X6_has X hW3 (X.2.2.2.2.1 _ mw1058) dX6_isUndone_36 ?_
      refine m_sipush (v := 160) hx hb dX6_isUndone_39 (by decide) ?_
      refine lv_iload_n hx hb dX6_isUndone_42 rfl (lv_at hl 1 rfl) ?_
      refine m_imul hx hb hf dX6_isUndone_43 (fun v4 hv4 hf => ?_)
      refine m_callVv (As := [.ref (ad 243), .int (i32 v4)]) (rest := []) X hW3 hS3 hl.1 gc_X6_158 hd_X6_orders ⟨rfl, rfl, Nat.le_of_ble_eq_true rfl, Nat.le_of_ble_eq_true rfl⟩ (rc_X6 X hW3) (fun v q => ok_X6_orders (arrL a_X6_has) hv4 q) hf rfl rfl (Nat.le_of_ble_eq_true rfl) dX6_isUndone_44 ⟨Nat.le_of_ble_eq_true rfl, Nat.le_of_ble_eq_true rfl⟩ (fun σ5 H locs hW5 hS5 hf => ?_)
      refine lv_aload_n hx hb dX6_isUndone_47 rfl (lv_at hl 0 rfl) ?_
      refine g_X6_undone X hW5 (X.2.2.2.2.1 _ mw1077) dX6_isUndone_48 ?_
      refine lv_iload_n hx hb dX6_isUndone_51 rfl (lv_at hl 2 rfl) ?_
      refine m_zald X hW5 a_X6_undone hx2 hf dX6_isUndone_52 (fun v6 hv6 hf => ?_)
      obtain ⟨hb7, hf⟩ := rb_of hf
      exact m_ireti X hr hlocks (nar_b hb7).1 hv6 (fun _ => hb7) hW5 hS5 (congrArg Prod.fst (Option.some.inj hf)) (congrArg Prod.snd (Option.some.inj hf)) hQ dX6_isUndone_53
    · skip
      refine m_const (v := 0) hx hb dX6_isUndone_32 rfl ?_
      exact m_ireti X hr hlocks (nar_b (Or.inl rfl)).1 (by decide) (fun _ => (Or.inl rfl)) hW3 hS3 (congrArg Prod.fst (Option.some.inj hf)) (congrArg Prod.snd (Option.some.inj hf)) hQ dX6_isUndone_33
  have hc21 : ∀ (σ : St) (H : Heap) (locs : List Loc) (ls : Array Slot), fX6_isUndone_J21 n σ x1 x2 = some (r, σ2) → Wd D cy ad nm nv σ H → va_S (AW ad nm nv sz) s.heap H locs → lv_has ls 3 [(0, .ref (ad 230)), (1, .int (i32 x1)), (2, .int (i32 x2))] → W p l e ({ frames := 2, cells := 0, slots := 0, locals := 46 } : Room) s m args below meth c H locs 0 0 Q (F0 m 21 ls [.ref (ad 230)]) := by
    intro σ H locs ls hf hW hS hl
    unfold fX6_isUndone_J21 at hf
    refine m_const (v := 1) hx hb dX6_isUndone_21 rfl ?_
    exact hc22 _ _ _ _ 1 (by decide) hf hW hS (lv_sub hl [0, 1, 2] rfl)
  refine lv_aload_n hx hb dX6_isUndone_0 rfl (lv_at hl 0 rfl) ?_
  refine lv_iload_n hx hb dX6_isUndone_1 rfl (lv_at hl 1 rfl) ?_
  refine m_callSi1 (z := true) (As := [.int (i32 x1)]) (rest := [.ref (ad 230)]) X hW hS hl.1 gc_X6_215 hd_X6_isSite ⟨rfl, rfl, Nat.le_of_ble_eq_true rfl, Nat.le_of_ble_eq_true rfl⟩ (fun v q => ok_X6_isSite hx1 q) hf rfl rfl (Nat.le_of_ble_eq_true rfl) dX6_isUndone_2 ⟨Nat.le_of_ble_eq_true rfl, Nat.le_of_ble_eq_true rfl⟩ (fun v1 H locs hv1 zv1 hWv1 hSv1 hf => ?_)
  refine m_if_eq (tgt := 21) hx hb hv1 hf dX6_isUndone_5 (by decide) (fun hf => ?_) (fun hf => ?_)
  · skip
    exact hc21 _ _ _ _  hf hWv1 hSv1 (lv_sub hl [0, 1, 2] rfl)
  · skip
    refine lv_aload_n hx hb dX6_isUndone_8 rfl (lv_at hl 0 rfl) ?_
    refine lv_iload_n hx hb dX6_isUndone_9 rfl (lv_at hl 1 rfl) ?_
    refine lv_iload_n hx hb dX6_isUndone_10 rfl (lv_at hl 2 rfl) ?_
    refine m_callVi1 (z := true) (As := [.int (i32 x1), .int (i32 x2)]) (rest := [.ref (ad 230)]) X hWv1 hSv1 hl.1 gc_X6_253 hd_X6_hasAct ⟨rfl, rfl, Nat.le_of_ble_eq_true rfl, Nat.le_of_ble_eq_true rfl⟩ (rc_X6 X hWv1) (fun v q => ok_X6_hasAct hx1 hx2 q) hf rfl rfl (Nat.le_of_ble_eq_true rfl) dX6_isUndone_11 ⟨Nat.le_of_ble_eq_true rfl, Nat.le_of_ble_eq_true rfl⟩ (fun v2 H locs hv2 zv2 hWv2 hSv2 hf => ?_)
    refine m_if_eq (tgt := 21) hx hb hv2 hf dX6_isUndone_14 (by decide) (fun hf => ?_) (fun hf => ?_)
    · skip
      exact hc21 _ _ _ _  hf hWv2 hSv2 (lv_sub hl [0, 1, 2] rfl)
    · skip
      refine m_const (v := 0) hx hb dX6_isUndone_17 rfl ?_
      refine lv_goto (tgt := 22) hx hb dX6_isUndone_18 (by decide) ?_
      exact hc22 _ _ _ _ 0 (by decide) hf hWv2 hSv2 (lv_sub hl [0, 1, 2] rfl)
