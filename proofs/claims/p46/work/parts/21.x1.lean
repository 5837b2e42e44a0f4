theorem gc_X1_52 : GoodIn GW (wsV RX1 52 RX1 yX1_countOf (wsG yX1_countOf cX1_countOf 2 (some .int))) := cg_V mw490 mw491 mw492 mw2 mw493
theorem gc_X1_56 : GoodIn GW (wsV RX1 56 RX1 yX1_siteOf (wsG yX1_siteOf cX1_siteOf 2 (some .int))) := cg_V mw494 mw359 mw360 mw2 mw361
theorem gc_X1_48 : GoodIn GW (wsV RX1 48 RX1 yX1_comesBefore (wsG yX1_comesBefore cX1_comesBefore 3 (some .boolean))) := cg_V mw486 mw488 ms24 mw2 mw489
theorem gc_X1_44 : GoodIn GW (wsV RX1 44 RX1 yX1_putInOrder (wsG yX1_putInOrder cX1_putInOrder 3 none)) := cg_V mw482 mw484 ms23 mw2 mw485
theorem hd_X1_countOf : yX1_countOf.cls = RX1 ∧ yX1_countOf.cls ≠ "java/lang/invoke/MethodHandle" ∧ yX1_countOf.cls ≠ "java/lang/invoke/VarHandle" ∧ (parseMethodDescriptor yX1_countOf.desc).map (fun d => d.parameters.length) = some 1 := by decide +kernel
theorem hd_X1_siteOf : yX1_siteOf.cls = RX1 ∧ yX1_siteOf.cls ≠ "java/lang/invoke/MethodHandle" ∧ yX1_siteOf.cls ≠ "java/lang/invoke/VarHandle" ∧ (parseMethodDescriptor yX1_siteOf.desc).map (fun d => d.parameters.length) = some 1 := by decide +kernel
theorem hd_X1_comesBefore : yX1_comesBefore.cls = RX1 ∧ yX1_comesBefore.cls ≠ "java/lang/invoke/MethodHandle" ∧ yX1_comesBefore.cls ≠ "java/lang/invoke/VarHandle" ∧ (parseMethodDescriptor yX1_comesBefore.desc).map (fun d => d.parameters.length) = some 2 := by decide +kernel
theorem hd_X1_putInOrder : yX1_putInOrder.cls = RX1 ∧ yX1_putInOrder.cls ≠ "java/lang/invoke/MethodHandle" ∧ yX1_putInOrder.cls ≠ "java/lang/invoke/VarHandle" ∧ (parseMethodDescriptor yX1_putInOrder.desc).map (fun d => d.parameters.length) = some 1 := by decide +kernel
noncomputable def fX1_countOf (σ : St) (x1 : Int) : Option Int := if x1 < 0 then (some 0) else (if σ 8 8 ≤ x1 then (some 0) else (rd σ 10 160 x1 (fun v1 => some v1)))
noncomputable def fX1_siteOf (σ : St) (x1 : Int) : Option Int := if x1 < 0 then (some (-1)) else (if σ 8 8 ≤ x1 then (some (-1)) else (rd σ 9 160 x1 (fun v1 => some v1)))
noncomputable def fX1_comesBefore (σ : St) (x1 : Int) (x2 : Int) : Option Int := b1 (fX1_countOf σ x1) (fun v1 => b1 (fX1_countOf σ x2) (fun v2 => if v1 = v2 then (b1 (fX1_siteOf σ x1) (fun v3 => b1 (fX1_siteOf σ x2) (fun v4 => if v4 ≤ v3 then (some 0) else (some 1)))) else (b1 (fX1_countOf σ x1) (fun v5 => b1 (fX1_countOf σ x2) (fun v6 => if v6 ≤ v5 then (some 0) else (some 1))))))
noncomputable def fX1_putInOrder_J47 (n : Nat) (σ : St) (x1 : Int) (x2 : Int) : Option St := wr σ 16 160 x2 x1 (fun σ9 => some σ9)
noncomputable def fX1_putInOrder_L7s (n : Nat) (x1 : Int) (lp7 : (St → Int → Option St)) : St → Int → Option St := fun σ x2 => if x2 ≤ 0 then (fX1_putInOrder_J47 n σ x1 x2) else (ck (x2 - 1) (fun v2 => rd σ 16 160 v2 (fun v3 => b1 (fX1_comesBefore σ x1 v3) (fun v4 => if v4 = 0 then (fX1_putInOrder_J47 n σ x1 x2) else (ck (x2 - 1) (fun v5 => rd σ 16 160 v5 (fun v6 => wr σ 16 160 x2 v6 (fun σ7 => ck (x2 + (-1)) (fun v8 => lp7 σ7 v8)))))))))
noncomputable def fX1_putInOrder_L7 (n : Nat) (x1 : Int) (k : Nat) : St → Int → Option St := lpR (fun _ _ => none) (fX1_putInOrder_L7s n x1) k
noncomputable def fX1_putInOrder (n : Nat) (σ : St) (x1 : Int) : Option St := ck ((σ 8 8) - 1) (fun v1 => fX1_putInOrder_L7 n x1 n σ v1)
noncomputable def fX1_enter_J94 (n : Nat) (σ : St) (x1 : Int) (x2 : Int) (x3 : Int) (x4 : Int) (x5 : Int) (x6 : Int) (x7 : Int) (x8 : Int) : Option (Int × St) := ck ((σ 8 8) + 1) (fun v10 => pf σ 8 8 v10 (fun σ11 => b1 (fX1_putInOrder n σ11 x8) (fun σ12 => some (x8, σ12))))
noncomputable def fX1_enter (n : Nat) (σ : St) (x1 : Int) (x2 : Int) (x3 : Int) (x4 : Int) (x5 : Int) (x6 : Int) (x7 : Int) : Option (Int × St) := if σ 8 8 < 160 then (wr σ 9 160 (σ 8 8) x1 (fun σ1 => wr σ1 10 160 (σ 8 8) x2 (fun σ2 => wr σ2 11 160 (σ 8 8) x3 (fun σ3 => wr σ3 12 160 (σ 8 8) x4 (fun σ4 => wr σ4 13 160 (σ 8 8) x5 (fun σ5 => wr σ5 14 160 (σ 8 8) x6 (fun σ6 => wrb σ6 15 160 (σ 8 8) x7 (fun σ7 => if x3 ≠ 7 then (fX1_enter_J94 n σ7 x1 x2 x3 x4 x5 x6 x7 (σ 8 8)) else (ck ((σ7 8 9) + 1) (fun v8 => pf σ7 8 9 v8 (fun σ9 => fX1_enter_J94 n σ9 x1 x2 x3 x4 x5 x6 x7 (σ 8 8)))))))))))) else (some ((-1), σ))
noncomputable def fX1_inOrder (σ : St) (x1 : Int) : Option Int := if x1 < 0 then (some (-1)) else (if σ 8 8 ≤ x1 then (some (-1)) else (rd σ 16 160 x1 (fun v1 => some v1)))
noncomputable def fX1_kindOf (σ : St) (x1 : Int) : Option Int := if x1 < 0 then (some (-1)) else (if σ 8 8 ≤ x1 then (some (-1)) else (rd σ 11 160 x1 (fun v1 => some v1)))
noncomputable def fX1_firstOf (σ : St) (x1 : Int) : Option Int := if x1 < 0 then (some (-1)) else (if σ 8 8 ≤ x1 then (some (-1)) else (rd σ 12 160 x1 (fun v1 => some v1)))
noncomputable def fX1_secondOf (σ : St) (x1 : Int) : Option Int := if x1 < 0 then (some (-1)) else (if σ 8 8 ≤ x1 then (some (-1)) else (rd σ 13 160 x1 (fun v1 => some v1)))
noncomputable def fX1_valueOf (σ : St) (x1 : Int) : Option Int := if x1 < 0 then (some 0) else (if σ 8 8 ≤ x1 then (some 0) else (rd σ 14 160 x1 (fun v1 => some v1)))
noncomputable def fX1_flagOf (σ : St) (x1 : Int) : Option Int := if x1 < 0 then (some 0) else (if σ 8 8 ≤ x1 then (some 0) else (rd σ 15 160 x1 (fun v1 => if v1 = 0 then (some 0) else (some 1))))
noncomputable def fX1_makesElement (σ : St) (x1 : Int) : Option Int := if x1 < 0 then (some 0) else (if σ 8 8 ≤ x1 then (some 0) else (rd σ 11 160 x1 (fun v1 => if v1 = 0 then (some 1) else (rd σ 11 160 x1 (fun v2 => if v2 ≠ 1 then (some 0) else (some 1))))))
noncomputable def fX1_isUndoable (σ : St) (x1 : Int) : Option Int := if x1 < 0 then (some 0) else (if σ 8 8 ≤ x1 then (some 0) else (rd σ 11 160 x1 (fun v1 => if 7 < v1 then (some 0) else (some 1))))
set_option maxRecDepth 100000 in
set_option maxHeartbeats 4000000 in
theorem ok_X1_countOf {l : Launch} {D : va_G} {cy : Nat → ClassId} {ad : Nat → Nat} {nm nv sz : Nat} {σ : St} {x1 : Int} {r : Int} (hx1 : inR x1) (hf : fX1_countOf σ x1 = some r) : CI l yX1_countOf cX1_countOf 2 (some .int) ({ frames := 0, cells := 0, slots := 0, locals := 0 } : Room) [.ref (ad 8), .int (i32 x1)] D cy ad nm nv sz σ false r σ := by
  refine m_entry RX1 rfl (by decide +kernel) (Nat.le_of_ble_eq_true rfl) ?_
  intro p e s m args below meth c Q hQ hr hlocks X hW hS ls hl
  have hx := X.1
  have hb := X.2.1
  have hl : lv_has ls 2 [(0, .ref (ad 8)), (1, .int (i32 x1))] := hl
  unfold fX1_countOf at hf
  refine lv_iload_n hx hb dX1_countOf_0 rfl (lv_at hl 1 rfl) ?_
  refine m_if_lt (tgt := 21) hx hb hx1 hf dX1_countOf_1 (by decide) (fun hf => ?_) (fun hf => ?_)
  · skip
    refine m_const (v := 0) hx hb dX1_countOf_21 rfl ?_
    exact m_ireti X hr hlocks rfl (by decide) (fun h => Bool.noConfusion h) hW hS (Option.some.inj hf) rfl hQ dX1_countOf_22
  · skip
    refine lv_iload_n hx hb dX1_countOf_4 rfl (lv_at hl 1 rfl) ?_
    refine lv_aload_n hx hb dX1_countOf_5 rfl (lv_at hl 0 rfl) ?_
    refine g_X1_made X hW (X.2.2.2.2.1 _ mw37) dX1_countOf_6 ?_
    refine m_icmp_ge (tgt := 21) hx hb hx1 (hW.2.1 _ _) hf dX1_countOf_9 (by decide) (fun hf => ?_) (fun hf => ?_)
    · skip
      refine m_const (v := 0) hx hb dX1_countOf_21 rfl ?_
      exact m_ireti X hr hlocks rfl (by decide) (fun h => Bool.noConfusion h) hW hS (Option.some.inj hf) rfl hQ dX1_countOf_22
    · skip
      refine lv_aload_n hx hb dX1_countOf_12 rfl (lv_at hl 0 rfl) ?_
      refine g_X1_counts X hW (X.2.2.2.2.1 _ mw30) dX1_countOf_13 ?_
      refine lv_iload_n hx hb dX1_countOf_16 rfl (lv_at hl 1 rfl) ?_
      refine m_iald X hW a_X1_counts hx1 hf dX1_countOf_17 (fun v1 hv1 hf => ?_)
      refine lv_goto (tgt := 22) hx hb dX1_countOf_18 (by decide) ?_
      exact m_ireti X hr hlocks rfl hv1 (fun h => Bool.noConfusion h) hW hS (Option.some.inj hf) rfl hQ dX1_countOf_22
set_option maxRecDepth 100000 in
set_option maxHeartbeats 4000000 in
theorem ok_X1_siteOf {l : Launch} {D : va_G} {cy : Nat → ClassId} {ad : Nat → Nat} {nm nv sz : Nat} {σ : St} {x1 : Int} {r : Int} (hx1 : inR x1) (hf : fX1_siteOf σ x1 = some r) : CI l yX1_siteOf cX1_siteOf 2 (some .int) ({ frames := 0, cells := 0, slots := 0, locals := 0 } : Room) [.ref (ad 8), .int (i32 x1)] D cy ad nm nv sz σ false r σ := by
  refine m_entry RX1 rfl (by decide +kernel) (Nat.le_of_ble_eq_true rfl) ?_
  intro p e s m args below meth c Q hQ hr hlocks X hW hS ls hl
  have hx := X.1
  have hb := X.2.1
  have hl : lv_has ls 2 [(0, .ref (ad 8)), (1, .int (i32 x1))] := hl
  unfold fX1_siteOf at hf
  refine lv_iload_n hx hb dX1_siteOf_0 rfl (lv_at hl 1 rfl) ?_
  refine m_if_lt (tgt := 21) hx hb hx1 hf dX1_siteOf_1 (by decide) (fun hf => ?_) (fun hf => ?_)
  · skip
    refine m_const (v := (-1)) hx hb dX1_siteOf_21 rfl ?_
    exact m_ireti X hr hlocks rfl (by decide) (fun h => Bool.noConfusion h) hW hS (Option.some.inj hf) rfl hQ dX1_siteOf_22
  · skip
    refine lv_iload_n hx hb dX1_siteOf_4 rfl (lv_at hl 1 rfl) ?_
    refine lv_aload_n hx hb dX1_siteOf_5 rfl (lv_at hl 0 rfl) ?_
    refine g_X1_made X hW (X.2.2.2.2.1 _ mw37) dX1_siteOf_6 ?_
    refine m_icmp_ge (tgt := 21) hx hb hx1 (hW.2.1 _ _) hf dX1_siteOf_9 (by decide) (fun hf => ?_) (fun hf => ?_)
    · skip
      refine m_const (v := (-1)) hx hb dX1_siteOf_21 rfl ?_
      exact m_ireti X hr hlocks rfl (by decide) (fun h => Bool.noConfusion h) hW hS (Option.some.inj hf) rfl hQ dX1_siteOf_22
    · skip
      refine lv_aload_n hx hb dX1_siteOf_12 rfl (lv_at hl 0 rfl) ?_
      refine g_X1_writers X hW (X.2.2.2.2.1 _ mw29) dX1_siteOf_13 ?_
      refine lv_iload_n hx hb dX1_siteOf_16 rfl (lv_at hl 1 rfl) ?_
      refine m_iald X hW a_X1_writers hx1 hf dX1_siteOf_17 (fun v1 hv1 hf => ?_)
      refine lv_goto (tgt := 22) hx hb dX1_siteOf_18 (by decide) ?_
      exact m_ireti X hr hlocks rfl hv1 (fun h => Bool.noConfusion h) hW hS (Option.some.inj hf) rfl hQ dX1_siteOf_22
set_option maxRecDepth 100000 in
set_option maxHeartbeats 4000000 in
theorem ok_X1_comesBefore {l : Launch} {D : va_G} {cy : Nat → ClassId} {ad : Nat → Nat} {nm nv sz : Nat} {σ : St} {x1 : Int} {x2 : Int} {r : Int} (hx1 : inR x1) (hx2 : inR x2) (hf : fX1_comesBefore σ x1 x2 = some r) : CI l yX1_comesBefore cX1_comesBefore 3 (some .boolean) ({ frames := 1, cells := 0, slots := 0, locals := 21 } : Room) [.ref (ad 8), .int (i32 x1), .int (i32 x2)] D cy ad nm nv sz σ true r σ := by
  refine m_entry RX1 rfl (by decide +kernel) (Nat.le_of_ble_eq_true rfl) ?_
  intro p e s m args below meth c Q hQ hr hlocks X hW hS ls hl
  have hx := X.1
  have hb := X.2.1
  have hl : lv_has ls 3 [(0, .ref (ad 8)), (1, .int (i32 x1)), (2, .int (i32 x2))] := hl
  unfold fX1_comesBefore at hf
  refine lv_aload_n hx hb dX1_comesBefore_0 rfl (lv_at hl 0 rfl) ?_
  refine lv_iload_n hx hb dX1_comesBefore_1 rfl (lv_at hl 1 rfl) ?_
  refine m_callVi1 (z := false) (As := [.int (i32 x1)]) (rest := []) X hW hS hl.1 gc_X1_52 hd_X1_countOf ⟨rfl, rfl, Nat.le_of_ble_eq_true rfl, Nat.le_of_ble_eq_true rfl⟩ (rc_X1 X hW) (fun v q => ok_X1_countOf hx1 q) hf rfl rfl (Nat.le_of_ble_eq_true rfl) dX1_comesBefore_2 ⟨Nat.le_of_ble_eq_true rfl, Nat.le_of_ble_eq_true rfl⟩ (fun v1 H locs hv1 zv1 hWv1 hSv1 hf => ?_)
  refine lv_aload_n hx hb dX1_comesBefore_5 rfl (lv_at hl 0 rfl) ?_
  refine lv_iload_n hx hb dX1_comesBefore_6 rfl (lv_at hl 2 rfl) ?_
  refine m_callVi1 (z := false) (As := [.int (i32 x2)]) (rest := [.int (i32 v1)]) X hWv1 hSv1 hl.1 gc_X1_52 hd_X1_countOf ⟨rfl, rfl, Nat.le_of_ble_eq_true rfl, Nat.le_of_ble_eq_true rfl⟩ (rc_X1 X hWv1) (fun v q => ok_X1_countOf hx2 q) hf rfl rfl (Nat.le_of_ble_eq_true rfl) dX1_comesBefore_7 ⟨Nat.le_of_ble_eq_true rfl, Nat.le_of_ble_eq_true rfl⟩ (fun v2 H locs hv2 zv2 hWv2 hSv2 hf => ?_)
  refine m_icmp_eq (tgt := 32) hx hb hv1 hv2 hf dX1_comesBefore_10 (by decide) (fun hf => ?_) (fun hf => ?_)
  · skip
    refine lv_aload_n hx hb dX1_comesBefore_32 rfl (lv_at hl 0 rfl) ?_
    refine lv_iload_n hx hb dX1_comesBefore_33 rfl (lv_at hl 1 rfl) ?_
    refine m_callVi1 (z := false) (As := [.int (i32 x1)]) (rest := []) X hWv2 hSv2 hl.1 gc_X1_56 hd_X1_siteOf ⟨rfl, rfl, Nat.le_of_ble_eq_true rfl, Nat.le_of_ble_eq_true rfl⟩ (rc_X1 X hWv2) (fun v q => ok_X1_siteOf hx1 q) hf rfl rfl (Nat.le_of_ble_eq_true rfl) dX1_comesBefore_34 ⟨Nat.le_of_ble_eq_true rfl, Nat.le_of_ble_eq_true rfl⟩ (fun v3 H locs hv3 zv3 hWv3 hSv3 hf => ?_)
    refine lv_aload_n hx hb dX1_comesBefore_37 rfl (lv_at hl 0 rfl) ?_
    refine lv_iload_n hx hb dX1_comesBefore_38 rfl (lv_at hl 2 rfl) ?_
    refine m_callVi1 (z := false) (As := [.int (i32 x2)]) (rest := [.int (i32 v3)]) X hWv3 hSv3 hl.1 gc_X1_56 hd_X1_siteOf ⟨rfl, rfl, Nat.le_of_ble_eq_true rfl, Nat.le_of_ble_eq_true rfl⟩ (rc_X1 X hWv3) (fun v q => ok_X1_siteOf hx2 q) hf rfl rfl (Nat.le_of_ble_eq_true rfl) dX1_comesBefore_39 ⟨Nat.le_of_ble_eq_true rfl, Nat.le_of_ble_eq_true rfl⟩ (fun v4 H locs hv4 zv4 hWv4 hSv4 hf => ?_)
    refine m_icmp_ge (tgt := 49) hx hb hv3 hv4 hf dX1_comesBefore_42 (by decide) (fun hf => ?_) (fun hf => ?_)
    · skip
      refine m_const (v := 0) hx hb dX1_comesBefore_49 rfl ?_
      exact m_ireti X hr hlocks (nar_b (Or.inl rfl)).1 (by decide) (fun _ => (Or.inl rfl)) hWv4 hSv4 (Option.some.inj hf) rfl hQ dX1_comesBefore_50
    · skip
      refine m_const (v := 1) hx hb dX1_comesBefore_45 rfl ?_
      refine lv_goto (tgt := 50) hx hb dX1_comesBefore_46 (by decide) ?_
      exact m_ireti X hr hlocks (nar_b (Or.inr rfl)).1 (by decide) (fun _ => (Or.inr rfl)) hWv4 hSv4 (Option.some.inj hf) rfl hQ dX1_comesBefore_50
  · skip
    refine lv_aload_n hx hb dX1_comesBefore_13 rfl (lv_at hl 0 rfl) ?_
    refine lv_iload_n hx hb dX1_comesBefore_14 rfl (lv_at hl 1 rfl) ?_
    refine m_callVi1 (z := false) (As := [.int (i32 x1)]) (rest := []) X hWv2 hSv2 hl.1 gc_X1_52 hd_X1_countOf ⟨rfl, rfl, Nat.le_of_ble_eq_true rfl, Nat.le_of_ble_eq_true rfl⟩ (rc_X1 X hWv2) (fun v q => ok_X1_countOf hx1 q) hf rfl rfl (Nat.le_of_ble_eq_true rfl) dX1_comesBefore_15 ⟨Nat.le_of_ble_eq_true rfl, Nat.le_of_ble_eq_true rfl⟩ (fun v5 H locs hv5 zv5 hWv5 hSv5 hf => ?_)
    refine lv_aload_n hx hb dX1_comesBefore_18 rfl (lv_at hl 0 rfl) ?_
    refine lv_iload_n hx hb dX1_comesBefore_19 rfl (lv_at hl 2 rfl) ?_
    refine m_callVi1 (z := false) (As := [.int (i32 x2)]) (rest := [.int (i32 v5)]) X hWv5 hSv5 hl.1 gc_X1_52 hd_X1_countOf ⟨rfl, rfl, Nat.le_of_ble_eq_true rfl, Nat.le_of_ble_eq_true rfl⟩ (rc_X1 X hWv5) (fun v q => ok_X1_countOf hx2 q) hf rfl rfl (Nat.le_of_ble_eq_true rfl) dX1_comesBefore_20 ⟨Nat.le_of_ble_eq_true rfl, Nat.le_of_ble_eq_true rfl⟩ (fun v6 H locs hv6 zv6 hWv6 hSv6 hf => ?_)
    refine m_icmp_ge (tgt := 30) hx hb hv5 hv6 hf dX1_comesBefore_23 (by decide) (fun hf => ?_) (fun hf => ?_)
    · skip
      refine m_const (v := 0) hx hb dX1_comesBefore_30 rfl ?_
      exact m_ireti X hr hlocks (nar_b (Or.inl rfl)).1 (by decide) (fun _ => (Or.inl rfl)) hWv6 hSv6 (Option.some.inj hf) rfl hQ dX1_comesBefore_31
    · skip
      refine m_const (v := 1) hx hb dX1_comesBefore_26 rfl ?_
      refine lv_goto (tgt := 31) hx hb dX1_comesBefore_27 (by decide) ?_
      exact m_ireti X hr hlocks (nar_b (Or.inr rfl)).1 (by decide) (fun _ => (Or.inr rfl)) hWv6 hSv6 (Option.some.inj hf) rfl hQ dX1_comesBefore_31
set_option maxRecDepth 100000 in
set_option maxHeartbeats 4000000 in
theorem ok_X1_putInOrder {l : Launch} {D : va_G} {cy : Nat → ClassId} {ad : Nat → Nat} {nm nv sz : Nat} {σ : St} {n : Nat} {x1 : Int} {σ2 : St} (hx1 : inR x1) (hf : fX1_putInOrder n σ x1 = some σ2) : CV l yX1_putInOrder cX1_putInOrder 3 none ({ frames := 2, cells := 0, slots := 0, locals := 43 } : Room) [.ref (ad 8), .int (i32 x1)] D cy ad nm nv sz σ σ2 := by
  refine m_entry RX1 rfl (by decide +kernel) (Nat.le_of_ble_eq_true rfl) ?_
  intro p e s m args below meth c Q hQ hr hlocks X hW hS ls hl
  have hx := X.1
  have hb := X.2.1
  have hl : lv_has ls 3 [(0, .ref (ad 8)), (1, .int (i32 x1))] := hl
  unfold fX1_putInOrder at hf
  have hc47 : ∀ (σ : St) (H : Heap) (locs : List Loc) (ls : Array Slot) (x2 : Int), inR x2 → fX1_putInOrder_J47 n σ x1 x2 = some σ2 → Wd D cy ad nm nv σ H → va_S (AW ad nm nv sz) s.heap H locs → lv_has ls 3 [(0, .ref (ad 8)), (1, .int (i32 x1)), (2, .int (i32 x2))] → W p l e ({ frames := 2, cells := 0, slots := 0, locals := 43 } : Room) s m args below meth c H locs 0 0 Q (F0 m 47 ls []) := by
    intro σ H locs ls x2 hx2 hf hW hS hl
    unfold fX1_putInOrder_J47 at hf
    refine lv_aload_n hx hb dX1_putInOrder_47 rfl (lv_at hl 0 rfl) ?_
    refine g_X1_order X hW (X.2.2.2.2.1 _ mw36) dX1_putInOrder_48 ?_
    refine lv_iload_n hx hb dX1_putInOrder_51 rfl (lv_at hl 2 rfl) ?_
    refine lv_iload_n hx hb dX1_putInOrder_52 rfl (lv_at hl 1 rfl) ?_
    refine m_iast X hW hS a_X1_order hx2 hx1 hf dX1_putInOrder_53 (fun σ9 H locs hW9 hS9 hf => ?_)
    exact m_vret X hr hlocks hW9 hS9 (Option.some.inj hf) hQ dX1_putInOrder_54
  have hc7 : ∀ (k7 : Nat) (σ : St) (H : Heap) (locs : List Loc) (ls : Array Slot) (x2 : Int), inR x2 → fX1_putInOrder_L7 n x1 k7 σ x2 = some σ2 → Wd D cy ad nm nv σ H → va_S (AW ad nm nv sz) s.heap H locs → lv_has ls 3 [(0, .ref (ad 8)), (1, .int (i32 x1)), (2, .int (i32 x2))] → W p l e ({ frames := 2, cells := 0, slots := 0, locals := 43 } : Room) s m args below meth c H locs 0 0 Q (F0 m 7 ls []) := by
    intro k7
    induction k7 with
    | zero =>
      intro σ H locs ls x2 hx2 hf
      have hf : (none : Option St) = some σ2 := hf
      cases hf
    | succ k7 ih7 =>
      intro σ H locs ls x2 hx2 hf hW hS hl
      have hf : fX1_putInOrder_L7s n x1 (fX1_putInOrder_L7 n x1 k7) σ x2 = some σ2 := hf
      unfold fX1_putInOrder_L7s at hf
      refine lv_iload_n hx hb dX1_putInOrder_7 rfl (lv_at hl 2 rfl) ?_
      refine m_if_le (tgt := 47) hx hb hx2 hf dX1_putInOrder_8 (by decide) (fun hf => ?_) (fun hf => ?_)
      · skip
        exact hc47 _ _ _ _ x2 hx2 hf hW hS (lv_sub hl [0, 1, 2] rfl)
      · skip
        refine lv_aload_n hx hb dX1_putInOrder_11 rfl (lv_at hl 0 rfl) ?_
        refine lv_iload_n hx hb dX1_putInOrder_12 rfl (lv_at hl 1 rfl) ?_
        refine lv_aload_n hx hb dX1_putInOrder_13 rfl (lv_at hl 0 rfl) ?_
        refine g_X1_order X hW (X.2.2.2.2.1 _ mw36) dX1_putInOrder_14 ?_
        refine lv_iload_n hx hb dX1_putInOrder_17 rfl (lv_at hl 2 rfl) ?_
        refine m_const (v := 1) hx hb dX1_putInOrder_18 rfl ?_
        refine m_isub hx hb hf dX1_putInOrder_19 (fun v2 hv2 hf => ?_)
        refine m_iald X hW a_X1_order hv2 hf dX1_putInOrder_20 (fun v3 hv3 hf => ?_)
        refine m_callVi1 (z := true) (As := [.int (i32 x1), .int (i32 v3)]) (rest := []) X hW hS hl.1 gc_X1_48 hd_X1_comesBefore ⟨rfl, rfl, Nat.le_of_ble_eq_true rfl, Nat.le_of_ble_eq_true rfl⟩ (rc_X1 X hW) (fun v q => ok_X1_comesBefore hx1 hv3 q) hf rfl rfl (Nat.le_of_ble_eq_true rfl) dX1_putInOrder_21 ⟨Nat.le_of_ble_eq_true rfl, Nat.le_of_ble_eq_true rfl⟩ (fun v4 H locs hv4 zv4 hWv4 hSv4 hf => ?_)
        refine m_if_eq (tgt := 47) hx hb hv4 hf dX1_putInOrder_24 (by decide) (fun hf => ?_) (fun hf => ?_)
        · skip
          exact hc47 _ _ _ _ x2 hx2 hf hWv4 hSv4 (lv_sub hl [0, 1, 2] rfl)
        · skip
          refine lv_aload_n hx hb dX1_putInOrder_27 rfl (lv_at hl 0 rfl) ?_
          refine g_X1_order X hWv4 (X.2.2.2.2.1 _ mw36) dX1_putInOrder_28 ?_
          refine lv_iload_n hx hb dX1_putInOrder_31 rfl (lv_at hl 2 rfl) ?_
          refine lv_aload_n hx hb dX1_putInOrder_32 rfl (lv_at hl 0 rfl) ?_
          refine g_X1_order X hWv4 (X.2.2.2.2.1 _ mw36) dX1_putInOrder_33 ?_
          refine lv_iload_n hx hb dX1_putInOrder_36 rfl (lv_at hl 2 rfl) ?_
          refine m_const (v := 1) hx hb dX1_putInOrder_37 rfl ?_
          refine m_isub hx hb hf dX1_putInOrder_38 (fun v5 hv5 hf => ?_)
          refine m_iald X hWv4 a_X1_order hv5 hf dX1_putInOrder_39 (fun v6 hv6 hf => ?_)
          refine m_iast X hWv4 hSv4 a_X1_order hx2 hv6 hf dX1_putInOrder_40 (fun σ7 H locs hW7 hS7 hf => ?_)
          refine m_iinc (k0 := 2) (fun v8 => [(2, .int (i32 v8)), (0, .ref (ad 8)), (1, .int (i32 x1))]) hx hb hf dX1_putInOrder_41 hl rfl (by decide) (fun _ => rfl) (fun v8 ls hv8 hf hl => ?_)
          have hl : lv_has ls 3 [(2, .int (i32 v8)), (0, .ref (ad 8)), (1, .int (i32 x1))] := hl
          refine lv_goto (tgt := 7) hx hb dX1_putInOrder_44 (by decide) ?_
          exact ih7 _ _ _ _ v8 hv8 hf hW7 hS7 (lv_sub hl [1, 2, 0] rfl)
  refine lv_aload_n hx hb dX1_putInOrder_0 rfl (lv_at hl 0 rfl) ?_
  refine g_X1_made X hW (X.2.2.2.2.1 _ mw37) dX1_putInOrder_1 ?_
  refine m_const (v := 1) hx hb dX1_putInOrder_4 rfl ?_
  refine m_isub hx hb hf dX1_putInOrder_5 (fun v1 hv1 hf => ?_)
  refine lv_istore_n (lv' := [(2, .int (i32 v1)), (0, .ref (ad 8)), (1, .int (i32 x1))]) hx hb dX1_putInOrder_6 rfl hl (by decide) rfl (fun ls hl => ?_)
  exact hc7 n _ _ _ _ v1 hv1 hf hW hS (lv_sub hl [1, 2, 0] rfl)
set_option maxRecDepth 100000 in
set_option maxHeartbeats 4000000 in
theorem ok_X1_enter {l : Launch} {D : va_G} {cy : Nat → ClassId} {ad : Nat → Nat} {nm nv sz : Nat} {σ : St} {n : Nat} {x1 : Int} {x2 : Int} {x3 : Int} {x4 : Int} {x5 : Int} {x6 : Int} {x7 : Int} {r : Int} {σ2 : St} (hx1 : inR x1) (hx2 : inR x2) (hx3 : inR x3) (hx4 : inR x4) (hx5 : inR x5) (hx6 : inR x6) (hx7 : inR x7) (hf : fX1_enter n σ x1 x2 x3 x4 x5 x6 x7 = some (r, σ2)) : CI l yX1_enter cX1_enter 9 (some .int) ({ frames := 3, cells := 0, slots := 0, locals := 65 } : Room) [.ref (ad 8), .int (i32 x1), .int (i32 x2), .int (i32 x3), .int (i32 x4), .int (i32 x5), .int (i32 x6), .int (i32 x7)] D cy ad nm nv sz σ false r σ2 := by
  refine m_entry RX1 rfl (by decide +kernel) (Nat.le_of_ble_eq_true rfl) ?_
  intro p e s m args below meth c Q hQ hr hlocks X hW hS ls hl
  have hx := X.1
  have hb := X.2.1
  have hl : lv_has ls 9 [(0, .ref (ad 8)), (1, .int (i32 x1)), (2, .int (i32 x2)), (3, .int (i32 x3)), (4, .int (i32 x4)), (5, .int (i32 x5)), (6, .int (i32 x6)), (7, .int (i32 x7))] := hl
  unfold fX1_enter at hf
  have hc94 : ∀ (σ : St) (H : Heap) (locs : List Loc) (ls : Array Slot) (x8 : Int), inR x8 → fX1_enter_J94 n σ x1 x2 x3 x4 x5 x6 x7 x8 = some (r, σ2) → Wd D cy ad nm nv σ H → va_S (AW ad nm nv sz) s.heap H locs → lv_has ls 9 [(0, .ref (ad 8)), (8, .int (i32 x8))] → W p l e ({ frames := 3, cells := 0, slots := 0, locals := 65 } : Room) s m args below meth c H locs 0 0 Q (F0 m 94 ls []) := by
    intro σ H locs ls x8 hx8 hf hW hS hl
    unfold fX1_enter_J94 at hf
    refine lv_aload_n hx hb dX1_enter_94 rfl (lv_at hl 0 rfl) ?_
    refine lv_dup hx hb dX1_enter_95 rfl ?_
    refine g_X1_made X hW (X.2.2.2.2.1 _ mw37) dX1_enter_96 ?_
    refine m_const (v := 1) hx hb dX1_enter_99 rfl ?_
    refine m_iadd hx hb hf dX1_enter_100 (fun v10 hv10 hf => ?_)
    refine p_X1_made X hW hS hv10 hf (X.2.2.2.2.1 _ mw37) dX1_enter_101 (fun σ11 H locs hW11 hS11 hf => ?_)
    refine lv_aload_n hx hb dX1_enter_104 rfl (lv_at hl 0 rfl) ?_
    refine lv_iload hx hb dX1_enter_105 (lv_at hl 1 rfl) ?_
    refine m_callVv (As := [.int (i32 x8)]) (rest := []) X hW11 hS11 hl.1 gc_X1_44 hd_X1_putInOrder ⟨rfl, rfl, Nat.le_of_ble_eq_true rfl, Nat.le_of_ble_eq_true rfl⟩ (rc_X1 X hW11) (fun v q => ok_X1_putInOrder hx8 q) hf rfl rfl (Nat.le_of_ble_eq_true rfl) dX1_enter_107 ⟨Nat.le_of_ble_eq_true rfl, Nat.le_of_ble_eq_true rfl⟩ (fun σ12 H locs hW12 hS12 hf => ?_)
    refine lv_iload hx hb dX1_enter_110 (lv_at hl 1 rfl) ?_
    exact m_ireti X hr hlocks rfl hx8 (fun h => Bool.noConfusion h) hW12 hS12 (congrArg Prod.fst (Option.some.inj hf)) (congrArg Prod.snd (Option.some.inj hf)) hQ dX1_enter_112
  refine lv_aload_n hx hb dX1_enter_0 rfl (lv_at hl 0 rfl) ?_
  refine g_X1_made X hW (X.2.2.2.2.1 _ mw37) dX1_enter_1 ?_
  refine m_sipush (v := 160) hx hb dX1_enter_4 (by decide) ?_
  refine m_icmp_lt (tgt := 12) hx hb (hW.2.1 _ _) (by decide) hf dX1_enter_7 (by decide) (fun hf => ?_) (fun hf => ?_)
  · skip
    refine lv_aload_n hx hb dX1_enter_12 rfl (lv_at hl 0 rfl) ?_
    refine g_X1_made X hW (X.2.2.2.2.1 _ mw37) dX1_enter_13 ?_
    refine lv_istore (lv' := [(8, .int (i32 (σ 8 8))), (0, .ref (ad 8)), (1, .int (i32 x1)), (2, .int (i32 x2)), (3, .int (i32 x3)), (4, .int (i32 x4)), (5, .int (i32 x5)), (6, .int (i32 x6)), (7, .int (i32 x7))]) hx hb dX1_enter_16 hl (by decide) rfl (fun ls hl => ?_)
    refine lv_aload_n hx hb dX1_enter_18 rfl (lv_at hl 1 rfl) ?_
    refine g_X1_writers X hW (X.2.2.2.2.1 _ mw29) dX1_enter_19 ?_
    refine lv_iload hx hb dX1_enter_22 (lv_at hl 0 rfl) ?_
    refine lv_iload_n hx hb dX1_enter_24 rfl (lv_at hl 2 rfl) ?_
    refine m_iast X hW hS a_X1_writers (hW.2.1 _ _) hx1 hf dX1_enter_25 (fun σ1 H locs hW1 hS1 hf => ?_)
    refine lv_aload_n hx hb dX1_enter_26 rfl (lv_at hl 1 rfl) ?_
    refine g_X1_counts X hW1 (X.2.2.2.2.1 _ mw30) dX1_enter_27 ?_
    refine lv_iload hx hb dX1_enter_30 (lv_at hl 0 rfl) ?_
    refine lv_iload_n hx hb dX1_enter_32 rfl (lv_at hl 3 rfl) ?_
    refine m_iast X hW1 hS1 a_X1_counts (hW.2.1 _ _) hx2 hf dX1_enter_33 (fun σ2 H locs hW2 hS2 hf => ?_)
    refine lv_aload_n hx hb dX1_enter_34 rfl (lv_at hl 1 rfl) ?_
    refine g_X1_kinds X hW2 (X.2.2.2.2.1 _ mw31) dX1_enter_35 ?_
    refine lv_iload hx hb dX1_enter_38 (lv_at hl 0 rfl) ?_
    refine lv_iload_n hx hb dX1_enter_40 rfl (lv_at hl 4 rfl) ?_
    refine m_iast X hW2 hS2 a_X1_kinds (hW.2.1 _ _) hx3 hf dX1_enter_41 (fun σ3 H locs hW3 hS3 hf => ?_)
    refine lv_aload_n hx hb dX1_enter_42 rfl (lv_at hl 1 rfl) ?_
    refine g_X1_firsts X hW3 (X.2.2.2.2.1 _ mw32) dX1_enter_43 ?_
    refine lv_iload hx hb dX1_enter_46 (lv_at hl 0 rfl) ?_
    refine lv_iload hx hb dX1_enter_48 (lv_at hl 5 rfl) ?_
    refine m_iast X hW3 hS3 a_X1_firsts (hW.2.1 _ _) hx4 hf dX1_enter_50 (fun σ4 H locs hW4 hS4 hf => ?_)
    refine lv_aload_n hx hb dX1_enter_51 rfl (lv_at hl 1 rfl) ?_
    refine g_X1_seconds X hW4 (X.2.2.2.2.1 _ mw33) dX1_enter_52 ?_
    refine lv_iload hx hb dX1_enter_55 (lv_at hl 0 rfl) ?_
    refine lv_iload hx hb dX1_enter_57 (lv_at hl 6 rfl) ?_
    refine m_iast X hW4 hS4 a_X1_seconds (hW.2.1 _ _) hx5 hf dX1_enter_59 (fun σ5 H locs hW5 hS5 hf => ?_)
    refine lv_aload_n hx hb dX1_enter_60 rfl (lv_at hl 1 rfl) ?_
    refine g_X1_values X hW5 (X.2.2.2.2.1 _ mw34) dX1_enter_61 ?_
    refine lv_iload hx hb dX1_enter_64 (lv_at hl 0 rfl) ?_
    refine lv_iload hx hb dX1_enter_66 (lv_at hl 7 rfl) ?_
    refine m_iast X hW5 hS5 a_X1_values (hW.2.1 _ _) hx6 hf dX1_enter_68 (fun σ6 H locs hW6 hS6 hf => ?_)
    refine lv_aload_n hx hb dX1_enter_69 rfl (lv_at hl 1 rfl) ?_
    refine g_X1_flags X hW6 (X.2.2.2.2.1 _ mw35) dX1_enter_70 ?_
    refine lv_iload hx hb dX1_enter_73 (lv_at hl 0 rfl) ?_
    refine lv_iload hx hb dX1_enter_75 (lv_at hl 8 rfl) ?_
    refine m_zast X hW6 hS6 a_X1_flags (hW.2.1 _ _) hx7 hf dX1_enter_77 (fun σ7 H locs hW7 hS7 hf => ?_)
    refine lv_iload_n hx hb dX1_enter_78 rfl (lv_at hl 4 rfl) ?_
    refine m_bipush (v := 7) hx hb dX1_enter_79 (by decide) ?_
    refine m_icmp_ne (tgt := 94) hx hb hx3 (by decide) hf dX1_enter_81 (by decide) (fun hf => ?_) (fun hf => ?_)
    · skip
      exact hc94 _ _ _ _ (σ 8 8) (hW.2.1 _ _) hf hW7 hS7 (lv_sub hl [1, 0] rfl)
    · skip
      refine lv_aload_n hx hb dX1_enter_84 rfl (lv_at hl 1 rfl) ?_
      refine lv_dup hx hb dX1_enter_85 rfl ?_
      refine g_X1_comments X hW7 (X.2.2.2.2.1 _ mw40) dX1_enter_86 ?_
      refine m_const (v := 1) hx hb dX1_enter_89 rfl ?_
      refine m_iadd hx hb hf dX1_enter_90 (fun v8 hv8 hf => ?_)
      refine p_X1_comments X hW7 hS7 hv8 hf (X.2.2.2.2.1 _ mw40) dX1_enter_91 (fun σ9 H locs hW9 hS9 hf => ?_)
      exact hc94 _ _ _ _ (σ 8 8) (hW.2.1 _ _) hf hW9 hS9 (lv_sub hl [1, 0] rfl)
  · skip
    refine m_const (v := (-1)) hx hb dX1_enter_10 rfl ?_
    exact m_ireti X hr hlocks rfl (by decide) (fun h => Bool.noConfusion h) hW hS (congrArg Prod.fst (Option.some.inj hf)) (congrArg Prod.snd (Option.some.inj hf)) hQ dX1_enter_11
set_option maxRecDepth 100000 in
set_option maxHeartbeats 4000000 in
theorem ok_X1_inOrder {l : Launch} {D : va_G} {cy : Nat → ClassId} {ad : Nat → Nat} {nm nv sz : Nat} {σ : St} {x1 : Int} {r : Int} (hx1 : inR x1) (hf : fX1_inOrder σ x1 = some r) : CI l yX1_inOrder cX1_inOrder 2 (some .int) ({ frames := 0, cells := 0, slots := 0, locals := 0 } : Room) [.ref (ad 8), .int (i32 x1)] D cy ad nm nv sz σ false r σ := by
  refine m_entry RX1 rfl (by decide +kernel) (Nat.le_of_ble_eq_true rfl) ?_
  intro p e s m args below meth c Q hQ hr hlocks X hW hS ls hl
  have hx := X.1
  have hb := X.2.1
  have hl : lv_has ls 2 [(0, .ref (ad 8)), (1, .int (i32 x1))] := hl
  unfold fX1_inOrder at hf
  refine lv_iload_n hx hb dX1_inOrder_0 rfl (lv_at hl 1 rfl) ?_
  refine m_if_lt (tgt := 21) hx hb hx1 hf dX1_inOrder_1 (by decide) (fun hf => ?_) (fun hf => ?_)
  · skip
    refine m_const (v := (-1)) hx hb dX1_inOrder_21 rfl ?_
    exact m_ireti X hr hlocks rfl (by decide) (fun h => Bool.noConfusion h) hW hS (Option.some.inj hf) rfl hQ dX1_inOrder_22
  · skip
    refine lv_iload_n hx hb dX1_inOrder_4 rfl (lv_at hl 1 rfl) ?_
    refine lv_aload_n hx hb dX1_inOrder_5 rfl (lv_at hl 0 rfl) ?_
    refine g_X1_made X hW (X.2.2.2.2.1 _ mw37) dX1_inOrder_6 ?_
    refine m_icmp_ge (tgt := 21) hx hb hx1 (hW.2.1 _ _) hf dX1_inOrder_9 (by decide) (fun hf => ?_) (fun hf => ?_)
    · skip
      refine m_const (v := (-1)) hx hb dX1_inOrder_21 rfl ?_
      exact m_ireti X hr hlocks rfl (by decide) (fun h => Bool.noConfusion h) hW hS (Option.some.inj hf) rfl hQ dX1_inOrder_22
    · skip
      refine lv_aload_n hx hb dX1_inOrder_12 rfl (lv_at hl 0 rfl) ?_
      refine g_X1_order X hW (X.2.2.2.2.1 _ mw36) dX1_inOrder_13 ?_
      refine lv_iload_n hx hb dX1_inOrder_16 rfl (lv_at hl 1 rfl) ?_
      refine m_iald X hW a_X1_order hx1 hf dX1_inOrder_17 (fun v1 hv1 hf => ?_)
      refine lv_goto (tgt := 22) hx hb dX1_inOrder_18 (by decide) ?_
      exact m_ireti X hr hlocks rfl hv1 (fun h => Bool.noConfusion h) hW hS (Option.some.inj hf) rfl hQ dX1_inOrder_22
set_option maxRecDepth 100000 in
set_option maxHeartbeats 4000000 in
theorem ok_X1_kindOf {l : Launch} {D : va_G} {cy : Nat → ClassId} {ad : Nat → Nat} {nm nv sz : Nat} {σ : St} {x1 : Int} {r : Int} (hx1 : inR x1) (hf : fX1_kindOf σ x1 = some r) : CI l yX1_kindOf cX1_kindOf 2 (some .int) ({ frames := 0, cells := 0, slots := 0, locals := 0 } : Room) [.ref (ad 8), .int (i32 x1)] D cy ad nm nv sz σ false r σ := by
  refine m_entry RX1 rfl (by decide +kernel) (Nat.le_of_ble_eq_true rfl) ?_
  intro p e s m args below meth c Q hQ hr hlocks X hW hS ls hl
  have hx := X.1
  have hb := X.2.1
  have hl : lv_has ls 2 [(0, .ref (ad 8)), (1, .int (i32 x1))] := hl
  unfold fX1_kindOf at hf
  refine lv_iload_n hx hb dX1_kindOf_0 rfl (lv_at hl 1 rfl) ?_
  refine m_if_lt (tgt := 21) hx hb hx1 hf dX1_kindOf_1 (by decide) (fun hf => ?_) (fun hf => ?_)
  · skip
    refine m_const (v := (-1)) hx hb dX1_kindOf_21 rfl ?_
    exact m_ireti X hr hlocks rfl (by decide) (fun h => Bool.noConfusion h) hW hS (Option.some.inj hf) rfl hQ dX1_kindOf_22
  · skip
    refine lv_iload_n hx hb dX1_kindOf_4 rfl (lv_at hl 1 rfl) ?_
    refine lv_aload_n hx hb dX1_kindOf_5 rfl (lv_at hl 0 rfl) ?_
    refine g_X1_made X hW (X.2.2.2.2.1 _ mw37) dX1_kindOf_6 ?_
    refine m_icmp_ge (tgt := 21) hx hb hx1 (hW.2.1 _ _) hf dX1_kindOf_9 (by decide) (fun hf => ?_) (fun hf => ?_)
    · skip
      refine m_const (v := (-1)) hx hb dX1_kindOf_21 rfl ?_
      exact m_ireti X hr hlocks rfl (by decide) (fun h => Bool.noConfusion h) hW hS (Option.some.inj hf) rfl hQ dX1_kindOf_22
    · skip
      refine lv_aload_n hx hb dX1_kindOf_12 rfl (lv_at hl 0 rfl) ?_
      refine g_X1_kinds X hW (X.2.2.2.2.1 _ mw31) dX1_kindOf_13 ?_
      refine lv_iload_n hx hb dX1_kindOf_16 rfl (lv_at hl 1 rfl) ?_
      refine m_iald X hW a_X1_kinds hx1 hf dX1_kindOf_17 (fun v1 hv1 hf => ?_)
      refine lv_goto (tgt := 22) hx hb dX1_kindOf_18 (by decide) ?_
      exact m_ireti X hr hlocks rfl hv1 (fun h => Bool.noConfusion h) hW hS (Option.some.inj hf) rfl hQ dX1_kindOf_22
set_option maxRecDepth 100000 in
set_option maxHeartbeats 4000000 in
theorem ok_X1_firstOf {l : Launch} {D : va_G} {cy : Nat → ClassId} {ad : Nat → Nat} {nm nv sz : Nat} {σ : St} {x1 : Int} {r : Int} (hx1 : inR x1) (hf : fX1_firstOf σ x1 = some r) : CI l yX1_firstOf cX1_firstOf 2 (some .int) ({ frames := 0, cells := 0, slots := 0, locals := 0 } : Room) [.ref (ad 8), .int (i32 x1)] D cy ad nm nv sz σ false r σ := by
  refine m_entry RX1 rfl (by decide +kernel) (Nat.le_of_ble_eq_true rfl) ?_
  intro p e s m args below meth c Q hQ hr hlocks X hW hS ls hl
  have hx := X.1
  have hb := X.2.1
  have hl : lv_has ls 2 [(0, .ref (ad 8)), (1, .int (i32 x1))] := hl
  unfold fX1_firstOf at hf
  refine lv_iload_n hx hb dX1_firstOf_0 rfl (lv_at hl 1 rfl) ?_
  refine m_if_lt (tgt := 21) hx hb hx1 hf dX1_firstOf_1 (by decide) (fun hf => ?_) (fun hf => ?_)
  · skip
    refine m_const (v := (-1)) hx hb dX1_firstOf_21 rfl ?_
    exact m_ireti X hr hlocks rfl (by decide) (fun h => Bool.noConfusion h) hW hS (Option.some.inj hf) rfl hQ dX1_firstOf_22
  · skip
    refine lv_iload_n hx hb dX1_firstOf_4 rfl (lv_at hl 1 rfl) ?_
    refine lv_aload_n hx hb dX1_firstOf_5 rfl (lv_at hl 0 rfl) ?_
    refine g_X1_made X hW (X.2.2.2.2.1 _ mw37) dX1_firstOf_6 ?_
    refine m_icmp_ge (tgt := 21) hx hb hx1 (hW.2.1 _ _) hf dX1_firstOf_9 (by decide) (fun hf => ?_) (fun hf => ?_)
    · skip
      refine m_const (v := (-1)) hx hb dX1_firstOf_21 rfl ?_
      exact m_ireti X hr hlocks rfl (by decide) (fun h => Bool.noConfusion h) hW hS (Option.some.inj hf) rfl hQ dX1_firstOf_22
    · skip
      refine lv_aload_n hx hb dX1_firstOf_12 rfl (lv_at hl 0 rfl) ?_
      refine g_X1_firsts X hW (X.2.2.2.2.1 _ mw32) dX1_firstOf_13 ?_
      refine lv_iload_n hx hb dX1_firstOf_16 rfl (lv_at hl 1 rfl) ?_
      refine m_iald X hW a_X1_firsts hx1 hf dX1_firstOf_17 (fun v1 hv1 hf => ?_)
      refine lv_goto (tgt := 22) hx hb dX1_firstOf_18 (by decide) ?_
      exact m_ireti X hr hlocks rfl hv1 (fun h => Bool.noConfusion h) hW hS (Option.some.inj hf) rfl hQ dX1_firstOf_22
set_option maxRecDepth 100000 in
set_option maxHeartbeats 4000000 in
theorem ok_X1_secondOf {l : Launch} {D : va_G} {cy : Nat → ClassId} {ad : Nat → Nat} {nm nv sz : Nat} {σ : St} {x1 : Int} {r : Int} (hx1 : inR x1) (hf : fX1_secondOf σ x1 = some r) : CI l yX1_secondOf cX1_secondOf 2 (some .int) ({ frames := 0, cells := 0, slots := 0, locals := 0 } : Room) [.ref (ad 8), .int (i32 x1)] D cy ad nm nv sz σ false r σ := by
  refine m_entry RX1 rfl (by decide +kernel) (Nat.le_of_ble_eq_true rfl) ?_
  intro p e s m args below meth c Q hQ hr hlocks X hW hS ls hl
  have hx := X.1
  have hb := X.2.1
  have hl : lv_has ls 2 [(0, .ref (ad 8)), (1, .int (i32 x1))] := hl
  unfold fX1_secondOf at hf
  refine lv_iload_n hx hb dX1_secondOf_0 rfl (lv_at hl 1 rfl) ?_
  refine m_if_lt (tgt := 21) hx hb hx1 hf dX1_secondOf_1 (by decide) (fun hf => ?_) (fun hf => ?_)
  · skip
    refine m_const (v := (-1)) hx hb dX1_secondOf_21 rfl ?_
    exact m_ireti X hr hlocks rfl (by decide) (fun h => Bool.noConfusion h) hW hS (Option.some.inj hf) rfl hQ dX1_secondOf_22
  · skip
    refine lv_iload_n hx hb dX1_secondOf_4 rfl (lv_at hl 1 rfl) ?_
    refine lv_aload_n hx hb dX1_secondOf_5 rfl (lv_at hl 0 rfl) ?_
    refine g_X1_made X hW (X.2.2.2.2.1 _ mw37) dX1_secondOf_6 ?_
    refine m_icmp_ge (tgt := 21) hx hb hx1 (hW.2.1 _ _) hf dX1_secondOf_9 (by decide) (fun hf => ?_) (fun hf => ?_)
    · skip
      refine m_const (v := (-1)) hx hb dX1_secondOf_21 rfl ?_
      exact m_ireti X hr hlocks rfl (by decide) (fun h => Bool.noConfusion h) hW hS (Option.some.inj hf) rfl hQ dX1_secondOf_22
    · skip
      refine lv_aload_n hx hb dX1_secondOf_12 rfl (lv_at hl 0 rfl) ?_
      refine g_X1_seconds X hW (X.2.2.2.2.1 _ mw33) dX1_secondOf_13 ?_
      refine lv_iload_n hx hb dX1_secondOf_16 rfl (lv_at hl 1 rfl) ?_
      refine m_iald X hW a_X1_seconds hx1 hf dX1_secondOf_17 (fun v1 hv1 hf => ?_)
      refine lv_goto (tgt := 22) hx hb dX1_secondOf_18 (by decide) ?_
      exact m_ireti X hr hlocks rfl hv1 (fun h => Bool.noConfusion h) hW hS (Option.some.inj hf) rfl hQ dX1_secondOf_22
set_option maxRecDepth 100000 in
set_option maxHeartbeats 4000000 in
theorem ok_X1_valueOf {l : Launch} {D : va_G} {cy : Nat → ClassId} {ad : Nat → Nat} {nm nv sz : Nat} {σ : St} {x1 : Int} {r : Int} (hx1 : inR x1) (hf : fX1_valueOf σ x1 = some r) : CI l yX1_valueOf cX1_valueOf 2 (some .int) ({ frames := 0, cells := 0, slots := 0, locals := 0 } : Room) [.ref (ad 8), .int (i32 x1)] D cy ad nm nv sz σ false r σ := by
  refine m_entry RX1 rfl (by decide +kernel) (Nat.le_of_ble_eq_true rfl) ?_
  intro p e s m args below meth c Q hQ hr hlocks X hW hS ls hl
  have hx := X.1
  have hb := X.2.1
  have hl : lv_has ls 2 [(0, .ref (ad 8)), (1, .int (i32 x1))] := hl
  unfold fX1_valueOf at hf
  refine lv_iload_n hx hb dX1_valueOf_0 rfl (lv_at hl 1 rfl) ?_
  refine m_if_lt (tgt := 21) hx hb hx1 hf dX1_valueOf_1 (by decide) (fun hf => ?_) (fun hf => ?_)
  · skip
    refine m_const (v := 0) hx hb dX1_valueOf_21 rfl ?_
    exact m_ireti X hr hlocks rfl (by decide) (fun h => Bool.noConfusion h) hW hS (Option.some.inj hf) rfl hQ dX1_valueOf_22
  · skip
    refine lv_iload_n hx hb dX1_valueOf_4 rfl (lv_at hl 1 rfl) ?_
    refine lv_aload_n hx hb dX1_valueOf_5 rfl (lv_at hl 0 rfl) ?_
    refine g_X1_made X hW (X.2.2.2.2.1 _ mw37) dX1_valueOf_6 ?_
    refine m_icmp_ge (tgt := 21) hx hb hx1 (hW.2.1 _ _) hf dX1_valueOf_9 (by decide) (fun hf => ?_) (fun hf => ?_)
    · skip
      refine m_const (v := 0) hx hb dX1_valueOf_21 rfl ?_
      exact m_ireti X hr hlocks rfl (by decide) (fun h => Bool.noConfusion h) hW hS (Option.some.inj hf) rfl hQ dX1_valueOf_22
    · skip
      refine lv_aload_n hx hb dX1_valueOf_12 rfl (lv_at hl 0 rfl) ?_
      refine g_X1_values X hW (X.2.2.2.2.1 _ mw34) dX1_valueOf_13 ?_
      refine lv_iload_n hx hb dX1_valueOf_16 rfl (lv_at hl 1 rfl) ?_
      refine m_iald X hW a_X1_values hx1 hf dX1_valueOf_17 (fun v1 hv1 hf => ?_)
      refine lv_goto (tgt := 22) hx hb dX1_valueOf_18 (by decide) ?_
      exact m_ireti X hr hlocks rfl hv1 (fun h => Bool.noConfusion h) hW hS (Option.some.inj hf) rfl hQ dX1_valueOf_22
set_option maxRecDepth 100000 in
set_option maxHeartbeats 4000000 in
theorem ok_X1_flagOf {l : Launch} {D : va_G} {cy : Nat → ClassId} {ad : Nat → Nat} {nm nv sz : Nat} {σ : St} {x1 : Int} {r : Int} (hx1 : inR x1) (hf : fX1_flagOf σ x1 = some r) : CI l yX1_flagOf cX1_flagOf 2 (some .boolean) ({ frames := 0, cells := 0, slots := 0, locals := 0 } : Room) [.ref (ad 8), .int (i32 x1)] D cy ad nm nv sz σ true r σ := by
  refine m_entry RX1 rfl (by decide +kernel) (Nat.le_of_ble_eq_true rfl) ?_
  intro p e s m args below meth c Q hQ hr hlocks X hW hS ls hl
  have hx := X.1
  have hb := X.2.1
  have hl : lv_has ls 2 [(0, .ref (ad 8)), (1, .int (i32 x1))] := hl
  unfold fX1_flagOf at hf
  refine lv_iload_n hx hb dX1_flagOf_0 rfl (lv_at hl 1 rfl) ?_
  refine m_if_lt (tgt := 25) hx hb hx1 hf dX1_flagOf_1 (by decide) (fun hf => ?_) (fun hf => ?_)
  · skip
    refine m_const (v := 0) hx hb dX1_flagOf_25 rfl ?_
    exact m_ireti X hr hlocks (nar_b (Or.inl rfl)).1 (by decide) (fun _ => (Or.inl rfl)) hW hS (Option.some.inj hf) rfl hQ dX1_flagOf_26
  · skip
    refine lv_iload_n hx hb dX1_flagOf_4 rfl (lv_at hl 1 rfl) ?_
    refine lv_aload_n hx hb dX1_flagOf_5 rfl (lv_at hl 0 rfl) ?_
    refine g_X1_made X hW (X.2.2.2.2.1 _ mw37) dX1_flagOf_6 ?_
    refine m_icmp_ge (tgt := 25) hx hb hx1 (hW.2.1 _ _) hf dX1_flagOf_9 (by decide) (fun hf => ?_) (fun hf => ?_)
    · skip
      refine m_const (v := 0) hx hb dX1_flagOf_25 rfl ?_
      exact m_ireti X hr hlocks (nar_b (Or.inl rfl)).1 (by decide) (fun _ => (Or.inl rfl)) hW hS (Option.some.inj hf) rfl hQ dX1_flagOf_26
    · skip
      refine lv_aload_n hx hb dX1_flagOf_12 rfl (lv_at hl 0 rfl) ?_
      refine g_X1_flags X hW (X.2.2.2.2.1 _ mw35) dX1_flagOf_13 ?_
      refine lv_iload_n hx hb dX1_flagOf_16 rfl (lv_at hl 1 rfl) ?_
      refine m_zald X hW a_X1_flags hx1 hf dX1_flagOf_17 (fun v1 hv1 hf => ?_)
      refine m_if_eq (tgt := 25) hx hb hv1 hf dX1_flagOf_18 (by decide) (fun hf => ?_) (fun hf => ?_)
      · skip
        refine m_const (v := 0) hx hb dX1_flagOf_25 rfl ?_
        exact m_ireti X hr hlocks (nar_b (Or.inl rfl)).1 (by decide) (fun _ => (Or.inl rfl)) hW hS (Option.some.inj hf) rfl hQ dX1_flagOf_26
      · skip
        refine m_const (v := 1) hx hb dX1_flagOf_21 rfl ?_
        refine lv_goto (tgt := 26) hx hb dX1_flagOf_22 (by decide) ?_
        exact m_ireti X hr hlocks (nar_b (Or.inr rfl)).1 (by decide) (fun _ => (Or.inr rfl)) hW hS (Option.some.inj hf) rfl hQ dX1_flagOf_26
set_option maxRecDepth 100000 in
set_option maxHeartbeats 4000000 in
theorem ok_X1_makesElement {l : Launch} {D : va_G} {cy : Nat → ClassId} {ad : Nat → Nat} {nm nv sz : Nat} {σ : St} {x1 : Int} {r : Int} (hx1 : inR x1) (hf : fX1_makesElement σ x1 = some r) : CI l yX1_makesElement cX1_makesElement 2 (some .boolean) ({ frames := 0, cells := 0, slots := 0, locals := 0 } : Room) [.ref (ad 8), .int (i32 x1)] D cy ad nm nv sz σ true r σ := by
  refine m_entry RX1 rfl (by decide +kernel) (Nat.le_of_ble_eq_true rfl) ?_
  intro p e s m args below meth c Q hQ hr hlocks X hW hS ls hl
  have hx := X.1
  have hb := X.2.1
  have hl : lv_has ls 2 [(0, .ref (ad 8)), (1, .int (i32 x1))] := hl
  unfold fX1_makesElement at hf
  refine lv_iload_n hx hb dX1_makesElement_0 rfl (lv_at hl 1 rfl) ?_
  refine m_if_lt (tgt := 35) hx hb hx1 hf dX1_makesElement_1 (by decide) (fun hf => ?_) (fun hf => ?_)
  · skip
    refine m_const (v := 0) hx hb dX1_makesElement_35 rfl ?_
    exact m_ireti X hr hlocks (nar_b (Or.inl rfl)).1 (by decide) (fun _ => (Or.inl rfl)) hW hS (Option.some.inj hf) rfl hQ dX1_makesElement_36
  · skip
    refine lv_iload_n hx hb dX1_makesElement_4 rfl (lv_at hl 1 rfl) ?_
    refine lv_aload_n hx hb dX1_makesElement_5 rfl (lv_at hl 0 rfl) ?_
    refine g_X1_made X hW (X.2.2.2.2.1 _ mw37) dX1_makesElement_6 ?_
    refine m_icmp_ge (tgt := 35) hx hb hx1 (hW.2.1 _ _) hf dX1_makesElement_9 (by decide) (fun hf => ?_) (fun hf => ?_)
    · skip
      refine m_const (v := 0) hx hb dX1_makesElement_35 rfl ?_
      exact m_ireti X hr hlocks (nar_b (Or.inl rfl)).1 (by decide) (fun _ => (Or.inl rfl)) hW hS (Option.some.inj hf) rfl hQ dX1_makesElement_36
    · skip
      refine lv_aload_n hx hb dX1_makesElement_12 rfl (lv_at hl 0 rfl) ?_
      refine g_X1_kinds X hW (X.2.2.2.2.1 _ mw31) dX1_makesElement_13 ?_
      refine lv_iload_n hx hb dX1_makesElement_16 rfl (lv_at hl 1 rfl) ?_
      refine m_iald X hW a_X1_kinds hx1 hf dX1_makesElement_17 (fun v1 hv1 hf => ?_)
      refine m_if_eq (tgt := 31) hx hb hv1 hf dX1_makesElement_18 (by decide) (fun hf => ?_) (fun hf => ?_)
      · skip
        refine m_const (v := 1) hx hb dX1_makesElement_31 rfl ?_
        refine lv_goto (tgt := 36) hx hb dX1_makesElement_32 (by decide) ?_
        exact m_ireti X hr hlocks (nar_b (Or.inr rfl)).1 (by decide) (fun _ => (Or.inr rfl)) hW hS (Option.some.inj hf) rfl hQ dX1_makesElement_36
      · skip
        refine lv_aload_n hx hb dX1_makesElement_21 rfl (lv_at hl 0 rfl) ?_
        refine g_X1_kinds X hW (X.2.2.2.2.1 _ mw31) dX1_makesElement_22 ?_
        refine lv_iload_n hx hb dX1_makesElement_25 rfl (lv_at hl 1 rfl) ?_
        refine m_iald X hW a_X1_kinds hx1 hf dX1_makesElement_26 (fun v2 hv2 hf => ?_)
        refine m_const (v := 1) hx hb dX1_makesElement_27 rfl ?_
        refine m_icmp_ne (tgt := 35) hx hb hv2 (by decide) hf dX1_makesElement_28 (by decide) (fun hf => ?_) (fun hf => ?_)
        · skip
          refine m_const (v := 0) hx hb dX1_makesElement_35 rfl ?_
          exact m_ireti X hr hlocks (nar_b (Or.inl rfl)).1 (by decide) (fun _ => (Or.inl rfl)) hW hS (Option.some.inj hf) rfl hQ dX1_makesElement_36
        · skip
          refine m_const (v := 1) hx hb dX1_makesElement_31 rfl ?_
          refine lv_goto (tgt := 36) hx hb dX1_makesElement_32 (by decide) ?_
          exact m_ireti X hr hlocks (nar_b (Or.inr rfl)).1 (by decide) (fun _ => (Or.inr rfl)) hW hS (Option.some.inj hf) rfl hQ dX1_makesElement_36
set_option maxRecDepth 100000 in
set_option maxHeartbeats 4000000 in
theorem ok_X1_isUndoable {l : Launch} {D : va_G} {cy : Nat → ClassId} {ad : Nat → Nat} {nm nv sz : Nat} {σ : St} {x1 : Int} {r : Int} (hx1 : inR x1) (hf : fX1_isUndoable σ x1 = some r) : CI l yX1_isUndoable cX1_isUndoable 2 (some .boolean) ({ frames := 0, cells := 0, slots := 0, locals := 0 } : Room) [.ref (ad 8), .int (i32 x1)] D cy ad nm nv sz σ true r σ := by
  refine m_entry RX1 rfl (by decide +kernel) (Nat.le_of_ble_eq_true rfl) ?_
  intro p e s m args below meth c Q hQ hr hlocks X hW hS ls hl
  have hx := X.1
  have hb := X.2.1
  have hl : lv_has ls 2 [(0, .ref (ad 8)), (1, .int (i32 x1))] := hl
  unfold fX1_isUndoable at hf
  refine lv_iload_n hx hb dX1_isUndoable_0 rfl (lv_at hl 1 rfl) ?_
  refine m_if_lt (tgt := 27) hx hb hx1 hf dX1_isUndoable_1 (by decide) (fun hf => ?_) (fun hf => ?_)
  · skip
    refine m_const (v := 0) hx hb dX1_isUndoable_27 rfl ?_
    exact m_ireti X hr hlocks (nar_b (Or.inl rfl)).1 (by decide) (fun _ => (Or.inl rfl)) hW hS (Option.some.inj hf) rfl hQ dX1_isUndoable_28
  · skip
    refine lv_iload_n hx hb dX1_isUndoable_4 rfl (lv_at hl 1 rfl) ?_
    refine lv_aload_n hx hb dX1_isUndoable_5 rfl (lv_at hl 0 rfl) ?_
    refine g_X1_made X hW (X.2.2.2.2.1 _ mw37) dX1_isUndoable_6 ?_
    refine m_icmp_ge (tgt := 27) hx hb hx1 (hW.2.1 _ _) hf dX1_isUndoable_9 (by decide) (fun hf => ?_) (fun hf => ?_)
    · skip
      refine m_const (v := 0) hx hb dX1_isUndoable_27 rfl ?_
      exact m_ireti X hr hlocks (nar_b (Or.inl rfl)).1 (by decide) (fun _ => (Or.inl rfl)) hW hS (Option.some.inj hf) rfl hQ dX1_isUndoable_28
    · skip
      refine lv_aload_n hx hb dX1_isUndoable_12 rfl (lv_at hl 0 rfl) ?_
      refine g_X1_kinds X hW (X.2.2.2.2.1 _ mw31) dX1_isUndoable_13 ?_
      refine lv_iload_n hx hb dX1_isUndoable_16 rfl (lv_at hl 1 rfl) ?_
      refine m_iald X hW a_X1_kinds hx1 hf dX1_isUndoable_17 (fun v1 hv1 hf => ?_)
      refine m_bipush (v := 7) hx hb dX1_isUndoable_18 (by decide) ?_
      refine m_icmp_gt (tgt := 27) hx hb hv1 (by decide) hf dX1_isUndoable_20 (by decide) (fun hf => ?_) (fun hf => ?_)
      · skip
        refine m_const (v := 0) hx hb dX1_isUndoable_27 rfl ?_
        exact m_ireti X hr hlocks (nar_b (Or.inl rfl)).1 (by decide) (fun _ => (Or.inl rfl)) hW hS (Option.some.inj hf) rfl hQ dX1_isUndoable_28
      · skip
        refine m_const (v := 1) hx hb dX1_isUndoable_23 rfl ?_
        refine lv_goto (tgt := 28) hx hb dX1_isUndoable_24 (by decide) ?_
        exact m_ireti X hr hlocks (nar_b (Or.inr rfl)).1 (by decide) (fun _ => (Or.inr rfl)) hW hS (Option.some.inj hf) rfl hQ dX1_isUndoable_28
