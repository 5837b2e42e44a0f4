theorem hdn_X1_init : yX1_init.cls ≠ "java/lang/invoke/MethodHandle" ∧ yX1_init.cls ≠ "java/lang/invoke/VarHandle" ∧ (parseMethodDescriptor yX1_init.desc).map (fun d => d.parameters.length) = some 0 := by decide +kernel
theorem hdn_X4_init : yX4_init.cls ≠ "java/lang/invoke/MethodHandle" ∧ yX4_init.cls ≠ "java/lang/invoke/VarHandle" ∧ (parseMethodDescriptor yX4_init.desc).map (fun d => d.parameters.length) = some 2 := by decide +kernel
set_option maxRecDepth 100000 in
set_option maxHeartbeats 8000000 in
theorem cc_X5 {l : Launch} {D : va_G} {cy : Nat → ClassId} {sz h0 : Nat} : CC l yX5_init cX5_init 2 ({ frames := 3, cells := 126, slots := 15822, locals := 56 } : Room) [.ref h0] D cy sz h0 (.inr (5, [.null, .null, .null, .null, .null, .null, .null, .null, .null, .int 0, .int 0])) (gX5 cy) 126 15822 := by
  refine c_entry RX5 rfl rfl (by decide +kernel) (Nat.le_of_ble_eq_true rfl) ?_
  intro p e s m args below meth c A Q hA0 hQ hr hlocks hin X hP hD hS ls hl
  have hx := X.1
  have hb := X.2.1
  have hl : lv_has ls 2 [(0, .ref h0)] := hl
  refine lv_aload_n hx hb dX5_init_0 rfl (lv_at hl 0 rfl) ?_
  refine c_objInit (rest := []) X hl.1 (X.2.2.2.2.1 _ mw20) (X.2.2.2.2.1 _ mw21) (X.2.2.2.2.1 _ mw22) dX5_init_1 (Nat.le_of_ble_eq_true rfl) (Nat.le_of_ble_eq_true rfl) ?_
  refine lv_aload_n hx hb dX5_init_4 rfl (lv_at hl 0 rfl) ?_
  refine c_newH (ci := 1) (fs := [.null, .null, .null, .null, .null, .null, .null, .null, .int 0, .int 0]) X hP hD hS i_X1 tyX1 tyX1_ok (X.2.2.2.2.1 _ mw23) (X.2.2.2.2.1 _ mw24) (X.2.2.2.2.1 _ mw2) rfl (fun j hj => by rcases (show j = 0 ∨ j = 1 ∨ j = 2 ∨ j = 3 ∨ j = 4 ∨ j = 5 ∨ j = 6 ∨ j = 7 ∨ j = 8 ∨ j = 9 by omega) with rfl | rfl | rfl | rfl | rfl | rfl | rfl | rfl | rfl | rfl <;> rfl) (Nat.le_of_ble_eq_true rfl) (Nat.le_of_ble_eq_true rfl) dX5_init_5 (fun q5 H hP hD hS => ?_)
  refine lv_dup hx hb dX5_init_8 rfl ?_
  refine c_callNH (g := gX1 cy) (As := []) (rest := [.ref q5, .ref h0]) X hP hD hS hl.1 (cg_G mw27) (X.2.2.2.2.1 _ mw2) (nm_X5_11 X.2.2.2.2.2.2.2.1) (X.2.2.2.2.1 _ mw26) rfl hdn_X1_init ⟨rfl, rfl, (Nat.le_of_ble_eq_true rfl), (Nat.le_of_ble_eq_true rfl)⟩ cc_X1 rfl rfl (Nat.le_of_ble_eq_true rfl) dX5_init_9 ⟨(Nat.le_of_ble_eq_true rfl), (Nat.le_of_ble_eq_true rfl)⟩ (fun r_q5 H locs r_q50 hP hD hS => ?_)
  refine c_putFH (fs' := [.ref q5, .null, .null, .null, .null, .null, .null, .null, .null, .int 0, .int 0]) X hP hD hS i_X5 tyX5_ok nmX5 rfl 0 (by decide) (X.2.2.2.2.1 _ mw179) rfl rfl hin rfl (tyX5_ok 0 (by decide)) rfl rfl (Nat.le_of_ble_eq_true rfl) rfl dX5_init_12 (fun H locs hP hD hS => ?_)
  refine lv_aload_n hx hb dX5_init_15 rfl (lv_at hl 0 rfl) ?_
  refine m_const (v := 4) hx hb dX5_init_16 rfl ?_
  refine c_newqH (k := 4) (t0 := 3) (N' := 4) X hP hD hS (X.2.2.2.2.1 _ mw65) X.2.2.2.2.2.2.2.2.1 rfl rfl (Nat.le_of_ble_eq_true rfl) (Nat.le_of_ble_eq_true rfl) (Nat.le_of_ble_eq_true rfl) dX5_init_17 (fun q17 H hP hD hS => ?_)
  refine c_putFH (fs' := [.ref q5, .ref q17, .null, .null, .null, .null, .null, .null, .null, .int 0, .int 0]) X hP hD hS i_X5 tyX5_ok nmX5 rfl 1 (by decide) (X.2.2.2.2.1 _ mw180) rfl rfl hin rfl (tyX5_ok 1 (by decide)) rfl rfl (Nat.le_of_ble_eq_true rfl) rfl dX5_init_20 (fun H locs hP hD hS => ?_)
  refine m_const (v := 0) hx hb dX5_init_23 rfl ?_
  refine lv_istore_n (lv' := [(1, .int (i32 0)), (0, .ref h0)]) hx hb dX5_init_24 rfl hl (by decide) rfl (fun ls hl => ?_)
  refine lv_iload_n hx hb dX5_init_25 rfl (lv_at hl 0 rfl) ?_
  refine m_const (v := 4) hx hb dX5_init_26 rfl ?_
  have hP : va_P D vwCl ((h0, .inr (5, [.ref q5, .ref q17, .null, .null, .null, .null, .null, .null, .null, .int 0, .int 0])) :: ((([] ++ gX1 cy r_q5) ++ [(q17, .inl (cy 4, 4, .inr (.inr (.inr (.inr (fun _ => none))))))]) ++ [])) H := by
    rw [List.append_nil]
    exact hP
  have hD : va_D A ((h0, .inr (5, [.ref q5, .ref q17, .null, .null, .null, .null, .null, .null, .null, .int 0, .int 0])) :: ((([] ++ gX1 cy r_q5) ++ [(q17, .inl (cy 4, 4, .inr (.inr (.inr (.inr (fun _ => none))))))]) ++ [])) := by
    rw [List.append_nil]
    exact hD
  refine lv_icmp_ge (tgt := 54) hx hb dX5_init_27 (by decide) (fun q => absurd q (by decide)) (fun _ => ?_)
  refine lv_aload_n hx hb dX5_init_30 rfl (lv_at hl 1 rfl) ?_
  refine c_getH X hP i_X5 rfl 1 (by decide) (X.2.2.2.2.1 _ mw180) rfl rfl dX5_init_31 ?_
  refine lv_iload_n hx hb dX5_init_34 rfl (lv_at hl 0 rfl) ?_
  refine c_newH (ci := 4) (fs := [.int 0, .null, .null, .null, .null, .int 0, .int 0, .int 0, .int 0, .int 0]) X hP hD hS i_X4 tyX4 tyX4_ok (X.2.2.2.2.1 _ mw65) (X.2.2.2.2.1 _ mw67) (X.2.2.2.2.1 _ mw3) rfl (fun j hj => by rcases (show j = 0 ∨ j = 1 ∨ j = 2 ∨ j = 3 ∨ j = 4 ∨ j = 5 ∨ j = 6 ∨ j = 7 ∨ j = 8 ∨ j = 9 by omega) with rfl | rfl | rfl | rfl | rfl | rfl | rfl | rfl | rfl | rfl <;> rfl) (Nat.le_of_ble_eq_true rfl) (Nat.le_of_ble_eq_true rfl) dX5_init_35 (fun q35 H hP hD hS => ?_)
  refine lv_dup hx hb dX5_init_38 rfl ?_
  refine lv_iload_n hx hb dX5_init_39 rfl (lv_at hl 0 rfl) ?_
  refine lv_aload_n hx hb dX5_init_40 rfl (lv_at hl 1 rfl) ?_
  refine c_getH X hP i_X5 rfl 0 (by decide) (X.2.2.2.2.1 _ mw179) rfl rfl dX5_init_41 ?_
  refine c_callH (g := gX4 cy q5 0) (As := [.int (i32 0), .ref q5]) (rest := [.ref q35, .int (i32 0), .ref q17]) X hP hD hS hl.1 (cg_G mw70) (X.2.2.2.2.1 _ mw3) (X.2.2.2.2.1 _ mw68) (X.2.2.2.2.1 _ mw69) rfl hdn_X4_init ⟨rfl, rfl, (Nat.le_of_ble_eq_true rfl), (Nat.le_of_ble_eq_true rfl)⟩ cc_X4 rfl rfl (Nat.le_of_ble_eq_true rfl) dX5_init_44 ⟨(Nat.le_of_ble_eq_true rfl), (Nat.le_of_ble_eq_true rfl)⟩ (fun r_q35 H locs r_q350 hP hD hS => ?_)
  rw [← r_q350]
  refine c_astH (i := 0) (k := 0) (rr := (RX4, TX4, 10)) (t0 := 3) X hP hD hS rfl rfl rfl rfl (by decide) (by decide) dX5_init_47 (fun H locs hP hD hS => ?_)
  refine lv_iinc (v := i32 1) (k := 0) (lv' := [(1, .int (i32 1)), (0, .ref h0)]) hx hb dX5_init_48 hl rfl (by decide) (by decide) rfl (fun ls hl => ?_)
  refine lv_goto (tgt := 25) hx hb dX5_init_51 (by decide) ?_
  refine lv_iload_n hx hb dX5_init_25 rfl (lv_at hl 0 rfl) ?_
  refine m_const (v := 4) hx hb dX5_init_26 rfl ?_
  refine lv_icmp_ge (tgt := 54) hx hb dX5_init_27 (by decide) (fun q => absurd q (by decide)) (fun _ => ?_)
  refine lv_aload_n hx hb dX5_init_30 rfl (lv_at hl 1 rfl) ?_
  refine c_getH X hP i_X5 rfl 1 (by decide) (X.2.2.2.2.1 _ mw180) rfl rfl dX5_init_31 ?_
  refine lv_iload_n hx hb dX5_init_34 rfl (lv_at hl 0 rfl) ?_
  refine c_newH (ci := 4) (fs := [.int 0, .null, .null, .null, .null, .int 0, .int 0, .int 0, .int 0, .int 0]) X hP hD hS i_X4 tyX4 tyX4_ok (X.2.2.2.2.1 _ mw65) (X.2.2.2.2.1 _ mw67) (X.2.2.2.2.1 _ mw3) rfl (fun j hj => by rcases (show j = 0 ∨ j = 1 ∨ j = 2 ∨ j = 3 ∨ j = 4 ∨ j = 5 ∨ j = 6 ∨ j = 7 ∨ j = 8 ∨ j = 9 by omega) with rfl | rfl | rfl | rfl | rfl | rfl | rfl | rfl | rfl | rfl <;> rfl) (Nat.le_of_ble_eq_true rfl) (Nat.le_of_ble_eq_true rfl) dX5_init_35 (fun q35_1 H hP hD hS => ?_)
  refine lv_dup hx hb dX5_init_38 rfl ?_
  refine lv_iload_n hx hb dX5_init_39 rfl (lv_at hl 0 rfl) ?_
  refine lv_aload_n hx hb dX5_init_40 rfl (lv_at hl 1 rfl) ?_
  refine c_getH X hP i_X5 rfl 0 (by decide) (X.2.2.2.2.1 _ mw179) rfl rfl dX5_init_41 ?_
  refine c_callH (g := gX4 cy q5 1) (As := [.int (i32 1), .ref q5]) (rest := [.ref q35_1, .int (i32 1), .ref q17]) X hP hD hS hl.1 (cg_G mw70) (X.2.2.2.2.1 _ mw3) (X.2.2.2.2.1 _ mw68) (X.2.2.2.2.1 _ mw69) rfl hdn_X4_init ⟨rfl, rfl, (Nat.le_of_ble_eq_true rfl), (Nat.le_of_ble_eq_true rfl)⟩ cc_X4 rfl rfl (Nat.le_of_ble_eq_true rfl) dX5_init_44 ⟨(Nat.le_of_ble_eq_true rfl), (Nat.le_of_ble_eq_true rfl)⟩ (fun r_q35_1 H locs r_q35_10 hP hD hS => ?_)
  rw [← r_q35_10]
  refine c_astH (i := 1) (k := 1) (rr := (RX4, TX4, 10)) (t0 := 3) X hP hD hS rfl rfl rfl rfl (by decide) (by decide) dX5_init_47 (fun H locs hP hD hS => ?_)
  refine lv_iinc (v := i32 2) (k := 0) (lv' := [(1, .int (i32 2)), (0, .ref h0)]) hx hb dX5_init_48 hl rfl (by decide) (by decide) rfl (fun ls hl => ?_)
  refine lv_goto (tgt := 25) hx hb dX5_init_51 (by decide) ?_
  refine lv_iload_n hx hb dX5_init_25 rfl (lv_at hl 0 rfl) ?_
  refine m_const (v := 4) hx hb dX5_init_26 rfl ?_
  refine lv_icmp_ge (tgt := 54) hx hb dX5_init_27 (by decide) (fun q => absurd q (by decide)) (fun _ => ?_)
  refine lv_aload_n hx hb dX5_init_30 rfl (lv_at hl 1 rfl) ?_
  refine c_getH X hP i_X5 rfl 1 (by decide) (X.2.2.2.2.1 _ mw180) rfl rfl dX5_init_31 ?_
  refine lv_iload_n hx hb dX5_init_34 rfl (lv_at hl 0 rfl) ?_
  refine c_newH (ci := 4) (fs := [.int 0, .null, .null, .null, .null, .int 0, .int 0, .int 0, .int 0, .int 0]) X hP hD hS i_X4 tyX4 tyX4_ok (X.2.2.2.2.1 _ mw65) (X.2.2.2.2.1 _ mw67) (X.2.2.2.2.1 _ mw3) rfl (fun j hj => by rcases (show j = 0 ∨ j = 1 ∨ j = 2 ∨ j = 3 ∨ j = 4 ∨ j = 5 ∨ j = 6 ∨ j = 7 ∨ j = 8 ∨ j = 9 by omega) with rfl | rfl | rfl | rfl | rfl | rfl | rfl | rfl | rfl | rfl <;> rfl) (Nat.le_of_ble_eq_true rfl) (Nat.le_of_ble_eq_true rfl) dX5_init_35 (fun q35_2 H hP hD hS => ?_)
  refine lv_dup hx hb dX5_init_38 rfl ?_
  refine lv_iload_n hx hb dX5_init_39 rfl (lv_at hl 0 rfl) ?_
  refine lv_aload_n hx hb dX5_init_40 rfl (lv_at hl 1 rfl) ?_
  refine c_getH X hP i_X5 rfl 0 (by decide) (X.2.2.2.2.1 _ mw179) rfl rfl dX5_init_41 ?_
  refine c_callH (g := gX4 cy q5 2) (As := [.int (i32 2), .ref q5]) (rest := [.ref q35_2, .int (i32 2), .ref q17]) X hP hD hS hl.1 (cg_G mw70) (X.2.2.2.2.1 _ mw3) (X.2.2.2.2.1 _ mw68) (X.2.2.2.2.1 _ mw69) rfl hdn_X4_init ⟨rfl, rfl, (Nat.le_of_ble_eq_true rfl), (Nat.le_of_ble_eq_true rfl)⟩ cc_X4 rfl rfl (Nat.le_of_ble_eq_true rfl) dX5_init_44 ⟨(Nat.le_of_ble_eq_true rfl), (Nat.le_of_ble_eq_true rfl)⟩ (fun r_q35_2 H locs r_q35_20 hP hD hS => ?_)
  rw [← r_q35_20]
  refine c_astH (i := 2) (k := 2) (rr := (RX4, TX4, 10)) (t0 := 3) X hP hD hS rfl rfl rfl rfl (by decide) (by decide) dX5_init_47 (fun H locs hP hD hS => ?_)
  refine lv_iinc (v := i32 3) (k := 0) (lv' := [(1, .int (i32 3)), (0, .ref h0)]) hx hb dX5_init_48 hl rfl (by decide) (by decide) rfl (fun ls hl => ?_)
  refine lv_goto (tgt := 25) hx hb dX5_init_51 (by decide) ?_
  refine lv_iload_n hx hb dX5_init_25 rfl (lv_at hl 0 rfl) ?_
  refine m_const (v := 4) hx hb dX5_init_26 rfl ?_
  refine lv_icmp_ge (tgt := 54) hx hb dX5_init_27 (by decide) (fun q => absurd q (by decide)) (fun _ => ?_)
  refine lv_aload_n hx hb dX5_init_30 rfl (lv_at hl 1 rfl) ?_
  refine c_getH X hP i_X5 rfl 1 (by decide) (X.2.2.2.2.1 _ mw180) rfl rfl dX5_init_31 ?_
  refine lv_iload_n hx hb dX5_init_34 rfl (lv_at hl 0 rfl) ?_
  refine c_newH (ci := 4) (fs := [.int 0, .null, .null, .null, .null, .int 0, .int 0, .int 0, .int 0, .int 0]) X hP hD hS i_X4 tyX4 tyX4_ok (X.2.2.2.2.1 _ mw65) (X.2.2.2.2.1 _ mw67) (X.2.2.2.2.1 _ mw3) rfl (fun j hj => by rcases (show j = 0 ∨ j = 1 ∨ j = 2 ∨ j = 3 ∨ j = 4 ∨ j = 5 ∨ j = 6 ∨ j = 7 ∨ j = 8 ∨ j = 9 by omega) with rfl | rfl | rfl | rfl | rfl | rfl | rfl | rfl | rfl | rfl <;> rfl) (Nat.le_of_ble_eq_true rfl) (Nat.le_of_ble_eq_true rfl) dX5_init_35 (fun q35_3 H hP hD hS => ?_)
  refine lv_dup hx hb dX5_init_38 rfl ?_
  refine lv_iload_n hx hb dX5_init_39 rfl (lv_at hl 0 rfl) ?_
  refine lv_aload_n hx hb dX5_init_40 rfl (lv_at hl 1 rfl) ?_
  refine c_getH X hP i_X5 rfl 0 (by decide) (X.2.2.2.2.1 _ mw179) rfl rfl dX5_init_41 ?_
  refine c_callH (g := gX4 cy q5 3) (As := [.int (i32 3), .ref q5]) (rest := [.ref q35_3, .int (i32 3), .ref q17]) X hP hD hS hl.1 (cg_G mw70) (X.2.2.2.2.1 _ mw3) (X.2.2.2.2.1 _ mw68) (X.2.2.2.2.1 _ mw69) rfl hdn_X4_init ⟨rfl, rfl, (Nat.le_of_ble_eq_true rfl), (Nat.le_of_ble_eq_true rfl)⟩ cc_X4 rfl rfl (Nat.le_of_ble_eq_true rfl) dX5_init_44 ⟨(Nat.le_of_ble_eq_true rfl), (Nat.le_of_ble_eq_true rfl)⟩ (fun r_q35_3 H locs r_q35_30 hP hD hS => ?_)
  rw [← r_q35_30]
  refine c_astH (i := 3) (k := 3) (rr := (RX4, TX4, 10)) (t0 := 3) X hP hD hS rfl rfl rfl rfl (by decide) (by decide) dX5_init_47 (fun H locs hP hD hS => ?_)
  refine lv_iinc (v := i32 4) (k := 0) (lv' := [(1, .int (i32 4)), (0, .ref h0)]) hx hb dX5_init_48 hl rfl (by decide) (by decide) rfl (fun ls hl => ?_)
  refine lv_goto (tgt := 25) hx hb dX5_init_51 (by decide) ?_
  refine lv_iload_n hx hb dX5_init_25 rfl (lv_at hl 0 rfl) ?_
  refine m_const (v := 4) hx hb dX5_init_26 rfl ?_
  refine lv_icmp_ge (tgt := 54) hx hb dX5_init_27 (by decide) (fun _ => ?_) (fun q => absurd (by decide) q)
  refine lv_aload_n hx hb dX5_init_54 rfl (lv_at hl 1 rfl) ?_
  refine m_bipush (v := 80) hx hb dX5_init_55 (by decide) ?_
  refine c_newqH (k := 5) (t0 := 4) (N' := 80) X hP hD hS (X.2.2.2.2.1 _ mw172) X.2.2.2.2.2.2.2.2.2.1 rfl rfl (Nat.le_of_ble_eq_true rfl) (Nat.le_of_ble_eq_true rfl) (Nat.le_of_ble_eq_true rfl) dX5_init_57 (fun q57 H hP hD hS => ?_)
  refine c_putFH (fs' := [.ref q5, .ref q17, .ref q57, .null, .null, .null, .null, .null, .null, .int 0, .int 0]) X hP hD hS i_X5 tyX5_ok nmX5 rfl 2 (by decide) (X.2.2.2.2.1 _ mw181) rfl rfl hin rfl (tyX5_ok 2 (by decide)) rfl rfl (Nat.le_of_ble_eq_true rfl) rfl dX5_init_60 (fun H locs hP hD hS => ?_)
  refine lv_aload_n hx hb dX5_init_63 rfl (lv_at hl 1 rfl) ?_
  refine m_bipush (v := 10) hx hb dX5_init_64 (by decide) ?_
  refine c_newqH (k := 6) (t0 := 5) (N' := 10) X hP hD hS (X.2.2.2.2.1 _ mw174) X.2.2.2.2.2.2.2.2.2.2.1 rfl rfl (Nat.le_of_ble_eq_true rfl) (Nat.le_of_ble_eq_true rfl) (Nat.le_of_ble_eq_true rfl) dX5_init_66 (fun q66 H hP hD hS => ?_)
  refine c_putFH (fs' := [.ref q5, .ref q17, .ref q57, .ref q66, .null, .null, .null, .null, .null, .int 0, .int 0]) X hP hD hS i_X5 tyX5_ok nmX5 rfl 3 (by decide) (X.2.2.2.2.1 _ mw182) rfl rfl hin rfl (tyX5_ok 3 (by decide)) rfl rfl (Nat.le_of_ble_eq_true rfl) rfl dX5_init_69 (fun H locs hP hD hS => ?_)
  refine lv_aload_n hx hb dX5_init_72 rfl (lv_at hl 1 rfl) ?_
  refine c_newH (ci := 3) (fs := [.null, .null, .int 0, .null, .null, .null, .null, .null, .null, .null, .null, .null]) X hP hD hS i_X3 tyX3 tyX3_ok (X.2.2.2.2.1 _ mw176) (X.2.2.2.2.1 _ mw88) (X.2.2.2.2.1 _ mw5) rfl (fun j hj => by rcases (show j = 0 ∨ j = 1 ∨ j = 2 ∨ j = 3 ∨ j = 4 ∨ j = 5 ∨ j = 6 ∨ j = 7 ∨ j = 8 ∨ j = 9 ∨ j = 10 ∨ j = 11 by omega) with rfl | rfl | rfl | rfl | rfl | rfl | rfl | rfl | rfl | rfl | rfl | rfl <;> rfl) (Nat.le_of_ble_eq_true rfl) (Nat.le_of_ble_eq_true rfl) dX5_init_73 (fun q73_4 H hP hD hS => ?_)
  refine lv_dup hx hb dX5_init_76 rfl ?_
  refine lv_aload_n hx hb dX5_init_77 rfl (lv_at hl 1 rfl) ?_
  refine c_getH X hP i_X5 rfl 0 (by decide) (X.2.2.2.2.1 _ mw179) rfl rfl dX5_init_78 ?_
  refine c_callH (g := gX3 cy q5) (As := [.ref q5]) (rest := [.ref q73_4, .ref h0]) X hP hD hS hl.1 (cg_G mw91) (X.2.2.2.2.1 _ mw5) (X.2.2.2.2.1 _ mw177) (X.2.2.2.2.1 _ mw90) rfl hdn_X3_init ⟨rfl, rfl, (Nat.le_of_ble_eq_true rfl), (Nat.le_of_ble_eq_true rfl)⟩ cc_X3 rfl rfl (Nat.le_of_ble_eq_true rfl) dX5_init_81 ⟨(Nat.le_of_ble_eq_true rfl), (Nat.le_of_ble_eq_true rfl)⟩ (fun r_q73_4 H locs r_q73_40 hP hD hS => ?_)
  refine c_putFH (fs' := [.ref q5, .ref q17, .ref q57, .ref q66, .ref q73_4, .null, .null, .null, .null, .int 0, .int 0]) X hP hD hS i_X5 tyX5_ok nmX5 rfl 4 (by decide) (X.2.2.2.2.1 _ mw183) rfl rfl hin rfl (tyX5_ok 4 (by decide)) rfl rfl (Nat.le_of_ble_eq_true rfl) rfl dX5_init_84 (fun H locs hP hD hS => ?_)
  refine lv_aload_n hx hb dX5_init_87 rfl (lv_at hl 1 rfl) ?_
  refine c_newH (ci := 3) (fs := [.null, .null, .int 0, .null, .null, .null, .null, .null, .null, .null, .null, .null]) X hP hD hS i_X3 tyX3 tyX3_ok (X.2.2.2.2.1 _ mw176) (X.2.2.2.2.1 _ mw88) (X.2.2.2.2.1 _ mw5) rfl (fun j hj => by rcases (show j = 0 ∨ j = 1 ∨ j = 2 ∨ j = 3 ∨ j = 4 ∨ j = 5 ∨ j = 6 ∨ j = 7 ∨ j = 8 ∨ j = 9 ∨ j = 10 ∨ j = 11 by omega) with rfl | rfl | rfl | rfl | rfl | rfl | rfl | rfl | rfl | rfl | rfl | rfl <;> rfl) (Nat.le_of_ble_eq_true rfl) (Nat.le_of_ble_eq_true rfl) dX5_init_88 (fun q88_4 H hP hD hS => ?_)
  refine lv_dup hx hb dX5_init_91 rfl ?_
  refine lv_aload_n hx hb dX5_init_92 rfl (lv_at hl 1 rfl) ?_
  refine c_getH X hP i_X5 rfl 0 (by decide) (X.2.2.2.2.1 _ mw179) rfl rfl dX5_init_93 ?_
  refine c_callH (g := gX3 cy q5) (As := [.ref q5]) (rest := [.ref q88_4, .ref h0]) X hP hD hS hl.1 (cg_G mw91) (X.2.2.2.2.1 _ mw5) (X.2.2.2.2.1 _ mw177) (X.2.2.2.2.1 _ mw90) rfl hdn_X3_init ⟨rfl, rfl, (Nat.le_of_ble_eq_true rfl), (Nat.le_of_ble_eq_true rfl)⟩ cc_X3 rfl rfl (Nat.le_of_ble_eq_true rfl) dX5_init_96 ⟨(Nat.le_of_ble_eq_true rfl), (Nat.le_of_ble_eq_true rfl)⟩ (fun r_q88_4 H locs r_q88_40 hP hD hS => ?_)
  refine c_putFH (fs' := [.ref q5, .ref q17, .ref q57, .ref q66, .ref q73_4, .ref q88_4, .null, .null, .null, .int 0, .int 0]) X hP hD hS i_X5 tyX5_ok nmX5 rfl 5 (by decide) (X.2.2.2.2.1 _ mw184) rfl rfl hin rfl (tyX5_ok 5 (by decide)) rfl rfl (Nat.le_of_ble_eq_true rfl) rfl dX5_init_99 (fun H locs hP hD hS => ?_)
  refine lv_aload_n hx hb dX5_init_102 rfl (lv_at hl 1 rfl) ?_
  refine c_newH (ci := 0) (fs := [.null, .int 0]) X hP hD hS i_X0 tyX0 tyX0_ok (X.2.2.2.2.1 _ mw174) (X.2.2.2.2.1 _ mw73) (X.2.2.2.2.1 _ mw4) rfl (fun j hj => by rcases (show j = 0 ∨ j = 1 by omega) with rfl | rfl <;> rfl) (Nat.le_of_ble_eq_true rfl) (Nat.le_of_ble_eq_true rfl) dX5_init_103 (fun q103_4 H hP hD hS => ?_)
  refine lv_dup hx hb dX5_init_106 rfl ?_
  refine c_callNH (g := gX0 cy) (As := []) (rest := [.ref q103_4, .ref h0]) X hP hD hS hl.1 (cg_G mw76) (X.2.2.2.2.1 _ mw4) (nm_X5_49 X.2.2.2.2.2.2.2.1) (X.2.2.2.2.1 _ mw75) rfl hdn_X0_init ⟨rfl, rfl, (Nat.le_of_ble_eq_true rfl), (Nat.le_of_ble_eq_true rfl)⟩ cc_X0 rfl rfl (Nat.le_of_ble_eq_true rfl) dX5_init_107 ⟨(Nat.le_of_ble_eq_true rfl), (Nat.le_of_ble_eq_true rfl)⟩ (fun r_q103_4 H locs r_q103_40 hP hD hS => ?_)
  refine c_putFH (fs' := [.ref q5, .ref q17, .ref q57, .ref q66, .ref q73_4, .ref q88_4, .ref q103_4, .null, .null, .int 0, .int 0]) X hP hD hS i_X5 tyX5_ok nmX5 rfl 6 (by decide) (X.2.2.2.2.1 _ mw185) rfl rfl hin rfl (tyX5_ok 6 (by decide)) rfl rfl (Nat.le_of_ble_eq_true rfl) rfl dX5_init_110 (fun H locs hP hD hS => ?_)
  refine lv_aload_n hx hb dX5_init_113 rfl (lv_at hl 1 rfl) ?_
  refine m_sipush (v := 160) hx hb dX5_init_114 (by decide) ?_
  refine c_newaH (atype := .int) (ty := .int) (k := 1) (t0 := 0) (N' := 160) (f0 := (160, .inl (fun _ => 0))) X hP hD hS (X.2.2.2.2.1 _ mw63) rfl rfl (fun cA => rfl) rfl (Nat.le_of_ble_eq_true rfl) (show 160 * 4 ≤ 536870912 from Nat.le_of_ble_eq_true rfl) (Nat.le_of_ble_eq_true rfl) (Nat.le_of_ble_eq_true rfl) dX5_init_117 (fun q117 H hP hD hS => ?_)
  refine c_putFH (fs' := [.ref q5, .ref q17, .ref q57, .ref q66, .ref q73_4, .ref q88_4, .ref q103_4, .ref q117, .null, .int 0, .int 0]) X hP hD hS i_X5 tyX5_ok nmX5 rfl 7 (by decide) (X.2.2.2.2.1 _ mw186) rfl rfl hin rfl (tyX5_ok 7 (by decide)) rfl rfl (Nat.le_of_ble_eq_true rfl) rfl dX5_init_119 (fun H locs hP hD hS => ?_)
  refine lv_aload_n hx hb dX5_init_122 rfl (lv_at hl 1 rfl) ?_
  refine m_sipush (v := 160) hx hb dX5_init_123 (by decide) ?_
  refine c_newaH (atype := .int) (ty := .int) (k := 1) (t0 := 0) (N' := 160) (f0 := (160, .inl (fun _ => 0))) X hP hD hS (X.2.2.2.2.1 _ mw63) rfl rfl (fun cA => rfl) rfl (Nat.le_of_ble_eq_true rfl) (show 160 * 4 ≤ 536870912 from Nat.le_of_ble_eq_true rfl) (Nat.le_of_ble_eq_true rfl) (Nat.le_of_ble_eq_true rfl) dX5_init_126 (fun q126 H hP hD hS => ?_)
  refine c_putFH (fs' := [.ref q5, .ref q17, .ref q57, .ref q66, .ref q73_4, .ref q88_4, .ref q103_4, .ref q117, .ref q126, .int 0, .int 0]) X hP hD hS i_X5 tyX5_ok nmX5 rfl 8 (by decide) (X.2.2.2.2.1 _ mw187) rfl rfl hin rfl (tyX5_ok 8 (by decide)) rfl rfl (Nat.le_of_ble_eq_true rfl) rfl dX5_init_128 (fun H locs hP hD hS => ?_)
  rw [← r_q50] at hP hD
  rw [← r_q73_40] at hP hD
  rw [← r_q88_40] at hP hD
  rw [← r_q103_40] at hP hD
  have hg : gX5 cy (rX5 h0 q17 q57 q66 q117 q126 r_q103_4 r_q5 r_q35 r_q35_1 r_q35_2 r_q35_3 r_q73_4 r_q88_4) = ((h0, .inr (5, [.ref (r_q5 0), .ref q17, .ref q57, .ref q66, .ref (r_q73_4 0), .ref (r_q88_4 0), .ref (r_q103_4 0), .ref q117, .ref q126, .int 0, .int 0])) :: (((((((((([] ++ gX1 cy r_q5) ++ [(q17, .inl (cy 4, 4, .inr (.inr (.inr (.inr (va_up (va_up (va_up (va_up (fun _ => none) 0 (some (r_q35 0))) 1 (some (r_q35_1 0))) 2 (some (r_q35_2 0))) 3 (some (r_q35_3 0))))))))]) ++ (((([] ++ gX4 cy (r_q5 0) 0 r_q35) ++ gX4 cy (r_q5 0) 1 r_q35_1) ++ gX4 cy (r_q5 0) 2 r_q35_2) ++ gX4 cy (r_q5 0) 3 r_q35_3)) ++ [(q57, .inl (cy 5, 80, .inr (.inr (.inr (.inr (fun _ => none))))))]) ++ [(q66, .inl (cy 6, 10, .inr (.inr (.inr (.inr (fun _ => none))))))]) ++ gX3 cy (r_q5 0) r_q73_4) ++ gX3 cy (r_q5 0) r_q88_4) ++ gX0 cy r_q103_4) ++ [(q117, .inl (cy 1, 160, .inl (fun _ => 0)))]) ++ [(q126, .inl (cy 1, 160, .inl (fun _ => 0)))])) := by
    have u0 : gX1 cy (fun k => (rX5 h0 q17 q57 q66 q117 q126 r_q103_4 r_q5 r_q35 r_q35_1 r_q35_2 r_q35_3 r_q73_4 r_q88_4) (8 + k)) = gX1 cy r_q5 := gX1_congr (fun k hk => rX5_b1 k (Nat.lt_of_lt_of_le hk (by decide)))
    have u1 : gX0 cy (fun k => (rX5 h0 q17 q57 q66 q117 q126 r_q103_4 r_q5 r_q35 r_q35_1 r_q35_2 r_q35_3 r_q73_4 r_q88_4) (6 + k)) = gX0 cy r_q103_4 := gX0_congr (fun k hk => rX5_b0 k (Nat.lt_of_lt_of_le hk (by decide)))
    have u2 : gX4 cy (r_q5 0) 0 (fun k => (rX5 h0 q17 q57 q66 q117 q126 r_q103_4 r_q5 r_q35 r_q35_1 r_q35_2 r_q35_3 r_q73_4 r_q88_4) (20 + k)) = gX4 cy (r_q5 0) 0 r_q35 := gX4_congr (fun k hk => rX5_s0 k (Nat.lt_of_lt_of_le hk (by decide)))
    have u3 : gX4 cy (r_q5 0) 1 (fun k => (rX5 h0 q17 q57 q66 q117 q126 r_q103_4 r_q5 r_q35 r_q35_1 r_q35_2 r_q35_3 r_q73_4 r_q88_4) (60 + k)) = gX4 cy (r_q5 0) 1 r_q35_1 := gX4_congr (fun k hk => rX5_s1 k (Nat.lt_of_lt_of_le hk (by decide)))
    have u4 : gX4 cy (r_q5 0) 2 (fun k => (rX5 h0 q17 q57 q66 q117 q126 r_q103_4 r_q5 r_q35 r_q35_1 r_q35_2 r_q35_3 r_q73_4 r_q88_4) (100 + k)) = gX4 cy (r_q5 0) 2 r_q35_2 := gX4_congr (fun k hk => rX5_s2 k (Nat.lt_of_lt_of_le hk (by decide)))
    have u5 : gX4 cy (r_q5 0) 3 (fun k => (rX5 h0 q17 q57 q66 q117 q126 r_q103_4 r_q5 r_q35 r_q35_1 r_q35_2 r_q35_3 r_q73_4 r_q88_4) (140 + k)) = gX4 cy (r_q5 0) 3 r_q35_3 := gX4_congr (fun k hk => rX5_s3 k (Nat.lt_of_lt_of_le hk (by decide)))
    have u6 : gX3 cy (r_q5 0) (fun k => (rX5 h0 q17 q57 q66 q117 q126 r_q103_4 r_q5 r_q35 r_q35_1 r_q35_2 r_q35_3 r_q73_4 r_q88_4) (180 + k)) = gX3 cy (r_q5 0) r_q73_4 := gX3_congr (fun k hk => rX5_p1 k (Nat.lt_of_lt_of_le hk (by decide)))
    have u7 : gX3 cy (r_q5 0) (fun k => (rX5 h0 q17 q57 q66 q117 q126 r_q103_4 r_q5 r_q35 r_q35_1 r_q35_2 r_q35_3 r_q73_4 r_q88_4) (200 + k)) = gX3 cy (r_q5 0) r_q88_4 := gX3_congr (fun k hk => rX5_p2 k (Nat.lt_of_lt_of_le hk (by decide)))
    rw [← u0, ← u1, ← u2, ← u3, ← u4, ← u5, ← u6, ← u7]
    rfl
  exact c_vret (rX5 h0 q17 q57 q66 q117 q126 r_q103_4 r_q5 r_q35 r_q35_1 r_q35_2 r_q35_3 r_q73_4 r_q88_4) rfl X hr hlocks hP hD hS hg (Nat.le_of_ble_eq_true rfl) (Nat.le_of_ble_eq_true rfl) hQ dX5_init_131
