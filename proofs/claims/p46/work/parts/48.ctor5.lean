theorem hdn_X0_init : yX0_init.cls ≠ "java/lang/invoke/MethodHandle" ∧ yX0_init.cls ≠ "java/lang/invoke/VarHandle" ∧ (parseMethodDescriptor yX0_init.desc).map (fun d => d.parameters.length) = some 0 := by decide +kernel
theorem hdn_X3_init : yX3_init.cls ≠ "java/lang/invoke/MethodHandle" ∧ yX3_init.cls ≠ "java/lang/invoke/VarHandle" ∧ (parseMethodDescriptor yX3_init.desc).map (fun d => d.parameters.length) = some 1 := by decide +kernel
set_option maxRecDepth 100000 in
set_option maxHeartbeats 8000000 in
theorem cc_X4 {l : Launch} {D : va_G} {cy : Nat → ClassId} {sz h0 : Nat} {x1 : Int} {bk : Nat} : CC l yX4_init cX4_init 3 ({ frames := 2, cells := 19, slots := 2428, locals := 34 } : Room) [.ref h0, .int (i32 x1), .ref bk] D cy sz h0 (.inr (4, [.int 0, .null, .null, .null, .null, .int 0, .int 0, .int 0, .int 0, .int 0])) (gX4 cy bk x1) 19 2428 := by
  refine c_entry RX4 rfl rfl (by decide +kernel) (Nat.le_of_ble_eq_true rfl) ?_
  intro p e s m args below meth c A Q hA0 hQ hr hlocks hin X hP hD hS ls hl
  have hx := X.1
  have hb := X.2.1
  have hl : lv_has ls 3 [(0, .ref h0), (1, .int (i32 x1)), (2, .ref bk)] := hl
  refine lv_aload_n hx hb dX4_init_0 rfl (lv_at hl 0 rfl) ?_
  refine c_objInit (rest := []) X hl.1 (X.2.2.2.2.1 _ mw71) (X.2.2.2.2.1 _ mw21) (X.2.2.2.2.1 _ mw22) dX4_init_1 (Nat.le_of_ble_eq_true rfl) (Nat.le_of_ble_eq_true rfl) ?_
  refine lv_aload_n hx hb dX4_init_4 rfl (lv_at hl 0 rfl) ?_
  refine c_newH (ci := 0) (fs := [.null, .int 0]) X hP hD hS i_X0 tyX0 tyX0_ok (X.2.2.2.2.1 _ mw72) (X.2.2.2.2.1 _ mw73) (X.2.2.2.2.1 _ mw4) rfl (fun j hj => by rcases (show j = 0 ∨ j = 1 by omega) with rfl | rfl <;> rfl) (Nat.le_of_ble_eq_true rfl) (Nat.le_of_ble_eq_true rfl) dX4_init_5 (fun q5 H hP hD hS => ?_)
  refine lv_dup hx hb dX4_init_8 rfl ?_
  refine c_callNH (g := gX0 cy) (As := []) (rest := [.ref q5, .ref h0]) X hP hD hS hl.1 (cg_G mw76) (X.2.2.2.2.1 _ mw4) (nm_X4_11 X.2.2.2.2.2.2.2.1) (X.2.2.2.2.1 _ mw75) rfl hdn_X0_init ⟨rfl, rfl, (Nat.le_of_ble_eq_true rfl), (Nat.le_of_ble_eq_true rfl)⟩ cc_X0 rfl rfl (Nat.le_of_ble_eq_true rfl) dX4_init_9 ⟨(Nat.le_of_ble_eq_true rfl), (Nat.le_of_ble_eq_true rfl)⟩ (fun r_q5 H locs r_q50 hP hD hS => ?_)
  refine c_putFH (fs' := [.int 0, .ref q5, .null, .null, .null, .int 0, .int 0, .int 0, .int 0, .int 0]) X hP hD hS i_X4 tyX4_ok nmX4 rfl 1 (by decide) (X.2.2.2.2.1 _ mw134) rfl rfl hin rfl (tyX4_ok 1 (by decide)) rfl rfl (Nat.le_of_ble_eq_true rfl) rfl dX4_init_12 (fun H locs hP hD hS => ?_)
  refine lv_aload_n hx hb dX4_init_15 rfl (lv_at hl 0 rfl) ?_
  refine m_sipush (v := 160) hx hb dX4_init_16 (by decide) ?_
  refine c_newaH (atype := .int) (ty := .int) (k := 1) (t0 := 0) (N' := 160) (f0 := (160, .inl (fun _ => 0))) X hP hD hS (X.2.2.2.2.1 _ mw63) rfl rfl (fun cA => rfl) rfl (Nat.le_of_ble_eq_true rfl) (show 160 * 4 ≤ 536870912 from Nat.le_of_ble_eq_true rfl) (Nat.le_of_ble_eq_true rfl) (Nat.le_of_ble_eq_true rfl) dX4_init_19 (fun q19 H hP hD hS => ?_)
  refine c_putFH (fs' := [.int 0, .ref q5, .ref q19, .null, .null, .int 0, .int 0, .int 0, .int 0, .int 0]) X hP hD hS i_X4 tyX4_ok nmX4 rfl 2 (by decide) (X.2.2.2.2.1 _ mw137) rfl rfl hin rfl (tyX4_ok 2 (by decide)) rfl rfl (Nat.le_of_ble_eq_true rfl) rfl dX4_init_21 (fun H locs hP hD hS => ?_)
  refine lv_aload_n hx hb dX4_init_24 rfl (lv_at hl 0 rfl) ?_
  refine m_const (v := 4) hx hb dX4_init_25 rfl ?_
  refine c_newaH (atype := .int) (ty := .int) (k := 1) (t0 := 0) (N' := 4) (f0 := (4, .inl (fun _ => 0))) X hP hD hS (X.2.2.2.2.1 _ mw63) rfl rfl (fun cA => rfl) rfl (Nat.le_of_ble_eq_true rfl) (show 4 * 4 ≤ 536870912 from Nat.le_of_ble_eq_true rfl) (Nat.le_of_ble_eq_true rfl) (Nat.le_of_ble_eq_true rfl) dX4_init_26 (fun q26 H hP hD hS => ?_)
  refine c_putFH (fs' := [.int 0, .ref q5, .ref q19, .ref q26, .null, .int 0, .int 0, .int 0, .int 0, .int 0]) X hP hD hS i_X4 tyX4_ok nmX4 rfl 3 (by decide) (X.2.2.2.2.1 _ mw138) rfl rfl hin rfl (tyX4_ok 3 (by decide)) rfl rfl (Nat.le_of_ble_eq_true rfl) rfl dX4_init_28 (fun H locs hP hD hS => ?_)
  refine lv_aload_n hx hb dX4_init_31 rfl (lv_at hl 0 rfl) ?_
  refine m_const (v := 1) hx hb dX4_init_32 rfl ?_
  refine c_putH (fs' := [.int 0, .ref q5, .ref q19, .ref q26, .null, .int (i32 1), .int 0, .int 0, .int 0, .int 0]) X hP hD hS i_X4 tyX4_ok nmX4 rfl 5 (by decide) (X.2.2.2.2.1 _ mw142) rfl rfl (tyX4_ok 5 (by decide)) (nar_b (Or.inr rfl)).1 (nar_b (Or.inr rfl)).2 (Nat.le_of_ble_eq_true rfl) rfl dX4_init_33 (fun H locs hP hD hS => ?_)
  refine lv_aload_n hx hb dX4_init_36 rfl (lv_at hl 0 rfl) ?_
  refine m_const (v := (-1)) hx hb dX4_init_37 rfl ?_
  refine c_putH (fs' := [.int 0, .ref q5, .ref q19, .ref q26, .null, .int (i32 1), .int 0, .int 0, .int (i32 (-1)), .int 0]) X hP hD hS i_X4 tyX4_ok nmX4 rfl 8 (by decide) (X.2.2.2.2.1 _ mw147) rfl rfl (tyX4_ok 8 (by decide)) rfl rfl (Nat.le_of_ble_eq_true rfl) rfl dX4_init_38 (fun H locs hP hD hS => ?_)
  refine lv_aload_n hx hb dX4_init_41 rfl (lv_at hl 0 rfl) ?_
  refine m_const (v := (-1)) hx hb dX4_init_42 rfl ?_
  refine c_putH (fs' := [.int 0, .ref q5, .ref q19, .ref q26, .null, .int (i32 1), .int 0, .int 0, .int (i32 (-1)), .int (i32 (-1))]) X hP hD hS i_X4 tyX4_ok nmX4 rfl 9 (by decide) (X.2.2.2.2.1 _ mw149) rfl rfl (tyX4_ok 9 (by decide)) rfl rfl (Nat.le_of_ble_eq_true rfl) rfl dX4_init_43 (fun H locs hP hD hS => ?_)
  refine lv_aload_n hx hb dX4_init_46 rfl (lv_at hl 0 rfl) ?_
  refine lv_iload_n hx hb dX4_init_47 rfl (lv_at hl 1 rfl) ?_
  refine c_putFH (fs' := [.int (i32 x1), .ref q5, .ref q19, .ref q26, .null, .int (i32 1), .int 0, .int 0, .int (i32 (-1)), .int (i32 (-1))]) X hP hD hS i_X4 tyX4_ok nmX4 rfl 0 (by decide) (X.2.2.2.2.1 _ mw132) rfl rfl hin rfl (tyX4_ok 0 (by decide)) rfl rfl (Nat.le_of_ble_eq_true rfl) rfl dX4_init_48 (fun H locs hP hD hS => ?_)
  refine lv_aload_n hx hb dX4_init_51 rfl (lv_at hl 0 rfl) ?_
  refine c_newH (ci := 3) (fs := [.null, .null, .int 0, .null, .null, .null, .null, .null, .null, .null, .null, .null]) X hP hD hS i_X3 tyX3 tyX3_ok (X.2.2.2.2.1 _ mw87) (X.2.2.2.2.1 _ mw88) (X.2.2.2.2.1 _ mw5) rfl (fun j hj => by rcases (show j = 0 ∨ j = 1 ∨ j = 2 ∨ j = 3 ∨ j = 4 ∨ j = 5 ∨ j = 6 ∨ j = 7 ∨ j = 8 ∨ j = 9 ∨ j = 10 ∨ j = 11 by omega) with rfl | rfl | rfl | rfl | rfl | rfl | rfl | rfl | rfl | rfl | rfl | rfl <;> rfl) (Nat.le_of_ble_eq_true rfl) (Nat.le_of_ble_eq_true rfl) dX4_init_52 (fun q52 H hP hD hS => ?_)
  refine lv_dup hx hb dX4_init_55 rfl ?_
  refine lv_aload_n hx hb dX4_init_56 rfl (lv_at hl 2 rfl) ?_
  refine c_callH (g := gX3 cy bk) (As := [.ref bk]) (rest := [.ref q52, .ref h0]) X hP hD hS hl.1 (cg_G mw91) (X.2.2.2.2.1 _ mw5) (X.2.2.2.2.1 _ mw89) (X.2.2.2.2.1 _ mw90) rfl hdn_X3_init ⟨rfl, rfl, (Nat.le_of_ble_eq_true rfl), (Nat.le_of_ble_eq_true rfl)⟩ cc_X3 rfl rfl (Nat.le_of_ble_eq_true rfl) dX4_init_57 ⟨(Nat.le_of_ble_eq_true rfl), (Nat.le_of_ble_eq_true rfl)⟩ (fun r_q52 H locs r_q520 hP hD hS => ?_)
  refine c_putFH (fs' := [.int (i32 x1), .ref q5, .ref q19, .ref q26, .ref q52, .int (i32 1), .int 0, .int 0, .int (i32 (-1)), .int (i32 (-1))]) X hP hD hS i_X4 tyX4_ok nmX4 rfl 4 (by decide) (X.2.2.2.2.1 _ mw140) rfl rfl hin rfl (tyX4_ok 4 (by decide)) rfl rfl (Nat.le_of_ble_eq_true rfl) rfl dX4_init_60 (fun H locs hP hD hS => ?_)
  subst r_q50
  subst r_q520
  have e3 : gX3 cy bk (fun k => (fun k => if 10 ≤ k then r_q52 (k - 10) else if 3 ≤ k then (if 4 ≤ k then q26 else q19) else if 1 ≤ k then r_q5 (k - 1) else h0) (10 + k)) = gX3 cy bk r_q52 := congrArg (gX3 cy bk) (funext fun k => (if_pos (Nat.le_add_right 10 k)).trans (congrArg r_q52 (Nat.add_sub_cancel_left 10 k)))
  have hg : gX4 cy bk x1 (fun k => if 10 ≤ k then r_q52 (k - 10) else if 3 ≤ k then (if 4 ≤ k then q26 else q19) else if 1 ≤ k then r_q5 (k - 1) else h0) = ((h0, .inr (4, [.int (i32 x1), .ref (r_q5 0), .ref q19, .ref q26, .ref (r_q52 0), .int (i32 1), .int 0, .int 0, .int (i32 (-1)), .int (i32 (-1))])) :: (((([] ++ gX0 cy r_q5) ++ [(q19, .inl (cy 1, 160, .inl (fun _ => 0)))]) ++ [(q26, .inl (cy 1, 4, .inl (fun _ => 0)))]) ++ gX3 cy bk r_q52)) := (congrArg (fun Z : va_W => ([(h0, .inr (4, [.int (i32 x1), .ref (r_q5 0), .ref q19, .ref q26, .ref (r_q52 0), .int (i32 1), .int 0, .int 0, .int (i32 (-1)), .int (i32 (-1))]))] ++ gX0 cy (fun k => (fun k => if 10 ≤ k then r_q52 (k - 10) else if 3 ≤ k then (if 4 ≤ k then q26 else q19) else if 1 ≤ k then r_q5 (k - 1) else h0) (1 + k)) ++ [(q19, .inl (cy 1, 160, .inl (fun _ => 0)))] ++ [(q26, .inl (cy 1, 4, .inl (fun _ => 0)))]) ++ Z) e3).trans rfl
  exact c_vret (fun k => if 10 ≤ k then r_q52 (k - 10) else if 3 ≤ k then (if 4 ≤ k then q26 else q19) else if 1 ≤ k then r_q5 (k - 1) else h0) rfl X hr hlocks hP hD hS hg (Nat.le_of_ble_eq_true rfl) (Nat.le_of_ble_eq_true rfl) hQ dX4_init_63
