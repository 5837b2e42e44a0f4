def gX0 (cy : Nat → ClassId) (r : Nat → Nat) : va_W := [(r 0, .inr (0, [.ref (r 1), .int 0])), (r 1, .inl (cy 2, 160, .inl (fun _ => 0)))]
def gX1 (cy : Nat → ClassId) (r : Nat → Nat) : va_W := [(r 0, .inr (1, [.ref (r 1), .ref (r 2), .ref (r 3), .ref (r 4), .ref (r 5), .ref (r 6), .ref (r 7), .ref (r 8), .int 0, .int 0])), (r 1, .inl (cy 1, 160, .inl (fun _ => 0))), (r 2, .inl (cy 1, 160, .inl (fun _ => 0))), (r 3, .inl (cy 1, 160, .inl (fun _ => 0))), (r 4, .inl (cy 1, 160, .inl (fun _ => 0))), (r 5, .inl (cy 1, 160, .inl (fun _ => 0))), (r 6, .inl (cy 1, 160, .inl (fun _ => 0))), (r 7, .inl (cy 2, 160, .inl (fun _ => 0))), (r 8, .inl (cy 1, 160, .inl (fun _ => 0)))]
def gX3 (cy : Nat → ClassId) (bk : Nat) (r : Nat → Nat) : va_W := [(r 0, .inr (3, [.ref bk, .ref (r 2), .int 0, .ref (r 4), .ref (r 5), .ref (r 6), .ref (r 7), .ref (r 8), .ref (r 9), .ref (r 10), .ref (r 11), .ref (r 12)])), (r 2, .inl (cy 1, 160, .inl (fun _ => 0))), (r 4, .inl (cy 1, 160, .inl (fun _ => 0))), (r 5, .inl (cy 2, 160, .inl (fun _ => 0))), (r 6, .inl (cy 2, 160, .inl (fun _ => 0))), (r 7, .inl (cy 1, 160, .inl (fun _ => 0))), (r 8, .inl (cy 2, 160, .inl (fun _ => 0))), (r 9, .inl (cy 2, 160, .inl (fun _ => 0))), (r 10, .inl (cy 1, 161, .inl (fun _ => 0))), (r 11, .inl (cy 1, 161, .inl (fun j => if j < 161 then i32 (-2) else 0))), (r 12, .inl (cy 7, 4, .inr (.inr (.inr (.inr (fun i => if i < 4 then some (r (13 + i)) else none)))))), (r (13 + 0), .inl (cy 1, 161, .inl (fun _ => 0))), (r (13 + 1), .inl (cy 1, 161, .inl (fun _ => 0))), (r (13 + 2), .inl (cy 1, 161, .inl (fun _ => 0))), (r (13 + 3), .inl (cy 1, 161, .inl (fun _ => 0)))]
def gX4 (cy : Nat → ClassId) (bk : Nat) (x1 : Int) (r : Nat → Nat) : va_W := [(r 0, .inr (4, [.int (i32 x1), .ref (r 1), .ref (r 3), .ref (r 4), .ref (r 10), .int (i32 1), .int 0, .int 0, .int (i32 (-1)), .int (i32 (-1))]))] ++ gX0 cy (fun k => r (1 + k)) ++ [(r 3, .inl (cy 1, 160, .inl (fun _ => 0)))] ++ [(r 4, .inl (cy 1, 4, .inl (fun _ => 0)))] ++ gX3 cy bk (fun k => r (10 + k))
set_option maxRecDepth 100000 in
set_option maxHeartbeats 8000000 in
theorem cc_X0 {l : Launch} {D : va_G} {cy : Nat → ClassId} {sz h0 : Nat} : CC l yX0_init cX0_init 1 ({ frames := 1, cells := 1, slots := 160, locals := 12 } : Room) [.ref h0] D cy sz h0 (.inr (0, [.null, .int 0])) (gX0 cy) 1 160 := by
  refine c_entry RX0 rfl rfl (by decide +kernel) (Nat.le_of_ble_eq_true rfl) ?_
  intro p e s m args below meth c A Q hA0 hQ hr hlocks hin X hP hD hS ls hl
  have hx := X.1
  have hb := X.2.1
  have hl : lv_has ls 1 [(0, .ref h0)] := hl
  refine lv_aload_n hx hb dX0_init_0 rfl (lv_at hl 0 rfl) ?_
  refine c_objInit (rest := []) X hl.1 (X.2.2.2.2.1 _ mw77) (X.2.2.2.2.1 _ mw21) (X.2.2.2.2.1 _ mw22) dX0_init_1 (Nat.le_of_ble_eq_true rfl) (Nat.le_of_ble_eq_true rfl) ?_
  refine lv_aload_n hx hb dX0_init_4 rfl (lv_at hl 0 rfl) ?_
  refine m_sipush (v := 160) hx hb dX0_init_5 (by decide) ?_
  refine c_newaH (atype := .boolean) (ty := .boolean) (k := 2) (t0 := 1) (N' := 160) (f0 := (160, .inl (fun _ => 0))) X hP hD hS (X.2.2.2.2.1 _ mw64) rfl rfl (fun cA => rfl) rfl (Nat.le_of_ble_eq_true rfl) (show 160 * 1 ≤ 536870912 from Nat.le_of_ble_eq_true rfl) (Nat.le_of_ble_eq_true rfl) (Nat.le_of_ble_eq_true rfl) dX0_init_8 (fun q8 H hP hD hS => ?_)
  refine c_putFH (fs' := [.ref q8, .int 0]) X hP hD hS i_X0 tyX0_ok nmX0 rfl 0 (by decide) (X.2.2.2.2.1 _ mw78) rfl rfl hin rfl (tyX0_ok 0 (by decide)) rfl rfl (Nat.le_of_ble_eq_true rfl) rfl dX0_init_10 (fun H locs hP hD hS => ?_)
  exact c_vret (fun k => (if k < 1 then h0 else q8)) rfl X hr hlocks hP hD hS rfl (Nat.le_of_ble_eq_true rfl) (Nat.le_of_ble_eq_true rfl) hQ dX0_init_13
set_option maxRecDepth 100000 in
set_option maxHeartbeats 8000000 in
theorem cc_X1 {l : Launch} {D : va_G} {cy : Nat → ClassId} {sz h0 : Nat} : CC l yX1_init cX1_init 1 ({ frames := 1, cells := 8, slots := 1280, locals := 12 } : Room) [.ref h0] D cy sz h0 (.inr (1, [.null, .null, .null, .null, .null, .null, .null, .null, .int 0, .int 0])) (gX1 cy) 8 1280 := by
  refine c_entry RX1 rfl rfl (by decide +kernel) (Nat.le_of_ble_eq_true rfl) ?_
  intro p e s m args below meth c A Q hA0 hQ hr hlocks hin X hP hD hS ls hl
  have hx := X.1
  have hb := X.2.1
  have hl : lv_has ls 1 [(0, .ref h0)] := hl
  refine lv_aload_n hx hb dX1_init_0 rfl (lv_at hl 0 rfl) ?_
  refine c_objInit (rest := []) X hl.1 (X.2.2.2.2.1 _ mw28) (X.2.2.2.2.1 _ mw21) (X.2.2.2.2.1 _ mw22) dX1_init_1 (Nat.le_of_ble_eq_true rfl) (Nat.le_of_ble_eq_true rfl) ?_
  refine lv_aload_n hx hb dX1_init_4 rfl (lv_at hl 0 rfl) ?_
  refine m_sipush (v := 160) hx hb dX1_init_5 (by decide) ?_
  refine c_newaH (atype := .int) (ty := .int) (k := 1) (t0 := 0) (N' := 160) (f0 := (160, .inl (fun _ => 0))) X hP hD hS (X.2.2.2.2.1 _ mw63) rfl rfl (fun cA => rfl) rfl (Nat.le_of_ble_eq_true rfl) (show 160 * 4 ≤ 536870912 from Nat.le_of_ble_eq_true rfl) (Nat.le_of_ble_eq_true rfl) (Nat.le_of_ble_eq_true rfl) dX1_init_8 (fun q8 H hP hD hS => ?_)
  refine c_putFH (fs' := [.ref q8, .null, .null, .null, .null, .null, .null, .null, .int 0, .int 0]) X hP hD hS i_X1 tyX1_ok nmX1 rfl 0 (by decide) (X.2.2.2.2.1 _ mw29) rfl rfl hin rfl (tyX1_ok 0 (by decide)) rfl rfl (Nat.le_of_ble_eq_true rfl) rfl dX1_init_10 (fun H locs hP hD hS => ?_)
  refine lv_aload_n hx hb dX1_init_13 rfl (lv_at hl 0 rfl) ?_
  refine m_sipush (v := 160) hx hb dX1_init_14 (by decide) ?_
  refine c_newaH (atype := .int) (ty := .int) (k := 1) (t0 := 0) (N' := 160) (f0 := (160, .inl (fun _ => 0))) X hP hD hS (X.2.2.2.2.1 _ mw63) rfl rfl (fun cA => rfl) rfl (Nat.le_of_ble_eq_true rfl) (show 160 * 4 ≤ 536870912 from Nat.le_of_ble_eq_true rfl) (Nat.le_of_ble_eq_true rfl) (Nat.le_of_ble_eq_true rfl) dX1_init_17 (fun q17 H hP hD hS => ?_)
  refine c_putFH (fs' := [.ref q8, .ref q17, .null, .null, .null, .null, .null, .null, .int 0, .int 0]) X hP hD hS i_X1 tyX1_ok nmX1 rfl 1 (by decide) (X.2.2.2.2.1 _ mw30) rfl rfl hin rfl (tyX1_ok 1 (by decide)) rfl rfl (Nat.le_of_ble_eq_true rfl) rfl dX1_init_19 (fun H locs hP hD hS => ?_)
  refine lv_aload_n hx hb dX1_init_22 rfl (lv_at hl 0 rfl) ?_
  refine m_sipush (v := 160) hx hb dX1_init_23 (by decide) ?_
  refine c_newaH (atype := .int) (ty := .int) (k := 1) (t0 := 0) (N' := 160) (f0 := (160, .inl (fun _ => 0))) X hP hD hS (X.2.2.2.2.1 _ mw63) rfl rfl (fun cA => rfl) rfl (Nat.le_of_ble_eq_true rfl) (show 160 * 4 ≤ 536870912 from Nat.le_of_ble_eq_true rfl) (Nat.le_of_ble_eq_true rfl) (Nat.le_of_ble_eq_true rfl) dX1_init_26 (fun q26 H hP hD hS => ?_)
  refine c_putFH (fs' := [.ref q8, .ref q17, .ref q26, .null, .null, .null, .null, .null, .int 0, .int 0]) X hP hD hS i_X1 tyX1_ok nmX1 rfl 2 (by decide) (X.2.2.2.2.1 _ mw31) rfl rfl hin rfl (tyX1_ok 2 (by decide)) rfl rfl (Nat.le_of_ble_eq_true rfl) rfl dX1_init_28 (fun H locs hP hD hS => ?_)
  refine lv_aload_n hx hb dX1_init_31 rfl (lv_at hl 0 rfl) ?_
  refine m_sipush (v := 160) hx hb dX1_init_32 (by decide) ?_
  refine c_newaH (atype := .int) (ty := .int) (k := 1) (t0 := 0) (N' := 160) (f0 := (160, .inl (fun _ => 0))) X hP hD hS (X.2.2.2.2.1 _ mw63) rfl rfl (fun cA => rfl) rfl (Nat.le_of_ble_eq_true rfl) (show 160 * 4 ≤ 536870912 from Nat.le_of_ble_eq_true rfl) (Nat.le_of_ble_eq_true rfl) (Nat.le_of_ble_eq_true rfl) dX1_init_35 (fun q35 H hP hD hS => ?_)
  refine c_putFH (fs' := [.ref q8, .ref q17, .ref q26, .ref q35, .null, .null, .null, .null, .int 0, .int 0]) X hP hD hS i_X1 tyX1_ok nmX1 rfl 3 (by decide) (X.2.2.2.2.1 _ mw32) rfl rfl hin rfl (tyX1_ok 3 (by decide)) rfl rfl (Nat.le_of_ble_eq_true rfl) rfl dX1_init_37 (fun H locs hP hD hS => ?_)
  refine lv_aload_n hx hb dX1_init_40 rfl (lv_at hl 0 rfl) ?_
  refine m_sipush (v := 160) hx hb dX1_init_41 (by decide) ?_
  refine c_newaH (atype := .int) (ty := .int) (k := 1) (t0 := 0) (N' := 160) (f0 := (160, .inl (fun _ => 0))) X hP hD hS (X.2.2.2.2.1 _ mw63) rfl rfl (fun cA => rfl) rfl (Nat.le_of_ble_eq_true rfl) (show 160 * 4 ≤ 536870912 from Nat.le_of_ble_eq_true rfl) (Nat.le_of_ble_eq_true rfl) (Nat.le_of_ble_eq_true rfl) dX1_init_44 (fun q44 H hP hD hS => ?_)
  refine c_putFH (fs' := [.ref q8, .ref q17, .ref q26, .ref q35, .ref q44, .null, .null, .null, .int 0, .int 0]) X hP hD hS i_X1 tyX1_ok nmX1 rfl 4 (by decide) (X.2.2.2.2.1 _ mw33) rfl rfl hin rfl (tyX1_ok 4 (by decide)) rfl rfl (Nat.le_of_ble_eq_true rfl) rfl dX1_init_46 (fun H locs hP hD hS => ?_)
  refine lv_aload_n hx hb dX1_init_49 rfl (lv_at hl 0 rfl) ?_
  refine m_sipush (v := 160) hx hb dX1_init_50 (by decide) ?_
  refine c_newaH (atype := .int) (ty := .int) (k := 1) (t0 := 0) (N' := 160) (f0 := (160, .inl (fun _ => 0))) X hP hD hS (X.2.2.2.2.1 _ mw63) rfl rfl (fun cA => rfl) rfl (Nat.le_of_ble_eq_true rfl) (show 160 * 4 ≤ 536870912 from Nat.le_of_ble_eq_true rfl) (Nat.le_of_ble_eq_true rfl) (Nat.le_of_ble_eq_true rfl) dX1_init_53 (fun q53 H hP hD hS => ?_)
  refine c_putFH (fs' := [.ref q8, .ref q17, .ref q26, .ref q35, .ref q44, .ref q53, .null, .null, .int 0, .int 0]) X hP hD hS i_X1 tyX1_ok nmX1 rfl 5 (by decide) (X.2.2.2.2.1 _ mw34) rfl rfl hin rfl (tyX1_ok 5 (by decide)) rfl rfl (Nat.le_of_ble_eq_true rfl) rfl dX1_init_55 (fun H locs hP hD hS => ?_)
  refine lv_aload_n hx hb dX1_init_58 rfl (lv_at hl 0 rfl) ?_
  refine m_sipush (v := 160) hx hb dX1_init_59 (by decide) ?_
  refine c_newaH (atype := .boolean) (ty := .boolean) (k := 2) (t0 := 1) (N' := 160) (f0 := (160, .inl (fun _ => 0))) X hP hD hS (X.2.2.2.2.1 _ mw64) rfl rfl (fun cA => rfl) rfl (Nat.le_of_ble_eq_true rfl) (show 160 * 1 ≤ 536870912 from Nat.le_of_ble_eq_true rfl) (Nat.le_of_ble_eq_true rfl) (Nat.le_of_ble_eq_true rfl) dX1_init_62 (fun q62 H hP hD hS => ?_)
  refine c_putFH (fs' := [.ref q8, .ref q17, .ref q26, .ref q35, .ref q44, .ref q53, .ref q62, .null, .int 0, .int 0]) X hP hD hS i_X1 tyX1_ok nmX1 rfl 6 (by decide) (X.2.2.2.2.1 _ mw35) rfl rfl hin rfl (tyX1_ok 6 (by decide)) rfl rfl (Nat.le_of_ble_eq_true rfl) rfl dX1_init_64 (fun H locs hP hD hS => ?_)
  refine lv_aload_n hx hb dX1_init_67 rfl (lv_at hl 0 rfl) ?_
  refine m_sipush (v := 160) hx hb dX1_init_68 (by decide) ?_
  refine c_newaH (atype := .int) (ty := .int) (k := 1) (t0 := 0) (N' := 160) (f0 := (160, .inl (fun _ => 0))) X hP hD hS (X.2.2.2.2.1 _ mw63) rfl rfl (fun cA => rfl) rfl (Nat.le_of_ble_eq_true rfl) (show 160 * 4 ≤ 536870912 from Nat.le_of_ble_eq_true rfl) (Nat.le_of_ble_eq_true rfl) (Nat.le_of_ble_eq_true rfl) dX1_init_71 (fun q71 H hP hD hS => ?_)
  refine c_putFH (fs' := [.ref q8, .ref q17, .ref q26, .ref q35, .ref q44, .ref q53, .ref q62, .ref q71, .int 0, .int 0]) X hP hD hS i_X1 tyX1_ok nmX1 rfl 7 (by decide) (X.2.2.2.2.1 _ mw36) rfl rfl hin rfl (tyX1_ok 7 (by decide)) rfl rfl (Nat.le_of_ble_eq_true rfl) rfl dX1_init_73 (fun H locs hP hD hS => ?_)
  exact c_vret (fun k => (if k < 4 then (if k < 2 then (if k < 1 then h0 else q8) else (if k < 3 then q17 else q26)) else (if k < 6 then (if k < 5 then q35 else q44) else (if k < 7 then q53 else (if k < 8 then q62 else q71))))) rfl X hr hlocks hP hD hS rfl (Nat.le_of_ble_eq_true rfl) (Nat.le_of_ble_eq_true rfl) hQ dX1_init_76
