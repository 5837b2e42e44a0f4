set_option maxRecDepth 100000 in
set_option maxHeartbeats 8000000 in
theorem cc_X3 {l : Launch} {D : va_G} {cy : Nat → ClassId} {sz h0 : Nat} {bk : Nat} : CC l yX3_init cX3_init 3 ({ frames := 1, cells := 14, slots := 2090, locals := 12 } : Room) [.ref h0, .ref bk] D cy sz h0 (.inr (3, [.null, .null, .int 0, .null, .null, .null, .null, .null, .null, .null, .null, .null])) (gX3 cy bk) 14 2090 := by
  refine c_entry RX3 rfl rfl (by decide +kernel) (Nat.le_of_ble_eq_true rfl) ?_
  intro p e s m args below meth c A Q hA0 hQ hr hlocks hin X hP hD hS ls hl
  have hx := X.1
  have hb := X.2.1
  have hl : lv_has ls 3 [(0, .ref h0), (1, .ref bk)] := hl
  refine lv_aload_n hx hb dX3_init_0 rfl (lv_at hl 0 rfl) ?_
  refine c_objInit (rest := []) X hl.1 (X.2.2.2.2.1 _ mw92) (X.2.2.2.2.1 _ mw21) (X.2.2.2.2.1 _ mw22) dX3_init_1 (Nat.le_of_ble_eq_true rfl) (Nat.le_of_ble_eq_true rfl) ?_
  refine lv_aload_n hx hb dX3_init_4 rfl (lv_at hl 0 rfl) ?_
  refine m_sipush (v := 160) hx hb dX3_init_5 (by decide) ?_
  refine c_newaH (atype := .int) (ty := .int) (k := 1) (t0 := 0) (N' := 160) (f0 := (160, .inl (fun _ => 0))) X hP hD hS (X.2.2.2.2.1 _ mw63) rfl rfl (fun cA => rfl) rfl (Nat.le_of_ble_eq_true rfl) (show 160 * 4 ≤ 536870912 from Nat.le_of_ble_eq_true rfl) (Nat.le_of_ble_eq_true rfl) (Nat.le_of_ble_eq_true rfl) dX3_init_8 (fun q8 H hP hD hS => ?_)
  refine c_putFH (fs' := [.null, .ref q8, .int 0, .null, .null, .null, .null, .null, .null, .null, .null, .null]) X hP hD hS i_X3 tyX3_ok nmX3 rfl 1 (by decide) (X.2.2.2.2.1 _ mw96) rfl rfl hin rfl (tyX3_ok 1 (by decide)) rfl rfl (Nat.le_of_ble_eq_true rfl) rfl dX3_init_10 (fun H locs hP hD hS => ?_)
  refine lv_aload_n hx hb dX3_init_13 rfl (lv_at hl 0 rfl) ?_
  refine m_sipush (v := 160) hx hb dX3_init_14 (by decide) ?_
  refine c_newaH (atype := .int) (ty := .int) (k := 1) (t0 := 0) (N' := 160) (f0 := (160, .inl (fun _ => 0))) X hP hD hS (X.2.2.2.2.1 _ mw63) rfl rfl (fun cA => rfl) rfl (Nat.le_of_ble_eq_true rfl) (show 160 * 4 ≤ 536870912 from Nat.le_of_ble_eq_true rfl) (Nat.le_of_ble_eq_true rfl) (Nat.le_of_ble_eq_true rfl) dX3_init_17 (fun q17 H hP hD hS => ?_)
  refine c_putFH (fs' := [.null, .ref q8, .int 0, .ref q17, .null, .null, .null, .null, .null, .null, .null, .null]) X hP hD hS i_X3 tyX3_ok nmX3 rfl 3 (by decide) (X.2.2.2.2.1 _ mw98) rfl rfl hin rfl (tyX3_ok 3 (by decide)) rfl rfl (Nat.le_of_ble_eq_true rfl) rfl dX3_init_19 (fun H locs hP hD hS => ?_)
  refine lv_aload_n hx hb dX3_init_22 rfl (lv_at hl 0 rfl) ?_
  refine m_sipush (v := 160) hx hb dX3_init_23 (by decide) ?_
  refine c_newaH (atype := .boolean) (ty := .boolean) (k := 2) (t0 := 1) (N' := 160) (f0 := (160, .inl (fun _ => 0))) X hP hD hS (X.2.2.2.2.1 _ mw64) rfl rfl (fun cA => rfl) rfl (Nat.le_of_ble_eq_true rfl) (show 160 * 1 ≤ 536870912 from Nat.le_of_ble_eq_true rfl) (Nat.le_of_ble_eq_true rfl) (Nat.le_of_ble_eq_true rfl) dX3_init_26 (fun q26 H hP hD hS => ?_)
  refine c_putFH (fs' := [.null, .ref q8, .int 0, .ref q17, .ref q26, .null, .null, .null, .null, .null, .null, .null]) X hP hD hS i_X3 tyX3_ok nmX3 rfl 4 (by decide) (X.2.2.2.2.1 _ mw99) rfl rfl hin rfl (tyX3_ok 4 (by decide)) rfl rfl (Nat.le_of_ble_eq_true rfl) rfl dX3_init_28 (fun H locs hP hD hS => ?_)
  refine lv_aload_n hx hb dX3_init_31 rfl (lv_at hl 0 rfl) ?_
  refine m_sipush (v := 160) hx hb dX3_init_32 (by decide) ?_
  refine c_newaH (atype := .boolean) (ty := .boolean) (k := 2) (t0 := 1) (N' := 160) (f0 := (160, .inl (fun _ => 0))) X hP hD hS (X.2.2.2.2.1 _ mw64) rfl rfl (fun cA => rfl) rfl (Nat.le_of_ble_eq_true rfl) (show 160 * 1 ≤ 536870912 from Nat.le_of_ble_eq_true rfl) (Nat.le_of_ble_eq_true rfl) (Nat.le_of_ble_eq_true rfl) dX3_init_35 (fun q35 H hP hD hS => ?_)
  refine c_putFH (fs' := [.null, .ref q8, .int 0, .ref q17, .ref q26, .ref q35, .null, .null, .null, .null, .null, .null]) X hP hD hS i_X3 tyX3_ok nmX3 rfl 5 (by decide) (X.2.2.2.2.1 _ mw100) rfl rfl hin rfl (tyX3_ok 5 (by decide)) rfl rfl (Nat.le_of_ble_eq_true rfl) rfl dX3_init_37 (fun H locs hP hD hS => ?_)
  refine lv_aload_n hx hb dX3_init_40 rfl (lv_at hl 0 rfl) ?_
  refine m_sipush (v := 160) hx hb dX3_init_41 (by decide) ?_
  refine c_newaH (atype := .int) (ty := .int) (k := 1) (t0 := 0) (N' := 160) (f0 := (160, .inl (fun _ => 0))) X hP hD hS (X.2.2.2.2.1 _ mw63) rfl rfl (fun cA => rfl) rfl (Nat.le_of_ble_eq_true rfl) (show 160 * 4 ≤ 536870912 from Nat.le_of_ble_eq_true rfl) (Nat.le_of_ble_eq_true rfl) (Nat.le_of_ble_eq_true rfl) dX3_init_44 (fun q44 H hP hD hS => ?_)
  refine c_putFH (fs' := [.null, .ref q8, .int 0, .ref q17, .ref q26, .ref q35, .ref q44, .null, .null, .null, .null, .null]) X hP hD hS i_X3 tyX3_ok nmX3 rfl 6 (by decide) (X.2.2.2.2.1 _ mw101) rfl rfl hin rfl (tyX3_ok 6 (by decide)) rfl rfl (Nat.le_of_ble_eq_true rfl) rfl dX3_init_46 (fun H locs hP hD hS => ?_)
  refine lv_aload_n hx hb dX3_init_49 rfl (lv_at hl 0 rfl) ?_
  refine m_sipush (v := 160) hx hb dX3_init_50 (by decide) ?_
  refine c_newaH (atype := .boolean) (ty := .boolean) (k := 2) (t0 := 1) (N' := 160) (f0 := (160, .inl (fun _ => 0))) X hP hD hS (X.2.2.2.2.1 _ mw64) rfl rfl (fun cA => rfl) rfl (Nat.le_of_ble_eq_true rfl) (show 160 * 1 ≤ 536870912 from Nat.le_of_ble_eq_true rfl) (Nat.le_of_ble_eq_true rfl) (Nat.le_of_ble_eq_true rfl) dX3_init_53 (fun q53 H hP hD hS => ?_)
  refine c_putFH (fs' := [.null, .ref q8, .int 0, .ref q17, .ref q26, .ref q35, .ref q44, .ref q53, .null, .null, .null, .null]) X hP hD hS i_X3 tyX3_ok nmX3 rfl 7 (by decide) (X.2.2.2.2.1 _ mw102) rfl rfl hin rfl (tyX3_ok 7 (by decide)) rfl rfl (Nat.le_of_ble_eq_true rfl) rfl dX3_init_55 (fun H locs hP hD hS => ?_)
  refine lv_aload_n hx hb dX3_init_58 rfl (lv_at hl 0 rfl) ?_
  refine m_sipush (v := 160) hx hb dX3_init_59 (by decide) ?_
  refine c_newaH (atype := .boolean) (ty := .boolean) (k := 2) (t0 := 1) (N' := 160) (f0 := (160, .inl (fun _ => 0))) X hP hD hS (X.2.2.2.2.1 _ mw64) rfl rfl (fun cA => rfl) rfl (Nat.le_of_ble_eq_true rfl) (show 160 * 1 ≤ 536870912 from Nat.le_of_ble_eq_true rfl) (Nat.le_of_ble_eq_true rfl) (Nat.le_of_ble_eq_true rfl) dX3_init_62 (fun q62 H hP hD hS => ?_)
  refine c_putFH (fs' := [.null, .ref q8, .int 0, .ref q17, .ref q26, .ref q35, .ref q44, .ref q53, .ref q62, .null, .null, .null]) X hP hD hS i_X3 tyX3_ok nmX3 rfl 8 (by decide) (X.2.2.2.2.1 _ mw103) rfl rfl hin rfl (tyX3_ok 8 (by decide)) rfl rfl (Nat.le_of_ble_eq_true rfl) rfl dX3_init_64 (fun H locs hP hD hS => ?_)
  refine lv_aload_n hx hb dX3_init_67 rfl (lv_at hl 0 rfl) ?_
  refine m_sipush (v := 161) hx hb dX3_init_68 (by decide) ?_
  refine c_newaH (atype := .int) (ty := .int) (k := 1) (t0 := 0) (N' := 161) (f0 := (161, .inl (fun _ => 0))) X hP hD hS (X.2.2.2.2.1 _ mw63) rfl rfl (fun cA => rfl) rfl (Nat.le_of_ble_eq_true rfl) (show 161 * 4 ≤ 536870912 from Nat.le_of_ble_eq_true rfl) (Nat.le_of_ble_eq_true rfl) (Nat.le_of_ble_eq_true rfl) dX3_init_71 (fun q71 H hP hD hS => ?_)
  refine c_putFH (fs' := [.null, .ref q8, .int 0, .ref q17, .ref q26, .ref q35, .ref q44, .ref q53, .ref q62, .ref q71, .null, .null]) X hP hD hS i_X3 tyX3_ok nmX3 rfl 9 (by decide) (X.2.2.2.2.1 _ mw104) rfl rfl hin rfl (tyX3_ok 9 (by decide)) rfl rfl (Nat.le_of_ble_eq_true rfl) rfl dX3_init_73 (fun H locs hP hD hS => ?_)
  refine lv_aload_n hx hb dX3_init_76 rfl (lv_at hl 0 rfl) ?_
  refine m_sipush (v := 161) hx hb dX3_init_77 (by decide) ?_
  refine c_newaH (atype := .int) (ty := .int) (k := 1) (t0 := 0) (N' := 161) (f0 := (161, .inl (fun _ => 0))) X hP hD hS (X.2.2.2.2.1 _ mw63) rfl rfl (fun cA => rfl) rfl (Nat.le_of_ble_eq_true rfl) (show 161 * 4 ≤ 536870912 from Nat.le_of_ble_eq_true rfl) (Nat.le_of_ble_eq_true rfl) (Nat.le_of_ble_eq_true rfl) dX3_init_80 (fun q80 H hP hD hS => ?_)
  refine c_putFH (fs' := [.null, .ref q8, .int 0, .ref q17, .ref q26, .ref q35, .ref q44, .ref q53, .ref q62, .ref q71, .ref q80, .null]) X hP hD hS i_X3 tyX3_ok nmX3 rfl 10 (by decide) (X.2.2.2.2.1 _ mw105) rfl rfl hin rfl (tyX3_ok 10 (by decide)) rfl rfl (Nat.le_of_ble_eq_true rfl) rfl dX3_init_82 (fun H locs hP hD hS => ?_)
  refine lv_aload_n hx hb dX3_init_85 rfl (lv_at hl 0 rfl) ?_
  refine m_const (v := 4) hx hb dX3_init_86 rfl ?_
  refine m_sipush (v := 161) hx hb dX3_init_87 (by decide) ?_
  refine c_mnaH X hP hD hS (X.2.2.2.2.1 _ mw93) (X.2.2.2.2.1 _ mw63) (Nat.le_of_ble_eq_true rfl) (Nat.le_of_ble_eq_true rfl) dX3_init_90 (fun q90 ri H hP hD hS => ?_)
  refine c_putFH (fs' := [.null, .ref q8, .int 0, .ref q17, .ref q26, .ref q35, .ref q44, .ref q53, .ref q62, .ref q71, .ref q80, .ref q90]) X hP hD hS i_X3 tyX3_ok nmX3 rfl 11 (by decide) (X.2.2.2.2.1 _ mw106) rfl rfl hin rfl (tyX3_ok 11 (by decide)) rfl rfl (Nat.le_of_ble_eq_true rfl) rfl dX3_init_94 (fun H locs hP hD hS => ?_)
  refine lv_aload_n hx hb dX3_init_97 rfl (lv_at hl 0 rfl) ?_
  refine lv_aload_n hx hb dX3_init_98 rfl (lv_at hl 1 rfl) ?_
  refine c_putFH (fs' := [.ref bk, .ref q8, .int 0, .ref q17, .ref q26, .ref q35, .ref q44, .ref q53, .ref q62, .ref q71, .ref q80, .ref q90]) X hP hD hS i_X3 tyX3_ok nmX3 rfl 0 (by decide) (X.2.2.2.2.1 _ mw95) rfl rfl hin rfl (tyX3_ok 0 (by decide)) rfl rfl (Nat.le_of_ble_eq_true rfl) rfl dX3_init_99 (fun H locs hP hD hS => ?_)
  refine m_const (v := 0) hx hb dX3_init_102 rfl ?_
  refine lv_istore_n (lv' := [(2, .int (i32 0)), (0, .ref h0), (1, .ref bk)]) hx hb dX3_init_103 rfl hl (by decide) rfl (fun ls hl => ?_)
  have e : ∀ i : Nat, (fun k => if 13 ≤ k then ri (k - 13) else (if k < 7 then (if k < 4 then (if k < 2 then h0 else q8) else (if k < 5 then q17 else (if k < 6 then q26 else q35))) else (if k < 10 then (if k < 8 then q44 else (if k < 9 then q53 else q62)) else (if k < 11 then q71 else (if k < 12 then q80 else q90))))) (13 + i) = ri i := fun i => (if_pos (Nat.le_add_right 13 i)).trans (congrArg ri (Nat.add_sub_cancel_left 13 i))
  have e2 : (fun i : Nat => if i < 4 then some (ri i) else none) = fun i : Nat => if i < 4 then some ((fun k => if 13 ≤ k then ri (k - 13) else (if k < 7 then (if k < 4 then (if k < 2 then h0 else q8) else (if k < 5 then q17 else (if k < 6 then q26 else q35))) else (if k < 10 then (if k < 8 then q44 else (if k < 9 then q53 else q62)) else (if k < 11 then q71 else (if k < 12 then q80 else q90))))) (13 + i)) else none := by
    funext i
    rw [e i]
  have hfl : (((h0, .inr (3, [.ref bk, .ref q8, .int 0, .ref q17, .ref q26, .ref q35, .ref q44, .ref q53, .ref q62, .ref q71, .ref q80, .ref q90])) :: (((((((((((((([] ++ [(q8, .inl (cy 1, 160, .inl (fun _ => 0)))]) ++ [(q17, .inl (cy 1, 160, .inl (fun _ => 0)))]) ++ [(q26, .inl (cy 2, 160, .inl (fun _ => 0)))]) ++ [(q35, .inl (cy 2, 160, .inl (fun _ => 0)))]) ++ [(q44, .inl (cy 1, 160, .inl (fun _ => 0)))]) ++ [(q53, .inl (cy 2, 160, .inl (fun _ => 0)))]) ++ [(q62, .inl (cy 2, 160, .inl (fun _ => 0)))]) ++ [(q71, .inl (cy 1, 161, .inl (fun _ => 0)))]) ++ [(q80, .inl (cy 1, 161, .inl (fun _ => 0)))]) ++ [(q90, .inl (cy 7, 4, .inr (.inr (.inr (.inr (fun i => if i < 4 then some (ri i) else none))))))]) ++ [(ri 0, .inl (cy 1, 161, .inl (fun _ => 0)))]) ++ [(ri 1, .inl (cy 1, 161, .inl (fun _ => 0)))]) ++ [(ri 2, .inl (cy 1, 161, .inl (fun _ => 0)))]) ++ [(ri 3, .inl (cy 1, 161, .inl (fun _ => 0)))])) : va_W) = hX3 cy bk (fun k => if 13 ≤ k then ri (k - 13) else (if k < 7 then (if k < 4 then (if k < 2 then h0 else q8) else (if k < 5 then q17 else (if k < 6 then q26 else q35))) else (if k < 10 then (if k < 8 then q44 else (if k < 9 then q53 else q62)) else (if k < 11 then q71 else (if k < 12 then q80 else q90))))) (fun _ => 0) := by
    rw [e2]
    rfl
  have hz : hX3 cy bk (fun k => if 13 ≤ k then ri (k - 13) else (if k < 7 then (if k < 4 then (if k < 2 then h0 else q8) else (if k < 5 then q17 else (if k < 6 then q26 else q35))) else (if k < 10 then (if k < 8 then q44 else (if k < 9 then q53 else q62)) else (if k < 11 then q71 else (if k < 12 then q80 else q90))))) (fun _ => 0) = hX3 cy bk (fun k => if 13 ≤ k then ri (k - 13) else (if k < 7 then (if k < 4 then (if k < 2 then h0 else q8) else (if k < 5 then q17 else (if k < 6 then q26 else q35))) else (if k < 10 then (if k < 8 then q44 else (if k < 9 then q53 else q62)) else (if k < 11 then q71 else (if k < 12 then q80 else q90))))) (fun j => if j < 0 then i32 (-2) else 0) := congrArg (hX3 cy bk (fun k => if 13 ≤ k then ri (k - 13) else (if k < 7 then (if k < 4 then (if k < 2 then h0 else q8) else (if k < 5 then q17 else (if k < 6 then q26 else q35))) else (if k < 10 then (if k < 8 then q44 else (if k < 9 then q53 else q62)) else (if k < 11 then q71 else (if k < 12 then q80 else q90)))))) (funext fun j => (if_neg (Nat.not_lt_zero j)).symm)
  rw [hfl, hz] at hP hD
  exact lp_X3 (r := (fun k => if 13 ≤ k then ri (k - 13) else (if k < 7 then (if k < 4 then (if k < 2 then h0 else q8) else (if k < 5 then q17 else (if k < 6 then q26 else q35))) else (if k < 10 then (if k < 8 then q44 else (if k < 9 then q53 else q62)) else (if k < 11 then q71 else (if k < 12 then q80 else q90)))))) X hr hlocks (Nat.le_of_ble_eq_true rfl) (Nat.le_of_ble_eq_true rfl) hQ 161 0 rfl H _ ls hP hD hS hl
