theorem gc_L_8 : GoodIn GW (wsV RL 8 RX5 yX5_has (wsG yX5_has cX5_has 2 (some .int))) := cg_V mw768 mw769 mw770 mw1 mw771
theorem gc_L_14 : GoodIn GW (wsV RL 14 RX5 yX5_length (wsG yX5_length cX5_length 2 (some .int))) := cg_V mw694 mw695 mw696 mw1 mw697
theorem gc_L_17 : GoodIn GW (wsV RL 17 RX5 yX5_shown (wsG yX5_shown cX5_shown 2 (some .int))) := cg_V mw791 mw792 mw793 mw1 mw794
theorem gc_L_20 : GoodIn GW (wsV RL 20 RX5 yX5_blocks (wsG yX5_blocks cX5_blocks 2 (some .int))) := cg_V mw736 mw737 mw738 mw1 mw739
theorem gc_L_23 : GoodIn GW (wsV RL 23 RX5 yX5_graves (wsG yX5_graves cX5_graves 2 (some .int))) := cg_V mw803 mw804 mw805 mw1 mw806
theorem gc_L_26 : GoodIn GW (wsV RL 26 RX5 yX5_open (wsG yX5_open cX5_open 2 (some .int))) := cg_V mw714 mw715 mw716 mw1 mw717
theorem gc_L_29 : GoodIn GW (wsV RL 29 RX5 yX5_element (wsG yX5_element cX5_element 3 (some .int))) := cg_V mw702 mw703 mw704 mw1 mw705
theorem gc_L_33 : GoodIn GW (wsV RL 33 RX5 yX5_letter (wsG yX5_letter cX5_letter 3 (some .char))) := cg_V mw812 mw813 mw814 mw1 mw815
theorem gc_L_37 : GoodIn GW (wsV RL 37 RX5 yX5_proposed (wsG yX5_proposed cX5_proposed 4 (some .int))) := cg_V mw706 mw707 mw708 mw1 mw709
theorem gc_L_40 : GoodIn GW (wsV RL 40 RX5 yX5_isMarked (wsG yX5_isMarked cX5_isMarked 6 (some .boolean))) := cg_V mw816 mw817 mw818 mw1 mw819
theorem gc_L_44 : GoodIn GW (wsV RL 44 RX5 yX5_cursor (wsG yX5_cursor cX5_cursor 3 (some .int))) := cg_V mw756 mw757 mw758 mw1 mw759
theorem gc_L_47 : GoodIn GW (wsV RL 47 RX5 yX5_tail (wsG yX5_tail cX5_tail 3 (some .int))) := cg_V mw760 mw761 mw762 mw1 mw763
theorem gc_L_50 : GoodIn GW (wsV RL 50 RX5 yX5_buried (wsG yX5_buried cX5_buried 6 (some .int))) := cg_V mw824 mw825 mw826 mw1 mw827
theorem gc_L_53 : GoodIn GW (wsV RL 53 RX5 yX5_depth (wsG yX5_depth cX5_depth 4 (some .int))) := cg_V mw849 mw850 mw851 mw1 mw852
theorem gc_L_56 : GoodIn GW (wsV RL 56 RX5 yX5_level (wsG yX5_level cX5_level 4 (some .int))) := cg_V mw752 mw753 mw754 mw1 mw755
theorem gc_L_59 : GoodIn GW (wsV RL 59 RX5 yX5_elementAnew (wsG yX5_elementAnew cX5_elementAnew 3 (some .int))) := cg_V mw857 mw858 mw859 mw1 mw860
theorem hd_X5_has : yX5_has.cls = RX5 ∧ yX5_has.cls ≠ "java/lang/invoke/MethodHandle" ∧ yX5_has.cls ≠ "java/lang/invoke/VarHandle" ∧ (parseMethodDescriptor yX5_has.desc).map (fun d => d.parameters.length) = some 1 := by decide +kernel
theorem hd_X5_length : yX5_length.cls = RX5 ∧ yX5_length.cls ≠ "java/lang/invoke/MethodHandle" ∧ yX5_length.cls ≠ "java/lang/invoke/VarHandle" ∧ (parseMethodDescriptor yX5_length.desc).map (fun d => d.parameters.length) = some 1 := by decide +kernel
theorem hd_X5_shown : yX5_shown.cls = RX5 ∧ yX5_shown.cls ≠ "java/lang/invoke/MethodHandle" ∧ yX5_shown.cls ≠ "java/lang/invoke/VarHandle" ∧ (parseMethodDescriptor yX5_shown.desc).map (fun d => d.parameters.length) = some 1 := by decide +kernel
theorem hd_X5_blocks : yX5_blocks.cls = RX5 ∧ yX5_blocks.cls ≠ "java/lang/invoke/MethodHandle" ∧ yX5_blocks.cls ≠ "java/lang/invoke/VarHandle" ∧ (parseMethodDescriptor yX5_blocks.desc).map (fun d => d.parameters.length) = some 1 := by decide +kernel
theorem hd_X5_graves : yX5_graves.cls = RX5 ∧ yX5_graves.cls ≠ "java/lang/invoke/MethodHandle" ∧ yX5_graves.cls ≠ "java/lang/invoke/VarHandle" ∧ (parseMethodDescriptor yX5_graves.desc).map (fun d => d.parameters.length) = some 1 := by decide +kernel
theorem hd_X5_open : yX5_open.cls = RX5 ∧ yX5_open.cls ≠ "java/lang/invoke/MethodHandle" ∧ yX5_open.cls ≠ "java/lang/invoke/VarHandle" ∧ (parseMethodDescriptor yX5_open.desc).map (fun d => d.parameters.length) = some 1 := by decide +kernel
theorem hd_X5_element : yX5_element.cls = RX5 ∧ yX5_element.cls ≠ "java/lang/invoke/MethodHandle" ∧ yX5_element.cls ≠ "java/lang/invoke/VarHandle" ∧ (parseMethodDescriptor yX5_element.desc).map (fun d => d.parameters.length) = some 2 := by decide +kernel
theorem hd_X5_letter : yX5_letter.cls = RX5 ∧ yX5_letter.cls ≠ "java/lang/invoke/MethodHandle" ∧ yX5_letter.cls ≠ "java/lang/invoke/VarHandle" ∧ (parseMethodDescriptor yX5_letter.desc).map (fun d => d.parameters.length) = some 2 := by decide +kernel
theorem hd_X5_proposed : yX5_proposed.cls = RX5 ∧ yX5_proposed.cls ≠ "java/lang/invoke/MethodHandle" ∧ yX5_proposed.cls ≠ "java/lang/invoke/VarHandle" ∧ (parseMethodDescriptor yX5_proposed.desc).map (fun d => d.parameters.length) = some 2 := by decide +kernel
theorem hd_X5_isMarked : yX5_isMarked.cls = RX5 ∧ yX5_isMarked.cls ≠ "java/lang/invoke/MethodHandle" ∧ yX5_isMarked.cls ≠ "java/lang/invoke/VarHandle" ∧ (parseMethodDescriptor yX5_isMarked.desc).map (fun d => d.parameters.length) = some 3 := by decide +kernel
theorem hd_X5_cursor : yX5_cursor.cls = RX5 ∧ yX5_cursor.cls ≠ "java/lang/invoke/MethodHandle" ∧ yX5_cursor.cls ≠ "java/lang/invoke/VarHandle" ∧ (parseMethodDescriptor yX5_cursor.desc).map (fun d => d.parameters.length) = some 1 := by decide +kernel
theorem hd_X5_tail : yX5_tail.cls = RX5 ∧ yX5_tail.cls ≠ "java/lang/invoke/MethodHandle" ∧ yX5_tail.cls ≠ "java/lang/invoke/VarHandle" ∧ (parseMethodDescriptor yX5_tail.desc).map (fun d => d.parameters.length) = some 1 := by decide +kernel
theorem hd_X5_buried : yX5_buried.cls = RX5 ∧ yX5_buried.cls ≠ "java/lang/invoke/MethodHandle" ∧ yX5_buried.cls ≠ "java/lang/invoke/VarHandle" ∧ (parseMethodDescriptor yX5_buried.desc).map (fun d => d.parameters.length) = some 1 := by decide +kernel
theorem hd_X5_depth : yX5_depth.cls = RX5 ∧ yX5_depth.cls ≠ "java/lang/invoke/MethodHandle" ∧ yX5_depth.cls ≠ "java/lang/invoke/VarHandle" ∧ (parseMethodDescriptor yX5_depth.desc).map (fun d => d.parameters.length) = some 2 := by decide +kernel
theorem hd_X5_level : yX5_level.cls = RX5 ∧ yX5_level.cls ≠ "java/lang/invoke/MethodHandle" ∧ yX5_level.cls ≠ "java/lang/invoke/VarHandle" ∧ (parseMethodDescriptor yX5_level.desc).map (fun d => d.parameters.length) = some 2 := by decide +kernel
theorem hd_X5_elementAnew : yX5_elementAnew.cls = RX5 ∧ yX5_elementAnew.cls ≠ "java/lang/invoke/MethodHandle" ∧ yX5_elementAnew.cls ≠ "java/lang/invoke/VarHandle" ∧ (parseMethodDescriptor yX5_elementAnew.desc).map (fun d => d.parameters.length) = some 2 := by decide +kernel
noncomputable def fL_low (x0 : Int) (x1 : Int) : Option Int := vl (band x0 2147483647) (fun v1 => irm v1 x1 (fun v2 => some v2))
noncomputable def fL_areAlike_J167 (n : Nat) (lp97 : (St → Int → Int → Option (Int × St))) (σ : St) (x1 : Int) (x2 : Int) (x4 : Int) (t0 : Int) : Option (Int × St) := if t0 = 0 then (ck (x4 + 3) (fun v41 => lp97 σ 0 v41)) else (b2 (zw (fX5_isMarked n σ x1 x4 0)) (fun v43 σ42 => b2 (zw (fX5_isMarked n σ42 x2 x4 0)) (fun v45 σ44 => if v43 ≠ v45 then (ck (x4 + 3) (fun v46 => lp97 σ44 0 v46)) else (ck (x4 + 3) (fun v47 => lp97 σ44 1 v47)))))
noncomputable def fL_areAlike_J166 (n : Nat) (lp97 : (St → Int → Int → Option (Int × St))) (σ : St) (x1 : Int) (x2 : Int) (x4 : Int) : Option (Int × St) := fL_areAlike_J167 n lp97 σ x1 x2 x4 0
noncomputable def fL_areAlike_L97s (n : Nat) (x1 : Int) (x2 : Int) (lp97 : (St → Int → Int → Option (Int × St))) : St → Int → Int → Option (Int × St) := fun σ x3 x4 => b2 (zw (fX5_length n σ x1)) (fun v26 σ25 => if v26 ≤ x4 then (rb x3 ( some (x3, σ25))) else (if x3 = 0 then (rb x3 ( some (x3, σ25))) else (b2 (zw (fX5_element n σ25 x1 x4)) (fun v30 σ29 => b2 (zw (fX5_element n σ29 x2 x4)) (fun v32 σ31 => if v30 ≠ v32 then (fL_areAlike_J166 n lp97 σ31 x1 x2 x4) else (b2 (zw (fX5_letter n σ31 x1 x4)) (fun v34 σ33 => b2 (zw (fX5_letter n σ33 x2 x4)) (fun v36 σ35 => if v34 ≠ v36 then (fL_areAlike_J166 n lp97 σ35 x1 x2 x4) else (b2 (zw (fX5_proposed n σ35 x1 x4)) (fun v38 σ37 => b2 (zw (fX5_proposed n σ37 x2 x4)) (fun v40 σ39 => if v38 ≠ v40 then (fL_areAlike_J166 n lp97 σ39 x1 x2 x4) else (fL_areAlike_J167 n lp97 σ39 x1 x2 x4 1))))))))))))
noncomputable def fL_areAlike_L97 (n : Nat) (x1 : Int) (x2 : Int) (k : Nat) : St → Int → Int → Option (Int × St) := lpR (fun _ _ _ => none) (fL_areAlike_L97s n x1 x2) k
noncomputable def fL_areAlike_J57 (n : Nat) (σ : St) (x1 : Int) (x2 : Int) (t0 : Int) : Option (Int × St) := if t0 = 0 then (fL_areAlike_L97 n x1 x2 n σ 0 0) else (b2 (zw (fX5_graves n σ x1)) (fun v18 σ17 => b2 (zw (fX5_graves n σ17 x2)) (fun v20 σ19 => if v18 ≠ v20 then (fL_areAlike_L97 n x1 x2 n σ19 0 0) else (b2 (zw (fX5_open n σ19 x1)) (fun v22 σ21 => b2 (zw (fX5_open n σ21 x2)) (fun v24 σ23 => if v22 ≠ v24 then (fL_areAlike_L97 n x1 x2 n σ23 0 0) else (fL_areAlike_L97 n x1 x2 n σ23 1 0)))))))
noncomputable def fL_areAlike_J56 (n : Nat) (σ : St) (x1 : Int) (x2 : Int) : Option (Int × St) := fL_areAlike_J57 n σ x1 x2 0
noncomputable def fL_areAlike (n : Nat) (σ : St) (x1 : Int) (x2 : Int) : Option (Int × St) := b2 (zw (fX5_has σ x1)) (fun v2 σ1 => b2 (zw (fX5_has σ1 x2)) (fun v4 σ3 => if v2 ≠ v4 then (fL_areAlike_J56 n σ3 x1 x2) else (b2 (zw (fX5_length n σ3 x1)) (fun v6 σ5 => b2 (zw (fX5_length n σ5 x2)) (fun v8 σ7 => if v6 ≠ v8 then (fL_areAlike_J56 n σ7 x1 x2) else (b2 (zw (fX5_shown n σ7 x1)) (fun v10 σ9 => b2 (zw (fX5_shown n σ9 x2)) (fun v12 σ11 => if v10 ≠ v12 then (fL_areAlike_J56 n σ11 x1 x2) else (b2 (zw (fX5_blocks n σ11 x1)) (fun v14 σ13 => b2 (zw (fX5_blocks n σ13 x2)) (fun v16 σ15 => if v14 ≠ v16 then (fL_areAlike_J56 n σ15 x1 x2) else (fL_areAlike_J57 n σ15 x1 x2 1))))))))))))
noncomputable def fL_isSite_J103 (n : Nat) (σ : St) (x1 : Int) (x2 : Int) (x3 : Int) (t0 : Int) : Option (Int × St) := if t0 = 0 then (some (0, σ)) else (if x3 = 0 then (some (1, σ)) else (irm x2 x3 (fun v23 => b2 (zw (fX5_element n σ x1 v23)) (fun v25 σ24 => irm x2 x3 (fun v26 => b2 (zw (fX5_elementAnew n σ24 x1 v26)) (fun v28 σ27 => if v25 ≠ v28 then (some (0, σ27)) else (some (1, σ27))))))))
noncomputable def fL_isSite_J102 (n : Nat) (σ : St) (x1 : Int) (x2 : Int) (x3 : Int) : Option (Int × St) := fL_isSite_J103 n σ x1 x2 x3 0
noncomputable def fL_isSite_J59 (n : Nat) (σ : St) (x1 : Int) (x2 : Int) (x3 : Int) (t0 : Int) : Option (Int × St) := if t0 = 0 then (fL_isSite_J102 n σ x1 x2 x3) else (b2 (zw (fX5_blocks n σ x1)) (fun v16 σ15 => if v16 < 1 then (fL_isSite_J102 n σ15 x1 x2 x3) else (b2 (zw (fX5_depth n σ15 x1 0)) (fun v18 σ17 => b2 (zw (fX5_blocks n σ17 x1)) (fun v20 σ19 => if v20 ≤ v18 then (fL_isSite_J102 n σ19 x1 x2 x3) else (b2 (zw (fX5_level n σ19 0 0)) (fun v22 σ21 => if v22 ≠ 0 then (fL_isSite_J102 n σ21 x1 x2 x3) else (fL_isSite_J103 n σ21 x1 x2 x3 1))))))))
noncomputable def fL_isSite_J58 (n : Nat) (σ : St) (x1 : Int) (x2 : Int) (x3 : Int) : Option (Int × St) := fL_isSite_J59 n σ x1 x2 x3 0
noncomputable def fL_isSite (n : Nat) (σ : St) (x1 : Int) (x2 : Int) : Option (Int × St) := b2 (zw (fX5_length n σ x1)) (fun v2 σ1 => b2 (zw (fX5_shown n σ1 x1)) (fun v4 σ3 => if v2 < v4 then (fL_isSite_J58 n σ3 x1 x2 v2) else (b2 (zw (fX5_cursor n σ3 x1)) (fun v6 σ5 => if v6 < 0 then (fL_isSite_J58 n σ5 x1 x2 v2) else (b2 (zw (fX5_cursor n σ5 x1)) (fun v8 σ7 => if v2 < v8 then (fL_isSite_J58 n σ7 x1 x2 v2) else (b2 (zw (fX5_tail n σ7 x1)) (fun v10 σ9 => if v2 < v10 then (fL_isSite_J58 n σ9 x1 x2 v2) else (b2 (zw (fX5_buried n σ9 x1)) (fun v12 σ11 => b2 (zw (fX5_graves n σ11 x1)) (fun v14 σ13 => if v14 < v12 then (fL_isSite_J58 n σ13 x1 x2 v2) else (fL_isSite_J59 n σ13 x1 x2 v2 1))))))))))))
set_option maxRecDepth 100000 in
set_option maxHeartbeats 4000000 in
theorem ok_L_low {l : Launch} {D : va_G} {cy : Nat → ClassId} {ad : Nat → Nat} {nm nv sz : Nat} {σ : St} {x0 : Int} {x1 : Int} {r : Int} (hx0 : inR x0) (hx1 : inR x1) (hf : fL_low x0 x1 = some r) : CI l yL_low cL_low 2 (some .int) ({ frames := 0, cells := 0, slots := 0, locals := 0 } : Room) [.int (i32 x0), .int (i32 x1)] D cy ad nm nv sz σ false r σ := by
  refine m_entry RL rfl (by decide +kernel) (Nat.le_of_ble_eq_true rfl) ?_
  intro p e s m args below meth c Q hQ hr hlocks X hW hS ls hl
  have hx := X.1
  have hb := X.2.1
  have hl : lv_has ls 2 [(0, .int (i32 x0)), (1, .int (i32 x1))] := hl
  unfold fL_low at hf
  refine lv_iload_n hx hb dL_low_0 rfl (lv_at hl 0 rfl) ?_
  refine lv_ldc (v := i32 2147483647) X.1 X.2.1 X.2.2.2.1 (X.2.2.2.2.1 _ mw787) dL_low_1 ?_
  refine m_iand hx hb hf dL_low_3 (fun v1 hv1 hf => ?_)
  refine lv_iload_n hx hb dL_low_4 rfl (lv_at hl 1 rfl) ?_
  refine m_irem hx hb hf dL_low_5 (fun v2 hv2 hf => ?_)
  exact m_ireti X hr hlocks rfl hv2 (fun h => Bool.noConfusion h) hW hS (Option.some.inj hf) rfl hQ dL_low_6
set_option maxRecDepth 100000 in
set_option maxHeartbeats 4000000 in
theorem ok_L_areAlike {l : Launch} {D : va_G} {cy : Nat → ClassId} {ad : Nat → Nat} {nm nv sz : Nat} {σ : St} {n : Nat} {x1 : Int} {x2 : Int} {r : Int} {σ2 : St} (hx1 : inR x1) (hx2 : inR x2) (hf : fL_areAlike n σ x1 x2 = some (r, σ2)) : CI l yL_areAlike cL_areAlike 5 (some .boolean) ({ frames := 7, cells := 0, slots := 0, locals := 188 } : Room) [.ref (ad 0), .int (i32 x1), .int (i32 x2)] D cy ad nm nv sz σ true r σ2 := by
  refine m_entry RL rfl (by decide +kernel) (Nat.le_of_ble_eq_true rfl) ?_
  intro p e s m args below meth c Q hQ hr hlocks X hW hS ls hl
  have hx := X.1
  have hb := X.2.1
  have hl : lv_has ls 5 [(0, .ref (ad 0)), (1, .int (i32 x1)), (2, .int (i32 x2))] := hl
  unfold fL_areAlike at hf
  have hc97 : ∀ (k97 : Nat) (σ : St) (H : Heap) (locs : List Loc) (ls : Array Slot) (x3 : Int) (x4 : Int), inR x3 → inR x4 → fL_areAlike_L97 n x1 x2 k97 σ x3 x4 = some (r, σ2) → Wd D cy ad nm nv σ H → va_S (AW ad nm nv sz) s.heap H locs → lv_has ls 5 [(0, .ref (ad 0)), (1, .int (i32 x1)), (2, .int (i32 x2)), (3, .int (i32 x3)), (4, .int (i32 x4))] → W p l e ({ frames := 7, cells := 0, slots := 0, locals := 188 } : Room) s m args below meth c H locs 0 0 Q (F0 m 97 ls []) := by
    intro k97
    induction k97 with
    | zero =>
      intro σ H locs ls x3 x4 hx3 hx4 hf
      have hf : (none : Option (Int × St)) = some (r, σ2) := hf
      cases hf
    | succ k97 ih97 =>
      intro σ H locs ls x3 x4 hx3 hx4 hf hW hS hl
      have hf : fL_areAlike_L97s n x1 x2 (fL_areAlike_L97 n x1 x2 k97) σ x3 x4 = some (r, σ2) := hf
      unfold fL_areAlike_L97s at hf
      have hc167 : ∀ (σ : St) (H : Heap) (locs : List Loc) (ls : Array Slot) (x4 : Int) (t0 : Int), inR x4 → inR t0 → fL_areAlike_J167 n (fL_areAlike_L97 n x1 x2 k97) σ x1 x2 x4 t0 = some (r, σ2) → Wd D cy ad nm nv σ H → va_S (AW ad nm nv sz) s.heap H locs → lv_has ls 5 [(0, .ref (ad 0)), (1, .int (i32 x1)), (2, .int (i32 x2)), (4, .int (i32 x4))] → W p l e ({ frames := 7, cells := 0, slots := 0, locals := 188 } : Room) s m args below meth c H locs 0 0 Q (F0 m 167 ls [.int (i32 t0)]) := by
        intro σ H locs ls x4 t0 hx4 ht0 hf hW hS hl
        unfold fL_areAlike_J167 at hf
        refine lv_istore_n (lv' := [(3, .int (i32 t0)), (0, .ref (ad 0)), (1, .int (i32 x1)), (2, .int (i32 x2)), (4, .int (i32 x4))]) hx hb dL_areAlike_167 rfl hl (by decide) rfl (fun ls hl => ?_)
        refine lv_iload_n hx hb dL_areAlike_168 rfl (lv_at hl 0 rfl) ?_
        refine m_if_eq (tgt := 195) hx hb ht0 hf dL_areAlike_169 (by decide) (fun hf => ?_) (fun hf => ?_)
        · skip
          refine m_const (v := 0) hx hb dL_areAlike_195 rfl ?_
          refine lv_istore_n (lv' := [(3, .int (i32 0)), (0, .ref (ad 0)), (1, .int (i32 x1)), (2, .int (i32 x2)), (4, .int (i32 x4))]) hx hb dL_areAlike_196 rfl hl (by decide) rfl (fun ls hl => ?_)
          refine m_iinc (k0 := 4) (fun v41 => [(4, .int (i32 v41)), (3, .int (i32 0)), (0, .ref (ad 0)), (1, .int (i32 x1)), (2, .int (i32 x2))]) hx hb hf dL_areAlike_197 hl rfl (by decide) (fun _ => rfl) (fun v41 ls hv41 hf hl => ?_)
          have hl : lv_has ls 5 [(4, .int (i32 v41)), (3, .int (i32 0)), (0, .ref (ad 0)), (1, .int (i32 x1)), (2, .int (i32 x2))] := hl
          refine lv_goto (tgt := 97) hx hb dL_areAlike_200 (by decide) ?_
          exact ih97 _ _ _ _ 0 v41 (by decide) hv41 hf hW hS (lv_sub hl [2, 3, 4, 1, 0] rfl)
        · skip
          refine lv_aload_n hx hb dL_areAlike_172 rfl (lv_at hl 1 rfl) ?_
          refine lv_iload_n hx hb dL_areAlike_173 rfl (lv_at hl 2 rfl) ?_
          refine lv_iload hx hb dL_areAlike_174 (lv_at hl 4 rfl) ?_
          refine m_const (v := 0) hx hb dL_areAlike_176 rfl ?_
          refine m_callVi (z := true) (As := [.int (i32 x1), .int (i32 x4), .int (i32 0)]) (rest := []) X hW hS hl.1 gc_L_40 hd_X5_isMarked ⟨rfl, rfl, Nat.le_of_ble_eq_true rfl, Nat.le_of_ble_eq_true rfl⟩ (rc_X5 X hW) (fun v q9 q => ok0_X5_isMarked hx1 hx4 (by decide) (zw_of q)) hf rfl rfl (Nat.le_of_ble_eq_true rfl) dL_areAlike_177 ⟨Nat.le_of_ble_eq_true rfl, Nat.le_of_ble_eq_true rfl⟩ (fun v43 σ42 H locs hv43 zv43 hW42 hS42 hf => ?_)
          refine lv_aload_n hx hb dL_areAlike_180 rfl (lv_at hl 1 rfl) ?_
          refine lv_iload_n hx hb dL_areAlike_181 rfl (lv_at hl 3 rfl) ?_
          refine lv_iload hx hb dL_areAlike_182 (lv_at hl 4 rfl) ?_
          refine m_const (v := 0) hx hb dL_areAlike_184 rfl ?_
          refine m_callVi (z := true) (As := [.int (i32 x2), .int (i32 x4), .int (i32 0)]) (rest := [.int (i32 v43)]) X hW42 hS42 hl.1 gc_L_40 hd_X5_isMarked ⟨rfl, rfl, Nat.le_of_ble_eq_true rfl, Nat.le_of_ble_eq_true rfl⟩ (rc_X5 X hW42) (fun v q9 q => ok0_X5_isMarked hx2 hx4 (by decide) (zw_of q)) hf rfl rfl (Nat.le_of_ble_eq_true rfl) dL_areAlike_185 ⟨Nat.le_of_ble_eq_true rfl, Nat.le_of_ble_eq_true rfl⟩ (fun v45 σ44 H locs hv45 zv45 hW44 hS44 hf => ?_)
          refine m_icmp_ne (tgt := 195) hx hb hv43 hv45 hf dL_areAlike_188 (by decide) (fun hf => ?_) (fun hf => ?_)
          · skip
            refine m_const (v := 0) hx hb dL_areAlike_195 rfl ?_
            refine lv_istore_n (lv' := [(3, .int (i32 0)), (0, .ref (ad 0)), (1, .int (i32 x1)), (2, .int (i32 x2)), (4, .int (i32 x4))]) hx hb dL_areAlike_196 rfl hl (by decide) rfl (fun ls hl => ?_)
            refine m_iinc (k0 := 4) (fun v46 => [(4, .int (i32 v46)), (3, .int (i32 0)), (0, .ref (ad 0)), (1, .int (i32 x1)), (2, .int (i32 x2))]) hx hb hf dL_areAlike_197 hl rfl (by decide) (fun _ => rfl) (fun v46 ls hv46 hf hl => ?_)
            have hl : lv_has ls 5 [(4, .int (i32 v46)), (3, .int (i32 0)), (0, .ref (ad 0)), (1, .int (i32 x1)), (2, .int (i32 x2))] := hl
            refine lv_goto (tgt := 97) hx hb dL_areAlike_200 (by decide) ?_
            exact ih97 _ _ _ _ 0 v46 (by decide) hv46 hf hW44 hS44 (lv_sub hl [2, 3, 4, 1, 0] rfl)
          · skip
            refine m_const (v := 1) hx hb dL_areAlike_191 rfl ?_
            refine lv_goto (tgt := 196) hx hb dL_areAlike_192 (by decide) ?_
            refine lv_istore_n (lv' := [(3, .int (i32 1)), (0, .ref (ad 0)), (1, .int (i32 x1)), (2, .int (i32 x2)), (4, .int (i32 x4))]) hx hb dL_areAlike_196 rfl hl (by decide) rfl (fun ls hl => ?_)
            refine m_iinc (k0 := 4) (fun v47 => [(4, .int (i32 v47)), (3, .int (i32 1)), (0, .ref (ad 0)), (1, .int (i32 x1)), (2, .int (i32 x2))]) hx hb hf dL_areAlike_197 hl rfl (by decide) (fun _ => rfl) (fun v47 ls hv47 hf hl => ?_)
            have hl : lv_has ls 5 [(4, .int (i32 v47)), (3, .int (i32 1)), (0, .ref (ad 0)), (1, .int (i32 x1)), (2, .int (i32 x2))] := hl
            refine lv_goto (tgt := 97) hx hb dL_areAlike_200 (by decide) ?_
            exact ih97 _ _ _ _ 1 v47 (by decide) hv47 hf hW44 hS44 (lv_sub hl [2, 3, 4, 1, 0] rfl)
      have hc166 : ∀ (σ : St) (H : Heap) (locs : List Loc) (ls : Array Slot) (x4 : Int), inR x4 → fL_areAlike_J166 n (fL_areAlike_L97 n x1 x2 k97) σ x1 x2 x4 = some (r, σ2) → Wd D cy ad nm nv σ H → va_S (AW ad nm nv sz) s.heap H locs → lv_has ls 5 [(0, .ref (ad 0)), (1, .int (i32 x1)), (2, .int (i32 x2)), (4, .int (i32 x4))] → W p l e ({ frames := 7, cells := 0, slots := 0, locals := 188 } : Room) s m args below meth c H locs 0 0 Q (F0 m 166 ls []) := by
        intro σ H locs ls x4 hx4 hf hW hS hl
        unfold fL_areAlike_J166 at hf
        refine m_const (v := 0) hx hb dL_areAlike_166 rfl ?_
        exact hc167 _ _ _ _ x4 0 hx4 (by decide) hf hW hS (lv_sub hl [0, 1, 2, 3] rfl)
      refine lv_iload hx hb dL_areAlike_97 (lv_at hl 4 rfl) ?_
      refine lv_aload_n hx hb dL_areAlike_99 rfl (lv_at hl 0 rfl) ?_
      refine lv_iload_n hx hb dL_areAlike_100 rfl (lv_at hl 1 rfl) ?_
      refine m_callVi (z := false) (As := [.int (i32 x1)]) (rest := [.int (i32 x4)]) X hW hS hl.1 gc_L_14 hd_X5_length ⟨rfl, rfl, Nat.le_of_ble_eq_true rfl, Nat.le_of_ble_eq_true rfl⟩ (rc_X5 X hW) (fun v q9 q => ok0_X5_length hx1 (zw_of q)) hf rfl rfl (Nat.le_of_ble_eq_true rfl) dL_areAlike_101 ⟨Nat.le_of_ble_eq_true rfl, Nat.le_of_ble_eq_true rfl⟩ (fun v26 σ25 H locs hv26 zv26 hW25 hS25 hf => ?_)
      refine m_icmp_ge (tgt := 203) hx hb hx4 hv26 hf dL_areAlike_104 (by decide) (fun hf => ?_) (fun hf => ?_)
      · skip
        refine lv_iload_n hx hb dL_areAlike_203 rfl (lv_at hl 3 rfl) ?_
        obtain ⟨hb27, hf⟩ := rb_of hf
        exact m_ireti X hr hlocks (nar_b hb27).1 hx3 (fun _ => hb27) hW25 hS25 (congrArg Prod.fst (Option.some.inj hf)) (congrArg Prod.snd (Option.some.inj hf)) hQ dL_areAlike_204
      · skip
        refine lv_iload_n hx hb dL_areAlike_107 rfl (lv_at hl 3 rfl) ?_
        refine m_if_eq (tgt := 203) hx hb hx3 hf dL_areAlike_108 (by decide) (fun hf => ?_) (fun hf => ?_)
        · skip
          refine lv_iload_n hx hb dL_areAlike_203 rfl (lv_at hl 3 rfl) ?_
          obtain ⟨hb28, hf⟩ := rb_of hf
          exact m_ireti X hr hlocks (nar_b hb28).1 hx3 (fun _ => hb28) hW25 hS25 (congrArg Prod.fst (Option.some.inj hf)) (congrArg Prod.snd (Option.some.inj hf)) hQ dL_areAlike_204
        · skip
          refine lv_aload_n hx hb dL_areAlike_111 rfl (lv_at hl 0 rfl) ?_
          refine lv_iload_n hx hb dL_areAlike_112 rfl (lv_at hl 1 rfl) ?_
          refine lv_iload hx hb dL_areAlike_113 (lv_at hl 4 rfl) ?_
          refine m_callVi (z := false) (As := [.int (i32 x1), .int (i32 x4)]) (rest := []) X hW25 hS25 hl.1 gc_L_29 hd_X5_element ⟨rfl, rfl, Nat.le_of_ble_eq_true rfl, Nat.le_of_ble_eq_true rfl⟩ (rc_X5 X hW25) (fun v q9 q => ok0_X5_element hx1 hx4 (zw_of q)) hf rfl rfl (Nat.le_of_ble_eq_true rfl) dL_areAlike_115 ⟨Nat.le_of_ble_eq_true rfl, Nat.le_of_ble_eq_true rfl⟩ (fun v30 σ29 H locs hv30 zv30 hW29 hS29 hf => ?_)
          refine lv_aload_n hx hb dL_areAlike_118 rfl (lv_at hl 0 rfl) ?_
          refine lv_iload_n hx hb dL_areAlike_119 rfl (lv_at hl 2 rfl) ?_
          refine lv_iload hx hb dL_areAlike_120 (lv_at hl 4 rfl) ?_
          refine m_callVi (z := false) (As := [.int (i32 x2), .int (i32 x4)]) (rest := [.int (i32 v30)]) X hW29 hS29 hl.1 gc_L_29 hd_X5_element ⟨rfl, rfl, Nat.le_of_ble_eq_true rfl, Nat.le_of_ble_eq_true rfl⟩ (rc_X5 X hW29) (fun v q9 q => ok0_X5_element hx2 hx4 (zw_of q)) hf rfl rfl (Nat.le_of_ble_eq_true rfl) dL_areAlike_122 ⟨Nat.le_of_ble_eq_true rfl, Nat.le_of_ble_eq_true rfl⟩ (fun v32 σ31 H locs hv32 zv32 hW31 hS31 hf => ?_)
          refine m_icmp_ne (tgt := 166) hx hb hv30 hv32 hf dL_areAlike_125 (by decide) (fun hf => ?_) (fun hf => ?_)
          · skip
            exact hc166 _ _ _ _ x4 hx4 hf hW31 hS31 (lv_sub hl [0, 1, 2, 4] rfl)
          · skip
            refine lv_aload_n hx hb dL_areAlike_128 rfl (lv_at hl 0 rfl) ?_
            refine lv_iload_n hx hb dL_areAlike_129 rfl (lv_at hl 1 rfl) ?_
            refine lv_iload hx hb dL_areAlike_130 (lv_at hl 4 rfl) ?_
            refine m_callVi (z := false) (As := [.int (i32 x1), .int (i32 x4)]) (rest := []) X hW31 hS31 hl.1 gc_L_33 hd_X5_letter ⟨rfl, rfl, Nat.le_of_ble_eq_true rfl, Nat.le_of_ble_eq_true rfl⟩ (rc_X5 X hW31) (fun v q9 q => ok0_X5_letter hx1 hx4 (zw_of q)) hf rfl rfl (Nat.le_of_ble_eq_true rfl) dL_areAlike_132 ⟨Nat.le_of_ble_eq_true rfl, Nat.le_of_ble_eq_true rfl⟩ (fun v34 σ33 H locs hv34 zv34 hW33 hS33 hf => ?_)
            refine lv_aload_n hx hb dL_areAlike_135 rfl (lv_at hl 0 rfl) ?_
            refine lv_iload_n hx hb dL_areAlike_136 rfl (lv_at hl 2 rfl) ?_
            refine lv_iload hx hb dL_areAlike_137 (lv_at hl 4 rfl) ?_
            refine m_callVi (z := false) (As := [.int (i32 x2), .int (i32 x4)]) (rest := [.int (i32 v34)]) X hW33 hS33 hl.1 gc_L_33 hd_X5_letter ⟨rfl, rfl, Nat.le_of_ble_eq_true rfl, Nat.le_of_ble_eq_true rfl⟩ (rc_X5 X hW33) (fun v q9 q => ok0_X5_letter hx2 hx4 (zw_of q)) hf rfl rfl (Nat.le_of_ble_eq_true rfl) dL_areAlike_139 ⟨Nat.le_of_ble_eq_true rfl, Nat.le_of_ble_eq_true rfl⟩ (fun v36 σ35 H locs hv36 zv36 hW35 hS35 hf => ?_)
            refine m_icmp_ne (tgt := 166) hx hb hv34 hv36 hf dL_areAlike_142 (by decide) (fun hf => ?_) (fun hf => ?_)
            · skip
              exact hc166 _ _ _ _ x4 hx4 hf hW35 hS35 (lv_sub hl [0, 1, 2, 4] rfl)
            · skip
              refine lv_aload_n hx hb dL_areAlike_145 rfl (lv_at hl 0 rfl) ?_
              refine lv_iload_n hx hb dL_areAlike_146 rfl (lv_at hl 1 rfl) ?_
              refine lv_iload hx hb dL_areAlike_147 (lv_at hl 4 rfl) ?_
              refine m_callVi (z := false) (As := [.int (i32 x1), .int (i32 x4)]) (rest := []) X hW35 hS35 hl.1 gc_L_37 hd_X5_proposed ⟨rfl, rfl, Nat.le_of_ble_eq_true rfl, Nat.le_of_ble_eq_true rfl⟩ (rc_X5 X hW35) (fun v q9 q => ok0_X5_proposed hx1 hx4 (zw_of q)) hf rfl rfl (Nat.le_of_ble_eq_true rfl) dL_areAlike_149 ⟨Nat.le_of_ble_eq_true rfl, Nat.le_of_ble_eq_true rfl⟩ (fun v38 σ37 H locs hv38 zv38 hW37 hS37 hf => ?_)
              refine lv_aload_n hx hb dL_areAlike_152 rfl (lv_at hl 0 rfl) ?_
              refine lv_iload_n hx hb dL_areAlike_153 rfl (lv_at hl 2 rfl) ?_
              refine lv_iload hx hb dL_areAlike_154 (lv_at hl 4 rfl) ?_
              refine m_callVi (z := false) (As := [.int (i32 x2), .int (i32 x4)]) (rest := [.int (i32 v38)]) X hW37 hS37 hl.1 gc_L_37 hd_X5_proposed ⟨rfl, rfl, Nat.le_of_ble_eq_true rfl, Nat.le_of_ble_eq_true rfl⟩ (rc_X5 X hW37) (fun v q9 q => ok0_X5_proposed hx2 hx4 (zw_of q)) hf rfl rfl (Nat.le_of_ble_eq_true rfl) dL_areAlike_156 ⟨Nat.le_of_ble_eq_true rfl, Nat.le_of_ble_eq_true rfl⟩ (fun v40 σ39 H locs hv40 zv40 hW39 hS39 hf => ?_)
              refine m_icmp_ne (tgt := 166) hx hb hv38 hv40 hf dL_areAlike_159 (by decide) (fun hf => ?_) (fun hf => ?_)
              · skip
                exact hc166 _ _ _ _ x4 hx4 hf hW39 hS39 (lv_sub hl [0, 1, 2, 4] rfl)
              · skip
                refine m_const (v := 1) hx hb dL_areAlike_162 rfl ?_
                refine lv_goto (tgt := 167) hx hb dL_areAlike_163 (by decide) ?_
                exact hc167 _ _ _ _ x4 1 hx4 (by decide) hf hW39 hS39 (lv_sub hl [0, 1, 2, 4] rfl)
  have hc57 : ∀ (σ : St) (H : Heap) (locs : List Loc) (ls : Array Slot) (t0 : Int), inR t0 → fL_areAlike_J57 n σ x1 x2 t0 = some (r, σ2) → Wd D cy ad nm nv σ H → va_S (AW ad nm nv sz) s.heap H locs → lv_has ls 5 [(0, .ref (ad 0)), (1, .int (i32 x1)), (2, .int (i32 x2))] → W p l e ({ frames := 7, cells := 0, slots := 0, locals := 188 } : Room) s m args below meth c H locs 0 0 Q (F0 m 57 ls [.int (i32 t0)]) := by
    intro σ H locs ls t0 ht0 hf hW hS hl
    unfold fL_areAlike_J57 at hf
    refine lv_istore_n (lv' := [(3, .int (i32 t0)), (0, .ref (ad 0)), (1, .int (i32 x1)), (2, .int (i32 x2))]) hx hb dL_areAlike_57 rfl hl (by decide) rfl (fun ls hl => ?_)
    refine lv_iload_n hx hb dL_areAlike_58 rfl (lv_at hl 0 rfl) ?_
    refine m_if_eq (tgt := 92) hx hb ht0 hf dL_areAlike_59 (by decide) (fun hf => ?_) (fun hf => ?_)
    · skip
      refine m_const (v := 0) hx hb dL_areAlike_92 rfl ?_
      refine lv_istore_n (lv' := [(3, .int (i32 0)), (0, .ref (ad 0)), (1, .int (i32 x1)), (2, .int (i32 x2))]) hx hb dL_areAlike_93 rfl hl (by decide) rfl (fun ls hl => ?_)
      refine m_const (v := 0) hx hb dL_areAlike_94 rfl ?_
      refine lv_istore (lv' := [(4, .int (i32 0)), (3, .int (i32 0)), (0, .ref (ad 0)), (1, .int (i32 x1)), (2, .int (i32 x2))]) hx hb dL_areAlike_95 hl (by decide) rfl (fun ls hl => ?_)
      exact hc97 n _ _ _ _ 0 0 (by decide) (by decide) hf hW hS (lv_sub hl [2, 3, 4, 1, 0] rfl)
    · skip
      refine lv_aload_n hx hb dL_areAlike_62 rfl (lv_at hl 1 rfl) ?_
      refine lv_iload_n hx hb dL_areAlike_63 rfl (lv_at hl 2 rfl) ?_
      refine m_callVi (z := false) (As := [.int (i32 x1)]) (rest := []) X hW hS hl.1 gc_L_23 hd_X5_graves ⟨rfl, rfl, Nat.le_of_ble_eq_true rfl, Nat.le_of_ble_eq_true rfl⟩ (rc_X5 X hW) (fun v q9 q => ok0_X5_graves hx1 (zw_of q)) hf rfl rfl (Nat.le_of_ble_eq_true rfl) dL_areAlike_64 ⟨Nat.le_of_ble_eq_true rfl, Nat.le_of_ble_eq_true rfl⟩ (fun v18 σ17 H locs hv18 zv18 hW17 hS17 hf => ?_)
      refine lv_aload_n hx hb dL_areAlike_67 rfl (lv_at hl 1 rfl) ?_
      refine lv_iload_n hx hb dL_areAlike_68 rfl (lv_at hl 3 rfl) ?_
      refine m_callVi (z := false) (As := [.int (i32 x2)]) (rest := [.int (i32 v18)]) X hW17 hS17 hl.1 gc_L_23 hd_X5_graves ⟨rfl, rfl, Nat.le_of_ble_eq_true rfl, Nat.le_of_ble_eq_true rfl⟩ (rc_X5 X hW17) (fun v q9 q => ok0_X5_graves hx2 (zw_of q)) hf rfl rfl (Nat.le_of_ble_eq_true rfl) dL_areAlike_69 ⟨Nat.le_of_ble_eq_true rfl, Nat.le_of_ble_eq_true rfl⟩ (fun v20 σ19 H locs hv20 zv20 hW19 hS19 hf => ?_)
      refine m_icmp_ne (tgt := 92) hx hb hv18 hv20 hf dL_areAlike_72 (by decide) (fun hf => ?_) (fun hf => ?_)
      · skip
        refine m_const (v := 0) hx hb dL_areAlike_92 rfl ?_
        refine lv_istore_n (lv' := [(3, .int (i32 0)), (0, .ref (ad 0)), (1, .int (i32 x1)), (2, .int (i32 x2))]) hx hb dL_areAlike_93 rfl hl (by decide) rfl (fun ls hl => ?_)
        refine m_const (v := 0) hx hb dL_areAlike_94 rfl ?_
        refine lv_istore (lv' := [(4, .int (i32 0)), (3, .int (i32 0)), (0, .ref (ad 0)), (1, .int (i32 x1)), (2, .int (i32 x2))]) hx hb dL_areAlike_95 hl (by decide) rfl (fun ls hl => ?_)
        exact hc97 n _ _ _ _ 0 0 (by decide) (by decide) hf hW19 hS19 (lv_sub hl [2, 3, 4, 1, 0] rfl)
      · skip
        refine lv_aload_n hx hb dL_areAlike_75 rfl (lv_at hl 1 rfl) ?_
        refine lv_iload_n hx hb dL_areAlike_76 rfl (lv_at hl 2 rfl) ?_
        refine m_callVi (z := false) (As := [.int (i32 x1)]) (rest := []) X hW19 hS19 hl.1 gc_L_26 hd_X5_open ⟨rfl, rfl, Nat.le_of_ble_eq_true rfl, Nat.le_of_ble_eq_true rfl⟩ (rc_X5 X hW19) (fun v q9 q => ok0_X5_open hx1 (zw_of q)) hf rfl rfl (Nat.le_of_ble_eq_true rfl) dL_areAlike_77 ⟨Nat.le_of_ble_eq_true rfl, Nat.le_of_ble_eq_true rfl⟩ (fun v22 σ21 H locs hv22 zv22 hW21 hS21 hf => ?_)
        refine lv_aload_n hx hb dL_areAlike_80 rfl (lv_at hl 1 rfl) ?_
        refine lv_iload_n hx hb dL_areAlike_81 rfl (lv_at hl 3 rfl) ?_
        refine m_callVi (z := false) (As := [.int (i32 x2)]) (rest := [.int (i32 v22)]) X hW21 hS21 hl.1 gc_L_26 hd_X5_open ⟨rfl, rfl, Nat.le_of_ble_eq_true rfl, Nat.le_of_ble_eq_true rfl⟩ (rc_X5 X hW21) (fun v q9 q => ok0_X5_open hx2 (zw_of q)) hf rfl rfl (Nat.le_of_ble_eq_true rfl) dL_areAlike_82 ⟨Nat.le_of_ble_eq_true rfl, Nat.le_of_ble_eq_true rfl⟩ (fun v24 σ23 H locs hv24 zv24 hW23 hS23 hf => ?_)
        refine m_icmp_ne (tgt := 92) hx hb hv22 hv24 hf dL_areAlike_85 (by decide) (fun hf => ?_) (fun hf => ?_)
        · skip
          refine m_const (v := 0) hx hb dL_areAlike_92 rfl ?_
          refine lv_istore_n (lv' := [(3, .int (i32 0)), (0, .ref (ad 0)), (1, .int (i32 x1)), (2, .int (i32 x2))]) hx hb dL_areAlike_93 rfl hl (by decide) rfl (fun ls hl => ?_)
          refine m_const (v := 0) hx hb dL_areAlike_94 rfl ?_
          refine lv_istore (lv' := [(4, .int (i32 0)), (3, .int (i32 0)), (0, .ref (ad 0)), (1, .int (i32 x1)), (2, .int (i32 x2))]) hx hb dL_areAlike_95 hl (by decide) rfl (fun ls hl => ?_)
          exact hc97 n _ _ _ _ 0 0 (by decide) (by decide) hf hW23 hS23 (lv_sub hl [2, 3, 4, 1, 0] rfl)
        · skip
          refine m_const (v := 1) hx hb dL_areAlike_88 rfl ?_
          refine lv_goto (tgt := 93) hx hb dL_areAlike_89 (by decide) ?_
          refine lv_istore_n (lv' := [(3, .int (i32 1)), (0, .ref (ad 0)), (1, .int (i32 x1)), (2, .int (i32 x2))]) hx hb dL_areAlike_93 rfl hl (by decide) rfl (fun ls hl => ?_)
          refine m_const (v := 0) hx hb dL_areAlike_94 rfl ?_
          refine lv_istore (lv' := [(4, .int (i32 0)), (3, .int (i32 1)), (0, .ref (ad 0)), (1, .int (i32 x1)), (2, .int (i32 x2))]) hx hb dL_areAlike_95 hl (by decide) rfl (fun ls hl => ?_)
          exact hc97 n _ _ _ _ 1 0 (by decide) (by decide) hf hW23 hS23 (lv_sub hl [2, 3, 4, 1, 0] rfl)
  have hc56 : ∀ (σ : St) (H : Heap) (locs : List Loc) (ls : Array Slot), fL_areAlike_J56 n σ x1 x2 = some (r, σ2) → Wd D cy ad nm nv σ H → va_S (AW ad nm nv sz) s.heap H locs → lv_has ls 5 [(0, .ref (ad 0)), (1, .int (i32 x1)), (2, .int (i32 x2))] → W p l e ({ frames := 7, cells := 0, slots := 0, locals := 188 } : Room) s m args below meth c H locs 0 0 Q (F0 m 56 ls []) := by
    intro σ H locs ls hf hW hS hl
    unfold fL_areAlike_J56 at hf
    refine m_const (v := 0) hx hb dL_areAlike_56 rfl ?_
    exact hc57 _ _ _ _ 0 (by decide) hf hW hS (lv_sub hl [0, 1, 2] rfl)
  refine lv_aload_n hx hb dL_areAlike_0 rfl (lv_at hl 0 rfl) ?_
  refine lv_iload_n hx hb dL_areAlike_1 rfl (lv_at hl 1 rfl) ?_
  refine m_callVi (z := false) (As := [.int (i32 x1)]) (rest := []) X hW hS hl.1 gc_L_8 hd_X5_has ⟨rfl, rfl, Nat.le_of_ble_eq_true rfl, Nat.le_of_ble_eq_true rfl⟩ (rc_X5 X hW) (fun v q9 q => ok0_X5_has hx1 (zw_of q)) hf rfl rfl (Nat.le_of_ble_eq_true rfl) dL_areAlike_2 ⟨Nat.le_of_ble_eq_true rfl, Nat.le_of_ble_eq_true rfl⟩ (fun v2 σ1 H locs hv2 zv2 hW1 hS1 hf => ?_)
  refine lv_aload_n hx hb dL_areAlike_5 rfl (lv_at hl 0 rfl) ?_
  refine lv_iload_n hx hb dL_areAlike_6 rfl (lv_at hl 2 rfl) ?_
  refine m_callVi (z := false) (As := [.int (i32 x2)]) (rest := [.int (i32 v2)]) X hW1 hS1 hl.1 gc_L_8 hd_X5_has ⟨rfl, rfl, Nat.le_of_ble_eq_true rfl, Nat.le_of_ble_eq_true rfl⟩ (rc_X5 X hW1) (fun v q9 q => ok0_X5_has hx2 (zw_of q)) hf rfl rfl (Nat.le_of_ble_eq_true rfl) dL_areAlike_7 ⟨Nat.le_of_ble_eq_true rfl, Nat.le_of_ble_eq_true rfl⟩ (fun v4 σ3 H locs hv4 zv4 hW3 hS3 hf => ?_)
  refine m_icmp_ne (tgt := 56) hx hb hv2 hv4 hf dL_areAlike_10 (by decide) (fun hf => ?_) (fun hf => ?_)
  · skip
    exact hc56 _ _ _ _  hf hW3 hS3 (lv_sub hl [0, 1, 2] rfl)
  · skip
    refine lv_aload_n hx hb dL_areAlike_13 rfl (lv_at hl 0 rfl) ?_
    refine lv_iload_n hx hb dL_areAlike_14 rfl (lv_at hl 1 rfl) ?_
    refine m_callVi (z := false) (As := [.int (i32 x1)]) (rest := []) X hW3 hS3 hl.1 gc_L_14 hd_X5_length ⟨rfl, rfl, Nat.le_of_ble_eq_true rfl, Nat.le_of_ble_eq_true rfl⟩ (rc_X5 X hW3) (fun v q9 q => ok0_X5_length hx1 (zw_of q)) hf rfl rfl (Nat.le_of_ble_eq_true rfl) dL_areAlike_15 ⟨Nat.le_of_ble_eq_true rfl, Nat.le_of_ble_eq_true rfl⟩ (fun v6 σ5 H locs hv6 zv6 hW5 hS5 hf => ?_)
    refine lv_aload_n hx hb dL_areAlike_18 rfl (lv_at hl 0 rfl) ?_
    refine lv_iload_n hx hb dL_areAlike_19 rfl (lv_at hl 2 rfl) ?_
    refine m_callVi (z := false) (As := [.int (i32 x2)]) (rest := [.int (i32 v6)]) X hW5 hS5 hl.1 gc_L_14 hd_X5_length ⟨rfl, rfl, Nat.le_of_ble_eq_true rfl, Nat.le_of_ble_eq_true rfl⟩ (rc_X5 X hW5) (fun v q9 q => ok0_X5_length hx2 (zw_of q)) hf rfl rfl (Nat.le_of_ble_eq_true rfl) dL_areAlike_20 ⟨Nat.le_of_ble_eq_true rfl, Nat.le_of_ble_eq_true rfl⟩ (fun v8 σ7 H locs hv8 zv8 hW7 hS7 hf => ?_)
    refine m_icmp_ne (tgt := 56) hx hb hv6 hv8 hf dL_areAlike_23 (by decide) (fun hf => ?_) (fun hf => ?_)
    · skip
      exact hc56 _ _ _ _  hf hW7 hS7 (lv_sub hl [0, 1, 2] rfl)
    · skip
      refine lv_aload_n hx hb dL_areAlike_26 rfl (lv_at hl 0 rfl) ?_
      refine lv_iload_n hx hb dL_areAlike_27 rfl (lv_at hl 1 rfl) ?_
      refine m_callVi (z := false) (As := [.int (i32 x1)]) (rest := []) X hW7 hS7 hl.1 gc_L_17 hd_X5_shown ⟨rfl, rfl, Nat.le_of_ble_eq_true rfl, Nat.le_of_ble_eq_true rfl⟩ (rc_X5 X hW7) (fun v q9 q => ok0_X5_shown hx1 (zw_of q)) hf rfl rfl (Nat.le_of_ble_eq_true rfl) dL_areAlike_28 ⟨Nat.le_of_ble_eq_true rfl, Nat.le_of_ble_eq_true rfl⟩ (fun v10 σ9 H locs hv10 zv10 hW9 hS9 hf => ?_)
      refine lv_aload_n hx hb dL_areAlike_31 rfl (lv_at hl 0 rfl) ?_
      refine lv_iload_n hx hb dL_areAlike_32 rfl (lv_at hl 2 rfl) ?_
      refine m_callVi (z := false) (As := [.int (i32 x2)]) (rest := [.int (i32 v10)]) X hW9 hS9 hl.1 gc_L_17 hd_X5_shown ⟨rfl, rfl, Nat.le_of_ble_eq_true rfl, Nat.le_of_ble_eq_true rfl⟩ (rc_X5 X hW9) (fun v q9 q => ok0_X5_shown hx2 (zw_of q)) hf rfl rfl (Nat.le_of_ble_eq_true rfl) dL_areAlike_33 ⟨Nat.le_of_ble_eq_true rfl, Nat.le_of_ble_eq_true rfl⟩ (fun v12 σ11 H locs hv12 zv12 hW11 hS11 hf => ?_)
      refine m_icmp_ne (tgt := 56) hx hb hv10 hv12 hf dL_areAlike_36 (by decide) (fun hf => ?_) (fun hf => ?_)
      · skip
        exact hc56 _ _ _ _  hf hW11 hS11 (lv_sub hl [0, 1, 2] rfl)
      · skip
        refine lv_aload_n hx hb dL_areAlike_39 rfl (lv_at hl 0 rfl) ?_
        refine lv_iload_n hx hb dL_areAlike_40 rfl (lv_at hl 1 rfl) ?_
        refine m_callVi (z := false) (As := [.int (i32 x1)]) (rest := []) X hW11 hS11 hl.1 gc_L_20 hd_X5_blocks ⟨rfl, rfl, Nat.le_of_ble_eq_true rfl, Nat.le_of_ble_eq_true rfl⟩ (rc_X5 X hW11) (fun v q9 q => ok0_X5_blocks hx1 (zw_of q)) hf rfl rfl (Nat.le_of_ble_eq_true rfl) dL_areAlike_41 ⟨Nat.le_of_ble_eq_true rfl, Nat.le_of_ble_eq_true rfl⟩ (fun v14 σ13 H locs hv14 zv14 hW13 hS13 hf => ?_)
        refine lv_aload_n hx hb dL_areAlike_44 rfl (lv_at hl 0 rfl) ?_
        refine lv_iload_n hx hb dL_areAlike_45 rfl (lv_at hl 2 rfl) ?_
        refine m_callVi (z := false) (As := [.int (i32 x2)]) (rest := [.int (i32 v14)]) X hW13 hS13 hl.1 gc_L_20 hd_X5_blocks ⟨rfl, rfl, Nat.le_of_ble_eq_true rfl, Nat.le_of_ble_eq_true rfl⟩ (rc_X5 X hW13) (fun v q9 q => ok0_X5_blocks hx2 (zw_of q)) hf rfl rfl (Nat.le_of_ble_eq_true rfl) dL_areAlike_46 ⟨Nat.le_of_ble_eq_true rfl, Nat.le_of_ble_eq_true rfl⟩ (fun v16 σ15 H locs hv16 zv16 hW15 hS15 hf => ?_)
        refine m_icmp_ne (tgt := 56) hx hb hv14 hv16 hf dL_areAlike_49 (by decide) (fun hf => ?_) (fun hf => ?_)
        · skip
          exact hc56 _ _ _ _  hf hW15 hS15 (lv_sub hl [0, 1, 2] rfl)
        · skip
          refine m_const (v := 1) hx hb dL_areAlike_52 rfl ?_
          refine lv_goto (tgt := 57) hx hb dL_areAlike_53 (by decide) ?_
          exact hc57 _ _ _ _ 1 (by decide) hf hW15 hS15 (lv_sub hl [0, 1, 2] rfl)
set_option maxRecDepth 100000 in
set_option maxHeartbeats 4000000 in
theorem ok_L_isSite {l : Launch} {D : va_G} {cy : Nat → ClassId} {ad : Nat → Nat} {nm nv sz : Nat} {σ : St} {n : Nat} {x1 : Int} {x2 : Int} {r : Int} {σ2 : St} (hx1 : inR x1) (hx2 : inR x2) (hf : fL_isSite n σ x1 x2 = some (r, σ2)) : CI l yL_isSite cL_isSite 5 (some .boolean) ({ frames := 7, cells := 0, slots := 0, locals := 188 } : Room) [.ref (ad 0), .int (i32 x1), .int (i32 x2)] D cy ad nm nv sz σ true r σ2 := by
  refine m_entry RL rfl (by decide +kernel) (Nat.le_of_ble_eq_true rfl) ?_
  intro p e s m args below meth c Q hQ hr hlocks X hW hS ls hl
  have hx := X.1
  have hb := X.2.1
  have hl : lv_has ls 5 [(0, .ref (ad 0)), (1, .int (i32 x1)), (2, .int (i32 x2))] := hl
  unfold fL_isSite at hf
  have hc103 : ∀ (σ : St) (H : Heap) (locs : List Loc) (ls : Array Slot) (x3 : Int) (t0 : Int), inR x3 → inR t0 → fL_isSite_J103 n σ x1 x2 x3 t0 = some (r, σ2) → Wd D cy ad nm nv σ H → va_S (AW ad nm nv sz) s.heap H locs → lv_has ls 5 [(0, .ref (ad 0)), (1, .int (i32 x1)), (2, .int (i32 x2)), (3, .int (i32 x3))] → W p l e ({ frames := 7, cells := 0, slots := 0, locals := 188 } : Room) s m args below meth c H locs 0 0 Q (F0 m 103 ls [.int (i32 t0)]) := by
    intro σ H locs ls x3 t0 hx3 ht0 hf hW hS hl
    unfold fL_isSite_J103 at hf
    refine lv_istore (lv' := [(4, .int (i32 t0)), (0, .ref (ad 0)), (1, .int (i32 x1)), (2, .int (i32 x2)), (3, .int (i32 x3))]) hx hb dL_isSite_103 hl (by decide) rfl (fun ls hl => ?_)
    refine lv_iload hx hb dL_isSite_105 (lv_at hl 0 rfl) ?_
    refine m_if_eq (tgt := 137) hx hb ht0 hf dL_isSite_107 (by decide) (fun hf => ?_) (fun hf => ?_)
    · skip
      refine m_const (v := 0) hx hb dL_isSite_137 rfl ?_
      exact m_ireti X hr hlocks (nar_b (Or.inl rfl)).1 (by decide) (fun _ => (Or.inl rfl)) hW hS (congrArg Prod.fst (Option.some.inj hf)) (congrArg Prod.snd (Option.some.inj hf)) hQ dL_isSite_138
    · skip
      refine lv_iload_n hx hb dL_isSite_110 rfl (lv_at hl 4 rfl) ?_
      refine m_if_eq (tgt := 133) hx hb hx3 hf dL_isSite_111 (by decide) (fun hf => ?_) (fun hf => ?_)
      · skip
        refine m_const (v := 1) hx hb dL_isSite_133 rfl ?_
        refine lv_goto (tgt := 138) hx hb dL_isSite_134 (by decide) ?_
        exact m_ireti X hr hlocks (nar_b (Or.inr rfl)).1 (by decide) (fun _ => (Or.inr rfl)) hW hS (congrArg Prod.fst (Option.some.inj hf)) (congrArg Prod.snd (Option.some.inj hf)) hQ dL_isSite_138
      · skip
        refine lv_aload_n hx hb dL_isSite_114 rfl (lv_at hl 1 rfl) ?_
        refine lv_iload_n hx hb dL_isSite_115 rfl (lv_at hl 2 rfl) ?_
        refine lv_iload_n hx hb dL_isSite_116 rfl (lv_at hl 3 rfl) ?_
        refine lv_iload_n hx hb dL_isSite_117 rfl (lv_at hl 4 rfl) ?_
        refine m_irem hx hb hf dL_isSite_118 (fun v23 hv23 hf => ?_)
        refine m_callVi (z := false) (As := [.int (i32 x1), .int (i32 v23)]) (rest := []) X hW hS hl.1 gc_L_29 hd_X5_element ⟨rfl, rfl, Nat.le_of_ble_eq_true rfl, Nat.le_of_ble_eq_true rfl⟩ (rc_X5 X hW) (fun v q9 q => ok0_X5_element hx1 hv23 (zw_of q)) hf rfl rfl (Nat.le_of_ble_eq_true rfl) dL_isSite_119 ⟨Nat.le_of_ble_eq_true rfl, Nat.le_of_ble_eq_true rfl⟩ (fun v25 σ24 H locs hv25 zv25 hW24 hS24 hf => ?_)
        refine lv_aload_n hx hb dL_isSite_122 rfl (lv_at hl 1 rfl) ?_
        refine lv_iload_n hx hb dL_isSite_123 rfl (lv_at hl 2 rfl) ?_
        refine lv_iload_n hx hb dL_isSite_124 rfl (lv_at hl 3 rfl) ?_
        refine lv_iload_n hx hb dL_isSite_125 rfl (lv_at hl 4 rfl) ?_
        refine m_irem hx hb hf dL_isSite_126 (fun v26 hv26 hf => ?_)
        refine m_callVi (z := false) (As := [.int (i32 x1), .int (i32 v26)]) (rest := [.int (i32 v25)]) X hW24 hS24 hl.1 gc_L_59 hd_X5_elementAnew ⟨rfl, rfl, Nat.le_of_ble_eq_true rfl, Nat.le_of_ble_eq_true rfl⟩ (rc_X5 X hW24) (fun v q9 q => ok0_X5_elementAnew hx1 hv26 (zw_of q)) hf rfl rfl (Nat.le_of_ble_eq_true rfl) dL_isSite_127 ⟨Nat.le_of_ble_eq_true rfl, Nat.le_of_ble_eq_true rfl⟩ (fun v28 σ27 H locs hv28 zv28 hW27 hS27 hf => ?_)
        refine m_icmp_ne (tgt := 137) hx hb hv25 hv28 hf dL_isSite_130 (by decide) (fun hf => ?_) (fun hf => ?_)
        · skip
          refine m_const (v := 0) hx hb dL_isSite_137 rfl ?_
          exact m_ireti X hr hlocks (nar_b (Or.inl rfl)).1 (by decide) (fun _ => (Or.inl rfl)) hW27 hS27 (congrArg Prod.fst (Option.some.inj hf)) (congrArg Prod.snd (Option.some.inj hf)) hQ dL_isSite_138
        · skip
          refine m_const (v := 1) hx hb dL_isSite_133 rfl ?_
          refine lv_goto (tgt := 138) hx hb dL_isSite_134 (by decide) ?_
          exact m_ireti X hr hlocks (nar_b (Or.inr rfl)).1 (by decide) (fun _ => (Or.inr rfl)) hW27 hS27 (congrArg Prod.fst (Option.some.inj hf)) (congrArg Prod.snd (Option.some.inj hf)) hQ dL_isSite_138
  have hc102 : ∀ (σ : St) (H : Heap) (locs : List Loc) (ls : Array Slot) (x3 : Int), inR x3 → fL_isSite_J102 n σ x1 x2 x3 = some (r, σ2) → Wd D cy ad nm nv σ H → va_S (AW ad nm nv sz) s.heap H locs → lv_has ls 5 [(0, .ref (ad 0)), (1, .int (i32 x1)), (2, .int (i32 x2)), (3, .int (i32 x3))] → W p l e ({ frames := 7, cells := 0, slots := 0, locals := 188 } : Room) s m args below meth c H locs 0 0 Q (F0 m 102 ls []) := by
    intro σ H locs ls x3 hx3 hf hW hS hl
    unfold fL_isSite_J102 at hf
    refine m_const (v := 0) hx hb dL_isSite_102 rfl ?_
    exact hc103 _ _ _ _ x3 0 hx3 (by decide) hf hW hS (lv_sub hl [0, 1, 2, 3] rfl)
  have hc59 : ∀ (σ : St) (H : Heap) (locs : List Loc) (ls : Array Slot) (x3 : Int) (t0 : Int), inR x3 → inR t0 → fL_isSite_J59 n σ x1 x2 x3 t0 = some (r, σ2) → Wd D cy ad nm nv σ H → va_S (AW ad nm nv sz) s.heap H locs → lv_has ls 5 [(0, .ref (ad 0)), (1, .int (i32 x1)), (2, .int (i32 x2)), (3, .int (i32 x3))] → W p l e ({ frames := 7, cells := 0, slots := 0, locals := 188 } : Room) s m args below meth c H locs 0 0 Q (F0 m 59 ls [.int (i32 t0)]) := by
    intro σ H locs ls x3 t0 hx3 ht0 hf hW hS hl
    unfold fL_isSite_J59 at hf
    refine lv_istore (lv' := [(4, .int (i32 t0)), (0, .ref (ad 0)), (1, .int (i32 x1)), (2, .int (i32 x2)), (3, .int (i32 x3))]) hx hb dL_isSite_59 hl (by decide) rfl (fun ls hl => ?_)
    refine lv_iload hx hb dL_isSite_61 (lv_at hl 0 rfl) ?_
    refine m_if_eq (tgt := 102) hx hb ht0 hf dL_isSite_63 (by decide) (fun hf => ?_) (fun hf => ?_)
    · skip
      exact hc102 _ _ _ _ x3 hx3 hf hW hS (lv_sub hl [1, 2, 3, 4] rfl)
    · skip
      refine lv_aload_n hx hb dL_isSite_66 rfl (lv_at hl 1 rfl) ?_
      refine lv_iload_n hx hb dL_isSite_67 rfl (lv_at hl 2 rfl) ?_
      refine m_callVi (z := false) (As := [.int (i32 x1)]) (rest := []) X hW hS hl.1 gc_L_20 hd_X5_blocks ⟨rfl, rfl, Nat.le_of_ble_eq_true rfl, Nat.le_of_ble_eq_true rfl⟩ (rc_X5 X hW) (fun v q9 q => ok0_X5_blocks hx1 (zw_of q)) hf rfl rfl (Nat.le_of_ble_eq_true rfl) dL_isSite_68 ⟨Nat.le_of_ble_eq_true rfl, Nat.le_of_ble_eq_true rfl⟩ (fun v16 σ15 H locs hv16 zv16 hW15 hS15 hf => ?_)
      refine m_const (v := 1) hx hb dL_isSite_71 rfl ?_
      refine m_icmp_lt (tgt := 102) hx hb hv16 (by decide) hf dL_isSite_72 (by decide) (fun hf => ?_) (fun hf => ?_)
      · skip
        exact hc102 _ _ _ _ x3 hx3 hf hW15 hS15 (lv_sub hl [1, 2, 3, 4] rfl)
      · skip
        refine lv_aload_n hx hb dL_isSite_75 rfl (lv_at hl 1 rfl) ?_
        refine lv_iload_n hx hb dL_isSite_76 rfl (lv_at hl 2 rfl) ?_
        refine m_const (v := 0) hx hb dL_isSite_77 rfl ?_
        refine m_callVi (z := false) (As := [.int (i32 x1), .int (i32 0)]) (rest := []) X hW15 hS15 hl.1 gc_L_53 hd_X5_depth ⟨rfl, rfl, Nat.le_of_ble_eq_true rfl, Nat.le_of_ble_eq_true rfl⟩ (rc_X5 X hW15) (fun v q9 q => ok0_X5_depth hx1 (by decide) (zw_of q)) hf rfl rfl (Nat.le_of_ble_eq_true rfl) dL_isSite_78 ⟨Nat.le_of_ble_eq_true rfl, Nat.le_of_ble_eq_true rfl⟩ (fun v18 σ17 H locs hv18 zv18 hW17 hS17 hf => ?_)
        refine lv_aload_n hx hb dL_isSite_81 rfl (lv_at hl 1 rfl) ?_
        refine lv_iload_n hx hb dL_isSite_82 rfl (lv_at hl 2 rfl) ?_
        refine m_callVi (z := false) (As := [.int (i32 x1)]) (rest := [.int (i32 v18)]) X hW17 hS17 hl.1 gc_L_20 hd_X5_blocks ⟨rfl, rfl, Nat.le_of_ble_eq_true rfl, Nat.le_of_ble_eq_true rfl⟩ (rc_X5 X hW17) (fun v q9 q => ok0_X5_blocks hx1 (zw_of q)) hf rfl rfl (Nat.le_of_ble_eq_true rfl) dL_isSite_83 ⟨Nat.le_of_ble_eq_true rfl, Nat.le_of_ble_eq_true rfl⟩ (fun v20 σ19 H locs hv20 zv20 hW19 hS19 hf => ?_)
        refine m_icmp_ge (tgt := 102) hx hb hv18 hv20 hf dL_isSite_86 (by decide) (fun hf => ?_) (fun hf => ?_)
        · skip
          exact hc102 _ _ _ _ x3 hx3 hf hW19 hS19 (lv_sub hl [1, 2, 3, 4] rfl)
        · skip
          refine lv_aload_n hx hb dL_isSite_89 rfl (lv_at hl 1 rfl) ?_
          refine m_const (v := 0) hx hb dL_isSite_90 rfl ?_
          refine m_const (v := 0) hx hb dL_isSite_91 rfl ?_
          refine m_callVi (z := false) (As := [.int (i32 0), .int (i32 0)]) (rest := []) X hW19 hS19 hl.1 gc_L_56 hd_X5_level ⟨rfl, rfl, Nat.le_of_ble_eq_true rfl, Nat.le_of_ble_eq_true rfl⟩ (rc_X5 X hW19) (fun v q9 q => ok0_X5_level (by decide) (by decide) (zw_of q)) hf rfl rfl (Nat.le_of_ble_eq_true rfl) dL_isSite_92 ⟨Nat.le_of_ble_eq_true rfl, Nat.le_of_ble_eq_true rfl⟩ (fun v22 σ21 H locs hv22 zv22 hW21 hS21 hf => ?_)
          refine m_if_ne (tgt := 102) hx hb hv22 hf dL_isSite_95 (by decide) (fun hf => ?_) (fun hf => ?_)
          · skip
            exact hc102 _ _ _ _ x3 hx3 hf hW21 hS21 (lv_sub hl [1, 2, 3, 4] rfl)
          · skip
            refine m_const (v := 1) hx hb dL_isSite_98 rfl ?_
            refine lv_goto (tgt := 103) hx hb dL_isSite_99 (by decide) ?_
            exact hc103 _ _ _ _ x3 1 hx3 (by decide) hf hW21 hS21 (lv_sub hl [1, 2, 3, 4] rfl)
  have hc58 : ∀ (σ : St) (H : Heap) (locs : List Loc) (ls : Array Slot) (x3 : Int), inR x3 → fL_isSite_J58 n σ x1 x2 x3 = some (r, σ2) → Wd D cy ad nm nv σ H → va_S (AW ad nm nv sz) s.heap H locs → lv_has ls 5 [(0, .ref (ad 0)), (1, .int (i32 x1)), (2, .int (i32 x2)), (3, .int (i32 x3))] → W p l e ({ frames := 7, cells := 0, slots := 0, locals := 188 } : Room) s m args below meth c H locs 0 0 Q (F0 m 58 ls []) := by
    intro σ H locs ls x3 hx3 hf hW hS hl
    unfold fL_isSite_J58 at hf
    refine m_const (v := 0) hx hb dL_isSite_58 rfl ?_
    exact hc59 _ _ _ _ x3 0 hx3 (by decide) hf hW hS (lv_sub hl [0, 1, 2, 3] rfl)
  refine lv_aload_n hx hb dL_isSite_0 rfl (lv_at hl 0 rfl) ?_
  refine lv_iload_n hx hb dL_isSite_1 rfl (lv_at hl 1 rfl) ?_
  refine m_callVi (z := false) (As := [.int (i32 x1)]) (rest := []) X hW hS hl.1 gc_L_14 hd_X5_length ⟨rfl, rfl, Nat.le_of_ble_eq_true rfl, Nat.le_of_ble_eq_true rfl⟩ (rc_X5 X hW) (fun v q9 q => ok0_X5_length hx1 (zw_of q)) hf rfl rfl (Nat.le_of_ble_eq_true rfl) dL_isSite_2 ⟨Nat.le_of_ble_eq_true rfl, Nat.le_of_ble_eq_true rfl⟩ (fun v2 σ1 H locs hv2 zv2 hW1 hS1 hf => ?_)
  refine lv_istore_n (lv' := [(3, .int (i32 v2)), (0, .ref (ad 0)), (1, .int (i32 x1)), (2, .int (i32 x2))]) hx hb dL_isSite_5 rfl hl (by decide) rfl (fun ls hl => ?_)
  refine lv_aload_n hx hb dL_isSite_6 rfl (lv_at hl 1 rfl) ?_
  refine lv_iload_n hx hb dL_isSite_7 rfl (lv_at hl 2 rfl) ?_
  refine m_callVi (z := false) (As := [.int (i32 x1)]) (rest := []) X hW1 hS1 hl.1 gc_L_17 hd_X5_shown ⟨rfl, rfl, Nat.le_of_ble_eq_true rfl, Nat.le_of_ble_eq_true rfl⟩ (rc_X5 X hW1) (fun v q9 q => ok0_X5_shown hx1 (zw_of q)) hf rfl rfl (Nat.le_of_ble_eq_true rfl) dL_isSite_8 ⟨Nat.le_of_ble_eq_true rfl, Nat.le_of_ble_eq_true rfl⟩ (fun v4 σ3 H locs hv4 zv4 hW3 hS3 hf => ?_)
  refine lv_iload_n hx hb dL_isSite_11 rfl (lv_at hl 0 rfl) ?_
  refine m_icmp_gt (tgt := 58) hx hb hv4 hv2 hf dL_isSite_12 (by decide) (fun hf => ?_) (fun hf => ?_)
  · skip
    exact hc58 _ _ _ _ v2 hv2 hf hW3 hS3 (lv_sub hl [1, 2, 3, 0] rfl)
  · skip
    refine lv_aload_n hx hb dL_isSite_15 rfl (lv_at hl 1 rfl) ?_
    refine lv_iload_n hx hb dL_isSite_16 rfl (lv_at hl 2 rfl) ?_
    refine m_callVi (z := false) (As := [.int (i32 x1)]) (rest := []) X hW3 hS3 hl.1 gc_L_44 hd_X5_cursor ⟨rfl, rfl, Nat.le_of_ble_eq_true rfl, Nat.le_of_ble_eq_true rfl⟩ (rc_X5 X hW3) (fun v q9 q => ok0_X5_cursor hx1 (zw_of q)) hf rfl rfl (Nat.le_of_ble_eq_true rfl) dL_isSite_17 ⟨Nat.le_of_ble_eq_true rfl, Nat.le_of_ble_eq_true rfl⟩ (fun v6 σ5 H locs hv6 zv6 hW5 hS5 hf => ?_)
    refine m_if_lt (tgt := 58) hx hb hv6 hf dL_isSite_20 (by decide) (fun hf => ?_) (fun hf => ?_)
    · skip
      exact hc58 _ _ _ _ v2 hv2 hf hW5 hS5 (lv_sub hl [1, 2, 3, 0] rfl)
    · skip
      refine lv_aload_n hx hb dL_isSite_23 rfl (lv_at hl 1 rfl) ?_
      refine lv_iload_n hx hb dL_isSite_24 rfl (lv_at hl 2 rfl) ?_
      refine m_callVi (z := false) (As := [.int (i32 x1)]) (rest := []) X hW5 hS5 hl.1 gc_L_44 hd_X5_cursor ⟨rfl, rfl, Nat.le_of_ble_eq_true rfl, Nat.le_of_ble_eq_true rfl⟩ (rc_X5 X hW5) (fun v q9 q => ok0_X5_cursor hx1 (zw_of q)) hf rfl rfl (Nat.le_of_ble_eq_true rfl) dL_isSite_25 ⟨Nat.le_of_ble_eq_true rfl, Nat.le_of_ble_eq_true rfl⟩ (fun v8 σ7 H locs hv8 zv8 hW7 hS7 hf => ?_)
      refine lv_iload_n hx hb dL_isSite_28 rfl (lv_at hl 0 rfl) ?_
      refine m_icmp_gt (tgt := 58) hx hb hv8 hv2 hf dL_isSite_29 (by decide) (fun hf => ?_) (fun hf => ?_)
      · skip
        exact hc58 _ _ _ _ v2 hv2 hf hW7 hS7 (lv_sub hl [1, 2, 3, 0] rfl)
      · skip
        refine lv_aload_n hx hb dL_isSite_32 rfl (lv_at hl 1 rfl) ?_
        refine lv_iload_n hx hb dL_isSite_33 rfl (lv_at hl 2 rfl) ?_
        refine m_callVi (z := false) (As := [.int (i32 x1)]) (rest := []) X hW7 hS7 hl.1 gc_L_47 hd_X5_tail ⟨rfl, rfl, Nat.le_of_ble_eq_true rfl, Nat.le_of_ble_eq_true rfl⟩ (rc_X5 X hW7) (fun v q9 q => ok0_X5_tail hx1 (zw_of q)) hf rfl rfl (Nat.le_of_ble_eq_true rfl) dL_isSite_34 ⟨Nat.le_of_ble_eq_true rfl, Nat.le_of_ble_eq_true rfl⟩ (fun v10 σ9 H locs hv10 zv10 hW9 hS9 hf => ?_)
        refine lv_iload_n hx hb dL_isSite_37 rfl (lv_at hl 0 rfl) ?_
        refine m_icmp_gt (tgt := 58) hx hb hv10 hv2 hf dL_isSite_38 (by decide) (fun hf => ?_) (fun hf => ?_)
        · skip
          exact hc58 _ _ _ _ v2 hv2 hf hW9 hS9 (lv_sub hl [1, 2, 3, 0] rfl)
        · skip
          refine lv_aload_n hx hb dL_isSite_41 rfl (lv_at hl 1 rfl) ?_
          refine lv_iload_n hx hb dL_isSite_42 rfl (lv_at hl 2 rfl) ?_
          refine m_callVi (z := false) (As := [.int (i32 x1)]) (rest := []) X hW9 hS9 hl.1 gc_L_50 hd_X5_buried ⟨rfl, rfl, Nat.le_of_ble_eq_true rfl, Nat.le_of_ble_eq_true rfl⟩ (rc_X5 X hW9) (fun v q9 q => ok0_X5_buried hx1 (zw_of q)) hf rfl rfl (Nat.le_of_ble_eq_true rfl) dL_isSite_43 ⟨Nat.le_of_ble_eq_true rfl, Nat.le_of_ble_eq_true rfl⟩ (fun v12 σ11 H locs hv12 zv12 hW11 hS11 hf => ?_)
          refine lv_aload_n hx hb dL_isSite_46 rfl (lv_at hl 1 rfl) ?_
          refine lv_iload_n hx hb dL_isSite_47 rfl (lv_at hl 2 rfl) ?_
          refine m_callVi (z := false) (As := [.int (i32 x1)]) (rest := [.int (i32 v12)]) X hW11 hS11 hl.1 gc_L_23 hd_X5_graves ⟨rfl, rfl, Nat.le_of_ble_eq_true rfl, Nat.le_of_ble_eq_true rfl⟩ (rc_X5 X hW11) (fun v q9 q => ok0_X5_graves hx1 (zw_of q)) hf rfl rfl (Nat.le_of_ble_eq_true rfl) dL_isSite_48 ⟨Nat.le_of_ble_eq_true rfl, Nat.le_of_ble_eq_true rfl⟩ (fun v14 σ13 H locs hv14 zv14 hW13 hS13 hf => ?_)
          refine m_icmp_gt (tgt := 58) hx hb hv12 hv14 hf dL_isSite_51 (by decide) (fun hf => ?_) (fun hf => ?_)
          · skip
            exact hc58 _ _ _ _ v2 hv2 hf hW13 hS13 (lv_sub hl [1, 2, 3, 0] rfl)
          · skip
            refine m_const (v := 1) hx hb dL_isSite_54 rfl ?_
            refine lv_goto (tgt := 59) hx hb dL_isSite_55 (by decide) ?_
            exact hc59 _ _ _ _ v2 1 hv2 (by decide) hf hW13 hS13 (lv_sub hl [1, 2, 3, 0] rfl)
