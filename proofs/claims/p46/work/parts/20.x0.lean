theorem gc_X0_19 : GoodIn GW (wsV RX0 19 RX0 yX0_contains (wsG yX0_contains cX0_contains 2 (some .boolean))) := cg_V mw659 mw332 mw333 mw4 mw334
theorem hd_X0_contains : yX0_contains.cls = RX0 ∧ yX0_contains.cls ≠ "java/lang/invoke/MethodHandle" ∧ yX0_contains.cls ≠ "java/lang/invoke/VarHandle" ∧ (parseMethodDescriptor yX0_contains.desc).map (fun d => d.parameters.length) = some 1 := by decide +kernel
noncomputable def fX0_contains (σ : St) (a0 : Nat) (x1 : Int) : Option Int := if x1 < 0 then (some 0) else (if 160 ≤ x1 then (some 0) else (rd σ (a0 + 1) 160 x1 (fun v1 => if v1 = 0 then (some 0) else (some 1))))
noncomputable def fX0_add (σ : St) (a0 : Nat) (x1 : Int) : Option St := if x1 < 0 then (some σ) else (if 160 ≤ x1 then (some σ) else (rd σ (a0 + 1) 160 x1 (fun v1 => if v1 ≠ 0 then (some σ) else (wrb σ (a0 + 1) 160 x1 1 (fun σ2 => ck ((σ2 a0 1) + 1) (fun v3 => pf σ2 a0 1 v3 (fun σ4 => some σ4)))))))
noncomputable def fX0_clear_L2s (n : Nat) (a0 : Nat) (lp2 : (St → Int → Option St)) : St → Int → Option St := fun σ x1 => if 160 ≤ x1 then (pf σ a0 1 0 (fun σ1 => some σ1)) else (wrb σ (a0 + 1) 160 x1 0 (fun σ2 => ck (x1 + 1) (fun v3 => lp2 σ2 v3)))
noncomputable def fX0_clear_L2 (n : Nat) (a0 : Nat) (k : Nat) : St → Int → Option St := lpR (fun _ _ => none) (fX0_clear_L2s n a0) k
noncomputable def fX0_clear (n : Nat) (σ : St) (a0 : Nat) : Option St := fX0_clear_L2 n a0 n σ 0
noncomputable def fX0_copyFrom_L2s (n : Nat) (a0 : Nat) (o1 : Nat) (lp2 : (St → Int → Option St)) : St → Int → Option St := fun σ x2 => if 160 ≤ x2 then (pf σ a0 1 (σ o1 1) (fun σ1 => some σ1)) else (b1 (fX0_contains σ o1 x2) (fun v2 => wrb σ (a0 + 1) 160 x2 v2 (fun σ3 => ck (x2 + 1) (fun v4 => lp2 σ3 v4))))
noncomputable def fX0_copyFrom_L2 (n : Nat) (a0 : Nat) (o1 : Nat) (k : Nat) : St → Int → Option St := lpR (fun _ _ => none) (fX0_copyFrom_L2s n a0 o1) k
noncomputable def fX0_copyFrom (n : Nat) (σ : St) (a0 : Nat) (o1 : Nat) : Option St := fX0_copyFrom_L2 n a0 o1 n σ 0
set_option maxRecDepth 100000 in
set_option maxHeartbeats 4000000 in
theorem ok_X0_contains {l : Launch} {D : va_G} {cy : Nat → ClassId} {ad : Nat → Nat} {nm nv sz : Nat} {σ : St} {a0 : Nat} {x1 : Int} {r : Int} (ha0 : isSet nm nv a0) (hx1 : inR x1) (hf : fX0_contains σ a0 x1 = some r) : CI l yX0_contains cX0_contains 2 (some .boolean) ({ frames := 0, cells := 0, slots := 0, locals := 0 } : Room) [.ref (ad a0), .int (i32 x1)] D cy ad nm nv sz σ true r σ := by
  refine m_entry RX0 rfl (by decide +kernel) (Nat.le_of_ble_eq_true rfl) ?_
  intro p e s m args below meth c Q hQ hr hlocks X hW hS ls hl
  have hx := X.1
  have hb := X.2.1
  have hl : lv_has ls 2 [(0, .ref (ad a0)), (1, .int (i32 x1))] := hl
  unfold fX0_contains at hf
  refine lv_iload_n hx hb dX0_contains_0 rfl (lv_at hl 1 rfl) ?_
  refine m_if_lt (tgt := 26) hx hb hx1 hf dX0_contains_1 (by decide) (fun hf => ?_) (fun hf => ?_)
  · skip
    refine m_const (v := 0) hx hb dX0_contains_26 rfl ?_
    exact m_ireti X hr hlocks (nar_b (Or.inl rfl)).1 (by decide) (fun _ => (Or.inl rfl)) hW hS (Option.some.inj hf) rfl hQ dX0_contains_27
  · skip
    refine lv_iload_n hx hb dX0_contains_4 rfl (lv_at hl 1 rfl) ?_
    refine lv_aload_n hx hb dX0_contains_5 rfl (lv_at hl 0 rfl) ?_
    refine g_X0_members X hW ha0 (X.2.2.2.2.1 _ mw78) dX0_contains_6 ?_
    refine m_alen (v := 160) 1 X hW (a_X0_members ha0) ent_2 rfl rfl rfl dX0_contains_9 ?_
    refine m_icmp_ge (tgt := 26) hx hb hx1 (by decide) hf dX0_contains_10 (by decide) (fun hf => ?_) (fun hf => ?_)
    · skip
      refine m_const (v := 0) hx hb dX0_contains_26 rfl ?_
      exact m_ireti X hr hlocks (nar_b (Or.inl rfl)).1 (by decide) (fun _ => (Or.inl rfl)) hW hS (Option.some.inj hf) rfl hQ dX0_contains_27
    · skip
      refine lv_aload_n hx hb dX0_contains_13 rfl (lv_at hl 0 rfl) ?_
      refine g_X0_members X hW ha0 (X.2.2.2.2.1 _ mw78) dX0_contains_14 ?_
      refine lv_iload_n hx hb dX0_contains_17 rfl (lv_at hl 1 rfl) ?_
      refine m_zald X hW (a_X0_members ha0) hx1 hf dX0_contains_18 (fun v1 hv1 hf => ?_)
      refine m_if_eq (tgt := 26) hx hb hv1 hf dX0_contains_19 (by decide) (fun hf => ?_) (fun hf => ?_)
      · skip
        refine m_const (v := 0) hx hb dX0_contains_26 rfl ?_
        exact m_ireti X hr hlocks (nar_b (Or.inl rfl)).1 (by decide) (fun _ => (Or.inl rfl)) hW hS (Option.some.inj hf) rfl hQ dX0_contains_27
      · skip
        refine m_const (v := 1) hx hb dX0_contains_22 rfl ?_
        refine lv_goto (tgt := 27) hx hb dX0_contains_23 (by decide) ?_
        exact m_ireti X hr hlocks (nar_b (Or.inr rfl)).1 (by decide) (fun _ => (Or.inr rfl)) hW hS (Option.some.inj hf) rfl hQ dX0_contains_27
set_option maxRecDepth 100000 in
set_option maxHeartbeats 4000000 in
theorem ok_X0_add {l : Launch} {D : va_G} {cy : Nat → ClassId} {ad : Nat → Nat} {nm nv sz : Nat} {σ : St} {a0 : Nat} {x1 : Int} {σ2 : St} (ha0 : isSet nm nv a0) (hx1 : inR x1) (hf : fX0_add σ a0 x1 = some σ2) : CV l yX0_add cX0_add 2 none ({ frames := 0, cells := 0, slots := 0, locals := 0 } : Room) [.ref (ad a0), .int (i32 x1)] D cy ad nm nv sz σ σ2 := by
  refine m_entry RX0 rfl (by decide +kernel) (Nat.le_of_ble_eq_true rfl) ?_
  intro p e s m args below meth c Q hQ hr hlocks X hW hS ls hl
  have hx := X.1
  have hb := X.2.1
  have hl : lv_has ls 2 [(0, .ref (ad a0)), (1, .int (i32 x1))] := hl
  unfold fX0_add at hf
  refine lv_iload_n hx hb dX0_add_0 rfl (lv_at hl 1 rfl) ?_
  refine m_if_lt (tgt := 39) hx hb hx1 hf dX0_add_1 (by decide) (fun hf => ?_) (fun hf => ?_)
  · skip
    exact m_vret X hr hlocks hW hS (Option.some.inj hf) hQ dX0_add_39
  · skip
    refine lv_iload_n hx hb dX0_add_4 rfl (lv_at hl 1 rfl) ?_
    refine lv_aload_n hx hb dX0_add_5 rfl (lv_at hl 0 rfl) ?_
    refine g_X0_members X hW ha0 (X.2.2.2.2.1 _ mw78) dX0_add_6 ?_
    refine m_alen (v := 160) 1 X hW (a_X0_members ha0) ent_2 rfl rfl rfl dX0_add_9 ?_
    refine m_icmp_ge (tgt := 39) hx hb hx1 (by decide) hf dX0_add_10 (by decide) (fun hf => ?_) (fun hf => ?_)
    · skip
      exact m_vret X hr hlocks hW hS (Option.some.inj hf) hQ dX0_add_39
    · skip
      refine lv_aload_n hx hb dX0_add_13 rfl (lv_at hl 0 rfl) ?_
      refine g_X0_members X hW ha0 (X.2.2.2.2.1 _ mw78) dX0_add_14 ?_
      refine lv_iload_n hx hb dX0_add_17 rfl (lv_at hl 1 rfl) ?_
      refine m_zald X hW (a_X0_members ha0) hx1 hf dX0_add_18 (fun v1 hv1 hf => ?_)
      refine m_if_ne (tgt := 39) hx hb hv1 hf dX0_add_19 (by decide) (fun hf => ?_) (fun hf => ?_)
      · skip
        exact m_vret X hr hlocks hW hS (Option.some.inj hf) hQ dX0_add_39
      · skip
        refine lv_aload_n hx hb dX0_add_22 rfl (lv_at hl 0 rfl) ?_
        refine g_X0_members X hW ha0 (X.2.2.2.2.1 _ mw78) dX0_add_23 ?_
        refine lv_iload_n hx hb dX0_add_26 rfl (lv_at hl 1 rfl) ?_
        refine m_const (v := 1) hx hb dX0_add_27 rfl ?_
        refine m_zast X hW hS (a_X0_members ha0) hx1 (by decide) hf dX0_add_28 (fun σ2 H locs hW2 hS2 hf => ?_)
        refine lv_aload_n hx hb dX0_add_29 rfl (lv_at hl 0 rfl) ?_
        refine lv_dup hx hb dX0_add_30 rfl ?_
        refine g_X0_size X hW2 ha0 (X.2.2.2.2.1 _ mw80) dX0_add_31 ?_
        refine m_const (v := 1) hx hb dX0_add_34 rfl ?_
        refine m_iadd hx hb hf dX0_add_35 (fun v3 hv3 hf => ?_)
        refine p_X0_size X hW2 hS2 ha0 hv3 hf (X.2.2.2.2.1 _ mw80) dX0_add_36 (fun σ4 H locs hW4 hS4 hf => ?_)
        exact m_vret X hr hlocks hW4 hS4 (Option.some.inj hf) hQ dX0_add_39
set_option maxRecDepth 100000 in
set_option maxHeartbeats 4000000 in
theorem ok_X0_clear {l : Launch} {D : va_G} {cy : Nat → ClassId} {ad : Nat → Nat} {nm nv sz : Nat} {σ : St} {n : Nat} {a0 : Nat} {σ2 : St} (ha0 : isSet nm nv a0) (hf : fX0_clear n σ a0 = some σ2) : CV l yX0_clear cX0_clear 2 none ({ frames := 0, cells := 0, slots := 0, locals := 0 } : Room) [.ref (ad a0)] D cy ad nm nv sz σ σ2 := by
  refine m_entry RX0 rfl (by decide +kernel) (Nat.le_of_ble_eq_true rfl) ?_
  intro p e s m args below meth c Q hQ hr hlocks X hW hS ls hl
  have hx := X.1
  have hb := X.2.1
  have hl : lv_has ls 2 [(0, .ref (ad a0))] := hl
  unfold fX0_clear at hf
  have hc2 : ∀ (k2 : Nat) (σ : St) (H : Heap) (locs : List Loc) (ls : Array Slot) (x1 : Int), inR x1 → fX0_clear_L2 n a0 k2 σ x1 = some σ2 → Wd D cy ad nm nv σ H → va_S (AW ad nm nv sz) s.heap H locs → lv_has ls 2 [(0, .ref (ad a0)), (1, .int (i32 x1))] → W p l e ({ frames := 0, cells := 0, slots := 0, locals := 0 } : Room) s m args below meth c H locs 0 0 Q (F0 m 2 ls []) := by
    intro k2
    induction k2 with
    | zero =>
      intro σ H locs ls x1 hx1 hf
      have hf : (none : Option St) = some σ2 := hf
      cases hf
    | succ k2 ih2 =>
      intro σ H locs ls x1 hx1 hf hW hS hl
      have hf : fX0_clear_L2s n a0 (fX0_clear_L2 n a0 k2) σ x1 = some σ2 := hf
      unfold fX0_clear_L2s at hf
      refine lv_iload_n hx hb dX0_clear_2 rfl (lv_at hl 1 rfl) ?_
      refine lv_aload_n hx hb dX0_clear_3 rfl (lv_at hl 0 rfl) ?_
      refine g_X0_members X hW ha0 (X.2.2.2.2.1 _ mw78) dX0_clear_4 ?_
      refine m_alen (v := 160) 1 X hW (a_X0_members ha0) ent_2 rfl rfl rfl dX0_clear_7 ?_
      refine m_icmp_ge (tgt := 24) hx hb hx1 (by decide) hf dX0_clear_8 (by decide) (fun hf => ?_) (fun hf => ?_)
      · skip
        refine lv_aload_n hx hb dX0_clear_24 rfl (lv_at hl 0 rfl) ?_
        refine m_const (v := 0) hx hb dX0_clear_25 rfl ?_
        refine p_X0_size X hW hS ha0 (by decide) hf (X.2.2.2.2.1 _ mw80) dX0_clear_26 (fun σ1 H locs hW1 hS1 hf => ?_)
        exact m_vret X hr hlocks hW1 hS1 (Option.some.inj hf) hQ dX0_clear_29
      · skip
        refine lv_aload_n hx hb dX0_clear_11 rfl (lv_at hl 0 rfl) ?_
        refine g_X0_members X hW ha0 (X.2.2.2.2.1 _ mw78) dX0_clear_12 ?_
        refine lv_iload_n hx hb dX0_clear_15 rfl (lv_at hl 1 rfl) ?_
        refine m_const (v := 0) hx hb dX0_clear_16 rfl ?_
        refine m_zast X hW hS (a_X0_members ha0) hx1 (by decide) hf dX0_clear_17 (fun σ2 H locs hW2 hS2 hf => ?_)
        refine m_iinc (k0 := 1) (fun v3 => [(1, .int (i32 v3)), (0, .ref (ad a0))]) hx hb hf dX0_clear_18 hl rfl (by decide) (fun _ => rfl) (fun v3 ls hv3 hf hl => ?_)
        have hl : lv_has ls 2 [(1, .int (i32 v3)), (0, .ref (ad a0))] := hl
        refine lv_goto (tgt := 2) hx hb dX0_clear_21 (by decide) ?_
        exact ih2 _ _ _ _ v3 hv3 hf hW2 hS2 (lv_sub hl [1, 0] rfl)
  refine m_const (v := 0) hx hb dX0_clear_0 rfl ?_
  refine lv_istore_n (lv' := [(1, .int (i32 0)), (0, .ref (ad a0))]) hx hb dX0_clear_1 rfl hl (by decide) rfl (fun ls hl => ?_)
  exact hc2 n _ _ _ _ 0 (by decide) hf hW hS (lv_sub hl [1, 0] rfl)
set_option maxRecDepth 100000 in
set_option maxHeartbeats 4000000 in
theorem ok_X0_copyFrom {l : Launch} {D : va_G} {cy : Nat → ClassId} {ad : Nat → Nat} {nm nv sz : Nat} {σ : St} {n : Nat} {a0 : Nat} {o1 : Nat} {σ2 : St} (ha0 : isSet nm nv a0) (ho1 : isSet nm nv o1) (hf : fX0_copyFrom n σ a0 o1 = some σ2) : CV l yX0_copyFrom cX0_copyFrom 3 none ({ frames := 1, cells := 0, slots := 0, locals := 21 } : Room) [.ref (ad a0), .ref (ad o1)] D cy ad nm nv sz σ σ2 := by
  refine m_entry RX0 rfl (by decide +kernel) (Nat.le_of_ble_eq_true rfl) ?_
  intro p e s m args below meth c Q hQ hr hlocks X hW hS ls hl
  have hx := X.1
  have hb := X.2.1
  have hl : lv_has ls 3 [(0, .ref (ad a0)), (1, .ref (ad o1))] := hl
  unfold fX0_copyFrom at hf
  have hc2 : ∀ (k2 : Nat) (σ : St) (H : Heap) (locs : List Loc) (ls : Array Slot) (x2 : Int), inR x2 → fX0_copyFrom_L2 n a0 o1 k2 σ x2 = some σ2 → Wd D cy ad nm nv σ H → va_S (AW ad nm nv sz) s.heap H locs → lv_has ls 3 [(0, .ref (ad a0)), (1, .ref (ad o1)), (2, .int (i32 x2))] → W p l e ({ frames := 1, cells := 0, slots := 0, locals := 21 } : Room) s m args below meth c H locs 0 0 Q (F0 m 2 ls []) := by
    intro k2
    induction k2 with
    | zero =>
      intro σ H locs ls x2 hx2 hf
      have hf : (none : Option St) = some σ2 := hf
      cases hf
    | succ k2 ih2 =>
      intro σ H locs ls x2 hx2 hf hW hS hl
      have hf : fX0_copyFrom_L2s n a0 o1 (fX0_copyFrom_L2 n a0 o1 k2) σ x2 = some σ2 := hf
      unfold fX0_copyFrom_L2s at hf
      refine lv_iload_n hx hb dX0_copyFrom_2 rfl (lv_at hl 2 rfl) ?_
      refine lv_aload_n hx hb dX0_copyFrom_3 rfl (lv_at hl 0 rfl) ?_
      refine g_X0_members X hW ha0 (X.2.2.2.2.1 _ mw78) dX0_copyFrom_4 ?_
      refine m_alen (v := 160) 1 X hW (a_X0_members ha0) ent_2 rfl rfl rfl dX0_copyFrom_7 ?_
      refine m_icmp_ge (tgt := 28) hx hb hx2 (by decide) hf dX0_copyFrom_8 (by decide) (fun hf => ?_) (fun hf => ?_)
      · skip
        refine lv_aload_n hx hb dX0_copyFrom_28 rfl (lv_at hl 0 rfl) ?_
        refine lv_aload_n hx hb dX0_copyFrom_29 rfl (lv_at hl 1 rfl) ?_
        refine g_X0_size X hW ho1 (X.2.2.2.2.1 _ mw80) dX0_copyFrom_30 ?_
        refine p_X0_size X hW hS ha0 (hW.2.1 _ _) hf (X.2.2.2.2.1 _ mw80) dX0_copyFrom_33 (fun σ1 H locs hW1 hS1 hf => ?_)
        exact m_vret X hr hlocks hW1 hS1 (Option.some.inj hf) hQ dX0_copyFrom_36
      · skip
        refine lv_aload_n hx hb dX0_copyFrom_11 rfl (lv_at hl 0 rfl) ?_
        refine g_X0_members X hW ha0 (X.2.2.2.2.1 _ mw78) dX0_copyFrom_12 ?_
        refine lv_iload_n hx hb dX0_copyFrom_15 rfl (lv_at hl 2 rfl) ?_
        refine lv_aload_n hx hb dX0_copyFrom_16 rfl (lv_at hl 1 rfl) ?_
        refine lv_iload_n hx hb dX0_copyFrom_17 rfl (lv_at hl 2 rfl) ?_
        refine m_callVi1 (z := true) (As := [.int (i32 x2)]) (rest := [.int (i32 x2), .ref (ad (a0 + 1))]) X hW hS hl.1 gc_X0_19 hd_X0_contains ⟨rfl, rfl, Nat.le_of_ble_eq_true rfl, Nat.le_of_ble_eq_true rfl⟩ (rc_X0 X hW ho1) (fun v q => ok_X0_contains ho1 hx2 q) hf rfl rfl (Nat.le_of_ble_eq_true rfl) dX0_copyFrom_18 ⟨Nat.le_of_ble_eq_true rfl, Nat.le_of_ble_eq_true rfl⟩ (fun v2 H locs hv2 zv2 hWv2 hSv2 hf => ?_)
        refine m_zast X hWv2 hSv2 (a_X0_members ha0) hx2 hv2 hf dX0_copyFrom_21 (fun σ3 H locs hW3 hS3 hf => ?_)
        refine m_iinc (k0 := 2) (fun v4 => [(2, .int (i32 v4)), (0, .ref (ad a0)), (1, .ref (ad o1))]) hx hb hf dX0_copyFrom_22 hl rfl (by decide) (fun _ => rfl) (fun v4 ls hv4 hf hl => ?_)
        have hl : lv_has ls 3 [(2, .int (i32 v4)), (0, .ref (ad a0)), (1, .ref (ad o1))] := hl
        refine lv_goto (tgt := 2) hx hb dX0_copyFrom_25 (by decide) ?_
        exact ih2 _ _ _ _ v4 hv4 hf hW3 hS3 (lv_sub hl [1, 2, 0] rfl)
  refine m_const (v := 0) hx hb dX0_copyFrom_0 rfl ?_
  refine lv_istore_n (lv' := [(2, .int (i32 0)), (0, .ref (ad a0)), (1, .ref (ad o1))]) hx hb dX0_copyFrom_1 rfl hl (by decide) rfl (fun ls hl => ?_)
  exact hc2 n _ _ _ _ 0 (by decide) hf hW hS (lv_sub hl [1, 2, 0] rfl)
