theorem gc_X4_48 : GoodIn GW (wsV RX4 48 RX0 yX0_contains (wsG yX0_contains cX0_contains 2 (some .boolean))) := cg_V mw499 mw332 mw333 mw4 mw334
theorem gc_X4_55 : GoodIn GW (wsV RX4 55 RX0 yX0_add (wsG yX0_add cX0_add 2 none)) := cg_V mw500 mw501 mw502 mw4 mw503
theorem hd_X0_add : yX0_add.cls = RX0 ∧ yX0_add.cls ≠ "java/lang/invoke/MethodHandle" ∧ yX0_add.cls ≠ "java/lang/invoke/VarHandle" ∧ (parseMethodDescriptor yX0_add.desc).map (fun d => d.parameters.length) = some 1 := by decide +kernel
noncomputable def fX4_take (σ : St) (s0 : Nat) (x1 : Int) (x2 : Int) : Option St := b1 (fX0_contains σ (s0 + 1) x1) (fun v1 => if v1 ≠ 0 then (some σ) else (if σ (s0 + 1) 1 < 160 then (wr σ (s0 + 3) 160 (σ (s0 + 1) 1) x1 (fun σ2 => b1 (fX0_add σ2 (s0 + 1) x1) (fun σ3 => vl (imax (σ3 s0 7) x2) (fun v4 => pf σ3 s0 7 v4 (fun σ5 => some σ5))))) else (some σ)))
noncomputable def fX4_learn_L2s (n : Nat) (s0 : Nat) (o1 : Nat) (lp2 : (St → Int → Option St)) : St → Int → Option St := fun σ x2 => if 4 ≤ x2 then (some σ) else (if ((ln o1 : Nat) : Int) ≤ x2 then (some σ) else (rd σ (s0 + 4) 4 x2 (fun v1 => rd σ o1 (ln o1) x2 (fun v2 => vl (imax v1 v2) (fun v3 => wr σ (s0 + 4) 4 x2 v3 (fun σ4 => ck (x2 + 1) (fun v5 => lp2 σ4 v5)))))))
noncomputable def fX4_learn_L2 (n : Nat) (s0 : Nat) (o1 : Nat) (k : Nat) : St → Int → Option St := lpR (fun _ _ => none) (fX4_learn_L2s n s0 o1) k
noncomputable def fX4_learn (n : Nat) (σ : St) (s0 : Nat) (o1 : Nat) : Option St := fX4_learn_L2 n s0 o1 n σ 0
noncomputable def fX4_knownOf (σ : St) (s0 : Nat) (x1 : Int) : Option Int := if x1 < 0 then (some 0) else (if 4 ≤ x1 then (some 0) else (rd σ (s0 + 4) 4 x1 (fun v1 => some v1)))
noncomputable def fX4_countFirst_L2s (n : Nat) (s0 : Nat) (o2 : Nat) (x1 : Int) (lp2 : (St → Int → Option St)) : St → Int → Option St := fun σ x3 => if x1 ≤ x3 then (some σ) else (if 160 ≤ x3 then (some σ) else (rd σ (s0 + 3) 160 x3 (fun v1 => if v1 < 0 then (ck (x3 + 1) (fun v2 => lp2 σ v2)) else (if ((ln o2 : Nat) : Int) ≤ v1 then (ck (x3 + 1) (fun v3 => lp2 σ v3)) else (rd σ o2 (ln o2) v1 (fun v4 => ck (v4 + 1) (fun v5 => wr σ o2 (ln o2) v1 v5 (fun σ6 => ck (x3 + 1) (fun v7 => lp2 σ6 v7)))))))))
noncomputable def fX4_countFirst_L2 (n : Nat) (s0 : Nat) (o2 : Nat) (x1 : Int) (k : Nat) : St → Int → Option St := lpR (fun _ _ => none) (fX4_countFirst_L2s n s0 o2 x1) k
noncomputable def fX4_countFirst (n : Nat) (σ : St) (s0 : Nat) (x1 : Int) (o2 : Nat) : Option St := fX4_countFirst_L2 n s0 o2 x1 n σ 0
set_option maxRecDepth 100000 in
set_option maxHeartbeats 4000000 in
theorem ok_X4_take {l : Launch} {D : va_G} {cy : Nat → ClassId} {ad : Nat → Nat} {nm nv sz : Nat} {σ : St} {s0 : Nat} {x1 : Int} {x2 : Int} {σ2 : St} (hs0 : isSite s0) (hx1 : inR x1) (hx2 : inR x2) (hf : fX4_take σ s0 x1 x2 = some σ2) : CV l yX4_take cX4_take 3 none ({ frames := 1, cells := 0, slots := 0, locals := 21 } : Room) [.ref (ad s0), .int (i32 x1), .int (i32 x2)] D cy ad nm nv sz σ σ2 := by
  refine m_entry RX4 rfl (by decide +kernel) (Nat.le_of_ble_eq_true rfl) ?_
  intro p e s m args below meth c Q hQ hr hlocks X hW hS ls hl
  have hx := X.1
  have hb := X.2.1
  have hl : lv_has ls 3 [(0, .ref (ad s0)), (1, .int (i32 x1)), (2, .int (i32 x2))] := hl
  unfold fX4_take at hf
  refine lv_aload_n hx hb dX4_take_0 rfl (lv_at hl 0 rfl) ?_
  refine g_X4_held X hW hs0 (X.2.2.2.2.1 _ mw134) dX4_take_1 ?_
  refine lv_iload_n hx hb dX4_take_4 rfl (lv_at hl 1 rfl) ?_
  refine m_callVi1 (z := true) (As := [.int (i32 x1)]) (rest := []) X hW hS hl.1 gc_X4_48 hd_X0_contains ⟨rfl, rfl, Nat.le_of_ble_eq_true rfl, Nat.le_of_ble_eq_true rfl⟩ (rc_X0 X hW (r_X4_held hs0)) (fun v q => ok_X0_contains (r_X4_held hs0) hx1 q) hf rfl rfl (Nat.le_of_ble_eq_true rfl) dX4_take_5 ⟨Nat.le_of_ble_eq_true rfl, Nat.le_of_ble_eq_true rfl⟩ (fun v1 H locs hv1 zv1 hWv1 hSv1 hf => ?_)
  refine m_if_ne (tgt := 26) hx hb hv1 hf dX4_take_8 (by decide) (fun hf => ?_) (fun hf => ?_)
  · skip
    exact m_vret X hr hlocks hWv1 hSv1 (Option.some.inj hf) hQ dX4_take_26
  · skip
    refine lv_aload_n hx hb dX4_take_11 rfl (lv_at hl 0 rfl) ?_
    refine g_X4_held X hWv1 hs0 (X.2.2.2.2.1 _ mw134) dX4_take_12 ?_
    refine gN_X0_size X hWv1 (r_X4_held hs0) (nf_X4_52 X.2.2.2.2.2.2.2.2) dX4_take_15 ?_
    refine lv_aload_n hx hb dX4_take_18 rfl (lv_at hl 0 rfl) ?_
    refine g_X4_journal X hWv1 hs0 (X.2.2.2.2.1 _ mw137) dX4_take_19 ?_
    refine m_alen (v := 160) 0 X hWv1 (a_X4_journal hs0) ent_1 rfl rfl rfl dX4_take_22 ?_
    refine m_icmp_lt (tgt := 27) hx hb (hWv1.2.1 _ _) (by decide) hf dX4_take_23 (by decide) (fun hf => ?_) (fun hf => ?_)
    · skip
      refine lv_aload_n hx hb dX4_take_27 rfl (lv_at hl 0 rfl) ?_
      refine g_X4_journal X hWv1 hs0 (X.2.2.2.2.1 _ mw137) dX4_take_28 ?_
      refine lv_aload_n hx hb dX4_take_31 rfl (lv_at hl 0 rfl) ?_
      refine g_X4_held X hWv1 hs0 (X.2.2.2.2.1 _ mw134) dX4_take_32 ?_
      refine gN_X0_size X hWv1 (r_X4_held hs0) (nf_X4_52 X.2.2.2.2.2.2.2.2) dX4_take_35 ?_
      refine lv_iload_n hx hb dX4_take_38 rfl (lv_at hl 1 rfl) ?_
      refine m_iast X hWv1 hSv1 (a_X4_journal hs0) (hWv1.2.1 _ _) hx1 hf dX4_take_39 (fun σ2 H locs hW2 hS2 hf => ?_)
      refine lv_aload_n hx hb dX4_take_40 rfl (lv_at hl 0 rfl) ?_
      refine g_X4_held X hW2 hs0 (X.2.2.2.2.1 _ mw134) dX4_take_41 ?_
      refine lv_iload_n hx hb dX4_take_44 rfl (lv_at hl 1 rfl) ?_
      refine m_callVv (As := [.int (i32 x1)]) (rest := []) X hW2 hS2 hl.1 gc_X4_55 hd_X0_add ⟨rfl, rfl, Nat.le_of_ble_eq_true rfl, Nat.le_of_ble_eq_true rfl⟩ (rc_X0 X hW2 (r_X4_held hs0)) (fun v q => ok_X0_add (r_X4_held hs0) hx1 q) hf rfl rfl (Nat.le_of_ble_eq_true rfl) dX4_take_45 ⟨Nat.le_of_ble_eq_true rfl, Nat.le_of_ble_eq_true rfl⟩ (fun σ3 H locs hW3 hS3 hf => ?_)
      refine lv_aload_n hx hb dX4_take_48 rfl (lv_at hl 0 rfl) ?_
      refine lv_aload_n hx hb dX4_take_49 rfl (lv_at hl 0 rfl) ?_
      refine g_X4_clock X hW3 hs0 (X.2.2.2.2.1 _ mw145) dX4_take_50 ?_
      refine lv_iload_n hx hb dX4_take_53 rfl (lv_at hl 2 rfl) ?_
      refine m_mmax X hl.1 (hW3.2.1 _ _) hx2 hf (X.2.2.2.2.1 _ mw504) (X.2.2.2.2.1 _ mw505) (X.2.2.2.2.1 _ mw13) (X.2.2.2.2.1 _ mw506) (rest := [.ref (ad s0)]) (Nat.le_of_ble_eq_true rfl) (Nat.le_of_ble_eq_true rfl) ⟨Nat.le_of_ble_eq_true rfl, Nat.le_of_ble_eq_true rfl⟩ dX4_take_54 (fun v4 hv4 hf => ?_)
      refine p_X4_clock X hW3 hS3 hs0 hv4 hf (X.2.2.2.2.1 _ mw145) dX4_take_57 (fun σ5 H locs hW5 hS5 hf => ?_)
      exact m_vret X hr hlocks hW5 hS5 (Option.some.inj hf) hQ dX4_take_60
    · skip
      exact m_vret X hr hlocks hWv1 hSv1 (Option.some.inj hf) hQ dX4_take_26
set_option maxRecDepth 100000 in
set_option maxHeartbeats 4000000 in
theorem ok_X4_learn {l : Launch} {D : va_G} {cy : Nat → ClassId} {ad : Nat → Nat} {nm nv sz : Nat} {σ : St} {n : Nat} {s0 : Nat} {o1 : Nat} {σ2 : St} (hs0 : isSite s0) (ho1 : arrOK nm nv o1 1 (ln o1)) (hf : fX4_learn n σ s0 o1 = some σ2) : CV l yX4_learn cX4_learn 3 none ({ frames := 1, cells := 0, slots := 0, locals := 21 } : Room) [.ref (ad s0), .ref (ad o1)] D cy ad nm nv sz σ σ2 := by
  refine m_entry RX4 rfl (by decide +kernel) (Nat.le_of_ble_eq_true rfl) ?_
  intro p e s m args below meth c Q hQ hr hlocks X hW hS ls hl
  have hx := X.1
  have hb := X.2.1
  have hl : lv_has ls 3 [(0, .ref (ad s0)), (1, .ref (ad o1))] := hl
  unfold fX4_learn at hf
  have hc2 : ∀ (k2 : Nat) (σ : St) (H : Heap) (locs : List Loc) (ls : Array Slot) (x2 : Int), inR x2 → fX4_learn_L2 n s0 o1 k2 σ x2 = some σ2 → Wd D cy ad nm nv σ H → va_S (AW ad nm nv sz) s.heap H locs → lv_has ls 3 [(0, .ref (ad s0)), (1, .ref (ad o1)), (2, .int (i32 x2))] → W p l e ({ frames := 1, cells := 0, slots := 0, locals := 21 } : Room) s m args below meth c H locs 0 0 Q (F0 m 2 ls []) := by
    intro k2
    induction k2 with
    | zero =>
      intro σ H locs ls x2 hx2 hf
      have hf : (none : Option St) = some σ2 := hf
      cases hf
    | succ k2 ih2 =>
      intro σ H locs ls x2 hx2 hf hW hS hl
      have hf : fX4_learn_L2s n s0 o1 (fX4_learn_L2 n s0 o1 k2) σ x2 = some σ2 := hf
      unfold fX4_learn_L2s at hf
      refine lv_iload_n hx hb dX4_learn_2 rfl (lv_at hl 2 rfl) ?_
      refine lv_aload_n hx hb dX4_learn_3 rfl (lv_at hl 0 rfl) ?_
      refine g_X4_known X hW hs0 (X.2.2.2.2.1 _ mw138) dX4_learn_4 ?_
      refine m_alen (v := 4) 0 X hW (a_X4_known hs0) ent_1 rfl rfl rfl dX4_learn_7 ?_
      refine m_icmp_ge (tgt := 41) hx hb hx2 (by decide) hf dX4_learn_8 (by decide) (fun hf => ?_) (fun hf => ?_)
      · skip
        exact m_vret X hr hlocks hW hS (Option.some.inj hf) hQ dX4_learn_41
      · skip
        refine lv_iload_n hx hb dX4_learn_11 rfl (lv_at hl 2 rfl) ?_
        refine lv_aload_n hx hb dX4_learn_12 rfl (lv_at hl 1 rfl) ?_
        refine m_alen (v := ((ln o1 : Nat) : Int)) 0 X hW ho1 ent_1 rfl rfl rfl dX4_learn_13 ?_
        refine m_icmp_ge (tgt := 41) hx hb hx2 (ln_inR _) hf dX4_learn_14 (by decide) (fun hf => ?_) (fun hf => ?_)
        · skip
          exact m_vret X hr hlocks hW hS (Option.some.inj hf) hQ dX4_learn_41
        · skip
          refine lv_aload_n hx hb dX4_learn_17 rfl (lv_at hl 0 rfl) ?_
          refine g_X4_known X hW hs0 (X.2.2.2.2.1 _ mw138) dX4_learn_18 ?_
          refine lv_iload_n hx hb dX4_learn_21 rfl (lv_at hl 2 rfl) ?_
          refine lv_aload_n hx hb dX4_learn_22 rfl (lv_at hl 0 rfl) ?_
          refine g_X4_known X hW hs0 (X.2.2.2.2.1 _ mw138) dX4_learn_23 ?_
          refine lv_iload_n hx hb dX4_learn_26 rfl (lv_at hl 2 rfl) ?_
          refine m_iald X hW (a_X4_known hs0) hx2 hf dX4_learn_27 (fun v1 hv1 hf => ?_)
          refine lv_aload_n hx hb dX4_learn_28 rfl (lv_at hl 1 rfl) ?_
          refine lv_iload_n hx hb dX4_learn_29 rfl (lv_at hl 2 rfl) ?_
          refine m_iald X hW ho1 hx2 hf dX4_learn_30 (fun v2 hv2 hf => ?_)
          refine m_mmax X hl.1 hv1 hv2 hf (X.2.2.2.2.1 _ mw504) (X.2.2.2.2.1 _ mw505) (X.2.2.2.2.1 _ mw13) (X.2.2.2.2.1 _ mw506) (rest := [.int (i32 x2), .ref (ad (s0 + 4))]) (Nat.le_of_ble_eq_true rfl) (Nat.le_of_ble_eq_true rfl) ⟨Nat.le_of_ble_eq_true rfl, Nat.le_of_ble_eq_true rfl⟩ dX4_learn_31 (fun v3 hv3 hf => ?_)
          refine m_iast X hW hS (a_X4_known hs0) hx2 hv3 hf dX4_learn_34 (fun σ4 H locs hW4 hS4 hf => ?_)
          refine m_iinc (k0 := 2) (fun v5 => [(2, .int (i32 v5)), (0, .ref (ad s0)), (1, .ref (ad o1))]) hx hb hf dX4_learn_35 hl rfl (by decide) (fun _ => rfl) (fun v5 ls hv5 hf hl => ?_)
          have hl : lv_has ls 3 [(2, .int (i32 v5)), (0, .ref (ad s0)), (1, .ref (ad o1))] := hl
          refine lv_goto (tgt := 2) hx hb dX4_learn_38 (by decide) ?_
          exact ih2 _ _ _ _ v5 hv5 hf hW4 hS4 (lv_sub hl [1, 2, 0] rfl)
  refine m_const (v := 0) hx hb dX4_learn_0 rfl ?_
  refine lv_istore_n (lv' := [(2, .int (i32 0)), (0, .ref (ad s0)), (1, .ref (ad o1))]) hx hb dX4_learn_1 rfl hl (by decide) rfl (fun ls hl => ?_)
  exact hc2 n _ _ _ _ 0 (by decide) hf hW hS (lv_sub hl [1, 2, 0] rfl)
set_option maxRecDepth 100000 in
set_option maxHeartbeats 4000000 in
theorem ok_X4_knownOf {l : Launch} {D : va_G} {cy : Nat → ClassId} {ad : Nat → Nat} {nm nv sz : Nat} {σ : St} {s0 : Nat} {x1 : Int} {r : Int} (hs0 : isSite s0) (hx1 : inR x1) (hf : fX4_knownOf σ s0 x1 = some r) : CI l yX4_knownOf cX4_knownOf 2 (some .int) ({ frames := 0, cells := 0, slots := 0, locals := 0 } : Room) [.ref (ad s0), .int (i32 x1)] D cy ad nm nv sz σ false r σ := by
  refine m_entry RX4 rfl (by decide +kernel) (Nat.le_of_ble_eq_true rfl) ?_
  intro p e s m args below meth c Q hQ hr hlocks X hW hS ls hl
  have hx := X.1
  have hb := X.2.1
  have hl : lv_has ls 2 [(0, .ref (ad s0)), (1, .int (i32 x1))] := hl
  unfold fX4_knownOf at hf
  refine lv_iload_n hx hb dX4_knownOf_0 rfl (lv_at hl 1 rfl) ?_
  refine m_if_lt (tgt := 22) hx hb hx1 hf dX4_knownOf_1 (by decide) (fun hf => ?_) (fun hf => ?_)
  · skip
    refine m_const (v := 0) hx hb dX4_knownOf_22 rfl ?_
    exact m_ireti X hr hlocks rfl (by decide) (fun h => Bool.noConfusion h) hW hS (Option.some.inj hf) rfl hQ dX4_knownOf_23
  · skip
    refine lv_iload_n hx hb dX4_knownOf_4 rfl (lv_at hl 1 rfl) ?_
    refine lv_aload_n hx hb dX4_knownOf_5 rfl (lv_at hl 0 rfl) ?_
    refine g_X4_known X hW hs0 (X.2.2.2.2.1 _ mw138) dX4_knownOf_6 ?_
    refine m_alen (v := 4) 0 X hW (a_X4_known hs0) ent_1 rfl rfl rfl dX4_knownOf_9 ?_
    refine m_icmp_ge (tgt := 22) hx hb hx1 (by decide) hf dX4_knownOf_10 (by decide) (fun hf => ?_) (fun hf => ?_)
    · skip
      refine m_const (v := 0) hx hb dX4_knownOf_22 rfl ?_
      exact m_ireti X hr hlocks rfl (by decide) (fun h => Bool.noConfusion h) hW hS (Option.some.inj hf) rfl hQ dX4_knownOf_23
    · skip
      refine lv_aload_n hx hb dX4_knownOf_13 rfl (lv_at hl 0 rfl) ?_
      refine g_X4_known X hW hs0 (X.2.2.2.2.1 _ mw138) dX4_knownOf_14 ?_
      refine lv_iload_n hx hb dX4_knownOf_17 rfl (lv_at hl 1 rfl) ?_
      refine m_iald X hW (a_X4_known hs0) hx1 hf dX4_knownOf_18 (fun v1 hv1 hf => ?_)
      refine lv_goto (tgt := 23) hx hb dX4_knownOf_19 (by decide) ?_
      exact m_ireti X hr hlocks rfl hv1 (fun h => Bool.noConfusion h) hW hS (Option.some.inj hf) rfl hQ dX4_knownOf_23
set_option maxRecDepth 100000 in
set_option maxHeartbeats 4000000 in
theorem ok_X4_countFirst {l : Launch} {D : va_G} {cy : Nat → ClassId} {ad : Nat → Nat} {nm nv sz : Nat} {σ : St} {n : Nat} {s0 : Nat} {x1 : Int} {o2 : Nat} {σ2 : St} (hs0 : isSite s0) (hx1 : inR x1) (ho2 : arrOK nm nv o2 1 (ln o2)) (hf : fX4_countFirst n σ s0 x1 o2 = some σ2) : CV l yX4_countFirst cX4_countFirst 5 none ({ frames := 0, cells := 0, slots := 0, locals := 0 } : Room) [.ref (ad s0), .int (i32 x1), .ref (ad o2)] D cy ad nm nv sz σ σ2 := by
  refine m_entry RX4 rfl (by decide +kernel) (Nat.le_of_ble_eq_true rfl) ?_
  intro p e s m args below meth c Q hQ hr hlocks X hW hS ls hl
  have hx := X.1
  have hb := X.2.1
  have hl : lv_has ls 5 [(0, .ref (ad s0)), (1, .int (i32 x1)), (2, .ref (ad o2))] := hl
  unfold fX4_countFirst at hf
  have hc2 : ∀ (k2 : Nat) (σ : St) (H : Heap) (locs : List Loc) (ls : Array Slot) (x3 : Int), inR x3 → fX4_countFirst_L2 n s0 o2 x1 k2 σ x3 = some σ2 → Wd D cy ad nm nv σ H → va_S (AW ad nm nv sz) s.heap H locs → lv_has ls 5 [(0, .ref (ad s0)), (1, .int (i32 x1)), (2, .ref (ad o2)), (3, .int (i32 x3))] → W p l e ({ frames := 0, cells := 0, slots := 0, locals := 0 } : Room) s m args below meth c H locs 0 0 Q (F0 m 2 ls []) := by
    intro k2
    induction k2 with
    | zero =>
      intro σ H locs ls x3 hx3 hf
      have hf : (none : Option St) = some σ2 := hf
      cases hf
    | succ k2 ih2 =>
      intro σ H locs ls x3 hx3 hf hW hS hl
      have hf : fX4_countFirst_L2s n s0 o2 x1 (fX4_countFirst_L2 n s0 o2 x1 k2) σ x3 = some σ2 := hf
      unfold fX4_countFirst_L2s at hf
      refine lv_iload_n hx hb dX4_countFirst_2 rfl (lv_at hl 3 rfl) ?_
      refine lv_iload_n hx hb dX4_countFirst_3 rfl (lv_at hl 1 rfl) ?_
      refine m_icmp_ge (tgt := 50) hx hb hx3 hx1 hf dX4_countFirst_4 (by decide) (fun hf => ?_) (fun hf => ?_)
      · skip
        exact m_vret X hr hlocks hW hS (Option.some.inj hf) hQ dX4_countFirst_50
      · skip
        refine lv_iload_n hx hb dX4_countFirst_7 rfl (lv_at hl 3 rfl) ?_
        refine lv_aload_n hx hb dX4_countFirst_8 rfl (lv_at hl 0 rfl) ?_
        refine g_X4_journal X hW hs0 (X.2.2.2.2.1 _ mw137) dX4_countFirst_9 ?_
        refine m_alen (v := 160) 0 X hW (a_X4_journal hs0) ent_1 rfl rfl rfl dX4_countFirst_12 ?_
        refine m_icmp_ge (tgt := 50) hx hb hx3 (by decide) hf dX4_countFirst_13 (by decide) (fun hf => ?_) (fun hf => ?_)
        · skip
          exact m_vret X hr hlocks hW hS (Option.some.inj hf) hQ dX4_countFirst_50
        · skip
          refine lv_aload_n hx hb dX4_countFirst_16 rfl (lv_at hl 0 rfl) ?_
          refine g_X4_journal X hW hs0 (X.2.2.2.2.1 _ mw137) dX4_countFirst_17 ?_
          refine lv_iload_n hx hb dX4_countFirst_20 rfl (lv_at hl 3 rfl) ?_
          refine m_iald X hW (a_X4_journal hs0) hx3 hf dX4_countFirst_21 (fun v1 hv1 hf => ?_)
          refine lv_istore (lv' := [(4, .int (i32 v1)), (0, .ref (ad s0)), (1, .int (i32 x1)), (2, .ref (ad o2)), (3, .int (i32 x3))]) hx hb dX4_countFirst_22 hl (by decide) rfl (fun ls hl => ?_)
          refine lv_iload hx hb dX4_countFirst_24 (lv_at hl 0 rfl) ?_
          refine m_if_lt (tgt := 44) hx hb hv1 hf dX4_countFirst_26 (by decide) (fun hf => ?_) (fun hf => ?_)
          · skip
            refine m_iinc (k0 := 4) (fun v2 => [(3, .int (i32 v2)), (4, .int (i32 v1)), (0, .ref (ad s0)), (1, .int (i32 x1)), (2, .ref (ad o2))]) hx hb hf dX4_countFirst_44 hl rfl (by decide) (fun _ => rfl) (fun v2 ls hv2 hf hl => ?_)
            have hl : lv_has ls 5 [(3, .int (i32 v2)), (4, .int (i32 v1)), (0, .ref (ad s0)), (1, .int (i32 x1)), (2, .ref (ad o2))] := hl
            refine lv_goto (tgt := 2) hx hb dX4_countFirst_47 (by decide) ?_
            exact ih2 _ _ _ _ v2 hv2 hf hW hS (lv_sub hl [2, 3, 4, 0] rfl)
          · skip
            refine lv_iload hx hb dX4_countFirst_29 (lv_at hl 0 rfl) ?_
            refine lv_aload_n hx hb dX4_countFirst_31 rfl (lv_at hl 3 rfl) ?_
            refine m_alen (v := ((ln o2 : Nat) : Int)) 0 X hW ho2 ent_1 rfl rfl rfl dX4_countFirst_32 ?_
            refine m_icmp_ge (tgt := 44) hx hb hv1 (ln_inR _) hf dX4_countFirst_33 (by decide) (fun hf => ?_) (fun hf => ?_)
            · skip
              refine m_iinc (k0 := 4) (fun v3 => [(3, .int (i32 v3)), (4, .int (i32 v1)), (0, .ref (ad s0)), (1, .int (i32 x1)), (2, .ref (ad o2))]) hx hb hf dX4_countFirst_44 hl rfl (by decide) (fun _ => rfl) (fun v3 ls hv3 hf hl => ?_)
              have hl : lv_has ls 5 [(3, .int (i32 v3)), (4, .int (i32 v1)), (0, .ref (ad s0)), (1, .int (i32 x1)), (2, .ref (ad o2))] := hl
              refine lv_goto (tgt := 2) hx hb dX4_countFirst_47 (by decide) ?_
              exact ih2 _ _ _ _ v3 hv3 hf hW hS (lv_sub hl [2, 3, 4, 0] rfl)
            · skip
              refine lv_aload_n hx hb dX4_countFirst_36 rfl (lv_at hl 3 rfl) ?_
              refine lv_iload hx hb dX4_countFirst_37 (lv_at hl 0 rfl) ?_
              refine lv_dup2_11 hx hb dX4_countFirst_39 rfl rfl ?_
              refine m_iald X hW ho2 hv1 hf dX4_countFirst_40 (fun v4 hv4 hf => ?_)
              refine m_const (v := 1) hx hb dX4_countFirst_41 rfl ?_
              refine m_iadd hx hb hf dX4_countFirst_42 (fun v5 hv5 hf => ?_)
              refine m_iast X hW hS ho2 hv1 hv5 hf dX4_countFirst_43 (fun σ6 H locs hW6 hS6 hf => ?_)
              refine m_iinc (k0 := 4) (fun v7 => [(3, .int (i32 v7)), (4, .int (i32 v1)), (0, .ref (ad s0)), (1, .int (i32 x1)), (2, .ref (ad o2))]) hx hb hf dX4_countFirst_44 hl rfl (by decide) (fun _ => rfl) (fun v7 ls hv7 hf hl => ?_)
              have hl : lv_has ls 5 [(3, .int (i32 v7)), (4, .int (i32 v1)), (0, .ref (ad s0)), (1, .int (i32 x1)), (2, .ref (ad o2))] := hl
              refine lv_goto (tgt := 2) hx hb dX4_countFirst_47 (by decide) ?_
              exact ih2 _ _ _ _ v7 hv7 hf hW6 hS6 (lv_sub hl [2, 3, 4, 0] rfl)
  refine m_const (v := 0) hx hb dX4_countFirst_0 rfl ?_
  refine lv_istore_n (lv' := [(3, .int (i32 0)), (0, .ref (ad s0)), (1, .int (i32 x1)), (2, .ref (ad o2))]) hx hb dX4_countFirst_1 rfl hl (by decide) rfl (fun ls hl => ?_)
  exact hc2 n _ _ _ _ 0 (by decide) hf hW hS (lv_sub hl [1, 2, 3, 0] rfl)
