theorem gc_X3_166 : GoodIn GW (wsV RX3 166 RX3 yX3_isSeen (wsG yX3_isSeen cX3_isSeen 2 (some .boolean))) := cg_V mw444 mw445 mw446 mw5 mw447
theorem hd_X3_isSeen : yX3_isSeen.cls = RX3 ∧ yX3_isSeen.cls ≠ "java/lang/invoke/MethodHandle" ∧ yX3_isSeen.cls ≠ "java/lang/invoke/VarHandle" ∧ (parseMethodDescriptor yX3_isSeen.desc).map (fun d => d.parameters.length) = some 1 := by decide +kernel
noncomputable def fX3_isSeen (σ : St) (p0 : Nat) (x1 : Int) : Option Int := if x1 < 0 then (some 0) else (if 160 ≤ x1 then (some 0) else (rd σ (p0 + 6) 160 x1 (fun v1 => if v1 = 0 then (rd σ (p0 + 4) 160 x1 (fun v2 => if v2 = 1 then (some 1) else (rd σ (p0 + 4) 160 x1 (fun v3 => if v3 ≠ 2 then (some 0) else (some 1))))) else (some 0))))
noncomputable def fX3_seenAt_L4s (n : Nat) (σ : St) (p0 : Nat) (x1 : Int) (lp4 : (Int → Int → Option Int)) : Int → Int → Option Int := fun x2 x3 => if σ p0 2 ≤ x3 then (some (-1)) else (rd σ (p0 + 2) 160 x3 (fun v1 => b1 (fX3_isSeen σ p0 v1) (fun v2 => if v2 = 0 then (ck (x3 + 1) (fun v3 => lp4 x2 v3)) else (if x2 ≠ x1 then (ck (x2 + 1) (fun v4 => ck (x3 + 1) (fun v5 => lp4 v4 v5))) else (rd σ (p0 + 2) 160 x3 (fun v6 => some v6))))))
noncomputable def fX3_seenAt_L4 (n : Nat) (σ : St) (p0 : Nat) (x1 : Int) (k : Nat) : Int → Int → Option Int := lpR (fun _ _ => none) (fX3_seenAt_L4s n σ p0 x1) k
noncomputable def fX3_seenAt (n : Nat) (σ : St) (p0 : Nat) (x1 : Int) : Option Int := fX3_seenAt_L4 n σ p0 x1 n 0 0
noncomputable def fX1_firstOf (σ : St) (x1 : Int) : Option Int := if x1 < 0 then (some (-1)) else (if σ 8 8 ≤ x1 then (some (-1)) else (rd σ 12 160 x1 (fun v1 => some v1)))
noncomputable def fX3_isNumber (x0 : Int) : Option Int := if x0 < 0 then (some 0) else (if 160 ≤ x0 then (some 0) else (some 1))
set_option maxRecDepth 100000 in
set_option maxHeartbeats 4000000 in
theorem ok_X3_isSeen {l : Launch} {D : va_G} {cy : Nat → ClassId} {ad : Nat → Nat} {nm nv sz : Nat} {σ : St} {p0 : Nat} {x1 : Int} {r : Int} (hp0 : isPaper p0) (hx1 : inR x1) (hf : fX3_isSeen σ p0 x1 = some r) : CI l yX3_isSeen cX3_isSeen 2 (some .boolean) ({ frames := 0, cells := 0, slots := 0, locals := 0 } : Room) [.ref (ad p0), .int (i32 x1)] D cy ad nm nv sz σ true r σ := by
  refine m_entry RX3 rfl (by decide +kernel) (Nat.le_of_ble_eq_true rfl) ?_
  intro p e s m args below meth c Q hQ hr hlocks X hW hS ls hl
  have hx := X.1
  have hb := X.2.1
  have hl : lv_has ls 2 [(0, .ref (ad p0)), (1, .int (i32 x1))] := hl
  unfold fX3_isSeen at hf
  refine lv_iload_n hx hb dX3_isSeen_0 rfl (lv_at hl 1 rfl) ?_
  refine m_if_lt (tgt := 20) hx hb hx1 hf dX3_isSeen_1 (by decide) (fun hf => ?_) (fun hf => ?_)
  · skip
    refine m_const (v := 0) hx hb dX3_isSeen_20 rfl ?_
    exact m_ireti X hr hlocks (nar_b (Or.inl rfl)).1 (by decide) (fun _ => (Or.inl rfl)) hW hS (Option.some.inj hf) rfl hQ dX3_isSeen_21
  · skip
    refine lv_iload_n hx hb dX3_isSeen_4 rfl (lv_at hl 1 rfl) ?_
    refine m_sipush (v := 160) hx hb dX3_isSeen_5 (by decide) ?_
    refine m_icmp_ge (tgt := 20) hx hb hx1 (by decide) hf dX3_isSeen_8 (by decide) (fun hf => ?_) (fun hf => ?_)
    · skip
      refine m_const (v := 0) hx hb dX3_isSeen_20 rfl ?_
      exact m_ireti X hr hlocks (nar_b (Or.inl rfl)).1 (by decide) (fun _ => (Or.inl rfl)) hW hS (Option.some.inj hf) rfl hQ dX3_isSeen_21
    · skip
      refine lv_aload_n hx hb dX3_isSeen_11 rfl (lv_at hl 0 rfl) ?_
      refine g_X3_removed X hW hp0 (X.2.2.2.2.1 _ mw101) dX3_isSeen_12 ?_
      refine lv_iload_n hx hb dX3_isSeen_15 rfl (lv_at hl 1 rfl) ?_
      refine m_zald X hW (a_X3_removed hp0) hx1 hf dX3_isSeen_16 (fun v1 hv1 hf => ?_)
      refine m_if_eq (tgt := 22) hx hb hv1 hf dX3_isSeen_17 (by decide) (fun hf => ?_) (fun hf => ?_)
      · skip
        refine lv_aload_n hx hb dX3_isSeen_22 rfl (lv_at hl 0 rfl) ?_
        refine g_X3_states X hW hp0 (X.2.2.2.2.1 _ mw99) dX3_isSeen_23 ?_
        refine lv_iload_n hx hb dX3_isSeen_26 rfl (lv_at hl 1 rfl) ?_
        refine m_iald X hW (a_X3_states hp0) hx1 hf dX3_isSeen_27 (fun v2 hv2 hf => ?_)
        refine m_const (v := 1) hx hb dX3_isSeen_28 rfl ?_
        refine m_icmp_eq (tgt := 42) hx hb hv2 (by decide) hf dX3_isSeen_29 (by decide) (fun hf => ?_) (fun hf => ?_)
        · skip
          refine m_const (v := 1) hx hb dX3_isSeen_42 rfl ?_
          refine lv_goto (tgt := 47) hx hb dX3_isSeen_43 (by decide) ?_
          exact m_ireti X hr hlocks (nar_b (Or.inr rfl)).1 (by decide) (fun _ => (Or.inr rfl)) hW hS (Option.some.inj hf) rfl hQ dX3_isSeen_47
        · skip
          refine lv_aload_n hx hb dX3_isSeen_32 rfl (lv_at hl 0 rfl) ?_
          refine g_X3_states X hW hp0 (X.2.2.2.2.1 _ mw99) dX3_isSeen_33 ?_
          refine lv_iload_n hx hb dX3_isSeen_36 rfl (lv_at hl 1 rfl) ?_
          refine m_iald X hW (a_X3_states hp0) hx1 hf dX3_isSeen_37 (fun v3 hv3 hf => ?_)
          refine m_const (v := 2) hx hb dX3_isSeen_38 rfl ?_
          refine m_icmp_ne (tgt := 46) hx hb hv3 (by decide) hf dX3_isSeen_39 (by decide) (fun hf => ?_) (fun hf => ?_)
          · skip
            refine m_const (v := 0) hx hb dX3_isSeen_46 rfl ?_
            exact m_ireti X hr hlocks (nar_b (Or.inl rfl)).1 (by decide) (fun _ => (Or.inl rfl)) hW hS (Option.some.inj hf) rfl hQ dX3_isSeen_47
          · skip
            refine m_const (v := 1) hx hb dX3_isSeen_42 rfl ?_
            refine lv_goto (tgt := 47) hx hb dX3_isSeen_43 (by decide) ?_
            exact m_ireti X hr hlocks (nar_b (Or.inr rfl)).1 (by decide) (fun _ => (Or.inr rfl)) hW hS (Option.some.inj hf) rfl hQ dX3_isSeen_47
      · skip
        refine m_const (v := 0) hx hb dX3_isSeen_20 rfl ?_
        exact m_ireti X hr hlocks (nar_b (Or.inl rfl)).1 (by decide) (fun _ => (Or.inl rfl)) hW hS (Option.some.inj hf) rfl hQ dX3_isSeen_21
set_option maxRecDepth 100000 in
set_option maxHeartbeats 4000000 in
theorem ok_X3_seenAt {l : Launch} {D : va_G} {cy : Nat → ClassId} {ad : Nat → Nat} {nm nv sz : Nat} {σ : St} {n : Nat} {p0 : Nat} {x1 : Int} {r : Int} (hp0 : isPaper p0) (hx1 : inR x1) (hf : fX3_seenAt n σ p0 x1 = some r) : CI l yX3_seenAt cX3_seenAt 4 (some .int) ({ frames := 1, cells := 0, slots := 0, locals := 21 } : Room) [.ref (ad p0), .int (i32 x1)] D cy ad nm nv sz σ false r σ := by
  refine m_entry RX3 rfl (by decide +kernel) (Nat.le_of_ble_eq_true rfl) ?_
  intro p e s m args below meth c Q hQ hr hlocks X hW hS ls hl
  have hx := X.1
  have hb := X.2.1
  have hl : lv_has ls 4 [(0, .ref (ad p0)), (1, .int (i32 x1))] := hl
  unfold fX3_seenAt at hf
  have hc4 : ∀ (k4 : Nat) (H : Heap) (locs : List Loc) (ls : Array Slot) (x2 : Int) (x3 : Int), inR x2 → inR x3 → fX3_seenAt_L4 n σ p0 x1 k4 x2 x3 = some r → Wd D cy ad nm nv σ H → va_S (AW ad nm nv sz) s.heap H locs → lv_has ls 4 [(0, .ref (ad p0)), (1, .int (i32 x1)), (2, .int (i32 x2)), (3, .int (i32 x3))] → W p l e ({ frames := 1, cells := 0, slots := 0, locals := 21 } : Room) s m args below meth c H locs 0 0 Q (F0 m 4 ls []) := by
    intro k4
    induction k4 with
    | zero =>
      intro H locs ls x2 x3 hx2 hx3 hf
      have hf : (none : Option Int) = some r := hf
      cases hf
    | succ k4 ih4 =>
      intro H locs ls x2 x3 hx2 hx3 hf hW hS hl
      have hf : fX3_seenAt_L4s n σ p0 x1 (fX3_seenAt_L4 n σ p0 x1 k4) x2 x3 = some r := hf
      unfold fX3_seenAt_L4s at hf
      refine lv_iload_n hx hb dX3_seenAt_4 rfl (lv_at hl 3 rfl) ?_
      refine lv_aload_n hx hb dX3_seenAt_5 rfl (lv_at hl 0 rfl) ?_
      refine g_X3_rowSize X hW hp0 (X.2.2.2.2.1 _ mw98) dX3_seenAt_6 ?_
      refine m_icmp_ge (tgt := 46) hx hb hx3 (hW.2.1 _ _) hf dX3_seenAt_9 (by decide) (fun hf => ?_) (fun hf => ?_)
      · skip
        refine m_const (v := (-1)) hx hb dX3_seenAt_46 rfl ?_
        exact m_ireti X hr hlocks rfl (by decide) (fun h => Bool.noConfusion h) hW hS (Option.some.inj hf) rfl hQ dX3_seenAt_47
      · skip
        refine lv_aload_n hx hb dX3_seenAt_12 rfl (lv_at hl 0 rfl) ?_
        refine lv_aload_n hx hb dX3_seenAt_13 rfl (lv_at hl 0 rfl) ?_
        refine g_X3_row X hW hp0 (X.2.2.2.2.1 _ mw97) dX3_seenAt_14 ?_
        refine lv_iload_n hx hb dX3_seenAt_17 rfl (lv_at hl 3 rfl) ?_
        refine m_iald X hW (a_X3_row hp0) hx3 hf dX3_seenAt_18 (fun v1 hv1 hf => ?_)
        refine m_callVi1 (z := true) (As := [.int (i32 v1)]) (rest := []) X hW hS hl.1 gc_X3_166 hd_X3_isSeen ⟨rfl, rfl, Nat.le_of_ble_eq_true rfl, Nat.le_of_ble_eq_true rfl⟩ (rc_X3 X hW hp0) (fun v q => ok_X3_isSeen hp0 hv1 q) hf rfl rfl (Nat.le_of_ble_eq_true rfl) dX3_seenAt_19 ⟨Nat.le_of_ble_eq_true rfl, Nat.le_of_ble_eq_true rfl⟩ (fun v2 H locs hv2 zv2 hWv2 hSv2 hf => ?_)
        refine m_if_eq (tgt := 40) hx hb hv2 hf dX3_seenAt_22 (by decide) (fun hf => ?_) (fun hf => ?_)
        · skip
          refine m_iinc (k0 := 3) (fun v3 => [(3, .int (i32 v3)), (0, .ref (ad p0)), (1, .int (i32 x1)), (2, .int (i32 x2))]) hx hb hf dX3_seenAt_40 hl rfl (by decide) (fun _ => rfl) (fun v3 ls hv3 hf hl => ?_)
          have hl : lv_has ls 4 [(3, .int (i32 v3)), (0, .ref (ad p0)), (1, .int (i32 x1)), (2, .int (i32 x2))] := hl
          refine lv_goto (tgt := 4) hx hb dX3_seenAt_43 (by decide) ?_
          exact ih4 _ _ _ x2 v3 hx2 hv3 hf hWv2 hSv2 (lv_sub hl [1, 2, 3, 0] rfl)
        · skip
          refine lv_iload_n hx hb dX3_seenAt_25 rfl (lv_at hl 2 rfl) ?_
          refine lv_iload_n hx hb dX3_seenAt_26 rfl (lv_at hl 1 rfl) ?_
          refine m_icmp_ne (tgt := 37) hx hb hx2 hx1 hf dX3_seenAt_27 (by decide) (fun hf => ?_) (fun hf => ?_)
          · skip
            refine m_iinc (k0 := 2) (fun v4 => [(2, .int (i32 v4)), (0, .ref (ad p0)), (1, .int (i32 x1)), (3, .int (i32 x3))]) hx hb hf dX3_seenAt_37 hl rfl (by decide) (fun _ => rfl) (fun v4 ls hv4 hf hl => ?_)
            have hl : lv_has ls 4 [(2, .int (i32 v4)), (0, .ref (ad p0)), (1, .int (i32 x1)), (3, .int (i32 x3))] := hl
            refine m_iinc (k0 := 3) (fun v5 => [(3, .int (i32 v5)), (2, .int (i32 v4)), (0, .ref (ad p0)), (1, .int (i32 x1))]) hx hb hf dX3_seenAt_40 hl rfl (by decide) (fun _ => rfl) (fun v5 ls hv5 hf hl => ?_)
            have hl : lv_has ls 4 [(3, .int (i32 v5)), (2, .int (i32 v4)), (0, .ref (ad p0)), (1, .int (i32 x1))] := hl
            refine lv_goto (tgt := 4) hx hb dX3_seenAt_43 (by decide) ?_
            exact ih4 _ _ _ v4 v5 hv4 hv5 hf hWv2 hSv2 (lv_sub hl [2, 3, 1, 0] rfl)
          · skip
            refine lv_aload_n hx hb dX3_seenAt_30 rfl (lv_at hl 0 rfl) ?_
            refine g_X3_row X hWv2 hp0 (X.2.2.2.2.1 _ mw97) dX3_seenAt_31 ?_
            refine lv_iload_n hx hb dX3_seenAt_34 rfl (lv_at hl 3 rfl) ?_
            refine m_iald X hWv2 (a_X3_row hp0) hx3 hf dX3_seenAt_35 (fun v6 hv6 hf => ?_)
            exact m_ireti X hr hlocks rfl hv6 (fun h => Bool.noConfusion h) hWv2 hSv2 (Option.some.inj hf) rfl hQ dX3_seenAt_36
  refine m_const (v := 0) hx hb dX3_seenAt_0 rfl ?_
  refine lv_istore_n (lv' := [(2, .int (i32 0)), (0, .ref (ad p0)), (1, .int (i32 x1))]) hx hb dX3_seenAt_1 rfl hl (by decide) rfl (fun ls hl => ?_)
  refine m_const (v := 0) hx hb dX3_seenAt_2 rfl ?_
  refine lv_istore_n (lv' := [(3, .int (i32 0)), (2, .int (i32 0)), (0, .ref (ad p0)), (1, .int (i32 x1))]) hx hb dX3_seenAt_3 rfl hl (by decide) rfl (fun ls hl => ?_)
  exact hc4 n _ _ _ 0 0 (by decide) (by decide) hf hW hS (lv_sub hl [2, 3, 1, 0] rfl)
set_option maxRecDepth 100000 in
set_option maxHeartbeats 4000000 in
theorem ok_X1_firstOf {l : Launch} {D : va_G} {cy : Nat → ClassId} {ad : Nat → Nat} {nm nv sz : Nat} {σ : St} {x1 : Int} {r : Int} (hx1 : inR x1) (hf : fX1_firstOf σ x1 = some r) : CI l yX1_firstOf cX1_firstOf 2 (some .int) ({ frames := 0, cells := 0, slots := 0, locals := 0 } : Room) [.ref (ad 8), .int (i32 x1)] D cy ad nm nv sz σ false r σ := by
  refine m_entry RX1 rfl (by decide +kernel) (Nat.le_of_ble_eq_true rfl) ?_
  intro p e s m args below meth c Q hQ hr hlocks X hW hS ls hl
  have hx := X.1
  have hb := X.2.1
  have hl : lv_has ls 2 [(0, .ref (ad 8)), (1, .int (i32 x1))] := hl
  unfold fX1_firstOf at hf
  refine lv_iload_n hx hb dX1_firstOf_0 rfl (lv_at hl 1 rfl) ?_
  refine m_if_lt (tgt := 21) hx hb hx1 hf dX1_firstOf_1 (by decide) (fun hf => ?_) (fun hf => ?_)
  · skip
    refine m_const (v := (-1)) hx hb dX1_firstOf_21 rfl ?_
    exact m_ireti X hr hlocks rfl (by decide) (fun h => Bool.noConfusion h) hW hS (Option.some.inj hf) rfl hQ dX1_firstOf_22
  · skip
    refine lv_iload_n hx hb dX1_firstOf_4 rfl (lv_at hl 1 rfl) ?_
    refine lv_aload_n hx hb dX1_firstOf_5 rfl (lv_at hl 0 rfl) ?_
    refine g_X1_made X hW (X.2.2.2.2.1 _ mw38) dX1_firstOf_6 ?_
    refine m_icmp_ge (tgt := 21) hx hb hx1 (hW.2.1 _ _) hf dX1_firstOf_9 (by decide) (fun hf => ?_) (fun hf => ?_)
    · skip
      refine m_const (v := (-1)) hx hb dX1_firstOf_21 rfl ?_
      exact m_ireti X hr hlocks rfl (by decide) (fun h => Bool.noConfusion h) hW hS (Option.some.inj hf) rfl hQ dX1_firstOf_22
    · skip
      refine lv_aload_n hx hb dX1_firstOf_12 rfl (lv_at hl 0 rfl) ?_
      refine g_X1_firsts X hW (X.2.2.2.2.1 _ mw33) dX1_firstOf_13 ?_
      refine lv_iload_n hx hb dX1_firstOf_16 rfl (lv_at hl 1 rfl) ?_
      refine m_iald X hW a_X1_firsts hx1 hf dX1_firstOf_17 (fun v1 hv1 hf => ?_)
      refine lv_goto (tgt := 22) hx hb dX1_firstOf_18 (by decide) ?_
      exact m_ireti X hr hlocks rfl hv1 (fun h => Bool.noConfusion h) hW hS (Option.some.inj hf) rfl hQ dX1_firstOf_22
set_option maxRecDepth 100000 in
set_option maxHeartbeats 4000000 in
theorem ok_X3_isNumber {l : Launch} {D : va_G} {cy : Nat → ClassId} {ad : Nat → Nat} {nm nv sz : Nat} {σ : St} {x0 : Int} {r : Int} (hx0 : inR x0) (hf : fX3_isNumber x0 = some r) : CI l yX3_isNumber cX3_isNumber 1 (some .boolean) ({ frames := 0, cells := 0, slots := 0, locals := 0 } : Room) [.int (i32 x0)] D cy ad nm nv sz σ true r σ := by
  refine m_entry RX3 rfl (by decide +kernel) (Nat.le_of_ble_eq_true rfl) ?_
  intro p e s m args below meth c Q hQ hr hlocks X hW hS ls hl
  have hx := X.1
  have hb := X.2.1
  have hl : lv_has ls 1 [(0, .int (i32 x0))] := hl
  unfold fX3_isNumber at hf
  refine lv_iload_n hx hb dX3_isNumber_0 rfl (lv_at hl 0 rfl) ?_
  refine m_if_lt (tgt := 15) hx hb hx0 hf dX3_isNumber_1 (by decide) (fun hf => ?_) (fun hf => ?_)
  · skip
    refine m_const (v := 0) hx hb dX3_isNumber_15 rfl ?_
    exact m_ireti X hr hlocks (nar_b (Or.inl rfl)).1 (by decide) (fun _ => (Or.inl rfl)) hW hS (Option.some.inj hf) rfl hQ dX3_isNumber_16
  · skip
    refine lv_iload_n hx hb dX3_isNumber_4 rfl (lv_at hl 0 rfl) ?_
    refine m_sipush (v := 160) hx hb dX3_isNumber_5 (by decide) ?_
    refine m_icmp_ge (tgt := 15) hx hb hx0 (by decide) hf dX3_isNumber_8 (by decide) (fun hf => ?_) (fun hf => ?_)
    · skip
      refine m_const (v := 0) hx hb dX3_isNumber_15 rfl ?_
      exact m_ireti X hr hlocks (nar_b (Or.inl rfl)).1 (by decide) (fun _ => (Or.inl rfl)) hW hS (Option.some.inj hf) rfl hQ dX3_isNumber_16
    · skip
      refine m_const (v := 1) hx hb dX3_isNumber_11 rfl ?_
      refine lv_goto (tgt := 16) hx hb dX3_isNumber_12 (by decide) ?_
      exact m_ireti X hr hlocks (nar_b (Or.inr rfl)).1 (by decide) (fun _ => (Or.inr rfl)) hW hS (Option.some.inj hf) rfl hQ dX3_isNumber_16
