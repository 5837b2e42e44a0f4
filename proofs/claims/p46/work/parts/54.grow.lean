noncomputable def fX5_send (n : Nat) (nm nv : Nat) (σ : St) (x1 : Int) (x2 : Int) : Option (Nat × Int × St) := xw 0 (fX5_siteAt σ x1) (fun o2 σ1 => xw 0 (fX5_siteAt σ1 x2) (fun o4 σ3 => if x1 ≠ x2 then (if σ3 0 9 < 80 then (sendK n nm nv σ3 o2 (σ3 o4 0) (fun σ5 => ck ((σ5 0 9) + 1) (fun v6 => pf σ5 0 9 v6 (fun σ7 => ck ((σ7 0 9) - 1) (fun v8 => some (0, v8, σ7)))))) else (some (3, 0, σ3))) else (some (2, 0, σ3))))
set_option maxRecDepth 100000 in
set_option maxHeartbeats 4000000 in
theorem ok0_X5_send {l : Launch} {D : va_G} {cy : Nat → ClassId} {ad : Nat → Nat} {nm nv sz : Nat} {σ : St} {n : Nat} {x1 : Int} {x2 : Int} {r : Int} {σ2 : St} (hx1 : inR x1) (hx2 : inR x2) (hf : fX5_send n nm nv σ x1 x2 = some (0, r, σ2)) : CE l yX5_send cX5_send 5 (some .int) ({ frames := 3, cells := 4, slots := 169, locals := 65 } : Room) [.ref (ad 0), .int (i32 x1), .int (i32 x2)] D cy ad nm nv sz σ 4 169 (inR r ∧ (false = true → isB r)) (some (.int (i32 r))) σ2 (nm + 1) nv := by
  refine g_entryE RX5 rfl (by decide +kernel) (Nat.le_of_ble_eq_true rfl) ?_
  intro p e s m args below meth c Q hQ hr hlocks X hW hS ls hl
  have hx := X.1
  have hb := X.2.1
  have hl : lv_has ls 5 [(0, .ref (ad 0)), (1, .int (i32 x1)), (2, .int (i32 x2))] := hl
  unfold fX5_send at hf
  refine lv_aload_n hx hb dX5_send_0 rfl (lv_at hl 0 rfl) ?_
  refine lv_iload_n hx hb dX5_send_1 rfl (lv_at hl 1 rfl) ?_
  have hf := xw_b2 hf
  refine m_callVr (K := isSite) (As := [.int (i32 x1)]) (rest := []) X hW hS hl.1 gc_X5_61 hd_X5_siteAt ⟨rfl, rfl, Nat.le_of_ble_eq_true rfl, Nat.le_of_ble_eq_true rfl⟩ (rc_X5 X hW) (fun v q9 q => ok0_X5_siteAt hx1 (zw_of q)) hf rfl rfl (Nat.le_of_ble_eq_true rfl) dX5_send_2 ⟨Nat.le_of_ble_eq_true rfl, Nat.le_of_ble_eq_true rfl⟩ (fun o2 σ1 H locs ho2 hW1 hS1 hf => ?_)
  refine lv_astore_n (lv' := [(3, .ref (ad o2)), (0, .ref (ad 0)), (1, .int (i32 x1)), (2, .int (i32 x2))]) hx hb dX5_send_5 rfl hl (by decide) rfl (fun ls hl => ?_)
  refine lv_aload_n hx hb dX5_send_6 rfl (lv_at hl 1 rfl) ?_
  refine lv_iload_n hx hb dX5_send_7 rfl (lv_at hl 3 rfl) ?_
  have hf := xw_b2 hf
  refine m_callVr (K := isSite) (As := [.int (i32 x2)]) (rest := []) X hW1 hS1 hl.1 gc_X5_61 hd_X5_siteAt ⟨rfl, rfl, Nat.le_of_ble_eq_true rfl, Nat.le_of_ble_eq_true rfl⟩ (rc_X5 X hW1) (fun v q9 q => ok0_X5_siteAt hx2 (zw_of q)) hf rfl rfl (Nat.le_of_ble_eq_true rfl) dX5_send_8 ⟨Nat.le_of_ble_eq_true rfl, Nat.le_of_ble_eq_true rfl⟩ (fun o4 σ3 H locs ho4 hW3 hS3 hf => ?_)
  refine lv_astore (lv' := [(4, .ref (ad o4)), (3, .ref (ad o2)), (0, .ref (ad 0)), (1, .int (i32 x1)), (2, .int (i32 x2))]) hx hb dX5_send_11 hl (by decide) rfl (fun ls hl => ?_)
  refine lv_iload_n hx hb dX5_send_13 rfl (lv_at hl 3 rfl) ?_
  refine lv_iload_n hx hb dX5_send_14 rfl (lv_at hl 4 rfl) ?_
  refine m_icmp_ne (tgt := 28) hx hb hx1 hx2 hf dX5_send_15 (by decide) (fun hf => ?_) (fun hf => ?_)
  · skip
    refine lv_aload_n hx hb dX5_send_28 rfl (lv_at hl 2 rfl) ?_
    refine g_X5_messageCount X hW3 (X.2.2.2.2.1 _ mw188) dX5_send_29 ?_
    refine lv_aload_n hx hb dX5_send_32 rfl (lv_at hl 2 rfl) ?_
    refine g_X5_messages X hW3 (X.2.2.2.2.1 _ mw181) dX5_send_33 ?_
    refine m_alen (v := 80) 4 X hW3 a_X5_messages ent_5 rfl rfl rfl dX5_send_36 ?_
    refine m_icmp_lt (tgt := 50) hx hb (hW3.2.1 _ _) (by decide) hf dX5_send_37 (by decide) (fun hf => ?_) (fun hf => ?_)
    · skip
      refine lv_aload_n hx hb dX5_send_50 rfl (lv_at hl 2 rfl) ?_
      refine g_X5_messages X hW3 (X.2.2.2.2.1 _ mw181) dX5_send_51 ?_
      refine lv_aload_n hx hb dX5_send_54 rfl (lv_at hl 2 rfl) ?_
      refine g_X5_messageCount X hW3 (X.2.2.2.2.1 _ mw188) dX5_send_55 ?_
      refine send_new (n := n) 1 0 X hW3 hS3 hl rfl rfl ho2 ho4 hf (Nat.le_of_ble_eq_true rfl) (Nat.le_of_ble_eq_true rfl) (Nat.le_of_ble_eq_true rfl) (Nat.le_of_ble_eq_true rfl) (fun ad1 σ5 H locs hfix X hW5 hS5 hf => ?_)
      have hl : lv_has ls 5 [(0, .ref (ad 0))] := lv_sub hl [2] rfl
      rw [← hfix 0 (by decide)] at hl
      refine lv_aload_n hx hb dX5_send_72 rfl (lv_at hl 0 rfl) ?_
      refine lv_dup hx hb dX5_send_73 rfl ?_
      refine g_X5_messageCount X hW5 (X.2.2.2.2.1 _ mw188) dX5_send_74 ?_
      refine m_const (v := 1) hx hb dX5_send_77 rfl ?_
      refine m_iadd hx hb hf dX5_send_78 (fun v6 hv6 hf => ?_)
      refine p_X5_messageCount X hW5 hS5 hv6 hf (X.2.2.2.2.1 _ mw188) dX5_send_79 (fun σ7 H locs hW7 hS7 hf => ?_)
      refine lv_aload_n hx hb dX5_send_82 rfl (lv_at hl 0 rfl) ?_
      refine g_X5_messageCount X hW7 (X.2.2.2.2.1 _ mw188) dX5_send_83 ?_
      refine m_const (v := 1) hx hb dX5_send_86 rfl ?_
      refine m_isub hx hb hf dX5_send_87 (fun v8 hv8 hf => ?_)
      exact g_iretE X hfix hr hlocks rfl hv8 (fun h => Bool.noConfusion h) hW7 hS7 (Nat.le_of_ble_eq_true rfl) (Nat.le_of_ble_eq_true rfl) (congrArg (fun q => q.2.1) (Option.some.inj hf)) (congrArg (fun q => q.2.2) (Option.some.inj hf)) hQ dX5_send_88
    · skip
      exact absurd (congrArg (fun q => q.1) (Option.some.inj hf)) (by simp)
  · skip
    exact absurd (congrArg (fun q => q.1) (Option.some.inj hf)) (by simp)
