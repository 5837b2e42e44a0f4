theorem gc_X5_246 : GoodIn GW (wsV RX5 246 RX0 yX0_copyFrom (wsG yX0_copyFrom cX0_copyFrom 3 none)) := cg_V mw794 mw710 mw711 mw4 mw712
noncomputable def fX5_send (n : Nat) (nm nv : Nat) (σ : St) (x1 : Int) (x2 : Int) : Option (Nat × Int × St) := xw 0 (fX5_siteAt σ x1) (fun o2 σ1 => xw 0 (fX5_siteAt σ1 x2) (fun o4 σ3 => if x1 ≠ x2 then (if σ3 0 9 < 80 then (sendK n nm nv σ3 o2 (σ3 o4 0) (fun σ5 => ck ((σ5 0 9) + 1) (fun v6 => pf σ5 0 9 v6 (fun σ7 => ck ((σ7 0 9) - 1) (fun v8 => some (0, v8, σ7)))))) else (some (3, 0, σ3))) else (some (2, 0, σ3))))
noncomputable def fX5_name (n : Nat) (nm nv : Nat) (σ : St) (x1 : Int) : Option (Nat × Int × St) := xw 0 (fX5_siteAt σ x1) (fun o2 σ1 => if σ1 0 10 < 10 then (nameK nm nv σ1 (fun σ3 => rn (σ3 0 10) 10 (σ3 3 0) (fun j => 700 + 2 * j) (none) (fun o4 => b1 (fX0_copyFrom n σ3 o4 (o2 + 1)) (fun σ5 => ck ((σ5 0 10) + 1) (fun v6 => pf σ5 0 10 v6 (fun σ7 => ck ((σ7 0 10) - 1) (fun v8 => some (0, v8, σ7)))))))) else (some (3, 0, σ1)))
set_option maxRecDepth 100000 in
set_option maxHeartbeats 4000000 in
theorem ok_X5_send {l : Launch} {D : va_G} {cy : Nat → ClassId} {ad : Nat → Nat} {nm nv sz : Nat} {σ : St} {n : Nat} {x1 : Int} {x2 : Int} {cd : Nat} {r : Int} {σ2 : St} (hx1 : inR x1) (hx2 : inR x2) (hf : fX5_send n nm nv σ x1 x2 = some (cd, r, σ2)) (hst : l.stackTraces = false) : XE l yX5_send cX5_send 5 (some .int) ({ frames := 7, cells := 6, slots := 181, locals := 111 } : Room) [.ref (ad 0), .int (i32 x1), .int (i32 x2)] D cy ad nm nv sz σ 6 181 cd ((fun (v : Int) => inR v ∧ (false = true → isB v)) r) ((fun (v : Int) => some (.int (i32 v))) r) σ2 (nm + 1) nv := by
  refine x_entry RX5 rfl (by decide +kernel) (Nat.le_of_ble_eq_true rfl) ?_
  intro p e s m args below meth c Q hQ hr hlocks X Y hE hW hS ls hl
  have hx := X.1
  have hb := X.2.1
  have hl : lv_has ls 5 [(0, .ref (ad 0)), (1, .int (i32 x1)), (2, .int (i32 x2))] := hl
  unfold fX5_send at hf
  refine lv_aload_n hx hb dX5_send_0 rfl (lv_at hl 0 rfl) ?_
  refine lv_iload_n hx hb dX5_send_1 rfl (lv_at hl 1 rfl) ?_
  refine x_callV (d := 0) (As := [.int (i32 x1)]) (rest := []) (fun (v : Nat) => isSite v) (fun (v : Nat) => some (.ref (ad v))) 1 6 X Y hE hlocks hW hS hl.1 gc_X5_61 hd_X5_siteAt ⟨rfl, rfl, (Nat.le_of_ble_eq_true rfl), (Nat.le_of_ble_eq_true rfl)⟩ (rc_X5 X hW) (fun cd v q9 q => ok_X5_siteAt hx1 q hst) hf rfl rfl (Nat.le_of_ble_eq_true rfl) dX5_send_2 ⟨(Nat.le_of_ble_eq_true rfl), (Nat.le_of_ble_eq_true rfl)⟩ hQ (Nat.le_of_ble_eq_true rfl) (Nat.le_of_ble_eq_true rfl) (Nat.le_of_ble_eq_true rfl) (Nat.le_of_ble_eq_true rfl) (fun o2 σ1 H locs ho2 hW1 hS1 hf => ?_)
  refine W.eq (g2 := F0 m 5 ls [.ref (ad o2)]) rfl ?_
  refine lv_astore_n (lv' := [(3, .ref (ad o2)), (0, .ref (ad 0)), (1, .int (i32 x1)), (2, .int (i32 x2))]) hx hb dX5_send_5 rfl hl (by decide) rfl (fun ls hl => ?_)
  refine lv_aload_n hx hb dX5_send_6 rfl (lv_at hl 1 rfl) ?_
  refine lv_iload_n hx hb dX5_send_7 rfl (lv_at hl 3 rfl) ?_
  refine x_callV (d := 0) (As := [.int (i32 x2)]) (rest := []) (fun (v : Nat) => isSite v) (fun (v : Nat) => some (.ref (ad v))) 2 12 X Y hE hlocks hW1 hS1 hl.1 gc_X5_61 hd_X5_siteAt ⟨rfl, rfl, (Nat.le_of_ble_eq_true rfl), (Nat.le_of_ble_eq_true rfl)⟩ (rc_X5 X hW1) (fun cd v q9 q => ok_X5_siteAt hx2 q hst) hf rfl rfl (Nat.le_of_ble_eq_true rfl) dX5_send_8 ⟨(Nat.le_of_ble_eq_true rfl), (Nat.le_of_ble_eq_true rfl)⟩ hQ (Nat.le_of_ble_eq_true rfl) (Nat.le_of_ble_eq_true rfl) (Nat.le_of_ble_eq_true rfl) (Nat.le_of_ble_eq_true rfl) (fun o4 σ3 H locs ho4 hW3 hS3 hf => ?_)
  refine W.eq (g2 := F0 m 11 ls [.ref (ad o4)]) rfl ?_
  refine lv_astore (lv' := [(4, .ref (ad o4)), (3, .ref (ad o2)), (0, .ref (ad 0)), (1, .int (i32 x1)), (2, .int (i32 x2))]) hx hb dX5_send_11 hl (by decide) rfl (fun ls hl => ?_)
  refine lv_iload_n hx hb dX5_send_13 rfl (lv_at hl 3 rfl) ?_
  refine lv_iload_n hx hb dX5_send_14 rfl (lv_at hl 4 rfl) ?_
  refine m_icmp_ne (tgt := 28) hx hb hx1 hx2 hf dX5_send_15 (by decide) (fun hf => ?_) (fun hf => ?_)
  · skip
    refine lv_aload_n hx hb dX5_send_28 rfl (lv_at hl 2 rfl) ?_
    refine g_X5_messageCount X hW3 (X.2.2.2.2.1 _ mw189) dX5_send_29 ?_
    refine lv_aload_n hx hb dX5_send_32 rfl (lv_at hl 2 rfl) ?_
    refine g_X5_messages X hW3 (X.2.2.2.2.1 _ mw182) dX5_send_33 ?_
    refine m_alen (v := 80) 4 X hW3 a_X5_messages ent_5 rfl rfl rfl dX5_send_36 ?_
    refine m_icmp_lt (tgt := 50) hx hb (hW3.2.1 _ _) (by decide) hf dX5_send_37 (by decide) (fun hf => ?_) (fun hf => ?_)
    · skip
      refine lv_aload_n hx hb dX5_send_50 rfl (lv_at hl 2 rfl) ?_
      refine g_X5_messages X hW3 (X.2.2.2.2.1 _ mw182) dX5_send_51 ?_
      refine lv_aload_n hx hb dX5_send_54 rfl (lv_at hl 2 rfl) ?_
      refine g_X5_messageCount X hW3 (X.2.2.2.2.1 _ mw189) dX5_send_55 ?_
      refine send_new (n := n) 1 0 X hW3 hS3 hl rfl rfl ho2 ho4 hf (Nat.le_of_ble_eq_true rfl) (Nat.le_of_ble_eq_true rfl) (Nat.le_of_ble_eq_true rfl) (Nat.le_of_ble_eq_true rfl) (fun ad1 σ5 H locs hfix X hW5 hS5 hf => ?_)
      have hl : lv_has ls 5 [(0, .ref (ad 0))] := lv_sub hl [2] rfl
      rw [← hfix 0 (by decide)] at hl
      refine lv_aload_n hx hb dX5_send_72 rfl (lv_at hl 0 rfl) ?_
      refine lv_dup hx hb dX5_send_73 rfl ?_
      refine g_X5_messageCount X hW5 (X.2.2.2.2.1 _ mw189) dX5_send_74 ?_
      refine m_const (v := 1) hx hb dX5_send_77 rfl ?_
      refine m_iadd hx hb hf dX5_send_78 (fun v6 hv6 hf => ?_)
      refine p_X5_messageCount X hW5 hS5 hv6 hf (X.2.2.2.2.1 _ mw189) dX5_send_79 (fun σ7 H locs hW7 hS7 hf => ?_)
      refine lv_aload_n hx hb dX5_send_82 rfl (lv_at hl 0 rfl) ?_
      refine g_X5_messageCount X hW7 (X.2.2.2.2.1 _ mw189) dX5_send_83 ?_
      refine m_const (v := 1) hx hb dX5_send_86 rfl ?_
      refine m_isub hx hb hf dX5_send_87 (fun v8 hv8 hf => ?_)
      exact x_iretE X hfix hr hlocks rfl hv8 (fun h => Bool.noConfusion h) hW7 hS7 (Nat.le_of_ble_eq_true rfl) (Nat.le_of_ble_eq_true rfl) hf hQ dX5_send_88
    · skip
      exact x_throw (code := 3) (cls := "java/lang/IllegalStateException") (rest := []) X Y hst hE hlocks hW3 hS3 hl.1 rfl (by decide +kernel) (X.2.2.2.2.1 _ mw465) (X.2.2.2.2.1 _ mw13) sx_182 (at_3 X.2.2.2.2.1 X.2.2.2.2.2.2.2.2) ato_3 dX5_send_40 dX5_send_43 dX5_send_44 dX5_send_46 dX5_send_49 (Nat.le_of_ble_eq_true rfl) (Nat.le_of_ble_eq_true rfl) (Nat.le_of_ble_eq_true rfl) (Nat.le_of_ble_eq_true rfl) (Nat.le_of_ble_eq_true rfl) (Nat.le_of_ble_eq_true rfl) ⟨by decide, rfl⟩ hf hQ
  · skip
    exact x_throw (code := 2) (cls := "java/lang/IllegalArgumentException") (rest := []) X Y hst hE hlocks hW3 hS3 hl.1 rfl (by decide +kernel) (X.2.2.2.2.1 _ mw300) (X.2.2.2.2.1 _ mw11) sx_177 (at_2 X.2.2.2.2.1 X.2.2.2.2.2.2.2.2) ato_2 dX5_send_18 dX5_send_21 dX5_send_22 dX5_send_24 dX5_send_27 (Nat.le_of_ble_eq_true rfl) (Nat.le_of_ble_eq_true rfl) (Nat.le_of_ble_eq_true rfl) (Nat.le_of_ble_eq_true rfl) (Nat.le_of_ble_eq_true rfl) (Nat.le_of_ble_eq_true rfl) ⟨by decide, rfl⟩ hf hQ
set_option maxRecDepth 100000 in
set_option maxHeartbeats 4000000 in
theorem ok_X5_name {l : Launch} {D : va_G} {cy : Nat → ClassId} {ad : Nat → Nat} {nm nv sz : Nat} {σ : St} {n : Nat} {x1 : Int} {cd : Nat} {r : Int} {σ2 : St} (hx1 : inR x1) (hf : fX5_name n nm nv σ x1 = some (cd, r, σ2)) (hst : l.stackTraces = false) : XE l yX5_name cX5_name 3 (some .int) ({ frames := 7, cells := 3, slots := 168, locals := 111 } : Room) [.ref (ad 0), .int (i32 x1)] D cy ad nm nv sz σ 3 168 cd ((fun (v : Int) => inR v ∧ (false = true → isB v)) r) ((fun (v : Int) => some (.int (i32 v))) r) σ2 nm (nv + 1) := by
  refine x_entry RX5 rfl (by decide +kernel) (Nat.le_of_ble_eq_true rfl) ?_
  intro p e s m args below meth c Q hQ hr hlocks X Y hE hW hS ls hl
  have hx := X.1
  have hb := X.2.1
  have hl : lv_has ls 3 [(0, .ref (ad 0)), (1, .int (i32 x1))] := hl
  unfold fX5_name at hf
  refine lv_aload_n hx hb dX5_name_0 rfl (lv_at hl 0 rfl) ?_
  refine lv_iload_n hx hb dX5_name_1 rfl (lv_at hl 1 rfl) ?_
  refine x_callV (d := 0) (As := [.int (i32 x1)]) (rest := []) (fun (v : Nat) => isSite v) (fun (v : Nat) => some (.ref (ad v))) 1 6 X Y hE hlocks hW hS hl.1 gc_X5_61 hd_X5_siteAt ⟨rfl, rfl, (Nat.le_of_ble_eq_true rfl), (Nat.le_of_ble_eq_true rfl)⟩ (rc_X5 X hW) (fun cd v q9 q => ok_X5_siteAt hx1 q hst) hf rfl rfl (Nat.le_of_ble_eq_true rfl) dX5_name_2 ⟨(Nat.le_of_ble_eq_true rfl), (Nat.le_of_ble_eq_true rfl)⟩ hQ (Nat.le_of_ble_eq_true rfl) (Nat.le_of_ble_eq_true rfl) (Nat.le_of_ble_eq_true rfl) (Nat.le_of_ble_eq_true rfl) (fun o2 σ1 H locs ho2 hW1 hS1 hf => ?_)
  refine W.eq (g2 := F0 m 5 ls [.ref (ad o2)]) rfl ?_
  refine lv_astore_n (lv' := [(2, .ref (ad o2)), (0, .ref (ad 0)), (1, .int (i32 x1))]) hx hb dX5_name_5 rfl hl (by decide) rfl (fun ls hl => ?_)
  refine lv_aload_n hx hb dX5_name_6 rfl (lv_at hl 1 rfl) ?_
  refine g_X5_versionCount X hW1 (X.2.2.2.2.1 _ mw190) dX5_name_7 ?_
  refine lv_aload_n hx hb dX5_name_10 rfl (lv_at hl 1 rfl) ?_
  refine g_X5_versions X hW1 (X.2.2.2.2.1 _ mw183) dX5_name_11 ?_
  refine m_alen (v := 10) 5 X hW1 a_X5_versions ent_6 rfl rfl rfl dX5_name_14 ?_
  refine m_icmp_lt (tgt := 28) hx hb (hW1.2.1 _ _) (by decide) hf dX5_name_15 (by decide) (fun hf => ?_) (fun hf => ?_)
  · skip
    refine lv_aload_n hx hb dX5_name_28 rfl (lv_at hl 1 rfl) ?_
    refine g_X5_versions X hW1 (X.2.2.2.2.1 _ mw183) dX5_name_29 ?_
    refine lv_aload_n hx hb dX5_name_32 rfl (lv_at hl 1 rfl) ?_
    refine g_X5_versionCount X hW1 (X.2.2.2.2.1 _ mw190) dX5_name_33 ?_
    refine name_new hl.1 X hW1 hS1 hf (Nat.le_of_ble_eq_true rfl) (Nat.le_of_ble_eq_true rfl) (Nat.le_of_ble_eq_true rfl) (Nat.le_of_ble_eq_true rfl) (fun ad1 σ3 H locs hfix X hW3 hS3 hf => ?_)
    have hf_2 : ad1 o2 = ad o2 := hfix _ (site_lt ho2)
    have hl : lv_has ls 3 [(0, .ref (ad 0)), (2, .ref (ad o2))] := lv_sub hl [1, 0] rfl
    rw [← hfix 0 (by decide), ← hf_2] at hl
    refine lv_aload_n hx hb dX5_name_44 rfl (lv_at hl 0 rfl) ?_
    refine g_X5_versions X hW3 (X.2.2.2.2.1 _ mw183) dX5_name_45 ?_
    refine lv_aload_n hx hb dX5_name_48 rfl (lv_at hl 0 rfl) ?_
    refine g_X5_versionCount X hW3 (X.2.2.2.2.1 _ mw190) dX5_name_49 ?_
    refine m_aaldV X hW3 (hW3.2.1 _ _) hf dX5_name_52 (fun hf => ?_) (fun o4 ho4 hf => ?_)
    · cases hf
    · skip
      refine lv_aload_n hx hb dX5_name_53 rfl (lv_at hl 1 rfl) ?_
      refine gN_X4_held X hW3 ho2 (nf_X5_193 X.2.2.2.2.2.2.2.2) dX5_name_54 ?_
      refine m_callVv (As := [.ref (ad1 (o2 + 1))]) (rest := []) X hW3 hS3 hl.1 gc_X5_246 hd_X0_copyFrom ⟨rfl, rfl, Nat.le_of_ble_eq_true rfl, Nat.le_of_ble_eq_true rfl⟩ (rc_X0 X hW3 ho4) (fun v q => ok_X0_copyFrom ho4 (r_X4_held ho2) q) hf rfl rfl (Nat.le_of_ble_eq_true rfl) dX5_name_57 ⟨Nat.le_of_ble_eq_true rfl, Nat.le_of_ble_eq_true rfl⟩ (fun σ5 H locs hW5 hS5 hf => ?_)
      refine lv_aload_n hx hb dX5_name_60 rfl (lv_at hl 0 rfl) ?_
      refine lv_dup hx hb dX5_name_61 rfl ?_
      refine g_X5_versionCount X hW5 (X.2.2.2.2.1 _ mw190) dX5_name_62 ?_
      refine m_const (v := 1) hx hb dX5_name_65 rfl ?_
      refine m_iadd hx hb hf dX5_name_66 (fun v6 hv6 hf => ?_)
      refine p_X5_versionCount X hW5 hS5 hv6 hf (X.2.2.2.2.1 _ mw190) dX5_name_67 (fun σ7 H locs hW7 hS7 hf => ?_)
      refine lv_aload_n hx hb dX5_name_70 rfl (lv_at hl 0 rfl) ?_
      refine g_X5_versionCount X hW7 (X.2.2.2.2.1 _ mw190) dX5_name_71 ?_
      refine m_const (v := 1) hx hb dX5_name_74 rfl ?_
      refine m_isub hx hb hf dX5_name_75 (fun v8 hv8 hf => ?_)
      exact x_iretE X hfix hr hlocks rfl hv8 (fun h => Bool.noConfusion h) hW7 hS7 (Nat.le_of_ble_eq_true rfl) (Nat.le_of_ble_eq_true rfl) hf hQ dX5_name_76
  · skip
    exact x_throw (code := 3) (cls := "java/lang/IllegalStateException") (rest := []) X Y hst hE hlocks hW1 hS1 hl.1 rfl (by decide +kernel) (X.2.2.2.2.1 _ mw465) (X.2.2.2.2.1 _ mw13) sx_244 (at_3 X.2.2.2.2.1 X.2.2.2.2.2.2.2.2) ato_3 dX5_name_18 dX5_name_21 dX5_name_22 dX5_name_24 dX5_name_27 (Nat.le_of_ble_eq_true rfl) (Nat.le_of_ble_eq_true rfl) (Nat.le_of_ble_eq_true rfl) (Nat.le_of_ble_eq_true rfl) (Nat.le_of_ble_eq_true rfl) (Nat.le_of_ble_eq_true rfl) ⟨by decide, rfl⟩ hf hQ
