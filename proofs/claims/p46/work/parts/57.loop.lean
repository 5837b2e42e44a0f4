/-! ===== the law of its own: cell, its turns one after the other, its start ===== -/
theorem hdn_X5_init : yX5_init.cls ≠ "java/lang/invoke/MethodHandle" ∧ yX5_init.cls ≠ "java/lang/invoke/VarHandle" ∧ (parseMethodDescriptor yX5_init.desc).map (fun d => d.parameters.length) = some 0 := by decide +kernel
theorem tk_int {args : Array Value} {U : State} (h : (Cond.arrayClass .int).before args U = true) : ∃ c, ArrOfT U c .int ∧ va_RA U c .int := by
  obtain ⟨c, k, comp, h1, h2, h3⟩ := Cond.arrayClass_spec h
  exact ⟨c, fun n z => ⟨fun k h => (by cases h), k, h2, comp, h3⟩, h1⟩
theorem tk_boolean {args : Array Value} {U : State} (h : (Cond.arrayClass .boolean).before args U = true) : ∃ c, ArrOfT U c .boolean ∧ va_RA U c .boolean := by
  obtain ⟨c, k, comp, h1, h2, h3⟩ := Cond.arrayClass_spec h
  exact ⟨c, fun n z => ⟨fun k h => (by cases h), k, h2, comp, h3⟩, h1⟩
theorem tk_obj {C : String} {U : State} (h : va_AO C U) : ∃ c, ArrOfT U c (.object C) ∧ va_RA U c (.object C) := by
  obtain ⟨comp, c, k, h1, -, h2, h3, h4⟩ := Cond.arrayOver_spec h
  exact ⟨c, fun n z => ⟨fun k h => (by cases h), k, h2, comp, h3⟩, k, comp, h2, h3, h1, h4⟩
theorem tk_arr {ty : FieldType} {U : State} (h : va_AOA ty U) : ∃ c, ArrOfT U c (.array ty) ∧ va_RA U c (.array ty) := by
  obtain ⟨comp, c, k, h1, -, h2, h3, h4⟩ := arrayOverA_spec h
  exact ⟨c, fun n z => ⟨fun k h => (by cases h), k, h2, comp, h3⟩, h4⟩
theorem st_nwF : ∀ q ∈ nwF, Cond.fieldLinkNest q.1 q.2.1 q.2.2.1 q.2.2.2.1 q.2.2.2.2.1 q.2.2.2.2.2 ∈ lw_tbl := by decide +kernel
theorem st_nwM : ∀ q ∈ nwM, Cond.methodLinkNest q.1 q.2.1 q.2.2.1 q.2.2.2 ∈ lw_tbl := by decide +kernel
theorem st_nwC : ∀ q ∈ nwC, Cond.castable q.1 q.2 ∈ lw_tbl := by decide +kernel
theorem st_nwD : ∀ q ∈ nwD, Cond.declares q ∈ lw_tbl := by decide +kernel
theorem st_own : (Cond.arrayOver (.object "Marginnote$Site")) ∈ lw_tbl ∧ (Cond.arrayOver (.object "Marginnote$Message")) ∈ lw_tbl ∧ (Cond.arrayOver (.object "Marginnote$ActSet")) ∈ lw_tbl ∧ (Cond.arrayOver (.array .int)) ∈ lw_tbl := by decide +kernel
theorem st_NWs {args : Array Value} {s : State} (h : ∀ w ∈ lw_tbl, w.before args s = true) : NWs s :=
  ⟨fun q hq => va_Nw.of rfl (h _ (st_nwF q hq)), fun q hq => va_Nw.of rfl (h _ (st_nwM q hq)), fun q hq => va_Nw.of rfl (h _ (st_nwC q hq)), fun q hq => va_Nw.of rfl (h _ (st_nwD q hq)), h _ st_own.1, h _ st_own.2.1, h _ st_own.2.2.1, h _ st_own.2.2.2⟩
theorem st_GW {args : Array Value} {s : State} (h : ∀ w ∈ lw_tbl, w.before args s = true) : ∀ w ∈ GW, w.before args s = true := fun w hw => h w (List.mem_filter.mp hw).1
theorem st_K {args : Array Value} {s : State} (h : ∀ w ∈ lw_tbl, w.before args s = true) : ∃ (D : va_G) (cy : Nat → ClassId), va_K D vwCl (tysC cy) s := by
  have hG := st_GW h
  obtain ⟨c1, h1⟩ := tk_int (hG _ mw63)
  obtain ⟨c2, h2⟩ := tk_boolean (hG _ mw64)
  obtain ⟨c4, h4⟩ := tk_obj (C := RX4) (U := s) (h _ st_own.1)
  obtain ⟨c5, h5⟩ := tk_obj (C := RX2) (U := s) (h _ st_own.2.1)
  obtain ⟨c6, h6⟩ := tk_obj (C := RX0) (U := s) (h _ st_own.2.2.1)
  obtain ⟨c7, h7⟩ := tk_arr (ty := .int) (U := s) (h _ st_own.2.2.2)
  obtain ⟨d0, i0, k0⟩ := u_known (C := RX0) (T := TX0) (N := 2) hG i_X0 (hG _ mw73)
  obtain ⟨d1, i1, k1⟩ := u_known (C := RX1) (T := TX1) (N := 10) hG i_X1 (hG _ mw24)
  obtain ⟨d2, i2, k2⟩ := u_known (C := RX2) (T := TX2) (N := 3) hG i_X2 (hG _ mw648)
  obtain ⟨d3, i3, k3⟩ := u_known (C := RX3) (T := TX3) (N := 12) hG i_X3 (hG _ mw88)
  obtain ⟨d4, i4, k4⟩ := u_known (C := RX4) (T := TX4) (N := 10) hG i_X4 (hG _ mw67)
  obtain ⟨d5, i5, k5⟩ := u_known (C := RX5) (T := TX5) (N := 11) hG i_X5 (hG _ mw16)
  refine ⟨(fun k => match k with | 0 => d0 | 1 => d1 | 2 => d2 | 3 => d3 | 4 => d4 | _ => d5, fun k => match k with | 0 => i0 | 1 => i1 | 2 => i2 | 3 => i3 | 4 => i4 | _ => i5), fun k => match k with | 1 => c1 | 2 => c2 | 3 => c1 | 4 => c4 | 5 => c5 | 6 => c6 | _ => c7, fun c q hq => ?_, fun k q hk => ?_⟩
  · have hc : c < 6 := (List.getElem?_eq_some_iff.mp hq).1
    rcases (show c = 0 ∨ c = 1 ∨ c = 2 ∨ c = 3 ∨ c = 4 ∨ c = 5 by omega) with rfl | rfl | rfl | rfl | rfl | rfl
    · cases hq; exact k0
    · cases hq; exact k1
    · cases hq; exact k2
    · cases hq; exact k3
    · cases hq; exact k4
    · cases hq; exact k5
  · have hc : k < 7 := (List.getElem?_eq_some_iff.mp hk).1
    rcases (show k = 0 ∨ k = 1 ∨ k = 2 ∨ k = 3 ∨ k = 4 ∨ k = 5 ∨ k = 6 by omega) with rfl | rfl | rfl | rfl | rfl | rfl | rfl
    · cases hk; exact h1
    · cases hk; exact h2
    · cases hk; exact h1
    · cases hk; exact h4
    · cases hk; exact h5
    · cases hk; exact h6
    · cases hk; exact h7
/-- what the law's 'cell' is called with: the world, and the script beside it -/
def PreCe (D : va_G) (cy : Nat → ClassId) (ad : Nat → Nat) (nm nv sz : Nat) (σ : St) (b L : Nat) (xs : Nat → Int32) (U : State) : Prop := PreW D cy ad nm nv sz σ U ∧ va_X b L xs U U.heap ∧ b < sz ∧ ¬ AW ad nm nv sz b
theorem PreCe.blind {D : va_G} {cy : Nat → ClassId} {ad : Nat → Nat} {nm nv sz b L : Nat} {xs : Nat → Int32} {σ : St} {args : List Value} : FrameBlind (va_Pc args (PreCe D cy ad nm nv sz σ b L xs)) := by
  intro a U g mk q
  obtain ⟨q0, q1, q2, q3⟩ := q
  exact ⟨q0, (PreW.blind (args := args) a U g mk ⟨q0, q1⟩).2, va_X.moved (u := U) (U := U.calling g mk a) (Vm.Alike.refl U.vm) q2, q3⟩
set_option maxRecDepth 100000 in
set_option maxHeartbeats 4000000 in
theorem ok_L_cell {l : Launch} {D : va_G} {cy : Nat → ClassId} {ad : Nat → Nat} {nm nv sz b L : Nat} {xs : Nat → Int32} {σ : St} {k : Int} (hk : 0 ≤ k ∧ k < 1000) (hL : L ≤ 260) : Met l yL_cell (wsG yL_cell cL_cell 2 (some .int)) ({ frames := 0, cells := 0, slots := 0, locals := 0 } : Room) (va_Pc [.ref b, .int (i32 k)] (PreCe D cy ad nm nv sz σ b L xs)) (va_Qi (fun (_ : Int32) (u : St) => u = σ) (PostW D cy ad nm nv) (AW ad nm nv sz)) 0 0 (AW ad nm nv sz) := by
  refine Met.ofW (cc := cL_cell) (maxL := 2) (ret := some .int) (by decide +kernel) rfl ?_
  intro p e s m args below meth c s₁ B hml hv
  obtain ⟨rfl, ⟨hsz, hW, hK, hD0, hN⟩, hX, hb1, hb2⟩ := hv
  have hx := B.exec
  have hb := B.bytes
  have hS : va_S (AW ad nm nv sz) s.heap s.heap [] := va_S.rf
  have hbl : b < s.heap.size := by rw [hsz]; exact hb1
  have hkR : inR k := ⟨by omega, by omega⟩
  have key : ∀ ls : Array Slot, lv_has ls 2 [(0, .ref b), (1, .int (i32 k))] → W p l e ({ frames := 0, cells := 0, slots := 0, locals := 0 } : Room) s m [Value.ref b, .int (i32 k)].toArray below meth c s.heap [] 0 0 (MQ below (va_Qi (fun (_ : Int32) (u : St) => u = σ) (PostW D cy ad nm nv) (AW ad nm nv sz)) [Value.ref b, .int (i32 k)].toArray s 0 0 (AW ad nm nv sz)) (F0 m 0 ls []) := by
    intro ls hl
    have fin : ∀ v : Int32, W p l e ({ frames := 0, cells := 0, slots := 0, locals := 0 } : Room) s m [Value.ref b, .int (i32 k)].toArray below meth c s.heap [] 0 0 (MQ below (va_Qi (fun (_ : Int32) (u : St) => u = σ) (PostW D cy ad nm nv) (AW ad nm nv sz)) [Value.ref b, .int (i32 k)].toArray s 0 0 (AW ad nm nv sz)) (F0 m 24 ls [.int v]) := fun v =>
      W.zret hx hb B.returns rfl (fun t ht hWm => ⟨⟨v, σ, rfl, rfl, by rw [← ht] at hW; exact hW, va_K.moved hWm.alike hK⟩, hS.F ht⟩) hS.2.2 dL_cell_24 B.notSynchronized
    refine lv_iload_n hx hb dL_cell_0 rfl (lv_at hl 1 rfl) ?_
    refine lv_aload_n hx hb dL_cell_1 rfl (lv_at hl 0 rfl) ?_
    refine va_slen hx hb hX hbl hb2 hS dL_cell_2 ?_
    rw [show Int32.ofNat L = i32 (L : Int) from nI_i32 L]
    refine lv_icmp_ge (tgt := 12) hx hb dL_cell_3 (by decide) (fun q => ?_) (fun q => ?_)
    · refine m_sipush (v := 7919) hx hb dL_cell_12 (by decide) ?_
      refine lv_iload_n hx hb dL_cell_15 rfl (lv_at hl 1 rfl) ?_
      refine m_const (v := 3) hx hb dL_cell_16 rfl ?_
      refine lv_iadd hx hb dL_cell_17 ?_
      refine lv_imul hx hb dL_cell_18 ?_
      refine lv_iload_n hx hb dL_cell_19 rfl (lv_at hl 1 rfl) ?_
      refine m_bipush (v := 11) hx hb dL_cell_20 (by decide) ?_
      refine lv_iadd hx hb dL_cell_22 ?_
      refine lv_imul hx hb dL_cell_23 ?_
      exact fin _
    · have q1 : ¬ ((L : Int) ≤ k) := fun h => q ((i32_le ⟨by omega, by omega⟩ hkR).mpr h)
      refine lv_aload_n hx hb dL_cell_6 rfl (lv_at hl 0 rfl) ?_
      refine lv_iload_n hx hb dL_cell_7 rfl (lv_at hl 1 rfl) ?_
      refine va_sld hx hb hX hbl hb2 hS ((i32_in hkR).mpr ⟨by omega, by omega⟩) dL_cell_8 ?_
      refine lv_goto (tgt := 24) hx hb dL_cell_9 (by decide) ?_
      exact fin _
  have hl := lv_entry [.ref b, .int (i32 k)] (n := 2) (Nat.le_of_ble_eq_true rfl)
  rw [lg_entry_eq]
  exact key _ hl
theorem gc_L_63 : GoodIn GW (wsS RL 63 yL_cell (wsG yL_cell cL_cell 2 (some .int))) := cg_S mw781 mw782 mw0 mw783
theorem hd_L_cell : yL_cell.cls = RL ∧ yL_cell.cls ≠ "java/lang/invoke/MethodHandle" ∧ yL_cell.cls ≠ "java/lang/invoke/VarHandle" ∧ (parseMethodDescriptor yL_cell.desc).map (fun d => d.parameters.length) = some 2 := by decide +kernel
set_option maxRecDepth 100000 in
set_option maxHeartbeats 4000000 in
theorem cell_call {p : Program} {l : Launch} {e : Env} {s : State} {m : MethodId} {args : Array Value} {below : List Frame} {meth : Method} {c : Code} {Q : State → Prop} {D : va_G} {cy : Nat → ClassId} {A : Nat → Prop} {b L : Nat} {xs : Nat → Int32} {nm nv cells slots pc : Nat} {ad : Nat → Nat} {σ : St} {H : Heap} {locs : List Loc} {ls : Array Slot} {k : Int} (hk : 0 ≤ k ∧ k < 1000) (hL : L ≤ 260) (X : Cx p s m args c cL_law 19 RL D cy ad nm nv A) (hW : Wd D cy ad nm nv σ H) (hS : va_S A s.heap H locs) (hsz : ls.size = 19) (hX : va_X b L xs s s.heap) (hbl : b < s.heap.size) (hbA : ¬ A b) (hdg : decode cL_law pc = .ok (.invokestatic 63, 3)) (hcs : cells ≤ room_1.cells ∧ slots ≤ room_1.slots)
    (kk : ∀ (v : Int) (H1 : Heap) (locs1 : List Loc), inR v → Wd D cy ad nm nv σ H1 → va_S A s.heap H1 locs1 → W p l e room_1 s m args below meth c H1 locs1 cells slots Q (F0 m (pc + 3) ls [.int (i32 v)])) : W p l e room_1 s m args below meth c H locs cells slots Q (F0 m pc ls [.int (i32 k), .ref b]) := by
  have hfr := m_free X hS
  have hpre : ∀ U : State, U.heap = H → s.WarmedH U.vm → va_Pc [Value.ref b, .int (i32 k)] (PreCe D cy ad nm nv H.size σ b L xs) [Value.ref b, .int (i32 k)].toArray U := fun U hU hWm => by
    have h0 := m_pre (y := yL_cell) (As := [Value.ref b, .int (i32 k)]) X hW U hU hWm
    refine ⟨h0.1, h0.2, ?_, Nat.lt_of_lt_of_le hbl hS.1, fun q => hbA (hfr b q)⟩
    rw [hU]
    exact (hX.kept (hS.2.1 b hbl hbA)).moved hWm.alike
  refine va_calli (va_runS (rest := []) (As := [Value.ref b, .int (i32 k)]) ⟨X.1, X.2.1, X.2.2.1, X.2.2.2.1, X.2.2.2.2.1⟩ (ok_L_cell (l := l) (D := D) (cy := cy) (ad := ad) (nm := nm) (nv := nv) (sz := H.size) (xs := xs) (σ := σ) hk hL) (cwS 2 X.2.2.2.2.1 gc_L_63 rfl rfl rfl hd_L_cell ⟨Nat.le_of_ble_eq_true rfl, Nat.le_of_ble_eq_true rfl⟩) ⟨PreCe.blind, hpre⟩ rfl rfl hsz rfl (by show 2 * 0 + _ ≤ 8; exact Nat.zero_le _) hdg ⟨hcs.1, hcs.2⟩) hS (fun q _ h => hfr q h) hfr (fun x u t H1 locs1 ht hvm hpost hB _ _ hS1 => ?_)
  have hu : u = σ := hpost
  subst hu
  have hW1 := hB.1
  rw [ht] at hW1
  have := kk x.toInt H1 locs1 (i32_inR x) hW1 hS1
  rw [i32_of] at this
  exact this
/-- a turn of the law, as a pure program, keeps I and comes through -/
def TurnOK (I : Nat → Int → Int → Int → St → Prop) : Prop := ∀ (nm : Nat) (x3 x4 x5 : Int) (σ : St) (x6 x7 x8 : Int), I nm x3 x4 x5 σ → (∀ a b, inR (σ a b)) → inR x7 → inR x8 → ∃ (n nm2 : Nat) (y3 y4 y5 : Int) (σ2 : St), fL_law n nm 0 σ x6 x7 x8 x3 x4 x5 = some (y3, y4, y5, nm2, σ2) ∧ I nm2 y3 y4 y5 σ2
set_option maxRecDepth 100000 in
set_option maxHeartbeats 8000000 in
theorem law_lp (I : Nat → Int → Int → Int → St → Prop) (hI : TurnOK I) (hIR : ∀ nm x3 x4 x5 σ, I nm x3 x4 x5 σ → inR x3 ∧ inR x4 ∧ inR x5) {p : Program} {l : Launch} {e : Env} {s : State} {m : MethodId} {args : Array Value} {below : List Frame} {meth : Method} {c : Code} {Q : State → Prop} {D : va_G} {cy : Nat → ClassId} {A : Nat → Prop} {b L : Nat} {xs : Nat → Int32} (hX : va_X b L xs s s.heap) (hbl : b < s.heap.size) (hbA : ¬ A b) (hL : L ≤ 260) (hAf : ∀ q, A q → s.heap.size ≤ q)
    (fin : ∀ (H : Heap) (ls : Array Slot), W p l e room_1 s m args below meth c H [] 600130 7301080 Q (F0 m 1281 ls [.int 1])) :
    ∀ (k t nm : Nat) (ad : Nat → Nat) (x3 x4 x5 : Int) (σ : St) (H : Heap) (locs : List Loc) (ls : Array Slot) (cells slots : Nat), t + k = 44 → cells + 8 * k ≤ 600130 → slots + 338 * k ≤ 7301080 → Cx p s m args c cL_law 19 RL D cy ad nm 0 A → I nm x3 x4 x5 σ → Wd D cy ad nm 0 σ H → va_S A s.heap H locs → lv_has ls 19 [(0, .ref b), (1, .ref (ad 0)), (2, .ref (ad 290)), (3, .int (i32 x3)), (4, .int (i32 x4)), (5, .int (i32 x5)), (6, .int (i32 (t : Int)))] → W p l e room_1 s m args below meth c H locs cells slots Q (F0 m 23 ls []) := by
  intro k
  induction k with
  | zero =>
    intro t nm ad x3 x4 x5 σ H locs ls cells slots h1 hce hsl X hIv hW hS hl
    have hx := X.1
    have hb := X.2.1
    have ht : t = 44 := by omega
    subst ht
    refine lv_iload hx hb dL_law_23 (lv_at hl 6 rfl) ?_
    refine m_bipush (v := 44) hx hb dL_law_25 (by decide) ?_
    refine lv_icmp_ge (tgt := 1280) hx hb dL_law_27 (by decide) (fun q => ?_) (fun q => ?_)
    · refine m_const (v := 1) hx hb dL_law_1280 rfl ?_
      refine va_forget (fun q hq => hAf _ (hS.2.2 q hq)) ?_
      refine W.widen (k := 600130) (n := 7301080) (by omega) (by omega) ?_
      exact fin H ls
    · exact absurd (show i32 44 ≤ i32 ((44 : Nat) : Int) by decide) q
  | succ k ih =>
    intro t nm ad x3 x4 x5 σ H locs ls cells slots h1 hce hsl X hIv hW hS hl
    have hx := X.1
    have hb := X.2.1
    have htR : inR (t : Int) := ⟨by omega, by omega⟩
    obtain ⟨hx3, hx4, hx5⟩ := hIR _ _ _ _ _ hIv
    have hcs : cells ≤ room_1.cells ∧ slots ≤ room_1.slots := ⟨by show cells ≤ 600130; omega, by show slots ≤ 7301080; omega⟩
    refine lv_iload hx hb dL_law_23 (lv_at hl 6 rfl) ?_
    refine m_bipush (v := 44) hx hb dL_law_25 (by decide) ?_
    refine lv_icmp_ge (tgt := 1280) hx hb dL_law_27 (by decide) (fun q => ?_) (fun q => ?_)
    · have := (i32_le (x := 44) (y := (t : Int)) (by decide) htR).mp q
      omega
    clear q
    refine lv_aload_n hx hb dL_law_30 rfl (lv_at hl 0 rfl) ?_
    refine m_const (v := 2) hx hb dL_law_31 rfl ?_
    refine lv_iload hx hb dL_law_32 (lv_at hl 6 rfl) ?_
    refine lv_imul hx hb dL_law_34 ?_
    rw [i32_mul]
    refine cell_call (k := 2 * (t : Int)) ⟨by omega, by omega⟩ hL X hW hS hl.1 hX hbl hbA dL_law_35 hcs (fun v H1 locs1 hv hW1 hS1 => ?_)
    refine lv_istore (lv' := [(7, .int (i32 v)), (0, .ref b), (1, .ref (ad 0)), (2, .ref (ad 290)), (3, .int (i32 x3)), (4, .int (i32 x4)), (5, .int (i32 x5)), (6, .int (i32 (t : Int)))]) hx hb dL_law_38 hl (by decide) rfl (fun ls hl => ?_)
    refine lv_aload_n hx hb dL_law_40 rfl (lv_at hl 1 rfl) ?_
    refine m_const (v := 2) hx hb dL_law_41 rfl ?_
    refine lv_iload hx hb dL_law_42 (lv_at hl 7 rfl) ?_
    refine lv_imul hx hb dL_law_44 ?_
    refine m_const (v := 1) hx hb dL_law_45 rfl ?_
    refine lv_iadd hx hb dL_law_46 ?_
    rw [i32_mul, i32_add]
    refine cell_call (k := 2 * (t : Int) + 1) ⟨by omega, by omega⟩ hL X hW1 hS1 hl.1 hX hbl hbA dL_law_47 hcs (fun w H2 locs2 hw hW2 hS2 => ?_)
    refine lv_istore (lv' := [(8, .int (i32 w)), (7, .int (i32 v)), (0, .ref b), (1, .ref (ad 0)), (2, .ref (ad 290)), (3, .int (i32 x3)), (4, .int (i32 x4)), (5, .int (i32 x5)), (6, .int (i32 (t : Int)))]) hx hb dL_law_50 hl (by decide) rfl (fun ls hl => ?_)
    obtain ⟨n, nm2, y3, y4, y5, σ2, hf, hI2⟩ := hI nm x3 x4 x5 σ (t : Int) v w hIv hW.2.1 hv hw
    refine ok_turn (c0 := cells) (s0 := slots) htR hv hw (fun j hj => by show cells + j ≤ 600130; omega) (fun j hj => by show slots + j ≤ 7301080; omega) (fun ad1 nm1 z3 z4 z5 σ1 H1 locs1 ls1 he hz3 hz4 hz5 X1 hW1 hS1 hl1 => ?_) ad nm σ H2 locs2 ls x3 x4 x5 hx3 hx4 hx5 hf X hW2 hS2 (lv_sub hl [2, 3, 4, 5, 6, 7, 8, 1, 0] rfl)
    cases he
    refine lv_iinc (v := i32 ((t + 1 : Nat) : Int)) (k := 6) (lv' := [(6, .int (i32 ((t + 1 : Nat) : Int))), (0, .ref b), (1, .ref (ad1 0)), (2, .ref (ad1 290)), (3, .int (i32 y3)), (4, .int (i32 y4)), (5, .int (i32 y5))]) hx hb dL_law_1274 hl1 rfl (by rw [show (Int32.ofInt 1) = i32 1 from rfl, i32_add]; rfl) (by decide) rfl (fun ls2 hl2 => ?_)
    refine lv_goto (tgt := 23) hx hb dL_law_1277 (by decide) ?_
    exact ih (t + 1) nm2 ad1 y3 y4 y5 σ2 H1 locs1 ls2 _ _ (by omega) (by omega) (by omega) X1 hI2 hW1 hS1 (lv_sub hl2 [1, 2, 3, 4, 5, 6, 0] rfl)
set_option maxRecDepth 100000 in
set_option maxHeartbeats 8000000 in
theorem law_run (I : Nat → Int → Int → Int → St → Prop) (hI : TurnOK I) (hIR : ∀ nm x3 x4 x5 σ, I nm x3 x4 x5 σ → inR x3 ∧ inR x4 ∧ inR x5) (hI0 : I 0 0 0 0 sSt) {p : Program} {l : Launch} {e : Env} {s : State} {m : MethodId} {below : List Frame} {meth : Method} {c : Code} {Q : State → Prop} {b L : Nat} {xs : Nat → Int32} (hx : p.tables.exec = Jvm.exec) (hb : c.code = cL_law) (hml : c.maxLocals = 19) (hown : s.vm.findClass RL = some m.cls) (hts : ∀ w ∈ lw_tbl, w.before #[Value.ref b] s = true) (hX : va_X b L xs s s.heap) (hbl : b < s.heap.size) (hL : L ≤ 260)
    (fin : ∀ (H : Heap) (ls : Array Slot), W p l e room_1 s m #[Value.ref b] below meth c H [] 600130 7301080 Q (F0 m 1281 ls [.int 1])) : W p l e room_1 s m #[Value.ref b] below meth c s.heap [] 0 0 Q (entryFrame m ([Value.ref b] : List Value).toArray 19) := by
  obtain ⟨D, cy, hK⟩ := st_K hts
  have hN := st_NWs hts
  have hG := st_GW hts
  generalize hA0 : (fun q : Nat => s.heap.size ≤ q) = A
  have hAf : ∀ q, A q → s.heap.size ≤ q := fun q h => by rw [← hA0] at h; exact h
  have hAf2 : ∀ q, s.heap.size ≤ q → A q := fun q h => by rw [← hA0]; exact h
  have X : Cc p s m #[Value.ref b] c cL_law 19 RL D cy A := ⟨hx, hb, hml, hown, hG, hK, hAf2, hN, hN.2.2.2.2⟩
  rw [lg_entry_eq]
  have hl := lv_entry [Value.ref b] (n := 19) (Nat.le_of_ble_eq_true rfl)
  generalize ((lg_sl [Value.ref b] ++ List.replicate (19 - (lg_sl [Value.ref b]).length) Slot.unset).toArray) = ls at hl ⊢
  have hl : lv_has ls 19 [(0, .ref b)] := hl
  have hP : va_P D vwCl [] s.heap := fun k q h => by simp at h
  have hD : va_D A [] := ⟨fun i j p q h => by simp at h, fun k q h => by simp at h⟩
  have hS : va_S A s.heap s.heap [] := va_S.rf
  refine c_new (ci := 5) (fs := [.null, .null, .null, .null, .null, .null, .null, .null, .null, .int 0, .int 0]) X hP hD hS i_X5 tyX5 tyX5_ok (hG _ mw15) (hG _ mw16) (hG _ mw1) rfl (fun j hj => by rcases (show j = 0 ∨ j = 1 ∨ j = 2 ∨ j = 3 ∨ j = 4 ∨ j = 5 ∨ j = 6 ∨ j = 7 ∨ j = 8 ∨ j = 9 ∨ j = 10 by omega) with rfl | rfl | rfl | rfl | rfl | rfl | rfl | rfl | rfl | rfl | rfl <;> rfl) (Nat.le_of_ble_eq_true rfl) (Nat.le_of_ble_eq_true rfl) dL_law_0 (fun q5 H hP hD hS => ?_)
  refine lv_dup hx hb dL_law_3 rfl ?_
  refine c_call (W0 := []) (g := gX5 cy) (As := []) (rest := [.ref q5]) X hP hD hS hl.1 (cg_G mw19) (hG _ mw1) (hG _ mw17) (hG _ mw18) rfl hdn_X5_init ⟨rfl, rfl, (Nat.le_of_ble_eq_true rfl), (Nat.le_of_ble_eq_true rfl)⟩ cc_X5 rfl rfl (Nat.le_of_ble_eq_true rfl) dL_law_4 ⟨(Nat.le_of_ble_eq_true rfl), (Nat.le_of_ble_eq_true rfl)⟩ (fun r5 H locs r50 hP hD hS => ?_)
  refine lv_astore_n (lv' := [(1, .ref q5), (0, .ref b)]) hx hb dL_law_7 rfl hl (by decide) rfl (fun ls hl => ?_)
  refine m_const (v := 4) hx hb dL_law_8 rfl ?_
  refine c_newa (atype := .int) (ty := .int) (k := 1) (t0 := 0) (N' := 4) (f0 := (4, .inl (fun _ => 0))) X hP hD hS (hG _ mw63) rfl rfl (fun cA => rfl) rfl (Nat.le_of_ble_eq_true rfl) (show 4 * 4 ≤ 536870912 from Nat.le_of_ble_eq_true rfl) (Nat.le_of_ble_eq_true rfl) (Nat.le_of_ble_eq_true rfl) dL_law_9 (fun q7 H hP hD hS => ?_)
  refine lv_astore_n (lv' := [(2, .ref q7), (1, .ref q5), (0, .ref b)]) hx hb dL_law_11 rfl hl (by decide) rfl (fun ls hl => ?_)
  refine m_const (v := 0) hx hb dL_law_12 rfl ?_
  refine lv_istore_n (lv' := [(3, .int (i32 0)), (2, .ref q7), (1, .ref q5), (0, .ref b)]) hx hb dL_law_13 rfl hl (by decide) rfl (fun ls hl => ?_)
  refine m_const (v := 0) hx hb dL_law_14 rfl ?_
  refine lv_istore (lv' := [(4, .int (i32 0)), (3, .int (i32 0)), (2, .ref q7), (1, .ref q5), (0, .ref b)]) hx hb dL_law_15 hl (by decide) rfl (fun ls hl => ?_)
  refine m_const (v := 0) hx hb dL_law_17 rfl ?_
  refine lv_istore (lv' := [(5, .int (i32 0)), (4, .int (i32 0)), (3, .int (i32 0)), (2, .ref q7), (1, .ref q5), (0, .ref b)]) hx hb dL_law_18 hl (by decide) rfl (fun ls hl => ?_)
  refine m_const (v := 0) hx hb dL_law_20 rfl ?_
  refine lv_istore (lv' := [(6, .int (i32 0)), (5, .int (i32 0)), (4, .int (i32 0)), (3, .int (i32 0)), (2, .ref q7), (1, .ref q5), (0, .ref b)]) hx hb dL_law_21 hl (by decide) rfl (fun ls hl => ?_)
  have hP : va_P D vwCl (sL cy r5 q7) H := hP
  have hD : va_D A (sL cy r5 q7) := hD
  have hW := start_P hP
  have hDd := start_D hD
  have X1 : Cx p s m #[Value.ref b] c cL_law 19 RL D cy (sAd r5 q7) 0 0 A := ⟨hx, hb, hml, hown, hG, hK, hDd, hAf2, hN⟩
  have e5 : sAd r5 q7 0 = q5 := r50
  have e7 : sAd r5 q7 290 = q7 := rfl
  have hl : lv_has ls 19 [(0, .ref b), (1, .ref (sAd r5 q7 0)), (2, .ref (sAd r5 q7 290)), (3, .int (i32 0)), (4, .int (i32 0)), (5, .int (i32 0)), (6, .int (i32 ((0 : Nat) : Int)))] := by
    rw [e5, e7]; exact lv_sub hl [6, 5, 4, 3, 2, 1, 0] rfl
  exact law_lp I hI hIR hX hbl (fun h => absurd (hAf _ h) (by omega)) hL hAf fin 44 0 0 (sAd r5 q7) 0 0 0 sSt H locs ls _ _ rfl (by show 0 + 1 + 126 + 1 + 8 * 44 ≤ 600130; omega) (by show 0 + 11 + 15822 + 4 + 338 * 44 ≤ 7301080; omega) X1 hI0 hW hS hl
