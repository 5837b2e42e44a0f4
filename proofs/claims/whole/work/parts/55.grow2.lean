/-! ===== send and name in the law's methods and cases ===== -/
def LME (l : Launch) (y : MethodName) (b : ByteArray) (n : Nat) (hh : List (Nat × Nat × Nat × Nat)) (rm : Room) (av : List Value) (D : va_G) (cy : Nat → ClassId) (ad : Nat → Nat) (nm nv sz : Nat) (σ : St) (mc ms : Nat) (r : Int) (σ2 : St) (nm2 nv2 : Nat) : Prop :=
  vx_Met l y (wsH y b n (some .int) hh) rm (va_Pc av (PreL D cy ad nm nv sz σ)) (XQE D cy ad nm2 nv2 (inR r) (some (.int (i32 r))) σ2 (AW ad nm nv sz)) (fun _ _ _ => False) mc ms (AW ad nm nv sz)
theorem Cx.grow {p : Program} {s : State} {m : MethodId} {args : Array Value} {c : Code} {cc : ByteArray} {nL : Nat} {own : String} {D : va_G} {cy : Nat → ClassId} {ad ad1 : Nat → Nat} {nm nv nm2 nv2 : Nat} {A B : Nat → Prop} (X : Cx p s m args c cc nL own D cy ad nm nv A) (hD : Dd B ad1 nm2 nv2) (hB : ∀ q, B q → A q) : Cx p s m args c cc nL own D cy ad1 nm2 nv2 A := ⟨X.1, X.2.1, X.2.2.1, X.2.2.2.1, X.2.2.2.2.1, X.2.2.2.2.2.1, hD.weaken (fun a ha => hB _ (hD.2 a ha)), X.2.2.2.2.2.2.2.1, X.2.2.2.2.2.2.2.2⟩
section WEROWS
variable {p : Program} {l : Launch} {e : Env} {R : Room} {s : State} {m : MethodId} {args : Array Value} {below : List Frame} {meth : Method} {c : Code} {H : Heap} {locs : List Loc} {cells slots : Nat} {Q : State → Prop}
variable {cc : ByteArray} {nL : Nat} {own : String} {D : va_G} {cy : Nat → ClassId} {ad : Nat → Nat} {nm nv : Nat} {A : Nat → Prop} {σ : St} {pc : Nat} {ls : Array Slot} {rest : List Value}
theorem w_callVE {nm2 nv2 : Nat} {C : String} {y : MethodName} {bytes : ByteArray} {maxL index nA : Nat} {ret : Option FieldType} {rm : Room} {F : Option (Nat × Int × St)} (ok : Int → Prop) (val : Int → Option Value) {mc2 ms2 : Nat} (ce sl : Nat) {As st0 : List Value} {b : Nat} (X : Cx p s m args c cc nL own D cy ad nm nv A) (Y : TX A s) (hW : Wd D cy ad nm nv σ H) (hS : va_S A s.heap H locs) (hsz : ls.size = nL)
    (hg : GoodIn GW (wsV own index C y (wsG y bytes maxL ret))) (hd : y.cls = C ∧ y.cls ≠ "java/lang/invoke/MethodHandle" ∧ y.cls ≠ "java/lang/invoke/VarHandle" ∧ (parseMethodDescriptor y.desc).map (fun d => d.parameters.length) = some nA) (hR : rm.cells = mc2 ∧ rm.slots = ms2 ∧ rm.frames + 1 ≤ R.frames ∧ 8 + (maxL + 11) + rm.locals ≤ R.locals) (hrec : ∃ cell : Cell, H[b]? = some cell ∧ cell.vm.isStatics = false ∧ s.vm.findClass C = some cell.cls)
    (hM : ∀ cd v σ2, F = some (cd, v, σ2) → XE l y bytes maxL ret rm (.ref b :: As) D cy ad nm nv H.size σ mc2 ms2 cd (ok v) (val v) σ2 nm2 nv2) (hF : F ≠ none) (hn : As.length = nA) (hst : st0 = As.reverse ++ .ref b :: rest) (hrest : (rest.map fun v => v.category).sum ≤ 8) (hdg : decode cc pc = .ok (.invokevirtual index, 3)) (hcs : cells + mc2 ≤ R.cells ∧ slots + ms2 ≤ R.slots) (hce : cells + mc2 ≤ ce) (hsl : slots + ms2 ≤ sl)
    (kk : ∀ (ad1 : Nat → Nat) (v : Int) (σ2 : St) (H1 : Heap) (locs1 : List Loc), (∀ x, x < 300 → ad1 x = ad x) → F = some (0, v, σ2) → ok v → Cx p s m args c cc nL own D cy ad1 nm2 nv2 A → Wd D cy ad1 nm2 nv2 σ2 H1 → va_S A s.heap H1 locs1 → W p l e R s m args below meth c H1 locs1 ce sl Q (F0 m (pc + 3) ls ((val v).toList ++ rest)))
    (kx : ∀ (cd : Nat) (v : Int) (σ2 : St) (H1 : Heap) (locs1 : List Loc) (q : Addr) (cell : Cell), cd ≠ 0 → F = some (cd, v, σ2) → Wd D cy ad nm nv σ2 H1 → va_S A s.heap H1 locs1 → H1[q]? = some cell → cell.vm = .none → s.vm.findClass (exN cd) = some cell.cls → vx_W p l e R s m args below meth c H1 locs1 ce sl Q (F0 m pc ls rest) q) : W p l e R s m args below meth c H locs cells slots Q (F0 m pc ls st0) := by
  cases F with
  | none => exact absurd rfl hF
  | some q =>
    obtain ⟨cd, v, σ2⟩ := q
    have hr := vx_runV (l := l) (R := R) (e := e) (below := below) (meth := meth) (locs := locs) (cells := cells) (slots := slots) (g := F0 m pc ls st0) (rest := rest) (As := As) ⟨X.1, X.2.1, X.2.2.1, X.2.2.2.1, X.2.2.2.2.1⟩ (hM cd v σ2 rfl) (cwV nA X.2.2.2.2.1 hg rfl hR.1 hR.2.1 hd hR.2.2) ⟨PreX.blind, hrec, x_pre X Y hW hS⟩ rfl hn hsz hst (by show 2 * 0 + _ ≤ 8; omega) hdg ⟨hcs.1, hcs.2⟩
    have hfr := m_free X hS
    intro T hT XT
    rcases hr T hT XT with ⟨v1, st₀, t, T', L, h0, X', hL, e1, e2, ⟨⟨hv, ⟨hcd, hok⟩, ad1, hfix, hDd, hP⟩, hF2⟩, st⟩ | ⟨q, st₀, t, T', L, E, ce1, h0, X', hL, e1, e2, ⟨u, ⟨hcd, hu⟩, ⟨hEn, hP⟩, hF2⟩, hce1, hcv, hcl, st⟩
    · cases hv
      subst hcd
      obtain ⟨k1, k2, k3⟩ := vx_keep h0 e1 hS (fun q _ h => hfr q h) hfr hL hF2
      have hW1 := hP.1
      rw [← e1] at hW1
      obtain ⟨t2, a1, b1⟩ := kk ad1 v σ2 T'.heap (locs ++ L) hfix rfl hok (X.grow hDd hfr) hW1 k3 T' rfl (stand_widen X' hce hsl)
      exact ⟨t2, st t2 a1, b1⟩
    · obtain ⟨k1, k2, k3⟩ := vx_keep h0 e1 hS (fun q _ h => hfr q h) hfr hL hF2
      subst hu
      have hW1 := hP.1
      rw [← e1] at hW1
      rw [hEn] at hcl
      obtain ⟨t2, a1, b1⟩ := kx cd v u T'.heap (locs ++ L) q ce1 hcd rfl hW1 k3 (by rw [e1]; exact hce1) hcv hcl T' rfl (stand_widen X' hce hsl)
      exact ⟨t2, st.trans a1, b1⟩
theorem w_retE {ad0 : Nat → Nat} (N1 N2 : Int → Nat) {mc ms : Nat} {σ2 : St} {r : Int} {XC : String → State → State → Prop} (X : Cx p s m args c cc nL own D cy ad nm nv A) (hr : meth.sig.returnType = some .int) (hlocks : meth.locks = false) {u : Int} (hu : inR u) (hW : Wd D cy ad nm nv σ H) (hS : va_S A s.heap H locs) (hc : cells ≤ mc) (hs : slots ≤ ms) (hfix : ∀ x, x < 300 → ad x = ad0 x) (hN1 : N1 u = nm) (hN2 : N2 u = nv) (hf : some (u, σ) = some (r, σ2)) (hQ : vx_MQ below (XQE D cy ad0 (N1 r) (N2 r) (inR r) (some (.int (i32 r))) σ2 A) XC args s mc ms A = Q) (hdg : decode cc pc = .ok (.ireturn, 1)) : W p l e R s m args below meth c H locs cells slots Q (F0 m pc ls [.int (i32 u)]) := by
  cases hf
  subst hQ
  subst hN1
  subst hN2
  exact W.widen hc hs (vx_ret (W.zret X.1 X.2.1 hr rfl (fun t ht hWm => ⟨⟨rfl, hu, ad, hfix, X.2.2.2.2.2.2.1, by rw [← ht] at hW; exact hW, va_K.moved hWm.alike X.2.2.2.2.2.1⟩, hS.F ht⟩) hS.2.2 hdg hlocks))
theorem l_callSE (N1 N2 : Int → Nat) {y : MethodName} {bytes : ByteArray} {maxL index nA : Nat} {hh : List (Nat × Nat × Nat × Nat)} {rm : Room} {F : Option (Int × St)} {ρ : Type} {r : ρ} {κ : Int → St → Option ρ} {mc2 ms2 : Nat} {As st0 : List Value} (X : Cx p s m args c cc nL own D cy ad nm nv A) (Y : TX A s) (Z : NCs s) (hW : Wd D cy ad nm nv σ H) (hS : va_S A s.heap H locs) (hsz : ls.size = nL)
    (hg : GoodIn GW (va_wsS own index y (wsH y bytes maxL (some .int) hh))) (hd : y.cls ≠ "java/lang/invoke/MethodHandle" ∧ y.cls ≠ "java/lang/invoke/VarHandle" ∧ (parseMethodDescriptor y.desc).map (fun d => d.parameters.length) = some nA) (hR : rm.cells = mc2 ∧ rm.slots = ms2 ∧ rm.frames + 1 ≤ R.frames ∧ 8 + (maxL + 11) + rm.locals ≤ R.locals)
    (hM : ∀ v σ2, F = some (v, σ2) → LME l y bytes maxL hh rm As D cy ad nm nv H.size σ mc2 ms2 v σ2 (N1 v) (N2 v)) (hf : b2 F κ = some r) (hn : As.length = nA) (hst : st0 = As.reverse ++ rest) (hrest : (rest.map fun v => v.category).sum ≤ 8) (hdg : decode cc pc = .ok (.invokestatic index, 3)) (hcs : cells + mc2 ≤ R.cells ∧ slots + ms2 ≤ R.slots)
    (kk : ∀ (ad1 : Nat → Nat) (v : Int) (σ2 : St) (H1 : Heap) (locs1 : List Loc), (∀ x, x < 300 → ad1 x = ad x) → inR v → Cx p s m args c cc nL own D cy ad1 (N1 v) (N2 v) A → Wd D cy ad1 (N1 v) (N2 v) σ2 H1 → va_S A s.heap H1 locs1 → κ v σ2 = some r → W p l e R s m args below meth c H1 locs1 (cells + mc2) (slots + ms2) Q (F0 m (pc + 3) ls (.int (i32 v) :: rest))) : W p l e R s m args below meth c H locs cells slots Q (F0 m pc ls st0) := by
  cases F with
  | none => cases hf
  | some q =>
    obtain ⟨v, σ2⟩ := q
    have hfr := m_free X hS
    have hr := vx_runSX (l := l) (R := R) (e := e) (below := below) (meth := meth) (locs := locs) (cells := cells) (slots := slots) (H := H) (g := F0 m pc ls st0) (rest := rest) (As := As) ⟨X.1, X.2.1, X.2.2.1, X.2.2.2.1, X.2.2.2.2.1⟩ (hM v σ2 rfl) (vx_cwSW nA X.2.2.2.2.1 hg rfl hR.1 hR.2.1 hd hR.2.2) ⟨PreL.blind, fun U hU hWm => ⟨rfl, (x_pre (As := As) X Y hW hS U hU hWm).2, Z.moved hWm.alike⟩⟩ rfl hn hsz hst (by show 2 * 0 + _ ≤ 8; omega) hdg ⟨hcs.1, hcs.2⟩
    intro T hT XT
    rcases hr T hT XT with ⟨v1, st₀, t, T', L, h0, X', hL, e1, e2, ⟨⟨hv, hok, ad1, hfix, hDd, hP⟩, hF2⟩, st⟩ | ⟨q, st₀, t, T', L, E, ce1, h0, X', hL, e1, e2, hfalse, hce1, hcv, hcl, st⟩
    · cases hv
      obtain ⟨k1, k2, k3⟩ := vx_keep h0 e1 hS (fun q _ h => hfr q h) hfr hL hF2
      have hW1 := hP.1
      rw [← e1] at hW1
      obtain ⟨t2, a1, b1⟩ := kk ad1 v σ2 T'.heap (locs ++ L) hfix hok (X.grow hDd hfr) hW1 k3 hf T' rfl X'
      exact ⟨t2, st t2 a1, b1⟩
    · exact hfalse.elim
end WEROWS
theorem gc_L_63 : GoodIn GW (wsV RL 63 RX5 yX5_send (wsG yX5_send cX5_send 5 (some .int))) := cg_V mw696 mw697 mw698 mw1 mw699
theorem gc_L_75 : GoodIn GW (wsV RL 75 RX5 yX5_name (wsG yX5_name cX5_name 3 (some .int))) := cg_V mw789 mw790 mw791 mw1 mw792
theorem hd_X5_send : yX5_send.cls = RX5 ∧ yX5_send.cls ≠ "java/lang/invoke/MethodHandle" ∧ yX5_send.cls ≠ "java/lang/invoke/VarHandle" ∧ (parseMethodDescriptor yX5_send.desc).map (fun d => d.parameters.length) = some 2 := by decide +kernel
theorem hd_X5_name : yX5_name.cls = RX5 ∧ yX5_name.cls ≠ "java/lang/invoke/MethodHandle" ∧ yX5_name.cls ≠ "java/lang/invoke/VarHandle" ∧ (parseMethodDescriptor yX5_name.desc).map (fun d => d.parameters.length) = some 1 := by decide +kernel
theorem hdn_L_send : yL_send.cls ≠ "java/lang/invoke/MethodHandle" ∧ yL_send.cls ≠ "java/lang/invoke/VarHandle" ∧ (parseMethodDescriptor yL_send.desc).map (fun d => d.parameters.length) = some 4 := by decide +kernel
theorem hdn_L_name : yL_name.cls ≠ "java/lang/invoke/MethodHandle" ∧ yL_name.cls ≠ "java/lang/invoke/VarHandle" ∧ (parseMethodDescriptor yL_name.desc).map (fun d => d.parameters.length) = some 3 := by decide +kernel
theorem cw_L_send : GoodIn GW (va_wsS RL 208 yL_send (wsH yL_send cL_send 5 (some .int) [(0, 10, 13, 13), (0, 10, 17, 15), (0, 10, 21, 17)])) := cg_H mw693 mw694 mw0 mw695
theorem cw_L_name : GoodIn GW (va_wsS RL 220 yL_name (wsH yL_name cL_name 4 (some .int) [(0, 9, 12, 13), (0, 9, 15, 17)])) := cg_H mw786 mw787 mw0 mw788
noncomputable def fL_send (n : Nat) (nm nv : Nat) (σ : St) (x1 : Int) (x2 : Int) : Option (Int × St) := hw (some 1) (some 2) (some 3) (fun v => v) (fX5_send n nm nv σ x1 x2)
set_option maxRecDepth 100000 in
set_option maxHeartbeats 4000000 in
theorem ok_L_send {l : Launch} {D : va_G} {cy : Nat → ClassId} {ad : Nat → Nat} {nm nv sz : Nat} {σ : St} {n : Nat} {x1 : Int} {x2 : Int} {r : Int} {σ2 : St} (hx1 : inR x1) (hx2 : inR x2) (hf : fL_send n nm nv σ x1 x2 = some (r, σ2)) (hst : l.stackTraces = false) : LME l yL_send cL_send 5 [(0, 10, 13, 13), (0, 10, 17, 15), (0, 10, 21, 17)] ({ frames := 8, cells := 6, slots := 181, locals := 135 } : Room) [.ref (ad 0), .int (i32 x1), .int (i32 x2), .ref (ad 290)] D cy ad nm nv sz σ 6 181 r σ2 ((fun r => if r = 0 then nm + 1 else nm) r) ((fun _ => nv) r) := by
  refine w_entry RL rfl (by decide +kernel) (Nat.le_of_ble_eq_true rfl) ?_
  intro p e s m args below meth c Q hQ hr hlocks X Y Z hT hW hS ls hl
  have hx := X.1
  have hb := X.2.1
  have hN := X.2.2.2.2.2.2.2.2
  have hl : lv_has ls 5 [(0, .ref (ad 0)), (1, .int (i32 x1)), (2, .int (i32 x2)), (3, .ref (ad 290))] := hl
  unfold fL_send at hf
  refine lv_aload_n hx hb dL_send_0 rfl (lv_at hl 3 rfl) ?_
  refine m_const (v := 0) hx hb dL_send_1 rfl ?_
  refine lv_aload_n hx hb dL_send_2 rfl (lv_at hl 0 rfl) ?_
  refine lv_iload_n hx hb dL_send_3 rfl (lv_at hl 1 rfl) ?_
  refine lv_iload_n hx hb dL_send_4 rfl (lv_at hl 2 rfl) ?_
  refine w_callVE (nm2 := (nm + 1)) (nv2 := nv) (As := [.int (i32 x1), .int (i32 x2)]) (rest := [.int (i32 0), .ref (ad 290)]) (fun (v : Int) => inR v ∧ (false = true → isB v)) (fun (v : Int) => some (.int (i32 v))) 6 181 X Y hW hS hl.1 gc_L_63 hd_X5_send ⟨rfl, rfl, (Nat.le_of_ble_eq_true rfl), (Nat.le_of_ble_eq_true rfl)⟩ (rc_X5 X hW) (fun cd v q9 q => ok_X5_send hx1 hx2 q hst) (fun q => by rw [q] at hf; cases hf) rfl rfl (Nat.le_of_ble_eq_true rfl) dL_send_5 ⟨(Nat.le_of_ble_eq_true rfl), (Nat.le_of_ble_eq_true rfl)⟩ (Nat.le_of_ble_eq_true rfl) (Nat.le_of_ble_eq_true rfl) (fun ad1 v σ1 H locs hfix hF hv X hW1 hS1 => ?_) (fun cd v σ1 H locs q cell hcd hF hW1 hS1 hce hcv hcl => ?_)
  · rw [hF] at hf
    have hf : some ((0 : Int), st σ1 290 0 v) = some (r, σ2) := hf
    refine W.eq (g2 := F0 m 8 ls [.int (i32 v), .int (i32 0), .ref (ad1 290)]) (by rw [hfix 290 (by decide)]; rfl) ?_
    refine m_i2l hx hb hv.1 dL_send_8 ?_
    refine m_last X hW1 hS1 hv.1 dL_send_9 (fun H locs hW2 hS2 => ?_)
    refine lv_goto (tgt := 25) hx hb dL_send_10 (by decide) ?_
    refine m_const (v := 0) hx hb dL_send_25 rfl ?_
    exact w_retE (fun r => if r = 0 then nm + 1 else nm) (fun _ => nv) X hr hlocks (u := 0) (by decide) hW2 hS2 (Nat.le_of_ble_eq_true rfl) (Nat.le_of_ble_eq_true rfl) hfix rfl rfl hf hQ dL_send_26
  · rw [hF] at hf
    rcases (show cd = 1 ∨ cd = 2 ∨ cd = 3 ∨ 4 ≤ cd by omega) with rfl | rfl | rfl | hcd4
    · have hf : some ((1 : Int), σ1) = some (r, σ2) := hf
      refine vx_catch (name := exN 1) X.2.2.2.1 [] ⟨0, 10, 13, 13⟩ [⟨0, 10, 17, 15⟩, ⟨0, 10, 21, 17⟩] (by rw [hT]; rfl) (fun z hz => nomatch hz) rfl (by decide) (X.2.2.2.2.1 _ mw221) (va_Nw.use rfl (nc_IndexOutOfBoundsException hN)) hce hcv hcl ?_
      refine W.eq (g2 := F0 m 13 ls [.ref q]) rfl ?_
      refine lv_astore (lv' := [(4, .ref q), (0, .ref (ad 0)), (1, .int (i32 x1)), (2, .int (i32 x2)), (3, .ref (ad 290))]) hx hb dL_send_13 hl (by decide) rfl (fun ls hl => ?_)
      refine m_const (v := 1) hx hb dL_send_15 rfl ?_
      exact w_retE (fun r => if r = 0 then nm + 1 else nm) (fun _ => nv) X hr hlocks (u := 1) (by decide) hW1 hS1 (Nat.le_of_ble_eq_true rfl) (Nat.le_of_ble_eq_true rfl) (fun _ _ => rfl) rfl rfl hf hQ dL_send_16
    · have hf : some ((2 : Int), σ1) = some (r, σ2) := hf
      refine vx_catch (name := exN 2) X.2.2.2.1 [⟨0, 10, 13, 13⟩] ⟨0, 10, 17, 15⟩ [⟨0, 10, 21, 17⟩] (by rw [hT]; rfl) (fun z hz => by
        rcases List.mem_cons.mp hz with rfl | hz
        · exact Or.inr ⟨by decide, exN 1, X.2.2.2.2.1 _ mw221, Z.1⟩
        cases hz) rfl (by decide) (X.2.2.2.2.1 _ mw222) (va_Nw.use rfl (nc_IllegalArgumentException hN)) hce hcv hcl ?_
      refine W.eq (g2 := F0 m 17 ls [.ref q]) rfl ?_
      refine lv_astore (lv' := [(4, .ref q), (0, .ref (ad 0)), (1, .int (i32 x1)), (2, .int (i32 x2)), (3, .ref (ad 290))]) hx hb dL_send_17 hl (by decide) rfl (fun ls hl => ?_)
      refine m_const (v := 2) hx hb dL_send_19 rfl ?_
      exact w_retE (fun r => if r = 0 then nm + 1 else nm) (fun _ => nv) X hr hlocks (u := 2) (by decide) hW1 hS1 (Nat.le_of_ble_eq_true rfl) (Nat.le_of_ble_eq_true rfl) (fun _ _ => rfl) rfl rfl hf hQ dL_send_20
    · have hf : some ((3 : Int), σ1) = some (r, σ2) := hf
      refine vx_catch (name := exN 3) X.2.2.2.1 [⟨0, 10, 13, 13⟩, ⟨0, 10, 17, 15⟩] ⟨0, 10, 21, 17⟩ [] (by rw [hT]; rfl) (fun z hz => by
        rcases List.mem_cons.mp hz with rfl | hz
        · exact Or.inr ⟨by decide, exN 1, X.2.2.2.2.1 _ mw221, Z.2.1⟩
        rcases List.mem_cons.mp hz with rfl | hz
        · exact Or.inr ⟨by decide, exN 2, X.2.2.2.2.1 _ mw222, Z.2.2⟩
        cases hz) rfl (by decide) (X.2.2.2.2.1 _ mw223) (va_Nw.use rfl (nc_IllegalStateException hN)) hce hcv hcl ?_
      refine W.eq (g2 := F0 m 21 ls [.ref q]) rfl ?_
      refine lv_astore (lv' := [(4, .ref q), (0, .ref (ad 0)), (1, .int (i32 x1)), (2, .int (i32 x2)), (3, .ref (ad 290))]) hx hb dL_send_21 hl (by decide) rfl (fun ls hl => ?_)
      refine m_const (v := 3) hx hb dL_send_23 rfl ?_
      exact w_retE (fun r => if r = 0 then nm + 1 else nm) (fun _ => nv) X hr hlocks (u := 3) (by decide) hW1 hS1 (Nat.le_of_ble_eq_true rfl) (Nat.le_of_ble_eq_true rfl) (fun _ _ => rfl) rfl rfl hf hQ dL_send_24
    · obtain ⟨cd, rfl⟩ : ∃ k, cd = k + 4 := ⟨cd - 4, by omega⟩
      cases hf
noncomputable def fL_name (n : Nat) (nm nv : Nat) (σ : St) (x1 : Int) : Option (Int × St) := hw (some 1) none (some 2) (fun v => v) (fX5_name n nm nv σ x1)
set_option maxRecDepth 100000 in
set_option maxHeartbeats 4000000 in
theorem ok_L_name {l : Launch} {D : va_G} {cy : Nat → ClassId} {ad : Nat → Nat} {nm nv sz : Nat} {σ : St} {n : Nat} {x1 : Int} {r : Int} {σ2 : St} (hx1 : inR x1) (hf : fL_name n nm nv σ x1 = some (r, σ2)) (hst : l.stackTraces = false) : LME l yL_name cL_name 4 [(0, 9, 12, 13), (0, 9, 15, 17)] ({ frames := 8, cells := 3, slots := 168, locals := 133 } : Room) [.ref (ad 0), .int (i32 x1), .ref (ad 290)] D cy ad nm nv sz σ 3 168 r σ2 ((fun _ => nm) r) ((fun r => if r = 0 then nv + 1 else nv) r) := by
  refine w_entry RL rfl (by decide +kernel) (Nat.le_of_ble_eq_true rfl) ?_
  intro p e s m args below meth c Q hQ hr hlocks X Y Z hT hW hS ls hl
  have hx := X.1
  have hb := X.2.1
  have hN := X.2.2.2.2.2.2.2.2
  have hl : lv_has ls 4 [(0, .ref (ad 0)), (1, .int (i32 x1)), (2, .ref (ad 290))] := hl
  unfold fL_name at hf
  refine lv_aload_n hx hb dL_name_0 rfl (lv_at hl 2 rfl) ?_
  refine m_const (v := 0) hx hb dL_name_1 rfl ?_
  refine lv_aload_n hx hb dL_name_2 rfl (lv_at hl 0 rfl) ?_
  refine lv_iload_n hx hb dL_name_3 rfl (lv_at hl 1 rfl) ?_
  refine w_callVE (nm2 := nm) (nv2 := (nv + 1)) (As := [.int (i32 x1)]) (rest := [.int (i32 0), .ref (ad 290)]) (fun (v : Int) => inR v ∧ (false = true → isB v)) (fun (v : Int) => some (.int (i32 v))) 3 168 X Y hW hS hl.1 gc_L_75 hd_X5_name ⟨rfl, rfl, (Nat.le_of_ble_eq_true rfl), (Nat.le_of_ble_eq_true rfl)⟩ (rc_X5 X hW) (fun cd v q9 q => ok_X5_name hx1 q hst) (fun q => by rw [q] at hf; cases hf) rfl rfl (Nat.le_of_ble_eq_true rfl) dL_name_4 ⟨(Nat.le_of_ble_eq_true rfl), (Nat.le_of_ble_eq_true rfl)⟩ (Nat.le_of_ble_eq_true rfl) (Nat.le_of_ble_eq_true rfl) (fun ad1 v σ1 H locs hfix hF hv X hW1 hS1 => ?_) (fun cd v σ1 H locs q cell hcd hF hW1 hS1 hce hcv hcl => ?_)
  · rw [hF] at hf
    have hf : some ((0 : Int), st σ1 290 0 v) = some (r, σ2) := hf
    refine W.eq (g2 := F0 m 7 ls [.int (i32 v), .int (i32 0), .ref (ad1 290)]) (by rw [hfix 290 (by decide)]; rfl) ?_
    refine m_i2l hx hb hv.1 dL_name_7 ?_
    refine m_last X hW1 hS1 hv.1 dL_name_8 (fun H locs hW2 hS2 => ?_)
    refine lv_goto (tgt := 18) hx hb dL_name_9 (by decide) ?_
    refine m_const (v := 0) hx hb dL_name_18 rfl ?_
    exact w_retE (fun _ => nm) (fun r => if r = 0 then nv + 1 else nv) X hr hlocks (u := 0) (by decide) hW2 hS2 (Nat.le_of_ble_eq_true rfl) (Nat.le_of_ble_eq_true rfl) hfix rfl rfl hf hQ dL_name_19
  · rw [hF] at hf
    rcases (show cd = 1 ∨ cd = 2 ∨ cd = 3 ∨ 4 ≤ cd by omega) with rfl | rfl | rfl | hcd4
    · have hf : some ((1 : Int), σ1) = some (r, σ2) := hf
      refine vx_catch (name := exN 1) X.2.2.2.1 [] ⟨0, 9, 12, 13⟩ [⟨0, 9, 15, 17⟩] (by rw [hT]; rfl) (fun z hz => nomatch hz) rfl (by decide) (X.2.2.2.2.1 _ mw221) (va_Nw.use rfl (nc_IndexOutOfBoundsException hN)) hce hcv hcl ?_
      refine W.eq (g2 := F0 m 12 ls [.ref q]) rfl ?_
      refine lv_astore_n (lv' := [(3, .ref q), (0, .ref (ad 0)), (1, .int (i32 x1)), (2, .ref (ad 290))]) hx hb dL_name_12 rfl hl (by decide) rfl (fun ls hl => ?_)
      refine m_const (v := 1) hx hb dL_name_13 rfl ?_
      exact w_retE (fun _ => nm) (fun r => if r = 0 then nv + 1 else nv) X hr hlocks (u := 1) (by decide) hW1 hS1 (Nat.le_of_ble_eq_true rfl) (Nat.le_of_ble_eq_true rfl) (fun _ _ => rfl) rfl rfl hf hQ dL_name_14
    · cases hf
    · have hf : some ((2 : Int), σ1) = some (r, σ2) := hf
      refine vx_catch (name := exN 3) X.2.2.2.1 [⟨0, 9, 12, 13⟩] ⟨0, 9, 15, 17⟩ [] (by rw [hT]; rfl) (fun z hz => by
        rcases List.mem_cons.mp hz with rfl | hz
        · exact Or.inr ⟨by decide, exN 1, X.2.2.2.2.1 _ mw221, Z.2.1⟩
        cases hz) rfl (by decide) (X.2.2.2.2.1 _ mw223) (va_Nw.use rfl (nc_IllegalStateException hN)) hce hcv hcl ?_
      refine W.eq (g2 := F0 m 15 ls [.ref q]) rfl ?_
      refine lv_astore_n (lv' := [(3, .ref q), (0, .ref (ad 0)), (1, .int (i32 x1)), (2, .ref (ad 290))]) hx hb dL_name_15 rfl hl (by decide) rfl (fun ls hl => ?_)
      refine m_const (v := 2) hx hb dL_name_16 rfl ?_
      exact w_retE (fun _ => nm) (fun r => if r = 0 then nv + 1 else nv) X hr hlocks (u := 2) (by decide) hW1 hS1 (Nat.le_of_ble_eq_true rfl) (Nat.le_of_ble_eq_true rfl) (fun _ _ => rfl) rfl rfl hf hQ dL_name_17
    · obtain ⟨cd, rfl⟩ : ∃ k, cd = k + 4 := ⟨cd - 4, by omega⟩
      cases hf
set_option maxRecDepth 100000 in
set_option maxHeartbeats 4000000 in
theorem case_send {p : Program} {l : Launch} {e : Env} {s : State} {m : MethodId} {args : Array Value} {below : List Frame} {meth : Method} {c : Code} {H : Heap} {locs : List Loc} {cells slots : Nat} {Q : State → Prop} {D : va_G} {cy : Nat → ClassId} {ad : Nat → Nat} {nm nv : Nat} {A : Nat → Prop} {σ : St} {ls : Array Slot} {b L i0 : Nat} {xs : Nat → Int32} {y1 y2 y3 k v : Int} {σ1 σ2 : St} {n : Nat} (X : Cx p s m args c cL_law 7 RL D cy ad nm nv A) (Y : TX A s) (Z : NCs s) (hst : l.stackTraces = false) (hX : va_X b L xs s s.heap) (hbl : b < s.heap.size) (hbA : ¬ A b) (hL : L ≤ 2048) (hiL : i0 + 4 ≤ L) (e1 : (xs (i0 + 1)).toInt = y1) (e2 : (xs (i0 + 2)).toInt = y2) (e3 : (xs (i0 + 3)).toInt = y3) (hW : Wd D cy ad nm nv σ H) (hS : va_S A s.heap H locs) (hl : lv_has ls 7 [(0, .ref b), (1, .ref (ad 0)), (2, .ref (ad 230)), (3, .ref (ad 290)), (4, .int (i32 (i0 : Int)))]) (hce : cells + 6 ≤ 601024) (hsl : slots + 181 ≤ 7293034) (hk : fL_send n nm nv σ y1 y2 = some (k, σ1)) (hm : fX6_send n σ1 y1 y2 = some (v, σ2)) (ht : fX6_thrown σ2 = some k) (ho : k = 0 → (σ2 290 0) = v) (kk : ∀ (ad1 : Nat → Nat) (H1 : Heap) (locs1 : List Loc) (ls1 : Array Slot), (∀ x, x < 300 → ad1 x = ad x) → Cx p s m args c cL_law 7 RL D cy ad1 ((fun r => if r = 0 then nm + 1 else nm) k) ((fun _ => nv) k) A → Wd D cy ad1 ((fun r => if r = 0 then nm + 1 else nm) k) ((fun _ => nv) k) σ2 H1 → va_S A s.heap H1 locs1 → lv_has ls1 7 [(0, .ref b), (1, .ref (ad1 0)), (2, .ref (ad1 230)), (3, .ref (ad1 290)), (4, .int (i32 (i0 : Int)))] → W p l e room_1 s m args below meth c H1 locs1 (cells + 6) (slots + 181) Q (F0 m 3020 ls1 [])) : W p l e room_1 s m args below meth c H locs cells slots Q (F0 m 1233 ls []) := by
  have hx := X.1
  have hb := X.2.1
  have hi0 : inR (i0 : Int) := ⟨by omega, by omega⟩
  have hy1 : inR y1 := by rw [← e1]; exact i32_inR _
  have hy2 : inR y2 := by rw [← e2]; exact i32_inR _
  have hy3 : inR y3 := by rw [← e3]; exact i32_inR _
  refine lv_aload_n hx hb dL_law_1233 rfl (lv_at hl 1 rfl) ?_
  refine lv_aload_n hx hb dL_law_1234 rfl (lv_at hl 0 rfl) ?_
  refine lv_iload hx hb dL_law_1235 (lv_at hl 4 rfl) ?_
  refine m_const (v := 1) hx hb dL_law_1237 rfl ?_
  refine m_add hx hb dL_law_1238 ?_
  refine m_sld (j := i0 + 1) hx hb hX hbl hbA hS (by omega) hL (by omega) e1 dL_law_1239 ?_
  refine lv_aload_n hx hb dL_law_1240 rfl (lv_at hl 0 rfl) ?_
  refine lv_iload hx hb dL_law_1241 (lv_at hl 4 rfl) ?_
  refine m_const (v := 2) hx hb dL_law_1243 rfl ?_
  refine m_add hx hb dL_law_1244 ?_
  refine m_sld (j := i0 + 2) hx hb hX hbl hbA hS (by omega) hL (by omega) e2 dL_law_1245 ?_
  refine lv_aload_n hx hb dL_law_1246 rfl (lv_at hl 3 rfl) ?_
  refine l_callSE (fun r => if r = 0 then nm + 1 else nm) (fun _ => nv) (As := [.ref (ad 0), .int (i32 y1), .int (i32 y2), .ref (ad 290)]) (rest := []) (κ := fun v q => some (v, q)) (r := (k, σ1)) X Y Z hW hS hl.1 cw_L_send hdn_L_send ⟨rfl, rfl, (Nat.le_of_ble_eq_true rfl), (Nat.le_of_ble_eq_true rfl)⟩ (fun v σ2 q => ok_L_send hy1 hy2 q hst) (by rw [hk]; rfl) rfl rfl (Nat.le_of_ble_eq_true rfl) dL_law_1247 ⟨hce, hsl⟩ (fun ad1 v s1 H locs hfix hv X hW1 hS1 hf => ?_)
  cases hf
  rw [← hfix 0 (by decide), ← hfix 230 (by decide), ← hfix 290 (by decide)] at hl
  refine lv_istore (lv' := [(5, .int (i32 k)), (0, .ref b), (1, .ref (ad1 0)), (2, .ref (ad1 230)), (3, .ref (ad1 290)), (4, .int (i32 (i0 : Int)))]) hx hb dL_law_1250 hl (by decide) rfl (fun ls hl => ?_)
  refine lv_aload_n hx hb dL_law_1252 rfl (lv_at hl 3 rfl) ?_
  refine lv_aload_n hx hb dL_law_1253 rfl (lv_at hl 1 rfl) ?_
  refine lv_iload hx hb dL_law_1254 (lv_at hl 5 rfl) ?_
  refine m_const (v := 1) hx hb dL_law_1256 rfl ?_
  refine m_add hx hb dL_law_1257 ?_
  refine m_sld (j := i0 + 1) hx hb hX hbl hbA hS1 (by omega) hL (by omega) e1 dL_law_1258 ?_
  refine lv_aload_n hx hb dL_law_1259 rfl (lv_at hl 1 rfl) ?_
  refine lv_iload hx hb dL_law_1260 (lv_at hl 5 rfl) ?_
  refine m_const (v := 2) hx hb dL_law_1262 rfl ?_
  refine m_add hx hb dL_law_1263 ?_
  refine m_sld (j := i0 + 2) hx hb hX hbl hbA hS1 (by omega) hL (by omega) e2 dL_law_1264 ?_
  refine m_callVi (z := false) (As := [.int (i32 y1), .int (i32 y2)]) (rest := []) (k := fun v q => some (v, q)) (r := (v, σ2)) X hW1 hS1 hl.1 gc_L_210 hd_X6_send ⟨rfl, rfl, (Nat.le_of_ble_eq_true rfl), (Nat.le_of_ble_eq_true rfl)⟩ (rc_X6 X hW1) (fun v s2 q => ok_X6_send hy1 hy2 q) (by rw [hm]; rfl) rfl rfl (Nat.le_of_ble_eq_true rfl) dL_law_1265 ⟨hce, hsl⟩ (fun w s2 H locs hv2 z2 hW2 hS2 hf => ?_)
  cases hf
  refine lv_istore (lv' := [(6, .int (i32 v)), (5, .int (i32 k)), (0, .ref b), (1, .ref (ad1 0)), (2, .ref (ad1 230)), (3, .ref (ad1 290)), (4, .int (i32 (i0 : Int)))]) hx hb dL_law_1268 hl (by decide) rfl (fun ls hl => ?_)
  refine lv_aload_n hx hb dL_law_1270 rfl (lv_at hl 4 rfl) ?_
  refine m_callVi1 (z := false) (As := []) (rest := []) (k := fun v => some v) (r := k) X hW2 hS2 hl.1 gc_L_160 hd_X6_thrown ⟨rfl, rfl, (Nat.le_of_ble_eq_true rfl), (Nat.le_of_ble_eq_true rfl)⟩ (rc_X6 X hW2) (fun v q => ok_X6_thrown  q) (by rw [ht]; rfl) rfl rfl (Nat.le_of_ble_eq_true rfl) dL_law_1271 ⟨hce, hsl⟩ (fun v H locs hv3 z3 hW3 hS3 hf => ?_)
  cases hf
  refine lv_iload hx hb dL_law_1274 (lv_at hl 1 rfl) ?_
  refine lv_icmp_eq (tgt := 1281) hx hb dL_law_1276 (by decide) (fun _ => ?_) (fun q => absurd rfl q)
  refine lv_iload hx hb dL_law_1281 (lv_at hl 1 rfl) ?_
  refine lv_if_ne (tgt := 1298) hx hb dL_law_1283 (by decide) (fun qk => ?_) (fun qk => ?_)
  · refine lv_goto (tgt := 3020) hx hb dL_law_1298 (by decide) ?_
    exact kk ad1 _ _ _ hfix X hW3 hS3 (lv_sub hl [2, 3, 4, 5, 6] rfl)
  · have qk := (i32_eq hv z0).mp qk
    refine lv_aload_n hx hb dL_law_1286 rfl (lv_at hl 5 rfl) ?_
    refine m_const (v := 0) hx hb dL_law_1287 rfl ?_
    refine m_lald X hW3 dL_law_1288 ?_
    refine lv_iload hx hb dL_law_1289 (lv_at hl 0 rfl) ?_
    refine m_i2l hx hb hv2 dL_law_1291 ?_
    refine m_lcmp hx hb (hW3.2.1 _ _) hv2 dL_law_1292 ?_
    refine lv_if_eq (tgt := 1298) hx hb dL_law_1293 (by decide) (fun _ => ?_) (fun q => absurd (by rw [ho qk]; unfold lcm; rw [if_neg (Int.lt_irrefl _), if_pos rfl]; rfl) q)
    refine lv_goto (tgt := 3020) hx hb dL_law_1298 (by decide) ?_
    exact kk ad1 _ _ _ hfix X hW3 hS3 (lv_sub hl [2, 3, 4, 5, 6] rfl)
set_option maxRecDepth 100000 in
set_option maxHeartbeats 4000000 in
theorem case_name {p : Program} {l : Launch} {e : Env} {s : State} {m : MethodId} {args : Array Value} {below : List Frame} {meth : Method} {c : Code} {H : Heap} {locs : List Loc} {cells slots : Nat} {Q : State → Prop} {D : va_G} {cy : Nat → ClassId} {ad : Nat → Nat} {nm nv : Nat} {A : Nat → Prop} {σ : St} {ls : Array Slot} {b L i0 : Nat} {xs : Nat → Int32} {y1 y2 y3 k v : Int} {σ1 σ2 : St} {n : Nat} (X : Cx p s m args c cL_law 7 RL D cy ad nm nv A) (Y : TX A s) (Z : NCs s) (hst : l.stackTraces = false) (hX : va_X b L xs s s.heap) (hbl : b < s.heap.size) (hbA : ¬ A b) (hL : L ≤ 2048) (hiL : i0 + 4 ≤ L) (e1 : (xs (i0 + 1)).toInt = y1) (e2 : (xs (i0 + 2)).toInt = y2) (e3 : (xs (i0 + 3)).toInt = y3) (hW : Wd D cy ad nm nv σ H) (hS : va_S A s.heap H locs) (hl : lv_has ls 7 [(0, .ref b), (1, .ref (ad 0)), (2, .ref (ad 230)), (3, .ref (ad 290)), (4, .int (i32 (i0 : Int)))]) (hce : cells + 3 ≤ 601024) (hsl : slots + 168 ≤ 7293034) (hk : fL_name n nm nv σ y1 = some (k, σ1)) (hm : fX6_name n σ1 y1 = some (v, σ2)) (ht : fX6_thrown σ2 = some k) (ho : k = 0 → (σ2 290 0) = v) (kk : ∀ (ad1 : Nat → Nat) (H1 : Heap) (locs1 : List Loc) (ls1 : Array Slot), (∀ x, x < 300 → ad1 x = ad x) → Cx p s m args c cL_law 7 RL D cy ad1 ((fun _ => nm) k) ((fun r => if r = 0 then nv + 1 else nv) k) A → Wd D cy ad1 ((fun _ => nm) k) ((fun r => if r = 0 then nv + 1 else nv) k) σ2 H1 → va_S A s.heap H1 locs1 → lv_has ls1 7 [(0, .ref b), (1, .ref (ad1 0)), (2, .ref (ad1 230)), (3, .ref (ad1 290)), (4, .int (i32 (i0 : Int)))] → W p l e room_1 s m args below meth c H1 locs1 (cells + 3) (slots + 168) Q (F0 m 3020 ls1 [])) : W p l e room_1 s m args below meth c H locs cells slots Q (F0 m 1481 ls []) := by
  have hx := X.1
  have hb := X.2.1
  have hi0 : inR (i0 : Int) := ⟨by omega, by omega⟩
  have hy1 : inR y1 := by rw [← e1]; exact i32_inR _
  have hy2 : inR y2 := by rw [← e2]; exact i32_inR _
  have hy3 : inR y3 := by rw [← e3]; exact i32_inR _
  refine lv_aload_n hx hb dL_law_1481 rfl (lv_at hl 1 rfl) ?_
  refine lv_aload_n hx hb dL_law_1482 rfl (lv_at hl 0 rfl) ?_
  refine lv_iload hx hb dL_law_1483 (lv_at hl 4 rfl) ?_
  refine m_const (v := 1) hx hb dL_law_1485 rfl ?_
  refine m_add hx hb dL_law_1486 ?_
  refine m_sld (j := i0 + 1) hx hb hX hbl hbA hS (by omega) hL (by omega) e1 dL_law_1487 ?_
  refine lv_aload_n hx hb dL_law_1488 rfl (lv_at hl 3 rfl) ?_
  refine l_callSE (fun _ => nm) (fun r => if r = 0 then nv + 1 else nv) (As := [.ref (ad 0), .int (i32 y1), .ref (ad 290)]) (rest := []) (κ := fun v q => some (v, q)) (r := (k, σ1)) X Y Z hW hS hl.1 cw_L_name hdn_L_name ⟨rfl, rfl, (Nat.le_of_ble_eq_true rfl), (Nat.le_of_ble_eq_true rfl)⟩ (fun v σ2 q => ok_L_name hy1 q hst) (by rw [hk]; rfl) rfl rfl (Nat.le_of_ble_eq_true rfl) dL_law_1489 ⟨hce, hsl⟩ (fun ad1 v s1 H locs hfix hv X hW1 hS1 hf => ?_)
  cases hf
  rw [← hfix 0 (by decide), ← hfix 230 (by decide), ← hfix 290 (by decide)] at hl
  refine lv_istore (lv' := [(5, .int (i32 k)), (0, .ref b), (1, .ref (ad1 0)), (2, .ref (ad1 230)), (3, .ref (ad1 290)), (4, .int (i32 (i0 : Int)))]) hx hb dL_law_1492 hl (by decide) rfl (fun ls hl => ?_)
  refine lv_aload_n hx hb dL_law_1494 rfl (lv_at hl 3 rfl) ?_
  refine lv_aload_n hx hb dL_law_1495 rfl (lv_at hl 1 rfl) ?_
  refine lv_iload hx hb dL_law_1496 (lv_at hl 5 rfl) ?_
  refine m_const (v := 1) hx hb dL_law_1498 rfl ?_
  refine m_add hx hb dL_law_1499 ?_
  refine m_sld (j := i0 + 1) hx hb hX hbl hbA hS1 (by omega) hL (by omega) e1 dL_law_1500 ?_
  refine m_callVi (z := false) (As := [.int (i32 y1)]) (rest := []) (k := fun v q => some (v, q)) (r := (v, σ2)) X hW1 hS1 hl.1 gc_L_222 hd_X6_name ⟨rfl, rfl, (Nat.le_of_ble_eq_true rfl), (Nat.le_of_ble_eq_true rfl)⟩ (rc_X6 X hW1) (fun v s2 q => ok_X6_name hy1 q) (by rw [hm]; rfl) rfl rfl (Nat.le_of_ble_eq_true rfl) dL_law_1501 ⟨hce, hsl⟩ (fun w s2 H locs hv2 z2 hW2 hS2 hf => ?_)
  cases hf
  refine lv_istore (lv' := [(6, .int (i32 v)), (5, .int (i32 k)), (0, .ref b), (1, .ref (ad1 0)), (2, .ref (ad1 230)), (3, .ref (ad1 290)), (4, .int (i32 (i0 : Int)))]) hx hb dL_law_1504 hl (by decide) rfl (fun ls hl => ?_)
  refine lv_aload_n hx hb dL_law_1506 rfl (lv_at hl 4 rfl) ?_
  refine m_callVi1 (z := false) (As := []) (rest := []) (k := fun v => some v) (r := k) X hW2 hS2 hl.1 gc_L_160 hd_X6_thrown ⟨rfl, rfl, (Nat.le_of_ble_eq_true rfl), (Nat.le_of_ble_eq_true rfl)⟩ (rc_X6 X hW2) (fun v q => ok_X6_thrown  q) (by rw [ht]; rfl) rfl rfl (Nat.le_of_ble_eq_true rfl) dL_law_1507 ⟨hce, hsl⟩ (fun v H locs hv3 z3 hW3 hS3 hf => ?_)
  cases hf
  refine lv_iload hx hb dL_law_1510 (lv_at hl 1 rfl) ?_
  refine lv_icmp_eq (tgt := 1517) hx hb dL_law_1512 (by decide) (fun _ => ?_) (fun q => absurd rfl q)
  refine lv_iload hx hb dL_law_1517 (lv_at hl 1 rfl) ?_
  refine lv_if_ne (tgt := 1534) hx hb dL_law_1519 (by decide) (fun qk => ?_) (fun qk => ?_)
  · refine lv_goto (tgt := 3020) hx hb dL_law_1534 (by decide) ?_
    exact kk ad1 _ _ _ hfix X hW3 hS3 (lv_sub hl [2, 3, 4, 5, 6] rfl)
  · have qk := (i32_eq hv z0).mp qk
    refine lv_aload_n hx hb dL_law_1522 rfl (lv_at hl 5 rfl) ?_
    refine m_const (v := 0) hx hb dL_law_1523 rfl ?_
    refine m_lald X hW3 dL_law_1524 ?_
    refine lv_iload hx hb dL_law_1525 (lv_at hl 0 rfl) ?_
    refine m_i2l hx hb hv2 dL_law_1527 ?_
    refine m_lcmp hx hb (hW3.2.1 _ _) hv2 dL_law_1528 ?_
    refine lv_if_eq (tgt := 1534) hx hb dL_law_1529 (by decide) (fun _ => ?_) (fun q => absurd (by rw [ho qk]; unfold lcm; rw [if_neg (Int.lt_irrefl _), if_pos rfl]; rfl) q)
    refine lv_goto (tgt := 3020) hx hb dL_law_1534 (by decide) ?_
    exact kk ad1 _ _ _ hfix X hW3 hS3 (lv_sub hl [2, 3, 4, 5, 6] rfl)
