theorem gc_X2_25 : GoodIn GW (wsV RX2 25 RX0 yX0_copyFrom (wsG yX0_copyFrom cX0_copyFrom 3 none)) := cg_V mw655 mw656 mw657 mw4 mw658
theorem hd_X0_copyFrom : yX0_copyFrom.cls = RX0 ∧ yX0_copyFrom.cls ≠ "java/lang/invoke/MethodHandle" ∧ yX0_copyFrom.cls ≠ "java/lang/invoke/VarHandle" ∧ (parseMethodDescriptor yX0_copyFrom.desc).map (fun d => d.parameters.length) = some 1 := by decide +kernel
theorem hdn_X2_init : yX2_init.cls ≠ "java/lang/invoke/MethodHandle" ∧ yX2_init.cls ≠ "java/lang/invoke/VarHandle" ∧ (parseMethodDescriptor yX2_init.desc).map (fun d => d.parameters.length) = some 2 := by decide +kernel
/-! ===== a message's constructor ===== -/
theorem mwSM : (Cond.sameMethod "[I" "java/lang/Object" "clone" "()Ljava/lang/Object;") ∈ GW := GW_3 0 (List.mem_of_getElem? (i := 181) rfl) rfl
theorem c_entryM {l : Launch} {y : MethodName} {cc : ByteArray} {n : Nat} {rm : Room} {av : List Value} {D : va_G} {cy : Nat → ClassId} {sz : Nat} {ws : va_W} {Qc : Array Value → State → Outcome → State → Prop} {mc ms : Nat} (C : String) (hC : y.cls = C) (hy0 : y.name = "<init>")
    (hy : plainName y.cls = true) (hlen : (lg_sl av).length ≤ n)
    (body : ∀ (p : Program) (e : Env) (s : State) (m : MethodId) (args : Array Value) (below : List Frame) (meth : Method) (c : Code) (A : Nat → Prop) (Q : State → Prop), va_A ws sz = A → MQ below Qc args s mc ms A = Q → meth.sig.returnType = none → meth.locks = false → meth.name = "<init>" → Cc p s m args c cc n C D cy A → va_P D vwCl ws s.heap → va_D A ws → va_S A s.heap s.heap [] → ∀ ls : Array Slot, lv_has ls n (lv_args 0 av) → W p l e rm s m args below meth c s.heap [] 0 0 Q (F0 m 0 ls [])) :
    Met l y (wsG y cc n none) rm (va_Pc av (PreC D cy ws sz)) Qc mc ms (va_A ws sz) := by
  refine Met.ofW (cc := cc) (maxL := n) (ret := none) hy rfl ?_
  intro p e s m args below meth c s₁ B hml hv
  obtain ⟨rfl, hsz, hP, hK, hD0, hN, hO⟩ := hv
  have hts := atoms_spec (ws := wsG y cc n none) B.pre
  have hown : s.vm.findClass C = some m.cls := by rw [← hC]; exact findClass_of_methodNamed B.named
  have hin : meth.name = "<init>" := by rw [(name_of_methodNamed B.named B.method).1, hy0]
  have hl := lv_entry av (n := n) hlen
  have hD := hD0.self (sz := sz)
  rw [lg_entry_eq]
  exact body p e s m _ below meth c _ _ rfl rfl B.returns B.notSynchronized hin ⟨B.exec, B.bytes, hml, hown, fun w hw => hts w (List.mem_cons_of_mem _ hw), hK, fun q hq => Or.inr (by rw [← hsz]; exact hq), hN, hO⟩ hP hD va_S.rf _ hl
section CX2
variable {p : Program} {l : Launch} {e : Env} {R : Room} {s : State} {m : MethodId} {args : Array Value} {below : List Frame} {meth : Method} {c : Code} {H : Heap} {locs : List Loc} {cells slots : Nat} {Q : State → Prop}
variable {cc : ByteArray} {nL : Nat} {own : String} {D : va_G} {cy : Nat → ClassId} {A : Nat → Prop} {pc : Nat} {ls : Array Slot} {rest : List Value} {x0 : Nat × va_E} {ad : Nat → Nat} {nm nv : Nat} {σ σ2 : St}
/-- a method of the world, called where one more cell stands ahead of it -/
theorem c_callCV {C : String} {y : MethodName} {bytes : ByteArray} {maxL index nA : Nat} {ret : Option FieldType} {rm : Room} {As st0 : List Value} {b : Nat} (X : Cc p s m args c cc nL own D cy A) (hP : va_P D vwCl (x0 :: wl cy ad nm nv σ) H) (hD : va_D A (x0 :: wl cy ad nm nv σ)) (hin : ∀ a b, inR (σ a b)) (hg2 : σ 2 0 ≤ (nm : Int)) (hg3 : σ 3 0 ≤ (nv : Int)) (hS : va_S A s.heap H locs) (hsz : ls.size = nL)
    (hg : GoodIn GW (wsV own index C y (wsG y bytes maxL ret))) (hd : y.cls = C ∧ y.cls ≠ "java/lang/invoke/MethodHandle" ∧ y.cls ≠ "java/lang/invoke/VarHandle" ∧ (parseMethodDescriptor y.desc).map (fun d => d.parameters.length) = some nA) (hR : rm.cells = 0 ∧ rm.slots = 0 ∧ rm.frames + 1 ≤ R.frames ∧ 8 + (maxL + 11) + rm.locals ≤ R.locals) (hrec : ∃ cell : Cell, H[b]? = some cell ∧ cell.vm.isStatics = false ∧ s.vm.findClass C = some cell.cls)
    (hM : CV l y bytes maxL ret rm (.ref b :: As) D cy ad nm nv H.size σ σ2) (hn : As.length = nA) (hst : st0 = As.reverse ++ .ref b :: rest) (hrest : (rest.map fun v => v.category).sum ≤ 8) (hdg : decode cc pc = .ok (.invokevirtual index, 3)) (hcs : cells ≤ R.cells ∧ slots ≤ R.slots)
    (kk : ∀ (H1 : Heap) (locs1 : List Loc), va_P D vwCl (x0 :: wl cy ad nm nv σ2) H1 → va_D A (x0 :: wl cy ad nm nv σ2) → (∀ a b, inR (σ2 a b)) → va_S A s.heap H1 locs1 → W p l e R s m args below meth c H1 locs1 cells slots Q (F0 m (pc + 3) ls rest)) : W p l e R s m args below meth c H locs cells slots Q (F0 m pc ls st0) := by
  have hD1 : va_D A (wl cy ad nm nv σ) := ⟨fun i j p q hi hj he => by
    have := hD.1 (i + 1) (j + 1) p q (by rw [List.getElem?_cons_succ]; exact hi) (by rw [List.getElem?_cons_succ]; exact hj) he
    omega, fun k q hk => hD.2 (k + 1) q (by rw [List.getElem?_cons_succ]; exact hk)⟩
  have hP1 : va_P D vwCl (wl cy ad nm nv σ) H := fun k q hk => hP (k + 1) q (by rw [List.getElem?_cons_succ]; exact hk)
  have hDd := Dd.of hD1
  have hfr : ∀ q, AW ad nm nv H.size q → A q := by
    intro q h
    rcases h with ⟨a, ha, rfl⟩ | h
    · exact hDd.2 a ha
    · exact X.2.2.2.2.2.2.1 q (Nat.le_trans hS.1 h)
  have hpre : ∀ U : State, U.heap = H → s.WarmedH U.vm → va_Pc (.ref b :: As) (PreW D cy ad nm nv H.size σ) (.ref b :: As).toArray U := fun U hU hWm => ⟨rfl, by rw [hU], by rw [hU]; exact ⟨hP1, hin, hg2, hg3⟩, va_K.moved hWm.alike X.2.2.2.2.2.1, hDd.weaken (fun _ _ => trivial), X.2.2.2.2.2.2.2.1.warm hWm⟩
  refine va_callv (va_runV (rest := rest) (As := As) ⟨X.1, X.2.1, X.2.2.1, X.2.2.2.1, X.2.2.2.2.1⟩ hM (cwV nA X.2.2.2.2.1 hg rfl hR.1 hR.2.1 hd hR.2.2) ⟨PreW.blind, hrec, hpre⟩ rfl hn hsz hst (by show 2 * 0 + _ ≤ 8; omega) hdg ⟨hcs.1, hcs.2⟩) hS (fun q _ h => hfr q h) hfr (fun u t H1 locs1 ht hvm hpost hB hz hk1 hS1 => ?_)
  subst hpost
  obtain ⟨hW1, hK1⟩ := hB
  rw [ht] at hW1
  have hAW : ∀ q, AW ad nm nv H.size q → va_A (wl cy ad nm nv σ) H.size q := by
    intro q h
    rcases h with ⟨a, ha, rfl⟩ | h
    · obtain ⟨k, hk⟩ := List.getElem?_of_mem ha
      exact Or.inl ⟨k, _, wl_at hk⟩
    · exact Or.inr h
  have hAA : ∀ q, va_A (wl cy ad nm nv σ) H.size q → A q := by
    intro q h
    rcases h with ⟨k, e, hk⟩ | h
    · exact hD1.2 k _ hk
    · exact X.2.2.2.2.2.2.1 q (Nat.le_trans hS.1 h)
  obtain ⟨hP2, hD2⟩ := va_joinL (W := [x0]) (wc := wl cy ad nm nv σ) (w1 := wl cy ad nm nv u) hP hD (fun q hq hnq => hk1 q hq (fun h => hnq (hAW q h))) hAA hW1.1 ((hDd.weaken (fun a ha => hAW _ (Or.inl ⟨a, ha, rfl⟩))).va)
  exact kk H1 locs1 hP2 hD2 hW1.2.1 hS1
end CX2
theorem fit_i {cA : ClassId} {n : Nat} {f : Nat → Int32} : ∀ (i : Nat) (v : Value), (vp_cell cA (n, .inl f)).slots[i]? = some v → fits .int v = true := by
  intro i v h
  have h : (Array.ofFn (n := n) fun j => Value.int (f j.val))[i]? = some v := h
  rw [Array.getElem?_ofFn] at h
  split at h
  · cases h; rfl
  · cases h
def xM0 (h0 : Nat) : Nat × va_E := (h0, .inr (2, [.int 0, .null, .null]))
set_option maxRecDepth 100000 in
set_option maxHeartbeats 8000000 in
theorem cc_X2 {l : Launch} {D : va_G} {cy : Nat → ClassId} {ad : Nat → Nat} {nm nv sz h0 sid n : Nat} {rc : Int} {σ σ3 : St} (hm : nm < 80) (hv : nv ≤ 10) (hI : ∀ a b, inR (σ a b)) (g2 : σ 2 0 ≤ (nm : Int)) (g3 : σ 3 0 ≤ (nv : Int)) (hs : isSite sid) (hrc : inR rc) (hF : fX0_copyFrom n (stV nv σ) (700 + 2 * nv) (sid + 1) = some σ3) (k2 : σ3 2 0 ≤ (nm : Int)) (k3 : σ3 3 0 ≤ (nv : Int)) :
    Met l yX2_init (wsG yX2_init cX2_init 3 none) ({ frames := 2, cells := 3, slots := 166, locals := 43 } : Room) (va_Pc [.ref h0, .ref (ad sid), .int (i32 rc)] (PreC D cy (xM0 h0 :: wl cy ad nm nv σ) sz))
      (va_Qv (fun r : Nat → Nat => r 0 = h0) (fun r t => va_P D vwCl (wl cy (adM ad nm (r 0) (r 1) (r 2) (r 3)) (nm + 1) nv (stM nm nv sid rc σ3)) t.heap ∧ va_K D vwCl (tysC cy) t ∧ va_D (va_A (xM0 h0 :: wl cy ad nm nv σ) sz) (wl cy (adM ad nm (r 0) (r 1) (r 2) (r 3)) (nm + 1) nv (stM nm nv sid rc σ3)) ∧ ∀ a b, inR (σ3 a b)) (va_A (xM0 h0 :: wl cy ad nm nv σ) sz)) 3 166 (va_A (xM0 h0 :: wl cy ad nm nv σ) sz) := by
  refine c_entryM RX2 rfl rfl (by decide +kernel) (Nat.le_of_ble_eq_true rfl) ?_
  intro p e s m args below meth c A Q hA0 hQ hr hlocks hin X hP hD hS ls hl
  have hx := X.1
  have hb := X.2.1
  have hl : lv_has ls 3 [(0, .ref h0), (1, .ref (ad sid)), (2, .int (i32 rc))] := hl
  have hP : va_P D vwCl ((h0, .inr (2, [.int 0, .null, .null])) :: wl cy ad nm nv σ) s.heap := hP
  have hD : va_D A ((h0, .inr (2, [.int 0, .null, .null])) :: wl cy ad nm nv σ) := hD
  refine lv_aload_n hx hb dX2_init_0 rfl (lv_at hl 0 rfl) ?_
  refine c_objInit (rest := []) X hl.1 (X.2.2.2.2.1 _ mw652) (X.2.2.2.2.1 _ mw21) (X.2.2.2.2.1 _ mw22) dX2_init_1 (Nat.le_of_ble_eq_true rfl) (Nat.le_of_ble_eq_true rfl) ?_
  refine lv_aload_n hx hb dX2_init_4 rfl (lv_at hl 0 rfl) ?_
  refine c_newH (ci := 0) (fs := [.null, .int 0]) X hP hD hS i_X0 tyX0 tyX0_ok (X.2.2.2.2.1 _ mw653) (X.2.2.2.2.1 _ mw73) (X.2.2.2.2.1 _ mw4) rfl (fun j hj => by rcases (show j = 0 ∨ j = 1 by omega) with rfl | rfl <;> rfl) (Nat.le_of_ble_eq_true rfl) (Nat.le_of_ble_eq_true rfl) dX2_init_5 (fun q5 H hP hD hS => ?_)
  refine lv_dup hx hb dX2_init_8 rfl ?_
  refine c_callNH (g := gX0 cy) (As := []) (rest := [.ref q5, .ref h0]) X hP hD hS hl.1 (cg_G mw76) (X.2.2.2.2.1 _ mw4) (nm_X2_9 X.2.2.2.2.2.2.2.1) (X.2.2.2.2.1 _ mw75) rfl hdn_X0_init ⟨rfl, rfl, (Nat.le_of_ble_eq_true rfl), (Nat.le_of_ble_eq_true rfl)⟩ cc_X0 rfl rfl (Nat.le_of_ble_eq_true rfl) dX2_init_9 ⟨(Nat.le_of_ble_eq_true rfl), (Nat.le_of_ble_eq_true rfl)⟩ (fun r5 H locs r50 hP hD hS => ?_)
  refine c_putFH (fs' := [.int 0, .ref q5, .null]) X hP hD hS i_X2 tyX2_ok nmX2 rfl 1 (by decide) (X.2.2.2.2.1 _ mw669) rfl rfl hin rfl (tyX2_ok 1 (by decide)) rfl rfl (Nat.le_of_ble_eq_true rfl) rfl dX2_init_12 (fun H locs hP hD hS => ?_)
  refine lv_aload_n hx hb dX2_init_15 rfl (lv_at hl 0 rfl) ?_
  refine lv_iload_n hx hb dX2_init_16 rfl (lv_at hl 2 rfl) ?_
  refine c_putFH (fs' := [.int (i32 rc), .ref q5, .null]) X hP hD hS i_X2 tyX2_ok nmX2 rfl 0 (by decide) (X.2.2.2.2.1 _ mw667) rfl rfl hin rfl (tyX2_ok 0 (by decide)) rfl rfl (Nat.le_of_ble_eq_true rfl) rfl dX2_init_17 (fun H locs hP hD hS => ?_)
  refine lv_aload_n hx hb dX2_init_20 rfl (lv_at hl 0 rfl) ?_
  refine c_getH X hP i_X2 rfl 1 (by decide) (X.2.2.2.2.1 _ mw669) rfl rfl dX2_init_21 ?_
  refine lv_aload_n hx hb dX2_init_24 rfl (lv_at hl 1 rfl) ?_
  rw [wlV (Nat.le_of_lt hm) hv g2 g3, r50] at hP hD
  generalize hq6 : r5 1 = q6 at hP hD
  have es : ∀ x, x ∈ idl nm nv → adV ad nv q5 q6 x = ad x := fun x hx => adV_old (Nat.le_of_lt hm) hx
  have mS := (o_X4 (nm := nm) (nv := nv + 1) hs).1
  obtain ⟨q0, hq⟩ := List.getElem?_of_mem mS
  have hw := wl_at (cy := cy) (ad := adV ad nv q5 q6) (σ := stV nv σ) hq
  rw [ent_X4 (o_X4 (nm := nm) (nv := nv + 1) hs).2, es sid (o_X4 hs).1] at hw
  refine va_getN X.1 X.2.1 X.2.2.2.2.1 i_X4 X.2.2.2.1 X.2.2.2.2.2.1 hP (q0 + 1) (by rw [List.getElem?_cons_succ]; exact hw) rfl 1 (by decide) (nf_X2_20 X.2.2.2.2.2.2.2.1) (fun x h => h) rfl dX2_init_25 ?_
  have e7 : adV ad nv q5 q6 (700 + 2 * nv) = q5 := if_pos rfl
  have hset : isSet nm (nv + 1) (700 + 2 * nv) := Or.inr (Or.inr ⟨nv, by omega, by omega, rfl⟩)
  have hM := ok_X0_copyFrom (l := l) (D := D) (cy := cy) (ad := adV ad nv q5 q6) (sz := H.size) hset (r_X4_held (nm := nm) (nv := nv + 1) hs) hF
  rw [e7] at hM
  obtain ⟨qv, hqv⟩ := List.getElem?_of_mem (o_X0 (nm := nm) (nv := nv + 1) hset).1
  have hwv := wl_at (cy := cy) (ad := adV ad nv q5 q6) (σ := stV nv σ) hqv
  rw [ent_X0 (o_X0 (nm := nm) (nv := nv + 1) hset).2, e7] at hwv
  have hrec := va_recv (q0 := qv + 1) (ci := 0) (q := (RX0, TX0, 2)) X.2.2.2.2.2.1 hP rfl (by rw [List.getElem?_cons_succ]; exact hwv)
  refine c_callCV (As := [.ref (adV ad nv q5 q6 (sid + 1))]) (rest := []) X hP hD (stV_inR hI) (by rw [stV_gh (Or.inl rfl)]; exact g2) (by rw [stV_gh (Or.inr rfl)]; omega) hS hl.1 gc_X2_25 hd_X0_copyFrom ⟨rfl, rfl, (Nat.le_of_ble_eq_true rfl), (Nat.le_of_ble_eq_true rfl)⟩ hrec hM rfl rfl (Nat.le_of_ble_eq_true rfl) dX2_init_28 ⟨(Nat.le_of_ble_eq_true rfl), (Nat.le_of_ble_eq_true rfl)⟩ (fun H locs hP hD hI3 hS => ?_)
  refine lv_aload_n hx hb dX2_init_31 rfl (lv_at hl 0 rfl) ?_
  refine lv_aload_n hx hb dX2_init_32 rfl (lv_at hl 1 rfl) ?_
  have hw := wl_at (cy := cy) (ad := adV ad nv q5 q6) (σ := σ3) hq
  rw [ent_X4 (o_X4 (nm := nm) (nv := nv + 1) hs).2, es sid (o_X4 hs).1] at hw
  refine va_getN X.1 X.2.1 X.2.2.2.2.1 i_X4 X.2.2.2.1 X.2.2.2.2.2.1 hP (q0 + 1) (by rw [List.getElem?_cons_succ]; exact hw) rfl 3 (by decide) (nf_X2_29 X.2.2.2.2.2.2.2.1) (fun x h => h) rfl dX2_init_33 ?_
  have hka := a_X4_known (nm := nm) (nv := nv + 1) hs
  obtain ⟨qk, hqk⟩ := List.getElem?_of_mem hka.1
  have hwk := wl_at (cy := cy) (ad := adV ad nv q5 q6) (σ := σ3) hqk
  rw [ent_1 hka.2.1 hka.2.2] at hwk
  have hcy : s.vm.findClass "[I" = some (cy 1) := (X.2.2.2.2.2.1.2 0 _ rfl).2
  refine va_clone (t0 := 0) X.1 X.2.1 (by rw [X.2.2.1]; exact hl.1.symm) X.2.2.2.1 (X.2.2.2.2.1 _ mw660) (X.2.2.2.2.1 _ mwSM) (X.2.2.2.2.1 _ mw662) (X.2.2.2.2.1 _ mw663) (X.2.2.2.2.1 _ mw664) (nc_Cloneable X.2.2.2.2.2.2.2.1) X.2.2.2.2.2.1 hP hD hS X.2.2.2.2.2.2.1 (qk + 1) (by rw [List.getElem?_cons_succ]; exact hwk) rfl hcy fit_i (Nat.le_of_ble_eq_true rfl) (Nat.le_of_ble_eq_true rfl) (Nat.le_of_ble_eq_true rfl) (Nat.le_of_ble_eq_true rfl) dX2_init_36 (fun q36 H hK1 hP hD hS => ?_)
  have hP : va_P D vwCl ((h0, .inr (2, [.int (i32 rc), .ref q5, .null])) :: (wl cy (adV ad nv q5 q6) nm (nv + 1) σ3 ++ [(q36, .inl (cy 1, 4, .inl (fun j => i32 (σ3 (sid + 4) j))))])) H := hP
  have hD : va_D A ((h0, .inr (2, [.int (i32 rc), .ref q5, .null])) :: (wl cy (adV ad nv q5 q6) nm (nv + 1) σ3 ++ [(q36, .inl (cy 1, 4, .inl (fun j => i32 (σ3 (sid + 4) j))))])) := hD
  refine va_castA X.1 X.2.1 X.2.2.2.1 (X.2.2.2.2.1 _ mw666) hP ((wl cy (adV ad nv q5 q6) nm (nv + 1) σ3).length + 1) (by rw [List.getElem?_cons_succ]; exact List.getElem?_concat_length) hcy dX2_init_39 ?_
  refine c_putFH (fs' := [.int (i32 rc), .ref q5, .ref q36]) X hP hD hS i_X2 tyX2_ok nmX2 rfl 2 (by decide) (X.2.2.2.2.1 _ mw671) rfl rfl hin rfl (tyX2_ok 2 (by decide)) rfl rfl (Nat.le_of_ble_eq_true rfl) rfl dX2_init_42 (fun H locs hP hD hS => ?_)
  subst hQ
  subst hA0
  have hP2 := re_P (gM_mem (cy := cy) (ad := ad) (s := sid) (rc := rc) (r := fun k => if k = 0 then h0 else if k = 1 then q5 else if k = 2 then q6 else q36) hm hv k2 k3) hP
  have hD2 := re_D (gM_perm (cy := cy) (ad := ad) (nv := nv) (s := sid) (rc := rc) (σ := σ3) (r := fun k => if k = 0 then h0 else if k = 1 then q5 else if k = 2 then q6 else q36) hm) (gM_mem (cy := cy) (ad := ad) (s := sid) (rc := rc) (r := fun k => if k = 0 then h0 else if k = 1 then q5 else if k = 2 then q6 else q36) hm hv k2 k3) hD
  refine W.widen (Nat.le_of_ble_eq_true rfl) (Nat.le_of_ble_eq_true rfl) (W.vret X.1 X.2.1 hr (fun t ht hWm => ⟨⟨(fun k => if k = 0 then h0 else if k = 1 then q5 else if k = 2 then q6 else q36), rfl, rfl, by rw [ht]; exact hP2, va_K.moved hWm.alike X.2.2.2.2.2.1, hD2, hI3⟩, hS.F ht⟩) hS.2.2 dX2_init_45 hlocks)
