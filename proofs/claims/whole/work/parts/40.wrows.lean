/-! ===== the law's own methods: each catches what the class throws ===== -/
def i64 (x : Int) : Int64 := Int64.ofInt x
theorem i64_toInt {x : Int} (h : inR x) : (i64 x).toInt = x := Int64.toInt_ofInt_of_le (by have := h.1; omega) (by have := h.2; omega)
theorem i32_64 {x : Int} (h : inR x) : (i32 x).toInt64 = i64 x := by
  rw [← Int64.toInt_inj, i64_toInt h, Int32.toInt_toInt64, i32_toInt h]
/-- as the machine compares longs -/
def lcm (x y : Int) : Int := if y < x then 1 else if x = y then 0 else -1
theorem lg_lcm {x y : Int} (hx : inR x) (hy : inR y) : lg_cmp (i64 x) (i64 y) = i32 (lcm x y) := by
  unfold lg_cmp lcm
  have e1 : (i64 x > i64 y) ↔ y < x := by show i64 y < i64 x ↔ _; rw [Int64.lt_iff_toInt_lt, i64_toInt hx, i64_toInt hy]
  have e2 : (i64 x = i64 y) ↔ x = y := by rw [← Int64.toInt_inj, i64_toInt hx, i64_toInt hy]
  by_cases h : y < x
  · rw [if_pos (e1.mpr h), if_pos h]; rfl
  · rw [if_neg (fun q => h (e1.mp q)), if_neg h]
    by_cases h2 : x = y
    · rw [if_pos (e2.mpr h2), if_pos h2]; rfl
    · rw [if_neg (fun q => h2 (e2.mp q)), if_neg h2]; rfl
theorem lcm_inR (x y : Int) : inR (lcm x y) := by unfold lcm; split; decide; split <;> decide
def NCs (U : State) : Prop := va_Nc (exN 2) (exN 1) U ∧ va_Nc (exN 3) (exN 1) U ∧ va_Nc (exN 3) (exN 2) U
theorem NCs.moved {u U : State} (hvm : u.vm.Alike U.vm) (h : NCs u) : NCs U := ⟨h.1.moved hvm, h.2.1.moved hvm, h.2.2.moved hvm⟩
def PreL (D : va_G) (cy : Nat → ClassId) (ad : Nat → Nat) (nm nv sz : Nat) (σ : St) (U : State) : Prop := PreX D cy ad nm nv sz σ U ∧ NCs U
theorem PreL.blind {D : va_G} {cy : Nat → ClassId} {ad : Nat → Nat} {nm nv sz : Nat} {σ : St} {args : List Value} : FrameBlind (va_Pc args (PreL D cy ad nm nv sz σ)) := by
  intro a U g mk q
  obtain ⟨q0, q1, q2⟩ := q
  exact ⟨q0, (PreX.blind (args := args) a U g mk ⟨q0, q1⟩).2, q2.moved (u := U) (U := U.calling g mk a) (Vm.Alike.refl U.vm)⟩
def wsH (y : MethodName) (b : ByteArray) (n : Nat) (ret : Option FieldType) (hh : List (Nat × Nat × Nat × Nat)) : List Cond := Cond.codeWith y b n ret hh :: GW
theorem cg_H {own : String} {index : Nat} {y : MethodName} {b : ByteArray} {n : Nat} {ret : Option FieldType} {hh : List (Nat × Nat × Nat × Nat)} (h1 : Cond.methodLink own index y ∈ GW) (h2 : Cond.static y ∈ GW) (h4 : Cond.initialized y.cls ∈ GW) (h5 : Cond.codeWith y b n ret hh ∈ GW) : GoodIn GW (va_wsS own index y (wsH y b n ret hh)) := by
  intro w hw
  have hw2 : w ∈ GW := by
    rcases List.mem_append.mp hw with hw | hw
    · rcases List.mem_cons.mp hw with rfl | hw
      · exact h1
      rcases List.mem_cons.mp hw with rfl | hw
      · exact h2
      rcases List.mem_cons.mp hw with rfl | hw
      · exact h4
      cases hw
    · exact (List.mem_cons.mp hw).elim (fun e => by rw [e]; exact h5) id
  exact ⟨hw2, gG hw2⟩
/-- a wrapper's contract: it returns the number of the clause that applied -/
def LM (l : Launch) (y : MethodName) (b : ByteArray) (n : Nat) (hh : List (Nat × Nat × Nat × Nat)) (rm : Room) (av : List Value) (D : va_G) (cy : Nat → ClassId) (ad : Nat → Nat) (nm nv sz : Nat) (σ : St) (mc ms : Nat) (r : Int) (σ2 : St) : Prop :=
  vx_Met l y (wsH y b n (some .int) hh) rm (va_Pc av (PreL D cy ad nm nv sz σ)) (XQ D cy ad nm nv (inR r) (some (.int (i32 r))) σ2 (AW ad nm nv sz)) (fun _ _ _ => False) mc ms (AW ad nm nv sz)
/-- what a wrapper does with what the class answers: h1 h2 h3 the clauses' numbers -/
def hw (h1 h2 h3 : Option Int) (g : Int → Int) (m : Option (Nat × Int × St)) : Option (Int × St) := match m with
  | some (0, v, s) => some (0, st s 290 0 (g v))
  | some (1, _, s) => h1.map (fun q => (q, s))
  | some (2, _, s) => h2.map (fun q => (q, s))
  | some (3, _, s) => h3.map (fun q => (q, s))
  | _ => none
theorem w_entry {l : Launch} {y : MethodName} {cc : ByteArray} {n : Nat} {ret : Option FieldType} {hh : List (Nat × Nat × Nat × Nat)} {rm : Room} {av : List Value} {D : va_G} {cy : Nat → ClassId} {ad : Nat → Nat} {nm nv sz : Nat} {σ : St} {Qc : Array Value → State → Outcome → State → Prop} {XC : String → State → State → Prop} {mc ms : Nat} (C : String) (hC : y.cls = C)
    (hy : plainName y.cls = true) (hlen : (lg_sl av).length ≤ n)
    (body : ∀ (p : Program) (e : Env) (s : State) (m : MethodId) (args : Array Value) (below : List Frame) (meth : Method) (c : Code) (Q : State → Prop), vx_MQ below Qc XC args s mc ms (AW ad nm nv sz) = Q → meth.sig.returnType = ret → meth.locks = false → Cx p s m args c cc n C D cy ad nm nv (AW ad nm nv sz) → TX (AW ad nm nv sz) s → NCs s → c.exceptionTable.toList = tableOf hh → Wd D cy ad nm nv σ s.heap → va_S (AW ad nm nv sz) s.heap s.heap [] → ∀ ls : Array Slot, lv_has ls n (lv_args 0 av) → W p l e rm s m args below meth c s.heap [] 0 0 Q (F0 m 0 ls [])) :
    vx_Met l y (wsH y cc n ret hh) rm (va_Pc av (PreL D cy ad nm nv sz σ)) Qc XC mc ms (AW ad nm nv sz) := by
  refine vx_ofWH (cc := cc) (maxL := n) (ret := ret) (hh := hh) hy rfl ?_
  intro p e s m args below meth c s₁ B hml hv
  obtain ⟨rfl, ⟨⟨hsz, hW, hK, hD0, hN⟩, hT⟩, hZ⟩ := hv
  have hts := atoms_spec (ws := wsH y cc n ret hh) B.pre
  have hown : s.vm.findClass C = some m.cls := by rw [← hC]; exact findClass_of_methodNamed B.named
  have hl := lv_entry av (n := n) hlen
  rw [lg_entry_eq]
  exact body p e s m _ below meth c _ rfl B.returns B.notSynchronized ⟨B.exec, B.bytes, hml, hown, fun w hw => hts w (List.mem_cons_of_mem _ hw), hK, hD0.weaken (fun a ha => Or.inl ⟨a, ha, rfl⟩), fun q hq => Or.inr (by rw [← hsz]; exact hq), hN⟩ hT hZ (vx_table (x := y) B (hts _ List.mem_cons_self)) hW va_S.rf _ hl
section WROWS
variable {p : Program} {l : Launch} {e : Env} {R : Room} {s : State} {m : MethodId} {args : Array Value} {below : List Frame} {meth : Method} {c : Code} {H : Heap} {locs : List Loc} {cells slots : Nat} {Q : State → Prop}
variable {cc : ByteArray} {nL : Nat} {own : String} {D : va_G} {cy : Nat → ClassId} {ad : Nat → Nat} {nm nv : Nat} {A : Nat → Prop} {σ : St} {pc : Nat} {ls : Array Slot} {rest : List Value}
theorem m_i2l {x : Int} (hx : p.tables.exec = Jvm.exec) (hb : c.code = cc) (h : inR x) (hdg : decode cc pc = .ok (.i2l, 1)) (k : W p l e R s m args below meth c H locs cells slots Q (F0 m (pc + 1) ls (.long (i64 x) :: rest))) : W p l e R s m args below meth c H locs cells slots Q (F0 m pc ls (.int (i32 x) :: rest)) := lv_i2l hx hb hdg (i32_64 h) k
theorem m_last {v : Int} (X : Cx p s m args c cc nL own D cy ad nm nv A) (hW : Wd D cy ad nm nv σ H) (hS : va_S A s.heap H locs) (hv : inR v) (hdg : decode cc pc = .ok (.lastore, 1))
    (kk : ∀ (H1 : Heap) (locs1 : List Loc), Wd D cy ad nm nv (st σ 290 0 v) H1 → va_S A s.heap H1 locs1 → W p l e R s m args below meth c H1 locs1 cells slots Q (F0 m (pc + 1) ls rest)) : W p l e R s m args below meth c H locs cells slots Q (F0 m pc ls (.long (i64 v) :: .int (i32 0) :: .ref (ad 290) :: rest)) := by
  obtain ⟨hx, hb, -, -, -, hK, hD, -⟩ := X
  obtain ⟨hm, hk, hl⟩ := a_out (nm := nm) (nv := nv)
  obtain ⟨q0, hq⟩ := List.getElem?_of_mem hm
  have hw := wl_at (cy := cy) (ad := ad) (σ := σ) hq
  rw [ent_3 hk hl] at hw
  refine va_last hx hb hK hW.1 hD.va hS q0 2 hw rfl ((i32_in z0).mpr (by decide)) hdg (fun H1 locs1 hP _ hS1 => ?_)
  have he : ent cy ad (st σ 290 0 v) 290 = .inl (cy 3, 1, .inr (.inl (vp_updL (fun j => Int64.ofInt (σ 290 j)) (i32 0).toNatClampNeg (i64 v)))) := by
    rw [ent_3 hk hl, i32_clamp z0]
    congr 5
    funext j
    unfold vp_updL
    rw [st_row]
    show _ = if j = 0 then _ else _
    split <;> rfl
  exact kk H1 locs1 (hW.put hD hq hk (by decide) (by decide) hv he hP) hS1
theorem m_lald (X : Cx p s m args c cc nL own D cy ad nm nv A) (hW : Wd D cy ad nm nv σ H) (hdg : decode cc pc = .ok (.laload, 1))
    (kk : W p l e R s m args below meth c H locs cells slots Q (F0 m (pc + 1) ls (.long (i64 (σ 290 0)) :: rest))) : W p l e R s m args below meth c H locs cells slots Q (F0 m pc ls (.int (i32 0) :: .ref (ad 290) :: rest)) := by
  obtain ⟨hx, hb, -, -, -, hK, hD, -⟩ := X
  obtain ⟨hm, hk, hl⟩ := a_out (nm := nm) (nv := nv)
  obtain ⟨q0, hq⟩ := List.getElem?_of_mem hm
  have hw := wl_at (cy := cy) (ad := ad) (σ := σ) hq
  rw [ent_3 hk hl] at hw
  exact va_lald hx hb hK hW.1 q0 2 hw rfl ((i32_in z0).mpr (by decide)) hdg (by rw [i32_clamp z0]; exact kk)
theorem m_lcmp {x y : Int} (hx : p.tables.exec = Jvm.exec) (hb : c.code = cc) (h1 : inR x) (h2 : inR y) (hdg : decode cc pc = .ok (.lcmp, 1)) (k : W p l e R s m args below meth c H locs cells slots Q (F0 m (pc + 1) ls (.int (i32 (lcm x y)) :: rest))) : W p l e R s m args below meth c H locs cells slots Q (F0 m pc ls (.long (i64 y) :: .long (i64 x) :: rest)) := W.lcmp hx hb hdg (by rw [lg_lcm h1 h2]; exact k)
theorem m_lconst {n : Fin 2} {v : Int} (hx : p.tables.exec = Jvm.exec) (hb : c.code = cc) (hv : ((n : Nat) : Int) = v) (hdg : decode cc pc = .ok (.lconst n, 1)) (k : W p l e R s m args below meth c H locs cells slots Q (F0 m (pc + 1) ls (.long (i64 v) :: rest))) : W p l e R s m args below meth c H locs cells slots Q (F0 m pc ls rest) := lv_lconst hx hb hdg (by subst hv; rfl) k
theorem w_ret {mc ms : Nat} {σ2 : St} {r : Int} {XC : String → State → State → Prop} (X : Cx p s m args c cc nL own D cy ad nm nv A) (hr : meth.sig.returnType = some .int) (hlocks : meth.locks = false) {u : Int} (hu : inR u) (hW : Wd D cy ad nm nv σ H) (hS : va_S A s.heap H locs) (hc : cells ≤ mc) (hs : slots ≤ ms) (hf : some (u, σ) = some (r, σ2)) (hQ : vx_MQ below (XQ D cy ad nm nv (inR r) (some (.int (i32 r))) σ2 A) XC args s mc ms A = Q) (hdg : decode cc pc = .ok (.ireturn, 1)) : W p l e R s m args below meth c H locs cells slots Q (F0 m pc ls [.int (i32 u)]) := by
  cases hf
  subst hQ
  exact W.widen hc hs (vx_ret (W.zret X.1 X.2.1 hr rfl (fun t ht hWm => ⟨⟨rfl, hu, by rw [← ht] at hW; exact hW, va_K.moved hWm.alike X.2.2.2.2.2.1⟩, hS.F ht⟩) hS.2.2 hdg hlocks))
/-- a call of the class, and what comes behind it in both cases -/
theorem w_callV {C : String} {y : MethodName} {bytes : ByteArray} {maxL index nA : Nat} {ret : Option FieldType} {rm : Room} {F : Option (Nat × Int × St)} (ok : Int → Prop) (val : Int → Option Value) {mc2 ms2 : Nat} (ce sl : Nat) {As st0 : List Value} {b : Nat} (X : Cx p s m args c cc nL own D cy ad nm nv A) (Y : TX A s) (hW : Wd D cy ad nm nv σ H) (hS : va_S A s.heap H locs) (hsz : ls.size = nL)
    (hg : GoodIn GW (wsV own index C y (wsG y bytes maxL ret))) (hd : y.cls = C ∧ y.cls ≠ "java/lang/invoke/MethodHandle" ∧ y.cls ≠ "java/lang/invoke/VarHandle" ∧ (parseMethodDescriptor y.desc).map (fun d => d.parameters.length) = some nA) (hR : rm.cells = mc2 ∧ rm.slots = ms2 ∧ rm.frames + 1 ≤ R.frames ∧ 8 + (maxL + 11) + rm.locals ≤ R.locals) (hrec : ∃ cell : Cell, H[b]? = some cell ∧ cell.vm.isStatics = false ∧ s.vm.findClass C = some cell.cls)
    (hM : ∀ cd v σ2, F = some (cd, v, σ2) → XM l y bytes maxL ret rm (.ref b :: As) D cy ad nm nv H.size σ mc2 ms2 cd (ok v) (val v) σ2) (hF : F ≠ none) (hn : As.length = nA) (hst : st0 = As.reverse ++ .ref b :: rest) (hrest : (rest.map fun v => v.category).sum ≤ 8) (hdg : decode cc pc = .ok (.invokevirtual index, 3)) (hcs : cells + mc2 ≤ R.cells ∧ slots + ms2 ≤ R.slots) (hce : cells + mc2 ≤ ce) (hsl : slots + ms2 ≤ sl)
    (kk : ∀ (v : Int) (σ2 : St) (H1 : Heap) (locs1 : List Loc), F = some (0, v, σ2) → ok v → Wd D cy ad nm nv σ2 H1 → va_S A s.heap H1 locs1 → W p l e R s m args below meth c H1 locs1 ce sl Q (F0 m (pc + 3) ls ((val v).toList ++ rest)))
    (kx : ∀ (cd : Nat) (v : Int) (σ2 : St) (H1 : Heap) (locs1 : List Loc) (q : Addr) (cell : Cell), cd ≠ 0 → F = some (cd, v, σ2) → Wd D cy ad nm nv σ2 H1 → va_S A s.heap H1 locs1 → H1[q]? = some cell → cell.vm = .none → s.vm.findClass (exN cd) = some cell.cls → vx_W p l e R s m args below meth c H1 locs1 ce sl Q (F0 m pc ls rest) q) : W p l e R s m args below meth c H locs cells slots Q (F0 m pc ls st0) := by
  cases F with
  | none => exact absurd rfl hF
  | some q =>
    obtain ⟨cd, v, σ2⟩ := q
    have hr := vx_runV (l := l) (R := R) (e := e) (below := below) (meth := meth) (locs := locs) (cells := cells) (slots := slots) (g := F0 m pc ls st0) (rest := rest) (As := As) ⟨X.1, X.2.1, X.2.2.1, X.2.2.2.1, X.2.2.2.2.1⟩ (hM cd v σ2 rfl) (cwV nA X.2.2.2.2.1 hg rfl hR.1 hR.2.1 hd hR.2.2) ⟨PreX.blind, hrec, x_pre X Y hW hS⟩ rfl hn hsz hst (by show 2 * 0 + _ ≤ 8; omega) hdg ⟨hcs.1, hcs.2⟩
    have hfr := m_free X hS
    intro T hT XT
    rcases hr T hT XT with ⟨v1, st₀, t, T', L, h0, X', hL, e1, e2, ⟨⟨hv, ⟨hcd, hok⟩, hP⟩, hF2⟩, st⟩ | ⟨q, st₀, t, T', L, E, ce1, h0, X', hL, e1, e2, ⟨u, ⟨hcd, hu⟩, ⟨hEn, hP⟩, hF2⟩, hce1, hcv, hcl, st⟩
    · cases hv
      subst hcd
      obtain ⟨k1, k2, k3⟩ := vx_keep h0 e1 hS (fun q _ h => hfr q h) hfr hL hF2
      have hW1 := hP.1
      rw [← e1] at hW1
      obtain ⟨t2, a1, b1⟩ := kk v σ2 T'.heap (locs ++ L) rfl hok hW1 k3 T' rfl (stand_widen X' hce hsl)
      exact ⟨t2, st t2 a1, b1⟩
    · obtain ⟨k1, k2, k3⟩ := vx_keep h0 e1 hS (fun q _ h => hfr q h) hfr hL hF2
      subst hu
      have hW1 := hP.1
      rw [← e1] at hW1
      rw [hEn] at hcl
      obtain ⟨t2, a1, b1⟩ := kx cd v u T'.heap (locs ++ L) q ce1 hcd rfl hW1 k3 (by rw [e1]; exact hce1) hcv hcl T' rfl (stand_widen X' hce hsl)
      exact ⟨t2, st.trans a1, b1⟩
/-- the law calls a wrapper -/
theorem l_callS {y : MethodName} {bytes : ByteArray} {maxL index nA : Nat} {hh : List (Nat × Nat × Nat × Nat)} {rm : Room} {F : Option (Int × St)} {ρ : Type} {r : ρ} {κ : Int → St → Option ρ} {mc2 ms2 : Nat} {As st0 : List Value} (X : Cx p s m args c cc nL own D cy ad nm nv A) (Y : TX A s) (Z : NCs s) (hW : Wd D cy ad nm nv σ H) (hS : va_S A s.heap H locs) (hsz : ls.size = nL)
    (hg : GoodIn GW (va_wsS own index y (wsH y bytes maxL (some .int) hh))) (hd : y.cls ≠ "java/lang/invoke/MethodHandle" ∧ y.cls ≠ "java/lang/invoke/VarHandle" ∧ (parseMethodDescriptor y.desc).map (fun d => d.parameters.length) = some nA) (hR : rm.cells = mc2 ∧ rm.slots = ms2 ∧ rm.frames + 1 ≤ R.frames ∧ 8 + (maxL + 11) + rm.locals ≤ R.locals)
    (hM : ∀ v σ2, F = some (v, σ2) → LM l y bytes maxL hh rm As D cy ad nm nv H.size σ mc2 ms2 v σ2) (hf : b2 F κ = some r) (hn : As.length = nA) (hst : st0 = As.reverse ++ rest) (hrest : (rest.map fun v => v.category).sum ≤ 8) (hdg : decode cc pc = .ok (.invokestatic index, 3)) (hcs : cells + mc2 ≤ R.cells ∧ slots + ms2 ≤ R.slots)
    (kk : ∀ (v : Int) (σ2 : St) (H1 : Heap) (locs1 : List Loc), inR v → Wd D cy ad nm nv σ2 H1 → va_S A s.heap H1 locs1 → κ v σ2 = some r → W p l e R s m args below meth c H1 locs1 (cells + mc2) (slots + ms2) Q (F0 m (pc + 3) ls (.int (i32 v) :: rest))) : W p l e R s m args below meth c H locs cells slots Q (F0 m pc ls st0) := by
  cases F with
  | none => cases hf
  | some q =>
    obtain ⟨v, σ2⟩ := q
    have hfr := m_free X hS
    have hr := vx_runSX (l := l) (R := R) (e := e) (below := below) (meth := meth) (locs := locs) (cells := cells) (slots := slots) (H := H) (g := F0 m pc ls st0) (rest := rest) (As := As) ⟨X.1, X.2.1, X.2.2.1, X.2.2.2.1, X.2.2.2.2.1⟩ (hM v σ2 rfl) (vx_cwSW nA X.2.2.2.2.1 hg rfl hR.1 hR.2.1 hd hR.2.2) ⟨PreL.blind, fun U hU hWm => ⟨rfl, (x_pre (As := As) X Y hW hS U hU hWm).2, Z.moved hWm.alike⟩⟩ rfl hn hsz hst (by show 2 * 0 + _ ≤ 8; omega) hdg ⟨hcs.1, hcs.2⟩
    intro T hT XT
    rcases hr T hT XT with ⟨v1, st₀, t, T', L, h0, X', hL, e1, e2, ⟨⟨hv, hok, hP⟩, hF2⟩, st⟩ | ⟨q, st₀, t, T', L, E, ce1, h0, X', hL, e1, e2, hfalse, hce1, hcv, hcl, st⟩
    · cases hv
      obtain ⟨k1, k2, k3⟩ := vx_keep h0 e1 hS (fun q _ h => hfr q h) hfr hL hF2
      have hW1 := hP.1
      rw [← e1] at hW1
      obtain ⟨t2, a1, b1⟩ := kk v σ2 T'.heap (locs ++ L) hok hW1 k3 hf T' rfl X'
      exact ⟨t2, st t2 a1, b1⟩
    · exact hfalse.elim
end WROWS
