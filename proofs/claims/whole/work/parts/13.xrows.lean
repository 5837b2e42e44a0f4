def txOf (L : List Cond) (i : Nat) : String := match L[i]? with | some (.stringRef _ _ t) => t | _ => ""
def strL : List (Nat × String) := [(161, "no such site"), (67, "no such letter"), (358, "the site may only read there"), (348, "too many acts"), (102, "nothing to erase"), (337, "no such place"), (346, "no such mark"), (360, "nothing is selected"), (135, "too many comments"), (342, "no such block"), (140, "no such kind"), (350, "the site may not write in the block"), (344, "the site has no such act"), (157, "no proposal that the site may decide"), (164, "no such level"), (170, "nothing to undo"), (175, "nothing to redo"), (177, "a site sends to another one"), (182, "too many messages"), (330, "no such message"), (236, txOf tables_1_4 57), (244, "too many versions"), (332, "no such version"), (258, "the site lacks acts of the version"), (320, "the site does not have so many acts"), (322, "no such act")]
/-! ===== methods that throw ===== -/
def exN (c : Nat) : String := match c with | 1 => "java/lang/IndexOutOfBoundsException" | 2 => "java/lang/IllegalArgumentException" | _ => "java/lang/IllegalStateException"
/-- the statics that a new exception reads, and the texts -/
def TX (A : Nat → Prop) (U : State) : Prop := (∀ q ∈ strL, ∃ sa, vk_R "Marginnote" q.1 q.2 sa U) ∧ vx_Zq Bundle.tN "UNASSIGNED_STACK" Bundle.steD A U U.heap ∧ vx_Zq Bundle.tN "SUPPRESSED_SENTINEL" Bundle.listD A U U.heap
theorem TX.go {A B : Nat → Prop} {s U : State} {H : Heap} {locs : List Loc} (h : TX A s) (hS : va_S A s.heap H locs) (hB : ∀ q, B q → A q) (hU : U.heap = H) (hW : s.WarmedH U.vm) : TX B U := by
  refine ⟨fun q hq => ?_, ?_, ?_⟩
  · obtain ⟨sa, hsa⟩ := h.1 q hq
    exact ⟨sa, vk_R.warm hW hsa⟩
  · rw [hU]; exact (vx_Zq.moved hW.alike ((h.2.1).kept (fun a h1 h2 => hS.2.1 a h1 h2))).narrow hB
  · rw [hU]; exact (vx_Zq.moved hW.alike ((h.2.2).kept (fun a h1 h2 => hS.2.1 a h1 h2))).narrow hB
def PreX (D : va_G) (cy : Nat → ClassId) (ad : Nat → Nat) (nm nv sz : Nat) (σ : St) (U : State) : Prop := PreW D cy ad nm nv sz σ U ∧ TX (AW ad nm nv sz) U
def XQ (D : va_G) (cy : Nat → ClassId) (ad : Nat → Nat) (nm nv : Nat) (ok : Prop) (val : Option Value) (σ2 : St) (A : Nat → Prop) : Array Value → State → Outcome → State → Prop := fun _ st oc t => (oc = .returned val ∧ ok ∧ PostW D cy ad nm nv σ2 t) ∧ va_F A st t
abbrev XX (D : va_G) (cy : Nat → ClassId) (ad : Nat → Nat) (nm nv : Nat) (cd : Nat) (σ2 : St) (A : Nat → Prop) : String → State → State → Prop := vx_X (fun u : St => cd ≠ 0 ∧ u = σ2) (fun E u t => E = exN cd ∧ PostW D cy ad nm nv u t) A
def XM (l : Launch) (y : MethodName) (b : ByteArray) (n : Nat) (ret : Option FieldType) (rm : Room) (av : List Value) (D : va_G) (cy : Nat → ClassId) (ad : Nat → Nat) (nm nv sz : Nat) (σ : St) (mc ms : Nat) (cd : Nat) (ok : Prop) (val : Option Value) (σ2 : St) : Prop :=
  vx_Met l y (wsG y b n ret) rm (va_Pc av (PreX D cy ad nm nv sz σ)) (XQ D cy ad nm nv (cd = 0 ∧ ok) val σ2 (AW ad nm nv sz)) (XX D cy ad nm nv cd σ2 (AW ad nm nv sz)) mc ms (AW ad nm nv sz)
theorem calling_vm {U : State} {g : JFrame} {mk : MethodId} {a : Array Value} : (U.calling g mk a).vm = U.vm ∧ (U.calling g mk a).heap = U.heap := ⟨rfl, rfl⟩
theorem TX.same {A : Nat → Prop} {s U : State} (h : TX A s) (hv : U.vm = s.vm) (hh : U.heap = s.heap) : TX A U := by
  refine ⟨fun q hq => ?_, ?_, ?_⟩
  · obtain ⟨sa, hsa⟩ := h.1 q hq
    exact ⟨sa, vk_R.same hv hsa⟩
  · rw [hh]; exact vx_Zq.moved (by rw [hv]; exact Vm.Alike.refl _) h.2.1
  · rw [hh]; exact vx_Zq.moved (by rw [hv]; exact Vm.Alike.refl _) h.2.2
theorem PreX.blind {D : va_G} {cy : Nat → ClassId} {ad : Nat → Nat} {nm nv sz : Nat} {σ : St} {args : List Value} : FrameBlind (va_Pc args (PreX D cy ad nm nv sz σ)) := by
  intro a U g mk q
  obtain ⟨q0, q1, q2⟩ := q
  exact ⟨q0, (PreW.blind (args := args) a U g mk ⟨q0, q1⟩).2, q2.same rfl rfl⟩
theorem x_entry {l : Launch} {y : MethodName} {cc : ByteArray} {n : Nat} {ret : Option FieldType} {rm : Room} {av : List Value} {D : va_G} {cy : Nat → ClassId} {ad : Nat → Nat} {nm nv sz : Nat} {σ : St} {Qc : Array Value → State → Outcome → State → Prop} {XC : String → State → State → Prop} {mc ms : Nat} (C : String) (hC : y.cls = C)
    (hy : plainName y.cls = true) (hlen : (lg_sl av).length ≤ n)
    (body : ∀ (p : Program) (e : Env) (s : State) (m : MethodId) (args : Array Value) (below : List Frame) (meth : Method) (c : Code) (Q : State → Prop), vx_MQ below Qc XC args s mc ms (AW ad nm nv sz) = Q → meth.sig.returnType = ret → meth.locks = false → Cx p s m args c cc n C D cy ad nm nv (AW ad nm nv sz) → TX (AW ad nm nv sz) s → (∀ x ∈ c.exceptionTable.toList, False) → Wd D cy ad nm nv σ s.heap → va_S (AW ad nm nv sz) s.heap s.heap [] → ∀ ls : Array Slot, lv_has ls n (lv_args 0 av) → W p l e rm s m args below meth c s.heap [] 0 0 Q (F0 m 0 ls [])) :
    vx_Met l y (wsG y cc n ret) rm (va_Pc av (PreX D cy ad nm nv sz σ)) Qc XC mc ms (AW ad nm nv sz) := by
  refine vx_ofW (cc := cc) (maxL := n) (ret := ret) hy rfl ?_
  intro p e s m args below meth c s₁ B hml hE hv
  obtain ⟨rfl, ⟨hsz, hW, hK, hD0, hN⟩, hT⟩ := hv
  have hts := atoms_spec (ws := wsG y cc n ret) B.pre
  have hown : s.vm.findClass C = some m.cls := by rw [← hC]; exact findClass_of_methodNamed B.named
  have hl := lv_entry av (n := n) hlen
  rw [lg_entry_eq]
  exact body p e s m _ below meth c _ rfl B.returns B.notSynchronized ⟨B.exec, B.bytes, hml, hown, fun w hw => hts w (List.mem_cons_of_mem _ hw), hK, hD0.weaken (fun a ha => Or.inl ⟨a, ha, rfl⟩), fun q hq => Or.inr (by rw [← hsz]; exact hq), hN⟩ hT hE hW va_S.rf _ hl
theorem zw_of {α : Type} {m : Option (Nat × α × St)} {v : α} {s : St} (h : zw m = some (v, s)) : m = some (0, v, s) := by
  unfold zw at h
  split at h
  · cases h; rfl
  · cases h
section XROWS
variable {p : Program} {l : Launch} {e : Env} {R : Room} {s : State} {m : MethodId} {args : Array Value} {below : List Frame} {meth : Method} {c : Code} {H : Heap} {locs : List Loc} {cells slots : Nat} {Q : State → Prop}
variable {cc : ByteArray} {nL : Nat} {own : String} {D : va_G} {cy : Nat → ClassId} {ad : Nat → Nat} {nm nv : Nat} {A : Nat → Prop} {σ : St} {pc : Nat} {ls : Array Slot} {rest : List Value}
variable {mc ms cdR : Nat} {σR : St} {Qc : Array Value → State → Outcome → State → Prop}
theorem x_ireti {v v2 : Int} {ty : FieldType} {z : Bool} (X : Cx p s m args c cc nL own D cy ad nm nv A) (hr : meth.sig.returnType = some ty) (hlocks : meth.locks = false) (hn : narrow ty (.int (i32 v)) = .int (i32 v)) (hv : inR v) (hz : z = true → isB v) (hW : Wd D cy ad nm nv σ H) (hS : va_S A s.heap H locs) {XC : String → State → State → Prop} (hc : cells ≤ mc) (hs : slots ≤ ms) (hf : some (0, v, σ) = some (cdR, v2, σR)) (hQ : vx_MQ below (XQ D cy ad nm nv (cdR = 0 ∧ inR v2 ∧ (z = true → isB v2)) (some (.int (i32 v2))) σR A) XC args s mc ms A = Q) (hdg : decode cc pc = .ok (.ireturn, 1)) : W p l e R s m args below meth c H locs cells slots Q (F0 m pc ls [.int (i32 v)]) := by
  cases hf
  subst hQ
  exact W.widen hc hs (vx_ret (W.zret X.1 X.2.1 hr hn (fun t ht hWm => ⟨⟨rfl, ⟨rfl, hv, hz⟩, by rw [← ht] at hW; exact hW, va_K.moved hWm.alike X.2.2.2.2.2.1⟩, hS.F ht⟩) hS.2.2 hdg hlocks))
theorem x_vret {v v2 : Int} (X : Cx p s m args c cc nL own D cy ad nm nv A) (hr : meth.sig.returnType = none) (hlocks : meth.locks = false) (hW : Wd D cy ad nm nv σ H) (hS : va_S A s.heap H locs) {XC : String → State → State → Prop} (hc : cells ≤ mc) (hs : slots ≤ ms) (hf : some (0, v, σ) = some (cdR, v2, σR)) (hQ : vx_MQ below (XQ D cy ad nm nv (cdR = 0 ∧ True) none σR A) XC args s mc ms A = Q) (hdg : decode cc pc = .ok (.return_, 1)) : W p l e R s m args below meth c H locs cells slots Q (F0 m pc ls []) := by
  cases hf
  subst hQ
  exact W.widen hc hs (vx_ret (W.vret X.1 X.2.1 hr (fun t ht hWm => ⟨⟨rfl, ⟨rfl, trivial⟩, by rw [← ht] at hW; exact hW, va_K.moved hWm.alike X.2.2.2.2.2.1⟩, hS.F ht⟩) hS.2.2 hdg hlocks))
theorem x_aret {id id2 : Nat} {K : Nat → Prop} {rt : FieldType} (hrt : (∃ n, rt = .object n) ∨ ∃ t, rt = .array t) (X : Cx p s m args c cc nL own D cy ad nm nv A) (hr : meth.sig.returnType = some rt) (hlocks : meth.locks = false) (hW : Wd D cy ad nm nv σ H) (hS : va_S A s.heap H locs) (hKr : K id) {XC : String → State → State → Prop} (hc : cells ≤ mc) (hs : slots ≤ ms) (hf : some (0, id, σ) = some (cdR, id2, σR)) (hQ : vx_MQ below (XQ D cy ad nm nv (cdR = 0 ∧ K id2) (some (.ref (ad id2))) σR A) XC args s mc ms A = Q) (hdg : decode cc pc = .ok (.areturn, 1)) : W p l e R s m args below meth c H locs cells slots Q (F0 m pc ls [.ref (ad id)]) := by
  cases hf
  subst hQ
  exact W.widen hc hs (vx_ret (W.aret X.1 X.2.1 hr hrt (Or.inr ⟨_, rfl⟩) (fun t ht hWm => ⟨⟨rfl, ⟨rfl, hKr⟩, by rw [← ht] at hW; exact hW, va_K.moved hWm.alike X.2.2.2.2.2.1⟩, hS.F ht⟩) hS.2.2 hdg hlocks))
theorem Wd.keep {H1 : Heap} (X : Cx p s m args c cc nL own D cy ad nm nv A) (hW : Wd D cy ad nm nv σ H) (hq : ∀ q : Nat, q < H.size → H1[q]? = H[q]?) : Wd D cy ad nm nv σ H1 := by
  refine ⟨hW.1.kept (fun k x hx => hq x.1 (hW.1 k x hx).lt), hW.2⟩
theorem x_throw {β : Type} {d d2 : β} {code ik is ic : Nat} {cls text : String} (X : Cx p s m args c cc nL own D cy ad nm nv A) (Y : TX A s) (hst : l.stackTraces = false) (hE : ∀ x ∈ c.exceptionTable.toList, False) (hlocks : meth.locks = false) (hW : Wd D cy ad nm nv σ H) (hS : va_S A s.heap H locs) (hsz : ls.size = nL) (hown : own = "Marginnote") (hcls : Bundle.fit cls = true)
    (hk : (Cond.classLink own ik cls).before args s = true) (hini : (Cond.initialized cls).before args s = true) (hstr : (is, text) ∈ strL) (hat : ∀ w ∈ vx_atS own ic cls ["java/lang/RuntimeException", "java/lang/Exception"], w.before args s = true) (hgood : ∀ w ∈ Cond.classLink own ik cls :: Cond.initialized cls :: vx_atS own ic cls ["java/lang/RuntimeException", "java/lang/Exception"], vx_ot w = true)
    (d0 : decode cc pc = .ok (.new ik, 3)) (d3 : decode cc (pc + 3) = .ok (.dup, 1)) (d4 : decode cc (pc + 4) = .ok (.ldc is, 2)) (d6 : decode cc (pc + 6) = .ok (.invokespecial ic, 3)) (d9 : decode cc (pc + 9) = .ok (.athrow, 1))
    (hfr : 5 < R.frames) (hlo : (rest.map fun v => v.category).sum + 82 ≤ R.locals) (hRc : cells + 1 ≤ R.cells) (hRs : slots + 6 ≤ R.slots) (hc : cells + 1 ≤ mc) (hs : slots + 6 ≤ ms) (hcode : code ≠ 0 ∧ exN code = cls)
    (hf : some (code, d, σ) = some (cdR, d2, σR)) (hQ : vx_MQ below Qc (XX D cy ad nm nv cdR σR A) args s mc ms A = Q) : W p l e R s m args below meth c H locs cells slots Q (F0 m pc ls rest) := by
  cases hf
  subst hQ
  subst hown
  obtain ⟨sa, hsa⟩ := Y.1 _ hstr
  exact vx_throwS X.1 X.2.1 hst X.2.2.2.1 hcls (by decide +kernel) hk hini hsa hat hgood Y.2.1 Y.2.2 hS (by rw [X.2.2.1, hsz]) d0 d3 d4 d6 d9 (fun x hx => (hE x hx).elim) hfr hlo hRc hRs hlocks
    (fun t hvm hle hq => ⟨σ, ⟨hcode.1, rfl⟩, ⟨hcode.2.symm, hW.keep X hq, va_K.moved hvm X.2.2.2.2.2.1⟩, Nat.le_trans hS.1 hle, fun q h1 h2 => by rw [hq q (Nat.lt_of_lt_of_le h1 hS.1)]; exact hS.2.1 q h1 h2⟩) hS.2.2 hc hs
theorem x_throwW {β : Type} {d d2 : β} {code ik is ic : Nat} {cls text : String} (X : Cx p s m args c cc nL own D cy ad nm nv A) (Y : TX A s) (hst : l.stackTraces = false) (hE : ∀ x ∈ c.exceptionTable.toList, False) (hlocks : meth.locks = false) (hW : Wd D cy ad nm nv σ H) (hS : va_S A s.heap H locs) (hsz : ls.size = nL) (hown : own = "Marginnote") (hcls : Bundle.fit cls = true)
    (hk : (Cond.classLink own ik cls).before args s = true) (hini : (Cond.initialized cls).before args s = true) (hstr : (is, text) ∈ strL) (hat : ∀ w ∈ vx_atS own ic cls ["java/lang/RuntimeException", "java/lang/Exception"], w.before args s = true) (hgood : ∀ w ∈ Cond.classLink own ik cls :: Cond.initialized cls :: vx_atS own ic cls ["java/lang/RuntimeException", "java/lang/Exception"], vx_ot w = true)
    (d0 : decode cc pc = .ok (.new ik, 3)) (d3 : decode cc (pc + 3) = .ok (.dup, 1)) (d4 : decode cc (pc + 4) = .ok (.ldc_w is, 3)) (d7 : decode cc (pc + 7) = .ok (.invokespecial ic, 3)) (d10 : decode cc (pc + 10) = .ok (.athrow, 1))
    (hfr : 5 < R.frames) (hlo : (rest.map fun v => v.category).sum + 82 ≤ R.locals) (hRc : cells + 1 ≤ R.cells) (hRs : slots + 6 ≤ R.slots) (hc : cells + 1 ≤ mc) (hs : slots + 6 ≤ ms) (hcode : code ≠ 0 ∧ exN code = cls)
    (hf : some (code, d, σ) = some (cdR, d2, σR)) (hQ : vx_MQ below Qc (XX D cy ad nm nv cdR σR A) args s mc ms A = Q) : W p l e R s m args below meth c H locs cells slots Q (F0 m pc ls rest) := by
  cases hf
  subst hQ
  subst hown
  obtain ⟨sa, hsa⟩ := Y.1 _ hstr
  exact vx_throwSW X.1 X.2.1 hst X.2.2.2.1 hcls (by decide +kernel) hk hini hsa hat hgood Y.2.1 Y.2.2 hS (by rw [X.2.2.1, hsz]) d0 d3 d4 d7 d10 (fun x hx => (hE x hx).elim) hfr hlo hRc hRs hlocks
    (fun t hvm hle hq => ⟨σ, ⟨hcode.1, rfl⟩, ⟨hcode.2.symm, hW.keep X hq, va_K.moved hvm X.2.2.2.2.2.1⟩, Nat.le_trans hS.1 hle, fun q h1 h2 => by rw [hq q (Nat.lt_of_lt_of_le h1 hS.1)]; exact hS.2.1 q h1 h2⟩) hS.2.2 hc hs
theorem x_pre {As : List Value} (X : Cx p s m args c cc nL own D cy ad nm nv A) (Y : TX A s) (hW : Wd D cy ad nm nv σ H) (hS : va_S A s.heap H locs) : ∀ U : State, U.heap = H → s.WarmedH U.vm → va_Pc As (PreX D cy ad nm nv H.size σ) As.toArray U := by
  intro U hU hWm
  exact ⟨rfl, ⟨by rw [hU], by rw [hU]; exact hW, va_K.moved hWm.alike X.2.2.2.2.2.1, X.2.2.2.2.2.2.1.weaken (fun _ _ => trivial), X.2.2.2.2.2.2.2.2.warm hWm⟩, Y.go hS (m_free X hS) hU hWm⟩
/-- what a run of a call gives: it goes on with its value, or what is thrown goes on -/
theorem x_after {α β : Type} {d rR : β} {F : Option (Nat × α × St)} {κ : α → St → Option (Nat × β × St)} {ok : α → Prop} {val : α → Option Value} {mc2 ms2 ce sl : Nat} {a : Array Value} {st0 : List Value} (X : Cx p s m args c cc nL own D cy ad nm nv A) (hE : ∀ x ∈ c.exceptionTable.toList, False) (hlocks : meth.locks = false) (hS : va_S A s.heap H locs)
    (hr : ∀ cd v σ2, F = some (cd, v, σ2) → vx_Run p l e R s m args below meth c H locs cells slots mc2 ms2 (F0 m pc ls st0) rest (XQ D cy ad nm nv (cd = 0 ∧ ok v) (val v) σ2 (AW ad nm nv H.size) a) (XX D cy ad nm nv cd σ2 (AW ad nm nv H.size)) (AW ad nm nv H.size)) (hf : xw d F κ = some (cdR, rR, σR)) (hQ : vx_MQ below Qc (XX D cy ad nm nv cdR σR A) args s mc ms A = Q) (hce : cells + mc2 ≤ ce) (hsl : slots + ms2 ≤ sl) (hcm : ce ≤ mc) (hsm : sl ≤ ms)
    (kk : ∀ (v : α) (σ2 : St) (H1 : Heap) (locs1 : List Loc), ok v → Wd D cy ad nm nv σ2 H1 → va_S A s.heap H1 locs1 → κ v σ2 = some (cdR, rR, σR) → W p l e R s m args below meth c H1 locs1 ce sl Q (F0 m (pc + 3) ls ((val v).toList ++ rest))) : W p l e R s m args below meth c H locs cells slots Q (F0 m pc ls st0) := by
  cases F with
  | none => cases hf
  | some q =>
    obtain ⟨cd, v, σ2⟩ := q
    have hr := hr cd v σ2 rfl
    have hfr := m_free X hS
    intro T hT XT
    rcases hr T hT XT with ⟨v1, st₀, t, T', L, h0, X', hL, e1, e2, ⟨⟨hv, ⟨hcd, hok⟩, hP⟩, hF⟩, st⟩ | ⟨q, st₀, t, T', L, E, ce1, h0, X', hL, e1, e2, ⟨u, ⟨hcd, hu⟩, ⟨hEn, hP⟩, hF⟩, hce1, hcv, hcl, st⟩
    · cases hv
      subst hcd
      obtain ⟨k1, k2, k3⟩ := vx_keep h0 e1 hS (fun q _ h => hfr q h) hfr hL hF
      have hW1 := hP.1
      rw [← e1] at hW1
      obtain ⟨t2, a1, b1⟩ := kk v σ2 T'.heap (locs ++ L) hok hW1 k3 hf T' rfl (stand_widen X' hce hsl)
      exact ⟨t2, st t2 a1, b1⟩
    · obtain ⟨k1, k2, k3⟩ := vx_keep h0 e1 hS (fun q _ h => hfr q h) hfr hL hF
      cases cd with
      | zero => exact absurd rfl hcd
      | succ cd =>
        subst hu
        have hf : some (cd + 1, d, u) = some (cdR, rR, σR) := hf
        cases hf
        subst hQ
        have hW1 := hP.1
        rw [← e1] at hW1
        obtain ⟨t2, a1, b1⟩ := vx_out (p := p) (l := l) (e := e) (R := R) (s := s) (m := m) (args := args) (below := below) (meth := meth) (c := c) (H := T'.heap) (locs := locs ++ L) (cells := cells + mc2) (slots := slots + ms2) (ls := ls) (rest := rest) (Qc := Qc) (XC := XX D cy ad nm nv (cd + 1) σR A) (mc := mc) (ms := ms) (free := A) (pc := pc) (E := E) (ce := ce1) (q := q) (fun x hx => (hE x hx).elim) hlocks (by rw [e1]; exact hce1) hcv hcl
          (fun t3 ht3 hal => ⟨σR, ⟨hcd, rfl⟩, ⟨hEn, by rw [← ht3] at hW1; exact hW1, va_K.moved hal X.2.2.2.2.2.1⟩, k3.F ht3⟩) k3.2.2 (Nat.le_trans hce hcm) (Nat.le_trans hsl hsm) T' rfl X'
        exact ⟨t2, st.trans a1, b1⟩
theorem x_callV {α β : Type} {d rR : β} {C : String} {y : MethodName} {bytes : ByteArray} {maxL index nA : Nat} {ret : Option FieldType} {rm : Room} {F : Option (Nat × α × St)} {κ : α → St → Option (Nat × β × St)} (ok : α → Prop) (val : α → Option Value) {mc2 ms2 : Nat} (ce sl : Nat) {As st0 : List Value} {b : Nat} (X : Cx p s m args c cc nL own D cy ad nm nv A) (Y : TX A s) (hE : ∀ x ∈ c.exceptionTable.toList, False) (hlocks : meth.locks = false) (hW : Wd D cy ad nm nv σ H) (hS : va_S A s.heap H locs) (hsz : ls.size = nL)
    (hg : GoodIn GW (wsV own index C y (wsG y bytes maxL ret))) (hd : y.cls = C ∧ y.cls ≠ "java/lang/invoke/MethodHandle" ∧ y.cls ≠ "java/lang/invoke/VarHandle" ∧ (parseMethodDescriptor y.desc).map (fun d => d.parameters.length) = some nA) (hR : rm.cells = mc2 ∧ rm.slots = ms2 ∧ rm.frames + 1 ≤ R.frames ∧ 8 + (maxL + 11) + rm.locals ≤ R.locals) (hrec : ∃ cell : Cell, H[b]? = some cell ∧ cell.vm.isStatics = false ∧ s.vm.findClass C = some cell.cls)
    (hM : ∀ cd v σ2, F = some (cd, v, σ2) → XM l y bytes maxL ret rm (.ref b :: As) D cy ad nm nv H.size σ mc2 ms2 cd (ok v) (val v) σ2) (hf : xw d F κ = some (cdR, rR, σR)) (hn : As.length = nA) (hst : st0 = As.reverse ++ .ref b :: rest) (hrest : (rest.map fun v => v.category).sum ≤ 8) (hdg : decode cc pc = .ok (.invokevirtual index, 3)) (hcs : cells + mc2 ≤ R.cells ∧ slots + ms2 ≤ R.slots) (hQ : vx_MQ below Qc (XX D cy ad nm nv cdR σR A) args s mc ms A = Q) (hce : cells + mc2 ≤ ce) (hsl : slots + ms2 ≤ sl) (hcm : ce ≤ mc) (hsm : sl ≤ ms)
    (kk : ∀ (v : α) (σ2 : St) (H1 : Heap) (locs1 : List Loc), ok v → Wd D cy ad nm nv σ2 H1 → va_S A s.heap H1 locs1 → κ v σ2 = some (cdR, rR, σR) → W p l e R s m args below meth c H1 locs1 ce sl Q (F0 m (pc + 3) ls ((val v).toList ++ rest))) : W p l e R s m args below meth c H locs cells slots Q (F0 m pc ls st0) :=
  x_after X hE hlocks hS (fun cd v σ2 h => vx_runV (rest := rest) (As := As) ⟨X.1, X.2.1, X.2.2.1, X.2.2.2.1, X.2.2.2.2.1⟩ (hM cd v σ2 h) (cwV nA X.2.2.2.2.1 hg rfl hR.1 hR.2.1 hd hR.2.2) ⟨PreX.blind, hrec, x_pre X Y hW hS⟩ rfl hn hsz hst (by show 2 * 0 + _ ≤ 8; omega) hdg ⟨hcs.1, hcs.2⟩) hf hQ hce hsl hcm hsm kk
theorem x_callS {α β : Type} {d rR : β} {y : MethodName} {bytes : ByteArray} {maxL index nA : Nat} {ret : Option FieldType} {rm : Room} {F : Option (Nat × α × St)} {κ : α → St → Option (Nat × β × St)} (ok : α → Prop) (val : α → Option Value) {mc2 ms2 : Nat} (ce sl : Nat) {As st0 : List Value} (X : Cx p s m args c cc nL own D cy ad nm nv A) (Y : TX A s) (hE : ∀ x ∈ c.exceptionTable.toList, False) (hlocks : meth.locks = false) (hW : Wd D cy ad nm nv σ H) (hS : va_S A s.heap H locs) (hsz : ls.size = nL)
    (hg : GoodIn GW (wsS own index y (wsG y bytes maxL ret))) (hd : y.cls = own ∧ y.cls ≠ "java/lang/invoke/MethodHandle" ∧ y.cls ≠ "java/lang/invoke/VarHandle" ∧ (parseMethodDescriptor y.desc).map (fun d => d.parameters.length) = some nA) (hR : rm.cells = mc2 ∧ rm.slots = ms2 ∧ rm.frames + 1 ≤ R.frames ∧ 8 + (maxL + 11) + rm.locals ≤ R.locals)
    (hM : ∀ cd v σ2, F = some (cd, v, σ2) → XM l y bytes maxL ret rm As D cy ad nm nv H.size σ mc2 ms2 cd (ok v) (val v) σ2) (hf : xw d F κ = some (cdR, rR, σR)) (hn : As.length = nA) (hst : st0 = As.reverse ++ rest) (hrest : (rest.map fun v => v.category).sum ≤ 8) (hdg : decode cc pc = .ok (.invokestatic index, 3)) (hcs : cells + mc2 ≤ R.cells ∧ slots + ms2 ≤ R.slots) (hQ : vx_MQ below Qc (XX D cy ad nm nv cdR σR A) args s mc ms A = Q) (hce : cells + mc2 ≤ ce) (hsl : slots + ms2 ≤ sl) (hcm : ce ≤ mc) (hsm : sl ≤ ms)
    (kk : ∀ (v : α) (σ2 : St) (H1 : Heap) (locs1 : List Loc), ok v → Wd D cy ad nm nv σ2 H1 → va_S A s.heap H1 locs1 → κ v σ2 = some (cdR, rR, σR) → W p l e R s m args below meth c H1 locs1 ce sl Q (F0 m (pc + 3) ls ((val v).toList ++ rest))) : W p l e R s m args below meth c H locs cells slots Q (F0 m pc ls st0) :=
  x_after X hE hlocks hS (fun cd v σ2 h => vx_runS (rest := rest) (As := As) ⟨X.1, X.2.1, X.2.2.1, X.2.2.2.1, X.2.2.2.2.1⟩ (hM cd v σ2 h) (cwS nA X.2.2.2.2.1 hg rfl hR.1 hR.2.1 hd hR.2.2) ⟨PreX.blind, x_pre X Y hW hS⟩ rfl hn hsz hst (by show 2 * 0 + _ ≤ 8; omega) hdg ⟨hcs.1, hcs.2⟩) hf hQ hce hsl hcm hsm kk
end XROWS
theorem sx_161 : (161, "no such site") ∈ strL := List.mem_of_getElem? (i := 0) rfl
theorem sx_67 : (67, "no such letter") ∈ strL := List.mem_of_getElem? (i := 1) rfl
theorem sx_358 : (358, "the site may only read there") ∈ strL := List.mem_of_getElem? (i := 2) rfl
theorem sx_348 : (348, "too many acts") ∈ strL := List.mem_of_getElem? (i := 3) rfl
theorem sx_102 : (102, "nothing to erase") ∈ strL := List.mem_of_getElem? (i := 4) rfl
theorem sx_337 : (337, "no such place") ∈ strL := List.mem_of_getElem? (i := 5) rfl
theorem sx_346 : (346, "no such mark") ∈ strL := List.mem_of_getElem? (i := 6) rfl
theorem sx_360 : (360, "nothing is selected") ∈ strL := List.mem_of_getElem? (i := 7) rfl
theorem sx_135 : (135, "too many comments") ∈ strL := List.mem_of_getElem? (i := 8) rfl
theorem sx_342 : (342, "no such block") ∈ strL := List.mem_of_getElem? (i := 9) rfl
theorem sx_140 : (140, "no such kind") ∈ strL := List.mem_of_getElem? (i := 10) rfl
theorem sx_350 : (350, "the site may not write in the block") ∈ strL := List.mem_of_getElem? (i := 11) rfl
theorem sx_344 : (344, "the site has no such act") ∈ strL := List.mem_of_getElem? (i := 12) rfl
theorem sx_157 : (157, "no proposal that the site may decide") ∈ strL := List.mem_of_getElem? (i := 13) rfl
theorem sx_164 : (164, "no such level") ∈ strL := List.mem_of_getElem? (i := 14) rfl
theorem sx_170 : (170, "nothing to undo") ∈ strL := List.mem_of_getElem? (i := 15) rfl
theorem sx_175 : (175, "nothing to redo") ∈ strL := List.mem_of_getElem? (i := 16) rfl
theorem sx_177 : (177, "a site sends to another one") ∈ strL := List.mem_of_getElem? (i := 17) rfl
theorem sx_182 : (182, "too many messages") ∈ strL := List.mem_of_getElem? (i := 18) rfl
theorem sx_330 : (330, "no such message") ∈ strL := List.mem_of_getElem? (i := 19) rfl
theorem sx_236 : (236, txOf tables_1_4 57) ∈ strL := List.mem_of_getElem? (i := 20) rfl
theorem sx_244 : (244, "too many versions") ∈ strL := List.mem_of_getElem? (i := 21) rfl
theorem sx_332 : (332, "no such version") ∈ strL := List.mem_of_getElem? (i := 22) rfl
theorem sx_258 : (258, "the site lacks acts of the version") ∈ strL := List.mem_of_getElem? (i := 23) rfl
theorem sx_320 : (320, "the site does not have so many acts") ∈ strL := List.mem_of_getElem? (i := 24) rfl
theorem sx_322 : (322, "no such act") ∈ strL := List.mem_of_getElem? (i := 25) rfl
theorem atg_1 : ∀ w ∈ (vx_atS RX5 163 "java/lang/IndexOutOfBoundsException" ["java/lang/RuntimeException", "java/lang/Exception"]).filter goodWord, w ∈ lw_tbl := by decide +kernel
theorem atb_1 : ∀ w ∈ (vx_atS RX5 163 "java/lang/IndexOutOfBoundsException" ["java/lang/RuntimeException", "java/lang/Exception"]).filter (fun w => !goodWord w), w ∈ [Cond.castable "java/lang/IndexOutOfBoundsException" "java/lang/IndexOutOfBoundsException", Cond.declares ⟨"java/lang/RuntimeException", "<init>", "(Ljava/lang/String;)V"⟩, Cond.declares ⟨"java/lang/Exception", "<init>", "(Ljava/lang/String;)V"⟩, Cond.declares ⟨"java/lang/Throwable", "<init>", "(Ljava/lang/String;)V"⟩] := by decide +kernel
theorem ato_1 : ∀ w ∈ Cond.classLink RX5 159 "java/lang/IndexOutOfBoundsException" :: Cond.initialized "java/lang/IndexOutOfBoundsException" :: vx_atS RX5 163 "java/lang/IndexOutOfBoundsException" ["java/lang/RuntimeException", "java/lang/Exception"], vx_ot w = true := by decide +kernel
theorem at_1 {args : Array Value} {s : State} (hG : ∀ w ∈ GW, w.before args s = true) (hN : NWs s) : ∀ w ∈ vx_atS RX5 163 "java/lang/IndexOutOfBoundsException" ["java/lang/RuntimeException", "java/lang/Exception"], w.before args s = true := vx_hat (fun w hw => hG w (List.mem_filter.mpr ⟨atg_1 w hw, (List.mem_filter.mp hw).2⟩)) atb_1 (vx_c (va_Nw.use rfl (nc_IndexOutOfBoundsException hN)) (vx_c (va_Nw.use rfl (nd_1 hN)) (vx_c (va_Nw.use rfl (nd_3 hN)) (vx_c (va_Nw.use rfl (nd_5 hN)) vx_n))))
theorem atg_2 : ∀ w ∈ (vx_atS RX5 69 "java/lang/IllegalArgumentException" ["java/lang/RuntimeException", "java/lang/Exception"]).filter goodWord, w ∈ lw_tbl := by decide +kernel
theorem atb_2 : ∀ w ∈ (vx_atS RX5 69 "java/lang/IllegalArgumentException" ["java/lang/RuntimeException", "java/lang/Exception"]).filter (fun w => !goodWord w), w ∈ [Cond.castable "java/lang/IllegalArgumentException" "java/lang/IllegalArgumentException", Cond.declares ⟨"java/lang/RuntimeException", "<init>", "(Ljava/lang/String;)V"⟩, Cond.declares ⟨"java/lang/Exception", "<init>", "(Ljava/lang/String;)V"⟩, Cond.declares ⟨"java/lang/Throwable", "<init>", "(Ljava/lang/String;)V"⟩] := by decide +kernel
theorem ato_2 : ∀ w ∈ Cond.classLink RX5 65 "java/lang/IllegalArgumentException" :: Cond.initialized "java/lang/IllegalArgumentException" :: vx_atS RX5 69 "java/lang/IllegalArgumentException" ["java/lang/RuntimeException", "java/lang/Exception"], vx_ot w = true := by decide +kernel
theorem at_2 {args : Array Value} {s : State} (hG : ∀ w ∈ GW, w.before args s = true) (hN : NWs s) : ∀ w ∈ vx_atS RX5 69 "java/lang/IllegalArgumentException" ["java/lang/RuntimeException", "java/lang/Exception"], w.before args s = true := vx_hat (fun w hw => hG w (List.mem_filter.mpr ⟨atg_2 w hw, (List.mem_filter.mp hw).2⟩)) atb_2 (vx_c (va_Nw.use rfl (nc_IllegalArgumentException hN)) (vx_c (va_Nw.use rfl (nd_1 hN)) (vx_c (va_Nw.use rfl (nd_3 hN)) (vx_c (va_Nw.use rfl (nd_5 hN)) vx_n))))
theorem atg_3 : ∀ w ∈ (vx_atS RX5 104 "java/lang/IllegalStateException" ["java/lang/RuntimeException", "java/lang/Exception"]).filter goodWord, w ∈ lw_tbl := by decide +kernel
theorem atb_3 : ∀ w ∈ (vx_atS RX5 104 "java/lang/IllegalStateException" ["java/lang/RuntimeException", "java/lang/Exception"]).filter (fun w => !goodWord w), w ∈ [Cond.castable "java/lang/IllegalStateException" "java/lang/IllegalStateException", Cond.declares ⟨"java/lang/RuntimeException", "<init>", "(Ljava/lang/String;)V"⟩, Cond.declares ⟨"java/lang/Exception", "<init>", "(Ljava/lang/String;)V"⟩, Cond.declares ⟨"java/lang/Throwable", "<init>", "(Ljava/lang/String;)V"⟩] := by decide +kernel
theorem ato_3 : ∀ w ∈ Cond.classLink RX5 100 "java/lang/IllegalStateException" :: Cond.initialized "java/lang/IllegalStateException" :: vx_atS RX5 104 "java/lang/IllegalStateException" ["java/lang/RuntimeException", "java/lang/Exception"], vx_ot w = true := by decide +kernel
theorem at_3 {args : Array Value} {s : State} (hG : ∀ w ∈ GW, w.before args s = true) (hN : NWs s) : ∀ w ∈ vx_atS RX5 104 "java/lang/IllegalStateException" ["java/lang/RuntimeException", "java/lang/Exception"], w.before args s = true := vx_hat (fun w hw => hG w (List.mem_filter.mpr ⟨atg_3 w hw, (List.mem_filter.mp hw).2⟩)) atb_3 (vx_c (va_Nw.use rfl (nc_IllegalStateException hN)) (vx_c (va_Nw.use rfl (nd_1 hN)) (vx_c (va_Nw.use rfl (nd_3 hN)) (vx_c (va_Nw.use rfl (nd_5 hN)) vx_n))))
