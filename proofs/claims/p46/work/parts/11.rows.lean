/-! ===== the world by ids, and an instruction a row, in step with the pure programs ===== -/
def wl (cy : Nat → ClassId) (ad : Nat → Nat) (nm nv : Nat) (σ : St) : va_W := (idl nm nv).map (fun id => (ad id, ent cy ad σ id))
def tysC (cy : Nat → ClassId) : List (ClassId × FieldType) := [(cy 1, .int), (cy 2, .boolean), (cy 3, .int), (cy 4, .object RX4), (cy 5, .object RX2), (cy 6, .object RX0), (cy 7, .array .int)]
def Wd (D : va_G) (cy : Nat → ClassId) (ad : Nat → Nat) (nm nv : Nat) (σ : St) (H : Heap) : Prop := va_P D vwCl (wl cy ad nm nv σ) H ∧ (∀ a b, inR (σ a b)) ∧ σ 2 0 ≤ (nm : Int) ∧ σ 3 0 ≤ (nv : Int)
def Dd (A : Nat → Prop) (ad : Nat → Nat) (nm nv : Nat) : Prop := (∀ i j a b : Nat, (idl nm nv)[i]? = some a → (idl nm nv)[j]? = some b → ad a = ad b → i = j) ∧ ∀ a, a ∈ idl nm nv → A (ad a)
theorem wl_at {cy : Nat → ClassId} {ad : Nat → Nat} {nm nv : Nat} {σ : St} {q0 id : Nat} (hq : (idl nm nv)[q0]? = some id) : (wl cy ad nm nv σ)[q0]? = some (ad id, ent cy ad σ id) := by
  unfold wl; rw [List.getElem?_map, hq]; rfl
theorem wl_of {cy : Nat → ClassId} {ad : Nat → Nat} {nm nv : Nat} {σ : St} {q0 : Nat} {x : Nat × va_E} (h : (wl cy ad nm nv σ)[q0]? = some x) : ∃ id, (idl nm nv)[q0]? = some id ∧ x = (ad id, ent cy ad σ id) := by
  unfold wl at h; rw [List.getElem?_map] at h
  cases hj : (idl nm nv)[q0]? with
  | none => rw [hj] at h; cases h
  | some a => rw [hj] at h; exact ⟨a, rfl, (Option.some.inj h).symm⟩
theorem Dd.va {A : Nat → Prop} {cy : Nat → ClassId} {ad : Nat → Nat} {nm nv : Nat} {σ : St} (h : Dd A ad nm nv) : va_D A (wl cy ad nm nv σ) := by
  refine ⟨fun i j p q hp hq he => ?_, fun k q hq => ?_⟩
  · obtain ⟨a, ha, rfl⟩ := wl_of hp
    obtain ⟨b, hb, rfl⟩ := wl_of hq
    exact h.1 i j a b ha hb he
  · obtain ⟨a, ha, rfl⟩ := wl_of hq
    exact h.2 a (List.mem_of_getElem? ha)
theorem Dd.weaken {A B : Nat → Prop} {ad : Nat → Nat} {nm nv : Nat} (h : Dd A ad nm nv) (hB : ∀ a, a ∈ idl nm nv → B (ad a)) : Dd B ad nm nv := ⟨h.1, hB⟩
theorem wl_set {A : Nat → Prop} {cy : Nat → ClassId} {ad : Nat → Nat} {nm nv : Nat} {σ σ2 : St} {q0 id : Nat} {x : va_E} (hD : Dd A ad nm nv) (hq : (idl nm nv)[q0]? = some id) (he : ent cy ad σ2 id = x) (hne : ∀ a j, a ≠ id → σ2 a j = σ a j) : (wl cy ad nm nv σ).set q0 (ad id, x) = wl cy ad nm nv σ2 := by
  apply List.ext_getElem?
  intro j
  rw [List.getElem?_set]
  by_cases h : q0 = j
  · subst h
    have lt : q0 < (wl cy ad nm nv σ).length := (List.getElem?_eq_some_iff.mp (wl_at (σ := σ) (cy := cy) (ad := ad) hq)).1
    rw [if_pos rfl, if_pos lt, wl_at hq, he]
  · rw [if_neg h]
    unfold wl
    rw [List.getElem?_map, List.getElem?_map]
    cases hj : (idl nm nv)[j]? with
    | none => rfl
    | some a =>
      have hna : a ≠ id := fun e => h (hD.1 q0 j id a hq hj (by rw [e]))
      show some (ad a, ent cy ad σ a) = some (ad a, ent cy ad σ2 a)
      rw [ent_congr (fun b => hne a b hna)]
theorem st_other {σ : St} {id i : Nat} {v : Int} : ∀ a j, a ≠ id → st σ id i v a j = σ a j := fun a j h => if_neg h
theorem st_inR {σ : St} {id i : Nat} {v : Int} (h : ∀ a b, inR (σ a b)) (hv : inR v) : ∀ a b, inR (st σ id i v a b) := by
  intro a b
  unfold st
  split
  · split
    · exact hv
    · exact h a b
  · exact h a b
theorem kd2 : kd 2 = 5 := by decide +kernel
theorem kd3 : kd 3 = 6 := by decide +kernel
theorem st_gh {σ : St} {id i k : Nat} {v x : Int} {g : Nat} (hk : kd id = k) (h5 : k ≠ 5) (h6 : k ≠ 6) (hg : g = 2 ∨ g = 3) (h : σ g 0 ≤ x) : st σ id i v g 0 ≤ x := by
  rw [st_ne]; exact h
  rintro rfl
  rcases hg with rfl | rfl
  · rw [kd2] at hk; exact h5 hk.symm
  · rw [kd3] at hk; exact h6 hk.symm
-- words that link between the nested classes
def nwC : List (String × String) := [("java/lang/IndexOutOfBoundsException", "java/lang/IndexOutOfBoundsException"), ("java/lang/IllegalArgumentException", "java/lang/IllegalArgumentException"), ("java/lang/IllegalStateException", "java/lang/IllegalStateException"), ("[I", "java/lang/Cloneable")]
def nwD : List MethodName := [⟨"java/lang/RuntimeException", "<init>", "()V"⟩, ⟨"java/lang/RuntimeException", "<init>", "(Ljava/lang/String;)V"⟩, ⟨"java/lang/Exception", "<init>", "()V"⟩, ⟨"java/lang/Exception", "<init>", "(Ljava/lang/String;)V"⟩, ⟨"java/lang/Throwable", "<init>", "()V"⟩, ⟨"java/lang/Throwable", "<init>", "(Ljava/lang/String;)V"⟩]
def nwF : List (String × Nat × String × String × String × String) := [("Marginnote$Paper", 53, "Marginnote$Book", "made", "I", "Marginnote"), ("Marginnote", 199, "Marginnote$Book", "made", "I", "Marginnote"), ("Marginnote", 132, "Marginnote$Book", "comments", "I", "Marginnote"), ("Marginnote$Site", 52, "Marginnote$ActSet", "size", "I", "Marginnote"), ("Marginnote", 196, "Marginnote$ActSet", "size", "I", "Marginnote"), ("Marginnote", 150, "Marginnote$Site", "number", "I", "Marginnote"), ("Marginnote$Message", 20, "Marginnote$Site", "held", "LMarginnote$ActSet;", "Marginnote"), ("Marginnote", 193, "Marginnote$Site", "held", "LMarginnote$ActSet;", "Marginnote"), ("Marginnote$Message", 29, "Marginnote$Site", "known", "[I", "Marginnote"), ("Marginnote", 352, "Marginnote$Site", "paper", "LMarginnote$Paper;", "Marginnote"), ("Marginnote", 226, "Marginnote$Site", "fresh", "Z", "Marginnote"), ("Marginnote", 113, "Marginnote$Site", "proposing", "Z", "Marginnote"), ("Marginnote", 362, "Marginnote$Site", "clock", "I", "Marginnote"), ("Marginnote", 80, "Marginnote$Site", "cursor", "I", "Marginnote"), ("Marginnote", 88, "Marginnote$Site", "tail", "I", "Marginnote"), ("Marginnote", 190, "Marginnote$Message", "receiver", "I", "Marginnote"), ("Marginnote", 205, "Marginnote$Message", "acts", "LMarginnote$ActSet;", "Marginnote"), ("Marginnote", 219, "Marginnote$Message", "known", "[I", "Marginnote")]
def nwM : List (String × Nat × MethodName × String) := [("Marginnote", 11, ⟨"Marginnote$Book", "<init>", "()V"⟩, "Marginnote"), ("Marginnote$Site", 11, ⟨"Marginnote$ActSet", "<init>", "()V"⟩, "Marginnote"), ("Marginnote", 49, ⟨"Marginnote$ActSet", "<init>", "()V"⟩, "Marginnote"), ("Marginnote$Paper", 116, ⟨"Marginnote", "commentBit", "(I)I"⟩, "Marginnote"), ("Marginnote", 355, ⟨"Marginnote$Paper", "blockOf", "(I)I"⟩, "Marginnote"), ("Marginnote$Message", 9, ⟨"Marginnote$ActSet", "<init>", "()V"⟩, "Marginnote")]
theorem va_AOA.moved {ty : FieldType} {u U : State} (hvm : u.vm.Alike U.vm) (h : va_AOA ty u) : va_AOA ty U := by
  have e := (Cond.arrayOver_setVmC (args := #[]) hvm (.array ty)).trans h
  have e2 : (Cond.arrayOver (.array ty)).before #[] (u.setVm U.vm) = (Cond.arrayOver (.array ty)).before #[] U := by
    unfold Cond.before Cond.holds
    simp only [Cond.value]
    rfl
  unfold va_AOA
  rw [← e2]
  exact e
def OVs (U : State) : Prop := va_AO "Marginnote$Site" U ∧ va_AO "Marginnote$Message" U ∧ va_AO "Marginnote$ActSet" U ∧ va_AOA .int U
theorem OVs.moved {u U : State} (hvm : u.vm.Alike U.vm) (h : OVs u) : OVs U := ⟨h.1.moved hvm, h.2.1.moved hvm, h.2.2.1.moved hvm, h.2.2.2.moved hvm⟩
def NWs (U : State) : Prop := (∀ q ∈ nwF, va_Nw (.fieldLinkNest q.1 q.2.1 q.2.2.1 q.2.2.2.1 q.2.2.2.2.1 q.2.2.2.2.2) U) ∧ (∀ q ∈ nwM, va_Nw (.methodLinkNest q.1 q.2.1 q.2.2.1 q.2.2.2) U) ∧ (∀ q ∈ nwC, va_Nw (.castable q.1 q.2) U) ∧ (∀ q ∈ nwD, va_Nw (.declares q) U) ∧ OVs U
theorem NWs.warm {s U : State} (hW : s.WarmedH U.vm) (h : NWs s) : NWs U := ⟨fun q hq => va_Nw.warmF hW (h.1 q hq), fun q hq => va_Nw.warmM hW (h.2.1 q hq), fun q hq => va_Nw.warmC hW (h.2.2.1 q hq), fun q hq => va_Nw.warmD hW (h.2.2.2.1 q hq), h.2.2.2.2.moved hW.alike⟩
theorem NWs.same {s U : State} (hv : s.vm = U.vm) (h : NWs s) : NWs U := ⟨fun q hq => va_Nw.same rfl hv (h.1 q hq), fun q hq => va_Nw.same rfl hv (h.2.1 q hq), fun q hq => va_Nw.same rfl hv (h.2.2.1 q hq), fun q hq => va_Nw.same rfl hv (h.2.2.2.1 q hq), h.2.2.2.2.moved (by rw [hv]; exact Vm.Alike.refl _)⟩
/-- what stays the same through a method's body -/
def Cx (p : Program) (s : State) (m : MethodId) (args : Array Value) (c : Code) (cc : ByteArray) (nL : Nat) (own : String) (D : va_G) (cy : Nat → ClassId) (ad : Nat → Nat) (nm nv : Nat) (A : Nat → Prop) : Prop :=
  p.tables.exec = Jvm.exec ∧ c.code = cc ∧ c.maxLocals = nL ∧ s.vm.findClass own = some m.cls ∧ (∀ w ∈ GW, w.before args s = true) ∧ va_K D vwCl (tysC cy) s ∧ Dd A ad nm nv ∧ (∀ q : Nat, s.heap.size ≤ q → A q) ∧ NWs s
def wsG (y : MethodName) (b : ByteArray) (n : Nat) (ret : Option FieldType) : List Cond := Cond.code y b n ret :: GW
theorem gG {w : Cond} (h : w ∈ GW) : (w.onTables && w.keeps) = true ∨ ∃ ty, w = .arrayClass ty := good_of_word (List.mem_filter.mp h).2
theorem cg_G {y : MethodName} {b : ByteArray} {n : Nat} {ret : Option FieldType} (h5 : Cond.code y b n ret ∈ GW) : GoodIn GW (wsG y b n ret) := by
  intro w hw
  have hw2 : w ∈ GW := (List.mem_cons.mp hw).elim (fun e => by rw [e]; exact h5) id
  exact ⟨hw2, gG hw2⟩
theorem cg_V {own C : String} {index : Nat} {y : MethodName} {b : ByteArray} {n : Nat} {ret : Option FieldType} (h1 : Cond.methodLink own index y ∈ GW) (h2 : Cond.instanceMethod y ∈ GW) (h3 : Cond.selects C y y ∈ GW) (h4 : Cond.initialized C ∈ GW) (h5 : Cond.code y b n ret ∈ GW) : GoodIn GW (wsV own index C y (wsG y b n ret)) := by
  intro w hw
  rcases List.mem_append.mp hw with hw | hw
  · have hw2 : w ∈ GW := by
      rcases List.mem_cons.mp hw with rfl | hw
      · exact h1
      rcases List.mem_cons.mp hw with rfl | hw
      · exact h2
      rcases List.mem_cons.mp hw with rfl | hw
      · exact h3
      rcases List.mem_cons.mp hw with rfl | hw
      · exact h4
      cases hw
    exact ⟨hw2, gG hw2⟩
  · exact cg_G h5 w hw
theorem cg_S {own : String} {index : Nat} {y : MethodName} {b : ByteArray} {n : Nat} {ret : Option FieldType} (h1 : Cond.methodLink own index y ∈ GW) (h2 : Cond.static y ∈ GW) (h4 : Cond.initialized own ∈ GW) (h5 : Cond.code y b n ret ∈ GW) : GoodIn GW (wsS own index y (wsG y b n ret)) := by
  intro w hw
  rcases List.mem_append.mp hw with hw | hw
  · have hw2 : w ∈ GW := by
      rcases List.mem_cons.mp hw with rfl | hw
      · exact h1
      rcases List.mem_cons.mp hw with rfl | hw
      · exact h2
      rcases List.mem_cons.mp hw with rfl | hw
      · exact h4
      cases hw
    exact ⟨hw2, gG hw2⟩
  · exact cg_G h5 w hw
def AW (ad : Nat → Nat) (nm nv sz : Nat) : Nat → Prop := fun q => (∃ a, a ∈ idl nm nv ∧ q = ad a) ∨ sz ≤ q
def PreW (D : va_G) (cy : Nat → ClassId) (ad : Nat → Nat) (nm nv sz : Nat) (σ : St) (U : State) : Prop := U.heap.size = sz ∧ Wd D cy ad nm nv σ U.heap ∧ va_K D vwCl (tysC cy) U ∧ Dd (fun _ => True) ad nm nv ∧ NWs U
def PostW (D : va_G) (cy : Nat → ClassId) (ad : Nat → Nat) (nm nv : Nat) (σ : St) (t : State) : Prop := Wd D cy ad nm nv σ t.heap ∧ va_K D vwCl (tysC cy) t
theorem PreW.blind {D : va_G} {cy : Nat → ClassId} {ad : Nat → Nat} {nm nv sz : Nat} {σ : St} {args : List Value} : FrameBlind (va_Pc args (PreW D cy ad nm nv sz σ)) := by
  intro a U g mk q
  obtain ⟨q0, q1, qP, qK, qD, qN⟩ := q
  exact ⟨q0, q1, qP, va_K.moved (u := U) (U := U.calling g mk a) (Vm.Alike.refl U.vm) qK, qD, NWs.same (s := U) (U := U.calling g mk a) rfl qN⟩
/-- contracts: an int (boolean, char), nothing, a cell by its id -/
def CI (l : Launch) (y : MethodName) (b : ByteArray) (n : Nat) (ret : Option FieldType) (rm : Room) (av : List Value) (D : va_G) (cy : Nat → ClassId) (ad : Nat → Nat) (nm nv sz : Nat) (σ : St) (z : Bool) (r : Int) (σ2 : St) : Prop :=
  Met l y (wsG y b n ret) rm (va_Pc av (PreW D cy ad nm nv sz σ)) (va_Qi (fun (x : Int32) (u : St) => x = i32 r ∧ inR r ∧ (z = true → isB r) ∧ u = σ2) (PostW D cy ad nm nv) (AW ad nm nv sz)) 0 0 (AW ad nm nv sz)
def CV (l : Launch) (y : MethodName) (b : ByteArray) (n : Nat) (ret : Option FieldType) (rm : Room) (av : List Value) (D : va_G) (cy : Nat → ClassId) (ad : Nat → Nat) (nm nv sz : Nat) (σ σ2 : St) : Prop :=
  Met l y (wsG y b n ret) rm (va_Pc av (PreW D cy ad nm nv sz σ)) (va_Qv (fun (u : St) => u = σ2) (PostW D cy ad nm nv) (AW ad nm nv sz)) 0 0 (AW ad nm nv sz)
def CA (l : Launch) (y : MethodName) (b : ByteArray) (n : Nat) (ret : Option FieldType) (rm : Room) (av : List Value) (D : va_G) (cy : Nat → ClassId) (ad : Nat → Nat) (nm nv sz : Nat) (σ : St) (K : Nat → Prop) (r : Nat) (σ2 : St) : Prop :=
  Met l y (wsG y b n ret) rm (va_Pc av (PreW D cy ad nm nv sz σ)) (va_Qr (fun (u : St) => u = σ2) (fun (u : St) (a : Nat) (t : State) => a = ad r ∧ K r ∧ PostW D cy ad nm nv u t) (AW ad nm nv sz)) 0 0 (AW ad nm nv sz)
/-- a method's entry -/
theorem m_entry {l : Launch} {y : MethodName} {cc : ByteArray} {n : Nat} {ret : Option FieldType} {rm : Room} {av : List Value} {D : va_G} {cy : Nat → ClassId} {ad : Nat → Nat} {nm nv sz : Nat} {σ : St} {Qc : Array Value → State → Outcome → State → Prop} {mc ms : Nat} (C : String) (hC : y.cls = C)
    (hy : plainName y.cls = true) (hlen : (lg_sl av).length ≤ n)
    (body : ∀ (p : Program) (e : Env) (s : State) (m : MethodId) (args : Array Value) (below : List Frame) (meth : Method) (c : Code) (Q : State → Prop), MQ below Qc args s mc ms (AW ad nm nv sz) = Q → meth.sig.returnType = ret → meth.locks = false → Cx p s m args c cc n C D cy ad nm nv (AW ad nm nv sz) → Wd D cy ad nm nv σ s.heap → va_S (AW ad nm nv sz) s.heap s.heap [] → ∀ ls : Array Slot, lv_has ls n (lv_args 0 av) → W p l e rm s m args below meth c s.heap [] 0 0 Q (F0 m 0 ls [])) :
    Met l y (wsG y cc n ret) rm (va_Pc av (PreW D cy ad nm nv sz σ)) Qc mc ms (AW ad nm nv sz) := by
  refine Met.ofW (cc := cc) (maxL := n) (ret := ret) hy rfl ?_
  intro p e s m args below meth c s₁ B hml hv
  obtain ⟨rfl, hsz, hW, hK, hD0, hN⟩ := hv
  have hts := atoms_spec (ws := wsG y cc n ret) B.pre
  have hown : s.vm.findClass C = some m.cls := by rw [← hC]; exact findClass_of_methodNamed B.named
  have hl := lv_entry av (n := n) hlen
  rw [lg_entry_eq]
  exact body p e s m _ below meth c _ rfl B.returns B.notSynchronized ⟨B.exec, B.bytes, hml, hown, fun w hw => hts w (List.mem_cons_of_mem _ hw), hK, hD0.weaken (fun a ha => Or.inl ⟨a, ha, rfl⟩), fun q hq => Or.inr (by rw [← hsz]; exact hq), hN⟩ hW va_S.rf _ hl
section MROWS
variable {p : Program} {l : Launch} {e : Env} {R : Room} {s : State} {m : MethodId} {args : Array Value} {below : List Frame} {meth : Method} {c : Code} {H : Heap} {locs : List Loc} {cells slots : Nat} {Q : State → Prop}
variable {cc : ByteArray} {nL : Nat} {own : String} {D : va_G} {cy : Nat → ClassId} {ad : Nat → Nat} {nm nv : Nat} {A : Nat → Prop} {σ : St} {pc : Nat} {ls : Array Slot} {rest : List Value} {ρ : Type} {r : ρ}
-- numbers
theorem m_const {v : Int} {n : Int} (hx : p.tables.exec = Jvm.exec) (hb : c.code = cc) (hdg : decode cc pc = .ok (.iconst n, 1)) (hv : n = v) (k : W p l e R s m args below meth c H locs cells slots Q (F0 m (pc + 1) ls (.int (i32 v) :: rest))) : W p l e R s m args below meth c H locs cells slots Q (F0 m pc ls rest) := lv_iconst hx hb hdg (by rw [hv]; rfl) k
theorem m_bipush {v : Int} {n : Int} (hx : p.tables.exec = Jvm.exec) (hb : c.code = cc) (hdg : decode cc pc = .ok (.bipush n, 2)) (hv : (Int8.ofInt n).toInt32 = i32 v) (k : W p l e R s m args below meth c H locs cells slots Q (F0 m (pc + 2) ls (.int (i32 v) :: rest))) : W p l e R s m args below meth c H locs cells slots Q (F0 m pc ls rest) := lv_bipush hx hb hdg hv k
theorem m_sipush {v : Int} {n : Int} (hx : p.tables.exec = Jvm.exec) (hb : c.code = cc) (hdg : decode cc pc = .ok (.sipush n, 3)) (hv : (Int16.ofInt n).toInt32 = i32 v) (k : W p l e R s m args below meth c H locs cells slots Q (F0 m (pc + 3) ls (.int (i32 v) :: rest))) : W p l e R s m args below meth c H locs cells slots Q (F0 m pc ls rest) := lv_sipush hx hb hdg hv k
theorem ck_of {v : Int} {k : Int → Option ρ} (h : ck v k = some r) : inR v ∧ k v = some r := by
  unfold ck at h; split at h
  · exact ⟨by assumption, h⟩
  · cases h
theorem m_iadd {x y : Int} {k : Int → Option ρ} (hx : p.tables.exec = Jvm.exec) (hb : c.code = cc) (hf : ck (x + y) k = some r) (hdg : decode cc pc = .ok (.iadd, 1)) (kk : ∀ v, inR v → k v = some r → W p l e R s m args below meth c H locs cells slots Q (F0 m (pc + 1) ls (.int (i32 v) :: rest))) : W p l e R s m args below meth c H locs cells slots Q (F0 m pc ls (.int (i32 y) :: .int (i32 x) :: rest)) := lv_iadd hx hb hdg (by rw [i32_add]; exact kk _ (ck_of hf).1 (ck_of hf).2)
theorem m_isub {x y : Int} {k : Int → Option ρ} (hx : p.tables.exec = Jvm.exec) (hb : c.code = cc) (hf : ck (x - y) k = some r) (hdg : decode cc pc = .ok (.isub, 1)) (kk : ∀ v, inR v → k v = some r → W p l e R s m args below meth c H locs cells slots Q (F0 m (pc + 1) ls (.int (i32 v) :: rest))) : W p l e R s m args below meth c H locs cells slots Q (F0 m pc ls (.int (i32 y) :: .int (i32 x) :: rest)) := lv_isub hx hb hdg (by rw [i32_sub]; exact kk _ (ck_of hf).1 (ck_of hf).2)
theorem m_isubW {x y : Int} {k : Int → Option ρ} (hx : p.tables.exec = Jvm.exec) (hb : c.code = cc) (hf : vl (i32 (x - y)).toInt k = some r) (hdg : decode cc pc = .ok (.isub, 1)) (kk : ∀ v, inR v → k v = some r → W p l e R s m args below meth c H locs cells slots Q (F0 m (pc + 1) ls (.int (i32 v) :: rest))) : W p l e R s m args below meth c H locs cells slots Q (F0 m pc ls (.int (i32 y) :: .int (i32 x) :: rest)) := lv_isub hx hb hdg (by rw [i32_sub]; have := kk _ (i32_inR _) hf; rw [i32_of] at this; exact this)
theorem m_imul {x y : Int} {k : Int → Option ρ} (hx : p.tables.exec = Jvm.exec) (hb : c.code = cc) (hf : ck (x * y) k = some r) (hdg : decode cc pc = .ok (.imul, 1)) (kk : ∀ v, inR v → k v = some r → W p l e R s m args below meth c H locs cells slots Q (F0 m (pc + 1) ls (.int (i32 v) :: rest))) : W p l e R s m args below meth c H locs cells slots Q (F0 m pc ls (.int (i32 y) :: .int (i32 x) :: rest)) := lv_imul hx hb hdg (by rw [i32_mul]; exact kk _ (ck_of hf).1 (ck_of hf).2)
theorem m_ineg {x : Int} {k : Int → Option ρ} (hx : p.tables.exec = Jvm.exec) (hb : c.code = cc) (hf : ck (-x) k = some r) (hdg : decode cc pc = .ok (.ineg, 1)) (kk : ∀ v, inR v → k v = some r → W p l e R s m args below meth c H locs cells slots Q (F0 m (pc + 1) ls (.int (i32 v) :: rest))) : W p l e R s m args below meth c H locs cells slots Q (F0 m pc ls (.int (i32 x) :: rest)) := lv_ineg hx hb hdg (by rw [i32_neg]; exact kk _ (ck_of hf).1 (ck_of hf).2)
theorem m_iinc {x : Int} {i k0 : Nat} {n : Int} {k : Int → Option ρ} {lv : List (Nat × Value)} (lv' : Int → List (Nat × Value)) (hx : p.tables.exec = Jvm.exec) (hb : c.code = cc) (hf : ck (x + n) k = some r) (hdg : decode cc pc = .ok (.iinc i n, 3)) (h : lv_has ls nL lv) (hk : lv[k0]? = some (i, .int (i32 x))) (hn : i < nL) (hl : ∀ v : Int, (i, Value.int (i32 v)) :: lv.filter (fun q => !(q.1 == i) && !(q.1 + 1 == i && q.2.category == 2)) = lv' v)
    (kk : ∀ (v : Int) (ls' : Array Slot), inR v → k v = some r → lv_has ls' nL (lv' v) → W p l e R s m args below meth c H locs cells slots Q (F0 m (pc + 3) ls' rest)) : W p l e R s m args below meth c H locs cells slots Q (F0 m pc ls rest) := lv_iinc (v := i32 (x + n)) hx hb hdg h hk (by rw [show Int32.ofInt n = i32 n from rfl, i32_add]) hn (hl _) (fun ls' h' => kk _ ls' (ck_of hf).1 (ck_of hf).2 h')
theorem m_iand {x y : Int} {k : Int → Option ρ} (hx : p.tables.exec = Jvm.exec) (hb : c.code = cc) (hf : vl (band x y) k = some r) (hdg : decode cc pc = .ok (.iand, 1)) (kk : ∀ v, inR v → k v = some r → W p l e R s m args below meth c H locs cells slots Q (F0 m (pc + 1) ls (.int (i32 v) :: rest))) : W p l e R s m args below meth c H locs cells slots Q (F0 m pc ls (.int (i32 y) :: .int (i32 x) :: rest)) := lv_iand hx hb hdg (by have := kk _ (i32_inR _) hf; rw [i32_of] at this; exact this)
theorem m_ior {x y : Int} {k : Int → Option ρ} (hx : p.tables.exec = Jvm.exec) (hb : c.code = cc) (hf : vl (bor x y) k = some r) (hdg : decode cc pc = .ok (.ior, 1)) (kk : ∀ v, inR v → k v = some r → W p l e R s m args below meth c H locs cells slots Q (F0 m (pc + 1) ls (.int (i32 v) :: rest))) : W p l e R s m args below meth c H locs cells slots Q (F0 m pc ls (.int (i32 y) :: .int (i32 x) :: rest)) := lv_ior hx hb hdg (by have := kk _ (i32_inR _) hf; rw [i32_of] at this; exact this)
theorem m_ixor {x y : Int} {k : Int → Option ρ} (hx : p.tables.exec = Jvm.exec) (hb : c.code = cc) (hf : vl (bxor x y) k = some r) (hdg : decode cc pc = .ok (.ixor, 1)) (kk : ∀ v, inR v → k v = some r → W p l e R s m args below meth c H locs cells slots Q (F0 m (pc + 1) ls (.int (i32 v) :: rest))) : W p l e R s m args below meth c H locs cells slots Q (F0 m pc ls (.int (i32 y) :: .int (i32 x) :: rest)) := lv_ixor hx hb hdg (by have := kk _ (i32_inR _) hf; rw [i32_of] at this; exact this)
theorem m_ishl {x y : Int} {k : Int → Option ρ} (hx : p.tables.exec = Jvm.exec) (hb : c.code = cc) (hf : vl (bshl x y) k = some r) (hdg : decode cc pc = .ok (.ishl, 1)) (kk : ∀ v, inR v → k v = some r → W p l e R s m args below meth c H locs cells slots Q (F0 m (pc + 1) ls (.int (i32 v) :: rest))) : W p l e R s m args below meth c H locs cells slots Q (F0 m pc ls (.int (i32 y) :: .int (i32 x) :: rest)) := lv_ishl hx hb hdg (by have := kk _ (i32_inR _) hf; rw [i32_of] at this; exact this)
theorem m_ishr {x y : Int} {k : Int → Option ρ} (hx : p.tables.exec = Jvm.exec) (hb : c.code = cc) (hf : vl (bshr x y) k = some r) (hdg : decode cc pc = .ok (.ishr, 1)) (kk : ∀ v, inR v → k v = some r → W p l e R s m args below meth c H locs cells slots Q (F0 m (pc + 1) ls (.int (i32 v) :: rest))) : W p l e R s m args below meth c H locs cells slots Q (F0 m pc ls (.int (i32 y) :: .int (i32 x) :: rest)) := lv_ishr hx hb hdg (by have := kk _ (i32_inR _) hf; rw [i32_of] at this; exact this)
theorem nI_i32 (k : Nat) : nI k = i32 (k : Int) := by
  unfold nI i32
  first | rfl | exact (Int32.ofInt_eq_ofNat).symm | exact Int32.ofNat_eq_ofInt k | (apply Int32.toBitVec_inj.mp; simp) | simp
theorem i32_c (x : Int) : ((i32 x).toUInt32 % 65536).toInt32 = i32 (x % 65536) := by
  rw [pk_char, nI_i32]
  congr 1
  have h : (i32 x).toBitVec = BitVec.ofInt 32 x := rfl
  rw [h, BitVec.toNat_ofInt]
  omega
theorem m_i2c {x : Int} {k : Int → Option ρ} (hx : p.tables.exec = Jvm.exec) (hb : c.code = cc) (hf : vl (x % 65536) k = some r) (hdg : decode cc pc = .ok (.i2c, 1)) (kk : ∀ v, inR v → 0 ≤ v ∧ v < 65536 → k v = some r → W p l e R s m args below meth c H locs cells slots Q (F0 m (pc + 1) ls (.int (i32 v) :: rest))) : W p l e R s m args below meth c H locs cells slots Q (F0 m pc ls (.int (i32 x) :: rest)) := lv_i2c hx hb hdg (i32_c x) (kk _ ⟨by omega, by omega⟩ ⟨by omega, by omega⟩ hf)
-- branches
theorem z0 : inR 0 := by decide
theorem i32_0 : (0 : Int32) = i32 0 := rfl
theorem m_if_eq {x : Int} {A B : Option ρ} {off : Int} {tgt : Nat} (hx : p.tables.exec = Jvm.exec) (hb : c.code = cc) (h1 : inR x) (hf : (if x = 0 then A else B) = some r) (hdg : decode cc pc = .ok (.ifCond .eq off, 3)) (ht : (pc : Int) + off = (tgt : Int)) (kt : A = some r → W p l e R s m args below meth c H locs cells slots Q (F0 m tgt ls rest)) (kf : B = some r → W p l e R s m args below meth c H locs cells slots Q (F0 m (pc + 3) ls rest)) : W p l e R s m args below meth c H locs cells slots Q (F0 m pc ls (.int (i32 x) :: rest)) := by
  refine lv_if_eq hx hb hdg ht (fun q => ?_) (fun q => ?_)
  · exact kt (by rw [if_pos ((i32_eq h1 z0).mp q)] at hf; exact hf)
  · exact kf (by rw [if_neg (fun e => q ((i32_eq h1 z0).mpr e))] at hf; exact hf)
theorem m_icmp_eq {x y : Int} {A B : Option ρ} {off : Int} {tgt : Nat} (hx : p.tables.exec = Jvm.exec) (hb : c.code = cc) (h1 : inR x) (h2 : inR y) (hf : (if x = y then A else B) = some r) (hdg : decode cc pc = .ok (.if_icmp .eq off, 3)) (ht : (pc : Int) + off = (tgt : Int)) (kt : A = some r → W p l e R s m args below meth c H locs cells slots Q (F0 m tgt ls rest)) (kf : B = some r → W p l e R s m args below meth c H locs cells slots Q (F0 m (pc + 3) ls rest)) : W p l e R s m args below meth c H locs cells slots Q (F0 m pc ls (.int (i32 y) :: .int (i32 x) :: rest)) := by
  refine lv_icmp_eq hx hb hdg ht (fun q => ?_) (fun q => ?_)
  · exact kt (by rw [if_pos ((i32_eq h1 h2).mp q)] at hf; exact hf)
  · exact kf (by rw [if_neg (fun e => q ((i32_eq h1 h2).mpr e))] at hf; exact hf)
theorem m_if_ne {x : Int} {A B : Option ρ} {off : Int} {tgt : Nat} (hx : p.tables.exec = Jvm.exec) (hb : c.code = cc) (h1 : inR x) (hf : (if x ≠ 0 then A else B) = some r) (hdg : decode cc pc = .ok (.ifCond .ne off, 3)) (ht : (pc : Int) + off = (tgt : Int)) (kt : A = some r → W p l e R s m args below meth c H locs cells slots Q (F0 m tgt ls rest)) (kf : B = some r → W p l e R s m args below meth c H locs cells slots Q (F0 m (pc + 3) ls rest)) : W p l e R s m args below meth c H locs cells slots Q (F0 m pc ls (.int (i32 x) :: rest)) := by
  refine lv_if_ne hx hb hdg ht (fun q => ?_) (fun q => ?_)
  · exact kt (by rw [if_pos (fun e => q ((i32_eq h1 z0).mpr e))] at hf; exact hf)
  · exact kf (by rw [if_neg (fun e => e ((i32_eq h1 z0).mp q))] at hf; exact hf)
theorem m_icmp_ne {x y : Int} {A B : Option ρ} {off : Int} {tgt : Nat} (hx : p.tables.exec = Jvm.exec) (hb : c.code = cc) (h1 : inR x) (h2 : inR y) (hf : (if x ≠ y then A else B) = some r) (hdg : decode cc pc = .ok (.if_icmp .ne off, 3)) (ht : (pc : Int) + off = (tgt : Int)) (kt : A = some r → W p l e R s m args below meth c H locs cells slots Q (F0 m tgt ls rest)) (kf : B = some r → W p l e R s m args below meth c H locs cells slots Q (F0 m (pc + 3) ls rest)) : W p l e R s m args below meth c H locs cells slots Q (F0 m pc ls (.int (i32 y) :: .int (i32 x) :: rest)) := by
  refine lv_icmp_ne hx hb hdg ht (fun q => ?_) (fun q => ?_)
  · exact kt (by rw [if_pos (fun e => q ((i32_eq h1 h2).mpr e))] at hf; exact hf)
  · exact kf (by rw [if_neg (fun e => e ((i32_eq h1 h2).mp q))] at hf; exact hf)
theorem m_if_lt {x : Int} {A B : Option ρ} {off : Int} {tgt : Nat} (hx : p.tables.exec = Jvm.exec) (hb : c.code = cc) (h1 : inR x) (hf : (if x < 0 then A else B) = some r) (hdg : decode cc pc = .ok (.ifCond .lt off, 3)) (ht : (pc : Int) + off = (tgt : Int)) (kt : A = some r → W p l e R s m args below meth c H locs cells slots Q (F0 m tgt ls rest)) (kf : B = some r → W p l e R s m args below meth c H locs cells slots Q (F0 m (pc + 3) ls rest)) : W p l e R s m args below meth c H locs cells slots Q (F0 m pc ls (.int (i32 x) :: rest)) := by
  refine lv_if_lt hx hb hdg ht (fun q => ?_) (fun q => ?_)
  · exact kt (by rw [if_pos ((i32_lt h1 z0).mp q)] at hf; exact hf)
  · exact kf (by rw [if_neg (fun e => q ((i32_lt h1 z0).mpr e))] at hf; exact hf)
theorem m_icmp_lt {x y : Int} {A B : Option ρ} {off : Int} {tgt : Nat} (hx : p.tables.exec = Jvm.exec) (hb : c.code = cc) (h1 : inR x) (h2 : inR y) (hf : (if x < y then A else B) = some r) (hdg : decode cc pc = .ok (.if_icmp .lt off, 3)) (ht : (pc : Int) + off = (tgt : Int)) (kt : A = some r → W p l e R s m args below meth c H locs cells slots Q (F0 m tgt ls rest)) (kf : B = some r → W p l e R s m args below meth c H locs cells slots Q (F0 m (pc + 3) ls rest)) : W p l e R s m args below meth c H locs cells slots Q (F0 m pc ls (.int (i32 y) :: .int (i32 x) :: rest)) := by
  refine lv_icmp_lt hx hb hdg ht (fun q => ?_) (fun q => ?_)
  · exact kt (by rw [if_pos ((i32_lt h1 h2).mp q)] at hf; exact hf)
  · exact kf (by rw [if_neg (fun e => q ((i32_lt h1 h2).mpr e))] at hf; exact hf)
theorem m_if_ge {x : Int} {A B : Option ρ} {off : Int} {tgt : Nat} (hx : p.tables.exec = Jvm.exec) (hb : c.code = cc) (h1 : inR x) (hf : (if 0 ≤ x then A else B) = some r) (hdg : decode cc pc = .ok (.ifCond .ge off, 3)) (ht : (pc : Int) + off = (tgt : Int)) (kt : A = some r → W p l e R s m args below meth c H locs cells slots Q (F0 m tgt ls rest)) (kf : B = some r → W p l e R s m args below meth c H locs cells slots Q (F0 m (pc + 3) ls rest)) : W p l e R s m args below meth c H locs cells slots Q (F0 m pc ls (.int (i32 x) :: rest)) := by
  refine lv_if_ge hx hb hdg ht (fun q => ?_) (fun q => ?_)
  · exact kt (by rw [if_pos ((i32_le z0 h1).mp q)] at hf; exact hf)
  · exact kf (by rw [if_neg (fun e => q ((i32_le z0 h1).mpr e))] at hf; exact hf)
theorem m_icmp_ge {x y : Int} {A B : Option ρ} {off : Int} {tgt : Nat} (hx : p.tables.exec = Jvm.exec) (hb : c.code = cc) (h1 : inR x) (h2 : inR y) (hf : (if y ≤ x then A else B) = some r) (hdg : decode cc pc = .ok (.if_icmp .ge off, 3)) (ht : (pc : Int) + off = (tgt : Int)) (kt : A = some r → W p l e R s m args below meth c H locs cells slots Q (F0 m tgt ls rest)) (kf : B = some r → W p l e R s m args below meth c H locs cells slots Q (F0 m (pc + 3) ls rest)) : W p l e R s m args below meth c H locs cells slots Q (F0 m pc ls (.int (i32 y) :: .int (i32 x) :: rest)) := by
  refine lv_icmp_ge hx hb hdg ht (fun q => ?_) (fun q => ?_)
  · exact kt (by rw [if_pos ((i32_le h2 h1).mp q)] at hf; exact hf)
  · exact kf (by rw [if_neg (fun e => q ((i32_le h2 h1).mpr e))] at hf; exact hf)
theorem m_if_gt {x : Int} {A B : Option ρ} {off : Int} {tgt : Nat} (hx : p.tables.exec = Jvm.exec) (hb : c.code = cc) (h1 : inR x) (hf : (if 0 < x then A else B) = some r) (hdg : decode cc pc = .ok (.ifCond .gt off, 3)) (ht : (pc : Int) + off = (tgt : Int)) (kt : A = some r → W p l e R s m args below meth c H locs cells slots Q (F0 m tgt ls rest)) (kf : B = some r → W p l e R s m args below meth c H locs cells slots Q (F0 m (pc + 3) ls rest)) : W p l e R s m args below meth c H locs cells slots Q (F0 m pc ls (.int (i32 x) :: rest)) := by
  refine lv_if_gt hx hb hdg ht (fun q => ?_) (fun q => ?_)
  · exact kt (by rw [if_pos ((i32_lt z0 h1).mp q)] at hf; exact hf)
  · exact kf (by rw [if_neg (fun e => q ((i32_lt z0 h1).mpr e))] at hf; exact hf)
theorem m_icmp_gt {x y : Int} {A B : Option ρ} {off : Int} {tgt : Nat} (hx : p.tables.exec = Jvm.exec) (hb : c.code = cc) (h1 : inR x) (h2 : inR y) (hf : (if y < x then A else B) = some r) (hdg : decode cc pc = .ok (.if_icmp .gt off, 3)) (ht : (pc : Int) + off = (tgt : Int)) (kt : A = some r → W p l e R s m args below meth c H locs cells slots Q (F0 m tgt ls rest)) (kf : B = some r → W p l e R s m args below meth c H locs cells slots Q (F0 m (pc + 3) ls rest)) : W p l e R s m args below meth c H locs cells slots Q (F0 m pc ls (.int (i32 y) :: .int (i32 x) :: rest)) := by
  refine lv_icmp_gt hx hb hdg ht (fun q => ?_) (fun q => ?_)
  · exact kt (by rw [if_pos ((i32_lt h2 h1).mp q)] at hf; exact hf)
  · exact kf (by rw [if_neg (fun e => q ((i32_lt h2 h1).mpr e))] at hf; exact hf)
theorem m_if_le {x : Int} {A B : Option ρ} {off : Int} {tgt : Nat} (hx : p.tables.exec = Jvm.exec) (hb : c.code = cc) (h1 : inR x) (hf : (if x ≤ 0 then A else B) = some r) (hdg : decode cc pc = .ok (.ifCond .le off, 3)) (ht : (pc : Int) + off = (tgt : Int)) (kt : A = some r → W p l e R s m args below meth c H locs cells slots Q (F0 m tgt ls rest)) (kf : B = some r → W p l e R s m args below meth c H locs cells slots Q (F0 m (pc + 3) ls rest)) : W p l e R s m args below meth c H locs cells slots Q (F0 m pc ls (.int (i32 x) :: rest)) := by
  refine lv_if_le hx hb hdg ht (fun q => ?_) (fun q => ?_)
  · exact kt (by rw [if_pos ((i32_le h1 z0).mp q)] at hf; exact hf)
  · exact kf (by rw [if_neg (fun e => q ((i32_le h1 z0).mpr e))] at hf; exact hf)
theorem m_icmp_le {x y : Int} {A B : Option ρ} {off : Int} {tgt : Nat} (hx : p.tables.exec = Jvm.exec) (hb : c.code = cc) (h1 : inR x) (h2 : inR y) (hf : (if x ≤ y then A else B) = some r) (hdg : decode cc pc = .ok (.if_icmp .le off, 3)) (ht : (pc : Int) + off = (tgt : Int)) (kt : A = some r → W p l e R s m args below meth c H locs cells slots Q (F0 m tgt ls rest)) (kf : B = some r → W p l e R s m args below meth c H locs cells slots Q (F0 m (pc + 3) ls rest)) : W p l e R s m args below meth c H locs cells slots Q (F0 m pc ls (.int (i32 y) :: .int (i32 x) :: rest)) := by
  refine lv_icmp_le hx hb hdg ht (fun q => ?_) (fun q => ?_)
  · exact kt (by rw [if_pos ((i32_le h1 h2).mp q)] at hf; exact hf)
  · exact kf (by rw [if_neg (fun e => q ((i32_le h1 h2).mpr e))] at hf; exact hf)
-- memory
theorem rd_of {a n : Nat} {i : Int} {k : Int → Option ρ} (h : rd σ a n i k = some r) : (0 ≤ i ∧ i < (n : Int)) ∧ k (σ a i.toNat) = some r := by
  unfold rd at h; split at h
  · exact ⟨by assumption, h⟩
  · cases h
theorem wr_of {a n : Nat} {i v : Int} {k : St → Option ρ} (h : wr σ a n i v k = some r) : (0 ≤ i ∧ i < (n : Int)) ∧ k (st σ a i.toNat v) = some r := by
  unfold wr at h; split at h
  · exact ⟨by assumption, h⟩
  · cases h
theorem wrb_of {a n : Nat} {i v : Int} {k : St → Option ρ} (h : wrb σ a n i v k = some r) : ((0 ≤ i ∧ i < (n : Int)) ∧ isB v) ∧ k (st σ a i.toNat v) = some r := by
  unfold wrb at h; split at h
  · exact ⟨by assumption, h⟩
  · cases h
theorem pfb_of {a i : Nat} {v : Int} {k : St → Option ρ} (h : pfb σ a i v k = some r) : isB v ∧ k (st σ a i v) = some r := by
  unfold pfb at h; split at h
  · exact ⟨by assumption, h⟩
  · cases h
theorem m_iald {id n : Nat} {i : Int} {k : Int → Option ρ} (X : Cx p s m args c cc nL own D cy ad nm nv A) (hW : Wd D cy ad nm nv σ H) (ha : arrOK nm nv id 1 n) (hi : inR i) (hf : rd σ id n i k = some r) (hdg : decode cc pc = .ok (.iaload, 1))
    (kk : ∀ v, inR v → k v = some r → W p l e R s m args below meth c H locs cells slots Q (F0 m (pc + 1) ls (.int (i32 v) :: rest))) : W p l e R s m args below meth c H locs cells slots Q (F0 m pc ls (.int (i32 i) :: .ref (ad id) :: rest)) := by
  obtain ⟨hx, hb, -, -, -, hK, -⟩ := X
  obtain ⟨hm, hk, hl⟩ := ha
  obtain ⟨q0, hq⟩ := List.getElem?_of_mem hm
  have hw := wl_at (cy := cy) (ad := ad) (σ := σ) hq
  rw [ent_1 hk hl] at hw
  obtain ⟨hc, hf⟩ := rd_of hf
  exact va_iald hx hb hK hW.1 q0 0 hw rfl ((i32_in hi).mpr hc) hdg (by rw [i32_clamp hi]; exact kk _ (hW.2.1 _ _) hf)
theorem m_zald {id n : Nat} {i : Int} {k : Int → Option ρ} (X : Cx p s m args c cc nL own D cy ad nm nv A) (hW : Wd D cy ad nm nv σ H) (ha : arrOK nm nv id 2 n) (hi : inR i) (hf : rd σ id n i k = some r) (hdg : decode cc pc = .ok (.baload, 1))
    (kk : ∀ v, inR v → k v = some r → W p l e R s m args below meth c H locs cells slots Q (F0 m (pc + 1) ls (.int (i32 v) :: rest))) : W p l e R s m args below meth c H locs cells slots Q (F0 m pc ls (.int (i32 i) :: .ref (ad id) :: rest)) := by
  obtain ⟨hx, hb, -, -, -, hK, -⟩ := X
  obtain ⟨hm, hk, hl⟩ := ha
  obtain ⟨q0, hq⟩ := List.getElem?_of_mem hm
  have hw := wl_at (cy := cy) (ad := ad) (σ := σ) hq
  rw [ent_2 hk hl] at hw
  obtain ⟨hc, hf⟩ := rd_of hf
  exact va_zald hx hb hK hW.1 q0 1 hw rfl ((i32_in hi).mpr hc) hdg (by rw [i32_clamp hi]; exact kk _ (hW.2.1 _ _) hf)
theorem Wd.put {id i kx : Nat} {v : Int} {H1 : Heap} {q0 : Nat} {x : va_E} (hW : Wd D cy ad nm nv σ H) (hD : Dd A ad nm nv) (hq : (idl nm nv)[q0]? = some id) (hk : kd id = kx) (h5 : kx ≠ 5) (h6 : kx ≠ 6) (hv : inR v) (he : ent cy ad (st σ id i v) id = x) (hP : va_P D vwCl ((wl cy ad nm nv σ).set q0 (ad id, x)) H1) : Wd D cy ad nm nv (st σ id i v) H1 := by
  rw [wl_set hD hq he st_other] at hP
  exact ⟨hP, st_inR hW.2.1 hv, st_gh hk h5 h6 (Or.inl rfl) hW.2.2.1, st_gh hk h5 h6 (Or.inr rfl) hW.2.2.2⟩
theorem upd_st {id i : Nat} {v : Int} : upd (fun j => i32 (σ id j)) i (i32 v) = fun j => i32 (st σ id i v id j) := by
  funext j
  unfold upd
  rw [st_row]
  split <;> rfl
theorem m_iast {id n : Nat} {i v : Int} {k : St → Option ρ} (X : Cx p s m args c cc nL own D cy ad nm nv A) (hW : Wd D cy ad nm nv σ H) (hS : va_S A s.heap H locs) (ha : arrOK nm nv id 1 n) (hi : inR i) (hv : inR v) (hf : wr σ id n i v k = some r) (hdg : decode cc pc = .ok (.iastore, 1))
    (kk : ∀ (σ2 : St) (H1 : Heap) (locs1 : List Loc), Wd D cy ad nm nv σ2 H1 → va_S A s.heap H1 locs1 → k σ2 = some r → W p l e R s m args below meth c H1 locs1 cells slots Q (F0 m (pc + 1) ls rest)) : W p l e R s m args below meth c H locs cells slots Q (F0 m pc ls (.int (i32 v) :: .int (i32 i) :: .ref (ad id) :: rest)) := by
  obtain ⟨hx, hb, -, -, -, hK, hD, -⟩ := X
  obtain ⟨hm, hk, hl⟩ := ha
  obtain ⟨q0, hq⟩ := List.getElem?_of_mem hm
  have hw := wl_at (cy := cy) (ad := ad) (σ := σ) hq
  rw [ent_1 hk hl] at hw
  obtain ⟨hc, hf⟩ := wr_of hf
  refine va_iast hx hb hK hW.1 hD.va hS q0 0 hw rfl ((i32_in hi).mpr hc) hdg (fun H1 locs1 hP _ hS1 => ?_)
  rw [i32_clamp hi, upd_st] at hP
  exact kk _ H1 locs1 (hW.put hD hq hk (by decide) (by decide) hv (ent_1 hk hl) hP) hS1 hf
theorem nar_b {v : Int} (h : isB v) : narrow .boolean (.int (i32 v)) = .int (i32 v) ∧ fits .boolean (.int (i32 v)) = true := by
  rcases h with rfl | rfl <;> exact ⟨by decide, by decide⟩
theorem m_zast {id n : Nat} {i v : Int} {k : St → Option ρ} (X : Cx p s m args c cc nL own D cy ad nm nv A) (hW : Wd D cy ad nm nv σ H) (hS : va_S A s.heap H locs) (ha : arrOK nm nv id 2 n) (hi : inR i) (hv : inR v) (hf : wrb σ id n i v k = some r) (hdg : decode cc pc = .ok (.bastore, 1))
    (kk : ∀ (σ2 : St) (H1 : Heap) (locs1 : List Loc), Wd D cy ad nm nv σ2 H1 → va_S A s.heap H1 locs1 → k σ2 = some r → W p l e R s m args below meth c H1 locs1 cells slots Q (F0 m (pc + 1) ls rest)) : W p l e R s m args below meth c H locs cells slots Q (F0 m pc ls (.int (i32 v) :: .int (i32 i) :: .ref (ad id) :: rest)) := by
  obtain ⟨hx, hb, -, -, -, hK, hD, -⟩ := X
  obtain ⟨hm, hk, hl⟩ := ha
  obtain ⟨q0, hq⟩ := List.getElem?_of_mem hm
  have hw := wl_at (cy := cy) (ad := ad) (σ := σ) hq
  rw [ent_2 hk hl] at hw
  obtain ⟨hc, hf⟩ := wrb_of hf
  refine va_zast hx hb hK hW.1 hD.va hS q0 1 hw rfl ((i32_in hi).mpr hc.1) hdg (fun H1 locs1 hP _ hS1 => ?_)
  have hn : vp_nar .boolean (i32 v) = i32 v := by
    unfold vp_nar
    rw [(nar_b hc.2).1]
  rw [hn, i32_clamp hi, upd_st] at hP
  exact kk _ H1 locs1 (hW.put hD hq hk (by decide) (by decide) hv (ent_2 hk hl) hP) hS1 hf
theorem m_alen {v : Int} {id kx n : Nat} {x : vp_A} {cA : ClassId} {ty : FieldType} (t0 : Nat) (X : Cx p s m args c cc nL own D cy ad nm nv A) (hW : Wd D cy ad nm nv σ H) (ha : arrOK nm nv id kx n) (he : kd id = kx → ln id = n → ent cy ad σ id = .inl (cA, x)) (hn : x.1 = n) (hv : (n : Int) = v) (ht : (tysC cy)[t0]? = some (cA, ty)) (hdg : decode cc pc = .ok (.arraylength, 1))
    (kk : W p l e R s m args below meth c H locs cells slots Q (F0 m (pc + 1) ls (.int (i32 v) :: rest))) : W p l e R s m args below meth c H locs cells slots Q (F0 m pc ls (.ref (ad id) :: rest)) := by
  subst hv
  obtain ⟨hx, hb, -, -, -, hK, -⟩ := X
  obtain ⟨hm, hk, hl⟩ := ha
  obtain ⟨q0, hq⟩ := List.getElem?_of_mem hm
  have hw := wl_at (cy := cy) (ad := ad) (σ := σ) hq
  rw [he hk hl] at hw
  exact va_alen hx hb hK hW.1 q0 t0 hw ht (v := i32 (n : Int)) (by rw [hn]; exact nI_i32 n) hdg kk
theorem m_get {C ref : String} {T : u_T} {N index id kx ci : Nat} {fs : List Value} (X : Cx p s m args c cc nL own D cy ad nm nv A) (hW : Wd D cy ad nm nv σ H) (hin : ∀ w ∈ u_ws C T N, w ∈ GW) (ho : objOK nm nv id kx) (he : ent cy ad σ id = .inr (ci, fs)) (hc : vwCl[ci]? = some (C, T, N)) (k : Nat) (hk : k < N) (hlink : (Cond.fieldLink own index ref (T k).2.1 (T k).2.2.1).before args s = true) (href : (T k).1 = ref) {v : Value} (hv : fs[k]? = some v) (hdg : decode cc pc = .ok (.getfield index, 3))
    (kk : W p l e R s m args below meth c H locs cells slots Q (F0 m (pc + 3) ls (v :: rest))) : W p l e R s m args below meth c H locs cells slots Q (F0 m pc ls (.ref (ad id) :: rest)) := by
  obtain ⟨hx, hb, -, hown, hG, hK, -⟩ := X
  obtain ⟨q0, hq⟩ := List.getElem?_of_mem ho.1
  have hw := wl_at (cy := cy) (ad := ad) (σ := σ) hq
  rw [he] at hw
  exact va_get hx hb hG hin hown hK hW.1 q0 hw hc k hk hlink (fun x h => by rw [← href]; exact h) hv hdg kk
theorem m_getN {C ref host : String} {T : u_T} {N index id kx ci : Nat} {fs : List Value} (X : Cx p s m args c cc nL own D cy ad nm nv A) (hW : Wd D cy ad nm nv σ H) (hin : ∀ w ∈ u_ws C T N, w ∈ GW) (ho : objOK nm nv id kx) (he : ent cy ad σ id = .inr (ci, fs)) (hc : vwCl[ci]? = some (C, T, N)) (k : Nat) (hk : k < N) (hlink : (Cond.fieldLinkNest own index ref (T k).2.1 (T k).2.2.1 host).before args s = true) (href : (T k).1 = ref) {v : Value} (hv : fs[k]? = some v) (hdg : decode cc pc = .ok (.getfield index, 3))
    (kk : W p l e R s m args below meth c H locs cells slots Q (F0 m (pc + 3) ls (v :: rest))) : W p l e R s m args below meth c H locs cells slots Q (F0 m pc ls (.ref (ad id) :: rest)) := by
  obtain ⟨hx, hb, -, hown, hG, hK, -⟩ := X
  obtain ⟨q0, hq⟩ := List.getElem?_of_mem ho.1
  have hw := wl_at (cy := cy) (ad := ad) (σ := σ) hq
  rw [he] at hw
  exact va_getN hx hb hG hin hown hK hW.1 q0 hw hc k hk hlink (fun x h => by rw [← href]; exact h) hv hdg kk
theorem m_put {C ref : String} {T : u_T} {N index id kx ci : Nat} {fs : List Value} {ty0 : Nat → FieldType} {ty : FieldType} {v : Int} {κ : St → Option ρ} (X : Cx p s m args c cc nL own D cy ad nm nv A) (hW : Wd D cy ad nm nv σ H) (hS : va_S A s.heap H locs) (hin : ∀ w ∈ u_ws C T N, w ∈ GW) (hty : ∀ k, k < N → parseFieldDescriptor (T k).2.2.1 = some (ty0 k)) (hnm : ∀ a, a < N → ∀ b, b < N → a ≠ b → (T a).2.1 ≠ (T b).2.1) (ho : objOK nm nv id kx) (h5 : kx ≠ 5) (h6 : kx ≠ 6) (he : ent cy ad σ id = .inr (ci, fs)) (hc : vwCl[ci]? = some (C, T, N)) (k : Nat) (hk : k < N) (hlink : (Cond.fieldLink own index ref (T k).2.1 (T k).2.2.1).before args s = true) (href : (T k).1 = ref) (hfin : (T k).2.2.2 = false) (hd : parseFieldDescriptor (T k).2.2.1 = some ty) (hn : narrow ty (.int (i32 v)) = .int (i32 v)) (hfit : fits ty (.int (i32 v)) = true) (hl : k < fs.length) (hv : inR v) (he2 : ent cy ad (st σ id k v) id = .inr (ci, fs.set k (.int (i32 v)))) (hf : κ (st σ id k v) = some r) (hdg : decode cc pc = .ok (.putfield index, 3))
    (kk : ∀ (σ2 : St) (H1 : Heap) (locs1 : List Loc), Wd D cy ad nm nv σ2 H1 → va_S A s.heap H1 locs1 → κ σ2 = some r → W p l e R s m args below meth c H1 locs1 cells slots Q (F0 m (pc + 3) ls rest)) : W p l e R s m args below meth c H locs cells slots Q (F0 m pc ls (.int (i32 v) :: .ref (ad id) :: rest)) := by
  obtain ⟨hx, hb, -, hown, hG, hK, hD, -⟩ := X
  obtain ⟨q0, hq⟩ := List.getElem?_of_mem ho.1
  have hw := wl_at (cy := cy) (ad := ad) (σ := σ) hq
  rw [he] at hw
  exact va_put hx hb hG hin ty0 hty hnm hown hK hW.1 hD.va hS q0 hw hc k hk hlink (fun x h => by rw [← href]; exact h) hfin hd hn hfit hl hdg (fun H1 locs1 hP _ hS1 => kk _ H1 locs1 (hW.put hD hq ho.2 h5 h6 hv he2 hP) hS1 hf)
theorem m_putN {C ref host : String} {T : u_T} {N index id kx ci : Nat} {fs : List Value} {ty0 : Nat → FieldType} {ty : FieldType} {v : Int} {κ : St → Option ρ} (X : Cx p s m args c cc nL own D cy ad nm nv A) (hW : Wd D cy ad nm nv σ H) (hS : va_S A s.heap H locs) (hin : ∀ w ∈ u_ws C T N, w ∈ GW) (hty : ∀ k, k < N → parseFieldDescriptor (T k).2.2.1 = some (ty0 k)) (hnm : ∀ a, a < N → ∀ b, b < N → a ≠ b → (T a).2.1 ≠ (T b).2.1) (ho : objOK nm nv id kx) (h5 : kx ≠ 5) (h6 : kx ≠ 6) (he : ent cy ad σ id = .inr (ci, fs)) (hc : vwCl[ci]? = some (C, T, N)) (k : Nat) (hk : k < N) (hlink : (Cond.fieldLinkNest own index ref (T k).2.1 (T k).2.2.1 host).before args s = true) (href : (T k).1 = ref) (hfin : (T k).2.2.2 = false) (hd : parseFieldDescriptor (T k).2.2.1 = some ty) (hn : narrow ty (.int (i32 v)) = .int (i32 v)) (hfit : fits ty (.int (i32 v)) = true) (hl : k < fs.length) (hv : inR v) (he2 : ent cy ad (st σ id k v) id = .inr (ci, fs.set k (.int (i32 v)))) (hf : κ (st σ id k v) = some r) (hdg : decode cc pc = .ok (.putfield index, 3))
    (kk : ∀ (σ2 : St) (H1 : Heap) (locs1 : List Loc), Wd D cy ad nm nv σ2 H1 → va_S A s.heap H1 locs1 → κ σ2 = some r → W p l e R s m args below meth c H1 locs1 cells slots Q (F0 m (pc + 3) ls rest)) : W p l e R s m args below meth c H locs cells slots Q (F0 m pc ls (.int (i32 v) :: .ref (ad id) :: rest)) := by
  obtain ⟨hx, hb, -, hown, hG, hK, hD, -⟩ := X
  obtain ⟨q0, hq⟩ := List.getElem?_of_mem ho.1
  have hw := wl_at (cy := cy) (ad := ad) (σ := σ) hq
  rw [he] at hw
  exact va_putN hx hb hG hin ty0 hty hnm hown hK hW.1 hD.va hS q0 hw hc k hk hlink (fun x h => by rw [← href]; exact h) hfin hd hn hfit hl hdg (fun H1 locs1 hP _ hS1 => kk _ H1 locs1 (hW.put hD hq ho.2 h5 h6 hv he2 hP) hS1 hf)
theorem m_recv {C : String} {T : u_T} {N id kx ci : Nat} {fs : List Value} (X : Cx p s m args c cc nL own D cy ad nm nv A) (hW : Wd D cy ad nm nv σ H) (ho : objOK nm nv id kx) (he : ent cy ad σ id = .inr (ci, fs)) (hc : vwCl[ci]? = some (C, T, N)) : ∃ cell : Cell, H[ad id]? = some cell ∧ cell.vm.isStatics = false ∧ s.vm.findClass C = some cell.cls := by
  obtain ⟨q0, hq⟩ := List.getElem?_of_mem ho.1
  have hw := wl_at (cy := cy) (ad := ad) (σ := σ) hq
  rw [he] at hw
  exact va_recv X.2.2.2.2.2.1 hW.1 hc hw
-- calls: a method of an object (virtual, its own class's), a static one
theorem m_pre {y : MethodName} {As : List Value} (X : Cx p s m args c cc nL own D cy ad nm nv A) (hW : Wd D cy ad nm nv σ H) : ∀ U : State, U.heap = H → s.WarmedH U.vm → va_Pc As (PreW D cy ad nm nv H.size σ) As.toArray U := by
  obtain ⟨-, -, -, -, -, hK, hD, -, hN⟩ := X
  intro U hU hWm
  exact ⟨rfl, by rw [hU], by rw [hU]; exact hW, va_K.moved hWm.alike hK, hD.weaken (fun _ _ => trivial), hN.warm hWm⟩
theorem m_free (X : Cx p s m args c cc nL own D cy ad nm nv A) (hS : va_S A s.heap H locs) : ∀ q, AW ad nm nv H.size q → A q := by
  obtain ⟨-, -, -, -, -, hK, hD, hA, hN⟩ := X
  intro q h
  rcases h with ⟨a, ha, rfl⟩ | h
  · exact hD.2 a ha
  · exact hA q (Nat.le_trans hS.1 h)
theorem m_callVi {C : String} {y : MethodName} {bytes : ByteArray} {maxL index nA : Nat} {ret : Option FieldType} {rm : Room} {z : Bool} {F : Option (Int × St)} {k : Int → St → Option ρ} {As st0 : List Value} {b : Nat} (X : Cx p s m args c cc nL own D cy ad nm nv A) (hW : Wd D cy ad nm nv σ H) (hS : va_S A s.heap H locs) (hsz : ls.size = nL)
    (hg : GoodIn GW (wsV own index C y (wsG y bytes maxL ret))) (hd : y.cls = C ∧ y.cls ≠ "java/lang/invoke/MethodHandle" ∧ y.cls ≠ "java/lang/invoke/VarHandle" ∧ (parseMethodDescriptor y.desc).map (fun d => d.parameters.length) = some nA) (hR : rm.cells = 0 ∧ rm.slots = 0 ∧ rm.frames + 1 ≤ R.frames ∧ 8 + (maxL + 11) + rm.locals ≤ R.locals) (hrec : ∃ cell : Cell, H[b]? = some cell ∧ cell.vm.isStatics = false ∧ s.vm.findClass C = some cell.cls)
    (hM : ∀ v σ2, F = some (v, σ2) → CI l y bytes maxL ret rm (.ref b :: As) D cy ad nm nv H.size σ z v σ2) (hf : b2 F k = some r) (hn : As.length = nA) (hst : st0 = As.reverse ++ .ref b :: rest) (hrest : (rest.map fun v => v.category).sum ≤ 8) (hdg : decode cc pc = .ok (.invokevirtual index, 3)) (hcs : cells ≤ R.cells ∧ slots ≤ R.slots)
    (kk : ∀ (v : Int) (σ2 : St) (H1 : Heap) (locs1 : List Loc), inR v → (z = true → isB v) → Wd D cy ad nm nv σ2 H1 → va_S A s.heap H1 locs1 → k v σ2 = some r → W p l e R s m args below meth c H1 locs1 cells slots Q (F0 m (pc + 3) ls (.int (i32 v) :: rest))) : W p l e R s m args below meth c H locs cells slots Q (F0 m pc ls st0) := by
  cases F with
  | none => cases hf
  | some q =>
    obtain ⟨v, σ2⟩ := q
    have hM := hM v σ2 rfl
    have hfr := m_free X hS
    refine va_calli (va_runV (rest := rest) (As := As) ⟨X.1, X.2.1, X.2.2.1, X.2.2.2.1, X.2.2.2.2.1⟩ hM (cwV nA X.2.2.2.2.1 hg rfl hR.1 hR.2.1 hd hR.2.2) ⟨PreW.blind, hrec, m_pre (y := y) X hW⟩ rfl hn hsz hst (by show 2 * 0 + _ ≤ 8; omega) hdg ⟨hcs.1, hcs.2⟩) hS (fun q _ h => hfr q h) hfr (fun x u t H1 locs1 ht hvm hpost hB _ _ hS1 => ?_)
    obtain ⟨rfl, hin, hz, rfl⟩ := hpost
    have hW1 := hB.1
    rw [ht] at hW1
    exact kk _ _ H1 locs1 hin hz hW1 hS1 hf
theorem m_callVv {C : String} {y : MethodName} {bytes : ByteArray} {maxL index nA : Nat} {ret : Option FieldType} {rm : Room} {F : Option St} {k : St → Option ρ} {As st0 : List Value} {b : Nat} (X : Cx p s m args c cc nL own D cy ad nm nv A) (hW : Wd D cy ad nm nv σ H) (hS : va_S A s.heap H locs) (hsz : ls.size = nL)
    (hg : GoodIn GW (wsV own index C y (wsG y bytes maxL ret))) (hd : y.cls = C ∧ y.cls ≠ "java/lang/invoke/MethodHandle" ∧ y.cls ≠ "java/lang/invoke/VarHandle" ∧ (parseMethodDescriptor y.desc).map (fun d => d.parameters.length) = some nA) (hR : rm.cells = 0 ∧ rm.slots = 0 ∧ rm.frames + 1 ≤ R.frames ∧ 8 + (maxL + 11) + rm.locals ≤ R.locals) (hrec : ∃ cell : Cell, H[b]? = some cell ∧ cell.vm.isStatics = false ∧ s.vm.findClass C = some cell.cls)
    (hM : ∀ σ2, F = some σ2 → CV l y bytes maxL ret rm (.ref b :: As) D cy ad nm nv H.size σ σ2) (hf : b1 F k = some r) (hn : As.length = nA) (hst : st0 = As.reverse ++ .ref b :: rest) (hrest : (rest.map fun v => v.category).sum ≤ 8) (hdg : decode cc pc = .ok (.invokevirtual index, 3)) (hcs : cells ≤ R.cells ∧ slots ≤ R.slots)
    (kk : ∀ (σ2 : St) (H1 : Heap) (locs1 : List Loc), Wd D cy ad nm nv σ2 H1 → va_S A s.heap H1 locs1 → k σ2 = some r → W p l e R s m args below meth c H1 locs1 cells slots Q (F0 m (pc + 3) ls rest)) : W p l e R s m args below meth c H locs cells slots Q (F0 m pc ls st0) := by
  cases F with
  | none => cases hf
  | some σ2 =>
    have hM := hM σ2 rfl
    have hfr := m_free X hS
    refine va_callv (va_runV (rest := rest) (As := As) ⟨X.1, X.2.1, X.2.2.1, X.2.2.2.1, X.2.2.2.2.1⟩ hM (cwV nA X.2.2.2.2.1 hg rfl hR.1 hR.2.1 hd hR.2.2) ⟨PreW.blind, hrec, m_pre (y := y) X hW⟩ rfl hn hsz hst (by show 2 * 0 + _ ≤ 8; omega) hdg ⟨hcs.1, hcs.2⟩) hS (fun q _ h => hfr q h) hfr (fun u t H1 locs1 ht hvm hpost hB _ _ hS1 => ?_)
    obtain rfl := hpost
    have hW1 := hB.1
    rw [ht] at hW1
    exact kk _ H1 locs1 hW1 hS1 hf
theorem m_callSi {y : MethodName} {bytes : ByteArray} {maxL index nA : Nat} {ret : Option FieldType} {rm : Room} {z : Bool} {F : Option (Int × St)} {k : Int → St → Option ρ} {As st0 : List Value} (X : Cx p s m args c cc nL own D cy ad nm nv A) (hW : Wd D cy ad nm nv σ H) (hS : va_S A s.heap H locs) (hsz : ls.size = nL)
    (hg : GoodIn GW (wsS own index y (wsG y bytes maxL ret))) (hd : y.cls = own ∧ y.cls ≠ "java/lang/invoke/MethodHandle" ∧ y.cls ≠ "java/lang/invoke/VarHandle" ∧ (parseMethodDescriptor y.desc).map (fun d => d.parameters.length) = some nA) (hR : rm.cells = 0 ∧ rm.slots = 0 ∧ rm.frames + 1 ≤ R.frames ∧ 8 + (maxL + 11) + rm.locals ≤ R.locals)
    (hM : ∀ v σ2, F = some (v, σ2) → CI l y bytes maxL ret rm As D cy ad nm nv H.size σ z v σ2) (hf : b2 F k = some r) (hn : As.length = nA) (hst : st0 = As.reverse ++ rest) (hrest : (rest.map fun v => v.category).sum ≤ 8) (hdg : decode cc pc = .ok (.invokestatic index, 3)) (hcs : cells ≤ R.cells ∧ slots ≤ R.slots)
    (kk : ∀ (v : Int) (σ2 : St) (H1 : Heap) (locs1 : List Loc), inR v → (z = true → isB v) → Wd D cy ad nm nv σ2 H1 → va_S A s.heap H1 locs1 → k v σ2 = some r → W p l e R s m args below meth c H1 locs1 cells slots Q (F0 m (pc + 3) ls (.int (i32 v) :: rest))) : W p l e R s m args below meth c H locs cells slots Q (F0 m pc ls st0) := by
  cases F with
  | none => cases hf
  | some q =>
    obtain ⟨v, σ2⟩ := q
    have hM := hM v σ2 rfl
    have hfr := m_free X hS
    refine va_calli (va_runS (rest := rest) (As := As) ⟨X.1, X.2.1, X.2.2.1, X.2.2.2.1, X.2.2.2.2.1⟩ hM (cwS nA X.2.2.2.2.1 hg rfl hR.1 hR.2.1 hd hR.2.2) ⟨PreW.blind, m_pre (y := y) X hW⟩ rfl hn hsz hst (by show 2 * 0 + _ ≤ 8; omega) hdg ⟨hcs.1, hcs.2⟩) hS (fun q _ h => hfr q h) hfr (fun x u t H1 locs1 ht hvm hpost hB _ _ hS1 => ?_)
    obtain ⟨rfl, hin, hz, rfl⟩ := hpost
    have hW1 := hB.1
    rw [ht] at hW1
    exact kk _ _ H1 locs1 hin hz hW1 hS1 hf
theorem m_callVi1 {C : String} {y : MethodName} {bytes : ByteArray} {maxL index nA : Nat} {ret : Option FieldType} {rm : Room} {z : Bool} {F : Option Int} {k : Int → Option ρ} {As st0 : List Value} {b : Nat} (X : Cx p s m args c cc nL own D cy ad nm nv A) (hW : Wd D cy ad nm nv σ H) (hS : va_S A s.heap H locs) (hsz : ls.size = nL)
    (hg : GoodIn GW (wsV own index C y (wsG y bytes maxL ret))) (hd : y.cls = C ∧ y.cls ≠ "java/lang/invoke/MethodHandle" ∧ y.cls ≠ "java/lang/invoke/VarHandle" ∧ (parseMethodDescriptor y.desc).map (fun d => d.parameters.length) = some nA) (hR : rm.cells = 0 ∧ rm.slots = 0 ∧ rm.frames + 1 ≤ R.frames ∧ 8 + (maxL + 11) + rm.locals ≤ R.locals) (hrec : ∃ cell : Cell, H[b]? = some cell ∧ cell.vm.isStatics = false ∧ s.vm.findClass C = some cell.cls)
    (hM : ∀ v, F = some v → CI l y bytes maxL ret rm (.ref b :: As) D cy ad nm nv H.size σ z v σ) (hf : b1 F k = some r) (hn : As.length = nA) (hst : st0 = As.reverse ++ .ref b :: rest) (hrest : (rest.map fun v => v.category).sum ≤ 8) (hdg : decode cc pc = .ok (.invokevirtual index, 3)) (hcs : cells ≤ R.cells ∧ slots ≤ R.slots)
    (kk : ∀ (v : Int) (H1 : Heap) (locs1 : List Loc), inR v → (z = true → isB v) → Wd D cy ad nm nv σ H1 → va_S A s.heap H1 locs1 → k v = some r → W p l e R s m args below meth c H1 locs1 cells slots Q (F0 m (pc + 3) ls (.int (i32 v) :: rest))) : W p l e R s m args below meth c H locs cells slots Q (F0 m pc ls st0) := by
  cases F with
  | none => cases hf
  | some q =>
    have hM := hM q rfl
    have hfr := m_free X hS
    refine va_calli (va_runV (rest := rest) (As := As) ⟨X.1, X.2.1, X.2.2.1, X.2.2.2.1, X.2.2.2.2.1⟩ hM (cwV nA X.2.2.2.2.1 hg rfl hR.1 hR.2.1 hd hR.2.2) ⟨PreW.blind, hrec, m_pre (y := y) X hW⟩ rfl hn hsz hst (by show 2 * 0 + _ ≤ 8; omega) hdg ⟨hcs.1, hcs.2⟩) hS (fun q _ h => hfr q h) hfr (fun x u t H1 locs1 ht hvm hpost hB _ _ hS1 => ?_)
    obtain ⟨rfl, hin, hz, rfl⟩ := hpost
    have hW1 := hB.1
    rw [ht] at hW1
    exact kk _ H1 locs1 hin hz hW1 hS1 hf
theorem m_callSi1 {y : MethodName} {bytes : ByteArray} {maxL index nA : Nat} {ret : Option FieldType} {rm : Room} {z : Bool} {F : Option Int} {k : Int → Option ρ} {As st0 : List Value} (X : Cx p s m args c cc nL own D cy ad nm nv A) (hW : Wd D cy ad nm nv σ H) (hS : va_S A s.heap H locs) (hsz : ls.size = nL)
    (hg : GoodIn GW (wsS own index y (wsG y bytes maxL ret))) (hd : y.cls = own ∧ y.cls ≠ "java/lang/invoke/MethodHandle" ∧ y.cls ≠ "java/lang/invoke/VarHandle" ∧ (parseMethodDescriptor y.desc).map (fun d => d.parameters.length) = some nA) (hR : rm.cells = 0 ∧ rm.slots = 0 ∧ rm.frames + 1 ≤ R.frames ∧ 8 + (maxL + 11) + rm.locals ≤ R.locals)
    (hM : ∀ v, F = some v → CI l y bytes maxL ret rm As D cy ad nm nv H.size σ z v σ) (hf : b1 F k = some r) (hn : As.length = nA) (hst : st0 = As.reverse ++ rest) (hrest : (rest.map fun v => v.category).sum ≤ 8) (hdg : decode cc pc = .ok (.invokestatic index, 3)) (hcs : cells ≤ R.cells ∧ slots ≤ R.slots)
    (kk : ∀ (v : Int) (H1 : Heap) (locs1 : List Loc), inR v → (z = true → isB v) → Wd D cy ad nm nv σ H1 → va_S A s.heap H1 locs1 → k v = some r → W p l e R s m args below meth c H1 locs1 cells slots Q (F0 m (pc + 3) ls (.int (i32 v) :: rest))) : W p l e R s m args below meth c H locs cells slots Q (F0 m pc ls st0) := by
  cases F with
  | none => cases hf
  | some q =>
    have hM := hM q rfl
    have hfr := m_free X hS
    refine va_calli (va_runS (rest := rest) (As := As) ⟨X.1, X.2.1, X.2.2.1, X.2.2.2.1, X.2.2.2.2.1⟩ hM (cwS nA X.2.2.2.2.1 hg rfl hR.1 hR.2.1 hd hR.2.2) ⟨PreW.blind, m_pre (y := y) X hW⟩ rfl hn hsz hst (by show 2 * 0 + _ ≤ 8; omega) hdg ⟨hcs.1, hcs.2⟩) hS (fun q _ h => hfr q h) hfr (fun x u t H1 locs1 ht hvm hpost hB _ _ hS1 => ?_)
    obtain ⟨rfl, hin, hz, rfl⟩ := hpost
    have hW1 := hB.1
    rw [ht] at hW1
    exact kk _ H1 locs1 hin hz hW1 hS1 hf
theorem m_callVNi1 {C host : String} {y : MethodName} {bytes : ByteArray} {maxL index nA : Nat} {ret : Option FieldType} {rm : Room} {z : Bool} {F : Option Int} {k : Int → Option ρ} {As st0 : List Value} {b : Nat} (X : Cx p s m args c cc nL own D cy ad nm nv A) (hW : Wd D cy ad nm nv σ H) (hS : va_S A s.heap H locs) (hsz : ls.size = nL)
    (hg : GoodIn GW (wsG y bytes maxL ret)) (hlink : va_Nw (.methodLinkNest own index y host) s) (hini : (Cond.initialized y.cls).before args s = true) (hinst : (Cond.instanceMethod y).before args s = true) (hsel : (Cond.selects C y y).before args s = true) (hd : y.cls ≠ "java/lang/invoke/MethodHandle" ∧ y.cls ≠ "java/lang/invoke/VarHandle" ∧ (parseMethodDescriptor y.desc).map (fun d => d.parameters.length) = some nA) (hR : rm.cells = 0 ∧ rm.slots = 0 ∧ rm.frames + 1 ≤ R.frames ∧ 8 + (maxL + 11) + rm.locals ≤ R.locals) (hrec : ∃ cell : Cell, H[b]? = some cell ∧ cell.vm.isStatics = false ∧ s.vm.findClass C = some cell.cls)
    (hM : ∀ v, F = some v → CI l y bytes maxL ret rm (.ref b :: As) D cy ad nm nv H.size σ z v σ) (hf : b1 F k = some r) (hn : As.length = nA) (hst : st0 = As.reverse ++ .ref b :: rest) (hrest : (rest.map fun v => v.category).sum ≤ 8) (hdg : decode cc pc = .ok (.invokevirtual index, 3)) (hcs : cells ≤ R.cells ∧ slots ≤ R.slots)
    (kk : ∀ (v : Int) (H1 : Heap) (locs1 : List Loc), inR v → (z = true → isB v) → Wd D cy ad nm nv σ H1 → va_S A s.heap H1 locs1 → k v = some r → W p l e R s m args below meth c H1 locs1 cells slots Q (F0 m (pc + 3) ls (.int (i32 v) :: rest))) : W p l e R s m args below meth c H locs cells slots Q (F0 m pc ls st0) := by
  cases F with
  | none => cases hf
  | some q =>
    have hM := hM q rfl
    have hfr := m_free X hS
    refine va_calli (va_runVN (rest := rest) (As := As) ⟨X.1, X.2.1, X.2.2.1, X.2.2.2.1, X.2.2.2.2.1⟩ hM ⟨va_cnB nA X.2.2.2.2.1 hg rfl hR.1 hR.2.1 hlink hini hd hR.2.2, hinst, hsel⟩ ⟨PreW.blind, hrec, m_pre (y := y) X hW⟩ rfl hn hsz hst (by show 2 * 0 + _ ≤ 8; omega) hdg ⟨hcs.1, hcs.2⟩) hS (fun q _ h => hfr q h) hfr (fun x u t H1 locs1 ht hvm hpost hB _ _ hS1 => ?_)
    obtain ⟨rfl, hin, hz, rfl⟩ := hpost
    have hW1 := hB.1
    rw [ht] at hW1
    exact kk _ H1 locs1 hin hz hW1 hS1 hf
theorem m_callSNi1 {host : String} {y : MethodName} {bytes : ByteArray} {maxL index nA : Nat} {ret : Option FieldType} {rm : Room} {z : Bool} {F : Option Int} {k : Int → Option ρ} {As st0 : List Value} (X : Cx p s m args c cc nL own D cy ad nm nv A) (hW : Wd D cy ad nm nv σ H) (hS : va_S A s.heap H locs) (hsz : ls.size = nL)
    (hg : GoodIn GW (wsG y bytes maxL ret)) (hlink : va_Nw (.methodLinkNest own index y host) s) (hini : (Cond.initialized y.cls).before args s = true) (hstat : (Cond.static y).before args s = true) (hd : y.cls ≠ "java/lang/invoke/MethodHandle" ∧ y.cls ≠ "java/lang/invoke/VarHandle" ∧ (parseMethodDescriptor y.desc).map (fun d => d.parameters.length) = some nA) (hR : rm.cells = 0 ∧ rm.slots = 0 ∧ rm.frames + 1 ≤ R.frames ∧ 8 + (maxL + 11) + rm.locals ≤ R.locals)
    (hM : ∀ v, F = some v → CI l y bytes maxL ret rm As D cy ad nm nv H.size σ z v σ) (hf : b1 F k = some r) (hn : As.length = nA) (hst : st0 = As.reverse ++ rest) (hrest : (rest.map fun v => v.category).sum ≤ 8) (hdg : decode cc pc = .ok (.invokestatic index, 3)) (hcs : cells ≤ R.cells ∧ slots ≤ R.slots)
    (kk : ∀ (v : Int) (H1 : Heap) (locs1 : List Loc), inR v → (z = true → isB v) → Wd D cy ad nm nv σ H1 → va_S A s.heap H1 locs1 → k v = some r → W p l e R s m args below meth c H1 locs1 cells slots Q (F0 m (pc + 3) ls (.int (i32 v) :: rest))) : W p l e R s m args below meth c H locs cells slots Q (F0 m pc ls st0) := by
  cases F with
  | none => cases hf
  | some q =>
    have hM := hM q rfl
    have hfr := m_free X hS
    refine va_calli (va_runSN (rest := rest) (As := As) ⟨X.1, X.2.1, X.2.2.1, X.2.2.2.1, X.2.2.2.2.1⟩ hM ⟨va_cnB nA X.2.2.2.2.1 hg rfl hR.1 hR.2.1 hlink hini hd hR.2.2, hstat, trivial⟩ ⟨PreW.blind, m_pre (y := y) X hW⟩ rfl hn hsz hst (by show 2 * 0 + _ ≤ 8; omega) hdg ⟨hcs.1, hcs.2⟩) hS (fun q _ h => hfr q h) hfr (fun x u t H1 locs1 ht hvm hpost hB _ _ hS1 => ?_)
    obtain ⟨rfl, hin, hz, rfl⟩ := hpost
    have hW1 := hB.1
    rw [ht] at hW1
    exact kk _ H1 locs1 hin hz hW1 hS1 hf
theorem i32_max {x y : Int} (hx : inR x) (hy : inR y) : (if i32 x < i32 y then i32 y else i32 x) = i32 (imax x y) := by
  unfold imax
  by_cases h : x < y
  · rw [if_pos h, if_pos ((i32_lt hx hy).mpr h)]
  · rw [if_neg h, if_neg (fun q => h ((i32_lt hx hy).mp q))]
theorem i32_min {x y : Int} (hx : inR x) (hy : inR y) : (if i32 y < i32 x then i32 y else i32 x) = i32 (imin x y) := by
  unfold imin
  by_cases h : y < x
  · rw [if_pos h, if_pos ((i32_lt hy hx).mpr h)]
  · rw [if_neg h, if_neg (fun q => h ((i32_lt hy hx).mp q))]
theorem m_mmax {x y : Int} {k : Int → Option ρ} {index : Nat} (X : Cx p s m args c cc nL own D cy ad nm nv A) (hsz : ls.size = nL) (h1 : inR x) (h2 : inR y) (hf : vl (imax x y) k = some r) (hlink : (Cond.methodLink own index Lib.Math.max.name).before args s = true) (hstat : (Cond.static Lib.Math.max.name).before args s = true) (hini : (Cond.initialized "java/lang/Math").before args s = true) (hcode : (Cond.code Lib.Math.max.name Lib.Math.max.code 2 (some .int)).before args s = true) (hfr : 1 ≤ R.frames) (hlo : (rest.map fun v => v.category).sum + 13 ≤ R.locals) (hcs : cells ≤ R.cells ∧ slots ≤ R.slots) (hdg : decode cc pc = .ok (.invokestatic index, 3))
    (kk : ∀ v, inR v → k v = some r → W p l e R s m args below meth c H locs cells slots Q (F0 m (pc + 3) ls (.int (i32 v) :: rest))) : W p l e R s m args below meth c H locs cells slots Q (F0 m pc ls (.int (i32 y) :: .int (i32 x) :: rest)) :=
  va_mmax X.1 X.2.1 (by rw [X.2.2.1, hsz]) X.2.2.2.1 hlink hstat hini hcode hfr hlo hcs.1 hcs.2 hdg (by rw [i32_max h1 h2]; exact kk _ (by unfold imax; split; exact h2; exact h1) hf)
theorem m_mmin {x y : Int} {k : Int → Option ρ} {index : Nat} (X : Cx p s m args c cc nL own D cy ad nm nv A) (hsz : ls.size = nL) (h1 : inR x) (h2 : inR y) (hf : vl (imin x y) k = some r) (hlink : (Cond.methodLink own index Lib.Math.min.name).before args s = true) (hstat : (Cond.static Lib.Math.min.name).before args s = true) (hini : (Cond.initialized "java/lang/Math").before args s = true) (hcode : (Cond.code Lib.Math.min.name Lib.Math.min.code 2 (some .int)).before args s = true) (hfr : 1 ≤ R.frames) (hlo : (rest.map fun v => v.category).sum + 13 ≤ R.locals) (hcs : cells ≤ R.cells ∧ slots ≤ R.slots) (hdg : decode cc pc = .ok (.invokestatic index, 3))
    (kk : ∀ v, inR v → k v = some r → W p l e R s m args below meth c H locs cells slots Q (F0 m (pc + 3) ls (.int (i32 v) :: rest))) : W p l e R s m args below meth c H locs cells slots Q (F0 m pc ls (.int (i32 y) :: .int (i32 x) :: rest)) :=
  va_mmin X.1 X.2.1 (by rw [X.2.2.1, hsz]) X.2.2.2.1 hlink hstat hini hcode hfr hlo hcs.1 hcs.2 hdg (by rw [i32_min h1 h2]; exact kk _ (by unfold imin; split; exact h2; exact h1) hf)
theorem cp_of {a n : Nat} {sp dp len : Int} {k : St → Option ρ} (h : cp σ a n sp dp len k = some r) : (0 ≤ sp ∧ 0 ≤ dp ∧ 0 ≤ len ∧ sp + len ≤ (n : Int) ∧ dp + len ≤ (n : Int)) ∧ k (cpy σ a sp.toNat dp.toNat len.toNat) = some r := by
  unfold cp at h; split at h
  · exact ⟨by assumption, h⟩
  · cases h
theorem m_copy {id n index : Nat} {sp dp len : Int} {k : St → Option ρ} (X : Cx p s m args c cc nL own D cy ad nm nv A) (hW : Wd D cy ad nm nv σ H) (hS : va_S A s.heap H locs) (hsz : ls.size = nL) (ha : arrOK nm nv id 1 n) (h1 : inR sp) (h2 : inR dp) (h3 : inR len) (hf : cp σ id n sp dp len k = some r) (hlink : (Cond.methodLink own index arraycopyName).before args s = true) (hnat : (Cond.native arraycopyName).before args s = true) (hstat : (Cond.static arraycopyName).before args s = true) (hini : (Cond.initialized "java/lang/System").before args s = true)
    (hframes : 1 ≤ R.frames) (hlocals : (rest.map fun v => v.category).sum + (nativeFrameWords "java/lang/System" "arraycopy" 5 + 11) ≤ R.locals) (hdg : decode cc pc = .ok (.invokestatic index, 3))
    (kk : ∀ (σ2 : St) (H1 : Heap) (locs1 : List Loc), Wd D cy ad nm nv σ2 H1 → va_S A s.heap H1 locs1 → k σ2 = some r → W p l e R s m args below meth c H1 locs1 cells slots Q (F0 m (pc + 3) ls rest)) : W p l e R s m args below meth c H locs cells slots Q (F0 m pc ls (.int (i32 len) :: .int (i32 dp) :: .ref (ad id) :: .int (i32 sp) :: .ref (ad id) :: rest)) := by
  obtain ⟨hx, hb, hml, hown, -, hK, hD, -⟩ := X
  obtain ⟨hm, hk, hl⟩ := ha
  obtain ⟨q0, hq⟩ := List.getElem?_of_mem hm
  have hw := wl_at (cy := cy) (ad := ad) (σ := σ) hq
  rw [ent_1 hk hl] at hw
  obtain ⟨⟨c1, c2, c3, c4, c5⟩, hf⟩ := cp_of hf
  refine va_copyi hx hb (by rw [hml, hsz]) hown hlink hnat hstat hini hK hW.1 hD.va hS q0 q0 0 0 hw hw rfl rfl rfl (fun q => absurd ((i32_lt h1 z0).mp q) (by omega)) (fun q => absurd ((i32_lt h2 z0).mp q) (by omega)) (fun q => absurd ((i32_lt h3 z0).mp q) (by omega)) (by rw [i32_clamp h1, i32_clamp h3]; omega) (by rw [i32_clamp h2, i32_clamp h3]; omega) (fun _ _ => rfl) hframes hlocals hdg (fun H1 locs1 hP _ hS1 => ?_)
  rw [i32_clamp h1, i32_clamp h2, i32_clamp h3] at hP
  have he : ent cy ad (cpy σ id sp.toNat dp.toNat len.toNat) id = .inl (cy 1, n, .inl (va_cpy (fun j => i32 (σ id j)) (fun j => i32 (σ id j)) sp.toNat dp.toNat len.toNat)) := by
    rw [ent_1 hk hl]
    congr 4
    funext j
    unfold cpy va_cpy
    rw [if_pos rfl]
    split <;> rfl
  rw [wl_set hD hq he (fun a j h => if_neg h)] at hP
  refine kk _ H1 locs1 ⟨hP, fun a b => ?_, ?_, ?_⟩ hS1 hf
  · unfold cpy
    split
    · split
      · exact hW.2.1 _ _
      · exact hW.2.1 _ _
    · exact hW.2.1 _ _
  · show (if 2 = id then _ else _) ≤ _
    rw [if_neg (fun h => by rw [← h, kd2] at hk; cases hk)]; exact hW.2.2.1
  · show (if 3 = id then _ else _) ≤ _
    rw [if_neg (fun h => by rw [← h, kd3] at hk; cases hk)]; exact hW.2.2.2
theorem m_aaldM {i : Int} {z : Option ρ} {k : Nat → Option ρ} (X : Cx p s m args c cc nL own D cy ad nm nv A) (hW : Wd D cy ad nm nv σ H) (hi : inR i) (hf : rn i 80 (σ 2 0) (fun j => 300 + 4 * j) z k = some r) (hdg : decode cc pc = .ok (.aaload, 1))
    (kz : z = some r → W p l e R s m args below meth c H locs cells slots Q (F0 m (pc + 1) ls (.null :: rest)))
    (kk : ∀ o, isMsg nm o → k o = some r → W p l e R s m args below meth c H locs cells slots Q (F0 m (pc + 1) ls (.ref (ad o) :: rest))) : W p l e R s m args below meth c H locs cells slots Q (F0 m pc ls (.int (i32 i) :: .ref (ad 2) :: rest)) := by
  obtain ⟨hx, hb, -, -, -, hK, -⟩ := X
  obtain ⟨hm, hk, hl⟩ := a_X5_messages (nm := nm) (nv := nv)
  obtain ⟨q0, hq⟩ := List.getElem?_of_mem hm
  have hw := wl_at (cy := cy) (ad := ad) (σ := σ) hq
  rw [ent_5 hk hl] at hw
  unfold rn at hf
  split at hf
  · rename_i hc
    obtain ⟨j, rfl⟩ : ∃ j : Nat, i = (j : Int) := ⟨i.toNat, by omega⟩
    refine va_aldq hx hb hK hW.1 q0 4 hw rfl ((i32_in hi).mpr hc) hdg ?_
    rw [i32_clamp hi, Int.toNat_natCast]
    rw [Int.toNat_natCast] at hf
    by_cases h : (j : Int) < σ 2 0
    · rw [if_pos h] at hf ⊢
      have h2 := hW.2.2.1
      exact kk _ ⟨j, by omega, by omega, rfl⟩ hf
    · rw [if_neg h] at hf ⊢
      exact kz hf
  · cases hf
theorem m_aaldV {i : Int} {z : Option ρ} {k : Nat → Option ρ} (X : Cx p s m args c cc nL own D cy ad nm nv A) (hW : Wd D cy ad nm nv σ H) (hi : inR i) (hf : rn i 10 (σ 3 0) (fun j => 700 + 2 * j) z k = some r) (hdg : decode cc pc = .ok (.aaload, 1))
    (kz : z = some r → W p l e R s m args below meth c H locs cells slots Q (F0 m (pc + 1) ls (.null :: rest)))
    (kk : ∀ o, isSet nm nv o → k o = some r → W p l e R s m args below meth c H locs cells slots Q (F0 m (pc + 1) ls (.ref (ad o) :: rest))) : W p l e R s m args below meth c H locs cells slots Q (F0 m pc ls (.int (i32 i) :: .ref (ad 3) :: rest)) := by
  obtain ⟨hx, hb, -, -, -, hK, -⟩ := X
  obtain ⟨hm, hk, hl⟩ := a_X5_versions (nm := nm) (nv := nv)
  obtain ⟨q0, hq⟩ := List.getElem?_of_mem hm
  have hw := wl_at (cy := cy) (ad := ad) (σ := σ) hq
  rw [ent_6 hk hl] at hw
  unfold rn at hf
  split at hf
  · rename_i hc
    obtain ⟨j, rfl⟩ : ∃ j : Nat, i = (j : Int) := ⟨i.toNat, by omega⟩
    refine va_aldq hx hb hK hW.1 q0 5 hw rfl ((i32_in hi).mpr hc) hdg ?_
    rw [i32_clamp hi, Int.toNat_natCast]
    rw [Int.toNat_natCast] at hf
    by_cases h : (j : Int) < σ 3 0
    · rw [if_pos h] at hf ⊢
      have h2 := hW.2.2.2
      exact kk _ (Or.inr (Or.inr ⟨j, by omega, by omega, rfl⟩)) hf
    · rw [if_neg h] at hf ⊢
      exact kz hf
  · cases hf
theorem m_callVr {C : String} {y : MethodName} {bytes : ByteArray} {maxL index nA : Nat} {ret : Option FieldType} {rm : Room} {K : Nat → Prop} {F : Option (Nat × St)} {k : Nat → St → Option ρ} {As st0 : List Value} {b : Nat} (X : Cx p s m args c cc nL own D cy ad nm nv A) (hW : Wd D cy ad nm nv σ H) (hS : va_S A s.heap H locs) (hsz : ls.size = nL)
    (hg : GoodIn GW (wsV own index C y (wsG y bytes maxL ret))) (hd : y.cls = C ∧ y.cls ≠ "java/lang/invoke/MethodHandle" ∧ y.cls ≠ "java/lang/invoke/VarHandle" ∧ (parseMethodDescriptor y.desc).map (fun d => d.parameters.length) = some nA) (hR : rm.cells = 0 ∧ rm.slots = 0 ∧ rm.frames + 1 ≤ R.frames ∧ 8 + (maxL + 11) + rm.locals ≤ R.locals) (hrec : ∃ cell : Cell, H[b]? = some cell ∧ cell.vm.isStatics = false ∧ s.vm.findClass C = some cell.cls)
    (hM : ∀ v σ2, F = some (v, σ2) → CA l y bytes maxL ret rm (.ref b :: As) D cy ad nm nv H.size σ K v σ2) (hf : b2 F k = some r) (hn : As.length = nA) (hst : st0 = As.reverse ++ .ref b :: rest) (hrest : (rest.map fun v => v.category).sum ≤ 8) (hdg : decode cc pc = .ok (.invokevirtual index, 3)) (hcs : cells ≤ R.cells ∧ slots ≤ R.slots)
    (kk : ∀ (v : Nat) (σ2 : St) (H1 : Heap) (locs1 : List Loc), K v → Wd D cy ad nm nv σ2 H1 → va_S A s.heap H1 locs1 → k v σ2 = some r → W p l e R s m args below meth c H1 locs1 cells slots Q (F0 m (pc + 3) ls (.ref (ad v) :: rest))) : W p l e R s m args below meth c H locs cells slots Q (F0 m pc ls st0) := by
  cases F with
  | none => cases hf
  | some q =>
    obtain ⟨v, σ2⟩ := q
    have hM := hM v σ2 rfl
    have hfr := m_free X hS
    refine va_callr (va_runV (rest := rest) (As := As) ⟨X.1, X.2.1, X.2.2.1, X.2.2.2.1, X.2.2.2.2.1⟩ hM (cwV nA X.2.2.2.2.1 hg rfl hR.1 hR.2.1 hd hR.2.2) ⟨PreW.blind, hrec, m_pre (y := y) X hW⟩ rfl hn hsz hst (by show 2 * 0 + _ ≤ 8; omega) hdg ⟨hcs.1, hcs.2⟩) hS (fun q _ h => hfr q h) hfr (fun u x t H1 locs1 ht hvm hpost hB _ _ hS1 => ?_)
    obtain rfl := hpost
    obtain ⟨rfl, hKv, hB⟩ := hB
    have hW1 := hB.1
    rw [ht] at hW1
    exact kk _ _ H1 locs1 hKv hW1 hS1 hf
theorem m_callSr {y : MethodName} {bytes : ByteArray} {maxL index nA : Nat} {ret : Option FieldType} {rm : Room} {K : Nat → Prop} {F : Option (Nat × St)} {k : Nat → St → Option ρ} {As st0 : List Value} (X : Cx p s m args c cc nL own D cy ad nm nv A) (hW : Wd D cy ad nm nv σ H) (hS : va_S A s.heap H locs) (hsz : ls.size = nL)
    (hg : GoodIn GW (wsS own index y (wsG y bytes maxL ret))) (hd : y.cls = own ∧ y.cls ≠ "java/lang/invoke/MethodHandle" ∧ y.cls ≠ "java/lang/invoke/VarHandle" ∧ (parseMethodDescriptor y.desc).map (fun d => d.parameters.length) = some nA) (hR : rm.cells = 0 ∧ rm.slots = 0 ∧ rm.frames + 1 ≤ R.frames ∧ 8 + (maxL + 11) + rm.locals ≤ R.locals)
    (hM : ∀ v σ2, F = some (v, σ2) → CA l y bytes maxL ret rm As D cy ad nm nv H.size σ K v σ2) (hf : b2 F k = some r) (hn : As.length = nA) (hst : st0 = As.reverse ++ rest) (hrest : (rest.map fun v => v.category).sum ≤ 8) (hdg : decode cc pc = .ok (.invokestatic index, 3)) (hcs : cells ≤ R.cells ∧ slots ≤ R.slots)
    (kk : ∀ (v : Nat) (σ2 : St) (H1 : Heap) (locs1 : List Loc), K v → Wd D cy ad nm nv σ2 H1 → va_S A s.heap H1 locs1 → k v σ2 = some r → W p l e R s m args below meth c H1 locs1 cells slots Q (F0 m (pc + 3) ls (.ref (ad v) :: rest))) : W p l e R s m args below meth c H locs cells slots Q (F0 m pc ls st0) := by
  cases F with
  | none => cases hf
  | some q =>
    obtain ⟨v, σ2⟩ := q
    have hM := hM v σ2 rfl
    have hfr := m_free X hS
    refine va_callr (va_runS (rest := rest) (As := As) ⟨X.1, X.2.1, X.2.2.1, X.2.2.2.1, X.2.2.2.2.1⟩ hM (cwS nA X.2.2.2.2.1 hg rfl hR.1 hR.2.1 hd hR.2.2) ⟨PreW.blind, m_pre (y := y) X hW⟩ rfl hn hsz hst (by show 2 * 0 + _ ≤ 8; omega) hdg ⟨hcs.1, hcs.2⟩) hS (fun q _ h => hfr q h) hfr (fun u x t H1 locs1 ht hvm hpost hB _ _ hS1 => ?_)
    obtain rfl := hpost
    obtain ⟨rfl, hKv, hB⟩ := hB
    have hW1 := hB.1
    rw [ht] at hW1
    exact kk _ _ H1 locs1 hKv hW1 hS1 hf
-- ends
theorem rb_of {v : Int} {k : Option ρ} (h : rb v k = some r) : isB v ∧ k = some r := by
  unfold rb at h; split at h
  · exact ⟨by assumption, h⟩
  · cases h
theorem rc_of {v : Int} {k : Option ρ} (h : rc v k = some r) : (0 ≤ v ∧ v < 65536) ∧ k = some r := by
  unfold rc at h; split at h
  · exact ⟨by assumption, h⟩
  · cases h
theorem nar_c {v : Int} (h : 0 ≤ v ∧ v < 65536) : narrow .char (.int (i32 v)) = .int (i32 v) := by
  obtain ⟨k, hk⟩ : ∃ k : Nat, v = (k : Int) := ⟨v.toNat, by omega⟩
  subst hk
  rw [← nI_i32]
  exact (pk_charN (by omega)).1
theorem m_ireti {v : Int} {σ2 : St} {ty : FieldType} {z : Bool} (X : Cx p s m args c cc nL own D cy ad nm nv A) (hr : meth.sig.returnType = some ty) (hlocks : meth.locks = false) (hn : narrow ty (.int (i32 v)) = .int (i32 v)) (hv : inR v) (hz : z = true → isB v) (hW : Wd D cy ad nm nv σ H) (hS : va_S A s.heap H locs) {v2 : Int} (hf : v = v2) (hs : σ = σ2) (hQ : MQ below (va_Qi (fun (x : Int32) (u : St) => x = i32 v2 ∧ inR v2 ∧ (z = true → isB v2) ∧ u = σ2) (PostW D cy ad nm nv) A) args s 0 0 A = Q) (hdg : decode cc pc = .ok (.ireturn, 1)) : W p l e R s m args below meth c H locs 0 0 Q (F0 m pc ls [.int (i32 v)]) := by
  subst hf hs hQ
  exact W.zret X.1 X.2.1 hr hn (fun t ht hWm => ⟨⟨i32 v, σ, rfl, ⟨rfl, hv, hz, rfl⟩, by rw [← ht] at hW; exact hW, va_K.moved hWm.alike X.2.2.2.2.2.1⟩, hS.F ht⟩) hS.2.2 hdg hlocks
theorem m_vret {σ2 : St} (X : Cx p s m args c cc nL own D cy ad nm nv A) (hr : meth.sig.returnType = none) (hlocks : meth.locks = false) (hW : Wd D cy ad nm nv σ H) (hS : va_S A s.heap H locs) (hs : σ = σ2) (hQ : MQ below (va_Qv (fun (u : St) => u = σ2) (PostW D cy ad nm nv) A) args s 0 0 A = Q) (hdg : decode cc pc = .ok (.return_, 1)) : W p l e R s m args below meth c H locs 0 0 Q (F0 m pc ls []) := by
  subst hs hQ
  exact W.vret X.1 X.2.1 hr (fun t ht hWm => ⟨⟨σ, rfl, rfl, by rw [← ht] at hW; exact hW, va_K.moved hWm.alike X.2.2.2.2.2.1⟩, hS.F ht⟩) hS.2.2 hdg hlocks
theorem m_aret {K : Nat → Prop} {σ2 : St} {id id2 : Nat} {rt : FieldType} (hrt : (∃ n, rt = .object n) ∨ ∃ t, rt = .array t) (X : Cx p s m args c cc nL own D cy ad nm nv A) (hr : meth.sig.returnType = some rt) (hlocks : meth.locks = false) (hW : Wd D cy ad nm nv σ H) (hS : va_S A s.heap H locs) (hKr : K id) (hf : id = id2) (hs : σ = σ2) (hQ : MQ below (va_Qr (fun (u : St) => u = σ2) (fun (u : St) (a : Nat) (t : State) => a = ad id2 ∧ K id2 ∧ PostW D cy ad nm nv u t) A) args s 0 0 A = Q) (hdg : decode cc pc = .ok (.areturn, 1)) : W p l e R s m args below meth c H locs 0 0 Q (F0 m pc ls [.ref (ad id)]) := by
  subst hf hs hQ
  exact W.aret X.1 X.2.1 hr hrt (Or.inr ⟨_, rfl⟩) (fun t ht hWm => ⟨⟨σ, ad id, rfl, rfl, rfl, hKr, by rw [← ht] at hW; exact hW, va_K.moved hWm.alike X.2.2.2.2.2.1⟩, hS.F ht⟩) hS.2.2 hdg hlocks
-- arrays of references
theorem ra_of {n : Nat} {i : Int} {f : Nat → Nat} {k : Nat → Option ρ} (h : ra i n f k = some r) : (0 ≤ i ∧ i < (n : Int)) ∧ k (f i.toNat) = some r := by
  unfold ra at h; split at h
  · exact ⟨by assumption, h⟩
  · cases h
theorem m_aaldS {i : Int} {k : Nat → Option ρ} (X : Cx p s m args c cc nL own D cy ad nm nv A) (hW : Wd D cy ad nm nv σ H) (hi : inR i) (hf : ra i 4 (fun j => 20 + 40 * j) k = some r) (hdg : decode cc pc = .ok (.aaload, 1))
    (kk : ∀ o, isSite o → k o = some r → W p l e R s m args below meth c H locs cells slots Q (F0 m (pc + 1) ls (.ref (ad o) :: rest))) : W p l e R s m args below meth c H locs cells slots Q (F0 m pc ls (.int (i32 i) :: .ref (ad 1) :: rest)) := by
  obtain ⟨hx, hb, -, -, -, hK, -⟩ := X
  obtain ⟨hm, hk, hl⟩ := a_X5_sites (nm := nm) (nv := nv)
  obtain ⟨q0, hq⟩ := List.getElem?_of_mem hm
  have hw := wl_at (cy := cy) (ad := ad) (σ := σ) hq
  rw [ent_4 hk hl] at hw
  obtain ⟨hc, hf⟩ := ra_of hf
  obtain ⟨j, rfl⟩ : ∃ j : Nat, i = (j : Int) := ⟨i.toNat, by omega⟩
  refine va_aldq hx hb hK hW.1 q0 3 hw rfl ((i32_in hi).mpr hc) hdg ?_
  rw [i32_clamp hi, Int.toNat_natCast]
  rw [Int.toNat_natCast] at hf
  have hj : j < 4 := by omega
  rw [if_pos hj]
  refine kk _ ?_ hf
  rcases (show j = 0 ∨ j = 1 ∨ j = 2 ∨ j = 3 by omega) with rfl | rfl | rfl | rfl <;> decide
theorem m_aaldL {i : Int} {p0 : Nat} {k : Nat → Option ρ} (hp : isPaper p0) (X : Cx p s m args c cc nL own D cy ad nm nv A) (hW : Wd D cy ad nm nv σ H) (hi : inR i) (hf : ra i 4 (fun j => p0 + 13 + j) k = some r) (hdg : decode cc pc = .ok (.aaload, 1))
    (kk : ∀ o, arrOK nm nv o 1 161 → k o = some r → W p l e R s m args below meth c H locs cells slots Q (F0 m (pc + 1) ls (.ref (ad o) :: rest))) : W p l e R s m args below meth c H locs cells slots Q (F0 m pc ls (.int (i32 i) :: .ref (ad (p0 + 12)) :: rest)) := by
  obtain ⟨hx, hb, -, -, -, hK, -⟩ := X
  obtain ⟨hm, hk, hl⟩ := a_X3_levels (nm := nm) (nv := nv) hp
  obtain ⟨q0, hq⟩ := List.getElem?_of_mem hm
  have hw := wl_at (cy := cy) (ad := ad) (σ := σ) hq
  rw [ent_7 hk hl] at hw
  obtain ⟨hc, hf⟩ := ra_of hf
  obtain ⟨j, rfl⟩ : ∃ j : Nat, i = (j : Int) := ⟨i.toNat, by omega⟩
  refine W.aald (v := .ref (ad (p0 + 13 + j))) hx hb (hW.1 q0 _ hw) ((hK.2 6 _ rfl).1 4 _) rfl (fun q => by cases q) (by show ¬ (i32 (j : Int) < 0 ∨ (arrV _ _ _).slots.size ≤ _); rw [arrV_size]; exact (i32_in hi).mpr hc) ?_ rfl rfl hdg ?_
  · show (arrV _ _ _).slots[_]? = _
    have hj : j < 4 := by omega
    rw [i32_clamp hi, Int.toNat_natCast, arrV_read _ _ hj]
    show some (va_rf (if j < 4 then some (ad (p0 + 12 + 1 + j)) else none)) = _
    rw [if_pos hj]
    rfl
  · rw [Int.toNat_natCast] at hf
    exact kk _ (a_levels hp (by omega)) hf
-- what the law of its own needs: remainders, quotients, calls that do not throw
def irm {β : Type} (x y : Int) (k : Int → Option β) : Option β := if inR y ∧ y ≠ 0 then k (i32 x - i32 x / i32 y * i32 y).toInt else none
def idv {β : Type} (x y : Int) (k : Int → Option β) : Option β := if inR y ∧ y ≠ 0 then k (i32 x / i32 y).toInt else none
theorem i32_ne0 {y : Int} (h : inR y ∧ y ≠ 0) : ¬ i32 y = 0 := fun q => by
  rw [i32_0, i32_eq h.1 z0] at q
  exact h.2 q
theorem irm_of {x y : Int} {k : Int → Option ρ} (h : irm x y k = some r) : (inR y ∧ y ≠ 0) ∧ k (i32 x - i32 x / i32 y * i32 y).toInt = some r := by
  unfold irm at h; split at h
  · exact ⟨by assumption, h⟩
  · cases h
theorem idv_of {x y : Int} {k : Int → Option ρ} (h : idv x y k = some r) : (inR y ∧ y ≠ 0) ∧ k (i32 x / i32 y).toInt = some r := by
  unfold idv at h; split at h
  · exact ⟨by assumption, h⟩
  · cases h
theorem m_irem {x y : Int} {k : Int → Option ρ} (hx : p.tables.exec = Jvm.exec) (hb : c.code = cc) (hf : irm x y k = some r) (hdg : decode cc pc = .ok (.irem, 1)) (kk : ∀ v, inR v → k v = some r → W p l e R s m args below meth c H locs cells slots Q (F0 m (pc + 1) ls (.int (i32 v) :: rest))) : W p l e R s m args below meth c H locs cells slots Q (F0 m pc ls (.int (i32 y) :: .int (i32 x) :: rest)) := lv_irem hx hb hdg (i32_ne0 (irm_of hf).1) (by have := kk _ (i32_inR _) (irm_of hf).2; rw [i32_of] at this; exact this)
theorem m_idiv {x y : Int} {k : Int → Option ρ} (hx : p.tables.exec = Jvm.exec) (hb : c.code = cc) (hf : idv x y k = some r) (hdg : decode cc pc = .ok (.idiv, 1)) (kk : ∀ v, inR v → k v = some r → W p l e R s m args below meth c H locs cells slots Q (F0 m (pc + 1) ls (.int (i32 v) :: rest))) : W p l e R s m args below meth c H locs cells slots Q (F0 m pc ls (.int (i32 y) :: .int (i32 x) :: rest)) := lv_idiv hx hb hdg (i32_ne0 (idv_of hf).1) (by have := kk _ (i32_inR _) (idv_of hf).2; rw [i32_of] at this; exact this)
theorem zw_of {α : Type} {m : Option (Nat × α × St)} {v : α} {s : St} (h : zw m = some (v, s)) : m = some (0, v, s) := by
  unfold zw at h
  split at h
  · cases h; rfl
  · cases h
def zv {α : Type} (m : Option (Nat × α × St)) : Option St := match m with | some (0, _, s) => some s | _ => none
theorem zv_of {α : Type} {m : Option (Nat × α × St)} {s : St} (h : zv m = some s) : ∃ v, m = some (0, v, s) := by
  unfold zv at h
  split at h
  · cases h; exact ⟨_, rfl⟩
  · cases h
theorem xw_b2 {α β : Type} {d : β} {F : Option (Nat × α × St)} {κ : α → St → Option (Nat × β × St)} {v : β} {s : St} (h : xw d F κ = some (0, v, s)) : b2 (zw F) κ = some (0, v, s) := by
  cases F with
  | none => cases h
  | some q =>
    obtain ⟨cd, w, t⟩ := q
    cases cd with
    | zero => exact h
    | succ cd => exact absurd (congrArg (fun q => q.1) (Option.some.inj h)) (by simp)
theorem xw_b1 {α β : Type} {d : β} {F : Option (Nat × α × St)} {κ : St → Option (Nat × β × St)} {v : β} {s : St} (h : xw d F (fun _ t => κ t) = some (0, v, s)) : b1 (zv F) κ = some (0, v, s) := by
  cases F with
  | none => cases h
  | some q =>
    obtain ⟨cd, w, t⟩ := q
    cases cd with
    | zero => exact h
    | succ cd => exact absurd (congrArg (fun q => q.1) (Option.some.inj h)) (by simp)
end MROWS
theorem nf_X3_53 {U : State} {args : Array Value} (h : NWs U) : (Cond.fieldLinkNest "Marginnote$Paper" 53 "Marginnote$Book" "made" "I" "Marginnote").before args U = true := va_Nw.use rfl (h.1 ("Marginnote$Paper", 53, "Marginnote$Book", "made", "I", "Marginnote") (List.mem_of_getElem? (i := 0) rfl))
theorem nf_X5_199 {U : State} {args : Array Value} (h : NWs U) : (Cond.fieldLinkNest "Marginnote" 199 "Marginnote$Book" "made" "I" "Marginnote").before args U = true := va_Nw.use rfl (h.1 ("Marginnote", 199, "Marginnote$Book", "made", "I", "Marginnote") (List.mem_of_getElem? (i := 1) rfl))
theorem nf_X5_132 {U : State} {args : Array Value} (h : NWs U) : (Cond.fieldLinkNest "Marginnote" 132 "Marginnote$Book" "comments" "I" "Marginnote").before args U = true := va_Nw.use rfl (h.1 ("Marginnote", 132, "Marginnote$Book", "comments", "I", "Marginnote") (List.mem_of_getElem? (i := 2) rfl))
theorem nf_X4_52 {U : State} {args : Array Value} (h : NWs U) : (Cond.fieldLinkNest "Marginnote$Site" 52 "Marginnote$ActSet" "size" "I" "Marginnote").before args U = true := va_Nw.use rfl (h.1 ("Marginnote$Site", 52, "Marginnote$ActSet", "size", "I", "Marginnote") (List.mem_of_getElem? (i := 3) rfl))
theorem nf_X5_196 {U : State} {args : Array Value} (h : NWs U) : (Cond.fieldLinkNest "Marginnote" 196 "Marginnote$ActSet" "size" "I" "Marginnote").before args U = true := va_Nw.use rfl (h.1 ("Marginnote", 196, "Marginnote$ActSet", "size", "I", "Marginnote") (List.mem_of_getElem? (i := 4) rfl))
theorem nf_X5_150 {U : State} {args : Array Value} (h : NWs U) : (Cond.fieldLinkNest "Marginnote" 150 "Marginnote$Site" "number" "I" "Marginnote").before args U = true := va_Nw.use rfl (h.1 ("Marginnote", 150, "Marginnote$Site", "number", "I", "Marginnote") (List.mem_of_getElem? (i := 5) rfl))
theorem nf_X2_20 {U : State} {args : Array Value} (h : NWs U) : (Cond.fieldLinkNest "Marginnote$Message" 20 "Marginnote$Site" "held" "LMarginnote$ActSet;" "Marginnote").before args U = true := va_Nw.use rfl (h.1 ("Marginnote$Message", 20, "Marginnote$Site", "held", "LMarginnote$ActSet;", "Marginnote") (List.mem_of_getElem? (i := 6) rfl))
theorem nf_X5_193 {U : State} {args : Array Value} (h : NWs U) : (Cond.fieldLinkNest "Marginnote" 193 "Marginnote$Site" "held" "LMarginnote$ActSet;" "Marginnote").before args U = true := va_Nw.use rfl (h.1 ("Marginnote", 193, "Marginnote$Site", "held", "LMarginnote$ActSet;", "Marginnote") (List.mem_of_getElem? (i := 7) rfl))
theorem nf_X2_29 {U : State} {args : Array Value} (h : NWs U) : (Cond.fieldLinkNest "Marginnote$Message" 29 "Marginnote$Site" "known" "[I" "Marginnote").before args U = true := va_Nw.use rfl (h.1 ("Marginnote$Message", 29, "Marginnote$Site", "known", "[I", "Marginnote") (List.mem_of_getElem? (i := 8) rfl))
theorem nf_X5_352 {U : State} {args : Array Value} (h : NWs U) : (Cond.fieldLinkNest "Marginnote" 352 "Marginnote$Site" "paper" "LMarginnote$Paper;" "Marginnote").before args U = true := va_Nw.use rfl (h.1 ("Marginnote", 352, "Marginnote$Site", "paper", "LMarginnote$Paper;", "Marginnote") (List.mem_of_getElem? (i := 9) rfl))
theorem nf_X5_226 {U : State} {args : Array Value} (h : NWs U) : (Cond.fieldLinkNest "Marginnote" 226 "Marginnote$Site" "fresh" "Z" "Marginnote").before args U = true := va_Nw.use rfl (h.1 ("Marginnote", 226, "Marginnote$Site", "fresh", "Z", "Marginnote") (List.mem_of_getElem? (i := 10) rfl))
theorem nf_X5_113 {U : State} {args : Array Value} (h : NWs U) : (Cond.fieldLinkNest "Marginnote" 113 "Marginnote$Site" "proposing" "Z" "Marginnote").before args U = true := va_Nw.use rfl (h.1 ("Marginnote", 113, "Marginnote$Site", "proposing", "Z", "Marginnote") (List.mem_of_getElem? (i := 11) rfl))
theorem nf_X5_362 {U : State} {args : Array Value} (h : NWs U) : (Cond.fieldLinkNest "Marginnote" 362 "Marginnote$Site" "clock" "I" "Marginnote").before args U = true := va_Nw.use rfl (h.1 ("Marginnote", 362, "Marginnote$Site", "clock", "I", "Marginnote") (List.mem_of_getElem? (i := 12) rfl))
theorem nf_X5_80 {U : State} {args : Array Value} (h : NWs U) : (Cond.fieldLinkNest "Marginnote" 80 "Marginnote$Site" "cursor" "I" "Marginnote").before args U = true := va_Nw.use rfl (h.1 ("Marginnote", 80, "Marginnote$Site", "cursor", "I", "Marginnote") (List.mem_of_getElem? (i := 13) rfl))
theorem nf_X5_88 {U : State} {args : Array Value} (h : NWs U) : (Cond.fieldLinkNest "Marginnote" 88 "Marginnote$Site" "tail" "I" "Marginnote").before args U = true := va_Nw.use rfl (h.1 ("Marginnote", 88, "Marginnote$Site", "tail", "I", "Marginnote") (List.mem_of_getElem? (i := 14) rfl))
theorem nf_X5_190 {U : State} {args : Array Value} (h : NWs U) : (Cond.fieldLinkNest "Marginnote" 190 "Marginnote$Message" "receiver" "I" "Marginnote").before args U = true := va_Nw.use rfl (h.1 ("Marginnote", 190, "Marginnote$Message", "receiver", "I", "Marginnote") (List.mem_of_getElem? (i := 15) rfl))
theorem nf_X5_205 {U : State} {args : Array Value} (h : NWs U) : (Cond.fieldLinkNest "Marginnote" 205 "Marginnote$Message" "acts" "LMarginnote$ActSet;" "Marginnote").before args U = true := va_Nw.use rfl (h.1 ("Marginnote", 205, "Marginnote$Message", "acts", "LMarginnote$ActSet;", "Marginnote") (List.mem_of_getElem? (i := 16) rfl))
theorem nf_X5_219 {U : State} {args : Array Value} (h : NWs U) : (Cond.fieldLinkNest "Marginnote" 219 "Marginnote$Message" "known" "[I" "Marginnote").before args U = true := va_Nw.use rfl (h.1 ("Marginnote", 219, "Marginnote$Message", "known", "[I", "Marginnote") (List.mem_of_getElem? (i := 17) rfl))
theorem nm_X5_11 {U : State} (h : NWs U) : va_Nw (.methodLinkNest "Marginnote" 11 ⟨"Marginnote$Book", "<init>", "()V"⟩ "Marginnote") U := h.2.1 ("Marginnote", 11, ⟨"Marginnote$Book", "<init>", "()V"⟩, "Marginnote") (List.mem_of_getElem? (i := 0) rfl)
theorem nm_X4_11 {U : State} (h : NWs U) : va_Nw (.methodLinkNest "Marginnote$Site" 11 ⟨"Marginnote$ActSet", "<init>", "()V"⟩ "Marginnote") U := h.2.1 ("Marginnote$Site", 11, ⟨"Marginnote$ActSet", "<init>", "()V"⟩, "Marginnote") (List.mem_of_getElem? (i := 1) rfl)
theorem nm_X5_49 {U : State} (h : NWs U) : va_Nw (.methodLinkNest "Marginnote" 49 ⟨"Marginnote$ActSet", "<init>", "()V"⟩ "Marginnote") U := h.2.1 ("Marginnote", 49, ⟨"Marginnote$ActSet", "<init>", "()V"⟩, "Marginnote") (List.mem_of_getElem? (i := 2) rfl)
theorem nm_X3_116 {U : State} (h : NWs U) : va_Nw (.methodLinkNest "Marginnote$Paper" 116 ⟨"Marginnote", "commentBit", "(I)I"⟩ "Marginnote") U := h.2.1 ("Marginnote$Paper", 116, ⟨"Marginnote", "commentBit", "(I)I"⟩, "Marginnote") (List.mem_of_getElem? (i := 3) rfl)
theorem nm_X5_355 {U : State} (h : NWs U) : va_Nw (.methodLinkNest "Marginnote" 355 ⟨"Marginnote$Paper", "blockOf", "(I)I"⟩ "Marginnote") U := h.2.1 ("Marginnote", 355, ⟨"Marginnote$Paper", "blockOf", "(I)I"⟩, "Marginnote") (List.mem_of_getElem? (i := 4) rfl)
theorem nm_X2_9 {U : State} (h : NWs U) : va_Nw (.methodLinkNest "Marginnote$Message" 9 ⟨"Marginnote$ActSet", "<init>", "()V"⟩ "Marginnote") U := h.2.1 ("Marginnote$Message", 9, ⟨"Marginnote$ActSet", "<init>", "()V"⟩, "Marginnote") (List.mem_of_getElem? (i := 5) rfl)
theorem nc_IndexOutOfBoundsException {U : State} (h : NWs U) : va_Nw (.castable "java/lang/IndexOutOfBoundsException" "java/lang/IndexOutOfBoundsException") U := h.2.2.1 ("java/lang/IndexOutOfBoundsException", "java/lang/IndexOutOfBoundsException") (List.mem_of_getElem? (i := 0) rfl)
theorem nc_IllegalArgumentException {U : State} (h : NWs U) : va_Nw (.castable "java/lang/IllegalArgumentException" "java/lang/IllegalArgumentException") U := h.2.2.1 ("java/lang/IllegalArgumentException", "java/lang/IllegalArgumentException") (List.mem_of_getElem? (i := 1) rfl)
theorem nc_IllegalStateException {U : State} (h : NWs U) : va_Nw (.castable "java/lang/IllegalStateException" "java/lang/IllegalStateException") U := h.2.2.1 ("java/lang/IllegalStateException", "java/lang/IllegalStateException") (List.mem_of_getElem? (i := 2) rfl)
theorem nc_Cloneable {U : State} (h : NWs U) : va_Nw (.castable "[I" "java/lang/Cloneable") U := h.2.2.1 ("[I", "java/lang/Cloneable") (List.mem_of_getElem? (i := 3) rfl)
theorem nd_0 {U : State} (h : NWs U) : va_Nw (.declares ⟨"java/lang/RuntimeException", "<init>", "()V"⟩) U := h.2.2.2.1 ⟨"java/lang/RuntimeException", "<init>", "()V"⟩ (List.mem_of_getElem? (i := 0) rfl)
theorem nd_1 {U : State} (h : NWs U) : va_Nw (.declares ⟨"java/lang/RuntimeException", "<init>", "(Ljava/lang/String;)V"⟩) U := h.2.2.2.1 ⟨"java/lang/RuntimeException", "<init>", "(Ljava/lang/String;)V"⟩ (List.mem_of_getElem? (i := 1) rfl)
theorem nd_2 {U : State} (h : NWs U) : va_Nw (.declares ⟨"java/lang/Exception", "<init>", "()V"⟩) U := h.2.2.2.1 ⟨"java/lang/Exception", "<init>", "()V"⟩ (List.mem_of_getElem? (i := 2) rfl)
theorem nd_3 {U : State} (h : NWs U) : va_Nw (.declares ⟨"java/lang/Exception", "<init>", "(Ljava/lang/String;)V"⟩) U := h.2.2.2.1 ⟨"java/lang/Exception", "<init>", "(Ljava/lang/String;)V"⟩ (List.mem_of_getElem? (i := 3) rfl)
theorem nd_4 {U : State} (h : NWs U) : va_Nw (.declares ⟨"java/lang/Throwable", "<init>", "()V"⟩) U := h.2.2.2.1 ⟨"java/lang/Throwable", "<init>", "()V"⟩ (List.mem_of_getElem? (i := 4) rfl)
theorem nd_5 {U : State} (h : NWs U) : va_Nw (.declares ⟨"java/lang/Throwable", "<init>", "(Ljava/lang/String;)V"⟩) U := h.2.2.2.1 ⟨"java/lang/Throwable", "<init>", "(Ljava/lang/String;)V"⟩ (List.mem_of_getElem? (i := 5) rfl)
