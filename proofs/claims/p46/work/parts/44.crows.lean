/-! ===== constructors: worlds of cells that grow ===== -/
theorem cy_eq {D : va_G} {cl : List vw_C} {tys : List (ClassId × FieldType)} {U : State} {a b : ClassId} {ty : FieldType} (h : va_K D cl tys U) {i j : Nat} (hi : tys[i]? = some (a, ty)) (hj : tys[j]? = some (b, ty)) : a = b := by
  have h1 := (h.2 i _ hi).2
  have h2 := (h.2 j _ hj).2
  cases ty with
  | object C =>
    obtain ⟨-, -, -, -, -, e1⟩ := h1
    obtain ⟨-, -, -, -, -, e2⟩ := h2
    exact Option.some.inj (e1.symm.trans e2)
  | _ => exact Option.some.inj (h1.symm.trans h2)
/-- what stays the same through a constructor's body -/
def Cc (p : Program) (s : State) (m : MethodId) (args : Array Value) (c : Code) (cc : ByteArray) (nL : Nat) (own : String) (D : va_G) (cy : Nat → ClassId) (A : Nat → Prop) : Prop :=
  p.tables.exec = Jvm.exec ∧ c.code = cc ∧ c.maxLocals = nL ∧ s.vm.findClass own = some m.cls ∧ (∀ w ∈ GW, w.before args s = true) ∧ va_K D vwCl (tysC cy) s ∧ (∀ q : Nat, s.heap.size ≤ q → A q) ∧ NWs s ∧ OVs s
def PreC (D : va_G) (cy : Nat → ClassId) (ws : va_W) (sz : Nat) (U : State) : Prop := U.heap.size = sz ∧ va_P D vwCl ws U.heap ∧ va_K D vwCl (tysC cy) U ∧ va_D (fun _ => True) ws ∧ NWs U ∧ OVs U
theorem PreC.blind {D : va_G} {cy : Nat → ClassId} {ws : va_W} {sz : Nat} {args : List Value} : FrameBlind (va_Pc args (PreC D cy ws sz)) := by
  intro a U g mk q
  obtain ⟨q0, q1, qP, qK, qD, qN, qO⟩ := q
  exact ⟨q0, q1, qP, va_K.moved (u := U) (U := U.calling g mk a) (Vm.Alike.refl U.vm) qK, qD, NWs.same (s := U) (U := U.calling g mk a) rfl qN, OVs.moved (u := U) (U := U.calling g mk a) (Vm.Alike.refl U.vm) qO⟩
/-- a constructor's contract: from the blank cell to the cells g r, r 0 the object -/
def CC (l : Launch) (y : MethodName) (b : ByteArray) (n : Nat) (rm : Room) (av : List Value) (D : va_G) (cy : Nat → ClassId) (sz h0 : Nat) (w0 : va_E) (g : (Nat → Nat) → va_W) (mc ms : Nat) : Prop :=
  Met l y (wsG y b n none) rm (va_Pc av (PreC D cy [(h0, w0)] sz)) (va_Qv (fun r : Nat → Nat => r 0 = h0) (fun r t => va_P D vwCl (g r) t.heap ∧ va_K D vwCl (tysC cy) t ∧ va_D (va_A [(h0, w0)] sz) (g r)) (va_A [(h0, w0)] sz)) mc ms (va_A [(h0, w0)] sz)
theorem c_entry {l : Launch} {y : MethodName} {cc : ByteArray} {n : Nat} {rm : Room} {av : List Value} {D : va_G} {cy : Nat → ClassId} {sz h0 : Nat} {w0 : va_E} {g : (Nat → Nat) → va_W} {mc ms : Nat} (C : String) (hC : y.cls = C) (hy0 : y.name = "<init>")
    (hy : plainName y.cls = true) (hlen : (lg_sl av).length ≤ n)
    (body : ∀ (p : Program) (e : Env) (s : State) (m : MethodId) (args : Array Value) (below : List Frame) (meth : Method) (c : Code) (A : Nat → Prop) (Q : State → Prop), va_A [(h0, w0)] sz = A → MQ below (va_Qv (fun r : Nat → Nat => r 0 = h0) (fun r t => va_P D vwCl (g r) t.heap ∧ va_K D vwCl (tysC cy) t ∧ va_D A (g r)) A) args s mc ms A = Q → meth.sig.returnType = none → meth.locks = false → meth.name = "<init>" → Cc p s m args c cc n C D cy A → va_P D vwCl [(h0, w0)] s.heap → va_D A [(h0, w0)] → va_S A s.heap s.heap [] → ∀ ls : Array Slot, lv_has ls n (lv_args 0 av) → W p l e rm s m args below meth c s.heap [] 0 0 Q (F0 m 0 ls [])) : CC l y cc n rm av D cy sz h0 w0 g mc ms := by
  refine Met.ofW (cc := cc) (maxL := n) (ret := none) hy rfl ?_
  intro p e s m args below meth c s₁ B hml hv
  obtain ⟨rfl, hsz, hP, hK, hD0, hN, hO⟩ := hv
  have hts := atoms_spec (ws := wsG y cc n none) B.pre
  have hown : s.vm.findClass C = some m.cls := by rw [← hC]; exact findClass_of_methodNamed B.named
  have hin : meth.name = "<init>" := by rw [(name_of_methodNamed B.named B.method).1, hy0]
  have hl := lv_entry av (n := n) hlen
  have hD := hD0.self (sz := sz)
  rw [lg_entry_eq]
  exact body p e s m _ below meth c _ _ rfl rfl B.returns B.notSynchronized hin ⟨B.exec, B.bytes, hml, hown, fun w hw => hts w (List.mem_cons_of_mem _ hw), hK, fun q hq => Or.inr (by rw [← hsz]; exact hq), hN, hO⟩ hP hD va_S.rf _ hl
theorem va_joinL {A0 : Nat → Prop} {D : va_G} {cl : List vw_C} {W wc w1 : va_W} {H H1 : Heap} (hP : va_P D cl (W ++ wc) H) (hD : va_D A0 (W ++ wc)) (hk : ∀ q : Nat, q < H.size → ¬ va_A wc H.size q → H1[q]? = H[q]?) (hF : ∀ q, va_A wc H.size q → A0 q) (hP1 : va_P D cl w1 H1) (hD1 : va_D (va_A wc H.size) w1) : va_P D cl (W ++ w1) H1 ∧ va_D A0 (W ++ w1) := by
  have hWl : ∀ (k : Nat) (x : Nat × va_E), W[k]? = some x → (W ++ wc)[k]? = some x := fun k x hx => by
    rw [List.getElem?_append_left (List.getElem?_eq_some_iff.mp hx).1]; exact hx
  have hout : ∀ (k : Nat) (x : Nat × va_E), W[k]? = some x → x.1 < H.size ∧ ¬ va_A wc H.size x.1 := fun k x hx => by
    have hlt := (hP k x (hWl k x hx)).lt
    refine ⟨hlt, fun h => ?_⟩
    rcases h with ⟨j, e, hj⟩ | h
    · have hkW := (List.getElem?_eq_some_iff.mp hx).1
      have := hD.1 k (W.length + j) x (x.1, e) (hWl k x hx) (by rw [List.getElem?_append_right (Nat.le_add_right _ _), Nat.add_sub_cancel_left]; exact hj) rfl
      omega
    · exact absurd hlt (Nat.not_lt.mpr h)
  refine ⟨fun k x hx => ?_, fun i j x y hi hj hxy => ?_, fun k x hx => ?_⟩
  · by_cases h : k < W.length
    · rw [List.getElem?_append_left h] at hx
      have hPW : va_P D cl W H := fun k x hx => hP k x (hWl k x hx)
      exact (hPW.kept (fun k x hx => hk x.1 (hout k x hx).1 (hout k x hx).2)) k x hx
    · rw [List.getElem?_append_right (by omega)] at hx
      exact hP1 _ x hx
  · by_cases h1 : i < W.length <;> by_cases h2 : j < W.length
    · rw [List.getElem?_append_left h1] at hi
      rw [List.getElem?_append_left h2] at hj
      exact hD.1 i j x y (hWl i x hi) (hWl j y hj) hxy
    · rw [List.getElem?_append_left h1] at hi
      rw [List.getElem?_append_right (by omega)] at hj
      have := (hout i x hi).2
      rw [hxy] at this
      exact absurd (hD1.2 _ y hj) this
    · rw [List.getElem?_append_right (by omega)] at hi
      rw [List.getElem?_append_left h2] at hj
      have := (hout j y hj).2
      rw [← hxy] at this
      exact absurd (hD1.2 _ x hi) this
    · rw [List.getElem?_append_right (by omega)] at hi
      rw [List.getElem?_append_right (by omega)] at hj
      have := hD1.1 _ _ x y hi hj hxy
      omega
  · by_cases h : k < W.length
    · rw [List.getElem?_append_left h] at hx
      exact hD.2 k x (hWl k x hx)
    · rw [List.getElem?_append_right (by omega)] at hx
      exact hF _ (hD1.2 _ x hx)
section CROWS
variable {p : Program} {l : Launch} {e : Env} {R : Room} {s : State} {m : MethodId} {args : Array Value} {below : List Frame} {meth : Method} {c : Code} {H : Heap} {locs : List Loc} {cells slots : Nat} {Q : State → Prop}
variable {cc : ByteArray} {nL : Nat} {own : String} {D : va_G} {cy : Nat → ClassId} {A : Nat → Prop} {pc : Nat} {ls : Array Slot} {rest : List Value} {ws : va_W} {mc ms : Nat}
theorem c_objInit {idx a : Nat} (X : Cc p s m args c cc nL own D cy A) (hsz : ls.size = nL) (hlink : (Cond.methodLink own idx Lib.objectInit).before args s = true) (hinst : (Cond.instanceMethod Lib.objectInit).before args s = true) (hcode : (Cond.code Lib.objectInit ⟨#[0xb1]⟩ 1 none).before args s = true) (hd : decode cc pc = .ok (.invokespecial idx, 3)) (hfr : 1 ≤ R.frames) (hlo : (rest.map fun v => v.category).sum + 12 ≤ R.locals) (kk : W p l e R s m args below meth c H locs cells slots Q (F0 m (pc + 3) ls rest)) : W p l e R s m args below meth c H locs cells slots Q (F0 m pc ls (.ref a :: rest)) :=
  W.objInit X.1 X.2.1 X.2.2.2.1 hlink hinst hcode rfl (by rw [X.2.2.1]; exact hsz) rfl hd hfr (by show 2 * 0 + _ + 12 ≤ _; omega) kk
theorem c_newa {atype : ArrayType} {ty : FieldType} {k t0 : Nat} {n : Int} {N' : Nat} {f0 : vp_A} (X : Cc p s m args c cc nL own D cy A) (hP : va_P D vwCl ws H) (hD : va_D A ws) (hS : va_S A s.heap H locs) (harr : (Cond.arrayClass (newarray.typeOf atype)).before args s = true) (hty : newarray.typeOf atype = ty) (ht : (tysC cy)[t0]? = some (cy k, ty)) (ha : ∀ cA : ClassId, vp_cell cA f0 = arrV cA N' (fun _ => defaultValue ty)) (hn : n = (N' : Int)) (hN : N' ≤ 60000) (hbytes : N' * componentBytes ty ≤ 536870912) (hc : cells + 1 ≤ R.cells) (hs : slots + N' ≤ R.slots) (hdg : decode cc pc = .ok (.newarray atype, 2))
    (kk : ∀ (q : Nat) (H1 : Heap), va_P D vwCl (ws ++ [(q, .inl (cy k, f0))]) H1 → va_D A (ws ++ [(q, .inl (cy k, f0))]) → va_S A s.heap H1 locs → W p l e R s m args below meth c H1 locs (cells + 1) (slots + N') Q (F0 m (pc + 2) ls (.ref q :: rest))) : W p l e R s m args below meth c H locs cells slots Q (F0 m pc ls (.int (i32 n) :: rest)) := by
  subst hn
  have hr : inR (N' : Int) := ⟨by omega, by omega⟩
  refine va_newa X.1 X.2.1 harr hty X.2.2.2.2.2.1 hP hD hS X.2.2.2.2.2.2.1 ha (fun q => absurd ((i32_lt hr z0).mp q) (by omega)) (by rw [i32_clamp hr, Int.toNat_natCast]) hbytes hc hs hdg (fun q cA H1 hK1 hP1 hD1 hS1 => ?_)
  have e : cA = cy k := by
    refine cy_eq hK1 (i := (tysC cy).length) (j := t0) (by rw [List.getElem?_append_right (Nat.le_refl _), Nat.sub_self]; rfl) ?_
    rw [List.getElem?_append_left (List.getElem?_eq_some_iff.mp ht).1]; exact ht
  subst e
  exact kk q H1 hP1 hD1 hS1
theorem c_newq {C : String} {index k t0 : Nat} {n : Int} {N' : Nat} (X : Cc p s m args c cc nL own D cy A) (hP : va_P D vwCl ws H) (hD : va_D A ws) (hS : va_S A s.heap H locs) (hclink : (Cond.classLink own index C).before args s = true) (hover : va_AO C s) (ht : (tysC cy)[t0]? = some (cy k, .object C)) (hn : n = (N' : Int)) (hN : N' ≤ 60000) (hc : cells + 1 ≤ R.cells) (hs : slots + N' ≤ R.slots) (hdg : decode cc pc = .ok (.anewarray index, 3))
    (kk : ∀ (q : Nat) (H1 : Heap), va_P D vwCl (ws ++ [(q, .inl (cy k, N', .inr (.inr (.inr (.inr (fun _ => none))))))]) H1 → va_D A (ws ++ [(q, .inl (cy k, N', .inr (.inr (.inr (.inr (fun _ => none))))))]) → va_S A s.heap H1 locs → W p l e R s m args below meth c H1 locs (cells + 1) (slots + N') Q (F0 m (pc + 3) ls (.ref q :: rest))) : W p l e R s m args below meth c H locs cells slots Q (F0 m pc ls (.int (i32 n) :: rest)) := by
  subst hn
  have hr : inR (N' : Int) := ⟨by omega, by omega⟩
  refine va_newq X.1 X.2.1 X.2.2.2.1 hclink hover X.2.2.2.2.2.1 hP hD hS X.2.2.2.2.2.2.1 (fun q => absurd ((i32_lt hr z0).mp q) (by omega)) (by rw [i32_clamp hr, Int.toNat_natCast]) (by omega) hc hs hdg (fun q cA H1 hK1 hP1 hD1 hS1 => ?_)
  have e : cA = cy k := by
    refine cy_eq hK1 (i := (tysC cy).length) (j := t0) (by rw [List.getElem?_append_right (Nat.le_refl _), Nat.sub_self]; rfl) ?_
    rw [List.getElem?_append_left (List.getElem?_eq_some_iff.mp ht).1]; exact ht
  subst e
  exact kk q H1 hP1 hD1 hS1
theorem c_putF {C : String} {T : u_T} {N index ci h0 : Nat} {fs : List Value} {ty0 : Nat → FieldType} {ty : FieldType} {v : Value} (X : Cc p s m args c cc nL own D cy A) (hP : va_P D vwCl ws H) (hD : va_D A ws) (hS : va_S A s.heap H locs) (hin : ∀ w ∈ u_ws C T N, w ∈ GW) (hty : ∀ k, k < N → parseFieldDescriptor (T k).2.2.1 = some (ty0 k)) (hnm : ∀ a, a < N → ∀ b, b < N → a ≠ b → (T a).2.1 ≠ (T b).2.1) (q0 : Nat) (he : ws[q0]? = some (h0, .inr (ci, fs))) (hc : vwCl[ci]? = some (C, T, N)) (k : Nat) (hk : k < N) (hlink : (Cond.fieldLink own index C (T k).2.1 (T k).2.2.1).before args s = true) (href : (T k).1 = C) (hfin : (T k).2.2.2 = true) (hin2 : meth.name = "<init>") (hdecl : (T k).1 = own) (hd : parseFieldDescriptor (T k).2.2.1 = some ty) (hn : narrow ty v = v) (hfit : fits ty v = true) (hl : k < fs.length) (hdg : decode cc pc = .ok (.putfield index, 3))
    (kk : ∀ (H1 : Heap) (locs1 : List Loc), va_P D vwCl (ws.set q0 (h0, .inr (ci, fs.set k v))) H1 → va_D A (ws.set q0 (h0, .inr (ci, fs.set k v))) → va_S A s.heap H1 locs1 → W p l e R s m args below meth c H1 locs1 cells slots Q (F0 m (pc + 3) ls rest)) : W p l e R s m args below meth c H locs cells slots Q (F0 m pc ls (v :: .ref h0 :: rest)) :=
  va_putF X.1 X.2.1 X.2.2.2.2.1 hin ty0 hty hnm X.2.2.2.1 X.2.2.2.2.2.1 hP hD hS q0 he hc k hk hlink (fun x h => by rw [← href]; exact h) hfin hin2 hdecl hd hn hfit hl hdg kk
theorem c_put {C : String} {T : u_T} {N index ci h0 : Nat} {fs : List Value} {ty0 : Nat → FieldType} {ty : FieldType} {v : Value} (X : Cc p s m args c cc nL own D cy A) (hP : va_P D vwCl ws H) (hD : va_D A ws) (hS : va_S A s.heap H locs) (hin : ∀ w ∈ u_ws C T N, w ∈ GW) (hty : ∀ k, k < N → parseFieldDescriptor (T k).2.2.1 = some (ty0 k)) (hnm : ∀ a, a < N → ∀ b, b < N → a ≠ b → (T a).2.1 ≠ (T b).2.1) (q0 : Nat) (he : ws[q0]? = some (h0, .inr (ci, fs))) (hc : vwCl[ci]? = some (C, T, N)) (k : Nat) (hk : k < N) (hlink : (Cond.fieldLink own index C (T k).2.1 (T k).2.2.1).before args s = true) (href : (T k).1 = C) (hfin : (T k).2.2.2 = false) (hd : parseFieldDescriptor (T k).2.2.1 = some ty) (hn : narrow ty v = v) (hfit : fits ty v = true) (hl : k < fs.length) (hdg : decode cc pc = .ok (.putfield index, 3))
    (kk : ∀ (H1 : Heap) (locs1 : List Loc), va_P D vwCl (ws.set q0 (h0, .inr (ci, fs.set k v))) H1 → va_D A (ws.set q0 (h0, .inr (ci, fs.set k v))) → va_S A s.heap H1 locs1 → W p l e R s m args below meth c H1 locs1 cells slots Q (F0 m (pc + 3) ls rest)) : W p l e R s m args below meth c H locs cells slots Q (F0 m pc ls (v :: .ref h0 :: rest)) :=
  va_put X.1 X.2.1 X.2.2.2.2.1 hin ty0 hty hnm X.2.2.2.1 X.2.2.2.2.2.1 hP hD hS q0 he hc k hk hlink (fun x h => by rw [← href]; exact h) hfin hd hn hfit hl hdg kk
theorem c_get {C : String} {T : u_T} {N index ci h0 : Nat} {fs : List Value} {v : Value} (X : Cc p s m args c cc nL own D cy A) (hP : va_P D vwCl ws H) (hin : ∀ w ∈ u_ws C T N, w ∈ GW) (q0 : Nat) (he : ws[q0]? = some (h0, .inr (ci, fs))) (hc : vwCl[ci]? = some (C, T, N)) (k : Nat) (hk : k < N) (hlink : (Cond.fieldLink own index C (T k).2.1 (T k).2.2.1).before args s = true) (href : (T k).1 = C) (hv : fs[k]? = some v) (hdg : decode cc pc = .ok (.getfield index, 3))
    (kk : W p l e R s m args below meth c H locs cells slots Q (F0 m (pc + 3) ls (v :: rest))) : W p l e R s m args below meth c H locs cells slots Q (F0 m pc ls (.ref h0 :: rest)) :=
  va_get X.1 X.2.1 X.2.2.2.2.1 hin X.2.2.2.1 X.2.2.2.2.2.1 hP q0 he hc k hk hlink (fun x h => by rw [← href]; exact h) hv hdg kk
theorem c_new {C : String} {T : u_T} {N ci index : Nat} {fs : List Value} (X : Cc p s m args c cc nL own D cy A) (hP : va_P D vwCl ws H) (hD : va_D A ws) (hS : va_S A s.heap H locs) (hin : ∀ w ∈ u_ws C T N, w ∈ GW) (ty : Nat → FieldType) (hty : ∀ k, k < N → parseFieldDescriptor (T k).2.2.1 = some (ty k)) (hcl : (Cond.classLink own index C).before args s = true) (hinst : (Cond.instantiable C N).before args s = true) (hini : (Cond.initialized C).before args s = true) (hc : vwCl[ci]? = some (C, T, N)) (hfs : ∀ j, j < N → defaultValue (ty j) = vp_V fs j) (hcells : cells + 1 ≤ R.cells) (hslots : slots + N ≤ R.slots) (hdg : decode cc pc = .ok (.new index, 3))
    (kk : ∀ (q : Nat) (H1 : Heap), va_P D vwCl (ws ++ [(q, .inr (ci, fs))]) H1 → va_D A (ws ++ [(q, .inr (ci, fs))]) → va_S A s.heap H1 locs → W p l e R s m args below meth c H1 locs (cells + 1) (slots + N) Q (F0 m (pc + 3) ls (.ref q :: rest))) : W p l e R s m args below meth c H locs cells slots Q (F0 m pc ls rest) :=
  va_new X.1 X.2.1 X.2.2.2.2.1 hin ty hty X.2.2.2.1 hcl hinst hini X.2.2.2.2.2.1 hP hD hS X.2.2.2.2.2.2.1 hc hfs hcells hslots hdg kk
theorem c_pre {As : List Value} {W0 : va_W} {q : Nat} {w0 : va_E} (X : Cc p s m args c cc nL own D cy A) (hP : va_P D vwCl (W0 ++ [(q, w0)]) H) (hD : va_D A (W0 ++ [(q, w0)])) : ∀ U : State, U.heap = H → s.WarmedH U.vm → va_Pc As (PreC D cy [(q, w0)] H.size) As.toArray U := by
  obtain ⟨-, -, -, -, -, hK, -, hN, hO⟩ := X
  intro U hU hWm
  have h1 : ∀ (k : Nat) (x : Nat × va_E), [(q, w0)][k]? = some x → (W0 ++ [(q, w0)])[W0.length + k]? = some x := fun k x hx => by
    rw [List.getElem?_append_right (Nat.le_add_right _ _), Nat.add_sub_cancel_left]; exact hx
  exact ⟨rfl, by rw [hU], by rw [hU]; exact fun k x hx => hP _ x (h1 k x hx), va_K.moved hWm.alike hK, ⟨fun i j x y hi hj hxy => by have := hD.1 _ _ x y (h1 i x hi) (h1 j y hj) hxy; omega, fun _ _ _ => trivial⟩, hN.warm hWm, hO.moved hWm.alike⟩
theorem c_after {W0 : va_W} {q : Nat} {w0 : va_E} {g : (Nat → Nat) → va_W} {mc2 ms2 : Nat} {a : Array Value} {st0 : List Value} (X : Cc p s m args c cc nL own D cy A) (hP : va_P D vwCl (W0 ++ [(q, w0)]) H) (hD : va_D A (W0 ++ [(q, w0)])) (hS : va_S A s.heap H locs)
    (hr : va_Run p l e R s m args below meth c H locs cells slots mc2 ms2 (F0 m pc ls st0) rest (va_Qv (fun r : Nat → Nat => r 0 = q) (fun r t => va_P D vwCl (g r) t.heap ∧ va_K D vwCl (tysC cy) t ∧ va_D (va_A [(q, w0)] H.size) (g r)) (va_A [(q, w0)] H.size) a) (va_A [(q, w0)] H.size))
    (kk : ∀ (r : Nat → Nat) (H1 : Heap) (locs1 : List Loc), r 0 = q → va_P D vwCl (W0 ++ g r) H1 → va_D A (W0 ++ g r) → va_S A s.heap H1 locs1 → W p l e R s m args below meth c H1 locs1 (cells + mc2) (slots + ms2) Q (F0 m (pc + 3) ls rest)) : W p l e R s m args below meth c H locs cells slots Q (F0 m pc ls st0) := by
  have hF : ∀ z, va_A [(q, w0)] H.size z → A z := by
    intro z hz
    rcases hz with ⟨k, e, hk⟩ | hz
    · exact hD.2 (W0.length + k) (z, e) (by rw [List.getElem?_append_right (Nat.le_add_right _ _), Nat.add_sub_cancel_left]; exact hk)
    · exact X.2.2.2.2.2.2.1 z (Nat.le_trans hS.1 hz)
  refine va_callv hr hS (fun z _ h => hF z h) hF (fun r t H1 locs1 ht hvm hpost hB hz1 hk1 hS1 => ?_)
  obtain ⟨hP1, hK1, hD1⟩ := hB
  rw [ht] at hP1
  obtain ⟨hP2, hD2⟩ := va_joinL hP hD hk1 hF hP1 hD1
  exact kk r H1 locs1 hpost hP2 hD2 hS1
theorem c_call {W0 : va_W} {q : Nat} {w0 : va_E} {g : (Nat → Nat) → va_W} {mc2 ms2 nA maxL index : Nat} {y : MethodName} {bytes : ByteArray} {rm : Room} {As st0 : List Value} (X : Cc p s m args c cc nL own D cy A) (hP : va_P D vwCl (W0 ++ [(q, w0)]) H) (hD : va_D A (W0 ++ [(q, w0)])) (hS : va_S A s.heap H locs) (hsz : ls.size = nL)
    (hg : GoodIn GW (wsG y bytes maxL none)) (hini : (Cond.initialized y.cls).before args s = true) (hlink : (Cond.methodLink own index y).before args s = true) (hinst : (Cond.instanceMethod y).before args s = true) (hy : y.name = "<init>") (hd : y.cls ≠ "java/lang/invoke/MethodHandle" ∧ y.cls ≠ "java/lang/invoke/VarHandle" ∧ (parseMethodDescriptor y.desc).map (fun d => d.parameters.length) = some nA) (hR : rm.cells = mc2 ∧ rm.slots = ms2 ∧ rm.frames + 1 ≤ R.frames ∧ 8 + (maxL + 11) + rm.locals ≤ R.locals)
    (hM : CC l y bytes maxL rm (.ref q :: As) D cy H.size q w0 g mc2 ms2) (hn : As.length = nA) (hst : st0 = As.reverse ++ .ref q :: rest) (hrest : (rest.map fun v => v.category).sum ≤ 8) (hdg : decode cc pc = .ok (.invokespecial index, 3)) (hcs : cells + mc2 ≤ R.cells ∧ slots + ms2 ≤ R.slots)
    (kk : ∀ (r : Nat → Nat) (H1 : Heap) (locs1 : List Loc), r 0 = q → va_P D vwCl (W0 ++ g r) H1 → va_D A (W0 ++ g r) → va_S A s.heap H1 locs1 → W p l e R s m args below meth c H1 locs1 (cells + mc2) (slots + ms2) Q (F0 m (pc + 3) ls rest)) : W p l e R s m args below meth c H locs cells slots Q (F0 m pc ls st0) :=
  c_after X hP hD hS (va_runI (rest := rest) (As := As) ⟨X.1, X.2.1, X.2.2.1, X.2.2.2.1, X.2.2.2.2.1⟩ hM (cwI nA X.2.2.2.2.1 hg rfl hR.1 hR.2.1 hini hlink hinst hy hd hR.2.2) ⟨PreC.blind, c_pre X hP hD⟩ rfl hn hsz hst (by show 2 * 0 + _ ≤ 8; omega) hdg hcs) kk
theorem c_callN {host : String} {W0 : va_W} {q : Nat} {w0 : va_E} {g : (Nat → Nat) → va_W} {mc2 ms2 nA maxL index : Nat} {y : MethodName} {bytes : ByteArray} {rm : Room} {As st0 : List Value} (X : Cc p s m args c cc nL own D cy A) (hP : va_P D vwCl (W0 ++ [(q, w0)]) H) (hD : va_D A (W0 ++ [(q, w0)])) (hS : va_S A s.heap H locs) (hsz : ls.size = nL)
    (hg : GoodIn GW (wsG y bytes maxL none)) (hini : (Cond.initialized y.cls).before args s = true) (hlink : va_Nw (.methodLinkNest own index y host) s) (hinst : (Cond.instanceMethod y).before args s = true) (hy : y.name = "<init>") (hd : y.cls ≠ "java/lang/invoke/MethodHandle" ∧ y.cls ≠ "java/lang/invoke/VarHandle" ∧ (parseMethodDescriptor y.desc).map (fun d => d.parameters.length) = some nA) (hR : rm.cells = mc2 ∧ rm.slots = ms2 ∧ rm.frames + 1 ≤ R.frames ∧ 8 + (maxL + 11) + rm.locals ≤ R.locals)
    (hM : CC l y bytes maxL rm (.ref q :: As) D cy H.size q w0 g mc2 ms2) (hn : As.length = nA) (hst : st0 = As.reverse ++ .ref q :: rest) (hrest : (rest.map fun v => v.category).sum ≤ 8) (hdg : decode cc pc = .ok (.invokespecial index, 3)) (hcs : cells + mc2 ≤ R.cells ∧ slots + ms2 ≤ R.slots)
    (kk : ∀ (r : Nat → Nat) (H1 : Heap) (locs1 : List Loc), r 0 = q → va_P D vwCl (W0 ++ g r) H1 → va_D A (W0 ++ g r) → va_S A s.heap H1 locs1 → W p l e R s m args below meth c H1 locs1 (cells + mc2) (slots + ms2) Q (F0 m (pc + 3) ls rest)) : W p l e R s m args below meth c H locs cells slots Q (F0 m pc ls st0) :=
  c_after X hP hD hS (va_runIN (rest := rest) (As := As) ⟨X.1, X.2.1, X.2.2.1, X.2.2.2.1, X.2.2.2.2.1⟩ hM ⟨va_cnB nA X.2.2.2.2.1 hg rfl hR.1 hR.2.1 hlink hini hd hR.2.2, hy, hinst⟩ ⟨PreC.blind, c_pre X hP hD⟩ rfl hn hsz hst (by show 2 * 0 + _ ≤ 8; omega) hdg hcs) kk
theorem c_vret {h0 : Nat} {g : (Nat → Nat) → va_W} (r : Nat → Nat) (hr0 : r 0 = h0) (X : Cc p s m args c cc nL own D cy A) (hr : meth.sig.returnType = none) (hlocks : meth.locks = false) (hP : va_P D vwCl ws H) (hD : va_D A ws) (hS : va_S A s.heap H locs) (hg : g r = ws) (hc : cells ≤ mc) (hs : slots ≤ ms) (hQ : MQ below (va_Qv (fun r : Nat → Nat => r 0 = h0) (fun r t => va_P D vwCl (g r) t.heap ∧ va_K D vwCl (tysC cy) t ∧ va_D A (g r)) A) args s mc ms A = Q) (hdg : decode cc pc = .ok (.return_, 1)) : W p l e R s m args below meth c H locs cells slots Q (F0 m pc ls []) := by
  subst hQ
  refine W.widen hc hs ?_
  exact W.vret X.1 X.2.1 hr (fun t ht hWm => ⟨⟨r, rfl, hr0, by rw [hg, ht]; exact hP, va_K.moved hWm.alike X.2.2.2.2.2.1, by rw [hg]; exact hD⟩, hS.F ht⟩) hS.2.2 hdg hlocks
variable {x0 : Nat × va_E} {W1 : va_W}
theorem c_newaH {atype : ArrayType} {ty : FieldType} {k t0 : Nat} {n : Int} {N' : Nat} {f0 : vp_A} (X : Cc p s m args c cc nL own D cy A) (hP : va_P D vwCl (x0 :: W1) H) (hD : va_D A (x0 :: W1)) (hS : va_S A s.heap H locs) (harr : (Cond.arrayClass (newarray.typeOf atype)).before args s = true) (hty : newarray.typeOf atype = ty) (ht : (tysC cy)[t0]? = some (cy k, ty)) (ha : ∀ cA : ClassId, vp_cell cA f0 = arrV cA N' (fun _ => defaultValue ty)) (hn : n = (N' : Int)) (hN : N' ≤ 60000) (hbytes : N' * componentBytes ty ≤ 536870912) (hc : cells + 1 ≤ R.cells) (hs : slots + N' ≤ R.slots) (hdg : decode cc pc = .ok (.newarray atype, 2))
    (kk : ∀ (q : Nat) (H1 : Heap), va_P D vwCl (x0 :: (W1 ++ [(q, .inl (cy k, f0))])) H1 → va_D A (x0 :: (W1 ++ [(q, .inl (cy k, f0))])) → va_S A s.heap H1 locs → W p l e R s m args below meth c H1 locs (cells + 1) (slots + N') Q (F0 m (pc + 2) ls (.ref q :: rest))) : W p l e R s m args below meth c H locs cells slots Q (F0 m pc ls (.int (i32 n) :: rest)) :=
  c_newa X hP hD hS harr hty ht ha hn hN hbytes hc hs hdg kk
theorem c_putFH {C : String} {T : u_T} {N index ci h0 : Nat} {fs fs' : List Value} {ty0 : Nat → FieldType} {ty : FieldType} {v : Value} (X : Cc p s m args c cc nL own D cy A) (hP : va_P D vwCl ((h0, .inr (ci, fs)) :: W1) H) (hD : va_D A ((h0, .inr (ci, fs)) :: W1)) (hS : va_S A s.heap H locs) (hin : ∀ w ∈ u_ws C T N, w ∈ GW) (hty : ∀ k, k < N → parseFieldDescriptor (T k).2.2.1 = some (ty0 k)) (hnm : ∀ a, a < N → ∀ b, b < N → a ≠ b → (T a).2.1 ≠ (T b).2.1) (hc : vwCl[ci]? = some (C, T, N)) (k : Nat) (hk : k < N) (hlink : (Cond.fieldLink own index C (T k).2.1 (T k).2.2.1).before args s = true) (href : (T k).1 = C) (hfin : (T k).2.2.2 = true) (hin2 : meth.name = "<init>") (hdecl : (T k).1 = own) (hd : parseFieldDescriptor (T k).2.2.1 = some ty) (hn : narrow ty v = v) (hfit : fits ty v = true) (hl : k < fs.length) (hf : fs.set k v = fs') (hdg : decode cc pc = .ok (.putfield index, 3))
    (kk : ∀ (H1 : Heap) (locs1 : List Loc), va_P D vwCl ((h0, .inr (ci, fs')) :: W1) H1 → va_D A ((h0, .inr (ci, fs')) :: W1) → va_S A s.heap H1 locs1 → W p l e R s m args below meth c H1 locs1 cells slots Q (F0 m (pc + 3) ls rest)) : W p l e R s m args below meth c H locs cells slots Q (F0 m pc ls (v :: .ref h0 :: rest)) := by
  subst hf; exact c_putF X hP hD hS hin hty hnm 0 rfl hc k hk hlink href hfin hin2 hdecl hd hn hfit hl hdg kk
theorem c_putH {C : String} {T : u_T} {N index ci h0 : Nat} {fs fs' : List Value} {ty0 : Nat → FieldType} {ty : FieldType} {v : Value} (X : Cc p s m args c cc nL own D cy A) (hP : va_P D vwCl ((h0, .inr (ci, fs)) :: W1) H) (hD : va_D A ((h0, .inr (ci, fs)) :: W1)) (hS : va_S A s.heap H locs) (hin : ∀ w ∈ u_ws C T N, w ∈ GW) (hty : ∀ k, k < N → parseFieldDescriptor (T k).2.2.1 = some (ty0 k)) (hnm : ∀ a, a < N → ∀ b, b < N → a ≠ b → (T a).2.1 ≠ (T b).2.1) (hc : vwCl[ci]? = some (C, T, N)) (k : Nat) (hk : k < N) (hlink : (Cond.fieldLink own index C (T k).2.1 (T k).2.2.1).before args s = true) (href : (T k).1 = C) (hfin : (T k).2.2.2 = false) (hd : parseFieldDescriptor (T k).2.2.1 = some ty) (hn : narrow ty v = v) (hfit : fits ty v = true) (hl : k < fs.length) (hf : fs.set k v = fs') (hdg : decode cc pc = .ok (.putfield index, 3))
    (kk : ∀ (H1 : Heap) (locs1 : List Loc), va_P D vwCl ((h0, .inr (ci, fs')) :: W1) H1 → va_D A ((h0, .inr (ci, fs')) :: W1) → va_S A s.heap H1 locs1 → W p l e R s m args below meth c H1 locs1 cells slots Q (F0 m (pc + 3) ls rest)) : W p l e R s m args below meth c H locs cells slots Q (F0 m pc ls (v :: .ref h0 :: rest)) := by
  subst hf; exact c_put X hP hD hS hin hty hnm 0 rfl hc k hk hlink href hfin hd hn hfit hl hdg kk
theorem c_getH {C : String} {T : u_T} {N index ci h0 : Nat} {fs : List Value} {v : Value} (X : Cc p s m args c cc nL own D cy A) (hP : va_P D vwCl ((h0, .inr (ci, fs)) :: W1) H) (hin : ∀ w ∈ u_ws C T N, w ∈ GW) (hc : vwCl[ci]? = some (C, T, N)) (k : Nat) (hk : k < N) (hlink : (Cond.fieldLink own index C (T k).2.1 (T k).2.2.1).before args s = true) (href : (T k).1 = C) (hv : fs[k]? = some v) (hdg : decode cc pc = .ok (.getfield index, 3))
    (kk : W p l e R s m args below meth c H locs cells slots Q (F0 m (pc + 3) ls (v :: rest))) : W p l e R s m args below meth c H locs cells slots Q (F0 m pc ls (.ref h0 :: rest)) :=
  c_get X hP hin 0 rfl hc k hk hlink href hv hdg kk
theorem c_newqH {C : String} {index k t0 : Nat} {n : Int} {N' : Nat} (X : Cc p s m args c cc nL own D cy A) (hP : va_P D vwCl (x0 :: W1) H) (hD : va_D A (x0 :: W1)) (hS : va_S A s.heap H locs) (hclink : (Cond.classLink own index C).before args s = true) (hover : va_AO C s) (ht : (tysC cy)[t0]? = some (cy k, .object C)) (hn : n = (N' : Int)) (hN : N' ≤ 60000) (hc : cells + 1 ≤ R.cells) (hs : slots + N' ≤ R.slots) (hdg : decode cc pc = .ok (.anewarray index, 3))
    (kk : ∀ (q : Nat) (H1 : Heap), va_P D vwCl (x0 :: (W1 ++ [(q, .inl (cy k, N', .inr (.inr (.inr (.inr (fun _ => none))))))])) H1 → va_D A (x0 :: (W1 ++ [(q, .inl (cy k, N', .inr (.inr (.inr (.inr (fun _ => none))))))])) → va_S A s.heap H1 locs → W p l e R s m args below meth c H1 locs (cells + 1) (slots + N') Q (F0 m (pc + 3) ls (.ref q :: rest))) : W p l e R s m args below meth c H locs cells slots Q (F0 m pc ls (.int (i32 n) :: rest)) :=
  c_newq X hP hD hS hclink hover ht hn hN hc hs hdg kk
end CROWS
