/-! ===== Paper's constructor: rows of levels, the loop of aboves ===== -/
theorem inner_z (cA : ClassId) (n : Nat) : Jvm.Free.Multi.innerC cA n (.int 0) = vp_cell cA (n, .inl (fun _ => 0)) := by
  show ({ cls := cA, slots := Array.replicate n (.int 0), vm := .none } : Cell) = { cls := cA, slots := Array.ofFn (n := n) fun _ => .int 0, vm := .none }
  congr 1
  apply Array.ext
  · simp
  · intro i h1 h2
    simp
section CX3
variable {p : Program} {l : Launch} {e : Env} {R : Room} {s : State} {m : MethodId} {args : Array Value} {below : List Frame} {meth : Method} {c : Code} {H : Heap} {locs : List Loc} {cells slots : Nat} {Q : State → Prop}
variable {cc : ByteArray} {nL : Nat} {own : String} {D : va_G} {cy : Nat → ClassId} {A : Nat → Prop} {pc : Nat} {ls : Array Slot} {rest : List Value} {mc ms : Nat} {x0 : Nat × va_E} {W1 : va_W}
theorem c_mnaH {index : Nat} (X : Cc p s m args c cc nL own D cy A) (hP : va_P D vwCl (x0 :: W1) H) (hD : va_D A (x0 :: W1)) (hS : va_S A s.heap H locs) (hclink : (Cond.classLink own index "[[I").before args s = true) (harr : (Cond.arrayClass FieldType.int).before args s = true) (hc : cells + 5 ≤ R.cells) (hs : slots + 648 ≤ R.slots) (hdg : decode cc pc = .ok (.multianewarray index 2, 4))
    (kk : ∀ (q : Nat) (r : Nat → Nat) (H1 : Heap), va_P D vwCl (x0 :: ((((((W1 ++ [(q, .inl (cy 7, 4, .inr (.inr (.inr (.inr (fun i => if i < 4 then some (r i) else none))))))]) ++ [(r 0, .inl (cy 1, 161, .inl (fun _ => 0)))]) ++ [(r 1, .inl (cy 1, 161, .inl (fun _ => 0)))]) ++ [(r 2, .inl (cy 1, 161, .inl (fun _ => 0)))]) ++ [(r 3, .inl (cy 1, 161, .inl (fun _ => 0)))]))) H1 →
      va_D A (x0 :: ((((((W1 ++ [(q, .inl (cy 7, 4, .inr (.inr (.inr (.inr (fun i => if i < 4 then some (r i) else none))))))]) ++ [(r 0, .inl (cy 1, 161, .inl (fun _ => 0)))]) ++ [(r 1, .inl (cy 1, 161, .inl (fun _ => 0)))]) ++ [(r 2, .inl (cy 1, 161, .inl (fun _ => 0)))]) ++ [(r 3, .inl (cy 1, 161, .inl (fun _ => 0)))]))) → va_S A s.heap H1 locs →
      W p l e R s m args below meth c H1 locs (cells + 5) (slots + 648) Q (F0 m (pc + 4) ls (.ref q :: rest))) : W p l e R s m args below meth c H locs cells slots Q (F0 m pc ls (.int (i32 161) :: .int (i32 4) :: rest)) := by
  have hcy : s.vm.findClass (FieldType.array FieldType.int).toString = some (cy 1) := (X.2.2.2.2.2.1.2 0 _ rfl).2
  have hP0 : va_P D vwCl ((x0 :: W1) ++ va_pl [] (fun _ => .inl (0, 0, .inl fun _ => 0))) H := by rw [show va_pl [] (fun _ => (.inl (0, 0, .inl fun _ => 0) : va_E)) = [] from rfl, List.append_nil]; exact hP
  have hD0 : va_D A ((x0 :: W1) ++ va_pl [] (fun _ => .inl (0, 0, .inl fun _ => 0))) := by rw [show va_pl [] (fun _ => (.inl (0, 0, .inl fun _ => 0) : va_E)) = [] from rfl, List.append_nil]; exact hD
  refine va_mna (ty := .int) (z := (161, .inl (fun _ => 0))) X.1 X.2.1 X.2.2.2.1 hclink X.2.2.2.2.2.2.2.2.2.2.2 harr hcy X.2.2.2.2.2.1 hP0 hD0 hS X.2.2.2.2.2.2.1 (N' := 4) (K' := 161) (by decide) (by decide) (by rw [i32_clamp (by decide)]; rfl) (by rw [i32_clamp (by decide)]; rfl) (Nat.le_of_ble_eq_true rfl) (Nat.le_of_ble_eq_true rfl) (Nat.le_of_ble_eq_true rfl) rfl rfl hc hs (fun cA => inner_z cA 161) hdg (fun q r cA H1 hinj hnot hK1 hP1 hD1 hS1 => ?_)
  have e1 : cA = cy 7 := by
    refine cy_eq hK1 (i := (tysC cy).length) (j := 6) (by rw [List.getElem?_append_right (Nat.le_refl _), Nat.sub_self]; rfl) ?_
    rfl
  subst e1
  rw [← vr_rows (fun a _ => List.not_mem_nil)] at hP1 hD1
  have e2 : ∀ (Z : Nat × va_E), ((x0 :: W1) ++ [Z]) ++ (va_pl [] (fun _ => (.inl (0, 0, .inl fun _ => 0) : va_E)) ++ ((List.range 4).map r).map (fun a => (a, (.inl (cy 1, 161, .inl fun _ => 0) : va_E)))) = x0 :: (((((W1 ++ [Z]) ++ [(r 0, .inl (cy 1, 161, .inl (fun _ => 0)))]) ++ [(r 1, .inl (cy 1, 161, .inl (fun _ => 0)))]) ++ [(r 2, .inl (cy 1, 161, .inl (fun _ => 0)))]) ++ [(r 3, .inl (cy 1, 161, .inl (fun _ => 0)))]) := by
    intro Z
    rw [show va_pl [] (fun _ => (.inl (0, 0, .inl fun _ => 0) : va_E)) = [] from rfl, show (List.range 4).map r = [r 0, r 1, r 2, r 3] from rfl]
    simp only [List.append_assoc, List.cons_append, List.nil_append, List.map_cons, List.map_nil]
  rw [e2] at hP1 hD1
  exact kk q r H1 hP1 hD1 hS1
theorem c_newH {C : String} {T : u_T} {N ci index : Nat} {fs : List Value} (X : Cc p s m args c cc nL own D cy A) (hP : va_P D vwCl (x0 :: W1) H) (hD : va_D A (x0 :: W1)) (hS : va_S A s.heap H locs) (hin : ∀ w ∈ u_ws C T N, w ∈ GW) (ty : Nat → FieldType) (hty : ∀ k, k < N → parseFieldDescriptor (T k).2.2.1 = some (ty k)) (hcl : (Cond.classLink own index C).before args s = true) (hinst : (Cond.instantiable C N).before args s = true) (hini : (Cond.initialized C).before args s = true) (hc : vwCl[ci]? = some (C, T, N)) (hfs : ∀ j, j < N → defaultValue (ty j) = vp_V fs j) (hcells : cells + 1 ≤ R.cells) (hslots : slots + N ≤ R.slots) (hdg : decode cc pc = .ok (.new index, 3))
    (kk : ∀ (q : Nat) (H1 : Heap), va_P D vwCl (x0 :: (W1 ++ [(q, .inr (ci, fs))])) H1 → va_D A (x0 :: (W1 ++ [(q, .inr (ci, fs))])) → va_S A s.heap H1 locs → W p l e R s m args below meth c H1 locs (cells + 1) (slots + N) Q (F0 m (pc + 3) ls (.ref q :: rest))) : W p l e R s m args below meth c H locs cells slots Q (F0 m pc ls rest) :=
  c_new X hP hD hS hin ty hty hcl hinst hini hc hfs hcells hslots hdg kk
theorem c_callH {q : Nat} {w0 : va_E} {g : (Nat → Nat) → va_W} {mc2 ms2 nA maxL index : Nat} {y : MethodName} {bytes : ByteArray} {rm : Room} {As st0 : List Value} (X : Cc p s m args c cc nL own D cy A) (hP : va_P D vwCl (x0 :: (W1 ++ [(q, w0)])) H) (hD : va_D A (x0 :: (W1 ++ [(q, w0)]))) (hS : va_S A s.heap H locs) (hsz : ls.size = nL)
    (hg : GoodIn GW (wsG y bytes maxL none)) (hini : (Cond.initialized y.cls).before args s = true) (hlink : (Cond.methodLink own index y).before args s = true) (hinst : (Cond.instanceMethod y).before args s = true) (hy : y.name = "<init>") (hd : y.cls ≠ "java/lang/invoke/MethodHandle" ∧ y.cls ≠ "java/lang/invoke/VarHandle" ∧ (parseMethodDescriptor y.desc).map (fun d => d.parameters.length) = some nA) (hR : rm.cells = mc2 ∧ rm.slots = ms2 ∧ rm.frames + 1 ≤ R.frames ∧ 8 + (maxL + 11) + rm.locals ≤ R.locals)
    (hM : CC l y bytes maxL rm (.ref q :: As) D cy H.size q w0 g mc2 ms2) (hn : As.length = nA) (hst : st0 = As.reverse ++ .ref q :: rest) (hrest : (rest.map fun v => v.category).sum ≤ 8) (hdg : decode cc pc = .ok (.invokespecial index, 3)) (hcs : cells + mc2 ≤ R.cells ∧ slots + ms2 ≤ R.slots)
    (kk : ∀ (r : Nat → Nat) (H1 : Heap) (locs1 : List Loc), r 0 = q → va_P D vwCl (x0 :: (W1 ++ g r)) H1 → va_D A (x0 :: (W1 ++ g r)) → va_S A s.heap H1 locs1 → W p l e R s m args below meth c H1 locs1 (cells + mc2) (slots + ms2) Q (F0 m (pc + 3) ls rest)) : W p l e R s m args below meth c H locs cells slots Q (F0 m pc ls st0) :=
  c_call (W0 := x0 :: W1) X hP hD hS hsz hg hini hlink hinst hy hd hR hM hn hst hrest hdg hcs kk
theorem c_callNH {host : String} {q : Nat} {w0 : va_E} {g : (Nat → Nat) → va_W} {mc2 ms2 nA maxL index : Nat} {y : MethodName} {bytes : ByteArray} {rm : Room} {As st0 : List Value} (X : Cc p s m args c cc nL own D cy A) (hP : va_P D vwCl (x0 :: (W1 ++ [(q, w0)])) H) (hD : va_D A (x0 :: (W1 ++ [(q, w0)]))) (hS : va_S A s.heap H locs) (hsz : ls.size = nL)
    (hg : GoodIn GW (wsG y bytes maxL none)) (hini : (Cond.initialized y.cls).before args s = true) (hlink : va_Nw (.methodLinkNest own index y host) s) (hinst : (Cond.instanceMethod y).before args s = true) (hy : y.name = "<init>") (hd : y.cls ≠ "java/lang/invoke/MethodHandle" ∧ y.cls ≠ "java/lang/invoke/VarHandle" ∧ (parseMethodDescriptor y.desc).map (fun d => d.parameters.length) = some nA) (hR : rm.cells = mc2 ∧ rm.slots = ms2 ∧ rm.frames + 1 ≤ R.frames ∧ 8 + (maxL + 11) + rm.locals ≤ R.locals)
    (hM : CC l y bytes maxL rm (.ref q :: As) D cy H.size q w0 g mc2 ms2) (hn : As.length = nA) (hst : st0 = As.reverse ++ .ref q :: rest) (hrest : (rest.map fun v => v.category).sum ≤ 8) (hdg : decode cc pc = .ok (.invokespecial index, 3)) (hcs : cells + mc2 ≤ R.cells ∧ slots + ms2 ≤ R.slots)
    (kk : ∀ (r : Nat → Nat) (H1 : Heap) (locs1 : List Loc), r 0 = q → va_P D vwCl (x0 :: (W1 ++ g r)) H1 → va_D A (x0 :: (W1 ++ g r)) → va_S A s.heap H1 locs1 → W p l e R s m args below meth c H1 locs1 (cells + mc2) (slots + ms2) Q (F0 m (pc + 3) ls rest)) : W p l e R s m args below meth c H locs cells slots Q (F0 m pc ls st0) :=
  c_callN (W0 := x0 :: W1) X hP hD hS hsz hg hini hlink hinst hy hd hR hM hn hst hrest hdg hcs kk
theorem aboves_step (i : Nat) (hi : i < 161) : upd (fun j => if j < i then i32 (-2) else 0) (i32 (i : Int)).toNatClampNeg (i32 (-2)) = fun j => if j < i + 1 then i32 (-2) else 0 := by
  rw [i32_clamp ⟨by omega, by omega⟩, Int.toNat_natCast]
  funext j
  unfold upd
  by_cases h : j = i
  · rw [if_pos h, if_pos (by omega)]
  · rw [if_neg h]; dsimp only
    by_cases h2 : j < i
    · rw [if_pos h2, if_pos (by omega)]
    · rw [if_neg h2, if_neg (by omega)]
def hX3 (cy : Nat → ClassId) (bk : Nat) (r : Nat → Nat) (F : Nat → Int32) : va_W := [(r 0, .inr (3, [.ref bk, .ref (r 2), .int 0, .ref (r 4), .ref (r 5), .ref (r 6), .ref (r 7), .ref (r 8), .ref (r 9), .ref (r 10), .ref (r 11), .ref (r 12)])), (r 2, .inl (cy 1, 160, .inl (fun _ => 0))), (r 4, .inl (cy 1, 160, .inl (fun _ => 0))), (r 5, .inl (cy 2, 160, .inl (fun _ => 0))), (r 6, .inl (cy 2, 160, .inl (fun _ => 0))), (r 7, .inl (cy 1, 160, .inl (fun _ => 0))), (r 8, .inl (cy 2, 160, .inl (fun _ => 0))), (r 9, .inl (cy 2, 160, .inl (fun _ => 0))), (r 10, .inl (cy 1, 161, .inl (fun _ => 0))), (r 11, .inl (cy 1, 161, .inl F)), (r 12, .inl (cy 7, 4, .inr (.inr (.inr (.inr (fun i => if i < 4 then some (r (13 + i)) else none)))))), (r (13 + 0), .inl (cy 1, 161, .inl (fun _ => 0))), (r (13 + 1), .inl (cy 1, 161, .inl (fun _ => 0))), (r (13 + 2), .inl (cy 1, 161, .inl (fun _ => 0))), (r (13 + 3), .inl (cy 1, 161, .inl (fun _ => 0)))]
theorem gX3_eq (cy : Nat → ClassId) (bk : Nat) (r : Nat → Nat) : gX3 cy bk r = hX3 cy bk r (fun j => if j < 161 then i32 (-2) else 0) := rfl
theorem lp_X3 {bk : Nat} {r : Nat → Nat} (X : Cc p s m args c cX3_init 3 RX3 D cy A) (hr : meth.sig.returnType = none) (hlocks : meth.locks = false) (hc : cells ≤ mc) (hs : slots ≤ ms) (hQ : MQ below (va_Qv (fun r' : Nat → Nat => r' 0 = r 0) (fun r' t => va_P D vwCl (gX3 cy bk r') t.heap ∧ va_K D vwCl (tysC cy) t ∧ va_D A (gX3 cy bk r')) A) args s mc ms A = Q) :
    ∀ (k i : Nat), i + k = 161 → ∀ (H : Heap) (locs : List Loc) (ls : Array Slot), va_P D vwCl (hX3 cy bk r (fun j => if j < i then i32 (-2) else 0)) H → va_D A (hX3 cy bk r (fun j => if j < i then i32 (-2) else 0)) → va_S A s.heap H locs → lv_has ls 3 [(2, .int (i32 (i : Int))), (0, .ref (r 0)), (1, .ref bk)] → W p l e R s m args below meth c H locs cells slots Q (F0 m 104 ls []) := by
  have hx := X.1
  have hb := X.2.1
  have hG := X.2.2.2.2.1
  intro k
  induction k with
  | zero =>
    intro i hi H locs ls hP hD hS hl
    have hi : i = 161 := by omega
    subst hi
    refine lv_iload_n hx hb dX3_init_104 rfl (lv_at hl 0 rfl) ?_
    refine m_sipush (v := 161) hx hb dX3_init_105 (by decide) ?_
    refine lv_icmp_ge (tgt := 125) hx hb dX3_init_108 (by decide) (fun _ => ?_) (fun q => absurd ((i32_le (by decide) (by decide)).2 (by decide)) q)
    exact c_vret r rfl X hr hlocks hP hD hS rfl hc hs hQ dX3_init_125
  | succ k ih =>
    intro i hi H locs ls hP hD hS hl
    have hR : inR (i : Int) := ⟨by omega, by omega⟩
    refine lv_iload_n hx hb dX3_init_104 rfl (lv_at hl 0 rfl) ?_
    refine m_sipush (v := 161) hx hb dX3_init_105 (by decide) ?_
    refine lv_icmp_ge (tgt := 125) hx hb dX3_init_108 (by decide) (fun q => absurd ((i32_le (by decide) hR).1 q) (by omega)) (fun _ => ?_)
    refine lv_aload_n hx hb dX3_init_111 rfl (lv_at hl 1 rfl) ?_
    refine c_get X hP i_X3 0 rfl rfl 10 (by decide) (hG _ mw105) rfl rfl dX3_init_112 ?_
    refine lv_iload_n hx hb dX3_init_115 rfl (lv_at hl 0 rfl) ?_
    refine m_bipush (v := -2) hx hb dX3_init_116 (by decide) ?_
    refine va_iast X.1 X.2.1 X.2.2.2.2.2.1 hP hD hS 9 0 rfl rfl ((i32_in hR).2 ⟨by omega, by omega⟩) dX3_init_118 (fun H1 locs1 hP1 hD1 hS1 => ?_)
    rw [aboves_step i (by omega)] at hP1 hD1
    refine lv_iinc (v := i32 ((i + 1 : Nat) : Int)) (k := 0) (lv' := [(2, .int (i32 ((i + 1 : Nat) : Int))), (0, .ref (r 0)), (1, .ref bk)]) hx hb dX3_init_119 hl rfl (by rw [show (Int32.ofInt 1) = i32 1 from rfl, i32_add]; rfl) (by decide) rfl (fun ls1 hl1 => ?_)
    refine lv_goto (tgt := 104) hx hb dX3_init_122 (by decide) ?_
    exact ih (i + 1) (by omega) H1 locs1 ls1 hP1 hD1 hS1 hl1
end CX3
