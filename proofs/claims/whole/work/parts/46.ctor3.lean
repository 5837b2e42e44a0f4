/-! ===== Paper's constructor: rows of levels, the loop of aboves ===== -/
section CX3
variable {p : Program} {l : Launch} {e : Env} {R : Room} {s : State} {m : MethodId} {args : Array Value} {below : List Frame} {meth : Method} {c : Code} {H : Heap} {locs : List Loc} {cells slots : Nat} {Q : State → Prop}
variable {cc : ByteArray} {nL : Nat} {own : String} {D : va_G} {cy : Nat → ClassId} {A : Nat → Prop} {pc : Nat} {ls : Array Slot} {rest : List Value} {mc ms : Nat} {x0 : Nat × va_E} {W1 : va_W}
theorem c_mnaH {index : Nat} (X : Cc p s m args c cc nL own D cy A) (hP : va_P D vwCl (x0 :: W1) H) (hD : va_D A (x0 :: W1)) (hS : va_S A s.heap H locs) (hclink : (Cond.classLink own index "[[I").before args s = true) (harr : (Cond.arrayClass FieldType.int).before args s = true) (hc : cells + 5 ≤ R.cells) (hs : slots + 648 ≤ R.slots) (hdg : decode cc pc = .ok (.multianewarray index 2, 4))
    (kk : ∀ (q : Nat) (r : Nat → Nat) (H1 : Heap), va_P D vwCl (x0 :: ((((((W1 ++ [(q, .inl (cy 7, 4, .inr (.inr (.inr (.inr (fun i => if i < 4 then some (r i) else none))))))]) ++ [(r 0, .inl (cy 1, 161, .inl (fun _ => 0)))]) ++ [(r 1, .inl (cy 1, 161, .inl (fun _ => 0)))]) ++ [(r 2, .inl (cy 1, 161, .inl (fun _ => 0)))]) ++ [(r 3, .inl (cy 1, 161, .inl (fun _ => 0)))]))) H1 →
      va_D A (x0 :: ((((((W1 ++ [(q, .inl (cy 7, 4, .inr (.inr (.inr (.inr (fun i => if i < 4 then some (r i) else none))))))]) ++ [(r 0, .inl (cy 1, 161, .inl (fun _ => 0)))]) ++ [(r 1, .inl (cy 1, 161, .inl (fun _ => 0)))]) ++ [(r 2, .inl (cy 1, 161, .inl (fun _ => 0)))]) ++ [(r 3, .inl (cy 1, 161, .inl (fun _ => 0)))]))) → va_S A s.heap H1 locs →
      W p l e R s m args below meth c H1 locs (cells + 5) (slots + 648) Q (F0 m (pc + 4) ls (.ref q :: rest))) : W p l e R s m args below meth c H locs cells slots Q (F0 m pc ls (.int (i32 161) :: .int (i32 4) :: rest)) := by
  have hcy : s.vm.findClass (FieldType.array FieldType.int).toString = some (cy 1) := (X.2.2.2.2.2.1.2 0 _ rfl).2
  have hP0 : va_P D vwCl ((x0 :: W1) ++ va_pl [] (fun _ => .inl (0, 0, .inl fun _ => 0))) H := by rw [show va_pl [] (fun _ => (.inl (0, 0, .inl fun _ => 0) : va_E)) = [] from rfl, List.append_nil]; exact hP
  have hD0 : va_D A ((x0 :: W1) ++ va_pl [] (fun _ => .inl (0, 0, .inl fun _ => 0))) := by rw [show va_pl [] (fun _ => (.inl (0, 0, .inl fun _ => 0) : va_E)) = [] from rfl, List.append_nil]; exact hD
  refine va_mna (ty := .int) (z := (161, .inl (fun _ => 0))) X.1 X.2.1 X.2.2.2.1 hclink X.2.2.2.2.2.2.2.2.2.2.2 harr hcy X.2.2.2.2.2.1 hP0 hD0 hS X.2.2.2.2.2.2.1 (N' := 4) (K' := 161) (by decide) (by decide) (by rw [i32_clamp (by decide)]; rfl) (by rw [i32_clamp (by decide)]; rfl) (Nat.le_of_ble_eq_true rfl) (Nat.le_of_ble_eq_true rfl) (Nat.le_of_ble_eq_true rfl) rfl rfl hc hs (fun cA => rfl) hdg (fun q r cA H1 hinj hnot hK1 hP1 hD1 hS1 => ?_)
  have e1 : cA = cy 7 := by
    refine cy_eq hK1 (i := (tysC cy).length) (j := 6) (by rw [List.getElem?_append_right (Nat.le_refl _), Nat.sub_self]; rfl) ?_
    rfl
  subst e1
  rw [← vr_rows (fun a _ => List.not_mem_nil)] at hP1 hD1
  have e2 : ∀ (Z : Nat × va_E), ((x0 :: W1) ++ [Z]) ++ (va_pl [] (fun _ => (.inl (0, 0, .inl fun _ => 0) : va_E)) ++ ((List.range 4).map r).map (fun a => (a, (.inl (cy 1, 161, .inl fun _ => 0) : va_E)))) = x0 :: (((((W1 ++ [Z]) ++ [(r 0, .inl (cy 1, 161, .inl (fun _ => 0)))]) ++ [(r 1, .inl (cy 1, 161, .inl (fun _ => 0)))]) ++ [(r 2, .inl (cy 1, 161, .inl (fun _ => 0)))]) ++ [(r 3, .inl (cy 1, 161, .inl (fun _ => 0)))]) := by
    intro Z
    rw [show va_pl [] (fun _ => (.inl (0, 0, .inl fun _ => 0) : va_E)) = [] from rfl, show (List.range 4).map r = [r 0, r 1, r 2, r 3] from rfl]
    simp only [List.append_assoc, List.cons_append, List.nil_append, List.map_cons, List.map_nil]
  rw [e2] at hP1 hD1
  exact kk q r H1 hP1 hD1 hS1
end CX3
