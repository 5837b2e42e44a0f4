section ROW29
variable {p : Program} {l : Launch} {e : Env} {R : Room} {s : State} {m : MethodId} {args : Array Value} {below : List Frame} {meth : Method} {c : Code} {H : Heap} {locs : List Loc} {cells slots : Nat} {Q : State → Prop}
variable {cc : ByteArray} {nL : Nat} {own : String} {D : va_G} {cy : Nat → ClassId} {ad : Nat → Nat} {nm nv : Nat} {A : Nat → Prop} {σ : St} {pc : Nat} {ls : Array Slot} {rest : List Value} {ρ : Type} {r : ρ}
theorem m_callSv {y : MethodName} {bytes : ByteArray} {maxL index nA : Nat} {ret : Option FieldType} {rm : Room} {F : Option St} {k : St → Option ρ} {As st0 : List Value} (X : Cx p s m args c cc nL own D cy ad nm nv A) (hW : Wd D cy ad nm nv σ H) (hS : va_S A s.heap H locs) (hsz : ls.size = nL)
    (hg : GoodIn GW (wsS own index y (wsG y bytes maxL ret))) (hd : y.cls = own ∧ y.cls ≠ "java/lang/invoke/MethodHandle" ∧ y.cls ≠ "java/lang/invoke/VarHandle" ∧ (parseMethodDescriptor y.desc).map (fun d => d.parameters.length) = some nA) (hR : rm.cells = 0 ∧ rm.slots = 0 ∧ rm.frames + 1 ≤ R.frames ∧ 8 + (maxL + 11) + rm.locals ≤ R.locals)
    (hM : ∀ σ2, F = some σ2 → CV l y bytes maxL ret rm As D cy ad nm nv H.size σ σ2) (hf : b1 F k = some r) (hn : As.length = nA) (hst : st0 = As.reverse ++ rest) (hrest : (rest.map fun v => v.category).sum ≤ 8) (hdg : decode cc pc = .ok (.invokestatic index, 3)) (hcs : cells ≤ R.cells ∧ slots ≤ R.slots)
    (kk : ∀ (σ2 : St) (H1 : Heap) (locs1 : List Loc), Wd D cy ad nm nv σ2 H1 → va_S A s.heap H1 locs1 → k σ2 = some r → W p l e R s m args below meth c H1 locs1 cells slots Q (F0 m (pc + 3) ls rest)) : W p l e R s m args below meth c H locs cells slots Q (F0 m pc ls st0) := by
  cases F with
  | none => cases hf
  | some σ2 =>
    have hM := hM σ2 rfl
    have hfr := m_free X hS
    refine va_callv (va_runS (rest := rest) (As := As) ⟨X.1, X.2.1, X.2.2.1, X.2.2.2.1, X.2.2.2.2.1⟩ hM (cwS nA X.2.2.2.2.1 hg rfl hR.1 hR.2.1 hd hR.2.2) ⟨PreW.blind, m_pre (y := y) X hW⟩ rfl hn hsz hst (by show 2 * 0 + _ ≤ 8; omega) hdg ⟨hcs.1, hcs.2⟩) hS (fun q _ h => hfr q h) hfr (fun u t H1 locs1 ht hvm hpost hB _ _ hS1 => ?_)
    obtain rfl := hpost
    have hW1 := hB.1
    rw [ht] at hW1
    exact kk _ H1 locs1 hW1 hS1 hf
end ROW29
