/-! ===== orders ===== -/
def key (T : St) (x : Int) : Int := 4 * T 10 x.toNat + T 9 x.toNat
def TS (T : St) (N : Nat) : Prop := (OL T N).Pairwise (fun x y => key T x < key T y) ∧ ∀ x, x ∈ OL T N ↔ 0 ≤ x ∧ x < (N : Int)
theorem sorted_unique {k : Int → Int} : ∀ (L M : List Int), L.Pairwise (fun x y => k x < k y) → M.Pairwise (fun x y => k x < k y) → (∀ x, x ∈ L ↔ x ∈ M) → L = M := by
  intro L
  induction L with
  | nil =>
    intro M _ _ h
    cases M with
    | nil => rfl
    | cons y M => exact absurd ((h y).mpr List.mem_cons_self) List.not_mem_nil
  | cons x L ih =>
    intro M hL hM h
    cases M with
    | nil => exact absurd ((h x).mp List.mem_cons_self) List.not_mem_nil
    | cons y M =>
      rw [List.pairwise_cons] at hL hM
      have hxy : x = y := by
        rcases List.mem_cons.mp ((h x).mp List.mem_cons_self) with q | q
        · exact q
        · rcases List.mem_cons.mp ((h y).mpr List.mem_cons_self) with q2 | q2
          · exact q2.symm
          · have := hM.1 x q; have := hL.1 y q2; omega
      subst hxy
      congr 1
      refine ih M hL.2 hM.2 (fun z => ⟨fun hz => ?_, fun hz => ?_⟩)
      · rcases List.mem_cons.mp ((h z).mp (List.mem_cons_of_mem _ hz)) with q | q
        · subst q; have := hL.1 z hz; omega
        · exact q
      · rcases List.mem_cons.mp ((h z).mpr (List.mem_cons_of_mem _ hz)) with q | q
        · subst q; have := hM.1 z hz; omega
        · exact q
theorem sorted_ins {k : Int → Int} {L : List Int} {q : Nat} {a : Int} (hL : L.Pairwise (fun x y => k x < k y)) (h1 : ∀ x, x ∈ L.take q → k x < k a) (h2 : ∀ x, x ∈ L.drop q → k a < k x) : (insA L q a).Pairwise (fun x y => k x < k y) := by
  unfold insA
  rw [← List.take_append_drop q L, List.pairwise_append] at hL
  rw [List.pairwise_append, List.pairwise_cons]
  refine ⟨hL.1, ⟨h2, hL.2.1⟩, fun x hx y hy => ?_⟩
  rcases List.mem_cons.mp hy with rfl | hy
  · exact h1 x hx
  · exact hL.2.2 x hx y hy
theorem sorted_take {k : Int → Int} {L : List Int} {q : Nat} {c : Int} (hL : L.Pairwise (fun x y => k x < k y)) (hq : q < L.length) (h : k (L.getD q 0) < c) : ∀ x, x ∈ L.take (q + 1) → k x < c := by
  intro x hx
  rw [List.take_succ, List.mem_append] at hx
  rcases hx with hx | hx
  · have e : L = L.take q ++ L.getD q 0 :: L.drop (q + 1) := by rw [← drop_cons hq, List.take_append_drop]
    rw [e, List.pairwise_append] at hL
    have := hL.2.2 x hx (L.getD q 0) List.mem_cons_self
    omega
  · rw [List.getElem?_eq_getElem hq] at hx
    have : x = L.getD q 0 := by
      rw [List.getD_eq_getElem?_getD, List.getElem?_eq_getElem hq]
      simpa using hx
    rw [this]; exact h
theorem uOne_ne {T : St} {N : Nat} {C : St} {a : Int} {q : Nat} (h : q ≠ 9) : uOne T N C a q = C q := by
  unfold uOne
  split
  · exact st_fn h
  · rfl
theorem uFold_ne {T : St} {N : Nat} {q : Nat} (h : q ≠ 9) : ∀ (L : List Int) (C : St), L.foldl (uOne T N) C q = C q := by
  intro L
  induction L with
  | nil => intro C; rfl
  | cons x L ih => intro C; rw [List.foldl_cons, ih, uOne_ne h]
theorem uFold_b {T : St} {N : Nat} : ∀ (L : List Int) (C : St), (∀ i, isB (C 9 i)) → ∀ i, isB (L.foldl (uOne T N) C 9 i) := by
  intro L
  induction L with
  | nil => intro C h; exact h
  | cons x L ih =>
    intro C h
    rw [List.foldl_cons]
    refine ih _ ?_
    unfold uOne
    split
    · exact isB_st h (by split; exact Or.inr rfl; exact Or.inl rfl)
    · exact h
section ORD
variable {T σ : St} {N n o fr : Nat}
theorem TS.ne (hs : TS T N) : ∀ x y : Int, 0 ≤ x ∧ x < (N : Int) → 0 ≤ y ∧ y < (N : Int) → x ≠ y → key T x ≠ key T y := by
  intro x y hx hy hxy hk
  obtain ⟨A, B, hAB⟩ := List.append_of_mem ((hs.2 x).mpr hx)
  have hy2 := (hs.2 y).mpr hy
  have hp := hs.1
  rw [hAB] at hy2 hp
  rw [List.pairwise_append, List.pairwise_cons] at hp
  rw [List.mem_append, List.mem_cons] at hy2
  rcases hy2 with q | q | q
  · have := hp.2.2 y q x List.mem_cons_self; omega
  · exact hxy q.symm
  · have := hp.2.1.1 y q; omega
end ORD

