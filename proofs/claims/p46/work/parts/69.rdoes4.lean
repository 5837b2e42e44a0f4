/-! ===== an element in the reference; all acts ===== -/
theorem tb1 {j : Nat} (h : j < 32) : tb 1 j = decide (j = 0) := by
  have e : ∀ j : Fin 32, tb 1 j.val = decide (j.val = 0) := by decide +kernel
  exact e ⟨j, h⟩
theorem tb2 {j : Nat} (h : j < 32) : tb 2 j = decide (j = 1) := by
  have e : ∀ j : Fin 32, tb 2 j.val = decide (j.val = 1) := by decide +kernel
  exact e ⟨j, h⟩
theorem BR_0 : BR 0 0 0 := ⟨fun j _ => rfl, fun j _ => by rw [tb_zero, tb_zero]⟩
/-- the marks and covers of a new element between two others -/
theorem BR_new {x y m1 c1 m2 c2 : Int} (h1 : BR x m1 c1) (h2 : BR y m2 c2) : BR (band x (bor y 1)) (bor (band m1 1) (band (band m1 m2) 2)) (band c1 c2) := by
  refine ⟨fun j hj => ?_, fun j hj => ?_⟩
  · rw [tb_and, tb_or, tb_or, tb_and, tb_and, tb_and, tb1 (by omega), tb2 (by omega), h1.1 j hj, h2.1 j hj]
    rcases (show j = 0 ∨ j = 1 by omega) with rfl | rfl
    · cases tb m1 0 <;> cases tb m2 0 <;> rfl
    · cases tb m1 1 <;> cases tb m2 1 <;> rfl
  · rw [tb_and, tb_or, tb_and, tb1 (by omega), decide_eq_false (by omega), Bool.or_false, h1.2 j hj, h2.2 j hj]
section RPUT
variable {T σ : St} {N n a : Nat} {D : Dc}
end RPUT

