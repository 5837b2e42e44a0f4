def pre (T : St) (N : Nat) (D : Dc) (a : Nat) : Prop :=
  ((T 11 a = 0 ∨ T 11 a = 1) → (T 12 a = -1 ∨ T 12 a ∈ D.1) ∧ (a : Int) ∉ D.1 ∧ D.1.length < 160) ∧ ((T 11 a = 2 ∨ T 11 a = 3) → T 12 a ∈ D.1) ∧ ((T 11 a = 4 ∨ T 11 a = 7) → T 12 a ∈ D.1 ∧ T 13 a ∈ D.1) ∧
  ((T 11 a = 8 ∨ T 11 a = 9) → (mkE T N (T 12 a) = true → T 12 a ∈ D.1) ∧ (T 11 (T 12 a).toNat = 2 → T 12 (T 12 a).toNat ∈ D.1))
theorem gt_n {T : St} {N r : Nat} {d : Int} {a : Nat} (h : a < N) : gt T N r d (a : Int) = T r a := by unfold gt; rw [if_pos (by omega), Int.toNat_natCast]
theorem gt_i {T : St} {N r : Nat} {d x : Int} (h : 0 ≤ x ∧ x < (N : Int)) : gt T N r d x = T r x.toNat := if_pos h
section RDOES
variable {T σ : St} {N n a : Nat} {D : Dc}
end RDOES

