/-! ===== one act more, in the reference ===== -/
section MKR
variable {A σ τ : St} {N nm nv s n : Nat} {k x y z p : Int}
def rmap (k x y z p x3 x4 x5 x6 x7 c : Int) : Prop := (k ≠ 10 → x3 = x) ∧ (k = 10 → x3 = y ∧ x4 = x ∧ x5 = z) ∧ ((k = 0 ∨ k = 1) → x4 = z) ∧ ((k = 0 ∨ k = 1 ∨ k = 2 ∨ k = 3) → x7 = p) ∧ (k = 4 → x4 = y ∧ x5 = z ∧ (x6 = 1 ↔ p ≠ 0)) ∧ (k = 7 → x4 = y ∧ c = z) ∧ (k = 5 → x4 = z) ∧ (k = 6 → x4 = y)
end MKR

