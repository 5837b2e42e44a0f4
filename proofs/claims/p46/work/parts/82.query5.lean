/-! ===== questions about acts ===== -/
section Q5
variable {σ A : St} {N nm nv n s : Nat}
theorem Hs_lt {w : Int} (hI : Inv A N nm nv) (hs : s < 4) (h : Hs A s w = true) : 0 ≤ w ∧ w < (N : Int) := (hI.2.1 s hs).2.2.2.2.1 w ((Hs_iff (hI.2.1 s hs) hI.1.2.1 w).mp h)
theorem c_held {w : Int} (hs : ClS σ A N s) : fX5_checkHeld σ (20 + 40 * s) w = if Hs A s w = true then some (0, 0, σ) else some (1, 0, σ) := by
  unfold fX5_checkHeld
  rw [b1_ok (q_contains σ _ w), hs.has]
  cases Hs A s w
  · rw [if_neg (by decide), if_neg (by decide)]
  · rw [if_pos (by decide), if_pos rfl]
end Q5
