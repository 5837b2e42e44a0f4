/-! ===== the law's small numbers ===== -/
theorem i32_div {x y : Int} (hx : 0 ≤ x ∧ x ≤ 2147483647) (hy : 0 < y ∧ y ≤ 2147483647) : i32 x / i32 y = i32 (x / y) := by
  have rx : inR x := ⟨by omega, by omega⟩
  have ry : inR y := ⟨by omega, by omega⟩
  have h1 : 0 ≤ x / y := Int.ediv_nonneg hx.1 (by omega)
  have h2 : x / y ≤ x := Int.ediv_le_self y hx.1
  have rq : inR (x / y) := ⟨by omega, by omega⟩
  have hne : i32 y ≠ -1 := fun q => by
    have : (i32 y).toInt = (-1 : Int32).toInt := by rw [q]
    rw [i32_toInt ry] at this
    have e : (-1 : Int32).toInt = -1 := by decide
    rw [e] at this
    omega
  apply Int32.toInt_inj.mp
  rw [Int32.toInt_div_of_ne_right _ _ hne, i32_toInt rx, i32_toInt ry, i32_toInt rq, Int.tdiv_eq_ediv_of_nonneg hx.1]
theorem irm_ok {β : Type} {x y : Int} {k : Int → Option β} (hx : 0 ≤ x ∧ x ≤ 2147483647) (hy : 0 < y ∧ y ≤ 2147483647) : irm x y k = k (x % y) := by
  unfold irm
  rw [if_pos ⟨⟨by omega, by omega⟩, by omega⟩, i32_div hx hy, i32_mul, i32_sub]
  have e : x - x / y * y = x % y := by
    have := Int.emod_def x y
    rw [this, Int.mul_comm]
  have h1 : 0 ≤ x % y := Int.emod_nonneg x (by omega)
  have h2 : x % y < y := Int.emod_lt_of_pos x hy.1
  rw [e, i32_toInt ⟨by omega, by omega⟩]
theorem idv_ok {β : Type} {x y : Int} {k : Int → Option β} (hx : 0 ≤ x ∧ x ≤ 2147483647) (hy : 0 < y ∧ y ≤ 2147483647) : idv x y k = k (x / y) := by
  unfold idv
  have h1 : 0 ≤ x / y := Int.ediv_nonneg hx.1 (by omega)
  have h2 : x / y ≤ x := Int.ediv_le_self y hx.1
  rw [if_pos ⟨⟨by omega, by omega⟩, by omega⟩, i32_div hx hy, i32_toInt ⟨by omega, by omega⟩]
theorem band_pos (x : Int) : 0 ≤ band x 2147483647 := by
  have h : ¬ (band x 2147483647 < 0) := by
    intro q
    have e : (i32 x &&& i32 2147483647).toBitVec.msb = decide ((i32 x &&& i32 2147483647).toBitVec.toInt < 0) := BitVec.msb_eq_toInt
    have e2 : (i32 x &&& i32 2147483647).toBitVec.msb = false := by
      rw [Int32.toBitVec_and, BitVec.msb_and]
      have : (i32 2147483647).toBitVec.msb = false := by decide
      rw [this, Bool.and_false]
    rw [e2] at e
    exact absurd q (of_decide_eq_false e.symm)
  omega
theorem low_ok {x n : Int} (hn : 0 < n ∧ n ≤ 2147483647) : ∃ r, fL_low x n = some r ∧ 0 ≤ r ∧ r < n := by
  have h0 := band_pos x
  have h1 := (band_inR x 2147483647).2
  refine ⟨band x 2147483647 % n, ?_, Int.emod_nonneg _ (by omega), Int.emod_lt_of_pos _ hn.1⟩
  unfold fL_low
  rw [vl_ok, irm_ok ⟨h0, h1⟩ hn]
theorem wp_low {β : Type} {x n : Int} {k : Int → Option β} {Q : β → Prop} (hn : 0 < n ∧ n ≤ 2147483647) (h : ∀ r, 0 ≤ r → r < n → wp (k r) Q) : wp (b1 (fL_low x n) k) Q := by
  obtain ⟨r, e, h1, h2⟩ := low_ok (x := x) hn
  exact wp_b1e e (h r h1 h2)
