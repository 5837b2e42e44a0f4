/-! ===== questions about a block ===== -/
section Q3
variable {σ A : St} {N nm nv n s : Nat} {D : Dc} {S : Int → Bool}
def blN (D : Dc) (w : Int) : Int := if w = 0 then -1 else runL (atS (brkB D) w) (fun _ => -2) 1 D.1
def isBl (D : Dc) (w : Int) : Prop := 0 ≤ w ∧ w ≤ cnt (brkB D) D.1
theorem blN_in {w : Int} (h : isBl D w) : blN D w = -1 ∨ (blN D w ∈ D.1 ∧ brkB D (blN D w) = true) := by
  unfold blN
  by_cases q : w = 0
  · rw [if_pos q]; exact Or.inl rfl
  · rw [if_neg q]
    exact Or.inr (at_in D.1 1 w (fun _ => -2) (by have := h.1; omega) (by have := h.2; omega))
theorem blN_r (hd : DI A N D) (hN : N ≤ 160) {w : Int} (h : isBl D w) : -1 ≤ blN D w ∧ blN D w < (N : Int) := by
  rcases blN_in h with q | q
  · rw [q]; omega
  · have := hd.row hN q.1
    have h0 : 0 ≤ blN D w := this.1.1
    omega
theorem blN_no {w : Int} (h : ¬ isBl D w) : blN D w = -2 := by
  unfold blN
  have := (cnt_le (brkB D) D.1).1
  unfold isBl at h
  rw [if_neg (by omega)]
  exact at_out D.1 1 w (-2) (by omega)
theorem c_blockAt {p : Nat} {w : Int} (h : isP σ p D) (hd : DI A N D) (hN : N ≤ 160) (hn : 161 ≤ n) (hw : isBl D w) : fX5_blockAt n σ p w = some (0, blN D w, σ) := by
  have := blN_r hd hN hw
  unfold fX5_blockAt
  rw [b1_ok (q_shownBlock h hn w)]
  show (if blN D w ≠ -2 then some (0, blN D w, σ) else some (1, 0, σ)) = _
  rw [if_pos (by omega)]
theorem c_blockNo {p : Nat} {w : Int} (h : isP σ p D) (hn : 161 ≤ n) (hw : ¬ isBl D w) : fX5_blockAt n σ p w = some (1, 0, σ) := by
  unfold fX5_blockAt
  rw [b1_ok (q_shownBlock h hn w)]
  show (if blN D w ≠ -2 then some (0, blN D w, σ) else some (1, 0, σ)) = _
  rw [if_neg (by rw [blN_no hw]; exact fun q => q rfl)]
end Q3
