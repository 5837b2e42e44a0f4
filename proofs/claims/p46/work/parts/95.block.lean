/-! ===== setKind, nest, allow ===== -/
section BLK
variable {σ τ A : St} {N nm nv n s : Nat} {D : Dc} {S : Int → Bool} {k x y z p : Int}
theorem blN_k (hd : DI A N D) (hN : N ≤ 160) {w : Int} (h : isBl D w) : -1 ≤ blN D w ∧ blN D w < (N : Int) ∧ (0 ≤ blN D w → A 11 (blN D w).toNat = 1) := by
  have hr := blN_r hd hN h
  refine ⟨hr.1, hr.2, fun h0 => ?_⟩
  rcases blN_in h with q | q
  · omega
  · have := (of_decide_eq_true q.2).2.1
    rw [(hd.2.2.1 _ q.1).2] at this
    by_cases e : A 11 (blN D w).toNat = 1
    · exact e
    · rw [if_neg e] at this; exact absurd rfl this
def okB (A : St) (N s : Nat) (b : Int) : Prop := lev (docOf A N (Hs A s)) (s : Int) b = 0 ∧ N < 160
theorem c_may (hC : Cl σ A N nm nv) (hP : isP σ (20 + 40 * s + 10) (docOf A N (Hs A s))) (hs : s < 4) (b : Int) :
    (okB A N s b → fX5_checkMayWriteIn σ (20 + 40 * s + 10) (20 + 40 * s) b = some (0, 0, σ)) ∧ (¬ okB A N s b → fX5_checkMayWriteIn σ (20 + 40 * s + 10) (20 + 40 * s) b = some (3, 0, σ)) := by
  have w := hC.site hs
  have el : fX3_levelIn σ (20 + 40 * s + 10) (σ (20 + 40 * s) 0) b = some (lev (docOf A N (Hs A s)) (s : Int) b) := by rw [w.1]; exact q_levelIn hP _ _
  constructor
  · rintro ⟨h1, h2⟩
    unfold fX5_checkMayWriteIn
    rw [b1_ok el, if_pos h1, xw_ok (by rw [c_room hC, if_pos (by omega)])]
  · intro hno
    unfold fX5_checkMayWriteIn
    rw [b1_ok el]
    by_cases h1 : lev (docOf A N (Hs A s)) (s : Int) b = 0
    · have hN : ¬ N < 160 := fun g => hno ⟨h1, g⟩
      rw [if_pos h1, xw_x (c := 2) (by rw [c_room hC, if_neg (by omega)])]
    · rw [if_neg h1]
theorem ok5 (hN : N < 160) (hs : s < 4) (hx : -1 ≤ x ∧ x < (N : Int) ∧ (0 ≤ x → A 11 x.toNat = 1)) (hz : 0 ≤ z ∧ z ≤ 65535) : okM A N s 5 x (-1) z 0 := by
  refine ⟨⟨hN, hs⟩, by omega, Or.inl rfl, hz, fun g => ?_, fun g => ?_, fun g => ?_, fun g => ?_, fun g => ?_, fun _ => hx, fun g => ?_, fun g => ?_, fun g => ?_⟩ <;> (exfalso; clear hx; omega)
theorem ok6 (hN : N < 160) (hs : s < 4) (hx : -1 ≤ x ∧ x < (N : Int) ∧ (0 ≤ x → A 11 x.toNat = 1)) (hy : y = -2 ∨ (-1 ≤ y ∧ y < (N : Int) ∧ (0 ≤ y → A 11 y.toNat = 1))) : okM A N s 6 x y 0 0 := by
  refine ⟨⟨hN, hs⟩, by omega, Or.inl rfl, by omega, fun g => ?_, fun g => ?_, fun g => ?_, fun g => ?_, fun g => ?_, fun _ => hx, fun _ => hy, fun g => ?_, fun g => ?_⟩ <;> (exfalso; clear hx hy; omega)
theorem ok10 (hN : N < 160) (hs : s < 4) (hx : -1 ≤ x ∧ x < (N : Int) ∧ (0 ≤ x → A 11 x.toNat = 1)) (hy : 0 < y ∧ y < 4) (hz : 0 ≤ z ∧ z ≤ 2) : okM A N s 10 x y z 0 := by
  refine ⟨⟨hN, hs⟩, by omega, Or.inl rfl, by omega, fun g => ?_, fun g => ?_, fun g => ?_, fun g => ?_, fun g => ?_, fun _ => hx, fun g => ?_, fun _ => ⟨hy.1, hy.2, hz⟩, fun g => ?_⟩ <;> (exfalso; clear hx; omega)
theorem r_bad {R : Int × St → Prop} {t : Int} {σ3 : St} {k : St → Option (Int × St)} (ht : 0 < t) (h : R (0, st σ3 230 0 t)) : wp (pf σ3 230 0 t (fun σ6 => if σ6 230 0 ≤ 0 then k σ6 else some (0, σ6))) R := by
  refine wp_pf ?_
  rw [if_neg (by rw [st_row, if_pos rfl]; omega)]
  exact wp_some h
/-- where a block may go: under no block, or under one that is shown -/
def isTo (D : Dc) (w : Int) : Prop := w = -1 ∨ isBl D w
def toN (D : Dc) (w : Int) : Int := if w = -1 then -2 else blN D w
end BLK

