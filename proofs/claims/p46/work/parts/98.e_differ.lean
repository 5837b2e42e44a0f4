/-! ===== differ ===== -/
section DIF
variable {σ τ A : St} {N nm nv n s v : Nat} {D : Dc} {S : Int → Bool}
theorem c_inV (hC : Cl σ A N nm nv) (hv : v < nv) : inS σ (700 + 2 * v) = Vs A v := by
  have w := hC.2.2.2.2.2.2.2 v hv
  funext x
  unfold inS Vs
  refine decide_eq_decide.mpr ⟨fun z => ⟨z.1, ?_⟩, fun z => ⟨z.1, ?_⟩⟩
  · rw [← w x.toNat (by have := z.1; unfold num at this; omega)]; exact z.2
  · have := w x.toNat (by have := z.1; unfold num at this; omega)
    rw [← this] at z; exact z.2
theorem shown_in (hd : DI A N D) {x : Int} (h : shownB D x = true) : x ∈ D.1 := by
  have w : num x ∧ D.2 4 x.toNat = 1 ∧ D.2 6 x.toNat = 0 := of_decide_eq_true h
  have w1 : 0 ≤ x ∧ x < 160 := w.1
  have e : ((x.toNat : Nat) : Int) = x := Int.toNat_of_nonneg w1.1
  by_cases q : x ∈ D.1
  · exact q
  · have := (hd.2.2.2.1 x.toNat (by rw [e]; exact q)).1
    omega
theorem Inv.dv (hI : Inv A N nm nv) (hv : v < nv) : DK A N (Vs A v) (docOf A N (Vs A v)) := doc_ok hI.1.2.2.2.1 hI.1.2.2.2.2.1 hI.1.2.2.2.2.2.1 (hI.2.2.2.2.2 v hv).1 hI.1.2.1
end DIF

