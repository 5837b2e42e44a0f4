/-! ===== isMarked, actAt ===== -/
/-- the w-th of those that hold -/
theorem at_filter {P : Int → Bool} (L : List Int) : ∀ (c w : Int) (fin : Int → Int), c ≤ w → w < c + cnt P L → runL (atS P w) fin c L = (L.filter P).getD (w - c).toNat 0 := by
  induction L with
  | nil => intro c w fin h1 h2; have : w < c + 0 := h2; omega
  | cons x L ih =>
    intro c w fin h1 h2
    have h2' : w < c + (b2i (P x) + cnt P L) := h2
    by_cases hp : P x = true
    · rw [List.filter_cons_of_pos hp]
      by_cases hw : c = w
      · rw [runL_in (r := x) (by unfold atS; rw [if_pos hp, if_pos hw]), show (w - c).toNat = 0 by omega]; rfl
      · rw [runL_go (s' := c + 1) (by unfold atS; rw [if_pos hp, if_neg hw])]
        rw [hp] at h2'
        have h2'' : w < c + (1 + cnt P L) := h2'
        rw [ih (c + 1) w fin (by omega) (by omega), show (w - c).toNat = (w - (c + 1)).toNat + 1 by omega]; rfl
    · rw [List.filter_cons_of_neg hp, runL_go (s' := c) (by unfold atS; rw [if_neg hp])]
      rw [Bool.eq_false_iff.mpr hp] at h2'
      have h2'' : w < c + (0 + cnt P L) := h2'
      exact ih c w fin h1 (by omega)
theorem cnt_filter (P : Int → Bool) (L : List Int) : cnt P L = ((L.filter P).length : Int) := by
  induction L with
  | nil => rfl
  | cons x L ih =>
    show b2i (P x) + cnt P L = _
    by_cases hp : P x = true
    · rw [List.filter_cons_of_pos hp, List.length_cons, hp, ih]
      show 1 + _ = _
      omega
    · rw [List.filter_cons_of_neg hp, Bool.eq_false_iff.mpr hp, ih]
      show 0 + _ = _
      omega
theorem cnt_all (L : List Int) : cnt (fun _ => true) L = (L.length : Int) := by
  induction L with
  | nil => rfl
  | cons x L ih =>
    show 1 + cnt (fun _ => true) L = _
    rw [ih, List.length_cons]; omega
/-- how many acts a site has -/
theorem Hs_size {A : St} {N nm nv s : Nat} (hI : Inv A N nm nv) (hs : s < 4) : A 245 s = (((OL A N).filter (Hs A s)).length : Int) := by
  have h2 := hI.2.1 s hs
  have hl : ((JL A s).length : Int) = A 245 s := by
    have : (JL A s).length = (A 245 s).toNat := seg_len _ _ _
    have := h2.2.2.1
    omega
  rw [← hl, ← cnt_all, ← cnt_all]
  refine cnt_same h2.2.2.2.1 hI.1.2.2.2.2.1.nd (fun x _ => ?_)
  rw [List.mem_filter, hI.1.2.2.2.2.1.2, Hs_iff h2 hI.1.2.1]
  exact ⟨fun z => ⟨h2.2.2.2.2.1 x z, z⟩, fun z => z.2⟩

