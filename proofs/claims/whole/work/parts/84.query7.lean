/-! ===== isMarked, actAt ===== -/
theorem so_isMarked : So_isMarked Rel := by
  intro nm nv σ y1 y2 y3 ⟨A, N, hI, hC, hR⟩ _ _ _ _
  refine ⟨1000, ?_⟩
  have hN := hI.1.2.1
  have bad : ∀ (t : Int), t ≠ 0 → ∀ σ1, Re σ1 A N nm nv → wp (fX6_isMarked_J28 1000 σ1 y1 y2 y3 t) (OkR σ1 A N nm nv t 0) := by
    intro t ht σ1 hr1
    unfold fX6_isMarked_J28
    refine wp_pf ?_
    rw [if_pos (by rw [st_row, if_pos rfl]; exact ht)]
    exact wp_some (r_no hr1 ht)
  by_cases hx : 0 ≤ y1 ∧ y1 < 4
  · have hd := (hI.dk (s := y1.toNat) (by omega)).1
    by_cases hw : isEl (docOf A N (Hs A y1.toNat)) y2
    · have hm := (elAt_in hw).1
      have he := hd.row hN hm
      by_cases hk : y3 = 0 ∨ y3 = 1
      · obtain ⟨j, hj, hj2⟩ : ∃ j : Nat, y3 = (j : Int) ∧ j < 2 := ⟨y3.toNat, by omega, by omega⟩
        refine So_fin (F := fun σ1 => fX6_isMarked 1000 σ1 y1 y2 y3) (g := fun v => if v = 0 then 0 else 1) (k := 0) (kk := 0) (v := b2i (tb ((docOf A N (Hs A y1.toNat)).2 7 (elAt (docOf A N (Hs A y1.toNat)) y2).toNat) j)) rfl (fun _ => rfl) hR hI (c_open hI.1 hC hx (by decide) (fun σ3 p1 p2 p3 => ?_)) (fun σ1 hr1 => ?_)
        · rw [xw_ok (c_elementAt p1 hd hN (by decide) hw)]
          have hcm : fX5_checkMark σ3 y3 = some (0, 0, σ3) := by
            unfold fX5_checkMark
            rcases hk with q | q
            · rw [if_pos q]
            · rw [if_neg (by omega), if_pos q]
          rw [xw_ok hcm, vl_ok, hj]
          exact wp_b1e (q_hasBit p1 he.1 (by omega)) (wp_some ⟨rfl, fun _ => rfl, p2, p3⟩)
        · unfold fX6_isMarked
          refine wp_b2 (r_isPlace hI hr1 hx (by decide)) (fun z σ3 q => ?_)
          obtain ⟨q1, q2, q3, q4⟩ := q
          rw [if_pos (fun z0 => (q1.mp z0) hw)]
          refine wp_b1e (r_isIn _ _ _) ?_
          rw [decide_eq_true (show 0 ≤ y3 ∧ y3 ≤ 1 by omega), if_neg (by decide)]
          unfold fX6_isMarked_J28
          refine wp_pf ?_
          have f0 : FrS σ3 (st σ3 230 0 0) := FrS.up0 FrS.rf
          have e0 : st σ3 230 0 0 230 0 = 0 := by rw [st_row, if_pos rfl]
          have hD := isD.fr0 (v := 0) q2
          have q3' := q3.fr f0
          generalize st σ3 230 0 0 = σ4 at f0 e0 hD q3'
          rw [if_neg (fun q => q e0)]
          refine wp_b1e (r_seenAt hD.r hD.d hN (by decide) y2) ?_
          show wp (rd σ4 267 160 (elAt (docOf A N (Hs A y1.toNat)) y2) _) _
          have h0 : 0 ≤ elAt (docOf A N (Hs A y1.toNat)) y2 := he.1.1
          have hbr := (hD.r.2.2.2.2.2.1 (elAt (docOf A N (Hs A y1.toNat)) y2).toNat (by omega)).1 j hj2
          refine wp_rd h0 (by omega) (wp_vl (wp_vl ?_))
          rw [hj, hbr]
          have fin : FrR σ1 σ4 := (FrR.ofF q4).tr f0.R
          by_cases q : tb (σ4 267 (elAt (docOf A N (Hs A y1.toNat)) y2).toNat) j = true
          · rw [if_neg (fun z => z ((tb_shr (by omega)).mpr q)), q]
            exact wp_some ⟨e0, fun _ => rfl, q3', fin⟩
          · rw [if_pos (fun z => q ((tb_shr (by omega)).mp z)), Bool.eq_false_iff.mpr q]
            exact wp_some ⟨e0, fun _ => rfl, q3', fin⟩
      · refine So_fin (F := fun σ1 => fX6_isMarked 1000 σ1 y1 y2 y3) (g := fun v => if v = 0 then 0 else 1) (k := 2) (kk := 2) (v := 0) rfl (fun q => (by cases q)) hR hI (c_open hI.1 hC hx (by decide) (fun σ3 p1 p2 p3 => ?_)) (fun σ1 hr1 => ?_)
        · rw [xw_ok (c_elementAt p1 hd hN (by decide) hw)]
          have hcm : fX5_checkMark σ3 y3 = some (2, 0, σ3) := by
            unfold fX5_checkMark
            rw [if_neg (fun q => hk (Or.inl q)), if_neg (fun q => hk (Or.inr q))]
          rw [xw_x hcm]
          exact wp_some ⟨rfl, fun q => (by cases q), p2, p3⟩
        · unfold fX6_isMarked
          refine wp_b2 (r_isPlace hI hr1 hx (by decide)) (fun z σ3 q => ?_)
          obtain ⟨q1, q2, q3, q4⟩ := q
          rw [if_pos (fun z0 => (q1.mp z0) hw)]
          refine wp_b1e (r_isIn _ _ _) ?_
          rw [decide_eq_false (show ¬ (0 ≤ y3 ∧ y3 ≤ 1) by omega), if_pos (by decide)]
          exact wp_mono (bad 2 (by decide) σ3 q3) (fun r y => ⟨y.1, y.2.1, y.2.2.1, (FrR.ofF q4).tr y.2.2.2⟩)
    · refine So_fin (F := fun σ1 => fX6_isMarked 1000 σ1 y1 y2 y3) (g := fun v => if v = 0 then 0 else 1) (k := 1) (kk := 1) (v := 0) rfl (fun q => (by cases q)) hR hI (c_open hI.1 hC hx (by decide) (fun σ3 p1 p2 p3 => ?_)) (fun σ1 hr1 => ?_)
      · rw [xw_x (c_elementNo p1 (by decide) hw)]
        exact wp_some ⟨rfl, fun q => (by cases q), p2, p3⟩
      · unfold fX6_isMarked
        refine wp_b2 (r_isPlace hI hr1 hx (by decide)) (fun z σ3 q => ?_)
        obtain ⟨q1, q2, q3, q4⟩ := q
        rw [if_neg (fun z0 => z0 (q1.mpr hw))]
        exact wp_mono (bad 1 (by decide) σ3 q3) (fun r y => ⟨y.1, y.2.1, y.2.2.1, (FrR.ofF q4).tr y.2.2.2⟩)
  · refine So_fin (F := fun σ1 => fX6_isMarked 1000 σ1 y1 y2 y3) (g := fun v => if v = 0 then 0 else 1) (k := 1) (kk := 1) (v := 0) rfl (fun q => (by cases q)) hR hI (by unfold fX5_isMarked; exact c_no hC hx) (fun σ1 hr1 => ?_)
    unfold fX6_isMarked
    refine wp_b2e (r_placeNo hx) ?_
    rw [if_neg (by decide)]
    exact bad 1 (by decide) σ1 hr1
/-- the w-th of those that hold -/
theorem at_filter {P : Int → Bool} (L : List Int) : ∀ (c w : Int) (fin : Int → Int), c ≤ w → w < c + cnt P L → runL (atS P w) fin c L = (L.filter P).getD (w - c).toNat 0 := by
  induction L with
  | nil => intro c w fin h1 h2; have : w < c + 0 := h2; omega
  | cons x L ih =>
    intro c w fin h1 h2
    have h2' : w < c + (b2i (P x) + cnt P L) := h2
    by_cases hp : P x = true
    · rw [List.filter_cons_of_pos hp]
      by_cases hw : c = w
      · rw [runL_in (r := x) (by unfold atS; rw [if_pos hp, if_pos hw]), show (w - c).toNat = 0 by omega]; rfl
      · rw [runL_go (s' := c + 1) (by unfold atS; rw [if_pos hp, if_neg hw])]
        rw [hp] at h2'
        have h2'' : w < c + (1 + cnt P L) := h2'
        rw [ih (c + 1) w fin (by omega) (by omega), show (w - c).toNat = (w - (c + 1)).toNat + 1 by omega]; rfl
    · rw [List.filter_cons_of_neg hp, runL_go (s' := c) (by unfold atS; rw [if_neg hp])]
      rw [Bool.eq_false_iff.mpr hp] at h2'
      have h2'' : w < c + (0 + cnt P L) := h2'
      exact ih c w fin h1 (by omega)
theorem cnt_filter (P : Int → Bool) (L : List Int) : cnt P L = ((L.filter P).length : Int) := by
  induction L with
  | nil => rfl
  | cons x L ih =>
    show b2i (P x) + cnt P L = _
    by_cases hp : P x = true
    · rw [List.filter_cons_of_pos hp, List.length_cons, hp, ih]
      show 1 + _ = _
      omega
    · rw [List.filter_cons_of_neg hp, Bool.eq_false_iff.mpr hp, ih]
      show 0 + _ = _
      omega
theorem cnt_all (L : List Int) : cnt (fun _ => true) L = (L.length : Int) := by
  induction L with
  | nil => rfl
  | cons x L ih =>
    show 1 + cnt (fun _ => true) L = _
    rw [ih, List.length_cons]; omega
/-- how many acts a site has -/
theorem Hs_size {A : St} {N nm nv s : Nat} (hI : Inv A N nm nv) (hs : s < 4) : A 245 s = (((OL A N).filter (Hs A s)).length : Int) := by
  have h2 := hI.2.1 s hs
  have hl : ((JL A s).length : Int) = A 245 s := by
    have : (JL A s).length = (A 245 s).toNat := seg_len _ _ _
    have := h2.2.2.1
    omega
  rw [← hl, ← cnt_all, ← cnt_all]
  refine cnt_same h2.2.2.2.1 hI.1.2.2.2.2.1.nd (fun x _ => ?_)
  rw [List.mem_filter, hI.1.2.2.2.2.1.2, Hs_iff h2 hI.1.2.1]
  exact ⟨fun z => ⟨h2.2.2.2.2.1 x z, z⟩, fun z => z.2⟩
