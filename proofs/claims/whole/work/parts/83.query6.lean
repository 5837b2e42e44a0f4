/-! ===== covered, isMarked, elementAnew ===== -/
section Q6
variable {σ A : St} {N nm nv n s : Nat} {S : Int → Bool}
theorem isD.fr0 {v : Int} (h : isD σ A N S) : isD (st σ 230 0 v) A N S := by
  obtain ⟨⟨i1, i2, i3, i4, i5, i6, i7, i8, i9, i10⟩, d2, d3, d4, d5⟩ := h
  have e : ∀ q, q ≠ 230 → st σ 230 0 v q = σ q := fun q hq => st_fn hq
  refine ⟨⟨?_, i2, ?_, ?_, ?_, ?_, ?_, ?_, ?_, ?_⟩, d2, ?_, ?_, ?_⟩
  · have i1' : σ 230 32 = _ := i1
    rw [st_row, if_neg (by decide)]; exact i1'
  · rw [e 264 (by decide)]; exact i3
  · rw [e 265 (by decide)]; exact i4
  · rw [e 266 (by decide)]; exact i5
  · rw [e 267 (by decide), e 268 (by decide)]; exact i6
  · rw [e 269 (by decide)]; exact i7
  · rw [e 262 (by decide)]; exact i8
  · rw [e 270 (by decide), e 271 (by decide)]; exact i9
  · rw [e 272 (by decide)]; exact i10
  · rw [e 261 (by decide)]; exact d3
  · have d4' : σ 230 29 = _ := d4
    rw [st_row, if_neg (by decide)]; exact d4'
  · rw [e 262 (by decide)]; exact d5
theorem r_coverN (h : isD σ A N S) (hr : RT A σ N) (hN : N ≤ 160) (hn : 161 ≤ n) (y w : Int) {j : Nat} (hw : 0 ≤ w ∧ w < (N : Int)) (hj : j < 20) (h242 : σ 242 w.toNat = (j : Int)) : fX6_covered_L57 n σ y w n 0 0 = some (cnt (fun x => seenB (docOf A N S) x && tb ((docOf A N S).2 7 x.toNat) (2 + j)) (docOf A N S).1, σ) := by
  have hl := h.1.2.1
  have hd := h.2.1.1
  have := r_cnt (n := n) (bot := fun _ _ => none) (F := fX6_covered_L57s n σ y w) (fun x => seenB (docOf A N S) x && tb ((docOf A N S).2 7 x.toNat) (2 + j)) (fun a => (a, σ)) (σ 264) (docOf A N S).1.length 0 (by decide) (by omega)
    (fun lp s => by unfold fX6_covered_L57s; rw [if_pos (by rw [h.1.1]; omega)])
    (fun lp s i hi h1 h2 => by
      have hm := h.1.mem hi
      have hx := (hd.row hN hm).1
      have hbr := (h.1.2.2.2.2.2.1 (σ 264 i).toNat (by have := hx.1; have := hx.2; omega)).2 j hj
      unfold fX6_covered_L57s
      rw [if_neg (by rw [h.1.1]; omega), rd_ok (by omega) (by omega), Int.toNat_natCast, b1_ok (r_isSeen h.1 hd hN hm), if_b2i]
      cases seenB (docOf A N S) (σ 264 i)
      · rw [if_neg (by decide), ck_ok (by omega) (by omega), ck_ok (by omega) (by omega)]; rfl
      · rw [if_pos rfl, rd_ok (by omega) (by omega), Int.toNat_natCast, rd_ok hx.1 hx.2, rd_ok hw.1 (by omega), h242, vl_ok, vl_ok, Bool.true_and, hbr]
        by_cases q : tb (σ 268 (σ 264 i).toNat) j = true
        · rw [if_neg (fun z => z ((tb_shr (by omega)).mpr q)), ck_ok (by omega) (by omega), ck_ok (by omega) (by omega), q]; rfl
        · rw [if_pos (fun z => q ((tb_shr (by omega)).mp z)), ck_ok (by omega) (by omega), ck_ok (by omega) (by omega), Bool.eq_false_iff.mpr q]; rfl)
  rw [h.1.2.2.1, Int.zero_add] at this
  exact this
/-- the reference's side of a question about an element -/
theorem r_el {x w v : Int} {R : St → Option (Int × St)} (hI : Inv A N nm nv) (hR : Re σ A N nm nv) (hn : 700 ≤ n) (hx : 0 ≤ x ∧ x < 4) (hw : isEl (docOf A N (Hs A x.toNat)) w)
    (hR2 : ∀ σ3, isD σ3 A N (Hs A x.toNat) → Re σ3 A N nm nv → R σ3 = some (v, σ3)) :
    wp (b2 (fX6_isPlace n σ x w) (fun v2 σ1 => if v2 = 0 then pf σ1 230 0 1 (fun σ3 => if σ3 230 0 ≤ 0 then R σ3 else some (0, σ3)) else pf σ1 230 0 0 (fun σ3 => if σ3 230 0 ≤ 0 then R σ3 else some (0, σ3)))) (OkR σ A N nm nv 0 v) := by
  refine wp_b2 (r_isPlace hI hR hx hn) (fun z σ3 q => ?_)
  obtain ⟨q1, q2, q3, q4⟩ := q
  rw [if_neg (fun z0 => (q1.mp z0) hw)]
  refine wp_pf ?_
  have f0 : FrS σ3 (st σ3 230 0 0) := FrS.up0 FrS.rf
  have e0 : st σ3 230 0 0 230 0 = 0 := by rw [st_row, if_pos rfl]
  rw [if_pos (by rw [e0]; decide), hR2 _ (isD.fr0 q2) (q3.fr f0)]
  exact wp_some ⟨e0, fun _ => rfl, q3.fr f0, (FrR.ofF q4).tr f0.R⟩
theorem r_elNo {x w v : Int} {R : St → Option (Int × St)} (hI : Inv A N nm nv) (hR : Re σ A N nm nv) (hn : 700 ≤ n) (hw : ¬ ((0 ≤ x ∧ x < 4) ∧ isEl (docOf A N (Hs A x.toNat)) w)) :
    wp (b2 (fX6_isPlace n σ x w) (fun v2 σ1 => if v2 = 0 then pf σ1 230 0 1 (fun σ3 => if σ3 230 0 ≤ 0 then R σ3 else some (0, σ3)) else pf σ1 230 0 0 (fun σ3 => if σ3 230 0 ≤ 0 then R σ3 else some (0, σ3)))) (OkR σ A N nm nv 1 v) := by
  have bad : ∀ σ1, Re σ1 A N nm nv → wp (pf σ1 230 0 1 (fun σ3 => if σ3 230 0 ≤ 0 then R σ3 else some (0, σ3))) (OkR σ1 A N nm nv 1 v) := by
    intro σ1 hr
    refine wp_pf ?_
    rw [if_neg (by rw [st_row, if_pos rfl]; decide)]
    exact wp_some (r_no hr (by decide))
  by_cases hx : 0 ≤ x ∧ x < 4
  · refine wp_b2 (r_isPlace hI hR hx hn) (fun z σ3 q => ?_)
    obtain ⟨q1, q2, q3, q4⟩ := q
    rw [if_pos (q1.mpr (fun y => hw ⟨hx, y⟩))]
    exact wp_mono (bad σ3 q3) (fun r y => ⟨y.1, y.2.1, y.2.2.1, (FrR.ofF q4).tr y.2.2.2⟩)
  · refine wp_b2e (r_placeNo hx) ?_
    rw [if_pos rfl]
    exact bad σ hR
end Q6
theorem OkR_ret {σ A : St} {N nm nv : Nat} {kk v : Int} {m : Option (Int × St)} (h : wp m (OkR σ A N nm nv kk v)) : wp (b2 m (fun v2 σ1 => some (v2, σ1))) (OkR σ A N nm nv kk v) := wp_b2 h (fun v s q => wp_some q)
theorem so_elementAnew : So_elementAnew Rel := by
  intro nm nv σ y1 y2 y3 ⟨A, N, hI, hC, hR⟩ _ _ _ _
  refine ⟨1000, ?_⟩
  by_cases hx : 0 ≤ y1 ∧ y1 < 4
  · have hd := (hI.dk (s := y1.toNat) (by omega)).1
    have cls : ∀ {Q : Nat × Int × St → Prop}, (∀ σ3, isP σ3 180 (docOf A N (Hs A y1.toNat)) → Cl σ3 A N nm nv → FrC σ σ3 → wp (xw 0 (fX5_elementAt 1000 σ3 180 y2) (fun v5 σ4 => some (0, v5, σ4))) Q) → wp (fX5_elementAnew 1000 σ y1 y2) Q := by
      intro Q hK
      unfold fX5_elementAnew
      rw [xw_ok (c_siteAt hx)]
      refine wp_b1 (c_scr hI.1 hC (Or.inl rfl) (by decide) (by omega)) (fun σ3 q => ?_)
      rw [(hC.site (s := y1.toNat) (by omega)).has] at q
      exact hK σ3 q.1 q.2.1 (FrC.ofP q.2.2.1 (by decide))
    by_cases hw : isEl (docOf A N (Hs A y1.toNat)) y2
    · refine So_fin (F := fun σ1 => fX6_elementAnew 1000 σ1 y1 y2) (g := fun v => v) (k := 0) (kk := 0) (v := elAt (docOf A N (Hs A y1.toNat)) y2) rfl (fun _ => rfl) hR hI (cls (fun σ3 p1 p2 p3 => ?_)) (fun σ1 hr1 => ?_)
      · rw [xw_ok (c_elementAt p1 hd hI.1.2.1 (by decide) hw)]
        exact wp_some ⟨rfl, fun _ => rfl, p2, p3⟩
      · exact OkR_ret (r_el (R := fun σ3 => b1 (fX6_seenAt 1000 σ3 y2) (fun v4 => some (v4, σ3))) hI hr1 (by decide) hx hw (fun σ3 q1 q2 => by rw [b1_ok (r_seenAt q1.r q1.d hI.1.2.1 (by decide) y2)]; rfl))
    · refine So_fin (F := fun σ1 => fX6_elementAnew 1000 σ1 y1 y2) (g := fun v => v) (k := 1) (kk := 1) (v := 0) rfl (fun q => (by cases q)) hR hI (cls (fun σ3 p1 p2 p3 => ?_)) (fun σ1 hr1 => ?_)
      · rw [xw_x (c_elementNo p1 (by decide) hw)]
        exact wp_some ⟨rfl, fun q => (by cases q), p2, p3⟩
      · exact OkR_ret (r_elNo (R := fun σ3 => b1 (fX6_seenAt 1000 σ3 y2) (fun v4 => some (v4, σ3))) hI hr1 (by decide) (fun z => hw z.2))
  · refine So_fin (F := fun σ1 => fX6_elementAnew 1000 σ1 y1 y2) (g := fun v => v) (k := 1) (kk := 1) (v := 0) rfl (fun q => (by cases q)) hR hI (by unfold fX5_elementAnew; exact c_no hC hx) (fun σ1 hr1 => ?_)
    exact OkR_ret (r_elNo (R := fun σ3 => b1 (fX6_seenAt 1000 σ3 y2) (fun v4 => some (v4, σ3))) hI hr1 (by decide) (fun z => hx z.1))
theorem so_covered : So_covered Rel := by
  intro nm nv σ y1 y2 y3 ⟨A, N, hI, hC, hR⟩ _ _ _ _
  refine ⟨1000, ?_⟩
  have bad : ∀ σ1, Re σ1 A N nm nv → wp (fX6_covered_J21 1000 σ1 y1 y2) (OkR σ1 A N nm nv 1 0) := by
    intro σ1 hr1
    unfold fX6_covered_J21 fX6_covered_J22
    refine wp_pf ?_
    rw [if_neg (by rw [st_row, if_pos rfl]; decide)]
    exact wp_some (r_no hr1 (by decide))
  by_cases hx : 0 ≤ y1 ∧ y1 < 4
  · by_cases hh : Hs A y1.toNat y2 = true
    · have h2 := Hs_lt hI (by omega) hh
      have hN := hI.1.2.1
      have dk := hI.dk (s := y1.toNat) (by omega)
      by_cases k7 : A 11 y2.toNat = 7
      · have hval := (hI.1.2.2.2.1 y2.toNat (by omega)).2.2.2.2.2.2.2.2.2.1 k7
        obtain ⟨j, hj⟩ : ∃ j : Nat, A 14 y2.toNat = (j : Int) := ⟨(A 14 y2.toNat).toNat, by omega⟩
        refine So_fin (F := fun σ1 => fX6_covered 1000 σ1 y1 y2) (g := fun v => v) (k := 0) (kk := 0) (v := cnt (fun x => seenB (docOf A N (Hs A y1.toNat)) x && tb ((docOf A N (Hs A y1.toNat)).2 7 x.toNat) (2 + j)) (docOf A N (Hs A y1.toNat)).1) rfl (fun _ => rfl) hR hI ?_ (fun σ1 hr1 => ?_)
        · unfold fX5_covered
          rw [xw_ok (c_siteAt hx), xw_ok (by rw [c_held (hC.site (s := y1.toNat) (by omega)), if_pos hh])]
          refine wp_b1e (q_kindOfA hC.1 y2) ?_
          rw [gt_i h2, if_pos k7]
          refine wp_b2 (c_paperOf hI.1 hC (s := y1.toNat) (by omega) (by decide)) (fun o s q => ?_)
          obtain ⟨q1, q2, q3, q4⟩ := q
          have q1' : o = 20 + 40 * y1.toNat + 10 := q1
          subst q1'
          refine wp_b1e (q_valueOf q3.1 y2) ?_
          rw [gt_i h2, hj]
          have hcb : fX5_commentBit (j : Int) = some (bshl 1 ((2 + j : Nat) : Int)) := by
            unfold fX5_commentBit
            rw [ck_ok (by omega) (by omega), vl_ok]
            rw [show (2 : Int) + (j : Int) = ((2 + j : Nat) : Int) by omega]
          refine wp_b1e hcb (wp_b1e (q_countSeenWith q2 (fun x hx => (dk.1.row hN hx).1) (by decide) (k := 2 + j) (by omega)) (wp_some ⟨rfl, fun _ => rfl, q3, q4⟩))
        · unfold fX6_covered
          refine wp_b1e (r_isSite y1) ?_
          rw [decide_eq_true hx, if_neg (by decide)]
          refine wp_b1e (r_hasAct hI hr1 hx) ?_
          rw [hh, if_neg (by decide)]
          unfold fX6_covered_J22
          refine wp_pf ?_
          have hr2 := hr1.fr (FrS.up0 (v := 0) FrS.rf)
          have fr := (FrS.up0 (v := 0) (FrS.rf (σ := σ1))).R
          have e0 : st σ1 230 0 0 230 0 = 0 := by rw [st_row, if_pos rfl]
          generalize st σ1 230 0 0 = σ2 at hr2 fr e0
          rw [if_pos (by omega)]
          refine wp_rd h2.1 (by omega) ?_
          rw [(hr2.1.2 y2.toNat (by omega)).2.2.1, if_pos k7]
          have hs := r_site hI.1 (hI.2.1 y1.toNat (by omega)) hr2 (by omega) (n := 1000) (by decide)
          rw [Int.toNat_of_nonneg hx.1] at hs
          refine wp_b1 hs (fun σ3 q => ?_)
          rw [r_coverN q.1 q.2.1.1 hN (by decide) y1 y2 (j := j) h2 (by omega) (by rw [((q.2.1.1.2 y2.toNat (by omega)).2.2.2.2.2.2.2.2.1 k7).2]; exact hj)]
          exact wp_some ⟨(q.2.2 230 0 (by decide) (by decide)).trans e0, fun _ => rfl, q.2.1, fr.tr (FrR.ofF q.2.2)⟩
      · refine So_fin (F := fun σ1 => fX6_covered 1000 σ1 y1 y2) (g := fun v => v) (k := 0) (kk := 0) (v := -1) rfl (fun _ => rfl) hR hI ?_ (fun σ1 hr1 => ?_)
        · unfold fX5_covered
          rw [xw_ok (c_siteAt hx), xw_ok (by rw [c_held (hC.site (s := y1.toNat) (by omega)), if_pos hh])]
          refine wp_b1e (q_kindOfA hC.1 y2) ?_
          rw [gt_i h2, if_neg k7]
          exact wp_some ⟨rfl, fun _ => rfl, hC, FrC.rf⟩
        · unfold fX6_covered
          refine wp_b1e (r_isSite y1) ?_
          rw [decide_eq_true hx, if_neg (by decide)]
          refine wp_b1e (r_hasAct hI hr1 hx) ?_
          rw [hh, if_neg (by decide)]
          unfold fX6_covered_J22
          refine wp_pf ?_
          have hr2 := hr1.fr (FrS.up0 (v := 0) FrS.rf)
          have fr := (FrS.up0 (v := 0) (FrS.rf (σ := σ1))).R
          have e0 : st σ1 230 0 0 230 0 = 0 := by rw [st_row, if_pos rfl]
          generalize st σ1 230 0 0 = σ2 at hr2 fr e0
          rw [if_pos (by omega)]
          refine wp_rd h2.1 (by omega) ?_
          rw [(hr2.1.2 y2.toNat (by omega)).2.2.1, if_neg k7]
          exact wp_some ⟨e0, fun _ => rfl, hr2, fr⟩
    · refine So_fin (F := fun σ1 => fX6_covered 1000 σ1 y1 y2) (g := fun v => v) (k := 1) (kk := 1) (v := 0) rfl (fun q => (by cases q)) hR hI ?_ (fun σ1 hr1 => ?_)
      · unfold fX5_covered
        rw [xw_ok (c_siteAt hx), xw_x (by rw [c_held (hC.site (s := y1.toNat) (by omega)), if_neg hh])]
        exact wp_some ⟨rfl, fun q => (by cases q), hC, FrC.rf⟩
      · unfold fX6_covered
        refine wp_b1e (r_isSite y1) ?_
        rw [decide_eq_true hx, if_neg (by decide)]
        refine wp_b1e (r_hasAct hI hr1 hx) ?_
        rw [Bool.eq_false_iff.mpr hh, if_pos (by decide)]
        exact bad σ1 hr1
  · refine So_fin (F := fun σ1 => fX6_covered 1000 σ1 y1 y2) (g := fun v => v) (k := 1) (kk := 1) (v := 0) rfl (fun q => (by cases q)) hR hI (by unfold fX5_covered; exact c_no hC hx) (fun σ1 hr1 => ?_)
    unfold fX6_covered
    refine wp_b1e (r_isSite y1) ?_
    rw [decide_eq_false hx, if_pos (by decide)]
    exact bad σ1 hr1
