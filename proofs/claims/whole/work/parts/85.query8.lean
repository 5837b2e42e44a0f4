/-! ===== actAt ===== -/
def mapS {S R U : Type} (mk : R → U) (step : S → Int → R ⊕ S) : S → Int → U ⊕ S := fun s x => match step s x with
  | .inl r => .inl (mk r)
  | .inr t => .inr t
theorem mapS_l {S R U : Type} {mk : R → U} {step : S → Int → R ⊕ S} {s : S} {x : Int} {r : R} (h : step s x = .inl r) : mapS mk step s x = .inl (mk r) := by unfold mapS; rw [h]
theorem mapS_r {S R U : Type} {mk : R → U} {step : S → Int → R ⊕ S} {s t : S} {x : Int} (h : step s x = .inr t) : mapS mk step s x = .inr t := by unfold mapS; rw [h]
theorem runL_map {S R U : Type} (mk : R → U) (step : S → Int → R ⊕ S) (fin : S → R) (L : List Int) : ∀ s, runL (mapS mk step) (fun s => mk (fin s)) s L = mk (runL step fin s L) := by
  induction L with
  | nil => intro s; rfl
  | cons x L ih =>
    intro s
    cases h : step s x with
    | inl r => rw [runL_in (mapS_l h), runL_in h]
    | inr t => rw [runL_go (mapS_r h), runL_go h, ih]
theorem so_actAt : So_actAt Rel := by
  intro nm nv σ y1 y2 y3 ⟨A, N, hI, hC, hR⟩ _ _ _ _
  refine ⟨1000, ?_⟩
  have hN := hI.1.2.1
  have bad : ∀ σ1, Re σ1 A N nm nv → wp (fX6_actAt_J28 1000 σ1 y1 y2) (OkR σ1 A N nm nv 1 0) := by
    intro σ1 hr1
    unfold fX6_actAt_J28 fX6_actAt_J29
    refine wp_pf ?_
    rw [if_neg (by rw [st_row, if_pos rfl]; decide)]
    exact wp_some (r_no hr1 (by decide))
  by_cases hx : 0 ≤ y1 ∧ y1 < 4
  · have hsz := Hs_size hI (s := y1.toNat) (by omega)
    have hlen : ((OL A N).filter (Hs A y1.toNat)).length ≤ N := by
      have h2 : ((OL A N).filter (Hs A y1.toNat)).length ≤ (OL A N).length := List.length_filter_le _ _
      have h3 : (OL A N).length = N := seg_len _ _ _
      omega
    have hcs := hC.site (s := y1.toNat) (by omega)
    have hcsz : σ (20 + 40 * y1.toNat + 1) 1 = A 245 y1.toNat := hcs.2.2.2.2.2.2.1
    by_cases hy : 0 ≤ y2 ∧ y2 < A 245 y1.toNat
    · refine So_fin (F := fun σ1 => fX6_actAt 1000 σ1 y1 y2) (g := fun v => v) (k := 0) (kk := 0) (v := ((OL A N).filter (Hs A y1.toNat)).getD y2.toNat 0) rfl (fun _ => rfl) hR hI ?_ (fun σ1 hr1 => ?_)
      · unfold fX5_actAt
        rw [xw_ok (c_siteAt hx), if_neg (by omega), hcsz, if_pos hy.2]
        have hT := hC.1
        have run := lpF (bot := fun _ _ => none) (F := fX5_actAt_L38s 1000 σ y1 y2 (20 + 40 * y1.toNat)) (fun i a => 0 ≤ a ∧ a ≤ (i : Int)) (mapS (fun v : Int => ((0 : Nat), v, σ)) (atS (Hs A y1.toNat) y2)) (fun _ => ((0 : Nat), (-1 : Int), σ)) (A 16) N
          (fun lp s hs => by unfold fX5_actAt_L38s; rw [hT.made, if_pos (Int.le_refl _)])
          (fun lp s i hi hs => by
            have e : fX5_actAt_L38s 1000 σ y1 y2 (20 + 40 * y1.toNat) lp s (i : Int) = if b2i (Hs A y1.toNat (A 16 i)) = 0 then lp s ((i : Int) + 1) else if s ≠ y2 then lp (s + 1) ((i : Int) + 1) else some (0, A 16 i, σ) := by
              unfold fX5_actAt_L38s
              rw [hT.made, if_neg (by omega), b1_ok (q_inOrder hT _), OL_in hI.1.to hi, b1_ok (q_contains σ _ _), hcs.has, ck_ok (by omega) (by omega), ck_ok (by omega) (by omega), ck_ok (by omega) (by omega)]
            rw [e]
            cases hb : Hs A y1.toNat (A 16 i)
            · exact Or.inr ⟨s, mapS_r (by unfold atS; rw [if_neg (by rw [hb]; decide)]), rfl, by omega⟩
            · by_cases hw : s = y2
              · exact Or.inl ⟨_, mapS_l (r := A 16 i) (by unfold atS; rw [if_pos hb, if_pos hw]), by rw [if_neg (by decide), if_neg (by omega)]⟩
              · exact Or.inr ⟨s + 1, mapS_r (by unfold atS; rw [if_pos hb, if_neg hw]), by rw [if_neg (by decide), if_pos hw], by omega⟩)
          N 1000 0 0 (Nat.zero_add _) (by omega) ⟨by decide, by decide⟩
        have hc : y2 < 0 + cnt (Hs A y1.toNat) (OL A N) := by rw [cnt_filter, ← hsz]; omega
        have run2 := runL_map (fun v : Int => ((0 : Nat), v, σ)) (atS (Hs A y1.toNat) y2) (fun _ => -1) (OL A N) 0
        rw [at_filter (OL A N) 0 y2 (fun _ => -1) hy.1 hc, Int.sub_zero] at run2
        refine ⟨_, (show fX5_actAt_L38 1000 σ y1 y2 (20 + 40 * y1.toNat) 1000 0 0 = _ from run.trans (congrArg some run2)), rfl, fun _ => rfl, hC, FrC.rf⟩
      · unfold fX6_actAt
        refine wp_b1e (r_isSite y1) ?_
        rw [decide_eq_true hx, if_neg (by decide)]
        refine wp_rd hx.1 (by omega) ?_
        rw [(hr1.2.2.1 y1.toNat (by omega)).1 245 (by decide) (by decide)]
        refine wp_ck (by omega) (by omega) (wp_b1e (r_isIn _ _ _) ?_)
        rw [decide_eq_true (show 0 ≤ y2 ∧ y2 ≤ A 245 y1.toNat - 1 by omega), if_neg (by decide)]
        unfold fX6_actAt_J29
        refine wp_pf ?_
        have hr2 := hr1.fr (FrS.up0 (v := 0) FrS.rf)
        have fr := (FrS.up0 (v := 0) (FrS.rf (σ := σ1))).R
        have e0 : st σ1 230 0 0 230 0 = 0 := by rw [st_row, if_pos rfl]
        generalize st σ1 230 0 0 = σ2 at hr2 fr e0
        rw [if_pos (by omega)]
        refine wp_ck (by omega) (by omega) (wp_b1 (r_ordSite hI hr2 hx (by decide)) (fun σ3 q => ?_))
        refine wp_rd hy.1 (by omega) (wp_some ⟨(q.2.2 230 0 (by decide) (by decide)).trans e0, fun _ => ?_, q.2.1, fr.tr (FrR.ofO q.2.2)⟩)
        have := seg_get (σ3 261) ((OL A N).filter (Hs A y1.toNat)).length 0 y2.toNat
        rw [q.1.1, if_pos (by omega), Nat.zero_add] at this
        show σ3 261 y2.toNat = _
        rw [List.getD_eq_getElem?_getD, this]; rfl
    · refine So_fin (F := fun σ1 => fX6_actAt 1000 σ1 y1 y2) (g := fun v => v) (k := 1) (kk := 1) (v := 0) rfl (fun q => (by cases q)) hR hI ?_ (fun σ1 hr1 => ?_)
      · unfold fX5_actAt fX5_actAt_J21
        rw [xw_ok (c_siteAt hx), hcsz]
        refine wp_if (fun _ => wp_some ⟨rfl, fun q => (by cases q), hC, FrC.rf⟩) (fun q => ?_)
        rw [if_neg (by omega)]
        exact wp_some ⟨rfl, fun q => (by cases q), hC, FrC.rf⟩
      · unfold fX6_actAt
        refine wp_b1e (r_isSite y1) ?_
        rw [decide_eq_true hx, if_neg (by decide)]
        refine wp_rd hx.1 (by omega) ?_
        rw [(hr1.2.2.1 y1.toNat (by omega)).1 245 (by decide) (by decide)]
        refine wp_ck (by omega) (by omega) (wp_b1e (r_isIn _ _ _) ?_)
        rw [decide_eq_false (show ¬ (0 ≤ y2 ∧ y2 ≤ A 245 y1.toNat - 1) by omega), if_pos (by decide)]
        exact bad σ1 hr1
  · refine So_fin (F := fun σ1 => fX6_actAt 1000 σ1 y1 y2) (g := fun v => v) (k := 1) (kk := 1) (v := 0) rfl (fun q => (by cases q)) hR hI (by unfold fX5_actAt; exact c_no hC hx) (fun σ1 hr1 => ?_)
    unfold fX6_actAt
    refine wp_b1e (r_isSite y1) ?_
    rw [decide_eq_false hx, if_pos (by decide)]
    exact bad σ1 hr1
