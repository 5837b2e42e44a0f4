/-! ===== questions about acts ===== -/
section Q5
variable {σ A : St} {N nm nv n s : Nat}
theorem r_hasAct {x w : Int} (hI : Inv A N nm nv) (h : Re σ A N nm nv) (hx : 0 ≤ x ∧ x < 4) : fX6_hasAct σ x w = some (b2i (Hs A x.toNat w)) := by
  have hN := hI.1.2.1
  unfold fX6_hasAct
  rw [h.1.1, ck_ok (by omega) (by omega), b1_ok (r_isIn _ _ _), if_b2i]
  by_cases hw : 0 ≤ w ∧ w < (N : Int)
  · rw [if_pos (decide_eq_true (by omega)), ck_ok (by omega) (by omega), ck_ok (by omega) (by omega), rd_ok (by omega) (by omega)]
    rw [show (160 * x + w).toNat = 160 * x.toNat + w.toNat by omega, (h.2.2.1 x.toNat (by omega)).2.1 w.toNat (by omega)]
    have hnum : num w := ⟨hw.1, by omega⟩
    unfold Hs
    by_cases q : A 243 (160 * x.toNat + w.toNat) = 0
    · rw [if_pos q, decide_eq_false (fun z => z.2 q)]; rfl
    · rw [if_neg q, decide_eq_true ⟨hnum, q⟩]; rfl
  · rw [if_neg (fun z => hw (by have := of_decide_eq_true z; omega))]
    have : Hs A x.toNat w = false := by
      rw [Bool.eq_false_iff]
      intro z
      exact hw ((hI.2.1 x.toNat (by omega)).2.2.2.2.1 w ((Hs_iff (hI.2.1 x.toNat (by omega)) hN w).mp z))
    rw [this]; rfl
theorem Hs_lt {w : Int} (hI : Inv A N nm nv) (hs : s < 4) (h : Hs A s w = true) : 0 ≤ w ∧ w < (N : Int) := (hI.2.1 s hs).2.2.2.2.1 w ((Hs_iff (hI.2.1 s hs) hI.1.2.1 w).mp h)
theorem c_held {w : Int} (hs : ClS σ A N s) : fX5_checkHeld σ (20 + 40 * s) w = if Hs A s w = true then some (0, 0, σ) else some (1, 0, σ) := by
  unfold fX5_checkHeld
  rw [b1_ok (q_contains σ _ w), hs.has]
  cases Hs A s w
  · rw [if_neg (by decide), if_neg (by decide)]
  · rw [if_pos (by decide), if_pos rfl]
/-- the order of a site's acts, as the reference finds it -/
def isO (σ A : St) (N : Nat) (S : Int → Bool) : Prop := seg (σ 261) 0 ((OL A N).filter S).length = (OL A N).filter S ∧ σ 230 29 = (((OL A N).filter S).length : Int) ∧ ∀ i, i < N → σ 262 i = ((OL A N).filter S).foldl (uOne A N) C0 9 i
theorem r_ordSite {x : Int} (hI : Inv A N nm nv) (h : Re σ A N nm nv) (hx : 0 ≤ x ∧ x < 4) (hn : 700 ≤ n) : wp (fX6_orders n σ 243 (160 * x)) (fun σ2 => isO σ2 A N (Hs A x.toNat) ∧ Re σ2 A N nm nv ∧ FrO σ σ2) := by
  have hN := hI.1.2.1
  have q := h.2.2.1 x.toNat (by omega)
  have e : (160 : Int) * x = ((160 * x.toNat : Nat) : Int) := by omega
  rw [e]
  refine wp_mono (r_orders h.1 hI.1.2.2.2.1 hI.1.2.2.2.2.1 hN (by omega) (by decide) (by decide) (by show 160 * x.toNat + N ≤ 640; omega) (fun a ha => ?_) (Hs A x.toNat) (fun a ha => ?_)) (fun σ2 z => ⟨⟨z.1, z.2.1, z.2.2.1⟩, h.fr (FrS.ofO z.2.2.2), z.2.2.2⟩)
  · rw [q.2.1 a (by omega)]; exact (hI.2.1 x.toNat (by omega)).2.2.2.2.2.1 a (by omega)
  · rw [q.2.1 a (by omega)]
    unfold Hs
    rw [decide_eq_true_iff, Int.toNat_natCast]
    exact ⟨fun z => z.2, fun z => ⟨show 0 ≤ (a : Int) ∧ (a : Int) < 160 by omega, z⟩⟩
end Q5
theorem so_has : So_has Rel := by
  intro nm nv σ y1 y2 y3 ⟨A, N, hI, hC, hR⟩ _ _ _ _
  by_cases hx : 0 ≤ y1 ∧ y1 < 4
  · refine So_fin (F := fun σ1 => fX6_has σ1 y1) (g := fun v => v) (k := 0) (kk := 0) (v := A 245 y1.toNat) rfl (fun _ => rfl) hR hI ?_ (fun σ1 hr1 => ?_)
    · unfold fX5_has
      rw [xw_ok (c_siteAt hx)]
      exact wp_some ⟨rfl, fun _ => (hC.site (s := y1.toNat) (by omega)).2.2.2.2.2.2.1, hC, FrC.rf⟩
    · unfold fX6_has
      refine wp_pf (wp_b1e (r_isSite y1) ?_)
      rw [decide_eq_true hx, if_neg (by decide)]
      have hr2 := hr1.fr (FrS.up0 (v := 0) FrS.rf)
      refine wp_rd hx.1 (by omega) (wp_some ⟨?_, fun _ => (hr2.2.2.1 y1.toNat (by omega)).1 245 (by decide) (by decide), hr2, (FrS.up0 FrS.rf).R⟩)
      show st σ1 230 0 0 230 0 = 0
      rw [st_row, if_pos rfl]
  · refine So_fin (F := fun σ1 => fX6_has σ1 y1) (g := fun v => v) (k := 1) (kk := 1) (v := 0) rfl (fun q => (by cases q)) hR hI (by unfold fX5_has; exact c_no hC hx) (fun σ1 hr1 => ?_)
    unfold fX6_has
    refine wp_pf (wp_b1e (r_isSite y1) ?_)
    rw [decide_eq_false hx, if_pos (by decide)]
    refine wp_b2e (r_fails 1) (wp_some ?_)
    have := r_no (hr1.fr (FrS.up0 (v := 0) FrS.rf)) (kk := 1) (v := 0) (w := 0) (by decide)
    exact ⟨this.1, this.2.1, this.2.2.1, (FrS.up0 FrS.rf).R.tr this.2.2.2⟩
theorem so_act : So_act Rel := by
  intro nm nv σ y1 y2 y3 ⟨A, N, hI, hC, hR⟩ _ _ _ _
  have hN := hI.1.2.1
  by_cases hx : 0 ≤ y1 ∧ y1 < (N : Int)
  · have v := hI.1.2.2.2.1 y1.toNat (by omega)
    have v1 := v.1
    have v2 := v.2.1
    have v3 := v.2.2.1
    clear v
    refine So_fin (F := fun σ1 => fX6_act σ1 y1) (g := fun v => v) (k := 0) (kk := 0) (v := 1000 * A 10 y1.toNat + 100 * A 9 y1.toNat + A 11 y1.toNat) rfl (fun _ => rfl) hR hI ?_ (fun σ1 hr1 => ?_)
    · unfold fX5_act
      rw [hC.1.made, if_neg (by omega), if_pos hx.2]
      refine wp_b1e (q_countOf hC.1 y1) ?_
      rw [gt_i hx]
      refine wp_ck (by omega) (by omega) (wp_b1e (q_siteOf hC.1 y1) ?_)
      rw [gt_i hx]
      refine wp_ck (by omega) (by omega) (wp_ck (by omega) (by omega) (wp_b1e (q_kindOfA hC.1 y1) ?_))
      rw [gt_i hx]
      exact wp_ck (by omega) (by omega) (wp_some ⟨rfl, fun _ => rfl, hC, FrC.rf⟩)
    · unfold fX6_act
      have hr2 := hr1.fr (FrS.up0 (v := 0) FrS.rf)
      have fr := (FrS.up0 (v := 0) (FrS.rf (σ := σ1))).R
      have e0 : st σ1 230 0 0 230 0 = 0 := by rw [st_row, if_pos rfl]
      refine wp_pf ?_
      generalize st σ1 230 0 0 = σ2 at hr2 fr e0
      have t := hr2.1.2 y1.toNat (by omega)
      have t1 := t.1
      have t2 := t.2.1
      have t3 := t.2.2.1
      clear t
      rw [hr2.1.1]
      refine wp_ck (by omega) (by omega) (wp_b1e (r_isIn _ _ _) ?_)
      rw [decide_eq_true (show 0 ≤ y1 ∧ y1 ≤ (N : Int) - 1 by omega), if_neg (by decide)]
      refine wp_rd hx.1 (by omega) ?_
      rw [t2]
      refine wp_ck (by omega) (by omega) (wp_rd hx.1 (by omega) ?_)
      rw [t1]
      refine wp_ck (by omega) (by omega) (wp_ck (by omega) (by omega) (wp_rd hx.1 (by omega) ?_))
      rw [t3]
      exact wp_ck (by omega) (by omega) (wp_some ⟨e0, fun _ => rfl, hr2, fr⟩)
  · refine So_fin (F := fun σ1 => fX6_act σ1 y1) (g := fun v => v) (k := 1) (kk := 1) (v := 0) rfl (fun q => (by cases q)) hR hI ?_ (fun σ1 hr1 => ?_)
    · unfold fX5_act fX5_act_J15
      rw [hC.1.made]
      refine wp_if (fun _ => wp_some ⟨rfl, fun q => (by cases q), hC, FrC.rf⟩) (fun q => ?_)
      rw [if_neg (by omega)]
      exact wp_some ⟨rfl, fun q => (by cases q), hC, FrC.rf⟩
    · unfold fX6_act
      have hr2 := hr1.fr (FrS.up0 (v := 0) FrS.rf)
      have fr := (FrS.up0 (v := 0) (FrS.rf (σ := σ1))).R
      refine wp_pf ?_
      generalize st σ1 230 0 0 = σ2 at hr2 fr
      rw [hr2.1.1]
      refine wp_ck (by omega) (by omega) (wp_b1e (r_isIn _ _ _) ?_)
      rw [decide_eq_false (show ¬ (0 ≤ y1 ∧ y1 ≤ (N : Int) - 1) by omega), if_pos (by decide)]
      refine wp_b2e (r_fails 1) (wp_some ?_)
      have := r_no hr2 (kk := 1) (v := 0) (w := 0) (by decide)
      exact ⟨this.1, this.2.1, this.2.2.1, fr.tr this.2.2.2⟩
theorem so_isUndone : So_isUndone Rel := by
  intro nm nv σ y1 y2 y3 ⟨A, N, hI, hC, hR⟩ _ _ _ _
  refine ⟨1000, ?_⟩
  have bad : ∀ σ1, Re σ1 A N nm nv → wp (fX6_isUndone_J21 1000 σ1 y1 y2) (OkR σ1 A N nm nv 1 0) := by
    intro σ1 hr1
    unfold fX6_isUndone_J21 fX6_isUndone_J22
    refine wp_pf ?_
    rw [if_neg (by rw [st_row, if_pos rfl]; decide)]
    exact wp_some (r_no hr1 (by decide))
  by_cases hx : 0 ≤ y1 ∧ y1 < 4
  · by_cases hh : Hs A y1.toNat y2 = true
    · have h2 := Hs_lt hI (by omega) hh
      have dk := hI.dk (s := y1.toNat) (by omega)
      have hb := dk.1.2.2.2.2.2.2.1 y2.toNat
      have hN := hI.1.2.1
      refine So_fin (F := fun σ1 => fX6_isUndone 1000 σ1 y1 y2) (g := fun v => if v = 0 then 0 else 1) (k := 0) (kk := 0) (v := (docOf A N (Hs A y1.toNat)).2 9 y2.toNat) rfl (fun _ => rfl) hR hI ?_ (fun σ1 hr1 => ?_)
      · unfold fX5_isUndone
        rw [xw_ok (c_siteAt hx), xw_ok (by rw [c_held (hC.site (s := y1.toNat) (by omega)), if_pos hh])]
        refine wp_b2 (c_paperOf hI.1 hC (s := y1.toNat) (by omega) (by decide)) (fun o s q => ?_)
        obtain ⟨q1, q2, q3, q4⟩ := q
        have q1' : o = 20 + 40 * y1.toNat + 10 := q1
        subst q1'
        refine wp_b1e (q_wasUndone q2 y2) (wp_some ⟨rfl, fun _ => ?_, q3, q4⟩)
        show b2i (decide (num y2 ∧ (docOf A N (Hs A y1.toNat)).2 9 y2.toNat ≠ 0)) = _
        have hnum : num y2 := ⟨h2.1, by omega⟩
        rcases hb with z | z
        · rw [decide_eq_false (fun w => w.2 z), z]; rfl
        · rw [decide_eq_true ⟨hnum, by omega⟩, z]; rfl
      · unfold fX6_isUndone
        refine wp_b1e (r_isSite y1) ?_
        rw [decide_eq_true hx, if_neg (by decide)]
        refine wp_b1e (r_hasAct hI hr1 hx) ?_
        rw [hh, if_neg (by decide)]
        unfold fX6_isUndone_J22
        refine wp_pf ?_
        have hr2 := hr1.fr (FrS.up0 (v := 0) FrS.rf)
        have fr := (FrS.up0 (v := 0) (FrS.rf (σ := σ1))).R
        have e0 : st σ1 230 0 0 230 0 = 0 := by rw [st_row, if_pos rfl]
        generalize st σ1 230 0 0 = σ2 at hr2 fr e0
        rw [if_pos (by omega)]
        refine wp_ck (by omega) (by omega) (wp_b1 (r_ordSite hI hr2 hx (by decide)) (fun σ3 q => ?_))
        refine wp_rd h2.1 (by omega) ?_
        rw [q.1.2.2 _ (by omega), ← dk.2.2.2.1 y2.toNat, rb_ok hb]
        refine wp_some ⟨?_, fun _ => rfl, q.2.1, fr.tr (FrR.ofO q.2.2)⟩
        exact (q.2.2 230 0 (by decide) (by decide)).trans e0
    · refine So_fin (F := fun σ1 => fX6_isUndone 1000 σ1 y1 y2) (g := fun v => if v = 0 then 0 else 1) (k := 1) (kk := 1) (v := 0) rfl (fun q => (by cases q)) hR hI ?_ (fun σ1 hr1 => ?_)
      · unfold fX5_isUndone
        rw [xw_ok (c_siteAt hx), xw_x (by rw [c_held (hC.site (s := y1.toNat) (by omega)), if_neg hh])]
        exact wp_some ⟨rfl, fun q => (by cases q), hC, FrC.rf⟩
      · unfold fX6_isUndone
        refine wp_b1e (r_isSite y1) ?_
        rw [decide_eq_true hx, if_neg (by decide)]
        refine wp_b1e (r_hasAct hI hr1 hx) ?_
        rw [Bool.eq_false_iff.mpr hh, if_pos (by decide)]
        exact bad σ1 hr1
  · refine So_fin (F := fun σ1 => fX6_isUndone 1000 σ1 y1 y2) (g := fun v => if v = 0 then 0 else 1) (k := 1) (kk := 1) (v := 0) rfl (fun q => (by cases q)) hR hI (by unfold fX5_isUndone; exact c_no hC hx) (fun σ1 hr1 => ?_)
    unfold fX6_isUndone
    refine wp_b1e (r_isSite y1) ?_
    rw [decide_eq_false hx, if_pos (by decide)]
    exact bad σ1 hr1
