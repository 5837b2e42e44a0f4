/-! ===== propose ===== -/
theorem so_propose : So_propose Rel := by
  intro nm nv σ y1 y2 y3 ⟨A, N, hI, hC, hR⟩ _ _ _ _
  by_cases hx : 0 ≤ y1 ∧ y1 < 4
  · have hs : y1.toNat < 4 := by omega
    have hold := (hI.2.1 y1.toNat hs).1
    have e : SaC A (st A 250 y1.toNat (nz y2)) := fun r hr => st_fn (by omega)
    have hI2 : Inv (st A 250 y1.toNat (nz y2)) N nm nv := by
      refine hI.cur e (fun s hs4 => ?_) (fun s hs4 => ?_) (fun s hs4 => ?_)
      · rw [st_row]; split
        · exact nz_b y2
        · exact (hI.2.1 s hs4).1
      · rw [st_ne (by decide)]; exact (hI.2.1 s hs4).2.2.2.2.2.2.2.2.2.1
      · rw [st_ne (by decide)]; exact (hI.2.1 s hs4).2.2.2.2.2.2.2.2.2.2.1
    refine So_fin (A' := st A 250 y1.toNat (nz y2)) (F := fun σ1 => fX6_propose σ1 y1 (nz y2)) (g := fun v => if v = 0 then 0 else 1) (k := 0) (kk := 0) (v := A 250 y1.toNat) rfl (fun _ => rfl) hR hI2 ?_ (fun σ1 hr1 => ?_)
    · have w := hC.site hs
      unfold fX5_propose
      rw [xw_ok (c_siteAt hx)]
      refine wp_pfb (nz_b y2) ?_
      rw [rb_ok (by rw [w.2.2.1]; exact hold)]
      refine wp_some ⟨rfl, fun _ => w.2.2.1, ?_, FrC.rf.upd (by omega)⟩
      refine hC.cur hI.1 e (fun a b hab => ?_) (fun t ht => ?_)
      · show st σ (20 + 40 * y1.toNat) 6 (nz y2) a b = σ a b
        have := hab y1.toNat hs
        by_cases q : a = 20 + 40 * y1.toNat
        · subst q; rw [st_row, if_neg (by omega)]
        · exact st_ne q
      · have w2 := hC.site ht
        show st σ (20 + 40 * y1.toNat) 6 (nz y2) (20 + 40 * t) 6 = st A 250 y1.toNat (nz y2) 250 t ∧ st σ (20 + 40 * y1.toNat) 6 (nz y2) (20 + 40 * t) 8 = st A 250 y1.toNat (nz y2) 248 t ∧ st σ (20 + 40 * y1.toNat) 6 (nz y2) (20 + 40 * t) 9 = st A 250 y1.toNat (nz y2) 249 t
        rw [st_row (c := 250), st_ne (a := 248) (by decide), st_ne (a := 249) (by decide)]
        by_cases q : t = y1.toNat
        · rw [q] at w2 ⊢
          rw [st_row, st_row, st_row, if_pos rfl, if_pos rfl, if_neg (by decide), if_neg (by decide)]
          exact ⟨rfl, w2.2.2.2.2.1, w2.2.2.2.2.2.1⟩
        · rw [st_ne (by omega), st_ne (by omega), st_ne (by omega), if_neg q]
          exact ⟨w2.2.2.1, w2.2.2.2.2.1, w2.2.2.2.2.2.1⟩
    · unfold fX6_propose
      refine wp_b1e (r_isSite y1) ?_
      rw [decide_eq_true hx, if_neg (by decide)]
      unfold fX6_propose_J13
      refine wp_pf ?_
      have hr2 := hr1.fr (FrS.up0 (v := 0) FrS.rf)
      have fr := (FrS.up0 (v := 0) (FrS.rf (σ := σ1))).R
      have e0 : st σ1 230 0 0 230 0 = 0 := by rw [st_row, if_pos rfl]
      generalize st σ1 230 0 0 = σ2 at hr2 fr e0
      have h250 := (hr2.2.2.1 y1.toNat hs).1 250 (by decide) (by decide)
      rw [if_pos (by omega)]
      refine wp_rd hx.1 (by omega) (wp_wrb hx.1 (by omega) (nz_b y2) ?_)
      rw [rb_ok (by rw [h250]; exact hold)]
      refine wp_some ⟨?_, fun _ => h250, ?_, fr.upd (by decide)⟩
      · show st σ2 250 y1.toNat (nz y2) 230 0 = 0
        rw [st_ne (by decide)]; exact e0
      · refine hr2.cur e (fun a b hab => st_ne (by omega)) (fun r s r1 r2 hs4 => ?_)
        show st σ2 250 y1.toNat (nz y2) r s = st A 250 y1.toNat (nz y2) r s
        by_cases q : r = 250
        · rw [q, st_row, st_row]
          split
          · rfl
          · exact (hr2.2.2.1 s hs4).1 250 (by decide) (by decide)
        · rw [st_ne q, st_ne q]; exact (hr2.2.2.1 s hs4).1 r (by omega) (by omega)
  · refine So_fin (F := fun σ1 => fX6_propose σ1 y1 (nz y2)) (g := fun v => if v = 0 then 0 else 1) (k := 1) (kk := 1) (v := 0) rfl (fun q => (by cases q)) hR hI (by unfold fX5_propose; exact c_no hC hx) (fun σ1 hr1 => ?_)
    unfold fX6_propose
    refine wp_b1e (r_isSite y1) ?_
    rw [decide_eq_false hx, if_pos (by decide)]
    unfold fX6_propose_J13
    refine wp_pf ?_
    rw [if_neg (by rw [st_row, if_pos rfl]; decide)]
    exact wp_some (r_no hr1 (by decide))
