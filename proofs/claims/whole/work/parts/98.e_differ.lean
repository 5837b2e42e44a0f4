/-! ===== differ ===== -/
section DIF
variable {σ τ A : St} {N nm nv n s v : Nat} {D : Dc} {S : Int → Bool}
theorem c_verAt (hC : Cl σ A N nm nv) (hv : nv ≤ 10) {x : Int} (hx : 0 ≤ x ∧ x < (nv : Int)) : fX5_versionAt σ x = some (0, 700 + 2 * x.toNat, σ) := by
  have e30 : σ 3 0 = (nv : Int) := hC.2.2.2.2.2.2.1
  unfold fX5_versionAt
  rw [if_neg (by omega), if_neg (by omega), rn_in hx.1 (by omega) (by omega), rn_in hx.1 (by omega) (by omega)]
theorem c_verNo (hC : Cl σ A N nm nv) {x : Int} (hx : ¬ (0 ≤ x ∧ x < (nv : Int))) : fX5_versionAt σ x = some (1, 0, σ) := by
  have e30 : σ 3 0 = (nv : Int) := hC.2.2.2.2.2.2.1
  unfold fX5_versionAt fX5_versionAt_J22
  by_cases g : x < 0
  · rw [if_pos g]
  · rw [if_neg g]
    by_cases g2 : 10 ≤ x
    · rw [if_pos g2]
    · rw [if_neg g2, rn_out (by omega) (by omega) (by omega)]
theorem r_isVer (hR : Re σ A N nm nv) (hv : nv ≤ 10) (x : Int) : fX6_isVersion σ x = some (b2i (decide (0 ≤ x ∧ x < (nv : Int)))) := by
  unfold fX6_isVersion
  rw [hR.2.2.2.2.2.1, ck_ok (by omega) (by omega), b1_ok (r_isIn _ _ _)]
  rw [show decide (0 ≤ x ∧ x ≤ (nv : Int) - 1) = decide (0 ≤ x ∧ x < (nv : Int)) from decide_eq_decide.mpr (by omega)]
theorem c_inV (hC : Cl σ A N nm nv) (hv : v < nv) : inS σ (700 + 2 * v) = Vs A v := by
  have w := hC.2.2.2.2.2.2.2 v hv
  funext x
  unfold inS Vs
  refine decide_eq_decide.mpr ⟨fun z => ⟨z.1, ?_⟩, fun z => ⟨z.1, ?_⟩⟩
  · rw [← w x.toNat (by have := z.1; unfold num at this; omega)]; exact z.2
  · have := w x.toNat (by have := z.1; unfold num at this; omega)
    rw [← this] at z; exact z.2
theorem shown_in (hd : DI A N D) {x : Int} (h : shownB D x = true) : x ∈ D.1 := by
  have w : num x ∧ D.2 4 x.toNat = 1 ∧ D.2 6 x.toNat = 0 := of_decide_eq_true h
  have w1 : 0 ≤ x ∧ x < 160 := w.1
  have e : ((x.toNat : Nat) : Int) = x := Int.toNat_of_nonneg w1.1
  by_cases q : x ∈ D.1
  · exact q
  · have := (hd.2.2.2.1 x.toNat (by rw [e]; exact q)).1
    omega
theorem Inv.dv (hI : Inv A N nm nv) (hv : v < nv) : DK A N (Vs A v) (docOf A N (Vs A v)) := doc_ok hI.1.2.2.2.1 hI.1.2.2.2.2.1 hI.1.2.2.2.2.2.1 (hI.2.2.2.2.2 v hv).1 hI.1.2.1
/-- the reference finds a version -/
theorem r_ver (hI : Inv A N nm nv) (h : Re σ A N nm nv) (hv : v < nv) (hn : 700 ≤ n) : wp (fX6_finds n σ 258 (160 * (v : Int))) (fun σ2 => isD σ2 A N (Vs A v) ∧ Re σ2 A N nm nv ∧ FrF σ σ2) := by
  have hN := hI.1.2.1
  have hv10 := hI.2.2.2.2.1
  have w := h.2.2.2.2.2.2
  have z := hI.2.2.2.2.2 v hv
  rw [show (160 : Int) * (v : Int) = ((160 * v : Nat) : Int) by omega]
  refine r_findsG hI.1 h hn (by decide) (by decide) (by show 160 * v + N ≤ 1600; omega) (fun a ha => by rw [w v a hv (by omega)]; exact (z.2 a (by omega)).1) (Vs A v) (fun a ha => ?_) z.1
  rw [w v a hv (by omega)]
  unfold Vs
  rw [decide_eq_true_iff, Int.toNat_natCast]
  exact ⟨fun w => w.2, fun w => ⟨show 0 ≤ (a : Int) ∧ (a : Int) < 160 by omega, w⟩⟩
theorem r_keeps (hI : Inv A N nm nv) (h : Re σ A N nm nv) (hv : v < nv) (hn : 700 ≤ n) : wp (fX6_keeps n σ (v : Int)) (fun σ2 => (∀ i : Nat, i < 160 → σ2 273 i = b2i (shownB (docOf A N (Vs A v)) (i : Int))) ∧ Re σ2 A N nm nv ∧ FrR σ σ2 ∧ σ2 230 0 = σ 230 0) := by
  have hN := hI.1.2.1
  have hv10 := hI.2.2.2.2.1
  have dk := hI.dv hv
  unfold fX6_keeps
  refine wp_ck (by omega) (by omega) (wp_b1 (r_ver hI h hv hn) (fun σ3 q => ?_))
  obtain ⟨q1, q2, q3⟩ := q
  have e0 : σ3 230 0 = σ 230 0 := q3 230 0 (by decide) (by decide)
  have f3 : FrR σ σ3 := FrR.ofF q3
  have hl := q1.r.2.1
  have l37 : ∀ (q k i : Nat) (τ : St), i + q = (docOf A N (Vs A v)).1.length → q < k → (∀ a, a ≠ 273 → τ a = σ3 a) → (∀ j : Nat, j < 160 → τ 273 j = if (j : Int) ∈ (docOf A N (Vs A v)).1.take i then b2i (shownB (docOf A N (Vs A v)) (j : Int)) else 0) → wp (fX6_keeps_L37 n (v : Int) k τ (i : Int)) (fun σ2 => (∀ i : Nat, i < 160 → σ2 273 i = b2i (shownB (docOf A N (Vs A v)) (i : Int))) ∧ Re σ2 A N nm nv ∧ FrR σ σ2 ∧ σ2 230 0 = σ 230 0) := by
    intro q
    induction q with
    | zero =>
      intro k i τ e hk f g
      obtain ⟨k, rfl⟩ : ∃ q, k = q + 1 := ⟨k - 1, by omega⟩
      unfold fX6_keeps_L37
      rw [lpR_s]
      unfold fX6_keeps_L37s
      rw [f 230 (by decide), q1.r.1, if_pos (by omega)]
      refine wp_some ⟨fun j hj => ?_, q2.fr (fun a b h1 h2 => by rw [f a (by omega)]), fun a b hab => by rw [f a (by omega)]; exact f3 a b hab, by rw [f 230 (by decide)]; exact e0⟩
      rw [g j hj, List.take_of_length_le (by omega)]
      by_cases z : (j : Int) ∈ (docOf A N (Vs A v)).1
      · rw [if_pos z]
      · rw [if_neg z]
        have : shownB (docOf A N (Vs A v)) (j : Int) = false := by
          rw [Bool.eq_false_iff]; exact fun w => z (shown_in dk.1 w)
        rw [this]; rfl
    | succ q ih =>
      intro k i τ e hk f g
      obtain ⟨k, rfl⟩ : ∃ q, k = q + 1 := ⟨k - 1, by omega⟩
      have ih2 := fun τ2 => ih k (i + 1) τ2 (by omega) (by omega)
      unfold fX6_keeps_L37 at ih2 ⊢
      rw [lpR_s]
      generalize lpR (fun _ _ => none) (fX6_keeps_L37s n (v : Int)) k = lp at ih2
      have hi : i < (docOf A N (Vs A v)).1.length := by omega
      have hm := q1.r.mem hi
      have hr := dk.1.row hN hm
      have hr' : 0 ≤ σ3 264 i ∧ σ3 264 i < 160 := hr.1
      have r1 : isR τ N (docOf A N (Vs A v)) := q1.r.fr2 (fun a b hab => by rw [f a (by omega)])
      unfold fX6_keeps_L37s
      rw [f 230 (by decide), q1.r.1, if_neg (by omega)]
      refine wp_rd (by omega) (by omega) (wp_rd (by omega) (by omega) ?_)
      rw [Int.toNat_natCast, f 264 (by decide)]
      refine wp_b1e (r_isShown r1 dk.1 hN hm) (wp_wrb (by omega) (by omega) (b2i_b _) (wp_ck (by omega) (by omega) ?_))
      refine ih2 _ (fun a ha => by rw [st_fn ha]; exact f a ha) (fun j hj => ?_)
      have et : (docOf A N (Vs A v)).1.take (i + 1) = (docOf A N (Vs A v)).1.take i ++ [σ3 264 i] := by
        rw [List.take_succ, q1.r.get hi]; rfl
      rw [st_row, et]
      by_cases z : j = (σ3 264 i).toNat
      · have ez : (j : Int) = σ3 264 i := by omega
        rw [if_pos z, if_pos (by rw [ez]; exact List.mem_append_right _ List.mem_cons_self), ez]
      · rw [if_neg z, g j hj]
        by_cases z2 : (j : Int) ∈ (docOf A N (Vs A v)).1.take i
        · rw [if_pos z2, if_pos (List.mem_append_left _ z2)]
        · rw [if_neg z2, if_neg (fun w => by
            rcases List.mem_append.mp w with w | w
            · exact z2 w
            · rcases List.mem_cons.mp w with w | w
              · omega
              · cases w)]
  have l15 : ∀ (q k i : Nat) (τ : St), i + q = 160 → q < k → (∀ a, a ≠ 273 → τ a = σ3 a) → (∀ j : Nat, j < i → τ 273 j = 0) → wp (fX6_keeps_L15 n (v : Int) k τ (i : Int)) (fun σ2 => (∀ i : Nat, i < 160 → σ2 273 i = b2i (shownB (docOf A N (Vs A v)) (i : Int))) ∧ Re σ2 A N nm nv ∧ FrR σ σ2 ∧ σ2 230 0 = σ 230 0) := by
    intro q
    induction q with
    | zero =>
      intro k i τ e hk f g
      obtain ⟨k, rfl⟩ : ∃ q, k = q + 1 := ⟨k - 1, by omega⟩
      unfold fX6_keeps_L15
      rw [lpR_s]
      unfold fX6_keeps_L15s
      rw [if_pos (by omega)]
      exact l37 (docOf A N (Vs A v)).1.length n 0 τ (by omega) (by omega) f (fun j hj => by rw [List.take_zero, if_neg List.not_mem_nil]; exact g j (by omega))
    | succ q ih =>
      intro k i τ e hk f g
      obtain ⟨k, rfl⟩ : ∃ q, k = q + 1 := ⟨k - 1, by omega⟩
      have ih2 := fun τ2 => ih k (i + 1) τ2 (by omega) (by omega)
      unfold fX6_keeps_L15 at ih2 ⊢
      rw [lpR_s]
      generalize lpR (fun _ _ => none) (fX6_keeps_L15s n (v : Int)) k = lp at ih2
      unfold fX6_keeps_L15s
      rw [if_neg (by omega)]
      refine wp_wrb (by omega) (by omega) (Or.inl rfl) (wp_ck (by omega) (by omega) ?_)
      rw [Int.toNat_natCast]
      refine ih2 _ (fun a ha => by rw [st_fn ha]; exact f a ha) (fun j hj => ?_)
      rw [st_row]; split
      · rfl
      · exact g j (by omega)
  exact l15 160 n 0 σ3 (by decide) (by omega) (fun _ _ => rfl) (fun j hj => by omega)
theorem so_differ : So_differ Rel := by
  intro nm nv σ y1 y2 y3 ⟨A, N, hI, hC, hR⟩ _ _ _ _
  have hN := hI.1.2.1
  have hv10 := hI.2.2.2.2.1
  refine ⟨1000, ?_⟩
  have bad : ∀ σ1, Re σ1 A N nm nv → wp (fX6_differ_J21 1000 σ1 y1 y2) (OkR σ1 A N nm nv 1 0) := fun σ1 hr1 => by
    unfold fX6_differ_J21 fX6_differ_J22
    exact r_bad (by decide) (r_badR (by decide) hr1 FrR.rf)
  by_cases hx : 0 ≤ y1 ∧ y1 < (nv : Int)
  · by_cases hy : 0 ≤ y2 ∧ y2 < (nv : Int)
    · obtain ⟨v, rfl⟩ : ∃ v : Nat, y1 = (v : Int) := ⟨y1.toNat, by omega⟩
      obtain ⟨w, rfl⟩ : ∃ w : Nat, y2 = (w : Int) := ⟨y2.toNat, by omega⟩
      have hv : v < nv := by omega
      have hw : w < nv := by omega
      have d1 := hI.dv hv
      have d2 := hI.dv hw
      refine So_fin (F := fun σ1 => fX6_differ 1000 σ1 (v : Int) (w : Int)) (g := fun v => v) (k := 0) (kk := 0) (v := cnt (fun x => shownB (docOf A N (Vs A v)) x != shownB (docOf A N (Vs A w)) x) (ids N)) rfl (fun _ => rfl) hR hI ?_ (fun σ1 hr1 => ?_)
      · unfold fX5_differ
        rw [xw_ok (c_verAt hC hv10 hx), xw_ok (c_verAt hC hv10 hy), Int.toNat_natCast, Int.toNat_natCast]
        refine wp_b1 (c_scr (o := 700 + 2 * v) hI.1 hC (Or.inl rfl) (by decide) (by omega)) (fun σ5 q => ?_)
        obtain ⟨q1, q2, q3, _⟩ := q
        rw [c_inV hC hv] at q1
        refine wp_b1 (c_scr (o := 700 + 2 * w) hI.1 q2 (Or.inr rfl) (by decide) (by omega)) (fun σ6 q => ?_)
        obtain ⟨r1, r2, r3, _⟩ := q
        rw [c_inV q2 hw] at r1
        have q4 := q1.fr r3 (by omega)
        have run := r_cnt (n := 1000) (bot := fun _ _ => none) (F := fX5_differ_L36s 1000 σ6 (v : Int) (w : Int)) (fun x => shownB (docOf A N (Vs A v)) x != shownB (docOf A N (Vs A w)) x) (fun a => (0, a, σ6)) (fun i => (i : Int)) N 0 (by decide) (by omega)
          (fun lp s => by unfold fX5_differ_L36s; rw [r2.1.made, if_pos (Int.le_refl _)])
          (fun lp s i hi h1 h2 => by
            unfold fX5_differ_L36s
            rw [r2.1.made, if_neg (by omega), b1_ok (q_isShown q4 _), b1_ok (q_isShown r1 _)]
            show _ = lp (s + b2i (shownB (docOf A N (Vs A v)) (i : Int) != shownB (docOf A N (Vs A w)) (i : Int))) ((i : Int) + 1)
            cases shownB (docOf A N (Vs A v)) (i : Int) <;> cases shownB (docOf A N (Vs A w)) (i : Int)
            · rw [if_pos rfl, ck_ok (by omega) (by omega)]; show _ = lp (s + 0) _; rw [Int.add_zero]
            · rw [if_neg (by decide), ck_ok (by omega) (by omega), ck_ok (by omega) (by omega)]; rfl
            · rw [if_neg (by decide), ck_ok (by omega) (by omega), ck_ok (by omega) (by omega)]; rfl
            · rw [if_pos rfl, ck_ok (by omega) (by omega)]; show _ = lp (s + 0) _; rw [Int.add_zero])
        rw [Int.zero_add] at run
        refine ⟨_, run, rfl, fun _ => rfl, r2, fun a b h1 h2 => ?_⟩
        show σ6 a b = σ a b
        rw [r3 a (by omega), q3 a (by omega)]
      · unfold fX6_differ
        refine wp_b1e (r_isVer hr1 hv10 _) ?_
        rw [decide_eq_true hx, if_neg (by decide)]
        refine wp_b1e (r_isVer hr1 hv10 _) ?_
        rw [decide_eq_true hy, if_neg (by decide)]
        unfold fX6_differ_J22
        refine wp_pf ?_
        have hr2 := hr1.fr (FrS.up0 (v := 0) FrS.rf)
        have fr := (FrS.up0 (v := 0) (FrS.rf (σ := σ1))).R
        have e0 : st σ1 230 0 0 230 0 = 0 := by rw [st_row, if_pos rfl]
        generalize st σ1 230 0 0 = σ2 at hr2 fr e0
        rw [if_pos (by omega)]
        refine wp_b1 (r_keeps hI hr2 hv (by decide)) (fun σ3 q => ?_)
        obtain ⟨k1, k2, k3, k4⟩ := q
        refine wp_ck (by omega) (by omega) (wp_b1 (r_ver hI k2 hw (by decide)) (fun σ4 q => ?_))
        obtain ⟨q1, q2, q3⟩ := q
        have k5 : ∀ i : Nat, i < 160 → σ4 273 i = b2i (shownB (docOf A N (Vs A v)) (i : Int)) := fun i hi => by rw [q3 273 i (by decide) (by omega)]; exact k1 i hi
        have run := r_cnt (n := 1000) (bot := fun _ _ => none) (F := fX6_differ_L57s 1000 σ4 (v : Int) (w : Int)) (fun x => shownB (docOf A N (Vs A v)) x != shownB (docOf A N (Vs A w)) x) (fun a => (a, σ4)) (fun i => (i : Int)) N 0 (by decide) (by omega)
          (fun lp s => by unfold fX6_differ_L57s; rw [q2.1.1, if_pos (Int.le_refl _)])
          (fun lp s i hi h1 h2 => by
            have j93 : ∀ b : Bool, b = shownB (docOf A N (Vs A w)) (i : Int) → fX6_differ_J93 1000 lp σ4 (v : Int) (w : Int) s (i : Int) (b2i b) = lp (s + b2i (shownB (docOf A N (Vs A v)) (i : Int) != shownB (docOf A N (Vs A w)) (i : Int))) ((i : Int) + 1) := by
              intro b hb
              unfold fX6_differ_J93
              rw [rd_ok (by omega) (by omega), Int.toNat_natCast, k5 i (by omega), ← hb]
              cases shownB (docOf A N (Vs A v)) (i : Int) <;> cases b
              · rw [if_pos rfl, ck_ok (by omega) (by omega), ck_ok (by omega) (by omega)]; rfl
              · rw [if_neg (by decide), ck_ok (by omega) (by omega), ck_ok (by omega) (by omega)]; rfl
              · rw [if_neg (by decide), ck_ok (by omega) (by omega), ck_ok (by omega) (by omega)]; rfl
              · rw [if_pos rfl, ck_ok (by omega) (by omega), ck_ok (by omega) (by omega)]; rfl
            unfold fX6_differ_L57s
            rw [q2.1.1, if_neg (by omega), b1_ok (r_spot q1.r (by decide) _), q1.r.1]
            by_cases z : (i : Int) ∈ (docOf A N (Vs A w)).1
            · have := ix_lt z
              rw [if_neg (by omega), b1_ok (r_isShown q1.r d2.1 hN z)]
              cases hb : shownB (docOf A N (Vs A w)) (i : Int) with
              | false => rw [if_pos (by rfl), ← hb]; unfold fX6_differ_J92; exact j93 false hb.symm
              | true => rw [if_neg (by decide), ← hb]; exact j93 true hb.symm
            · have := ix_not z
              rw [if_pos (by omega)]
              unfold fX6_differ_J92
              refine j93 false ?_
              symm
              rw [Bool.eq_false_iff]; exact fun w => z (shown_in d2.1 w))
        rw [Int.zero_add] at run
        refine ⟨_, run, ?_, fun _ => rfl, q2, fun a b hab => ?_⟩
        · show σ4 230 0 = 0
          rw [q3 230 0 (by decide) (by decide), k4]; exact e0
        · show σ4 a b = σ1 a b
          rw [q3 a b (by omega) (by omega), k3 a b hab]; exact fr a b hab
    · refine So_fin (F := fun σ1 => fX6_differ 1000 σ1 y1 y2) (g := fun v => v) (k := 1) (kk := 1) (v := 0) rfl (fun q => (by cases q)) hR hI ?_ (fun σ1 hr1 => ?_)
      · unfold fX5_differ
        rw [xw_ok (c_verAt hC hv10 hx), xw_x (c_verNo hC hy)]
        exact wp_some ⟨rfl, fun q => (by cases q), hC, FrC.rf⟩
      · unfold fX6_differ
        refine wp_b1e (r_isVer hr1 hv10 _) ?_
        rw [decide_eq_true hx, if_neg (by decide)]
        refine wp_b1e (r_isVer hr1 hv10 _) ?_
        rw [decide_eq_false hy, if_pos (by rfl)]
        exact bad σ1 hr1
  · refine So_fin (F := fun σ1 => fX6_differ 1000 σ1 y1 y2) (g := fun v => v) (k := 1) (kk := 1) (v := 0) rfl (fun q => (by cases q)) hR hI ?_ (fun σ1 hr1 => ?_)
    · unfold fX5_differ
      rw [xw_x (c_verNo hC hx)]
      exact wp_some ⟨rfl, fun q => (by cases q), hC, FrC.rf⟩
    · unfold fX6_differ
      refine wp_b1e (r_isVer hr1 hv10 _) ?_
      rw [decide_eq_false hx, if_pos (by rfl)]
      exact bad σ1 hr1
end DIF
