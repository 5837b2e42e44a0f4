/-! ===== an operation in both halves ===== -/
def cdk (h1 h2 h3 : Option Int) (k : Nat) : Option Int := if k = 0 then some 0 else if k = 1 then h1 else if k = 2 then h2 else if k = 3 then h3 else none
def OkC (σ A : St) (N nm nv k : Nat) (v : Int) (r : Nat × Int × St) : Prop := r.1 = k ∧ (k = 0 → r.2.1 = v) ∧ Cl r.2.2 A N nm nv ∧ FrC σ r.2.2
def OkR (σ A : St) (N nm nv : Nat) (kk v : Int) (r : Int × St) : Prop := r.2 230 0 = kk ∧ (kk = 0 → r.1 = v) ∧ Re r.2 A N nm nv ∧ FrR σ r.2
theorem hw_k {h1 h2 h3 : Option Int} {g : Int → Int} {k : Nat} {v kk : Int} {s : St} (h : cdk h1 h2 h3 k = some kk) (hk : k ≠ 0) : hw h1 h2 h3 g (some (k, v, s)) = some (kk, s) := by
  unfold cdk at h
  rw [if_neg hk] at h
  by_cases q1 : k = 1
  · subst q1; rw [if_pos rfl] at h; unfold hw; rw [h]; rfl
  rw [if_neg q1] at h
  by_cases q2 : k = 2
  · subst q2; rw [if_pos rfl] at h; unfold hw; rw [h]; rfl
  rw [if_neg q2] at h
  by_cases q3 : k = 3
  · subst q3; rw [if_pos rfl] at h; unfold hw; rw [h]; rfl
  rw [if_neg q3] at h; cases h
theorem Cl.r290 {σ A : St} {N nm nv : Nat} {v : Int} (h : Cl σ A N nm nv) : Cl (st σ 290 0 v) A N nm nv := by
  have e : ∀ q, q ≠ 290 → st σ 290 0 v q = σ q := fun q hq => st_fn hq
  have dP : ∀ (p : Nat), p ≤ 213 → PD σ p N → PD (st σ 290 0 v) p N := fun p hp z k k1 k2 i hi => by rw [e _ (by omega)]; exact z k k1 k2 i hi
  refine h.mk' (σ1 := st σ 290 0 v) ?_ (fun t ht => ?_) (dP _ (by decide) h.2.2.1) (dP _ (by decide) h.2.2.2.1)
  · exact ⟨fun k k1 k2 => e k (by omega), fun s b hs hb => by rw [e _ (by omega)], fun s k hs k1 k2 => e _ (by omega), ⟨e 0 (by decide), e 2 (by decide), e 3 (by decide)⟩, fun r hr => e r (by omega)⟩
  · have w := h.site ht
    rw [e (20 + 40 * t) (by omega)]
    refine ⟨w.fresh, dP _ (by omega) w.pd, fun q => ?_⟩
    have z := w.doc q
    refine ⟨?_, z.2.1, ?_, fun k k1 k2 i => ?_⟩
    · rw [e _ (by omega)]; exact z.1
    · rw [e _ (by omega)]; exact z.2.2.1
    · rw [e _ (by omega)]; exact z.2.2.2 k k1 k2 i
theorem So_fin {σ A A' : St} {N nm nv N' nm' nv' k : Nat} {h1 h2 h3 : Option Int} {g : Int → Int} {m : Option (Nat × Int × St)} {F : St → Option (Int × St)} {v kk : Int} (hkk : cdk h1 h2 h3 k = some kk) (hk0 : kk = 0 → k = 0) (hR : Re σ A N nm nv) (hI : Inv A' N' nm' nv') (hm : wp m (OkC σ A' N' nm' nv' k v)) (hF : ∀ σ1, Re σ1 A N nm nv → wp (F σ1) (OkR σ1 A' N' nm' nv' kk v)) :
    ∃ (k v : Int) (σ1 σ2 : St), hw h1 h2 h3 g m = some (k, σ1) ∧ F σ1 = some (v, σ2) ∧ fX6_thrown σ2 = some k ∧ (k = 0 → σ2 290 0 = g v) ∧ Rel nm' nv' σ2 := by
  obtain ⟨⟨c, w, s⟩, hm1, hm2, hm3, hm4, hm5⟩ := hm
  subst hm2
  by_cases q : c = 0
  · have hs : Re (st s 290 0 (g w)) A N nm nv := hR.frC (hm5.upd (by decide))
    obtain ⟨⟨v2, s2⟩, hf1, hf2, hf3, hf4, hf5⟩ := hF _ hs
    have hkk0 : kk = 0 := by subst q; unfold cdk at hkk; rw [if_pos rfl] at hkk; exact (Option.some.inj hkk).symm
    refine ⟨0, v2, _, s2, ?_, hf1, ?_, fun _ => ?_, A', N', hI, hm4.r290.frR hf5 hI.2.2.2.1.1 hI.2.2.2.2.1, hf4⟩
    · rw [hm1, q]; rfl
    · show some (s2 230 0) = some 0
      rw [show s2 230 0 = kk from hf2, hkk0]
    · have e1 : s2 290 0 = st s 290 0 (g w) 290 0 := hf5 290 0 (by decide)
      rw [e1, st_row, if_pos rfl, show v2 = v from hf3 hkk0, show w = v from hm3 q]
  · have hs : Re s A N nm nv := hR.frC hm5
    obtain ⟨⟨v2, s2⟩, hf1, hf2, hf3, hf4, hf5⟩ := hF _ hs
    refine ⟨kk, v2, s, s2, ?_, hf1, ?_, fun z => absurd (hk0 z) q, A', N', hI, hm4.frR hf5 hI.2.2.2.1.1 hI.2.2.2.2.1, hf4⟩
    · rw [hm1]; exact hw_k hkk q
    · show some (s2 230 0) = some kk
      rw [show s2 230 0 = kk from hf2]
section OPS
variable {σ A : St} {N nm nv n : Nat}
theorem c_siteAt {x : Int} (hx : 0 ≤ x ∧ x < 4) : fX5_siteAt σ x = some (0, 20 + 40 * x.toNat, σ) := by
  unfold fX5_siteAt
  rw [if_neg (by omega), if_neg (by omega), ra_ok hx.1 (by omega), ra_ok hx.1 (by omega)]
theorem c_siteNo {x : Int} (hx : ¬ (0 ≤ x ∧ x < 4)) : fX5_siteAt σ x = some (1, 0, σ) := by
  unfold fX5_siteAt fX5_siteAt_J22
  by_cases q : x < 0
  · rw [if_pos q]
  · rw [if_neg q, if_pos (by omega)]
theorem r_isIn (x a b : Int) : fX6_isIn x a b = some (b2i (decide (a ≤ x ∧ x ≤ b))) := by
  unfold fX6_isIn
  by_cases q1 : x < a
  · rw [if_pos q1, decide_eq_false (by omega)]; rfl
  · rw [if_neg q1]
    by_cases q2 : b < x
    · rw [if_pos q2, decide_eq_false (by omega)]; rfl
    · rw [if_neg q2, decide_eq_true (by omega)]; rfl
theorem r_isSite (x : Int) : fX6_isSite x = some (b2i (decide (0 ≤ x ∧ x < 4))) := by
  unfold fX6_isSite
  rw [b1_ok (r_isIn x 0 3)]
  rw [show decide (0 ≤ x ∧ x ≤ 3) = decide (0 ≤ x ∧ x < 4) from decide_eq_decide.mpr (by omega)]
theorem r_fails (x : Int) : fX6_fails σ x = some (0, st σ 230 0 x) := rfl
/-- the paper of a site, for what comes after it -/
theorem c_open {x : Int} {Q : Nat × Int × St → Prop} {K : Nat → Nat → St → Option (Nat × Int × St)} (hI : In1 A N) (h : Cl σ A N nm nv) (hx : 0 ≤ x ∧ x < 4) (hn : 200 ≤ n)
    (hK : ∀ σ3, isP σ3 (20 + 40 * x.toNat + 10) (docOf A N (Hs A x.toNat)) → Cl σ3 A N nm nv → FrC σ σ3 → wp (K (20 + 40 * x.toNat) (20 + 40 * x.toNat + 10) σ3) Q) :
    wp (xw 0 (fX5_siteAt σ x) (fun o2 σ1 => b2 (fX5_paperOf n σ1 o2) (fun o4 σ3 => K o2 o4 σ3))) Q := by
  rw [xw_ok (c_siteAt hx)]
  refine wp_b2 (c_paperOf hI h (s := x.toNat) (by omega) hn) (fun o s q => ?_)
  obtain ⟨q1, q2, q3, q4⟩ := q
  have q1' : o = 20 + 40 * x.toNat + 10 := q1
  subst q1'
  exact hK s q2 q3 q4
theorem c_no {x : Int} {K : Nat → St → Option (Nat × Int × St)} (h : Cl σ A N nm nv) (hx : ¬ (0 ≤ x ∧ x < 4)) {v : Int} : wp (xw 0 (fX5_siteAt σ x) K) (OkC σ A N nm nv 1 v) := by
  rw [xw_x (c_siteNo hx)]
  exact wp_some ⟨rfl, fun q => (by cases q), h, FrC.rf⟩
theorem r_no (h : Re σ A N nm nv) {kk v : Int} (hk : kk ≠ 0) {w : Int} : OkR σ A N nm nv kk v (w, st σ 230 0 kk) :=
  ⟨by show st σ 230 0 kk 230 0 = kk; rw [st_row, if_pos rfl], fun q => absurd q hk, h.fr (FrS.up0 FrS.rf), (FrS.up0 FrS.rf).R⟩
/-- a plain question: one number of the site's document -/
theorem q_plain {x v : Int} {K : Nat → Nat → St → Option Int} {R : St → Option (Int × St)} (hI : Inv A N nm nv) (h : Cl σ A N nm nv) (hR : Re σ A N nm nv) (hn : 700 ≤ n)
    (hK : (0 ≤ x ∧ x < 4) → ∀ σ3, isP σ3 (20 + 40 * x.toNat + 10) (docOf A N (Hs A x.toNat)) → Cl σ3 A N nm nv → K (20 + 40 * x.toNat) (20 + 40 * x.toNat + 10) σ3 = some v)
    (hR2 : (0 ≤ x ∧ x < 4) → ∀ σ3, isD σ3 A N (Hs A x.toNat) → Re σ3 A N nm nv → R σ3 = some (v, σ3)) :
    ∃ (k v : Int) (σ1 σ2 : St), hw (some 1) none none (fun v => v) (xw 0 (fX5_siteAt σ x) (fun o2 σ1 => b2 (fX5_paperOf n σ1 o2) (fun o4 σ3 => b1 (K o2 o4 σ3) (fun v5 => some (0, v5, σ3))))) = some (k, σ1) ∧ b1 (fX6_isSite x) (fun v1 => if v1 ≠ 0 then (pf σ1 230 0 0 (fun σ2 => b1 (fX6_findsSite n σ2 x) (fun σ3 => R σ3))) else (b2 (fX6_fails σ1 1) (fun v6 σ5 => some (v6, σ5)))) = some (v, σ2) ∧ fX6_thrown σ2 = some k ∧ (k = 0 → σ2 290 0 = v) ∧ Rel nm nv σ2 := by
  by_cases hx : 0 ≤ x ∧ x < 4
  · refine So_fin (F := fun σ1 => b1 (fX6_isSite x) (fun v1 => if v1 ≠ 0 then (pf σ1 230 0 0 (fun σ2 => b1 (fX6_findsSite n σ2 x) (fun σ3 => R σ3))) else (b2 (fX6_fails σ1 1) (fun v6 σ5 => some (v6, σ5))))) (g := fun v => v) (k := 0) (kk := 0) (v := v) rfl (fun _ => rfl) hR hI (c_open hI.1 h hx (by omega) (fun σ3 p1 p2 p3 => ?_)) (fun σ1 hr1 => ?_)
    · refine wp_b1e (hK hx σ3 p1 p2) (wp_some ⟨rfl, fun _ => rfl, p2, p3⟩)
    · refine wp_b1e (r_isSite x) ?_
      rw [decide_eq_true hx, if_pos (by decide)]
      refine wp_pf ?_
      have f0 : FrS σ1 (st σ1 230 0 0) := FrS.up0 FrS.rf
      have hr2 := hr1.fr f0
      have e0 : st σ1 230 0 0 230 0 = 0 := by rw [st_row, if_pos rfl]
      generalize st σ1 230 0 0 = σ2 at f0 hr2 e0
      have hs := r_site hI.1 (hI.2.1 x.toNat (by omega)) hr2 (by omega) hn
      rw [Int.toNat_of_nonneg hx.1] at hs
      refine wp_b1 hs (fun σ3 q => ?_)
      rw [hR2 hx σ3 q.1 q.2.1]
      refine wp_some ⟨?_, fun _ => rfl, q.2.1, f0.R.tr (FrR.ofF q.2.2)⟩
      exact (q.2.2 230 0 (by decide) (by decide)).trans e0
  · refine So_fin (F := fun σ1 => b1 (fX6_isSite x) (fun v1 => if v1 ≠ 0 then (pf σ1 230 0 0 (fun σ2 => b1 (fX6_findsSite n σ2 x) (fun σ3 => R σ3))) else (b2 (fX6_fails σ1 1) (fun v6 σ5 => some (v6, σ5))))) (g := fun v => v) (k := 1) (kk := 1) (v := v) rfl (fun q => (by cases q)) hR hI (c_no h hx) (fun σ1 hr1 => ?_)
    refine wp_b1e (r_isSite x) ?_
    rw [decide_eq_false hx, if_neg (by decide)]
    exact wp_b2e (r_fails 1) (wp_some (r_no hr1 (by decide)))
end OPS
theorem isD.r {σ A : St} {N : Nat} {S : Int → Bool} (h : isD σ A N S) : isR σ N (docOf A N S) := h.1
theorem isD.d {σ A : St} {N : Nat} {S : Int → Bool} (h : isD σ A N S) : DI A N (docOf A N S) := h.2.1.1
/-- an element that is held stands in the document -/
theorem DK.el {A : St} {N s : Nat} {D : Dc} (h : DK A N (Hs A s) D) (hI : In1 A N) (h2 : In2 A N s) {c : Int} (hc : curOK A N s c) : c = -1 ∨ c ∈ D.1 := by
  rcases hc with q | q
  · exact Or.inl q
  · refine Or.inr ((h.2.1 c).mpr ⟨?_, q.2⟩)
    rw [List.mem_filter, hI.2.2.2.2.1.2]
    exact ⟨h2.2.2.2.2.1 c ((Hs_iff h2 hI.2.1 c).mp q.1), q.1⟩
theorem so_length : So_length Rel := by
  intro nm nv σ y1 y2 y3 ⟨A, N, hI, hC, hR⟩ _ _ _ _
  exact ⟨1000, q_plain (K := fun _ o4 σ3 => fX3_countSeen 1000 σ3 o4) (R := fun σ3 => b1 (fX6_seen 1000 σ3) (fun v4 => some (v4, σ3))) hI hC hR (by decide) (fun hx σ3 p1 p2 => q_countSeen p1 (by decide)) (fun hx σ3 q1 q2 => by rw [b1_ok (r_seen q1.r q1.d hI.1.2.1 (by decide))])⟩
theorem so_shown : So_shown Rel := by
  intro nm nv σ y1 y2 y3 ⟨A, N, hI, hC, hR⟩ _ _ _ _
  exact ⟨1000, q_plain (K := fun _ o4 σ3 => fX3_countShown 1000 σ3 o4) (R := fun σ3 => fX6_shown_L27 1000 σ3 y1 1000 0 0) hI hC hR (by decide) (fun hx σ3 p1 p2 => q_countShown p1 (by decide)) (fun hx σ3 q1 q2 => r_shownN q1.r q1.d hI.1.2.1 (by decide) y1)⟩
theorem so_blocks : So_blocks Rel := by
  intro nm nv σ y1 y2 y3 ⟨A, N, hI, hC, hR⟩ _ _ _ _
  exact ⟨1000, q_plain (K := fun _ o4 σ3 => fX3_countBlocks 1000 σ3 o4) (R := fun σ3 => b1 (fX6_shownBlocks 1000 σ3) (fun v4 => some (v4, σ3))) hI hC hR (by decide) (fun hx σ3 p1 p2 => q_countBlocks p1 (by decide)) (fun hx σ3 q1 q2 => by rw [b1_ok (r_shownBlocks q1.r q2.1 q1.d hI.1.2.1 (by decide))])⟩
theorem so_graves : So_graves Rel := by
  intro nm nv σ y1 y2 y3 ⟨A, N, hI, hC, hR⟩ _ _ _ _
  exact ⟨1000, q_plain (K := fun _ o4 σ3 => fX3_countGraves 1000 σ3 o4) (R := fun σ3 => b1 (fX6_seen 1000 σ3) (fun v4 => ck ((σ3 230 32) - v4) (fun v5 => some (v5, σ3)))) hI hC hR (by decide) (fun hx σ3 p1 p2 => q_countGraves p1 (by decide)) (fun hx σ3 q1 q2 => by
    rw [b1_ok (r_seen q1.r q1.d hI.1.2.1 (by decide)), q1.r.1]
    have h1 := cnt_le (seenB (docOf A N (Hs A y1.toNat))) (docOf A N (Hs A y1.toNat)).1
    have h2 := q1.r.2.1
    rw [ck_ok (by omega) (by omega)])⟩
theorem so_cursor : So_cursor Rel := by
  intro nm nv σ y1 y2 y3 ⟨A, N, hI, hC, hR⟩ _ _ _ _
  exact ⟨1000, q_plain (K := fun o2 o4 σ3 => fX3_seenThrough 1000 σ3 o4 (σ3 o2 8)) (R := fun σ3 => rd σ3 248 4 y1 (fun v4 => b1 (fX6_placeOf 1000 σ3 v4) (fun v5 => some (v5, σ3)))) hI hC hR (by decide) (fun hx σ3 p1 p2 => by rw [(p2.site (s := y1.toNat) (by omega)).2.2.2.2.1]; exact q_seenThrough p1 (by decide) _) (fun hx σ3 q1 q2 => by
    rw [rd_ok hx.1 (by omega), (q2.2.2.1 y1.toNat (by omega)).1 248 (by decide) (by decide)]
    rw [b1_ok (r_placeOf q1.r q1.d hI.1.2.1 (by decide) (q1.2.1.el hI.1 (hI.2.1 _ (by omega)) (hI.2.1 y1.toNat (by omega)).2.2.2.2.2.2.2.2.2.1))])⟩
theorem so_tail : So_tail Rel := by
  intro nm nv σ y1 y2 y3 ⟨A, N, hI, hC, hR⟩ _ _ _ _
  exact ⟨1000, q_plain (K := fun o2 o4 σ3 => fX3_seenThrough 1000 σ3 o4 (σ3 o2 9)) (R := fun σ3 => rd σ3 249 4 y1 (fun v4 => b1 (fX6_placeOf 1000 σ3 v4) (fun v5 => some (v5, σ3)))) hI hC hR (by decide) (fun hx σ3 p1 p2 => by rw [(p2.site (s := y1.toNat) (by omega)).2.2.2.2.2.1]; exact q_seenThrough p1 (by decide) _) (fun hx σ3 q1 q2 => by
    rw [rd_ok hx.1 (by omega), (q2.2.2.1 y1.toNat (by omega)).1 249 (by decide) (by decide)]
    rw [b1_ok (r_placeOf q1.r q1.d hI.1.2.1 (by decide) (q1.2.1.el hI.1 (hI.2.1 _ (by omega)) (hI.2.1 y1.toNat (by omega)).2.2.2.2.2.2.2.2.2.2.1))])⟩
