/-! ===== an operation in both halves ===== -/
def cdk (h1 h2 h3 : Option Int) (k : Nat) : Option Int := if k = 0 then some 0 else if k = 1 then h1 else if k = 2 then h2 else if k = 3 then h3 else none
def OkC (σ A : St) (N nm nv k : Nat) (v : Int) (r : Nat × Int × St) : Prop := r.1 = k ∧ (k = 0 → r.2.1 = v) ∧ Cl r.2.2 A N nm nv ∧ FrC σ r.2.2
theorem Cl.r290 {σ A : St} {N nm nv : Nat} {v : Int} (h : Cl σ A N nm nv) : Cl (st σ 290 0 v) A N nm nv := by
  have e : ∀ q, q ≠ 290 → st σ 290 0 v q = σ q := fun q hq => st_fn hq
  have dP : ∀ (p : Nat), p ≤ 213 → PD σ p N → PD (st σ 290 0 v) p N := fun p hp z k k1 k2 i hi => by rw [e _ (by omega)]; exact z k k1 k2 i hi
  refine h.mk' (σ1 := st σ 290 0 v) ?_ (fun t ht => ?_) (dP _ (by decide) h.2.2.1) (dP _ (by decide) h.2.2.2.1)
  · exact ⟨fun k k1 k2 => e k (by omega), fun s b hs hb => by rw [e _ (by omega)], fun s k hs k1 k2 => e _ (by omega), ⟨e 0 (by decide), e 2 (by decide), e 3 (by decide)⟩, fun r hr => e r (by omega)⟩
  · have w := h.site ht
    rw [e (20 + 40 * t) (by omega)]
    refine ⟨w.fresh, dP _ (by omega) w.pd, fun q => ?_⟩
    have z := w.doc q
    refine ⟨?_, z.2.1, ?_, fun k k1 k2 i => ?_⟩
    · rw [e _ (by omega)]; exact z.1
    · rw [e _ (by omega)]; exact z.2.2.1
    · rw [e _ (by omega)]; exact z.2.2.2 k k1 k2 i
section OPS
variable {σ A : St} {N nm nv n : Nat}
theorem c_siteAt {x : Int} (hx : 0 ≤ x ∧ x < 4) : fX5_siteAt σ x = some (0, 20 + 40 * x.toNat, σ) := by
  unfold fX5_siteAt
  rw [if_neg (by omega), if_neg (by omega), ra_ok hx.1 (by omega), ra_ok hx.1 (by omega)]
theorem c_siteNo {x : Int} (hx : ¬ (0 ≤ x ∧ x < 4)) : fX5_siteAt σ x = some (1, 0, σ) := by
  unfold fX5_siteAt fX5_siteAt_J22
  by_cases q : x < 0
  · rw [if_pos q]
  · rw [if_neg q, if_pos (by omega)]
/-- the paper of a site, for what comes after it -/
theorem c_open {x : Int} {Q : Nat × Int × St → Prop} {K : Nat → Nat → St → Option (Nat × Int × St)} (hI : In1 A N) (h : Cl σ A N nm nv) (hx : 0 ≤ x ∧ x < 4) (hn : 200 ≤ n)
    (hK : ∀ σ3, isP σ3 (20 + 40 * x.toNat + 10) (docOf A N (Hs A x.toNat)) → Cl σ3 A N nm nv → FrC σ σ3 → wp (K (20 + 40 * x.toNat) (20 + 40 * x.toNat + 10) σ3) Q) :
    wp (xw 0 (fX5_siteAt σ x) (fun o2 σ1 => b2 (fX5_paperOf n σ1 o2) (fun o4 σ3 => K o2 o4 σ3))) Q := by
  rw [xw_ok (c_siteAt hx)]
  refine wp_b2 (c_paperOf hI h (s := x.toNat) (by omega) hn) (fun o s q => ?_)
  obtain ⟨q1, q2, q3, q4⟩ := q
  have q1' : o = 20 + 40 * x.toNat + 10 := q1
  subst q1'
  exact hK s q2 q3 q4
theorem c_no {x : Int} {K : Nat → St → Option (Nat × Int × St)} (h : Cl σ A N nm nv) (hx : ¬ (0 ≤ x ∧ x < 4)) {v : Int} : wp (xw 0 (fX5_siteAt σ x) K) (OkC σ A N nm nv 1 v) := by
  rw [xw_x (c_siteNo hx)]
  exact wp_some ⟨rfl, fun q => (by cases q), h, FrC.rf⟩
end OPS
/-- an element that is held stands in the document -/
theorem DK.el {A : St} {N s : Nat} {D : Dc} (h : DK A N (Hs A s) D) (hI : In1 A N) (h2 : In2 A N s) {c : Int} (hc : curOK A N s c) : c = -1 ∨ c ∈ D.1 := by
  rcases hc with q | q
  · exact Or.inl q
  · refine Or.inr ((h.2.1 c).mpr ⟨?_, q.2⟩)
    rw [List.mem_filter, hI.2.2.2.2.1.2]
    exact ⟨h2.2.2.2.2.1 c ((Hs_iff h2 hI.2.1 c).mp q.1), q.1⟩
