/-! ===== a step of one site ===== -/
section SITE
variable {σ τ A B : St} {N nm nv n s : Nat}
def SaS (A B : St) (s : Nat) : Prop := (∀ r, (r < 243 ∨ r = 246 ∨ 249 < r) → B r = A r) ∧ ∀ t, t < 4 → t ≠ s → (∀ a, a < 160 → B 243 (160 * t + a) = A 243 (160 * t + a) ∧ B 244 (160 * t + a) = A 244 (160 * t + a)) ∧ ∀ r, 245 ≤ r → r ≤ 249 → B r t = A r t
theorem SaS.t (e : SaS A B s) : SaT A B := fun k _ k2 => e.1 k (by omega)
theorem SaS.hs (e : SaS A B s) {t : Nat} (ht : t < 4) (hne : t ≠ s) : Hs B t = Hs A t := by
  funext x
  unfold Hs
  refine decide_eq_decide.mpr ⟨fun w => ⟨w.1, ?_⟩, fun w => ⟨w.1, ?_⟩⟩
  · have w1 : 0 ≤ x ∧ x < 160 := w.1
    have := (e.2 t ht hne).1 x.toNat (by omega)
    rw [← this.1]; exact w.2
  · have w1 : 0 ≤ x ∧ x < 160 := w.1
    have := (e.2 t ht hne).1 x.toNat (by omega)
    rw [this.1]; exact w.2
theorem SaS.jl (e : SaS A B s) (hI : Inv A N nm nv) {t : Nat} (ht : t < 4) (hne : t ≠ s) : JL B t = JL A t := by
  have hl := JL_len hI ht
  have hN := hI.1.2.1
  unfold JL
  rw [(e.2 t ht hne).2 245 (by decide) (by decide)]
  exact seg_congr (fun j _ hj => ((e.2 t ht hne).1 j (by omega)).2)
theorem SaS.ok (e : SaS A B s) {t : Nat} (ht : t < 4) (hne : t ≠ s) {c : Int} (h : curOK A N t c) : curOK B N t c := by
  unfold curOK at h ⊢
  rw [e.hs ht hne, e.t.m]; exact h
theorem Inv.site (hI : Inv A N nm nv) (e : SaS A B s) (h2 : In2 B N s) : Inv B N nm nv := by
  obtain ⟨q1, q2, q3, q4, q5⟩ := id hI
  refine ⟨e.t.in1 q1, fun t ht => ?_, ?_, ?_, ?_⟩
  · by_cases hne : t = s
    · rw [hne]; exact h2
    · obtain ⟨g1, g2, g3, g4, g5, g6, g7, g8, g9, g10, g11, g12⟩ := q2 t ht
      have er := (e.2 t ht hne).2
      have e43 : ∀ a, a < 160 → B 243 (160 * t + a) = A 243 (160 * t + a) := fun a ha => ((e.2 t ht hne).1 a ha).1
      have hN := q1.2.1
      unfold In2
      rw [e.jl hI ht hne, e.1 250 (by decide), er 247 (by decide) (by decide), er 245 (by decide) (by decide), er 248 (by decide) (by decide), er 249 (by decide) (by decide), e.1 246 (by decide), e.t 9 (by decide) (by decide), e.t 10 (by decide) (by decide)]
      refine ⟨g1, g2, g3, g4, g5, fun a ha => by rw [e43 a ha]; exact g6 a ha, fun a ha => by rw [e43 a ha]; exact g7 a ha, e.t.cj g8, fun a ha hc => ?_, e.ok ht hne g10, e.ok ht hne g11, g12⟩
      rw [e43 a (by omega)] at hc
      exact g9 a ha hc
  · unfold In3 at q3 ⊢
    rw [e.1 252 (by decide), e.1 246 (by decide)]; exact q3
  · obtain ⟨g1, g2, g3⟩ := q4
    refine ⟨g1, fun m hm => ?_, ?_⟩
    · have z := g2 m hm
      refine ⟨by rw [e.1 254 (by decide)]; exact z.1, ?_, by rw [e.1 257 (by decide), e.1 246 (by decide)]; exact z.2.2⟩
      have : Ms B m = Ms A m := by funext x; unfold Ms; rw [e.1 255 (by decide)]
      rw [this]; exact e.t.cl z.2.1
    · rw [e.1 255 (by decide)]; exact g3
  · obtain ⟨g1, g2⟩ := q5
    refine ⟨g1, fun v hv => ?_⟩
    have z := g2 v hv
    have : Vs B v = Vs A v := by funext x; unfold Vs; rw [e.1 258 (by decide)]
    rw [this, e.1 258 (by decide)]
    exact ⟨e.t.cl z.1, z.2⟩
/-- the journal of a site, in the class -/
def ClG (σ A : St) (s : Nat) : Prop := σ (20 + 40 * s) 0 = (s : Int) ∧ σ (20 + 40 * s) 6 = A 250 s ∧ σ (20 + 40 * s) 7 = A 247 s ∧ σ (20 + 40 * s) 8 = A 248 s ∧ σ (20 + 40 * s) 9 = A 249 s ∧ σ (20 + 40 * s + 1) 1 = A 245 s ∧ (∀ a, a < 160 → σ (20 + 40 * s + 2) a = A 243 (160 * s + a)) ∧ ∀ i : Nat, (i : Int) < A 245 s → σ (20 + 40 * s + 3) i = A 244 (160 * s + i)
theorem Cl.g (h : Cl σ A N nm nv) (hs : s < 4) : ClG σ A s := by
  have w := h.site hs
  exact ⟨w.1, w.2.2.1, w.2.2.2.1, w.2.2.2.2.1, w.2.2.2.2.2.1, w.2.2.2.2.2.2.1, w.2.2.2.2.2.2.2.1, w.2.2.2.2.2.2.2.2.1⟩
/-- the class with the paper of a site taken as stale -/
def ClW (σ A : St) (N nm nv s : Nat) : Prop := Cl (st σ (20 + 40 * s) 5 0) A N nm nv
theorem Cl.site' (hI : Inv A N nm nv) (h : ClW σ A N nm nv s) (hs : s < 4) (e : SaS A B s) (hτ : ∀ a, (a < 20 + 40 * s ∨ 20 + 40 * s + 3 < a) → τ a = σ a) (hg : ClG τ B s) : ClW τ B N nm nv s := by
  have row : ∀ a, (a < 20 + 40 * s ∨ 20 + 40 * s + 3 < a) → st τ (20 + 40 * s) 5 0 a = st σ (20 + 40 * s) 5 0 a := fun a ha => by
    rw [st_fn (by omega), st_fn (by omega)]; exact hτ a ha
  have pd : ∀ q, (q + 16 < 20 + 40 * s ∨ 20 + 40 * s + 3 < q) → PD (st σ (20 + 40 * s) 5 0) q N → PD (st τ (20 + 40 * s) 5 0) q N := fun q hq z k k1 k2 i hi => by
    rw [row _ (by omega)]; exact z k k1 k2 i hi
  obtain ⟨h1, h2, h3, h4, ⟨h5, h6, h7⟩, h8, h9, h10⟩ := h
  refine ⟨e.t.tt ⟨fun q q1 q2 i => ?_, h1.2⟩, fun t ht => ?_, pd 180 (by omega) h3, pd 200 (by omega) h4, ⟨?_, ?_, fun m hm => ?_⟩, ?_, ?_, fun v hv a ha => ?_⟩
  · rw [row q (by omega)]; exact h1.1 q q1 q2 i
  · have q := h2 t ht
    by_cases hne : t = s
    · subst hne
      unfold ClS at q ⊢
      have k5 : st τ (20 + 40 * t) 5 0 (20 + 40 * t) 5 = 0 := by rw [st_row, if_pos rfl]
      have kn : ∀ b, b ≠ 5 → st τ (20 + 40 * t) 5 0 (20 + 40 * t) b = τ (20 + 40 * t) b := fun b hb => by rw [st_row, if_neg hb]
      rw [k5, kn 0 (by decide), kn 6 (by decide), kn 7 (by decide), kn 8 (by decide), kn 9 (by decide), st_fn (a := 20 + 40 * t + 1) (by omega), st_fn (a := 20 + 40 * t + 2) (by omega), st_fn (a := 20 + 40 * t + 3) (by omega), row (20 + 40 * t + 4) (by omega), e.1 252 (by decide)]
      exact ⟨hg.1, Or.inl rfl, hg.2.1, hg.2.2.1, hg.2.2.2.1, hg.2.2.2.2.1, hg.2.2.2.2.2.1, hg.2.2.2.2.2.2.1, hg.2.2.2.2.2.2.2, q.2.2.2.2.2.2.2.2.2.1, pd _ (by omega) q.2.2.2.2.2.2.2.2.2.2.1, fun w => absurd rfl w⟩
    · have hl := JL_len hI ht
      have hN := hI.1.2.1
      have er := (e.2 t ht hne).2
      have ea := (e.2 t ht hne).1
      unfold ClS at q ⊢
      rw [row (20 + 40 * t) (by omega), row (20 + 40 * t + 1) (by omega), row (20 + 40 * t + 2) (by omega), row (20 + 40 * t + 3) (by omega), row (20 + 40 * t + 4) (by omega), e.1 250 (by decide), er 247 (by decide) (by decide), er 245 (by decide) (by decide), er 248 (by decide) (by decide), er 249 (by decide) (by decide), e.1 252 (by decide), e.hs ht hne, e.t.doc hI.1]
      refine ⟨q.1, q.2.1, q.2.2.1, q.2.2.2.1, q.2.2.2.2.1, q.2.2.2.2.2.1, q.2.2.2.2.2.2.1, fun a ha => by rw [(ea a ha).1]; exact q.2.2.2.2.2.2.2.1 a ha, fun i hi => by rw [(ea i (by omega)).2]; exact q.2.2.2.2.2.2.2.2.1 i hi, q.2.2.2.2.2.2.2.2.2.1, pd _ (by omega) q.2.2.2.2.2.2.2.2.2.2.1, fun w => ?_⟩
      have pp := q.2.2.2.2.2.2.2.2.2.2.2 w
      refine ⟨?_, pp.2.1, ?_, fun k k1 k2 i => ?_⟩
      · rw [row _ (by omega)]; exact pp.1
      · rw [row _ (by omega)]; exact pp.2.2.1
      · rw [row _ (by omega)]; exact pp.2.2.2 k k1 k2 i
  · rw [row 0 (by omega)]; exact h5
  · rw [row 2 (by omega)]; exact h6
  · have q := h7 m hm
    unfold ClM at q ⊢
    rw [row (300 + 4 * m) (by omega), row (300 + 4 * m + 2) (by omega), row (300 + 4 * m + 3) (by omega), e.1 254 (by decide), e.1 255 (by decide), e.1 257 (by decide)]
    exact q
  · rw [row 0 (by omega)]; exact h8
  · rw [row 3 (by omega)]; exact h9
  · rw [row _ (by omega), e.1 258 (by decide)]; exact h10 v hv a ha
theorem Cl.w (h : Cl σ A N nm nv) (hs : s < 4) : ClW σ A N nm nv s := by
  have row : ∀ a, a ≠ 20 + 40 * s → st σ (20 + 40 * s) 5 0 a = σ a := fun a ha => st_fn ha
  have dP : ∀ (q : Nat), (20 + 40 * s < q ∨ q + 16 < 20 + 40 * s) → PD σ q N → PD (st σ (20 + 40 * s) 5 0) q N := fun q hq z k k1 k2 i hi => by
    rw [row _ (by omega)]; exact z k k1 k2 i hi
  refine h.mk' ⟨fun k k1 k2 => row k (by omega), fun t b ht hb => ?_, fun t k ht k1 k2 => row _ (by omega), ⟨row 0 (by omega), row 2 (by omega), row 3 (by omega)⟩, fun r hr => row r (by omega)⟩ (fun t ht => ?_) (dP _ (by omega) h.2.2.1) (dP _ (by omega) h.2.2.2.1)
  · by_cases z : t = s
    · subst z; rw [st_row, if_neg hb]
    · rw [row _ (by omega)]
  · have w := h.site ht
    by_cases z : t = s
    · subst z
      rw [st_row, if_pos rfl]
      exact ⟨Or.inl rfl, dP _ (by omega) w.pd, fun q => absurd rfl q⟩
    · rw [row (20 + 40 * t) (by omega)]
      refine ⟨w.fresh, dP _ (by omega) w.pd, fun q => ?_⟩
      have pp := w.doc q
      refine ⟨?_, pp.2.1, ?_, fun k k1 k2 i => ?_⟩
      · rw [row _ (by omega)]; exact pp.1
      · rw [row _ (by omega)]; exact pp.2.2.1
      · rw [row _ (by omega)]; exact pp.2.2.2 k k1 k2 i
theorem ClW.g (h : ClW σ A N nm nv s) (hs : s < 4) : ClG σ A s := by
  have w := Cl.g h hs
  unfold ClG at w ⊢
  have kn : ∀ b, b ≠ 5 → st σ (20 + 40 * s) 5 0 (20 + 40 * s) b = σ (20 + 40 * s) b := fun b hb => by rw [st_row, if_neg hb]
  rw [kn 0 (by decide), kn 6 (by decide), kn 7 (by decide), kn 8 (by decide), kn 9 (by decide), st_fn (a := 20 + 40 * s + 1) (by omega), st_fn (a := 20 + 40 * s + 2) (by omega), st_fn (a := 20 + 40 * s + 3) (by omega)] at w
  exact w
end SITE

