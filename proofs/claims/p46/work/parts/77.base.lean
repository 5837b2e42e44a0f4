/-! ===== a paper of a site; the reference's document of a site ===== -/
theorem bd_lo {k N : Nat} (h : k ≤ 9) : bd k N = N := if_pos h
theorem bd_hi {k N : Nat} (h : 10 ≤ k) (h2 : k ≠ 12) : bd k N = N + 1 := by
  unfold bd; rw [if_neg (by omega), if_neg h2]
def CD (C : St) (N : Nat) : Prop := ∀ k, 4 ≤ k → k ≤ 16 → ∀ i, bd k N ≤ i → C k i = C0 k i
theorem CD.st {C : St} {N k i : Nat} {v : Int} (h : CD C N) (hi : i < bd k N) : CD (st C k i v) N := by
  intro k2 h1 h2 j hj
  by_cases q : k2 = k
  · subst q; rw [st_row, if_neg (by omega)]; exact h k2 h1 h2 j hj
  · rw [st_ne q]; exact h k2 h1 h2 j hj
section PDOC
variable {T : St} {N : Nat}
theorem dOne_pd {D : Dc} {a : Int} (hv : TV T N) (ha : 0 ≤ a ∧ a < (N : Int)) (hr : ∀ x, x ∈ D.1 → 0 ≤ x ∧ x < (N : Int)) (h : CD D.2 N) : CD (dOne T N D a).2 N := by
  have v := hv a.toNat (by omega)
  have e11 : gt T N 11 (-1) a = T 11 a.toNat := gt_i ha
  have e12 : gt T N 12 (-1) a = T 12 a.toNat := gt_i ha
  have e13 : gt T N 13 (-1) a = T 13 a.toNat := gt_i ha
  have pnt : ∀ (P lv : Int → Bool) (f l : Int) (g : Int → Int), CD (dPnt P lv f l g false (-1) D.2 D.1) N := by
    intro P lv f l g k h1 h2 i hi
    by_cases q : k = 7
    · subst q
      rw [bd_lo (by decide)] at hi
      rw [dPnt_at _ _ _ _ _ _ _ _ _ _ (fun x hx => by have := hr x hx; omega)]
      exact h 7 h1 h2 i (by rw [bd_lo (by decide)]; exact hi)
    · rw [dPnt_ne _ _ _ _ _ _ _ _ _ _ q]; exact h k h1 h2 i hi
  unfold dOne
  by_cases k01 : gt T N 11 (-1) a = 0 ∨ gt T N 11 (-1) a = 1
  · rw [if_pos k01]; unfold dPut
    clear v
    exact ((h.st (by rw [bd_lo (by decide)]; omega)).st (by rw [bd_lo (by decide)]; omega)).st (by rw [bd_lo (by decide)]; omega)
  rw [if_neg k01]
  by_cases z0 : num a ∧ D.2 9 a.toNat ≠ 0
  · rw [if_pos z0]; exact h
  rw [if_neg z0]
  by_cases z2 : gt T N 11 (-1) a = 2
  · rw [if_pos z2]; unfold dRem
    rw [e11] at z2
    have := v.2.2.2.2.2.2.1 (Or.inl z2)
    clear v
    rw [e12]
    split
    · split
      · exact h.st (by rw [bd_lo (by decide)]; omega)
      · exact h.st (by rw [bd_lo (by decide)]; omega)
    · exact h
  rw [if_neg z2]
  by_cases z3 : gt T N 11 (-1) a = 3
  · rw [if_pos z3]; unfold dRes
    rw [e11] at z3
    have := v.2.2.2.2.2.2.1 (Or.inr z3)
    clear v
    rw [e12]
    split
    · exact h.st (by rw [bd_lo (by decide)]; omega)
    · exact h
  rw [if_neg z3]
  by_cases z4 : gt T N 11 (-1) a = 4
  · rw [if_pos z4]; exact pnt _ _ _ _ _
  rw [if_neg z4]
  by_cases z5 : gt T N 11 (-1) a = 5
  · rw [if_pos z5]; unfold dKind
    rw [e11] at z5
    have := v.2.2.2.2.2.2.2.2.2.2.1 (Or.inl z5)
    clear v
    rw [e12]
    split
    · exact h.st (by rw [bd_hi (by decide) (by decide)]; omega)
    · exact h
  rw [if_neg z5]
  by_cases z6 : gt T N 11 (-1) a = 6
  · rw [if_pos z6]; unfold dNest
    rw [e11] at z6
    have := v.2.2.2.2.2.2.2.2.2.2.1 (Or.inr (Or.inl z6))
    clear v
    rw [e12]
    split
    · exact h.st (by rw [bd_hi (by decide) (by decide)]; omega)
    · exact h
  rw [if_neg z6]
  by_cases z7 : gt T N 11 (-1) a = 7
  · rw [if_pos z7]; exact pnt _ _ _ _ _
  rw [if_neg z7]
  have hs : T 11 a.toNat = 8 ∨ T 11 a.toNat = 9 → ∀ ok, CD (dSet T N D a ok).2 N := by
    intro hk ok
    have w := v.2.2.2.2.2.2.2.2.2.2.2.2.2 (hk.elim (fun q => Or.inl q) (fun q => Or.inr (Or.inl q)))
    clear v
    unfold dSet
    rw [e12]
    have he : elemOf T N (T 12 a.toNat) < (N : Int) := by
      unfold elemOf
      split
      · omega
      · rw [gt_i ⟨w.1, by omega⟩]
        have hv2 := hv (T 12 a.toNat).toNat (by omega)
        by_cases j2 : T 11 (T 12 a.toNat).toNat = 10 ∨ T 11 (T 12 a.toNat).toNat = 5 ∨ T 11 (T 12 a.toNat).toNat = 6
        · have := hv2.2.2.2.2.2.2.2.2.2.2.1 (by clear hv2; omega); clear hv2; omega
        · by_cases j3 : T 11 (T 12 a.toNat).toNat = 4 ∨ T 11 (T 12 a.toNat).toNat = 7
          · have := hv2.2.2.2.2.2.2.2.1 j3; clear hv2; omega
          · by_cases j4 : T 11 (T 12 a.toNat).toNat = 2 ∨ T 11 (T 12 a.toNat).toNat = 3
            · have := hv2.2.2.2.2.2.2.1 j4; clear hv2; omega
            · by_cases j5 : T 11 (T 12 a.toNat).toNat = 0 ∨ T 11 (T 12 a.toNat).toNat = 1
              · have := hv2.2.2.2.2.2.1 j5; clear hv2; omega
              · have := hv2.2.2.2.2.2.2.2.2.2.2.2.2.2 (by have := hv2.2.2.1; clear hv2; omega); clear hv2; omega
    split
    · rename_i hc
      split
      · exact h.st (by rw [bd_lo (by decide)]; omega)
      · exact (h.st (by rw [bd_lo (by decide)]; omega)).st (by rw [bd_lo (by decide)]; have := hc.1.1; omega)
    · exact h
  by_cases z8 : gt T N 11 (-1) a = 8
  · rw [if_pos z8]; exact hs (Or.inl (by rw [← e11]; exact z8)) true
  rw [if_neg z8]
  by_cases z9 : gt T N 11 (-1) a = 9
  · rw [if_pos z9]; exact hs (Or.inr (by rw [← e11]; exact z9)) false
  rw [if_neg z9]
  by_cases z10 : gt T N 11 (-1) a = 10
  · rw [if_pos z10]; unfold dLevel
    rw [e11] at z10
    have := v.2.2.2.2.2.2.2.2.2.2.1 (Or.inr (Or.inr z10))
    clear v
    rw [e12]
    split
    · exact h.st (by rw [bd_hi (by omega) (by omega)]; omega)
    · exact h
  rw [if_neg z10]; exact h
theorem fold_pd (hv : TV T N) (L : List Int) : ∀ D : Dc, (∀ x, x ∈ L → 0 ≤ x ∧ x < (N : Int)) → (∀ x, x ∈ D.1 → 0 ≤ x ∧ x < (N : Int)) → CD D.2 N → CD (L.foldl (dOne T N) D).2 N := by
  induction L with
  | nil => intro D _ _ h; exact h
  | cons x L ih =>
    intro D hL hD h
    rw [List.foldl_cons]
    have hx := hL x List.mem_cons_self
    refine ih _ (fun y hy => hL y (List.mem_cons_of_mem _ hy)) (fun y hy => ?_) (dOne_pd hv hx hD h)
    rcases dOne_row T N D x with q | q
    · rw [q] at hy; exact hD y hy
    · rw [q, insA_mem] at hy
      rcases hy with z | z
      · rw [z]; exact hx
      · exact hD y z
theorem ufold_pd (hv : TV T N) (L : List Int) : ∀ C : St, (∀ x, x ∈ L → 0 ≤ x ∧ x < (N : Int)) → CD C N → CD (L.foldl (uOne T N) C) N := by
  induction L with
  | nil => intro D _ h; exact h
  | cons x L ih =>
    intro D hL h
    rw [List.foldl_cons]
    have hx := hL x List.mem_cons_self
    refine ih _ (fun y hy => hL y (List.mem_cons_of_mem _ hy)) ?_
    unfold uOne
    split
    · rename_i hc
      have := (hv x.toNat (by omega)).2.2.2.2.2.2.2.2.2.2.2.2.2
      rw [gt_i hx, gt_i hx] at hc
      have w := this (by omega)
      rw [gt_i hx]
      exact h.st (by rw [bd_lo (by decide)]; omega)
    · exact h
theorem doc_pd (hv : TV T N) {L : List Int} (hL : ∀ x, x ∈ L → 0 ≤ x ∧ x < (N : Int)) : CD (docL T N L).2 N :=
  fold_pd hv L _ hL (fun x hx => (by cases hx)) (ufold_pd hv L _ hL (fun _ _ _ _ _ => rfl))
end PDOC
theorem isP.pd {σ : St} {p N : Nat} {D : Dc} (h : isP σ p D) (hc : CD D.2 N) : PD σ p N := fun k h1 h2 i hi => by rw [h.2.2.2 k h1 h2 i]; exact hc k h1 h2 i hi
theorem isP.fr {σ σ2 : St} {p q : Nat} {D : Dc} (h : isP σ q D) (hf : FrP p σ σ2) (hq : q + 16 < p ∨ p + 16 < q) : isP σ2 q D := by
  have e : ∀ k, k ≤ 16 → σ2 (q + k) = σ (q + k) := fun k hk => funext fun b => hf (q + k) (by omega) b
  refine ⟨?_, h.2.1, ?_, fun k k1 k2 i => ?_⟩
  · have := e 0 (by decide); rw [Nat.add_zero] at this; rw [this]; exact h.1
  · rw [e 2 (by decide)]; exact h.2.2.1
  · rw [e k k2]; exact h.2.2.2 k k1 k2 i
theorem PD.fr {σ σ2 : St} {p q N : Nat} (h : PD σ q N) (hf : FrP p σ σ2) (hq : q + 16 < p ∨ p + 16 < q) : PD σ2 q N := fun k k1 k2 i hi => by
  rw [hf (q + k) (by omega)]; exact h k k1 k2 i hi
def ClE (σ σ1 : St) : Prop := (∀ k, 8 ≤ k → k ≤ 16 → σ1 k = σ k) ∧ (∀ s b, s < 4 → b ≠ 5 → σ1 (20 + 40 * s) b = σ (20 + 40 * s) b) ∧ (∀ s k, s < 4 → 1 ≤ k → k ≤ 4 → σ1 (20 + 40 * s + k) = σ (20 + 40 * s + k)) ∧ (σ1 0 = σ 0 ∧ σ1 2 = σ 2 ∧ σ1 3 = σ 3) ∧ ∀ r, 300 ≤ r → σ1 r = σ r
section BASE
variable {σ σ1 A : St} {N nm nv n s : Nat}
theorem Cl.mk' (h : Cl σ A N nm nv) (e : ClE σ σ1) (hp : ∀ s, s < 4 → isB (σ1 (20 + 40 * s) 5) ∧ PD σ1 (20 + 40 * s + 10) N ∧ (σ1 (20 + 40 * s) 5 ≠ 0 → isP σ1 (20 + 40 * s + 10) (docOf A N (Hs A s)))) (h180 : PD σ1 180 N) (h200 : PD σ1 200 N) : Cl σ1 A N nm nv := by
  obtain ⟨e1, e2, e3, ⟨e4, e5, e6⟩, e7⟩ := e
  obtain ⟨h1, h2, _, _, ⟨h5, h6, h7⟩, h8, h9, h10⟩ := h
  refine ⟨⟨fun k k1 k2 i => ?_, h1.2⟩, fun s hs => ?_, h180, h200, ⟨?_, ?_, fun m hm => ?_⟩, ?_, ?_, fun v hv a ha => ?_⟩
  · rw [e1 k k1 k2]; exact h1.1 k k1 k2 i
  · have q := h2 s hs
    have hps := hp s hs
    unfold ClS at q ⊢
    rw [e2 s 0 hs (by decide), e2 s 6 hs (by decide), e2 s 7 hs (by decide), e2 s 8 hs (by decide), e2 s 9 hs (by decide), e3 s 1 hs (by decide) (by decide), e3 s 2 hs (by decide) (by decide), e3 s 3 hs (by decide) (by decide), e3 s 4 hs (by decide) (by decide)]
    exact ⟨q.1, hps.1, q.2.2.1, q.2.2.2.1, q.2.2.2.2.1, q.2.2.2.2.2.1, q.2.2.2.2.2.2.1, q.2.2.2.2.2.2.2.1, q.2.2.2.2.2.2.2.2.1, q.2.2.2.2.2.2.2.2.2.1, hps.2.1, hps.2.2⟩
  · rw [e4]; exact h5
  · rw [e5]; exact h6
  · have q := h7 m hm
    unfold ClM at q ⊢
    rw [e7 (300 + 4 * m) (by omega), e7 (300 + 4 * m + 2) (by omega), e7 (300 + 4 * m + 3) (by omega)]
    exact q
  · rw [e4]; exact h8
  · rw [e6]; exact h9
  · rw [e7 _ (by omega)]; exact h10 v hv a ha
theorem ClE.ofP {p : Nat} (hf : FrP p σ σ1) (hp : p = 180 ∨ p = 200 ∨ ∃ s, s < 4 ∧ p = 20 + 40 * s + 10) : ClE σ σ1 := by
  have e : ∀ a, (a < p ∨ p + 16 < a) → σ1 a = σ a := fun a ha => funext fun b => hf a ha b
  have hr : 30 ≤ p ∧ p ≤ 200 := by rcases hp with q | q | ⟨s, q1, q2⟩ <;> omega
  have hne : ∀ s k, s < 4 → k ≤ 4 → 20 + 40 * s + k < p ∨ p + 16 < 20 + 40 * s + k := fun s k h1 h2 => by rcases hp with q | q | ⟨s, q1, q2⟩ <;> omega
  refine ⟨fun k k1 k2 => e k (by omega), fun s b hs _ => ?_, fun s k hs k1 k2 => e _ (hne s k hs k2), ⟨e 0 (by omega), e 2 (by omega), e 3 (by omega)⟩, fun r hr => e r (by omega)⟩
  have := hne s 0 hs (by decide)
  rw [e (20 + 40 * s) (by omega)]
theorem Cl.site (h : Cl σ A N nm nv) (hs : s < 4) : ClS σ A N s := h.2.1 s hs
theorem ClS.fresh (h : ClS σ A N s) : isB (σ (20 + 40 * s) 5) := h.2.1
theorem ClS.pd (h : ClS σ A N s) : PD σ (20 + 40 * s + 10) N := h.2.2.2.2.2.2.2.2.2.2.1
theorem ClS.doc (h : ClS σ A N s) (q : σ (20 + 40 * s) 5 ≠ 0) : isP σ (20 + 40 * s + 10) (docOf A N (Hs A s)) := h.2.2.2.2.2.2.2.2.2.2.2 q
theorem ClS.has (h : ClS σ A N s) : inS σ (20 + 40 * s + 1) = Hs A s := by
  funext x
  unfold inS Hs
  refine decide_eq_decide.mpr ⟨fun z => ⟨z.1, ?_⟩, fun z => ⟨z.1, ?_⟩⟩
  · rw [← h.2.2.2.2.2.2.2.1 x.toNat (by have := z.1; unfold num at this; omega)]; exact z.2
  · have := h.2.2.2.2.2.2.2.1 x.toNat (by have := z.1; unfold num at this; omega)
    rw [← this] at z; exact z.2
theorem In1.to (h : In1 A N) : TO A N := ⟨fun i hi => (h.2.2.2.2.1.2 _).mp (seg_mem.mpr ⟨i, Nat.zero_le _, by omega, rfl⟩), fun i hi => (h.2.2.2.1 i hi).2.2.2.2.1⟩
theorem OLf {S : Int → Bool} (h : In1 A N) : ∀ x, x ∈ (OL A N).filter S → 0 ≤ x ∧ x < (N : Int) := fun x hx => by
  rw [List.mem_filter, h.2.2.2.2.1.2] at hx; exact hx.1
/-- a scratch paper made anew -/
theorem c_scr {p o : Nat} (hI : In1 A N) (h : Cl σ A N nm nv) (hp : p = 180 ∨ p = 200) (hn : 200 ≤ n) (ho : o + 1 < p ∨ p + 16 < o + 1) : wp (fX3_doAll n σ p o) (fun σ2 => isP σ2 p (docOf A N (inS σ o)) ∧ Cl σ2 A N nm nv ∧ FrP p σ σ2 ∧ ∀ s, s < 4 → σ2 (20 + 40 * s) = σ (20 + 40 * s)) := by
  have hpd : PD σ p N := by rcases hp with q | q; rw [q]; exact h.2.2.1; rw [q]; exact h.2.2.2.1
  refine wp_mono (a_doAll hI.to h.1 (by omega) hn ho hpd) (fun σ2 q => ?_)
  have p2 := q.1.pd (doc_pd hI.2.2.2.1 (OLf hI))
  have eB : ∀ s, s < 4 → σ2 (20 + 40 * s) = σ (20 + 40 * s) := fun s hs => funext fun b => q.2 _ (by omega) b
  refine ⟨q.1, h.mk' (ClE.ofP q.2 (by omega)) (fun s hs => ?_) ?_ ?_, q.2, eB⟩
  · have w := h.site hs
    rw [eB s hs]
    exact ⟨w.fresh, w.pd.fr q.2 (by omega), fun z => (w.doc z).fr q.2 (by omega)⟩
  · rcases hp with z | z
    · rw [z] at p2; exact p2
    · rw [z] at q; exact h.2.2.1.fr q.2 (by omega)
  · rcases hp with z | z
    · rw [z] at q; exact h.2.2.2.1.fr q.2 (by omega)
    · rw [z] at p2; exact p2
/-- the paper of a site -/
theorem c_paperOf (hI : In1 A N) (h : Cl σ A N nm nv) (hs : s < 4) (hn : 200 ≤ n) : wp (fX5_paperOf n σ (20 + 40 * s)) (fun r => r.1 = 20 + 40 * s + 10 ∧ isP r.2 (20 + 40 * s + 10) (docOf A N (Hs A s)) ∧ Cl r.2 A N nm nv ∧ FrC σ r.2) := by
  have w := h.site hs
  unfold fX5_paperOf
  refine wp_if (fun q => wp_some ⟨rfl, w.doc q, h, FrC.rf⟩) (fun q => ?_)
  refine wp_b1 (a_doAll hI.to h.1 (by omega) hn (by omega) w.pd) (fun σ1 q1 => ?_)
  rw [w.has] at q1
  have p2 := q1.1.pd (doc_pd hI.2.2.2.1 (OLf hI))
  refine wp_pfb (Or.inr rfl) (wp_some ?_)
  have f2 : FrP (20 + 40 * s + 10) σ1 σ1 := FrP.rf
  have eP : ∀ q, q ≠ 20 + 40 * s → st σ1 (20 + 40 * s) 5 1 q = σ1 q := fun q hq => st_fn hq
  have iP : ∀ (p : Nat) (D : Dc), (20 + 40 * s < p ∨ p + 16 < 20 + 40 * s) → isP σ1 p D → isP (st σ1 (20 + 40 * s) 5 1) p D := by
    intro p D hp z
    refine ⟨?_, z.2.1, ?_, fun k k1 k2 i => ?_⟩
    · rw [eP _ (by omega)]; exact z.1
    · rw [eP _ (by omega)]; exact z.2.2.1
    · rw [eP _ (by omega)]; exact z.2.2.2 k k1 k2 i
  have dP : ∀ (p : Nat), (20 + 40 * s < p ∨ p + 16 < 20 + 40 * s) → PD σ1 p N → PD (st σ1 (20 + 40 * s) 5 1) p N := fun p hp z k k1 k2 i hi => by
    rw [eP _ (by omega)]; exact z k k1 k2 i hi
  have e0 := ClE.ofP q1.2 (Or.inr (Or.inr ⟨s, hs, rfl⟩))
  have main : Cl (st σ1 (20 + 40 * s) 5 1) A N nm nv := by
   refine h.mk' ⟨fun k k1 k2 => ?_, fun t b ht hb => ?_, fun t k ht k1 k2 => ?_, ⟨?_, ?_, ?_⟩, fun r hr => ?_⟩ (fun t ht => ?_) ?_ ?_
   · rw [eP k (by omega)]; exact e0.1 k k1 k2
   · by_cases z : t = s
     · subst z; rw [st_row, if_neg hb]; exact e0.2.1 t b ht hb
     · rw [eP _ (by omega)]; exact e0.2.1 t b ht hb
   · rw [eP _ (by omega)]; exact e0.2.2.1 t k ht k1 k2
   · rw [eP _ (by omega)]; exact e0.2.2.2.1.1
   · rw [eP _ (by omega)]; exact e0.2.2.2.1.2.1
   · rw [eP _ (by omega)]; exact e0.2.2.2.1.2.2
   · rw [eP _ (by omega)]; exact e0.2.2.2.2 r hr
   · by_cases z : t = s
     · subst z
       exact ⟨by rw [st_row, if_pos rfl]; exact Or.inr rfl, dP _ (by omega) p2, fun _ => iP _ _ (by omega) q1.1⟩
     · have w2 := h.site ht
       rw [eP (20 + 40 * t) (by omega), show σ1 (20 + 40 * t) = σ (20 + 40 * t) from funext fun b => q1.2 _ (by omega) b]
       exact ⟨w2.fresh, dP _ (by omega) (w2.pd.fr q1.2 (by omega)), fun y => iP _ _ (by omega) ((w2.doc y).fr q1.2 (by omega))⟩
   · exact dP _ (by omega) (h.2.2.1.fr q1.2 (by omega))
   · exact dP _ (by omega) (h.2.2.2.1.fr q1.2 (by omega))
  exact ⟨rfl, iP _ _ (by omega) q1.1, main, (FrC.ofP q1.2 (by omega)).upd (by omega)⟩
/-- what a site has, in the order of its journal -/
theorem Hs_iff (h : In2 A N s) (hN : N ≤ 160) (x : Int) : Hs A s x = true ↔ x ∈ JL A s := by
  unfold Hs
  rw [decide_eq_true_iff]
  constructor
  · rintro ⟨h1, h2⟩
    have h1' : 0 ≤ x ∧ x < 160 := h1
    have := (h.2.2.2.2.2.2.1 x.toNat (by omega)).mp h2
    rw [Int.toNat_of_nonneg h1'.1] at this; exact this
  · intro hx
    have hr := h.2.2.2.2.1 x hx
    refine ⟨show 0 ≤ x ∧ x < 160 by omega, (h.2.2.2.2.2.2.1 x.toNat (by omega)).mpr ?_⟩
    rw [Int.toNat_of_nonneg hr.1]; exact hx
theorem nmd_mono {L M : List Int} {x : Int} (h : nmd A x L) (hs : ∀ y, y ∈ L → y ∈ M) : nmd A x M := ⟨fun a b => hs _ (h.1 a b), fun a => hs _ (h.2.1 a), fun a => hs _ (h.2.2 a)⟩
theorem clJ.cl {L : List Int} {S : Int → Bool} (h : clJ A L) (hS : ∀ x, S x = true ↔ x ∈ L) : clo A N S := by
  intro a _ hSa
  obtain ⟨L1, L2, e⟩ := List.append_of_mem ((hS _).mp hSa)
  have := nmd_mono (h L1 _ L2 e) (M := L) (fun y hy => by rw [e, List.mem_append]; exact Or.inl hy)
  unfold nmd at this
  rw [Int.toNat_natCast] at this
  exact ⟨fun a b => (hS _).mpr (this.1 a b), fun a => (hS _).mpr (this.2.1 a), fun a => (hS _).mpr (this.2.2 a)⟩
theorem In2.cl (h : In2 A N s) (hN : N ≤ 160) : clo A N (Hs A s) := h.2.2.2.2.2.2.2.1.cl (Hs_iff h hN)
end BASE

