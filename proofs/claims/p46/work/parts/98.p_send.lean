/-! ===== messages that are sent and delivered ===== -/
section SD46
variable {σ A : St} {N nm nv s t m : Nat} {y : Int}
theorem co_send (hI : Inv A N nm nv) (hC : Cl σ A N nm nv) (hs : s < 4) (hy : 0 ≤ y ∧ y < 4) (hne : (s : Int) ≠ y) (hm : nm < 80) : wp (zw (fX5_send 1000 nm nv σ (s : Int) y)) (OkZ σ (sdA A s y nm) N (nm + 1) nv (nm : Int)) := by
  have hN := hI.1.2.1
  have hv10 := hI.2.2.2.2.1
  have hm80 := hI.2.2.2.1.1
  have e09 : σ 0 9 = (nm : Int) := hC.2.2.2.2.1.1
  have e20 : σ 2 0 = (nm : Int) := hC.2.2.2.2.1.2.1
  have e30 : σ 3 0 = (nv : Int) := hC.2.2.2.2.2.2.1
  refine OkC.z ?_
  unfold fX5_send
  rw [xw_ok (c_siteS hs), xw_ok (c_siteAt hy), if_pos hne, e09, if_pos (by omega)]
  have erc : σ (20 + 40 * y.toNat) 0 = y := by rw [(hC.site (s := y.toNat) (by omega)).1]; omega
  unfold sendK
  rw [if_pos ⟨⟨by rw [e09, e20], e20⟩, hm, hv10⟩, erc]
  refine wp_b1 (c_copy (a0 := 700 + 2 * nv) (o1 := 20 + 40 * s + 1) (by omega) (by omega) (by omega) (by decide)) (fun σ3 g => ?_)
  obtain ⟨g1, g2⟩ := g
  have V : ∀ a, a ≠ 700 + 2 * nv → a ≠ 701 + 2 * nv → σ3 a = σ a := fun a h1 h2 => by
    rw [g1 a h1 (by omega)]
    funext b; unfold stV; rw [if_neg (by omega)]
  rw [if_pos ⟨by rw [V 2 (by omega) (by omega)]; exact e20, by rw [V 3 (by omega) (by omega), e30]; exact Int.le_refl _⟩]
  have M : ∀ a, (a < 300 + 4 * nm ∨ 303 + 4 * nm < a) → a ≠ 2 → a ≠ 700 + 2 * nv → a ≠ 701 + 2 * nv → st (stM nm nv (20 + 40 * s) y σ3) 2 0 ((nm + 1 : Nat) : Int) a = σ a := fun a h1 h2 h3 h4 => by
    rw [st_fn h2, ← V a h3 h4]
    funext b; unfold stM; rw [if_neg (by omega), if_neg (by omega), if_neg (by omega), if_neg (by omega)]
  have M2 : st (stM nm nv (20 + 40 * s) y σ3) 2 0 ((nm + 1 : Nat) : Int) 2 0 = ((nm + 1 : Nat) : Int) := by rw [st_row, if_pos rfl]
  have N0 : st (stM nm nv (20 + 40 * s) y σ3) 2 0 ((nm + 1 : Nat) : Int) (300 + 4 * nm) 0 = y := by
    rw [st_ne (by omega)]; unfold stM; rw [if_pos rfl, if_pos rfl]
  have N2 : ∀ a, a < 160 → st (stM nm nv (20 + 40 * s) y σ3) 2 0 ((nm + 1 : Nat) : Int) (300 + 4 * nm + 2) a = A 243 (160 * s + a) := fun a ha => by
    rw [st_ne (by omega)]; unfold stM
    rw [if_neg (by omega), if_neg (by omega), if_pos (by omega), show 701 + 2 * nv = 700 + 2 * nv + 1 by omega, g2 a ha]
    have : inS (stV nv σ) (20 + 40 * s + 1) (a : Int) = inS σ (20 + 40 * s + 1) (a : Int) := by
      unfold inS stV; rw [if_neg (by omega)]
    rw [this]; exact c_has hI (hC.g hs) hs ha
  have N3 : ∀ t, t < 4 → st (stM nm nv (20 + 40 * s) y σ3) 2 0 ((nm + 1 : Nat) : Int) (300 + 4 * nm + 3) t = A 252 (4 * s + t) := fun t ht => by
    rw [st_ne (by omega)]; unfold stM
    rw [if_neg (by omega), if_neg (by omega), if_neg (by omega), if_pos (by omega), V _ (by omega) (by omega)]
    exact (hC.site hs).2.2.2.2.2.2.2.2.2.1 t ht
  generalize st (stM nm nv (20 + 40 * s) y σ3) 2 0 ((nm + 1 : Nat) : Int) = σ5 at M M2 N0 N2 N3
  have e5 : σ5 0 9 = (nm : Int) := by rw [M 0 (by omega) (by decide) (by omega) (by omega)]; exact e09
  show wp (ck (σ5 0 9 + 1) fun v6 => pf σ5 0 9 v6 fun σ7 => ck (σ7 0 9 - 1) fun v8 => some (0, v8, σ7)) _
  rw [e5]
  refine wp_ck (by omega) (by omega) (wp_pf (wp_ck (by rw [st_row, if_pos rfl]; omega) (by rw [st_row, if_pos rfl]; omega) ?_))
  have G : ∀ a, a ≠ 0 → st σ5 0 9 ((nm : Int) + 1) a = σ5 a := fun a h0 => st_fn h0
  have G0 : ∀ b, st σ5 0 9 ((nm : Int) + 1) 0 b = if b = 9 then (nm : Int) + 1 else σ 0 b := fun b => by
    rw [st_row, M 0 (by omega) (by decide) (by omega) (by omega)]
  generalize st σ5 0 9 ((nm : Int) + 1) = σ6 at G G0
  refine wp_some ⟨rfl, fun _ => ?_, ?_, fun a b h1 h2 => by show σ6 a b = σ a b; rw [G a (by omega), M a (by omega) (by omega) (by omega) (by omega)]⟩
  · show σ6 0 9 - 1 = _
    rw [G0, if_pos rfl]; omega
  · refine Cl.gen (τ := σ6) hI hC sd_g (fun a h1 h2 _ => by rw [G a (by omega), M a (by omega) (by omega) (by omega) (by omega)]) (fun t u ht hu => ?_) ⟨?_, ?_, fun m hm2 => ?_⟩ ⟨?_, ?_, fun v hv2 a ha => ?_⟩
    · rw [G _ (by omega), M _ (by omega) (by omega) (by omega) (by omega), sd_o (by decide)]; exact (hC.site ht).2.2.2.2.2.2.2.2.2.1 u hu
    · rw [G0, if_pos rfl]; omega
    · rw [G 2 (by decide)]; exact M2
    · by_cases q : m = nm
      · subst q
        refine ⟨?_, fun a ha => ?_, fun t ht => ?_⟩
        · rw [G _ (by omega), N0, sd_254, if_pos rfl]
        · rw [G _ (by omega), N2 a ha, sd_255 _ _ ha, if_pos rfl]
        · rw [G _ (by omega), N3 t ht, sd_257 _ _ ht, if_pos rfl]
      · exact (hC.2.2.2.2.1.2.2 m (by omega)).fr (by rw [G _ (by omega), M _ (by omega) (by omega) (by omega) (by omega)]) (by rw [G _ (by omega), M _ (by omega) (by omega) (by omega) (by omega)]) (by rw [G _ (by omega), M _ (by omega) (by omega) (by omega) (by omega)]) (by rw [sd_254, if_neg q]) (fun a ha => by rw [sd_255 _ _ ha, if_neg q]) (fun t ht => by rw [sd_257 _ _ ht, if_neg q])
    · rw [G0, if_neg (by decide)]; exact hC.2.2.2.2.2.1
    · rw [G 3 (by decide), M 3 (by omega) (by decide) (by omega) (by omega)]; exact e30
    · rw [G _ (by omega), M _ (by omega) (by omega) (by omega) (by omega), sd_o (by decide)]; exact hC.2.2.2.2.2.2.2 v hv2 a ha
/-- what a site has behind a delivery -/
def dvA (A : St) (N s m : Nat) : St := lrA (dlA A s ((OL A N).filter (Ms A m))) s m
theorem co_deliver (hI : Inv A N nm nv) (hC : Cl σ A N nm nv) (hm : m < nm) (hs : s < 4) (es : A 254 m = (s : Int)) : wp (zw (fX5_deliver 1000 σ (m : Int))) (OkZ σ (dvA A N s m) N nm nv (dlA A s ((OL A N).filter (Ms A m)) 245 s - A 245 s)) := by
  have hN := hI.1.2.1
  have hm80 := hI.2.2.2.1.1
  have e20 : σ 2 0 = (nm : Int) := hC.2.2.2.2.1.2.1
  have e0 : σ (300 + 4 * m) 0 = (s : Int) := by rw [(hC.2.2.2.2.1.2.2 m hm).1]; exact es
  have cls := c_delL (n := 1000) hI hC hs hm (by decide) (m : Int) N 1000 0 σ (by omega) (by omega) (by rw [List.take_zero]; exact Gd.rf hI) (by rw [List.take_zero]; exact Or.inl ⟨rfl, rfl⟩) FrC.rf
  refine OkC.z ?_
  unfold fX5_deliver
  have em : fX5_messageAt σ (m : Int) = some (0, 300 + 4 * m, σ) := by
    unfold fX5_messageAt
    rw [if_neg (by omega), if_neg (by omega), rn_in (by omega) (by omega) (by omega), rn_in (by omega) (by omega) (by omega), Int.toNat_natCast]
  rw [xw_ok em, e0, xw_ok (c_siteS hs), (hC.site hs).2.2.2.2.2.2.1]
  exact wp_mono cls.1 (fun r w => ⟨w.1, fun _ => w.2.1, w.2.2.1, w.2.2.2⟩)
theorem dl_gd (hI : Inv A N nm nv) (hC : Cl σ A N nm nv) (hm : m < nm) (hs : s < 4) : Gd A (dlA A s ((OL A N).filter (Ms A m))) N nm nv s ((OL A N).filter (Ms A m)) := by
  have hN := hI.1.2.1
  exact (c_delL (n := 1000) hI hC hs hm (by decide) (m : Int) N 1000 0 σ (by omega) (by omega) (by rw [List.take_zero]; exact Gd.rf hI) (by rw [List.take_zero]; exact Or.inl ⟨rfl, rfl⟩) FrC.rf).2
theorem tk_sub {a x : Int} (ha : 0 ≤ a) (h : Hs (tkA A s a) s x = true) : Hs A s x = true ∨ x = a := by
  unfold tkA at h
  by_cases g : Hs A s a = true
  · rw [if_pos g] at h; exact Or.inl h
  · rw [if_neg g] at h
    have w : num x ∧ tkN A s a 243 (160 * s + x.toNat) ≠ 0 := of_decide_eq_true h
    rw [tk_243] at w
    by_cases q : 160 * s + x.toNat = 160 * s + a.toNat
    · have hx := w.1.1
      exact Or.inr (by omega)
    · rw [if_neg q] at w
      exact Or.inl (decide_eq_true w)
theorem dl_sub {x : Int} (L : List Int) : ∀ A : St, (∀ a, a ∈ L → 0 ≤ a) → Hs (dlA A s L) s x = true → Hs A s x = true ∨ x ∈ L := by
  induction L with
  | nil => intro A _ h; exact Or.inl h
  | cons a L ih =>
    intro A hL h
    rcases ih (tkA A s a) (fun b hb => hL b (List.mem_cons_of_mem _ hb)) h with w | w
    · rcases tk_sub (hL a List.mem_cons_self) w with w | w
      · exact Or.inl w
      · rw [w]; exact Or.inr List.mem_cons_self
    · exact Or.inr (List.mem_cons_of_mem _ w)
theorem dl_sup {x : Int} (L : List Int) : ∀ A : St, (∀ a, a ∈ L → 0 ≤ a ∧ a < 160) → Hs A s x = true → Hs (dlA A s L) s x = true := by
  induction L with
  | nil => intro A _ h; exact h
  | cons a L ih =>
    intro A hL h
    refine ih (tkA A s a) (fun b hb => hL b (List.mem_cons_of_mem _ hb)) ?_
    unfold tkA
    split
    · exact h
    · exact tk_Hs (hL a List.mem_cons_self) (Or.inl h)
theorem dl_id (L : List Int) : ∀ A : St, (∀ a, a ∈ L → Hs A s a = true) → dlA A s L = A := by
  induction L with
  | nil => intro A _; rfl
  | cons a L ih =>
    intro A hL
    have e : tkA A s a = A := if_pos (hL a List.mem_cons_self)
    show dlA (tkA A s a) s L = A
    rw [e]
    exact ih A (fun b hb => hL b (List.mem_cons_of_mem _ hb))
theorem dl_o {r : Nat} (h : r ≠ 243 ∧ r ≠ 244 ∧ r ≠ 245 ∧ r ≠ 247) (L : List Int) : ∀ A : St, dlA A s L r = A r := by
  induction L with
  | nil => intro A; rfl
  | cons a L ih =>
    intro A
    show dlA (tkA A s a) s L r = A r
    rw [ih]
    unfold tkA
    split
    · rfl
    · exact tk_o h
theorem dv_facts (hI : Inv A N nm nv) (hC : Cl σ A N nm nv) (hm : m < nm) (hs : s < 4) : Inv (dvA A N s m) N nm nv ∧ (∀ r, r ≠ 243 ∧ r ≠ 244 ∧ r ≠ 245 ∧ r ≠ 247 ∧ r ≠ 252 → dvA A N s m r = A r) ∧ (∀ t, t < 4 → t ≠ s → Hs (dvA A N s m) t = Hs A t) ∧ (∀ x, Hs (dvA A N s m) s x = (Hs A s x || Ms A m x)) ∧ dvA A N s m 245 = dlA A s ((OL A N).filter (Ms A m)) 245 ∧ (∀ t, t < 4 → t ≠ s → dvA A N s m 245 t = A 245 t) := by
  have hN := hI.1.2.1
  have hr : ∀ a, a ∈ (OL A N).filter (Ms A m) → 0 ≤ a ∧ a < (N : Int) := OLf hI.1
  have gd : Gd A (dlA A s ((OL A N).filter (Ms A m))) N nm nv s ((OL A N).filter (Ms A m)) := dl_gd hI hC hm hs
  have o252 : ∀ r, r ≠ 252 → dvA A N s m r = dlA A s ((OL A N).filter (Ms A m)) r := fun r h => lr_o h
  have hh : ∀ t, Hs (dvA A N s m) t = Hs (dlA A s ((OL A N).filter (Ms A m))) t := fun t => by
    funext x; unfold Hs; rw [o252 243 (by decide)]
  refine ⟨gd.1.lr hs hm, fun r h => ?_, fun t ht hne => ?_, fun x => ?_, o252 245 (by decide), fun t ht hne => ?_⟩
  · rw [o252 r h.2.2.2.2]; exact dl_o ⟨h.1, h.2.1, h.2.2.1, h.2.2.2.1⟩ _ _
  · rw [hh]; exact gd.2.1.hs ht hne
  · rw [hh, Bool.eq_iff_iff, Bool.or_eq_true]
    constructor
    · intro w
      rcases dl_sub _ A (fun a ha => (hr a ha).1) w with w | w
      · exact Or.inl w
      · exact Or.inr (List.mem_filter.mp w).2
    · rintro (w | w)
      · exact dl_sup _ A (fun a ha => by have := hr a ha; omega) w
      · refine gd.2.2.1 x ?_
        rw [List.mem_filter, hI.1.2.2.2.2.1.2]
        refine ⟨?_, w⟩
        have w2 : num x ∧ A 255 (160 * m + x.toNat) ≠ 0 := of_decide_eq_true w
        have hx := w2.1
        have w3 : 0 ≤ x ∧ x < 160 := hx
        have hm80 := hI.2.2.2.1.1
        have := (hI.2.2.2.1.2.2 m x.toNat (by omega) (by omega)).2 w2.2
        omega
  · rw [o252 245 (by decide)]; exact (gd.2.1.2 t ht hne).2 245 (by decide) (by decide)
end SD46
