/-! ===== what the law asks of a site, and of two alike ===== -/
section SITE
variable {σ A : St} {N nm s t : Nat} {D : Dc}
theorem cnt_mono {P R : Int → Bool} {L : List Int} (h : ∀ x, x ∈ L → P x = true → R x = true) : cnt P L ≤ cnt R L := by
  induction L with
  | nil => exact Int.le_refl _
  | cons x L ih =>
    have h1 := ih (fun y hy => h y (List.mem_cons_of_mem _ hy))
    have h2 := h x List.mem_cons_self
    show b2i (P x) + cnt P L ≤ b2i (R x) + cnt R L
    cases e : P x with
    | false => have := b2i_r (R x); show (0 : Int) + cnt P L ≤ _; omega
    | true => rw [h2 e]; show (1 : Int) + cnt P L ≤ 1 + cnt R L; omega
theorem cnt_not (P : Int → Bool) (L : List Int) : cnt (fun x => !P x) L = (L.length : Int) - cnt P L := by
  induction L with
  | nil => rfl
  | cons x L ih =>
    show b2i (!P x) + cnt (fun x => !P x) L = ((L.length + 1 : Nat) : Int) - (b2i (P x) + cnt P L)
    rw [ih]
    cases P x
    · show (1 : Int) + _ = _ - ((0 : Int) + _); omega
    · show (0 : Int) + _ = _ - ((1 : Int) + _); omega
theorem shown_seen {x : Int} (h : shownB D x = true) : seenB D x = true := by
  unfold shownB at h
  have := of_decide_eq_true h
  exact decide_eq_true ⟨this.1, this.2.2, Or.inl this.2.1⟩
theorem brk_in (hd : DI A N D) {x : Int} (h : brkB D x = true) : x ∈ D.1 := by
  unfold brkB at h
  have := of_decide_eq_true h
  refine Decidable.byContradiction (fun q => ?_)
  have := (hd.2.2.2.1 x.toNat (by rw [Int.toNat_of_nonneg this.1.1]; exact q)).1
  omega
theorem grave_cnt (hd : DI A N D) (hN : N ≤ 160) (P : Int → Bool) : cnt (fun x => graveB D x && P x) (ids N) ≤ (D.1.length : Int) - cnt (seenB D) D.1 := by
  have h1 : cnt (fun x => graveB D x && P x) (ids N) ≤ cnt (graveB D) (ids N) := cnt_mono (fun x _ h => by
    rw [Bool.and_eq_true] at h; exact h.1)
  have h2 : cnt (graveB D) (ids N) = cnt (graveB D) D.1 := cnt_same ids_nd hd.1 (fun x hx => by
    have hn : num x := by
      unfold graveB at hx
      rw [Bool.and_eq_true] at hx
      exact (of_decide_eq_true hx.1).1
    rw [grave_eq hd hn, Bool.and_eq_true] at hx
    have hin := of_decide_eq_true hx.1
    have hr := hd.row hN hin
    exact ⟨fun _ => hin, fun _ => ids_mem.mpr ⟨hr.1.1, hr.2⟩⟩)
  have h3 : cnt (graveB D) D.1 = cnt (fun x => !seenB D x) D.1 := cnt_congr (fun x hx => by
    rw [grave_eq hd (hd.row hN hx).1, decide_eq_true hx, Bool.true_and])
  rw [h2, h3, cnt_not] at h1
  exact h1
theorem depth_lt (hd : DI A N D) : cnt (fun x => decide (x = -1) || brkB D x) (chn (D.2 11) 161 (D.2 11 (-1 + 1 : Int).toNat)) ≤ cnt (brkB D) D.1 := by
  obtain ⟨rk, hrk⟩ := hd.2.2.2.2.2.2.2.2
  have hno : (-1 : Int) ∉ chn (D.2 11) 161 (D.2 11 (-1 + 1 : Int).toNat) := fun q => by
    by_cases g : -1 ≤ D.2 11 (-1 + 1 : Int).toNat ∧ D.2 11 (-1 + 1 : Int).toNat < 160
    · have h1 := chn_rk hrk 161 q
      have h2 := hrk (-1) (by omega) (by omega) g.1 g.2
      omega
    · rw [chn_n g] at q; cases q
  rw [cnt_congr (R := brkB D) (fun x hx => by
    rw [decide_eq_false (fun e => hno (by rw [e] at hx; exact hx)), Bool.false_or])]
  exact cnt_sub _ _ (chn_nodup hrk 161) (fun x _ hx => brk_in hd hx)
theorem wp_z {α : Type} {m : Option (Int × St)} {v : Int} {nv : Nat} {k : Int → St → Option α} {Q : α → Prop} {σ0 : St} (h : wp m (OkZ σ A N nm nv v)) (hf : FrC σ0 σ) (hk : ∀ σ2, Cl σ2 A N nm nv → FrC σ0 σ2 → wp (k v σ2) Q) : wp (b2 m k) Q :=
  wp_b2 h (fun w τ q => by
    obtain ⟨q1, q2, q3⟩ := q
    have q1' : w = v := q1
    subst q1'
    exact hk τ q2 (hf.tr q3))
theorem isSite_ok {pl : Int} (hI : Inv A N nm 0) (hC : Cl σ A N nm 0) (hs : s < 4) (hp : 0 ≤ pl ∧ pl ≤ 1000) : wp (fL_isSite 1000 σ (s : Int) pl) (fun r => r.1 = 1 ∧ Cl r.2 A N nm 0 ∧ FrC σ r.2) := by
  have dk := hI.dk hs
  have hN := hI.1.2.1
  have hl := (cnt_le (seenB (docOf A N (Hs A s))) (docOf A N (Hs A s)).1)
  have hlen := dk.2.2.2.2
  have hcr := thr_r (D := docOf A N (Hs A s)) (e := A 248 s)
  have htr := thr_r (D := docOf A N (Hs A s)) (e := A 249 s)
  have hsh : cnt (shownB (docOf A N (Hs A s))) (docOf A N (Hs A s)).1 ≤ lenA A N s := cnt_mono (fun x _ h => shown_seen h)
  have hgr := grave_cnt dk.1 hN (fun x => graveB (docOf A N (hadF A s 4)) x)
  have hdp := depth_lt dk.1
  have hbl : isBl (docOf A N (Hs A s)) 0 := ⟨Int.le_refl _, (cnt_le _ _).1⟩
  have hb0 : blN (docOf A N (Hs A s)) 0 = -1 := if_pos rfl
  have hbl0 : isBl (docOf A N (Hs A 0)) 0 := ⟨Int.le_refl _, (cnt_le _ _).1⟩
  have hlv : lev (docOf A N (Hs A 0)) ((0 : Nat) : Int) (blN (docOf A N (Hs A 0)) 0) = 0 := if_neg (fun z => by have := z.1; omega)
  have hL : lenA A N s = cnt (seenB (docOf A N (Hs A s))) (docOf A N (Hs A s)).1 := rfl
  unfold fL_isSite
  refine wp_z (co_length hI hC hs) FrC.rf (fun σ1 c1 f1 => ?_)
  refine wp_z (co_shown hI c1 hs) f1 (fun σ2 c2 f2 => ?_)
  rw [if_neg (by omega)]
  refine wp_z (co_cursor hI c2 hs) f2 (fun σ3 c3 f3 => ?_)
  rw [if_neg (by omega)]
  refine wp_z (co_cursor hI c3 hs) f3 (fun σ4 c4 f4 => ?_)
  rw [if_neg (by omega)]
  refine wp_z (co_tail hI c4 hs) f4 (fun σ5 c5 f5 => ?_)
  rw [if_neg (by omega)]
  refine wp_z (co_buried hI c5 hs) f5 (fun σ6 c6 f6 => ?_)
  refine wp_z (co_graves hI c6 hs) f6 (fun σ7 c7 f7 => ?_)
  rw [if_neg (by rw [hL]; omega)]
  unfold fL_isSite_J59
  rw [if_neg (by decide)]
  refine wp_z (co_blocks hI c7 hs) f7 (fun σ8 c8 f8 => ?_)
  have hbk := (cnt_le (brkB (docOf A N (Hs A s))) (docOf A N (Hs A s)).1).1
  rw [if_neg (by omega)]
  refine wp_z (co_depth hI c8 hs hbl) f8 (fun σ9 c9 f9 => ?_)
  rw [hb0]
  refine wp_z (co_blocks hI c9 hs) f9 (fun τ1 d1 g1 => ?_)
  rw [if_neg (by omega)]
  refine wp_z (co_level (s := 0) hI d1 (by decide) hbl0) g1 (fun τ2 d2 g2 => ?_)
  rw [hlv, if_neg (fun z => z rfl)]
  unfold fL_isSite_J103
  rw [if_neg (by decide)]
  by_cases h0 : lenA A N s = 0
  · rw [if_pos h0]; exact wp_some ⟨rfl, d2, g2⟩
  · rw [if_neg h0]
    have hpos : 0 < lenA A N s ∧ lenA A N s ≤ 2147483647 := by rw [hL] at h0 ⊢; omega
    rw [irm_ok ⟨hp.1, by omega⟩ hpos]
    have hm1 : 0 ≤ pl % lenA A N s := Int.emod_nonneg _ h0
    have hm2 : pl % lenA A N s < lenA A N s := Int.emod_lt_of_pos _ hpos.1
    have hel : isEl (docOf A N (Hs A s)) (pl % lenA A N s) := ⟨hm1, hm2⟩
    refine wp_z (co_element hI d2 hs hel) g2 (fun τ3 d3 g3 => ?_)
    rw [irm_ok ⟨hp.1, by omega⟩ hpos]
    refine wp_z (co_elementAnew hI d3 hs hel) g3 (fun τ4 d4 g4 => ?_)
    rw [if_neg (fun z => z rfl)]
    exact wp_some ⟨rfl, d4, g4⟩
/-- two sites with the same acts answer alike -/
theorem alike_ok (hI : Inv A N nm 0) (hC : Cl σ A N nm 0) (hs : s < 4) (ht : t < 4) (he : Hs A s = Hs A t) : wp (fL_areAlike 1000 σ (s : Int) (t : Int)) (fun r => r.1 = 1 ∧ Cl r.2 A N nm 0 ∧ FrC σ r.2) := by
  have hN := hI.1.2.1
  have hlen := (hI.dk hs).2.2.2.2
  have hl := (cnt_le (seenB (docOf A N (Hs A s))) (docOf A N (Hs A s)).1)
  have e2 : A 245 s = A 245 t := by rw [Hs_size hI hs, Hs_size hI ht, he]
  have eL : lenA A N s = lenA A N t := by unfold lenA; rw [he]
  have hL : lenA A N s = cnt (seenB (docOf A N (Hs A s))) (docOf A N (Hs A s)).1 := rfl
  have lp : ∀ (q k : Nat) (i : Int) (τ : St), 0 ≤ i → lenA A N s - i ≤ 3 * (q : Int) → q < k → Cl τ A N nm 0 → FrC σ τ → wp (fL_areAlike_L97 1000 (s : Int) (t : Int) k τ 1 i) (fun r => r.1 = 1 ∧ Cl r.2 A N nm 0 ∧ FrC σ r.2) := by
    intro q
    induction q with
    | zero =>
      intro k i τ h0 h1 hk c f
      obtain ⟨k, rfl⟩ : ∃ q, k = q + 1 := ⟨k - 1, by omega⟩
      show wp (fL_areAlike_L97s 1000 (s : Int) (t : Int) _ τ 1 i) _
      unfold fL_areAlike_L97s
      refine wp_z (co_length hI c hs) f (fun σ1 c1 f1 => ?_)
      rw [if_pos (by omega), rb_ok (Or.inr rfl)]
      exact wp_some ⟨rfl, c1, f1⟩
    | succ q ih =>
      intro k i τ h0 h1 hk c f
      obtain ⟨k, rfl⟩ : ∃ q, k = q + 1 := ⟨k - 1, by omega⟩
      show wp (fL_areAlike_L97s 1000 (s : Int) (t : Int) (fL_areAlike_L97 1000 (s : Int) (t : Int) k) τ 1 i) _
      unfold fL_areAlike_L97s
      refine wp_z (co_length hI c hs) f (fun σ1 c1 f1 => ?_)
      by_cases g : lenA A N s ≤ i
      · rw [if_pos g, rb_ok (Or.inr rfl)]
        exact wp_some ⟨rfl, c1, f1⟩
      rw [if_neg g, if_neg (by decide)]
      have w1 : isEl (docOf A N (Hs A s)) i := ⟨h0, by rw [← hL]; omega⟩
      have w2 : isEl (docOf A N (Hs A t)) i := by rw [← he]; exact w1
      refine wp_z (co_element hI c1 hs w1) f1 (fun σ2 c2 f2 => ?_)
      refine wp_z (co_element hI c2 ht w2) f2 (fun σ3 c3 f3 => ?_)
      rw [if_neg (fun z => z (by rw [he]))]
      refine wp_z (co_letter hI c3 hs w1) f3 (fun σ4 c4 f4 => ?_)
      refine wp_z (co_letter hI c4 ht w2) f4 (fun σ5 c5 f5 => ?_)
      rw [if_neg (fun z => z (by rw [he]))]
      refine wp_z (co_proposed hI c5 hs w1) f5 (fun σ6 c6 f6 => ?_)
      refine wp_z (co_proposed hI c6 ht w2) f6 (fun σ7 c7 f7 => ?_)
      rw [if_neg (fun z => z (by rw [he]))]
      unfold fL_areAlike_J167
      rw [if_neg (by decide)]
      refine wp_z (co_isMarked hI c7 hs w1) f7 (fun σ8 c8 f8 => ?_)
      refine wp_z (co_isMarked hI c8 ht w2) f8 (fun σ9 c9 f9 => ?_)
      rw [if_neg (fun z => z (by rw [he]))]
      refine wp_ck (by omega) (by rw [hL] at g; omega) (ih k (i + 3) σ9 (by omega) (by omega) (by omega) c9 f9)
  have go : ∀ τ, Cl τ A N nm 0 → FrC σ τ → wp (fL_areAlike_L97 1000 (s : Int) (t : Int) 1000 τ 1 0) (fun r => r.1 = 1 ∧ Cl r.2 A N nm 0 ∧ FrC σ r.2) := fun τ c f => lp 160 1000 0 τ (Int.le_refl _) (by rw [hL]; omega) (by omega) c f
  unfold fL_areAlike
  refine wp_z (co_has hC hs) FrC.rf (fun σ1 c1 f1 => ?_)
  refine wp_z (co_has c1 ht) f1 (fun σ2 c2 f2 => ?_)
  rw [if_neg (fun z => z e2)]
  refine wp_z (co_length hI c2 hs) f2 (fun σ3 c3 f3 => ?_)
  refine wp_z (co_length hI c3 ht) f3 (fun σ4 c4 f4 => ?_)
  rw [if_neg (fun z => z eL)]
  refine wp_z (co_shown hI c4 hs) f4 (fun σ5 c5 f5 => ?_)
  refine wp_z (co_shown hI c5 ht) f5 (fun σ6 c6 f6 => ?_)
  rw [if_neg (fun z => z (by rw [he]))]
  refine wp_z (co_blocks hI c6 hs) f6 (fun σ7 c7 f7 => ?_)
  refine wp_z (co_blocks hI c7 ht) f7 (fun σ8 c8 f8 => ?_)
  rw [if_neg (fun z => z (by rw [he]))]
  unfold fL_areAlike_J57
  rw [if_neg (by decide)]
  refine wp_z (co_graves hI c8 hs) f8 (fun σ9 c9 f9 => ?_)
  refine wp_z (co_graves hI c9 ht) f9 (fun τ1 d1 g1 => ?_)
  rw [if_neg (fun z => z (by rw [he, eL]))]
  refine wp_z (co_openN hI d1 hs) g1 (fun τ2 d2 g2 => ?_)
  refine wp_z (co_openN hI d2 ht) g2 (fun τ3 d3 g3 => ?_)
  rw [if_neg (fun z => z (by rw [he]))]
  exact go τ3 d3 g3
end SITE
