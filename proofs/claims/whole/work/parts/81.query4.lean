/-! ===== questions about a block ===== -/
section Q3
variable {σ A : St} {N nm nv n s : Nat} {D : Dc} {S : Int → Bool}
def blN (D : Dc) (w : Int) : Int := if w = 0 then -1 else runL (atS (brkB D) w) (fun _ => -2) 1 D.1
def isBl (D : Dc) (w : Int) : Prop := 0 ≤ w ∧ w ≤ cnt (brkB D) D.1
theorem blN_in {w : Int} (h : isBl D w) : blN D w = -1 ∨ (blN D w ∈ D.1 ∧ brkB D (blN D w) = true) := by
  unfold blN
  by_cases q : w = 0
  · rw [if_pos q]; exact Or.inl rfl
  · rw [if_neg q]
    exact Or.inr (at_in D.1 1 w (fun _ => -2) (by have := h.1; omega) (by have := h.2; omega))
theorem blN_r (hd : DI A N D) (hN : N ≤ 160) {w : Int} (h : isBl D w) : -1 ≤ blN D w ∧ blN D w < (N : Int) := by
  rcases blN_in h with q | q
  · rw [q]; omega
  · have := hd.row hN q.1
    have h0 : 0 ≤ blN D w := this.1.1
    omega
theorem blN_no {w : Int} (h : ¬ isBl D w) : blN D w = -2 := by
  unfold blN
  have := (cnt_le (brkB D) D.1).1
  unfold isBl at h
  rw [if_neg (by omega)]
  exact at_out D.1 1 w (-2) (by omega)
theorem c_blockAt {p : Nat} {w : Int} (h : isP σ p D) (hd : DI A N D) (hN : N ≤ 160) (hn : 161 ≤ n) (hw : isBl D w) : fX5_blockAt n σ p w = some (0, blN D w, σ) := by
  have := blN_r hd hN hw
  unfold fX5_blockAt
  rw [b1_ok (q_shownBlock h hn w)]
  show (if blN D w ≠ -2 then some (0, blN D w, σ) else some (1, 0, σ)) = _
  rw [if_pos (by omega)]
theorem c_blockNo {p : Nat} {w : Int} (h : isP σ p D) (hn : 161 ≤ n) (hw : ¬ isBl D w) : fX5_blockAt n σ p w = some (1, 0, σ) := by
  unfold fX5_blockAt
  rw [b1_ok (q_shownBlock h hn w)]
  show (if blN D w ≠ -2 then some (0, blN D w, σ) else some (1, 0, σ)) = _
  rw [if_neg (by rw [blN_no hw]; exact fun q => q rfl)]
theorem r_isBlock {x w : Int} (hI : Inv A N nm nv) (h : Re σ A N nm nv) (hx : 0 ≤ x ∧ x < 4) (hn : 700 ≤ n) : wp (fX6_isBlock n σ x w) (fun r => (r.1 = 0 ↔ ¬ isBl (docOf A N (Hs A x.toNat)) w) ∧ isD r.2 A N (Hs A x.toNat) ∧ Re r.2 A N nm nv ∧ FrF σ r.2) := by
  unfold fX6_isBlock
  refine wp_b1e (r_isSite x) ?_
  rw [decide_eq_true hx, if_pos (by decide)]
  have hs := r_site hI.1 (hI.2.1 x.toNat (by omega)) h (by omega) hn
  rw [Int.toNat_of_nonneg hx.1] at hs
  refine wp_b1 hs (fun σ3 q => ?_)
  have h1 := cnt_le (brkB (docOf A N (Hs A x.toNat))) (docOf A N (Hs A x.toNat)).1
  have h2 := q.1.r.2.1
  refine wp_b1e (r_shownBlocks q.1.r q.2.1.1 q.1.d hI.1.2.1 (by omega)) (wp_ck (by omega) (by omega) (wp_b1e (r_isIn _ _ _) (wp_some ⟨?_, q⟩)))
  rw [b2i_eq, decide_eq_false_iff_not]
  unfold isBl
  omega
theorem r_blockNo {x w : Int} (hx : ¬ (0 ≤ x ∧ x < 4)) : fX6_isBlock n σ x w = some (0, σ) := by
  unfold fX6_isBlock
  rw [b1_ok (r_isSite x), decide_eq_false hx, if_neg (by decide)]
theorem r_blN {w : Int} (h : isD σ A N S) (hr : RT A σ N) (hN : N ≤ 160) (hn : 161 ≤ n) (hw : isBl (docOf A N S) w) : fX6_blockNumber n σ w = some (blN (docOf A N S) w) := r_blockNumber h.1 hr h.2.1.1 hN hn hw
theorem r_depth (h : isD σ A N S) (hN : N ≤ 160) (hn : 400 ≤ n) (x y : Int) {f : Int} (hf : f = -2 ∨ (-1 ≤ f ∧ f < (N : Int) ∧ (0 ≤ f → A 11 f.toNat = 1))) : fX6_depth_L43 n σ x y n 0 f = some (cnt (fun z => decide (z = -1) || brkB (docOf A N S) z) (chn ((docOf A N S).2 11) 161 f), σ) := by
  have hd := h.2.1.1
  have h11 := h.1.2.2.2.2.2.2.2.2.1
  have hab := hd.2.2.2.2.2.2.2.1
  have hac := hd.2.2.2.2.2.2.2.2
  have hne : ∀ z : Int, 0 ≤ z → z ∉ (docOf A N S).1 → brkB (docOf A N S) z = false := by
    intro z hz hz2
    have := (hd.2.2.2.1 z.toNat (by rw [Int.toNat_of_nonneg hz]; exact hz2)).2
    exact decide_eq_false (fun q => q.2.1 this)
  have key : ∀ (k m : Nat) (c f : Int), k < m → 0 ≤ c → c + (k : Int) ≤ 163 → (f = -2 ∨ (-1 ≤ f ∧ f < (N : Int) ∧ (0 ≤ f → A 11 f.toNat = 1))) → (chn ((docOf A N S).2 11) k f).length < k → fX6_depth_L43 n σ x y m c f = some (c + cnt (fun z => decide (z = -1) || brkB (docOf A N S) z) (chn ((docOf A N S).2 11) k f), σ) := by
    intro k
    induction k with
    | zero => intro m c f _ _ _ _ hl; exact absurd hl (Nat.not_lt_zero _)
    | succ k ih =>
      intro m c f h1 h2 h3 hf hl
      obtain ⟨m, rfl⟩ : ∃ q, m = q + 1 := ⟨m - 1, by omega⟩
      have e0 : fX6_depth_L43 n σ x y (m + 1) = fX6_depth_L43s n σ x y (fX6_depth_L43 n σ x y m) := rfl
      rw [e0]
      unfold fX6_depth_L43s
      by_cases f2 : f = -2
      · rw [if_pos f2, f2, chn_n (by decide)]
        show some (c, σ) = some (c + 0, σ)
        rw [Int.add_zero]
      · have hf' := hf.resolve_left f2
        have hr1 : -1 ≤ f ∧ f < 160 := ⟨hf'.1, by omega⟩
        have hb : (f + 1).toNat < 161 := by omega
        have hn2 := hab (f + 1).toNat hb
        rw [chn_s hr1] at hl ⊢
        have hl' : (chn ((docOf A N S).2 11) k ((docOf A N S).2 11 (f + 1).toNat)).length < k := by
          rw [List.length_cons] at hl; omega
        have go : ∀ t : Int, t = b2i (decide (f = -1) || brkB (docOf A N S) f) → fX6_depth_J84 n (fX6_depth_L43 n σ x y m) σ x y f t c = some (c + cnt (fun z => decide (z = -1) || brkB (docOf A N S) z) (f :: chn ((docOf A N S).2 11) k ((docOf A N S).2 11 (f + 1).toNat)), σ) := by
          intro t ht
          have htr := b2i_r (decide (f = -1) || brkB (docOf A N S) f)
          rw [← ht] at htr
          unfold fX6_depth_J84
          rw [ck_ok (by omega) (by omega), ck_ok (by omega) (by omega), rd_ok (by omega) (by omega), (h11 (f + 1).toNat hb).2]
          rw [ih m (c + t) _ (by omega) (by omega) (by omega) hn2 hl']
          show _ = some (c + (b2i (decide (f = -1) || brkB (docOf A N S) f) + cnt _ _), σ)
          rw [← ht, Int.add_assoc]
        rw [if_neg f2]
        by_cases f1 : f = -1
        · rw [if_pos f1]
          exact go 1 (by rw [decide_eq_true f1, Bool.true_or]; rfl)
        · rw [if_neg f1, b1_ok (r_spot h.1 (by omega) f)]
          have ff : decide (f = -1) = false := decide_eq_false f1
          by_cases hm : f ∈ (docOf A N S).1
          · have hlt := ix_lt hm
            have hs := brk_shown hd hN hm
            rw [decide_eq_true (hf'.2.2 (by omega)), Bool.true_and] at hs
            rw [if_neg (by rw [h.1.1]; omega), b1_ok (r_isShown h.1 hd hN hm), if_b2i]
            cases hsb : shownB (docOf A N S) f
            · rw [if_neg (by decide)]
              exact go 0 (by rw [ff, Bool.false_or, hs, hsb]; rfl)
            · rw [if_pos rfl]
              exact go 1 (by rw [ff, Bool.false_or, hs, hsb]; rfl)
          · rw [if_pos (by rw [h.1.1, ix_not hm]; exact Int.le_refl _)]
            exact go 0 (by rw [ff, Bool.false_or, hne f (by omega) hm]; rfl)
  have hlen := AC.len hac 162 f
  have := key 162 n 0 f (by omega) (by decide) (by decide) hf (by omega)
  rw [chn_full (by exact hlen), Int.zero_add] at this
  exact this
/-- a question about a block -/
theorem q_bl {x w v : Int} {K : Nat → Nat → Int → St → Option (Nat × Int × St)} {R : St → Option (Int × St)} (hI : Inv A N nm nv) (h : Cl σ A N nm nv) (hR : Re σ A N nm nv) (hn : 700 ≤ n)
    (hK : (0 ≤ x ∧ x < 4) → isBl (docOf A N (Hs A x.toNat)) w → ∀ σ3, isP σ3 (20 + 40 * x.toNat + 10) (docOf A N (Hs A x.toNat)) → Cl σ3 A N nm nv → K (20 + 40 * x.toNat) (20 + 40 * x.toNat + 10) (blN (docOf A N (Hs A x.toNat)) w) σ3 = some (0, v, σ3))
    (hR2 : (0 ≤ x ∧ x < 4) → isBl (docOf A N (Hs A x.toNat)) w → ∀ σ3, isD σ3 A N (Hs A x.toNat) → Re σ3 A N nm nv → R σ3 = some (v, σ3)) :
    ∃ (k v : Int) (σ1 σ2 : St), hw (some 1) none none (fun v => v) (xw 0 (fX5_siteAt σ x) (fun o2 σ1 => b2 (fX5_paperOf n σ1 o2) (fun o4 σ3 => xw 0 (fX5_blockAt n σ3 o4 w) (fun v6 σ5 => K o2 o4 v6 σ5)))) = some (k, σ1) ∧ b2 (fX6_isBlock n σ1 x w) (fun v2 σ1 => if v2 = 0 then pf σ1 230 0 1 (fun σ3 => if σ3 230 0 ≤ 0 then R σ3 else some (0, σ3)) else pf σ1 230 0 0 (fun σ3 => if σ3 230 0 ≤ 0 then R σ3 else some (0, σ3))) = some (v, σ2) ∧ fX6_thrown σ2 = some k ∧ (k = 0 → σ2 290 0 = v) ∧ Rel nm nv σ2 := by
  have bad : ∀ σ1, Re σ1 A N nm nv → wp (pf σ1 230 0 1 (fun σ3 => if σ3 230 0 ≤ 0 then R σ3 else some (0, σ3))) (OkR σ1 A N nm nv 1 v) := by
    intro σ1 hr
    refine wp_pf ?_
    rw [if_neg (by rw [st_row, if_pos rfl]; decide)]
    exact wp_some (r_no hr (by decide))
  by_cases hx : 0 ≤ x ∧ x < 4
  · by_cases hw : isBl (docOf A N (Hs A x.toNat)) w
    · refine So_fin (F := fun σ1 => b2 (fX6_isBlock n σ1 x w) (fun v2 σ1 => if v2 = 0 then pf σ1 230 0 1 (fun σ3 => if σ3 230 0 ≤ 0 then R σ3 else some (0, σ3)) else pf σ1 230 0 0 (fun σ3 => if σ3 230 0 ≤ 0 then R σ3 else some (0, σ3)))) (g := fun v => v) (k := 0) (kk := 0) (v := v) rfl (fun _ => rfl) hR hI (c_open hI.1 h hx (by omega) (fun σ3 p1 p2 p3 => ?_)) (fun σ1 hr1 => ?_)
      · rw [xw_ok (c_blockAt p1 (hI.dk (by omega)).1 hI.1.2.1 (by omega) hw), hK hx hw σ3 p1 p2]
        exact wp_some ⟨rfl, fun _ => rfl, p2, p3⟩
      · refine wp_b2 (r_isBlock hI hr1 hx hn) (fun z σ3 q => ?_)
        obtain ⟨q1, q2, q3, q4⟩ := q
        rw [if_neg (fun z0 => (q1.mp z0) hw)]
        refine wp_pf ?_
        have f0 : FrS σ3 (st σ3 230 0 0) := FrS.up0 FrS.rf
        have e0 : st σ3 230 0 0 230 0 = 0 := by rw [st_row, if_pos rfl]
        rw [if_pos (by rw [e0]; decide)]
        have hD : isD (st σ3 230 0 0) A N (Hs A x.toNat) := by
          obtain ⟨⟨i1, i2, i3, i4, i5, i6, i7, i8, i9, i10⟩, d2, d3, d4, d5⟩ := q2
          have e : ∀ q, q ≠ 230 → st σ3 230 0 0 q = σ3 q := fun q hq => st_fn hq
          refine ⟨⟨?_, i2, ?_, ?_, ?_, ?_, ?_, ?_, ?_, ?_⟩, d2, ?_, ?_, ?_⟩
          · have i1' : σ3 230 32 = _ := i1
            rw [st_row, if_neg (by decide)]; exact i1'
          · rw [e 264 (by decide)]; exact i3
          · rw [e 265 (by decide)]; exact i4
          · rw [e 266 (by decide)]; exact i5
          · rw [e 267 (by decide), e 268 (by decide)]; exact i6
          · rw [e 269 (by decide)]; exact i7
          · rw [e 262 (by decide)]; exact i8
          · rw [e 270 (by decide), e 271 (by decide)]; exact i9
          · rw [e 272 (by decide)]; exact i10
          · rw [e 261 (by decide)]; exact d3
          · have d4' : σ3 230 29 = _ := d4
            rw [st_row, if_neg (by decide)]; exact d4'
          · rw [e 262 (by decide)]; exact d5
        rw [hR2 hx hw _ hD (q3.fr f0)]
        exact wp_some ⟨e0, fun _ => rfl, q3.fr f0, (FrR.ofF q4).tr f0.R⟩
    · refine So_fin (F := fun σ1 => b2 (fX6_isBlock n σ1 x w) (fun v2 σ1 => if v2 = 0 then pf σ1 230 0 1 (fun σ3 => if σ3 230 0 ≤ 0 then R σ3 else some (0, σ3)) else pf σ1 230 0 0 (fun σ3 => if σ3 230 0 ≤ 0 then R σ3 else some (0, σ3)))) (g := fun v => v) (k := 1) (kk := 1) (v := v) rfl (fun q => (by cases q)) hR hI (c_open hI.1 h hx (by omega) (fun σ3 p1 p2 p3 => ?_)) (fun σ1 hr1 => ?_)
      · rw [xw_x (c_blockNo p1 (by omega) hw)]
        exact wp_some ⟨rfl, fun q => (by cases q), p2, p3⟩
      · refine wp_b2 (r_isBlock hI hr1 hx hn) (fun z σ3 q => ?_)
        obtain ⟨q1, q2, q3, q4⟩ := q
        rw [if_pos (q1.mpr hw)]
        exact wp_mono (bad σ3 q3) (fun r y => ⟨y.1, y.2.1, y.2.2.1, (FrR.ofF q4).tr y.2.2.2⟩)
  · refine So_fin (F := fun σ1 => b2 (fX6_isBlock n σ1 x w) (fun v2 σ1 => if v2 = 0 then pf σ1 230 0 1 (fun σ3 => if σ3 230 0 ≤ 0 then R σ3 else some (0, σ3)) else pf σ1 230 0 0 (fun σ3 => if σ3 230 0 ≤ 0 then R σ3 else some (0, σ3)))) (g := fun v => v) (k := 1) (kk := 1) (v := v) rfl (fun q => (by cases q)) hR hI (c_no h hx) (fun σ1 hr1 => ?_)
    refine wp_b2e (r_blockNo hx) ?_
    rw [if_pos rfl]
    exact bad σ1 hr1
end Q3
theorem so_kind : So_kind Rel := by
  intro nm nv σ y1 y2 y3 ⟨A, N, hI, hC, hR⟩ _ _ _ _
  exact ⟨1000, q_bl (v := (docOf A N (Hs A y1.toNat)).2 10 (blN (docOf A N (Hs A y1.toNat)) y2 + 1).toNat) (K := fun _ o4 v6 σ5 => b1 (fX3_kindOf σ5 o4 v6) (fun v7 => some (0, v7, σ5))) (R := fun σ3 => b1 (fX6_blockNumber 1000 σ3 y2) (fun v4 => ck (v4 + 1) (fun v5 => rd σ3 270 161 v5 (fun v6 => some (v6, σ3))))) hI hC hR (by decide) (fun hx hw σ3 p1 p2 => by
      have hb := blN_r (hI.dk (s := y1.toNat) (by omega)).1 hI.1.2.1 hw
      have := hI.1.2.1
      rw [b1_ok (q_kindOf p1 ⟨hb.1, by omega⟩)]) (fun hx hw σ3 q1 q2 => by
      have hb := blN_r q1.d hI.1.2.1 hw
      have := hI.1.2.1
      rw [b1_ok (r_blN q1 q2.1 hI.1.2.1 (by decide) hw), ck_ok (by omega) (by omega), rd_ok (by omega) (by omega), (q1.r.2.2.2.2.2.2.2.2.1 _ (by omega)).1])⟩
theorem so_level : So_level Rel := by
  intro nm nv σ y1 y2 y3 ⟨A, N, hI, hC, hR⟩ _ _ _ _
  exact ⟨1000, q_bl (v := lev (docOf A N (Hs A y1.toNat)) y1 (blN (docOf A N (Hs A y1.toNat)) y2)) (K := fun _ o4 v6 σ5 => b1 (fX3_levelIn σ5 o4 y1 v6) (fun v7 => some (0, v7, σ5))) (R := fun σ3 => b1 (fX6_blockNumber 1000 σ3 y2) (fun v4 => b1 (fX6_levelIn σ3 y1 v4) (fun v5 => some (v5, σ3)))) hI hC hR (by decide) (fun hx hw σ3 p1 p2 => by
      rw [b1_ok (q_levelIn p1 _ _)]) (fun hx hw σ3 q1 q2 => by
      have hb := blN_r q1.d hI.1.2.1 hw
      have := hI.1.2.1
      rw [b1_ok (r_blN q1 q2.1 hI.1.2.1 (by decide) hw), b1_ok (r_levelIn q1.r hx ⟨hb.1, by omega⟩)])⟩
theorem so_depth : So_depth Rel := by
  intro nm nv σ y1 y2 y3 ⟨A, N, hI, hC, hR⟩ _ _ _ _
  exact ⟨1000, q_bl (v := cnt (fun x => decide (x = -1) || brkB (docOf A N (Hs A y1.toNat)) x) (chn ((docOf A N (Hs A y1.toNat)).2 11) 161 ((docOf A N (Hs A y1.toNat)).2 11 (blN (docOf A N (Hs A y1.toNat)) y2 + 1).toNat))) (K := fun _ o4 v6 σ5 => b1 (fX3_depthOf 1000 σ5 o4 v6) (fun v7 => some (0, v7, σ5))) (R := fun σ3 => b1 (fX6_blockNumber 1000 σ3 y2) (fun v4 => ck (v4 + 1) (fun v5 => rd σ3 271 161 v5 (fun v6 => fX6_depth_L43 1000 σ3 y1 y2 1000 0 v6)))) hI hC hR (by decide) (fun hx hw σ3 p1 p2 => by
      have hb := blN_r (hI.dk (s := y1.toNat) (by omega)).1 hI.1.2.1 hw
      have := hI.1.2.1
      rw [b1_ok (q_depthOf p1 (by decide) ⟨hb.1, by omega⟩)]) (fun hx hw σ3 q1 q2 => by
      have hb := blN_r q1.d hI.1.2.1 hw
      have hN := hI.1.2.1
      have hj : (blN (docOf A N (Hs A y1.toNat)) y2 + 1).toNat < 161 := by omega
      rw [b1_ok (r_blN q1 q2.1 hI.1.2.1 (by decide) hw), ck_ok (by omega) (by omega), rd_ok (by omega) (by omega), (q1.r.2.2.2.2.2.2.2.2.1 _ hj).2]
      exact r_depth q1 hN (by decide) y1 y2 (q1.d.2.2.2.2.2.2.2.1 _ hj))⟩
