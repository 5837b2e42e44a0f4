/-! ===== questions about an element, a block ===== -/
section Q2
variable {σ A : St} {N nm nv n s : Nat} {D : Dc} {S : Int → Bool}
theorem Inv.dk (hI : Inv A N nm nv) (hs : s < 4) : DK A N (Hs A s) (docOf A N (Hs A s)) := doc_ok hI.1.2.2.2.1 hI.1.2.2.2.2.1 hI.1.2.2.2.2.2.1 ((hI.2.1 s hs).cl hI.1.2.1) hI.1.2.1
theorem TS.nd {T : St} (h : TS T N) : ((OL T N).filter S).Nodup := by
  have := List.Pairwise.filter S h.1
  exact List.Pairwise.imp (fun {a b} q => by intro e; subst e; omega) this
theorem ids_nd : (ids N).Nodup := by
  have key : ∀ k i : Nat, (seg (fun j => (j : Int)) i k).Nodup := by
    intro k
    induction k with
    | zero => intro i; exact List.Pairwise.nil
    | succ k ih =>
      intro i
      show ((i : Int) :: seg (fun j => (j : Int)) (i + 1) k).Nodup
      rw [List.nodup_cons]
      refine ⟨fun q => ?_, ih (i + 1)⟩
      obtain ⟨j, h1, h2, h3⟩ := seg_mem.mp q
      omega
  exact key N 0
theorem DK.act (h : DK A N S D) (hI : In1 A N) (hc : clo A N S) {x : Int} (hx : x ∈ (OL A N).filter S) : (0 ≤ x ∧ x < (N : Int)) ∧ (mkE A N x = true → x ∈ D.1) ∧ ((A 11 x.toNat = 2 ∨ A 11 x.toNat = 3 ∨ A 11 x.toNat = 4 ∨ A 11 x.toNat = 7) → A 12 x.toNat ∈ D.1) := by
  have hx2 := hx
  rw [List.mem_filter, hI.2.2.2.2.1.2] at hx2
  refine ⟨hx2.1, fun q => (h.2.1 x).mpr ⟨hx, q⟩, fun q => ?_⟩
  have c1 : S (A 12 x.toNat) = true := by
    have c := (hc x.toNat (by omega) (by rw [Int.toNat_of_nonneg hx2.1.1]; exact hx2.2)).2.1
    refine c ?_
    rcases q with q | q | q | q
    · exact Or.inl q
    · exact Or.inr (Or.inl q)
    · exact Or.inr (Or.inr (Or.inl q))
    · exact Or.inr (Or.inr (Or.inr (Or.inl q)))
  have v := hI.2.2.2.1 x.toNat (by omega)
  have w : 0 ≤ A 12 x.toNat ∧ A 12 x.toNat < (x.toNat : Int) ∧ mkE A N (A 12 x.toNat) = true := by
    rcases q with q | q | q | q
    · exact v.2.2.2.2.2.2.1 (Or.inl q)
    · exact v.2.2.2.2.2.2.1 (Or.inr q)
    · have := v.2.2.2.2.2.2.2.1 (Or.inl q); exact ⟨this.1, this.2.1, this.2.2.1⟩
    · have := v.2.2.2.2.2.2.2.1 (Or.inr q); exact ⟨this.1, this.2.1, this.2.2.1⟩
  refine (h.2.1 _).mpr ⟨?_, w.2.2⟩
  rw [List.mem_filter, hI.2.2.2.2.1.2]
  exact ⟨⟨w.1, by clear v; omega⟩, c1⟩
theorem DK.open_in (h : DK A N S D) {x : Int} (hx : openB A N D x = true) : x ∈ (OL A N).filter S := by
  unfold openB at hx
  rw [Bool.and_eq_true, Bool.or_eq_true, decide_eq_true_iff, decide_eq_true_iff, Bool.and_eq_true, decide_eq_true_iff] at hx
  obtain ⟨h1, h2⟩ := hx
  have h1' : 0 ≤ x ∧ x < 160 := h1
  have e : ((x.toNat : Nat) : Int) = x := Int.toNat_of_nonneg h1'.1
  rcases h2 with q | q
  · by_cases z : x ∈ D.1
    · exact ((h.2.1 x).mp z).1
    · have := (h.1.2.2.2.1 x.toNat (by rw [e]; exact z)).1
      omega
  · have := h.2.2.1 x.toNat q.1
    rw [e] at this; exact this
theorem r_openN (h : isD σ A N S) (hr : RT A σ N) (hI : In1 A N) (hc : clo A N S) (hn : 200 ≤ n) (y : Int) : fX6_open_L27 n σ y n 0 0 = some (cnt (openB A N (docOf A N S)) (ids N), σ) := by
  have hL : ((OL A N).filter S).length ≤ N := by
    have h2 : ((OL A N).filter S).length ≤ (OL A N).length := List.length_filter_le _ _
    have h3 : (OL A N).length = N := seg_len _ _ _
    omega
  have hN := hI.2.1
  have hg : ∀ i, i < ((OL A N).filter S).length → σ 261 i ∈ (OL A N).filter S := by
    intro i hi
    have e := h.2.2.1
    have : σ 261 i ∈ seg (σ 261) 0 ((OL A N).filter S).length := seg_mem.mpr ⟨i, Nat.zero_le _, by omega, rfl⟩
    rw [e] at this; exact this
  have := r_cnt (n := n) (bot := fun _ _ => none) (F := fX6_open_L27s n σ y) (openB A N (docOf A N S)) (fun a => (a, σ)) (σ 261) ((OL A N).filter S).length 0 (by decide) (by omega)
    (fun lp s => by unfold fX6_open_L27s; rw [if_pos (by rw [h.2.2.2.1]; omega)])
    (fun lp s i hi h1 h2 => by
      have ha := h.2.1.act hI hc (hg i hi)
      unfold fX6_open_L27s
      rw [if_neg (by rw [h.2.2.2.1]; omega), rd_ok (by omega) (by omega), Int.toNat_natCast, b1_ok (r_isOpenE h.1 hr h.2.1.1 hN ha.1 ha.2.1 (fun q => ha.2.2 (Or.inl q))), ck_ok (by omega) (by omega), ck_ok (by omega) (by omega), ck_ok (by omega) (by omega), ck_ok (by omega) (by omega), if_b2i]
      exact lp_b lp _ s _)
  rw [h.2.2.1, Int.zero_add] at this
  refine Eq.trans this ?_
  rw [cnt_same hI.2.2.2.2.1.nd ids_nd (fun x hx => ⟨fun z => ids_mem.mpr (h.2.1.act hI hc z).1, fun _ => h.2.1.open_in hx⟩)]
theorem so_open : So_open Rel := by
  intro nm nv σ y1 y2 y3 ⟨A, N, hI, hC, hR⟩ _ _ _ _
  exact ⟨1000, q_plain (K := fun _ o4 σ3 => fX3_countOpen 1000 σ3 o4) (R := fun σ3 => fX6_open_L27 1000 σ3 y1 1000 0 0) hI hC hR (by decide) (fun hx σ3 p1 p2 => q_countOpen p1 p2.1 (by decide)) (fun hx σ3 q1 q2 => r_openN q1 q2.1 hI.1 ((hI.2.1 _ (by omega)).cl hI.1.2.1) (by decide) y1)⟩
/-- the k-th seen element -/
def elAt (D : Dc) (w : Int) : Int := runL (atS (seenB D) w) (fun _ => -1) 0 D.1
def isEl (D : Dc) (w : Int) : Prop := 0 ≤ w ∧ w < cnt (seenB D) D.1
theorem elAt_in {w : Int} (h : isEl D w) : elAt D w ∈ D.1 ∧ seenB D (elAt D w) = true := at_in D.1 0 w (fun _ => -1) h.1 (by have := h.2; omega)
theorem elAt_no {w : Int} (h : ¬ isEl D w) : elAt D w = -1 := at_out D.1 0 w (-1) (by unfold isEl at h; omega)
theorem c_elementAt {p : Nat} {w : Int} (h : isP σ p D) (hd : DI A N D) (hN : N ≤ 160) (hn : 161 ≤ n) (hw : isEl D w) : fX5_elementAt n σ p w = some (0, elAt D w, σ) := by
  have := (hd.row hN (elAt_in hw).1).1
  have h0 : 0 ≤ elAt D w := this.1
  unfold fX5_elementAt
  rw [b1_ok (q_seenAt h hn w)]
  show (if elAt D w ≠ -1 then some (0, elAt D w, σ) else some (1, 0, σ)) = _
  rw [if_pos (by omega)]
theorem c_elementNo {p : Nat} {w : Int} (h : isP σ p D) (hn : 161 ≤ n) (hw : ¬ isEl D w) : fX5_elementAt n σ p w = some (1, 0, σ) := by
  unfold fX5_elementAt
  rw [b1_ok (q_seenAt h hn w)]
  show (if elAt D w ≠ -1 then some (0, elAt D w, σ) else some (1, 0, σ)) = _
  rw [if_neg (by rw [elAt_no hw]; exact fun q => q rfl)]
theorem r_isPlace {x w : Int} (hI : Inv A N nm nv) (h : Re σ A N nm nv) (hx : 0 ≤ x ∧ x < 4) (hn : 700 ≤ n) : wp (fX6_isPlace n σ x w) (fun r => (r.1 = 0 ↔ ¬ isEl (docOf A N (Hs A x.toNat)) w) ∧ isD r.2 A N (Hs A x.toNat) ∧ Re r.2 A N nm nv ∧ FrF σ r.2) := by
  unfold fX6_isPlace
  refine wp_b1e (r_isSite x) ?_
  rw [decide_eq_true hx, if_pos (by decide)]
  have hs := r_site hI.1 (hI.2.1 x.toNat (by omega)) h (by omega) hn
  rw [Int.toNat_of_nonneg hx.1] at hs
  refine wp_b1 hs (fun σ3 q => ?_)
  have h1 := cnt_le (seenB (docOf A N (Hs A x.toNat))) (docOf A N (Hs A x.toNat)).1
  have h2 := q.1.r.2.1
  refine wp_b1e (r_seen q.1.r q.1.d hI.1.2.1 (by omega)) (wp_ck (by omega) (by omega) (wp_b1e (r_isIn _ _ _) (wp_some ⟨?_, q⟩)))
  rw [b2i_eq, decide_eq_false_iff_not]
  unfold isEl
  omega
theorem r_placeNo {x w : Int} (hx : ¬ (0 ≤ x ∧ x < 4)) : fX6_isPlace n σ x w = some (0, σ) := by
  unfold fX6_isPlace
  rw [b1_ok (r_isSite x), decide_eq_false hx, if_neg (by decide)]
/-- a question about the element at a place -/
theorem q_el {x w v : Int} {K : Nat → Nat → Int → St → Option (Nat × Int × St)} {R : St → Option (Int × St)} (hI : Inv A N nm nv) (h : Cl σ A N nm nv) (hR : Re σ A N nm nv) (hn : 700 ≤ n)
    (hK : (0 ≤ x ∧ x < 4) → isEl (docOf A N (Hs A x.toNat)) w → ∀ σ3, isP σ3 (20 + 40 * x.toNat + 10) (docOf A N (Hs A x.toNat)) → Cl σ3 A N nm nv → K (20 + 40 * x.toNat) (20 + 40 * x.toNat + 10) (elAt (docOf A N (Hs A x.toNat)) w) σ3 = some (0, v, σ3))
    (hR2 : (0 ≤ x ∧ x < 4) → isEl (docOf A N (Hs A x.toNat)) w → ∀ σ3, isD σ3 A N (Hs A x.toNat) → Re σ3 A N nm nv → R σ3 = some (v, σ3)) :
    ∃ (k v : Int) (σ1 σ2 : St), hw (some 1) none none (fun v => v) (xw 0 (fX5_siteAt σ x) (fun o2 σ1 => b2 (fX5_paperOf n σ1 o2) (fun o4 σ3 => xw 0 (fX5_elementAt n σ3 o4 w) (fun v6 σ5 => K o2 o4 v6 σ5)))) = some (k, σ1) ∧ b2 (fX6_isPlace n σ1 x w) (fun v2 σ1 => if v2 = 0 then pf σ1 230 0 1 (fun σ3 => if σ3 230 0 ≤ 0 then R σ3 else some (0, σ3)) else pf σ1 230 0 0 (fun σ3 => if σ3 230 0 ≤ 0 then R σ3 else some (0, σ3))) = some (v, σ2) ∧ fX6_thrown σ2 = some k ∧ (k = 0 → σ2 290 0 = v) ∧ Rel nm nv σ2 := by
  have bad : ∀ σ1, Re σ1 A N nm nv → wp (pf σ1 230 0 1 (fun σ3 => if σ3 230 0 ≤ 0 then R σ3 else some (0, σ3))) (OkR σ1 A N nm nv 1 v) := by
    intro σ1 hr
    refine wp_pf ?_
    rw [if_neg (by rw [st_row, if_pos rfl]; decide)]
    exact wp_some (r_no hr (by decide))
  by_cases hx : 0 ≤ x ∧ x < 4
  · by_cases hw : isEl (docOf A N (Hs A x.toNat)) w
    · refine So_fin (F := fun σ1 => b2 (fX6_isPlace n σ1 x w) (fun v2 σ1 => if v2 = 0 then pf σ1 230 0 1 (fun σ3 => if σ3 230 0 ≤ 0 then R σ3 else some (0, σ3)) else pf σ1 230 0 0 (fun σ3 => if σ3 230 0 ≤ 0 then R σ3 else some (0, σ3)))) (g := fun v => v) (k := 0) (kk := 0) (v := v) rfl (fun _ => rfl) hR hI (c_open hI.1 h hx (by omega) (fun σ3 p1 p2 p3 => ?_)) (fun σ1 hr1 => ?_)
      · rw [xw_ok (c_elementAt p1 (hI.dk (by omega)).1 hI.1.2.1 (by omega) hw), hK hx hw σ3 p1 p2]
        exact wp_some ⟨rfl, fun _ => rfl, p2, p3⟩
      · refine wp_b2 (r_isPlace hI hr1 hx hn) (fun z σ3 q => ?_)
        obtain ⟨q1, q2, q3, q4⟩ := q
        rw [if_neg (fun z0 => (q1.mp z0) hw)]
        refine wp_pf ?_
        have f0 : FrS σ3 (st σ3 230 0 0) := FrS.up0 FrS.rf
        have e0 : st σ3 230 0 0 230 0 = 0 := by rw [st_row, if_pos rfl]
        rw [if_pos (by rw [e0]; decide)]
        have hD : isD (st σ3 230 0 0) A N (Hs A x.toNat) := by
          obtain ⟨⟨i1, i2, i3, i4, i5, i6, i7, i8, i9, i10⟩, d2, d3, d4, d5⟩ := q2
          have e : ∀ q, q ≠ 230 → st σ3 230 0 0 q = σ3 q := fun q hq => st_fn hq
          refine ⟨⟨?_, i2, ?_, ?_, ?_, ?_, ?_, ?_, ?_, ?_⟩, d2, ?_, ?_, ?_⟩
          · have i1' : σ3 230 32 = _ := i1
            rw [st_row, if_neg (by decide)]; exact i1'
          · rw [e 264 (by decide)]; exact i3
          · rw [e 265 (by decide)]; exact i4
          · rw [e 266 (by decide)]; exact i5
          · rw [e 267 (by decide), e 268 (by decide)]; exact i6
          · rw [e 269 (by decide)]; exact i7
          · rw [e 262 (by decide)]; exact i8
          · rw [e 270 (by decide), e 271 (by decide)]; exact i9
          · rw [e 272 (by decide)]; exact i10
          · rw [e 261 (by decide)]; exact d3
          · have d4' : σ3 230 29 = _ := d4
            rw [st_row, if_neg (by decide)]; exact d4'
          · rw [e 262 (by decide)]; exact d5
        rw [hR2 hx hw _ hD (q3.fr f0)]
        exact wp_some ⟨e0, fun _ => rfl, q3.fr f0, (FrR.ofF q4).tr f0.R⟩
    · refine So_fin (F := fun σ1 => b2 (fX6_isPlace n σ1 x w) (fun v2 σ1 => if v2 = 0 then pf σ1 230 0 1 (fun σ3 => if σ3 230 0 ≤ 0 then R σ3 else some (0, σ3)) else pf σ1 230 0 0 (fun σ3 => if σ3 230 0 ≤ 0 then R σ3 else some (0, σ3)))) (g := fun v => v) (k := 1) (kk := 1) (v := v) rfl (fun q => (by cases q)) hR hI (c_open hI.1 h hx (by omega) (fun σ3 p1 p2 p3 => ?_)) (fun σ1 hr1 => ?_)
      · rw [xw_x (c_elementNo p1 (by omega) hw)]
        exact wp_some ⟨rfl, fun q => (by cases q), p2, p3⟩
      · refine wp_b2 (r_isPlace hI hr1 hx hn) (fun z σ3 q => ?_)
        obtain ⟨q1, q2, q3, q4⟩ := q
        rw [if_pos (q1.mpr hw)]
        exact wp_mono (bad σ3 q3) (fun r y => ⟨y.1, y.2.1, y.2.2.1, (FrR.ofF q4).tr y.2.2.2⟩)
  · refine So_fin (F := fun σ1 => b2 (fX6_isPlace n σ1 x w) (fun v2 σ1 => if v2 = 0 then pf σ1 230 0 1 (fun σ3 => if σ3 230 0 ≤ 0 then R σ3 else some (0, σ3)) else pf σ1 230 0 0 (fun σ3 => if σ3 230 0 ≤ 0 then R σ3 else some (0, σ3)))) (g := fun v => v) (k := 1) (kk := 1) (v := v) rfl (fun q => (by cases q)) hR hI (c_no h hx) (fun σ1 hr1 => ?_)
    refine wp_b2e (r_placeNo hx) ?_
    rw [if_pos rfl]
    exact bad σ1 hr1
end Q2
theorem so_element : So_element Rel := by
  intro nm nv σ y1 y2 y3 ⟨A, N, hI, hC, hR⟩ _ _ _ _
  exact ⟨1000, q_el (v := elAt (docOf A N (Hs A y1.toNat)) y2) (K := fun _ _ v6 σ5 => some (0, v6, σ5)) (R := fun σ3 => b1 (fX6_seenAt 1000 σ3 y2) (fun v4 => some (v4, σ3))) hI hC hR (by decide) (fun hx hw σ3 p1 p2 => rfl) (fun hx hw σ3 q1 q2 => by rw [b1_ok (r_seenAt q1.r q1.d hI.1.2.1 (by decide) y2)]; rfl)⟩
