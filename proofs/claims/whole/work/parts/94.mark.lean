/-! ===== mark, comment ===== -/
section MARK
variable {σ τ A : St} {N nm nv n s : Nat} {D : Dc} {S : Int → Bool} {k x y z p : Int}
def selLo (A : St) (N s : Nat) : Int := imin (thr (docOf A N (Hs A s)) (A 248 s)) (thr (docOf A N (Hs A s)) (A 249 s))
def selHi (A : St) (N s : Nat) : Int := imax (thr (docOf A N (Hs A s)) (A 248 s)) (thr (docOf A N (Hs A s)) (A 249 s))
theorem sel_r (hI : Inv A N nm nv) (hs : s < 4) : 0 ≤ selLo A N s ∧ selLo A N s ≤ selHi A N s ∧ selHi A N s ≤ cnt (seenB (docOf A N (Hs A s))) (docOf A N (Hs A s)).1 ∧ cnt (seenB (docOf A N (Hs A s))) (docOf A N (Hs A s)).1 ≤ (N : Int) ∧ (selLo A N s = selHi A N s ↔ thr (docOf A N (Hs A s)) (A 248 s) = thr (docOf A N (Hs A s)) (A 249 s)) := by
  have h1 := thr_r (D := docOf A N (Hs A s)) (e := A 248 s)
  have h2 := thr_r (D := docOf A N (Hs A s)) (e := A 249 s)
  have h3 := (cnt_le (seenB (docOf A N (Hs A s))) (docOf A N (Hs A s)).1).2
  have h4 := (hI.dk hs).2.2.2.2
  unfold selLo selHi imin imax
  split <;> split <;> omega
theorem r_sel (h : isR σ N (docOf A N (Hs A s))) (hI : Inv A N nm nv) (hs : s < 4) (hn : 200 ≤ n) (e8 : σ 248 s = A 248 s) (e9 : σ 249 s = A 249 s) : fX6_selected n σ (s : Int) = some (selHi A N s - selLo A N s) ∧ fX6_lower n σ (s : Int) = some (selLo A N s) := by
  have dk := hI.dk hs
  have hN := hI.1.2.1
  have h1 := thr_r (D := docOf A N (Hs A s)) (e := A 248 s)
  have h2 := thr_r (D := docOf A N (Hs A s)) (e := A 249 s)
  have h3 := (cnt_le (seenB (docOf A N (Hs A s))) (docOf A N (Hs A s)).1).2
  have h4 := dk.2.2.2.2
  have p8 : fX6_placeOf n σ (A 248 s) = some (thr (docOf A N (Hs A s)) (A 248 s)) := r_placeOf h dk.1 hN hn (hI.e8 hs)
  have p9 : fX6_placeOf n σ (A 249 s) = some (thr (docOf A N (Hs A s)) (A 249 s)) := r_placeOf h dk.1 hN hn (hI.e9 hs)
  unfold fX6_selected fX6_lower
  rw [rd_ok (by omega) (by omega), Int.toNat_natCast, e8, b1_ok p8, rd_ok (by omega) (by omega), Int.toNat_natCast, e9, b1_ok p9, rd_ok (by omega) (by omega), Int.toNat_natCast, e8, b1_ok p8, rd_ok (by omega) (by omega), Int.toNat_natCast, e9, b1_ok p9]
  unfold selLo selHi imin imax
  constructor
  · rw [ck_ok (by omega) (by omega)]
    by_cases g : 0 ≤ thr (docOf A N (Hs A s)) (A 248 s) - thr (docOf A N (Hs A s)) (A 249 s)
    · rw [if_pos g, if_neg (by omega)]
      by_cases g2 : thr (docOf A N (Hs A s)) (A 249 s) < thr (docOf A N (Hs A s)) (A 248 s)
      · rw [if_pos g2]
      · rw [if_neg g2]; congr 1; omega
    · rw [if_neg g, ck_ok (by omega) (by omega), if_pos (by omega), if_neg (by omega)]
      congr 1; omega
  · by_cases g : thr (docOf A N (Hs A s)) (A 249 s) ≤ thr (docOf A N (Hs A s)) (A 248 s)
    · rw [if_pos g]
      by_cases g2 : thr (docOf A N (Hs A s)) (A 249 s) < thr (docOf A N (Hs A s)) (A 248 s)
      · rw [if_pos g2]
      · rw [if_neg g2]; congr 1; omega
    · rw [if_neg g, if_neg (by omega)]
def okS (A : St) (N s : Nat) : Prop := selLo A N s ≠ selHi A N s ∧ N < 160
def sx (A : St) (N s : Nat) : Int := elAt (docOf A N (Hs A s)) (selLo A N s)
def sy (A : St) (N s : Nat) : Int := elAt (docOf A N (Hs A s)) (selHi A N s - 1)
theorem sel_in (hI : Inv A N nm nv) (hs : s < 4) {w : Int} (h1 : selLo A N s ≤ w) (h2 : w < selHi A N s) : isEl (docOf A N (Hs A s)) w := by
  have h := sel_r hI hs
  exact ⟨by omega, by omega⟩
theorem el_ok (hI : Inv A N nm nv) (hs : s < 4) {w : Int} (h : isEl (docOf A N (Hs A s)) w) : Hs A s (elAt (docOf A N (Hs A s)) w) = true ∧ mkE A N (elAt (docOf A N (Hs A s)) w) = true := by
  have := ((hI.dk hs).2.1 _).mp (elAt_in h).1
  exact ⟨(List.mem_filter.mp this.1).2, this.2⟩
theorem c_onSel (hI : Inv A N nm nv) (hC : Cl σ A N nm nv) (hP : isP σ (20 + 40 * s + 10) (docOf A N (Hs A s))) (hs : s < 4) (hn : 200 ≤ n) (k z p : Int) :
    (okS A N s → okM A N s k (sx A N s) (sy A N s) z p → wp (fX5_writeOnSelection n σ (20 + 40 * s) (20 + 40 * s + 10) k z p) (fun r => r.1 = 0 ∧ r.2.1 = (N : Int) ∧ Cl r.2.2 (mkA A N s k (sx A N s) (sy A N s) z p) (N + 1) nm nv ∧ FrC σ r.2.2)) ∧ (¬ okS A N s → fX5_writeOnSelection n σ (20 + 40 * s) (20 + 40 * s + 10) k z p = some (3, 0, σ)) := by
  have w := hC.site hs
  have hr := sel_r hI hs
  have hN := hI.1.2.1
  have e8 : fX3_seenThrough n σ (20 + 40 * s + 10) (σ (20 + 40 * s) 8) = some (thr (docOf A N (Hs A s)) (A 248 s)) := by rw [w.2.2.2.2.1]; exact q_seenThrough hP (by omega) _
  have e9 : fX3_seenThrough n σ (20 + 40 * s + 10) (σ (20 + 40 * s) 9) = some (thr (docOf A N (Hs A s)) (A 249 s)) := by rw [w.2.2.2.2.2.1]; exact q_seenThrough hP (by omega) _
  constructor
  · rintro ⟨hl, hN2⟩ hm
    unfold fX5_writeOnSelection
    refine wp_b1e e8 (wp_b1e e9 ?_)
    rw [if_pos (fun g => hl (hr.2.2.2.2.mpr g)), xw_ok (by rw [c_room hC, if_pos (by omega)])]
    refine wp_vl ?_
    show wp (b1 (fX3_seenAt n σ (20 + 40 * s + 10) (selLo A N s)) _) _
    refine wp_b1e (q_seenAt hP (by omega) _) (wp_vl ?_)
    show wp (ck (selHi A N s - 1) _) _
    refine wp_ck (by omega) (by omega) (wp_b1e (q_seenAt hP (by omega) _) ?_)
    show wp (b2 (fX5_make n σ (20 + 40 * s) k (sx A N s) (sy A N s) z p) _) _
    refine wp_b2 (c_make hI hC hm hn) (fun v σ5 q => wp_some ⟨rfl, q.1, q.2.1, q.2.2.1⟩)
  · intro hno
    unfold fX5_writeOnSelection
    rw [b1_ok e8, b1_ok e9]
    by_cases hl : thr (docOf A N (Hs A s)) (A 248 s) = thr (docOf A N (Hs A s)) (A 249 s)
    · rw [if_neg (fun g => g hl)]
    · have hN2 : ¬ N < 160 := fun g => hno ⟨fun g2 => hl (hr.2.2.2.2.mp g2), g⟩
      rw [if_pos hl, xw_x (c := 2) (by rw [c_room hC, if_neg (by omega)])]
theorem r_selAt (h : isR σ N (docOf A N (Hs A s))) (hI : Inv A N nm nv) (hs : s < 4) (hn : 200 ≤ n) (w : Int) : fX6_seenAt n σ w = some (elAt (docOf A N (Hs A s)) w) := r_seenAt h (hI.dk hs).1 hI.1.2.1 (by omega) w
theorem sel_m4 (hI : Inv A N nm nv) (hs : s < 4) (h : okS A N s) {z p : Int} (hz : 0 ≤ z ∧ z < 2) (hp : isB p) : okM A N s 4 (sx A N s) (sy A N s) z p := by
  have hr := sel_r hI hs
  obtain ⟨h1, h2⟩ := h
  refine ⟨⟨h2, hs⟩, by omega, hp, by omega, fun g => ?_, fun g => ?_, fun _ => ⟨el_ok hI hs (sel_in hI hs (by omega) (by omega)), el_ok hI hs (sel_in hI hs (by omega) (by omega))⟩, fun _ => hz, fun g => ?_, fun g => ?_, fun g => ?_, fun g => ?_, fun g => ?_⟩ <;> (exfalso; omega)
theorem sel_m7 (hI : Inv A N nm nv) (hs : s < 4) (h : okS A N s) (hz : A 8 9 < 20) : okM A N s 7 (sx A N s) (sy A N s) (A 8 9) 0 := by
  have hr := sel_r hI hs
  have h9 := hI.1.2.2.1
  obtain ⟨h1, h2⟩ := h
  refine ⟨⟨h2, hs⟩, by omega, Or.inl rfl, by omega, fun g => ?_, fun g => ?_, fun _ => ⟨el_ok hI hs (sel_in hI hs (by omega) (by omega)), el_ok hI hs (sel_in hI hs (by omega) (by omega))⟩, fun g => ?_, fun g => ⟨by omega, hz⟩, fun g => ?_, fun g => ?_, fun g => ?_, fun g => ?_⟩ <;> (exfalso; omega)
theorem c_mark {v : Int} : fX5_checkMark σ v = if v = 0 ∨ v = 1 then some (0, 0, σ) else some (2, 0, σ) := by
  unfold fX5_checkMark
  by_cases q : v = 0
  · rw [if_pos q, if_pos (Or.inl q)]
  · rw [if_neg q]
    by_cases q1 : v = 1
    · rw [if_pos q1, if_pos (Or.inr q1)]
    · rw [if_neg q1, if_neg (by omega)]
theorem so_mark : So_mark Rel := by
  intro nm nv σ y1 y2 y3 ⟨A, N, hI, hC, hR⟩ _ _ _ _
  have hp := nz_b y3
  have hN := hI.1.2.1
  generalize nz y3 = p at hp
  by_cases hx : 0 ≤ y1 ∧ y1 < 4
  · have hs : y1.toNat < 4 := by omega
    by_cases hl : y2 = 0 ∨ y2 = 1
    · have cls : ∀ {Q : Nat × Int × St → Prop}, (∀ σ3, isP σ3 (20 + 40 * y1.toNat + 10) (docOf A N (Hs A y1.toNat)) → Cl σ3 A N nm nv → FrC σ σ3 → wp (xw 0 (fX5_writeOnSelection 1000 σ3 (20 + 40 * y1.toNat) (20 + 40 * y1.toNat + 10) 4 y2 p) (fun v6 σ5 => some (0, v6, σ5))) Q) → wp (fX5_mark 1000 σ y1 y2 p) Q := by
        intro Q hK
        unfold fX5_mark
        rw [xw_ok (c_siteAt hx), xw_ok (by rw [c_mark, if_pos hl])]
        refine wp_b2 (c_paperOf hI.1 hC hs (by decide)) (fun o s q => ?_)
        obtain ⟨q1, q2, q3, q4⟩ := q
        have q1' : o = 20 + 40 * y1.toNat + 10 := q1
        subst q1'
        exact hK s q2 q3 q4
      have ref : ∀ σ1, Re σ1 A N nm nv → wp (fX6_mark 1000 σ1 y1 y2 p) (fun r => (okS A N y1.toNat → r.2 230 0 = 0 ∧ r.1 = (N : Int) ∧ Re r.2 (mkA A N y1.toNat 4 (sx A N y1.toNat) (sy A N y1.toNat) y2 p) (N + 1) nm nv) ∧ (¬ okS A N y1.toNat → r.2 230 0 = 3 ∧ Re r.2 A N nm nv) ∧ FrR σ1 r.2) := by
        intro σ1 hr1
        have hsr := sel_r hI hs
        unfold fX6_mark
        refine wp_b1e (r_isSite y1) ?_
        rw [decide_eq_true hx, if_pos (by decide)]
        refine wp_b1e (r_isIn _ _ _) ?_
        rw [decide_eq_true (by omega), if_neg (by decide)]
        unfold fX6_mark_J26
        refine wp_pf ?_
        rw [if_pos (by rw [st_row, if_pos rfl]; decide)]
        have hsi := r_site hI.1 (hI.2.1 y1.toNat hs) (hr1.fr (FrS.up0 (v := 0) FrS.rf)) hs (n := 1000) (by decide)
        rw [Int.toNat_of_nonneg hx.1] at hsi
        have f0 := (FrS.up0 (v := 0) (FrS.rf (σ := σ1))).R
        refine wp_b1 hsi (fun σ3 q => ?_)
        obtain ⟨q1, q2, q3⟩ := q
        have f3 : FrR σ1 σ3 := f0.tr (FrR.ofF q3)
        have e8 := q2.atS hs (r := 248) (by decide) (by decide)
        have e9 := q2.atS hs (r := 249) (by decide) (by decide)
        have hse := r_sel (n := 1000) q1.r hI hs (by decide) e8 e9
        rw [Int.toNat_of_nonneg hx.1] at hse
        refine wp_b1e hse.1 ?_
        have bad : ¬ okS A N y1.toNat → wp (fX6_mark_J66 1000 σ3 y1 y2 p (selHi A N y1.toNat - selLo A N y1.toNat)) (fun r => (okS A N y1.toNat → r.2 230 0 = 0 ∧ r.1 = (N : Int) ∧ Re r.2 (mkA A N y1.toNat 4 (sx A N y1.toNat) (sy A N y1.toNat) y2 p) (N + 1) nm nv) ∧ (¬ okS A N y1.toNat → r.2 230 0 = 3 ∧ Re r.2 A N nm nv) ∧ FrR σ1 r.2) := by
          intro hno
          unfold fX6_mark_J66 fX6_mark_J71
          refine wp_pf ?_
          rw [if_neg (by rw [st_row, if_pos rfl]; decide)]
          exact wp_some ⟨fun g => absurd g hno, fun _ => ⟨by show st σ3 230 0 3 230 0 = 3; rw [st_row, if_pos rfl], q2.fr (FrS.up0 FrS.rf)⟩, f3.upd (by decide)⟩
        by_cases g : selLo A N y1.toNat = selHi A N y1.toNat
        · rw [if_pos (by omega)]; exact bad (fun w => w.1 g)
        rw [if_neg (by omega), q2.1.1]
        by_cases hN2 : N = 160
        · rw [if_neg (by omega)]; exact bad (fun g => by have := g.2; omega)
        rw [if_pos (by omega)]
        have ok : okS A N y1.toNat := ⟨g, by have := hI.1.2.1; omega⟩
        unfold fX6_mark_J71
        refine wp_pf ?_
        have q5 : Re (st σ3 230 0 0) A N nm nv := q2.fr (FrS.up0 FrS.rf)
        have q4 := q1.fr0 (v := 0)
        have f4 : FrR σ1 (st σ3 230 0 0) := f3.upd (by decide)
        have e0 : st σ3 230 0 0 230 0 = 0 := by rw [st_row, if_pos rfl]
        generalize st σ3 230 0 0 = σ4 at q5 q4 f4 e0
        rw [if_pos (by omega)]
        have e8 := q5.atS hs (r := 248) (by decide) (by decide)
        have e9 := q5.atS hs (r := 249) (by decide) (by decide)
        have hse := r_sel (n := 1000) q4.r hI hs (by decide) e8 e9
        rw [Int.toNat_of_nonneg hx.1] at hse
        refine wp_b1e hse.2 (wp_b1e (r_selAt q4.r hI hs (by decide) _) (wp_b1e hse.2 (wp_ck (by omega) (by omega) (wp_ck (by omega) (by omega) ?_))))
        rw [show selLo A N y1.toNat + (selHi A N y1.toNat - selLo A N y1.toNat) - 1 = selHi A N y1.toNat - 1 by omega]
        refine wp_b1e (r_selAt q4.r hI hs (by decide) _) ?_
        have fin : ∀ t : Int, isB t → (t = 1 ↔ p ≠ 0) → wp (fX6_mark_J121 1000 σ4 y1 y2 p t y2 (sy A N y1.toNat) (sx A N y1.toNat) 4 y1) (fun r => (okS A N y1.toNat → r.2 230 0 = 0 ∧ r.1 = (N : Int) ∧ Re r.2 (mkA A N y1.toNat 4 (sx A N y1.toNat) (sy A N y1.toNat) y2 p) (N + 1) nm nv) ∧ (¬ okS A N y1.toNat → r.2 230 0 = 3 ∧ Re r.2 A N nm nv) ∧ FrR σ1 r.2) := by
          intro t ht htp
          unfold fX6_mark_J121
          have hm := sel_m4 hI hs ok (z := y2) (p := p) (by omega) hp
          have hmk := r_make' (σ := σ4) (x3 := sx A N y1.toNat) (x4 := sy A N y1.toNat) (x5 := y2) (x6 := t) (x7 := 0) hI hm q5 (by decide) (Or.inl rfl) ⟨fun _ => rfl, fun g => absurd g (by decide), fun g => absurd g (by omega), fun g => absurd g (by omega), fun _ => ⟨rfl, rfl, htp⟩, fun g => absurd g (by decide), fun g => absurd g (by decide), fun g => absurd g (by decide)⟩
          rw [Int.toNat_of_nonneg hx.1] at hmk
          refine wp_b2 hmk (fun v σ5 q => wp_some ⟨fun _ => ⟨?_, q.1, q.2.1⟩, fun g => absurd ok g, f4.tr (FrM.R q.2.2)⟩)
          exact (q.2.2 230 0 (by omega) (by omega)).trans e0
        by_cases gp : p = 0
        · rw [if_pos gp]; exact fin 0 (Or.inl rfl) (by omega)
        · rw [if_neg gp]; exact fin 1 (Or.inr rfl) (by omega)
      by_cases ok : okS A N y1.toNat
      · have hm := sel_m4 hI hs ok (z := y2) (p := p) (by omega) hp
        refine ⟨1000, So_fin (F := fun σ1 => fX6_mark 1000 σ1 y1 y2 p) (g := fun v => v) (k := 0) (kk := 0) (v := (N : Int)) rfl (fun _ => rfl) hR (hI.make hm) (cls (fun σ3 p1 p2 p3 => ?_)) (fun σ1 hr1 => ?_)⟩
        · obtain ⟨⟨c, v, τ⟩, e, e1, e2, e3, e4⟩ := (c_onSel (n := 1000) hI p2 p1 hs (by decide) 4 y2 p).1 ok hm
          have e1' : c = 0 := e1
          subst e1'
          rw [xw_ok e]
          exact wp_some ⟨rfl, fun _ => e2, e3, p3.tr e4⟩
        · exact wp_mono (ref σ1 hr1) (fun r q => ⟨(q.1 ok).1, fun _ => (q.1 ok).2.1, (q.1 ok).2.2, q.2.2⟩)
      · refine ⟨1000, So_fin (F := fun σ1 => fX6_mark 1000 σ1 y1 y2 p) (g := fun v => v) (k := 3) (kk := 3) (v := 0) rfl (fun q => (by cases q)) hR hI (cls (fun σ3 p1 p2 p3 => ?_)) (fun σ1 hr1 => ?_)⟩
        · rw [xw_x (c := 2) ((c_onSel (n := 1000) hI p2 p1 hs (by decide) 4 y2 p).2 ok)]
          exact wp_some ⟨rfl, fun q => (by cases q), p2, p3⟩
        · exact wp_mono (ref σ1 hr1) (fun r q => ⟨(q.2.1 ok).1, fun q => (by cases q), (q.2.1 ok).2, q.2.2⟩)
    · refine ⟨1000, So_fin (F := fun σ1 => fX6_mark 1000 σ1 y1 y2 p) (g := fun v => v) (k := 2) (kk := 2) (v := 0) rfl (fun q => (by cases q)) hR hI ?_ (fun σ1 hr1 => ?_)⟩
      · unfold fX5_mark
        rw [xw_ok (c_siteAt hx), xw_x (c := 1) (by rw [c_mark, if_neg hl])]
        exact wp_some ⟨rfl, fun q => (by cases q), hC, FrC.rf⟩
      · unfold fX6_mark
        refine wp_b1e (r_isSite y1) ?_
        rw [decide_eq_true hx, if_pos (by decide)]
        refine wp_b1e (r_isIn _ _ _) ?_
        rw [decide_eq_false (by omega), if_pos (by rfl)]
        unfold fX6_mark_J26
        refine wp_pf ?_
        rw [if_neg (by rw [st_row, if_pos rfl]; decide)]
        exact wp_some (r_no hr1 (by decide))
  · refine ⟨1000, So_fin (F := fun σ1 => fX6_mark 1000 σ1 y1 y2 p) (g := fun v => v) (k := 1) (kk := 1) (v := 0) rfl (fun q => (by cases q)) hR hI (by unfold fX5_mark; exact c_no hC hx) (fun σ1 hr1 => ?_)⟩
    unfold fX6_mark
    refine wp_b1e (r_isSite y1) ?_
    rw [decide_eq_false hx, if_neg (by decide)]
    unfold fX6_mark_J26
    refine wp_pf ?_
    rw [if_neg (by rw [st_row, if_pos rfl]; decide)]
    exact wp_some (r_no hr1 (by decide))
theorem Re.xc (h : Re σ A N nm nv) (hf : ∀ a b, (a ≠ 242 ∨ b ≠ N) → (a ≠ 230 ∨ b ≠ 10) → τ a b = σ a b) : ReX τ A N nm nv := by
  obtain ⟨h1, h2, h3, h4, ⟨h5, h6, h7, h8⟩, h9, h10⟩ := h
  refine ⟨⟨?_, fun a ha => ?_⟩, fun s hs => ?_, fun s t a hs ht ha => ?_, ⟨?_, fun m hm => ?_, fun m a hm ha => ?_, fun m t a hm ht ha => ?_⟩, ?_, fun v a hv ha => ?_⟩
  · rw [hf 230 1 (by omega) (by omega)]; exact h1.1
  · rw [hf 233 a (by omega) (by omega), hf 234 a (by omega) (by omega), hf 235 a (by omega) (by omega), hf 236 a (by omega) (by omega), hf 237 a (by omega) (by omega), hf 238 a (by omega) (by omega), hf 239 a (by omega) (by omega), hf 240 a (by omega) (by omega), hf 242 a (by omega) (by omega)]
    exact h1.2 a ha
  · obtain ⟨q1, q2, q3⟩ := h3 s hs
    refine ⟨fun r r1 r2 => ?_, fun a ha => ?_, fun a ha => ?_⟩
    · rw [hf r s (by omega) (by omega)]; exact q1 r r1 r2
    · rw [hf 243 _ (by omega) (by omega)]; exact q2 a ha
    · rw [hf 244 _ (by omega) (by omega)]; exact q3 a ha
  · rw [hf 251 _ (by omega) (by omega)]; exact h4 s t a hs ht ha
  · rw [hf 230 21 (by omega) (by omega)]; exact h5
  · rw [hf 254 _ (by omega) (by omega)]; exact h6 m hm
  · rw [hf 255 _ (by omega) (by omega)]; exact h7 m a hm ha
  · rw [hf 256 _ (by omega) (by omega)]; exact h8 m t a hm ht ha
  · rw [hf 230 26 (by omega) (by omega)]; exact h9
  · rw [hf 258 _ (by omega) (by omega)]; exact h10 v a hv ha
theorem so_comment : So_comment Rel := by
  intro nm nv σ y1 y2 y3 ⟨A, N, hI, hC, hR⟩ _ _ _ _
  have h9 := hI.1.2.2.1
  have hN := hI.1.2.1
  by_cases hx : 0 ≤ y1 ∧ y1 < 4
  · have hs : y1.toNat < 4 := by omega
    have hsr := sel_r hI hs
    have ref : ∀ σ1, Re σ1 A N nm nv → wp (fX6_comment 1000 σ1 y1) (fun r => ((okS A N y1.toNat ∧ A 8 9 < 20) → r.2 230 0 = 0 ∧ r.1 = (N : Int) ∧ Re r.2 (mkA A N y1.toNat 7 (sx A N y1.toNat) (sy A N y1.toNat) (A 8 9) 0) (N + 1) nm nv) ∧ (¬ (okS A N y1.toNat ∧ A 8 9 < 20) → r.2 230 0 = 2 ∧ Re r.2 A N nm nv) ∧ FrR σ1 r.2) := by
      intro σ1 hr1
      unfold fX6_comment
      refine wp_b1e (r_isSite y1) ?_
      rw [decide_eq_true hx, if_pos (by decide)]
      have hsi := r_site hI.1 (hI.2.1 y1.toNat hs) hr1 hs (n := 1000) (by decide)
      rw [Int.toNat_of_nonneg hx.1] at hsi
      refine wp_b1 hsi (fun σ3 q => ?_)
      obtain ⟨q1, q2, q3⟩ := q
      have f3 : FrR σ1 σ3 := FrR.ofF q3
      have e8 := q2.atS hs (r := 248) (by decide) (by decide)
      have e9 := q2.atS hs (r := 249) (by decide) (by decide)
      have hse := r_sel (n := 1000) q1.r hI hs (by decide) e8 e9
      rw [Int.toNat_of_nonneg hx.1] at hse
      refine wp_b1e hse.1 ?_
      have bad : ¬ (okS A N y1.toNat ∧ A 8 9 < 20) → wp (fX6_comment_J48 1000 σ3 y1 (selHi A N y1.toNat - selLo A N y1.toNat)) (fun r => ((okS A N y1.toNat ∧ A 8 9 < 20) → r.2 230 0 = 0 ∧ r.1 = (N : Int) ∧ Re r.2 (mkA A N y1.toNat 7 (sx A N y1.toNat) (sy A N y1.toNat) (A 8 9) 0) (N + 1) nm nv) ∧ (¬ (okS A N y1.toNat ∧ A 8 9 < 20) → r.2 230 0 = 2 ∧ Re r.2 A N nm nv) ∧ FrR σ1 r.2) := by
        intro hno
        unfold fX6_comment_J48 fX6_comment_J53
        refine wp_pf ?_
        rw [if_neg (by rw [st_row, if_pos rfl]; decide)]
        exact wp_some ⟨fun g => absurd g hno, fun _ => ⟨by show st σ3 230 0 2 230 0 = 2; rw [st_row, if_pos rfl], q2.fr (FrS.up0 FrS.rf)⟩, f3.upd (by decide)⟩
      by_cases g : selLo A N y1.toNat = selHi A N y1.toNat
      · rw [if_pos (by omega)]; exact bad (fun w => w.1.1 g)
      rw [if_neg (by omega), q2.2.1]
      by_cases g9 : A 8 9 = 20
      · rw [if_pos g9]; exact bad (fun w => by have := w.2; omega)
      rw [if_neg g9, q2.1.1]
      by_cases hN2 : N = 160
      · rw [if_neg (by omega)]; exact bad (fun g => by have := g.1.2; omega)
      rw [if_pos (by omega)]
      have ok : okS A N y1.toNat := ⟨g, by have := hI.1.2.1; omega⟩
      have hm := sel_m7 hI hs ok (by omega)
      unfold fX6_comment_J53
      refine wp_pf ?_
      have q5 : Re (st σ3 230 0 0) A N nm nv := q2.fr (FrS.up0 FrS.rf)
      have q4 := q1.fr0 (v := 0)
      have f4 : FrR σ1 (st σ3 230 0 0) := f3.upd (by decide)
      have e0 : st σ3 230 0 0 230 0 = 0 := by rw [st_row, if_pos rfl]
      generalize st σ3 230 0 0 = σ4 at q5 q4 f4 e0
      rw [if_pos (by omega), q5.1.1, q5.2.1]
      refine wp_wr (by omega) (by omega) ?_
      rw [Int.toNat_natCast, st_ne (by decide), q5.2.1]
      refine wp_ck (by omega) (by omega) (wp_pf ?_)
      have G : ∀ a b, (a ≠ 242 ∨ b ≠ N) → (a ≠ 230 ∨ b ≠ 10) → st (st σ4 242 N (A 8 9)) 230 10 (A 8 9 + 1) a b = σ4 a b := fun a b g1 g2 => by
        by_cases q : a = 230
        · rw [q, st_row, if_neg (by omega), st_ne (by decide)]
        · rw [st_ne q]
          by_cases q2 : a = 242
          · rw [q2, st_row, if_neg (by omega)]
          · rw [st_ne q2]
      have G10 : st (st σ4 242 N (A 8 9)) 230 10 (A 8 9 + 1) 230 10 = A 8 9 + 1 := by rw [st_row, if_pos rfl]
      have G242 : st (st σ4 242 N (A 8 9)) 230 10 (A 8 9 + 1) 242 N = A 8 9 := by rw [st_ne (by decide), st_row, if_pos rfl]
      have f5 : FrR σ1 (st (st σ4 242 N (A 8 9)) 230 10 (A 8 9 + 1)) := (f4.upd (by decide)).upd (by decide)
      generalize st (st σ4 242 N (A 8 9)) 230 10 (A 8 9 + 1) = σ5 at G G10 G242 f5
      have q6 : isR σ5 N (docOf A N (Hs A y1.toNat)) := q4.r.fr2 (fun a b hab => G a b (by omega) (by omega))
      have e8 : σ5 248 y1.toNat = A 248 y1.toNat := (G 248 _ (by omega) (by omega)).trans (q5.atS hs (r := 248) (by decide) (by decide))
      have e9 : σ5 249 y1.toNat = A 249 y1.toNat := (G 249 _ (by omega) (by omega)).trans (q5.atS hs (r := 249) (by decide) (by decide))
      have hse := r_sel (n := 1000) q6 hI hs (by decide) e8 e9
      rw [Int.toNat_of_nonneg hx.1] at hse
      refine wp_b1e hse.2 (wp_b1e (r_selAt q6 hI hs (by decide) _) (wp_b1e hse.2 (wp_ck (by omega) (by omega) (wp_ck (by omega) (by omega) ?_))))
      rw [show selLo A N y1.toNat + (selHi A N y1.toNat - selLo A N y1.toNat) - 1 = selHi A N y1.toNat - 1 by omega]
      refine wp_b1e (r_selAt q6 hI hs (by decide) _) ?_
      have hmk := r_make (σ := σ5) (x3 := sx A N y1.toNat) (x4 := sy A N y1.toNat) (x5 := 0) (x6 := 0) (x7 := 0) hI hm (q5.xc G) (by
        rw [G10, mk_8]
        show _ = if (9 : Nat) = 8 then (N : Int) + 1 else if (9 : Nat) = 9 ∧ (7 : Int) = 7 then A 8 9 + 1 else A 8 9
        rw [if_neg (by decide), if_pos (by decide)]) (Or.inl rfl) ⟨fun _ => rfl, fun g => absurd g (by decide), fun g => absurd g (by omega), fun g => absurd g (by omega), fun g => absurd g (by decide), fun _ => ⟨rfl, G242⟩, fun g => absurd g (by decide), fun g => absurd g (by decide)⟩
      rw [Int.toNat_of_nonneg hx.1] at hmk
      refine wp_b2 hmk (fun v σ6 q => wp_some ⟨fun _ => ⟨?_, q.1, q.2.1⟩, fun g => absurd ⟨ok, by omega⟩ g, f5.tr (FrM.R q.2.2)⟩)
      exact ((q.2.2 230 0 (by omega) (by omega)).trans (G 230 0 (by omega) (by omega))).trans e0
    by_cases ok : okS A N y1.toNat ∧ A 8 9 < 20
    · have hm := sel_m7 hI hs ok.1 ok.2
      refine ⟨1000, So_fin (F := fun σ1 => fX6_comment 1000 σ1 y1) (g := fun v => v) (k := 0) (kk := 0) (v := (N : Int)) rfl (fun _ => rfl) hR (hI.make hm) ?_ (fun σ1 hr1 => ?_)⟩
      · unfold fX5_comment
        have h89 : ∀ σ2, Cl σ2 A N nm nv → σ2 8 9 = A 8 9 := fun σ2 h => h.1.1 8 (by decide) (by decide) 9
        rw [xw_ok (c_siteAt hx), h89 σ hC, if_pos ok.2]
        refine wp_b2 (c_paperOf hI.1 hC hs (by decide)) (fun o τ q => ?_)
        obtain ⟨q1, q2, q3, q4⟩ := q
        have q1' : o = 20 + 40 * y1.toNat + 10 := q1
        subst q1'
        rw [h89 τ q3]
        obtain ⟨⟨c, v, τ2⟩, e, e1, e2, e3, e4⟩ := (c_onSel (n := 1000) hI q3 q2 hs (by decide) 7 (A 8 9) 0).1 ok.1 hm
        have e1' : c = 0 := e1
        subst e1'
        rw [xw_ok e]
        have q4' : FrC σ τ := q4
        exact wp_some ⟨rfl, fun _ => e2, e3, q4'.tr e4⟩
      · exact wp_mono (ref σ1 hr1) (fun r q => ⟨(q.1 ok).1, fun _ => (q.1 ok).2.1, (q.1 ok).2.2, q.2.2⟩)
    · refine ⟨1000, So_fin (F := fun σ1 => fX6_comment 1000 σ1 y1) (g := fun v => v) (k := 3) (kk := 2) (v := 0) rfl (fun q => (by cases q)) hR hI ?_ (fun σ1 hr1 => ?_)⟩
      · unfold fX5_comment
        have h89 : ∀ σ2, Cl σ2 A N nm nv → σ2 8 9 = A 8 9 := fun σ2 h => h.1.1 8 (by decide) (by decide) 9
        rw [xw_ok (c_siteAt hx), h89 σ hC]
        by_cases g9 : A 8 9 < 20
        · rw [if_pos g9]
          refine wp_b2 (c_paperOf hI.1 hC hs (by decide)) (fun o τ q => ?_)
          obtain ⟨q1, q2, q3, q4⟩ := q
          have q1' : o = 20 + 40 * y1.toNat + 10 := q1
          subst q1'
          rw [xw_x (c := 2) ((c_onSel (n := 1000) hI q3 q2 hs (by decide) 7 (τ 8 9) 0).2 (fun g => ok ⟨g, g9⟩))]
          exact wp_some ⟨rfl, fun q => (by cases q), q3, q4⟩
        · rw [if_neg g9]
          exact wp_some ⟨rfl, fun q => (by cases q), hC, FrC.rf⟩
      · exact wp_mono (ref σ1 hr1) (fun r q => ⟨(q.2.1 ok).1, fun q => (by cases q), (q.2.1 ok).2, q.2.2⟩)
  · refine ⟨1000, So_fin (F := fun σ1 => fX6_comment 1000 σ1 y1) (g := fun v => v) (k := 1) (kk := 1) (v := 0) rfl (fun q => (by cases q)) hR hI (by unfold fX5_comment; exact c_no hC hx) (fun σ1 hr1 => ?_)⟩
    unfold fX6_comment
    refine wp_b1e (r_isSite y1) ?_
    rw [decide_eq_false hx, if_neg (by decide)]
    exact wp_b2e (r_fails 1) (wp_some (r_no hr1 (by decide)))
end MARK
