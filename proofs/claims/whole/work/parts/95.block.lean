/-! ===== setKind, nest, allow ===== -/
section BLK
variable {σ τ A : St} {N nm nv n s : Nat} {D : Dc} {S : Int → Bool} {k x y z p : Int}
theorem blN_k (hd : DI A N D) (hN : N ≤ 160) {w : Int} (h : isBl D w) : -1 ≤ blN D w ∧ blN D w < (N : Int) ∧ (0 ≤ blN D w → A 11 (blN D w).toNat = 1) := by
  have hr := blN_r hd hN h
  refine ⟨hr.1, hr.2, fun h0 => ?_⟩
  rcases blN_in h with q | q
  · omega
  · have := (of_decide_eq_true q.2).2.1
    rw [(hd.2.2.1 _ q.1).2] at this
    by_cases e : A 11 (blN D w).toNat = 1
    · exact e
    · rw [if_neg e] at this; exact absurd rfl this
def okB (A : St) (N s : Nat) (b : Int) : Prop := lev (docOf A N (Hs A s)) (s : Int) b = 0 ∧ N < 160
theorem c_may (hC : Cl σ A N nm nv) (hP : isP σ (20 + 40 * s + 10) (docOf A N (Hs A s))) (hs : s < 4) (b : Int) :
    (okB A N s b → fX5_checkMayWriteIn σ (20 + 40 * s + 10) (20 + 40 * s) b = some (0, 0, σ)) ∧ (¬ okB A N s b → fX5_checkMayWriteIn σ (20 + 40 * s + 10) (20 + 40 * s) b = some (3, 0, σ)) := by
  have w := hC.site hs
  have el : fX3_levelIn σ (20 + 40 * s + 10) (σ (20 + 40 * s) 0) b = some (lev (docOf A N (Hs A s)) (s : Int) b) := by rw [w.1]; exact q_levelIn hP _ _
  constructor
  · rintro ⟨h1, h2⟩
    unfold fX5_checkMayWriteIn
    rw [b1_ok el, if_pos h1, xw_ok (by rw [c_room hC, if_pos (by omega)])]
  · intro hno
    unfold fX5_checkMayWriteIn
    rw [b1_ok el]
    by_cases h1 : lev (docOf A N (Hs A s)) (s : Int) b = 0
    · have hN : ¬ N < 160 := fun g => hno ⟨h1, g⟩
      rw [if_pos h1, xw_x (c := 2) (by rw [c_room hC, if_neg (by omega)])]
    · rw [if_neg h1]
theorem ok5 (hN : N < 160) (hs : s < 4) (hx : -1 ≤ x ∧ x < (N : Int) ∧ (0 ≤ x → A 11 x.toNat = 1)) (hz : 0 ≤ z ∧ z ≤ 65535) : okM A N s 5 x (-1) z 0 := by
  refine ⟨⟨hN, hs⟩, by omega, Or.inl rfl, hz, fun g => ?_, fun g => ?_, fun g => ?_, fun g => ?_, fun g => ?_, fun _ => hx, fun g => ?_, fun g => ?_, fun g => ?_⟩ <;> (exfalso; clear hx; omega)
theorem ok6 (hN : N < 160) (hs : s < 4) (hx : -1 ≤ x ∧ x < (N : Int) ∧ (0 ≤ x → A 11 x.toNat = 1)) (hy : y = -2 ∨ (-1 ≤ y ∧ y < (N : Int) ∧ (0 ≤ y → A 11 y.toNat = 1))) : okM A N s 6 x y 0 0 := by
  refine ⟨⟨hN, hs⟩, by omega, Or.inl rfl, by omega, fun g => ?_, fun g => ?_, fun g => ?_, fun g => ?_, fun g => ?_, fun _ => hx, fun _ => hy, fun g => ?_, fun g => ?_⟩ <;> (exfalso; clear hx hy; omega)
theorem ok10 (hN : N < 160) (hs : s < 4) (hx : -1 ≤ x ∧ x < (N : Int) ∧ (0 ≤ x → A 11 x.toNat = 1)) (hy : 0 < y ∧ y < 4) (hz : 0 ≤ z ∧ z ≤ 2) : okM A N s 10 x y z 0 := by
  refine ⟨⟨hN, hs⟩, by omega, Or.inl rfl, by omega, fun g => ?_, fun g => ?_, fun g => ?_, fun g => ?_, fun g => ?_, fun _ => hx, fun g => ?_, fun _ => ⟨hy.1, hy.2, hz⟩, fun g => ?_⟩ <;> (exfalso; clear hx; omega)
theorem r_bad {R : Int × St → Prop} {t : Int} {σ3 : St} {k : St → Option (Int × St)} (ht : 0 < t) (h : R (0, st σ3 230 0 t)) : wp (pf σ3 230 0 t (fun σ6 => if σ6 230 0 ≤ 0 then k σ6 else some (0, σ6))) R := by
  refine wp_pf ?_
  rw [if_neg (by rw [st_row, if_pos rfl]; omega)]
  exact wp_some h
theorem r_badR {σ1 σ3 : St} {kk v : Int} (hk : 0 < kk) (h : Re σ3 A N nm nv) (hf : FrR σ1 σ3) : OkR σ1 A N nm nv kk v (0, st σ3 230 0 kk) :=
  ⟨by show st σ3 230 0 kk 230 0 = kk; rw [st_row, if_pos rfl], fun q => absurd q (by omega), h.fr (FrS.up0 FrS.rf), hf.upd (by decide)⟩
theorem so_setKind : So_setKind Rel := by
  intro nm nv σ y1 y2 y3 ⟨A, N, hI, hC, hR⟩ _ _ _ _
  have hN := hI.1.2.1
  by_cases hx : 0 ≤ y1 ∧ y1 < 4
  · have hs : y1.toNat < 4 := by omega
    have dk := hI.dk hs
    by_cases hb : isBl (docOf A N (Hs A y1.toNat)) y2
    · have cls : ∀ {Q : Nat × Int × St → Prop}, (∀ σ3, isP σ3 (20 + 40 * y1.toNat + 10) (docOf A N (Hs A y1.toNat)) → Cl σ3 A N nm nv → FrC σ σ3 → wp (if y3 < 0 then (fX5_setKind_J31 1000 σ3 y1 y2 y3) else (if y3 < 4 then (xw 0 (fX5_checkMayWriteIn σ3 (20 + 40 * y1.toNat + 10) (20 + 40 * y1.toNat) (blN (docOf A N (Hs A y1.toNat)) y2)) (fun v8 σ7 => b2 (fX5_make 1000 σ7 (20 + 40 * y1.toNat) 5 (blN (docOf A N (Hs A y1.toNat)) y2) (-1) y3 0) (fun v10 σ9 => some (0, v10, σ9)))) else (fX5_setKind_J31 1000 σ3 y1 y2 y3))) Q) → wp (fX5_setKind 1000 σ y1 y2 y3) Q := by
        intro Q hK
        unfold fX5_setKind
        refine c_open hI.1 hC hx (by decide) (fun σ3 p1 p2 p3 => ?_)
        rw [xw_ok (c_blockAt p1 dk.1 hN (by decide) hb)]
        exact hK σ3 p1 p2 p3
      have bk := blN_k dk.1 hN hb
      by_cases hz : 0 ≤ y3 ∧ y3 < 4
      · have ref : ∀ σ1, Re σ1 A N nm nv → wp (fX6_setKind 1000 σ1 y1 y2 y3) (fun r => (okB A N y1.toNat (blN (docOf A N (Hs A y1.toNat)) y2) → r.2 230 0 = 0 ∧ r.1 = (N : Int) ∧ Re r.2 (mkA A N y1.toNat 5 (blN (docOf A N (Hs A y1.toNat)) y2) (-1) y3 0) (N + 1) nm nv) ∧ (¬ okB A N y1.toNat (blN (docOf A N (Hs A y1.toNat)) y2) → r.2 230 0 = 3 ∧ Re r.2 A N nm nv) ∧ FrR σ1 r.2) := by
          intro σ1 hr1
          unfold fX6_setKind
          refine wp_b2 (r_isBlock (w := y2) hI hr1 hx (by decide)) (fun v σ3 q => ?_)
          obtain ⟨q0, q1, q2, q3⟩ := q
          have q2 : Re σ3 A N nm nv := q2
          have q0' : v ≠ 0 := fun g => (q0.mp g) hb
          have f3 : FrR σ1 σ3 := FrR.ofF q3
          rw [if_pos q0']
          refine wp_b1e (r_isIn _ _ _) ?_
          rw [decide_eq_true (by omega), if_pos (by decide)]
          refine wp_b1e (r_blN q1 q2.1 hN (by decide) hb) (wp_b1e (r_levelIn q1.r hx ⟨by omega, by omega⟩) ?_)
          rw [show lev (docOf A N (Hs A y1.toNat)) y1 (blN (docOf A N (Hs A y1.toNat)) y2) = lev (docOf A N (Hs A y1.toNat)) (y1.toNat : Int) (blN (docOf A N (Hs A y1.toNat)) y2) by rw [Int.toNat_of_nonneg hx.1]]
          have bad : ¬ okB A N y1.toNat (blN (docOf A N (Hs A y1.toNat)) y2) → wp (fX6_setKind_J52 1000 σ3 y1 y2 y3) (fun r => (okB A N y1.toNat (blN (docOf A N (Hs A y1.toNat)) y2) → r.2 230 0 = 0 ∧ r.1 = (N : Int) ∧ Re r.2 (mkA A N y1.toNat 5 (blN (docOf A N (Hs A y1.toNat)) y2) (-1) y3 0) (N + 1) nm nv) ∧ (¬ okB A N y1.toNat (blN (docOf A N (Hs A y1.toNat)) y2) → r.2 230 0 = 3 ∧ Re r.2 A N nm nv) ∧ FrR σ1 r.2) := by
            intro hno
            unfold fX6_setKind_J52 fX6_setKind_J57
            exact r_bad (by decide) ⟨fun g => absurd g hno, fun _ => ⟨by show st σ3 230 0 3 230 0 = 3; rw [st_row, if_pos rfl], q2.fr (FrS.up0 FrS.rf)⟩, f3.upd (by decide)⟩
          by_cases g : lev (docOf A N (Hs A y1.toNat)) (y1.toNat : Int) (blN (docOf A N (Hs A y1.toNat)) y2) = 0
          · rw [if_neg (fun w => w g), q2.1.1]
            by_cases hN2 : N = 160
            · rw [if_neg (by omega)]; exact bad (fun g => by have := g.2; omega)
            · rw [if_pos (by omega)]
              unfold fX6_setKind_J57
              refine wp_pf ?_
              have q5 : Re (st σ3 230 0 0) A N nm nv := q2.fr (FrS.up0 FrS.rf)
              have q4 := q1.fr0 (v := 0)
              have f4 : FrR σ1 (st σ3 230 0 0) := f3.upd (by decide)
              have e0 : st σ3 230 0 0 230 0 = 0 := by rw [st_row, if_pos rfl]
              generalize st σ3 230 0 0 = σ4 at q5 q4 f4 e0
              rw [if_pos (by omega)]
              refine wp_b1e (r_blN q4 q5.1 hN (by decide) hb) ?_
              have hmk := r_make' (σ := σ4) (x3 := blN (docOf A N (Hs A y1.toNat)) y2) (x4 := y3) (x5 := 0) (x6 := 0) (x7 := 0) hI (ok5 (z := y3) (by omega) hs bk (by omega)) q5 (by decide) (Or.inl rfl) ⟨fun _ => rfl, fun g => absurd g (by decide), fun g => absurd g (by omega), fun g => absurd g (by omega), fun g => absurd g (by decide), fun g => absurd g (by decide), fun _ => rfl, fun g => absurd g (by decide)⟩
              rw [Int.toNat_of_nonneg hx.1] at hmk
              refine wp_b2 hmk (fun v σ5 q => wp_some ⟨fun _ => ⟨?_, q.1, q.2.1⟩, fun h => absurd ⟨g, by omega⟩ h, f4.tr (FrM.R q.2.2)⟩)
              exact (q.2.2 230 0 (by omega) (by omega)).trans e0
          · rw [if_pos g]; exact bad (fun w => g w.1)
        by_cases ok : okB A N y1.toNat (blN (docOf A N (Hs A y1.toNat)) y2)
        · have hm := ok5 (z := y3) ok.2 hs bk (by omega)
          refine ⟨1000, So_fin (F := fun σ1 => fX6_setKind 1000 σ1 y1 y2 y3) (g := fun v => v) (k := 0) (kk := 0) (v := (N : Int)) rfl (fun _ => rfl) hR (hI.make hm) (cls (fun σ3 p1 p2 p3 => ?_)) (fun σ1 hr1 => ?_)⟩
          · rw [if_neg (by omega), if_pos (by omega), xw_ok ((c_may p2 p1 hs _).1 ok)]
            refine wp_b2 (c_make hI p2 hm (by decide)) (fun v σ5 q => wp_some ⟨rfl, fun _ => q.1, q.2.1, p3.tr q.2.2.1⟩)
          · exact wp_mono (ref σ1 hr1) (fun r q => ⟨(q.1 ok).1, fun _ => (q.1 ok).2.1, (q.1 ok).2.2, q.2.2⟩)
        · refine ⟨1000, So_fin (F := fun σ1 => fX6_setKind 1000 σ1 y1 y2 y3) (g := fun v => v) (k := 3) (kk := 3) (v := 0) rfl (fun q => (by cases q)) hR hI (cls (fun σ3 p1 p2 p3 => ?_)) (fun σ1 hr1 => ?_)⟩
          · rw [if_neg (by omega), if_pos (by omega), xw_x (c := 2) ((c_may p2 p1 hs _).2 ok)]
            exact wp_some ⟨rfl, fun q => (by cases q), p2, p3⟩
          · exact wp_mono (ref σ1 hr1) (fun r q => ⟨(q.2.1 ok).1, fun q => (by cases q), (q.2.1 ok).2, q.2.2⟩)
      · refine ⟨1000, So_fin (F := fun σ1 => fX6_setKind 1000 σ1 y1 y2 y3) (g := fun v => v) (k := 2) (kk := 2) (v := 0) rfl (fun q => (by cases q)) hR hI (cls (fun σ3 p1 p2 p3 => ?_)) (fun σ1 hr1 => ?_)⟩
        · have : wp (fX5_setKind_J31 1000 σ3 y1 y2 y3) (OkC σ A N nm nv 2 0) := wp_some ⟨rfl, fun q => (by cases q), p2, p3⟩
          by_cases g : y3 < 0
          · rw [if_pos g]; exact this
          · rw [if_neg g, if_neg (by omega)]; exact this
        · unfold fX6_setKind
          refine wp_b2 (r_isBlock (w := y2) hI hr1 hx (by decide)) (fun v σ3 q => ?_)
          obtain ⟨q0, q1, q2, q3⟩ := q
          have q2 : Re σ3 A N nm nv := q2
          have q0' : v ≠ 0 := fun g => (q0.mp g) hb
          rw [if_pos q0']
          refine wp_b1e (r_isIn _ _ _) ?_
          rw [decide_eq_false (by omega), if_neg (by decide)]
          unfold fX6_setKind_J57
          exact r_bad (by decide) (r_badR (by decide) q2 (FrR.ofF q3))
    · refine ⟨1000, So_fin (F := fun σ1 => fX6_setKind 1000 σ1 y1 y2 y3) (g := fun v => v) (k := 1) (kk := 1) (v := 0) rfl (fun q => (by cases q)) hR hI ?_ (fun σ1 hr1 => ?_)⟩
      · unfold fX5_setKind
        refine c_open hI.1 hC hx (by decide) (fun σ3 p1 p2 p3 => ?_)
        rw [xw_x (c_blockNo p1 (by decide) hb)]
        exact wp_some ⟨rfl, fun q => (by cases q), p2, p3⟩
      · unfold fX6_setKind
        refine wp_b2 (r_isBlock (w := y2) hI hr1 hx (by decide)) (fun v σ3 q => ?_)
        obtain ⟨q0, q1, q2, q3⟩ := q
        have q2 : Re σ3 A N nm nv := q2
        have q0' : v = 0 := q0.mpr hb
        rw [if_neg (fun g => g q0')]
        exact wp_b2e (r_fails 1) (wp_some (r_badR (by decide) q2 (FrR.ofF q3)))
  · refine ⟨1000, So_fin (F := fun σ1 => fX6_setKind 1000 σ1 y1 y2 y3) (g := fun v => v) (k := 1) (kk := 1) (v := 0) rfl (fun q => (by cases q)) hR hI (by unfold fX5_setKind; exact c_no hC hx) (fun σ1 hr1 => ?_)⟩
    unfold fX6_setKind
    refine wp_b2e (r_blockNo hx) ?_
    rw [if_neg (fun g => g rfl)]
    exact wp_b2e (r_fails 1) (wp_some (r_no hr1 (by decide)))
/-- where a block may go: under no block, or under one that is shown -/
def isTo (D : Dc) (w : Int) : Prop := w = -1 ∨ isBl D w
def toN (D : Dc) (w : Int) : Int := if w = -1 then -2 else blN D w
theorem so_nest : So_nest Rel := by
  intro nm nv σ y1 y2 y3 ⟨A, N, hI, hC, hR⟩ _ _ _ _
  have hN := hI.1.2.1
  by_cases hx : 0 ≤ y1 ∧ y1 < 4
  · have hs : y1.toNat < 4 := by omega
    have dk := hI.dk hs
    by_cases hb : isBl (docOf A N (Hs A y1.toNat)) y2
    · have bk := blN_k dk.1 hN hb
      by_cases ht : isTo (docOf A N (Hs A y1.toNat)) y3
      · have tk : toN (docOf A N (Hs A y1.toNat)) y3 = -2 ∨ (-1 ≤ toN (docOf A N (Hs A y1.toNat)) y3 ∧ toN (docOf A N (Hs A y1.toNat)) y3 < (N : Int) ∧ (0 ≤ toN (docOf A N (Hs A y1.toNat)) y3 → A 11 (toN (docOf A N (Hs A y1.toNat)) y3).toNat = 1)) := by
          unfold toN
          by_cases g : y3 = -1
          · rw [if_pos g]; exact Or.inl rfl
          · rw [if_neg g]; exact Or.inr (blN_k dk.1 hN (ht.resolve_left g))
        have cls : ∀ {Q : Nat × Int × St → Prop}, (∀ σ3, isP σ3 (20 + 40 * y1.toNat + 10) (docOf A N (Hs A y1.toNat)) → Cl σ3 A N nm nv → FrC σ σ3 → wp (fX5_nest_J38 1000 σ3 y1 y2 y3 (20 + 40 * y1.toNat) (20 + 40 * y1.toNat + 10) (blN (docOf A N (Hs A y1.toNat)) y2) (toN (docOf A N (Hs A y1.toNat)) y3)) Q) → wp (fX5_nest 1000 σ y1 y2 y3) Q := by
          intro Q hK
          unfold fX5_nest
          refine c_open hI.1 hC hx (by decide) (fun σ3 p1 p2 p3 => ?_)
          rw [xw_ok (c_blockAt p1 dk.1 hN (by decide) hb)]
          have := hK σ3 p1 p2 p3
          unfold toN at this
          by_cases g : y3 = -1
          · rw [if_neg (fun w => w g)]
            rw [if_pos g] at this; exact this
          · rw [if_pos g, xw_ok (c_blockAt p1 dk.1 hN (by decide) (ht.resolve_left g))]
            rw [if_neg g] at this; exact this
        have ref : ∀ σ1, Re σ1 A N nm nv → wp (fX6_nest 1000 σ1 y1 y2 y3) (fun r => (okB A N y1.toNat (blN (docOf A N (Hs A y1.toNat)) y2) → r.2 230 0 = 0 ∧ r.1 = (N : Int) ∧ Re r.2 (mkA A N y1.toNat 6 (blN (docOf A N (Hs A y1.toNat)) y2) (toN (docOf A N (Hs A y1.toNat)) y3) 0 0) (N + 1) nm nv) ∧ (¬ okB A N y1.toNat (blN (docOf A N (Hs A y1.toNat)) y2) → r.2 230 0 = 2 ∧ Re r.2 A N nm nv) ∧ FrR σ1 r.2) := by
          intro σ1 hr1
          unfold fX6_nest
          refine wp_b2 (r_isBlock (w := y2) hI hr1 hx (by decide)) (fun v σ3 q => ?_)
          obtain ⟨q0, q1, q2, q3⟩ := q
          have q2 : Re σ3 A N nm nv := q2
          have q0' : v ≠ 0 := fun g => (q0.mp g) hb
          have f3 : FrR σ1 σ3 := FrR.ofF q3
          rw [if_neg q0']
          have go : wp (fX6_nest_J34 1000 σ3 y1 y2 y3) (fun r => (okB A N y1.toNat (blN (docOf A N (Hs A y1.toNat)) y2) → r.2 230 0 = 0 ∧ r.1 = (N : Int) ∧ Re r.2 (mkA A N y1.toNat 6 (blN (docOf A N (Hs A y1.toNat)) y2) (toN (docOf A N (Hs A y1.toNat)) y3) 0 0) (N + 1) nm nv) ∧ (¬ okB A N y1.toNat (blN (docOf A N (Hs A y1.toNat)) y2) → r.2 230 0 = 2 ∧ Re r.2 A N nm nv) ∧ FrR σ1 r.2) := by
            unfold fX6_nest_J34
            refine wp_b1e (r_blN q1 q2.1 hN (by decide) hb) (wp_b1e (r_levelIn q1.r hx ⟨by omega, by omega⟩) ?_)
            rw [show lev (docOf A N (Hs A y1.toNat)) y1 (blN (docOf A N (Hs A y1.toNat)) y2) = lev (docOf A N (Hs A y1.toNat)) (y1.toNat : Int) (blN (docOf A N (Hs A y1.toNat)) y2) by rw [Int.toNat_of_nonneg hx.1]]
            have bad : ¬ okB A N y1.toNat (blN (docOf A N (Hs A y1.toNat)) y2) → wp (fX6_nest_J58 1000 σ3 y1 y2 y3) (fun r => (okB A N y1.toNat (blN (docOf A N (Hs A y1.toNat)) y2) → r.2 230 0 = 0 ∧ r.1 = (N : Int) ∧ Re r.2 (mkA A N y1.toNat 6 (blN (docOf A N (Hs A y1.toNat)) y2) (toN (docOf A N (Hs A y1.toNat)) y3) 0 0) (N + 1) nm nv) ∧ (¬ okB A N y1.toNat (blN (docOf A N (Hs A y1.toNat)) y2) → r.2 230 0 = 2 ∧ Re r.2 A N nm nv) ∧ FrR σ1 r.2) := by
              intro hno
              unfold fX6_nest_J58 fX6_nest_J63
              exact r_bad (by decide) ⟨fun g => absurd g hno, fun _ => ⟨by show st σ3 230 0 2 230 0 = 2; rw [st_row, if_pos rfl], q2.fr (FrS.up0 FrS.rf)⟩, f3.upd (by decide)⟩
            by_cases g : lev (docOf A N (Hs A y1.toNat)) (y1.toNat : Int) (blN (docOf A N (Hs A y1.toNat)) y2) = 0
            · rw [if_neg (fun w => w g), q2.1.1]
              by_cases hN2 : N = 160
              · rw [if_neg (by omega)]; exact bad (fun g => by have := g.2; omega)
              · rw [if_pos (by omega)]
                unfold fX6_nest_J63
                refine wp_pf ?_
                have q5 : Re (st σ3 230 0 0) A N nm nv := q2.fr (FrS.up0 FrS.rf)
                have q4 := q1.fr0 (v := 0)
                have f4 : FrR σ1 (st σ3 230 0 0) := f3.upd (by decide)
                have e0 : st σ3 230 0 0 230 0 = 0 := by rw [st_row, if_pos rfl]
                generalize st σ3 230 0 0 = σ4 at q5 q4 f4 e0
                rw [if_pos (by omega)]
                refine wp_b1e (r_blN q4 q5.1 hN (by decide) hb) ?_
                have fin : wp (fX6_nest_J101 1000 σ4 y1 y2 y3 (toN (docOf A N (Hs A y1.toNat)) y3) (blN (docOf A N (Hs A y1.toNat)) y2) 6 y1) (fun r => (okB A N y1.toNat (blN (docOf A N (Hs A y1.toNat)) y2) → r.2 230 0 = 0 ∧ r.1 = (N : Int) ∧ Re r.2 (mkA A N y1.toNat 6 (blN (docOf A N (Hs A y1.toNat)) y2) (toN (docOf A N (Hs A y1.toNat)) y3) 0 0) (N + 1) nm nv) ∧ (¬ okB A N y1.toNat (blN (docOf A N (Hs A y1.toNat)) y2) → r.2 230 0 = 2 ∧ Re r.2 A N nm nv) ∧ FrR σ1 r.2) := by
                  unfold fX6_nest_J101
                  have hmk := r_make' (σ := σ4) (x3 := blN (docOf A N (Hs A y1.toNat)) y2) (x4 := toN (docOf A N (Hs A y1.toNat)) y3) (x5 := 0) (x6 := 0) (x7 := 0) hI (ok6 (by omega) hs bk tk) q5 (by decide) (Or.inl rfl) ⟨fun _ => rfl, fun g => absurd g (by decide), fun g => absurd g (by omega), fun g => absurd g (by omega), fun g => absurd g (by decide), fun g => absurd g (by decide), fun g => absurd g (by decide), fun _ => rfl⟩
                  rw [Int.toNat_of_nonneg hx.1] at hmk
                  refine wp_b2 hmk (fun v σ5 q => wp_some ⟨fun _ => ⟨?_, q.1, q.2.1⟩, fun h => absurd ⟨g, by omega⟩ h, f4.tr (FrM.R q.2.2)⟩)
                  exact (q.2.2 230 0 (by omega) (by omega)).trans e0
                by_cases g3 : y3 = -1
                · rw [if_neg (fun w => w g3)]
                  have e : toN (docOf A N (Hs A y1.toNat)) y3 = -2 := if_pos g3
                  rw [e] at fin ⊢; exact fin
                · rw [if_pos g3]
                  refine wp_b1e (r_blN q4 q5.1 hN (by decide) (ht.resolve_left g3)) ?_
                  have e : toN (docOf A N (Hs A y1.toNat)) y3 = blN (docOf A N (Hs A y1.toNat)) y3 := if_neg g3
                  rw [← e]; exact fin
            · rw [if_pos g]; exact bad (fun w => g w.1)
          by_cases g3 : y3 = -1
          · rw [if_pos g3]; exact go
          · rw [if_neg g3]
            have h1 := cnt_le (brkB (docOf A N (Hs A y1.toNat))) (docOf A N (Hs A y1.toNat)).1
            have h2 := q1.r.2.1
            refine wp_b1e (r_shownBlocks q1.r q2.1 q1.d hN (by decide)) (wp_ck (by omega) (by omega) (wp_b1e (r_isIn _ _ _) ?_))
            have hb3 := ht.resolve_left g3
            unfold isBl at hb3
            rw [decide_eq_true (by omega), if_pos (by decide)]
            exact go
        by_cases ok : okB A N y1.toNat (blN (docOf A N (Hs A y1.toNat)) y2)
        · have hm := ok6 ok.2 hs bk tk
          refine ⟨1000, So_fin (F := fun σ1 => fX6_nest 1000 σ1 y1 y2 y3) (g := fun v => v) (k := 0) (kk := 0) (v := (N : Int)) rfl (fun _ => rfl) hR (hI.make hm) (cls (fun σ3 p1 p2 p3 => ?_)) (fun σ1 hr1 => ?_)⟩
          · unfold fX5_nest_J38
            rw [xw_ok ((c_may p2 p1 hs _).1 ok)]
            refine wp_b2 (c_make hI p2 hm (by decide)) (fun v σ5 q => wp_some ⟨rfl, fun _ => q.1, q.2.1, p3.tr q.2.2.1⟩)
          · exact wp_mono (ref σ1 hr1) (fun r q => ⟨(q.1 ok).1, fun _ => (q.1 ok).2.1, (q.1 ok).2.2, q.2.2⟩)
        · refine ⟨1000, So_fin (F := fun σ1 => fX6_nest 1000 σ1 y1 y2 y3) (g := fun v => v) (k := 3) (kk := 2) (v := 0) rfl (fun q => (by cases q)) hR hI (cls (fun σ3 p1 p2 p3 => ?_)) (fun σ1 hr1 => ?_)⟩
          · unfold fX5_nest_J38
            rw [xw_x (c := 2) ((c_may p2 p1 hs _).2 ok)]
            exact wp_some ⟨rfl, fun q => (by cases q), p2, p3⟩
          · exact wp_mono (ref σ1 hr1) (fun r q => ⟨(q.2.1 ok).1, fun q => (by cases q), (q.2.1 ok).2, q.2.2⟩)
      · have g3 : y3 ≠ -1 := fun g => ht (Or.inl g)
        have nb : ¬ isBl (docOf A N (Hs A y1.toNat)) y3 := fun g => ht (Or.inr g)
        refine ⟨1000, So_fin (F := fun σ1 => fX6_nest 1000 σ1 y1 y2 y3) (g := fun v => v) (k := 1) (kk := 1) (v := 0) rfl (fun q => (by cases q)) hR hI ?_ (fun σ1 hr1 => ?_)⟩
        · unfold fX5_nest
          refine c_open hI.1 hC hx (by decide) (fun σ3 p1 p2 p3 => ?_)
          rw [xw_ok (c_blockAt p1 dk.1 hN (by decide) hb), if_pos g3, xw_x (c := 0) (c_blockNo p1 (by decide) nb)]
          exact wp_some ⟨rfl, fun q => (by cases q), p2, p3⟩
        · unfold fX6_nest
          refine wp_b2 (r_isBlock (w := y2) hI hr1 hx (by decide)) (fun v σ3 q => ?_)
          obtain ⟨q0, q1, q2, q3⟩ := q
          have q2 : Re σ3 A N nm nv := q2
          have q0' : v ≠ 0 := fun g => (q0.mp g) hb
          rw [if_neg q0', if_neg g3]
          have h1 := cnt_le (brkB (docOf A N (Hs A y1.toNat))) (docOf A N (Hs A y1.toNat)).1
          have h2 := q1.r.2.1
          refine wp_b1e (r_shownBlocks q1.r q2.1 q1.d hN (by decide)) (wp_ck (by omega) (by omega) (wp_b1e (r_isIn _ _ _) ?_))
          unfold isBl at nb
          rw [decide_eq_false (by omega), if_neg (by decide)]
          unfold fX6_nest_J28
          exact wp_b2e (r_fails 1) (wp_some (r_badR (by decide) q2 (FrR.ofF q3)))
    · refine ⟨1000, So_fin (F := fun σ1 => fX6_nest 1000 σ1 y1 y2 y3) (g := fun v => v) (k := 1) (kk := 1) (v := 0) rfl (fun q => (by cases q)) hR hI ?_ (fun σ1 hr1 => ?_)⟩
      · unfold fX5_nest
        refine c_open hI.1 hC hx (by decide) (fun σ3 p1 p2 p3 => ?_)
        rw [xw_x (c_blockNo p1 (by decide) hb)]
        exact wp_some ⟨rfl, fun q => (by cases q), p2, p3⟩
      · unfold fX6_nest
        refine wp_b2 (r_isBlock (w := y2) hI hr1 hx (by decide)) (fun v σ3 q => ?_)
        obtain ⟨q0, q1, q2, q3⟩ := q
        have q2 : Re σ3 A N nm nv := q2
        have q0' : v = 0 := q0.mpr hb
        rw [if_pos q0']
        unfold fX6_nest_J28
        exact wp_b2e (r_fails 1) (wp_some (r_badR (by decide) q2 (FrR.ofF q3)))
  · refine ⟨1000, So_fin (F := fun σ1 => fX6_nest 1000 σ1 y1 y2 y3) (g := fun v => v) (k := 1) (kk := 1) (v := 0) rfl (fun q => (by cases q)) hR hI (by unfold fX5_nest; exact c_no hC hx) (fun σ1 hr1 => ?_)⟩
    unfold fX6_nest
    refine wp_b2e (r_blockNo hx) ?_
    rw [if_pos rfl]
    unfold fX6_nest_J28
    exact wp_b2e (r_fails 1) (wp_some (r_no hr1 (by decide)))
theorem so_allow : So_allow Rel := by
  intro nm nv σ y1 y2 y3 ⟨A, N, hI, hC, hR⟩ _ _ _ _
  have hN := hI.1.2.1
  have hx : (0 : Int) ≤ 0 ∧ (0 : Int) < 4 := by decide
  have hs : (0 : Int).toNat < 4 := by decide
  have hs0 : (0 : Nat) < 4 := by decide
  have dk : DK A N (Hs A 0) (docOf A N (Hs A 0)) := hI.dk hs0
  by_cases hb : isBl (docOf A N (Hs A 0)) y1
  · have bk := blN_k dk.1 hN hb
    have cls : ∀ {Q : Nat × Int × St → Prop}, (∀ σ3, isP σ3 (20 + 40 * 0 + 10) (docOf A N (Hs A 0)) → Cl σ3 A N nm nv → FrC σ σ3 → wp (if y2 < 1 then (fX5_allow_J28 1000 σ3 y1 y2 y3) else (if y2 < 4 then (if y3 < 0 then (fX5_allow_J47 1000 σ3 y1 y2 y3) else (if y3 ≤ 2 then (xw 0 (fX5_checkRoomFor σ3 1) (fun v8 σ7 => b2 (fX5_make 1000 σ7 (20 + 40 * 0) 10 (blN (docOf A N (Hs A 0)) y1) y2 y3 0) (fun v10 σ9 => some (0, v10, σ9)))) else (fX5_allow_J47 1000 σ3 y1 y2 y3))) else (fX5_allow_J28 1000 σ3 y1 y2 y3))) Q) → wp (fX5_allow 1000 σ y1 y2 y3) Q := by
      intro Q hK
      unfold fX5_allow
      refine c_open hI.1 hC hx (by decide) (fun σ3 p1 p2 p3 => ?_)
      have p1' : isP σ3 (20 + 40 * 0 + 10) (docOf A N (Hs A 0)) := p1
      have e := c_blockAt (n := 1000) p1' dk.1 hN (by decide) hb
      rw [show (20 + 40 * (0 : Int).toNat + 10) = 20 + 40 * 0 + 10 from rfl, xw_ok e]
      exact hK σ3 p1' p2 p3
    have opn : ∀ {Q : Int × St → Prop} (σ1 : St), Re σ1 A N nm nv → (∀ σ3, isD σ3 A N (Hs A 0) → Re σ3 A N nm nv → FrR σ1 σ3 → wp (b1 (fX6_isIn y2 1 3) (fun v3 => if v3 ≠ 0 then (b1 (fX6_isIn y3 0 2) (fun v4 => if v4 ≠ 0 then (if σ3 230 1 ≠ 160 then (fX6_allow_J51 1000 σ3 y1 y2 y3 0) else (fX6_allow_J51 1000 σ3 y1 y2 y3 3)) else (fX6_allow_J51 1000 σ3 y1 y2 y3 2))) else (fX6_allow_J19 1000 σ3 y1 y2 y3))) Q) → wp (fX6_allow 1000 σ1 y1 y2 y3) Q := by
      intro Q σ1 hr1 hK
      unfold fX6_allow
      refine wp_b2 (r_isBlock (w := y1) hI hr1 hx (by decide)) (fun v σ3 q => ?_)
      obtain ⟨q0, q1, q2, q3⟩ := q
      have q2 : Re σ3 A N nm nv := q2
      have q0' : v ≠ 0 := fun g => (q0.mp g) hb
      rw [if_neg q0']
      exact hK σ3 q1 q2 (FrR.ofF q3)
    by_cases h2 : 1 ≤ y2 ∧ y2 < 4
    · by_cases h3 : 0 ≤ y3 ∧ y3 ≤ 2
      · by_cases hN2 : N = 160
        · refine ⟨1000, So_fin (F := fun σ1 => fX6_allow 1000 σ1 y1 y2 y3) (g := fun v => v) (k := 3) (kk := 3) (v := 0) rfl (fun q => (by cases q)) hR hI (cls (fun σ3 p1 p2 p3 => ?_)) (fun σ1 hr1 => opn σ1 hr1 (fun σ3 q1 q2 f3 => ?_))⟩
          · rw [if_neg (by omega), if_pos (by omega), if_neg (by omega), if_pos (by omega), xw_x (c := 2) (by rw [c_room p2, if_neg (by omega)])]
            exact wp_some ⟨rfl, fun q => (by cases q), p2, p3⟩
          · refine wp_b1e (r_isIn _ _ _) ?_
            rw [decide_eq_true (by omega), if_pos (by decide)]
            refine wp_b1e (r_isIn _ _ _) ?_
            rw [decide_eq_true (by omega), if_pos (by decide), q2.1.1, if_neg (by omega)]
            unfold fX6_allow_J51
            exact r_bad (by decide) (r_badR (by decide) q2 f3)
        · have hm := ok10 (s := 0) (y := y2) (z := y3) (by omega) hs0 bk (by omega) h3
          refine ⟨1000, So_fin (F := fun σ1 => fX6_allow 1000 σ1 y1 y2 y3) (g := fun v => v) (k := 0) (kk := 0) (v := (N : Int)) rfl (fun _ => rfl) hR (hI.make hm) (cls (fun σ3 p1 p2 p3 => ?_)) (fun σ1 hr1 => opn σ1 hr1 (fun σ3 q1 q2 f3 => ?_))⟩
          · rw [if_neg (by omega), if_pos (by omega), if_neg (by omega), if_pos (by omega), xw_ok (by rw [c_room p2, if_pos (by omega)])]
            refine wp_b2 (c_make hI p2 hm (by decide)) (fun v σ5 q => wp_some ⟨rfl, fun _ => q.1, q.2.1, p3.tr q.2.2.1⟩)
          · refine wp_b1e (r_isIn _ _ _) ?_
            rw [decide_eq_true (by omega), if_pos (by decide)]
            refine wp_b1e (r_isIn _ _ _) ?_
            rw [decide_eq_true (by omega), if_pos (by decide), q2.1.1, if_pos (by omega)]
            unfold fX6_allow_J51
            refine wp_pf ?_
            have q5 : Re (st σ3 230 0 0) A N nm nv := q2.fr (FrS.up0 FrS.rf)
            have q4 := q1.fr0 (v := 0)
            have f4 : FrR σ1 (st σ3 230 0 0) := f3.upd (by decide)
            have e0 : st σ3 230 0 0 230 0 = 0 := by rw [st_row, if_pos rfl]
            generalize st σ3 230 0 0 = σ4 at q5 q4 f4 e0
            rw [if_pos (by omega)]
            refine wp_b1e (r_blN q4 q5.1 hN (by decide) hb) ?_
            have hmk := r_make' (σ := σ4) (x3 := y2) (x4 := blN (docOf A N (Hs A 0)) y1) (x5 := y3) (x6 := 0) (x7 := 0) hI hm q5 (by decide) (Or.inl rfl) ⟨fun g => absurd rfl g, fun _ => ⟨rfl, rfl, rfl⟩, fun g => absurd g (by omega), fun g => absurd g (by omega), fun g => absurd g (by decide), fun g => absurd g (by decide), fun g => absurd g (by decide), fun g => absurd g (by decide)⟩
            refine wp_b2 hmk (fun v σ5 q => wp_some ⟨?_, fun _ => q.1, q.2.1, f4.tr (FrM.R q.2.2)⟩)
            exact (q.2.2 230 0 (by omega) (by omega)).trans e0
      · refine ⟨1000, So_fin (F := fun σ1 => fX6_allow 1000 σ1 y1 y2 y3) (g := fun v => v) (k := 2) (kk := 2) (v := 0) rfl (fun q => (by cases q)) hR hI (cls (fun σ3 p1 p2 p3 => ?_)) (fun σ1 hr1 => opn σ1 hr1 (fun σ3 q1 q2 f3 => ?_))⟩
        · have : wp (fX5_allow_J47 1000 σ3 y1 y2 y3) (OkC σ A N nm nv 2 0) := wp_some ⟨rfl, fun q => (by cases q), p2, p3⟩
          rw [if_neg (by omega), if_pos (by omega)]
          by_cases g : y3 < 0
          · rw [if_pos g]; exact this
          · rw [if_neg g, if_neg (by omega)]; exact this
        · refine wp_b1e (r_isIn _ _ _) ?_
          rw [decide_eq_true (by omega), if_pos (by decide)]
          refine wp_b1e (r_isIn _ _ _) ?_
          rw [decide_eq_false h3, if_neg (by decide)]
          unfold fX6_allow_J51
          exact r_bad (by decide) (r_badR (by decide) q2 f3)
    · refine ⟨1000, So_fin (F := fun σ1 => fX6_allow 1000 σ1 y1 y2 y3) (g := fun v => v) (k := 1) (kk := 1) (v := 0) rfl (fun q => (by cases q)) hR hI (cls (fun σ3 p1 p2 p3 => ?_)) (fun σ1 hr1 => opn σ1 hr1 (fun σ3 q1 q2 f3 => ?_))⟩
      · have : wp (fX5_allow_J28 1000 σ3 y1 y2 y3) (OkC σ A N nm nv 1 0) := wp_some ⟨rfl, fun q => (by cases q), p2, p3⟩
        by_cases g : y2 < 1
        · rw [if_pos g]; exact this
        · rw [if_neg g, if_neg (by omega)]; exact this
      · refine wp_b1e (r_isIn _ _ _) ?_
        rw [decide_eq_false (by omega), if_neg (by decide)]
        unfold fX6_allow_J19 fX6_allow_J51
        exact r_bad (by decide) (r_badR (by decide) q2 f3)
  · refine ⟨1000, So_fin (F := fun σ1 => fX6_allow 1000 σ1 y1 y2 y3) (g := fun v => v) (k := 1) (kk := 1) (v := 0) rfl (fun q => (by cases q)) hR hI ?_ (fun σ1 hr1 => ?_)⟩
    · unfold fX5_allow
      refine c_open hI.1 hC hx (by decide) (fun σ3 p1 p2 p3 => ?_)
      have p1' : isP σ3 (20 + 40 * 0 + 10) (docOf A N (Hs A 0)) := p1
      have e := c_blockNo (n := 1000) p1' (by decide) hb
      rw [show (20 + 40 * (0 : Int).toNat + 10) = 20 + 40 * 0 + 10 from rfl, xw_x e]
      exact wp_some ⟨rfl, fun q => (by cases q), p2, p3⟩
    · unfold fX6_allow
      refine wp_b2 (r_isBlock (w := y1) hI hr1 hx (by decide)) (fun v σ3 q => ?_)
      obtain ⟨q0, q1, q2, q3⟩ := q
      have q2 : Re σ3 A N nm nv := q2
      have q0' : v = 0 := q0.mpr hb
      rw [if_pos q0']
      unfold fX6_allow_J19 fX6_allow_J51
      exact r_bad (by decide) (r_badR (by decide) q2 (FrR.ofF q3))
end BLK
