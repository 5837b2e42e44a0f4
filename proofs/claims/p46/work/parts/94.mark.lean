/-! ===== mark, comment ===== -/
section MARK
variable {σ τ A : St} {N nm nv n s : Nat} {D : Dc} {S : Int → Bool} {k x y z p : Int}
def selLo (A : St) (N s : Nat) : Int := imin (thr (docOf A N (Hs A s)) (A 248 s)) (thr (docOf A N (Hs A s)) (A 249 s))
def selHi (A : St) (N s : Nat) : Int := imax (thr (docOf A N (Hs A s)) (A 248 s)) (thr (docOf A N (Hs A s)) (A 249 s))
theorem sel_r (hI : Inv A N nm nv) (hs : s < 4) : 0 ≤ selLo A N s ∧ selLo A N s ≤ selHi A N s ∧ selHi A N s ≤ cnt (seenB (docOf A N (Hs A s))) (docOf A N (Hs A s)).1 ∧ cnt (seenB (docOf A N (Hs A s))) (docOf A N (Hs A s)).1 ≤ (N : Int) ∧ (selLo A N s = selHi A N s ↔ thr (docOf A N (Hs A s)) (A 248 s) = thr (docOf A N (Hs A s)) (A 249 s)) := by
  have h1 := thr_r (D := docOf A N (Hs A s)) (e := A 248 s)
  have h2 := thr_r (D := docOf A N (Hs A s)) (e := A 249 s)
  have h3 := (cnt_le (seenB (docOf A N (Hs A s))) (docOf A N (Hs A s)).1).2
  have h4 := (hI.dk hs).2.2.2.2
  unfold selLo selHi imin imax
  split <;> split <;> omega
def okS (A : St) (N s : Nat) : Prop := selLo A N s ≠ selHi A N s ∧ N < 160
def sx (A : St) (N s : Nat) : Int := elAt (docOf A N (Hs A s)) (selLo A N s)
def sy (A : St) (N s : Nat) : Int := elAt (docOf A N (Hs A s)) (selHi A N s - 1)
theorem sel_in (hI : Inv A N nm nv) (hs : s < 4) {w : Int} (h1 : selLo A N s ≤ w) (h2 : w < selHi A N s) : isEl (docOf A N (Hs A s)) w := by
  have h := sel_r hI hs
  exact ⟨by omega, by omega⟩
theorem el_ok (hI : Inv A N nm nv) (hs : s < 4) {w : Int} (h : isEl (docOf A N (Hs A s)) w) : Hs A s (elAt (docOf A N (Hs A s)) w) = true ∧ mkE A N (elAt (docOf A N (Hs A s)) w) = true := by
  have := ((hI.dk hs).2.1 _).mp (elAt_in h).1
  exact ⟨(List.mem_filter.mp this.1).2, this.2⟩
theorem c_onSel (hI : Inv A N nm nv) (hC : Cl σ A N nm nv) (hP : isP σ (20 + 40 * s + 10) (docOf A N (Hs A s))) (hs : s < 4) (hn : 200 ≤ n) (k z p : Int) :
    (okS A N s → okM A N s k (sx A N s) (sy A N s) z p → wp (fX5_writeOnSelection n σ (20 + 40 * s) (20 + 40 * s + 10) k z p) (fun r => r.1 = 0 ∧ r.2.1 = (N : Int) ∧ Cl r.2.2 (mkA A N s k (sx A N s) (sy A N s) z p) (N + 1) nm nv ∧ FrC σ r.2.2)) ∧ (¬ okS A N s → fX5_writeOnSelection n σ (20 + 40 * s) (20 + 40 * s + 10) k z p = some (3, 0, σ)) := by
  have w := hC.site hs
  have hr := sel_r hI hs
  have hN := hI.1.2.1
  have e8 : fX3_seenThrough n σ (20 + 40 * s + 10) (σ (20 + 40 * s) 8) = some (thr (docOf A N (Hs A s)) (A 248 s)) := by rw [w.2.2.2.2.1]; exact q_seenThrough hP (by omega) _
  have e9 : fX3_seenThrough n σ (20 + 40 * s + 10) (σ (20 + 40 * s) 9) = some (thr (docOf A N (Hs A s)) (A 249 s)) := by rw [w.2.2.2.2.2.1]; exact q_seenThrough hP (by omega) _
  constructor
  · rintro ⟨hl, hN2⟩ hm
    unfold fX5_writeOnSelection
    refine wp_b1e e8 (wp_b1e e9 ?_)
    rw [if_pos (fun g => hl (hr.2.2.2.2.mpr g)), xw_ok (by rw [c_room hC, if_pos (by omega)])]
    refine wp_vl ?_
    show wp (b1 (fX3_seenAt n σ (20 + 40 * s + 10) (selLo A N s)) _) _
    refine wp_b1e (q_seenAt hP (by omega) _) (wp_vl ?_)
    show wp (ck (selHi A N s - 1) _) _
    refine wp_ck (by omega) (by omega) (wp_b1e (q_seenAt hP (by omega) _) ?_)
    show wp (b2 (fX5_make n σ (20 + 40 * s) k (sx A N s) (sy A N s) z p) _) _
    refine wp_b2 (c_make hI hC hm hn) (fun v σ5 q => wp_some ⟨rfl, q.1, q.2.1, q.2.2.1⟩)
  · intro hno
    unfold fX5_writeOnSelection
    rw [b1_ok e8, b1_ok e9]
    by_cases hl : thr (docOf A N (Hs A s)) (A 248 s) = thr (docOf A N (Hs A s)) (A 249 s)
    · rw [if_neg (fun g => g hl)]
    · have hN2 : ¬ N < 160 := fun g => hno ⟨fun g2 => hl (hr.2.2.2.2.mp g2), g⟩
      rw [if_pos hl, xw_x (c := 2) (by rw [c_room hC, if_neg (by omega)])]
theorem sel_m4 (hI : Inv A N nm nv) (hs : s < 4) (h : okS A N s) {z p : Int} (hz : 0 ≤ z ∧ z < 2) (hp : isB p) : okM A N s 4 (sx A N s) (sy A N s) z p := by
  have hr := sel_r hI hs
  obtain ⟨h1, h2⟩ := h
  refine ⟨⟨h2, hs⟩, by omega, hp, by omega, fun g => ?_, fun g => ?_, fun _ => ⟨el_ok hI hs (sel_in hI hs (by omega) (by omega)), el_ok hI hs (sel_in hI hs (by omega) (by omega))⟩, fun _ => hz, fun g => ?_, fun g => ?_, fun g => ?_, fun g => ?_, fun g => ?_⟩ <;> (exfalso; omega)
theorem sel_m7 (hI : Inv A N nm nv) (hs : s < 4) (h : okS A N s) (hz : A 8 9 < 20) : okM A N s 7 (sx A N s) (sy A N s) (A 8 9) 0 := by
  have hr := sel_r hI hs
  have h9 := hI.1.2.2.1
  obtain ⟨h1, h2⟩ := h
  refine ⟨⟨h2, hs⟩, by omega, Or.inl rfl, by omega, fun g => ?_, fun g => ?_, fun _ => ⟨el_ok hI hs (sel_in hI hs (by omega) (by omega)), el_ok hI hs (sel_in hI hs (by omega) (by omega))⟩, fun g => ?_, fun g => ⟨by omega, hz⟩, fun g => ?_, fun g => ?_, fun g => ?_, fun g => ?_⟩ <;> (exfalso; omega)
theorem c_mark {v : Int} : fX5_checkMark σ v = if v = 0 ∨ v = 1 then some (0, 0, σ) else some (2, 0, σ) := by
  unfold fX5_checkMark
  by_cases q : v = 0
  · rw [if_pos q, if_pos (Or.inl q)]
  · rw [if_neg q]
    by_cases q1 : v = 1
    · rw [if_pos q1, if_pos (Or.inr q1)]
    · rw [if_neg q1, if_neg (by omega)]
end MARK

