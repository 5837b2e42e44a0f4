/-! ===== decide, undo, redo ===== -/
section UNDO
variable {σ τ A : St} {N nm nv n s : Nat} {D : Dc} {S : Int → Bool} {k x y z p : Int}
def okD (A : St) (N s : Nat) (w : Int) : Prop := (openB A N (docOf A N (Hs A s)) w = true ∧ lev (docOf A N (Hs A s)) (s : Int) (blk (docOf A N (Hs A s)) (elemOf A N w)) = 0) ∧ N < 160
theorem okx (hN : N < 160) (hs : s < 4) (hk : k = 8 ∨ k = 9 ∨ k = 11 ∨ k = 12) (hx : Hs A s x = true) : okM A N s k x (-1) 0 0 := by
  refine ⟨⟨hN, hs⟩, by omega, Or.inl rfl, by omega, fun g => ?_, fun g => ?_, fun g => ?_, fun g => ?_, fun g => ?_, fun g => ?_, fun g => ?_, fun g => ?_, fun _ => hx⟩ <;> (exfalso; omega)
theorem rmx (hk : k = 8 ∨ k = 9 ∨ k = 11 ∨ k = 12) (c : Int) : rmap k x (-1) 0 0 x 0 0 0 0 c :=
  ⟨fun _ => rfl, fun g => by omega, fun g => by omega, fun g => by omega, fun g => by omega, fun g => by omega, fun g => by omega, fun g => by omega⟩
theorem so_decide : So_decide Rel := by
  intro nm nv σ y1 y2 y3 ⟨A, N, hI, hC, hR⟩ _ _ _ _
  generalize nz y3 = p
  have hN := hI.1.2.1
  refine ⟨1000, ?_⟩
  have bad : ∀ σ1, Re σ1 A N nm nv → wp (fX6_decide_J21 1000 σ1 y1 y2 p) (OkR σ1 A N nm nv 1 0) := by
    intro σ1 hr1
    unfold fX6_decide_J21 fX6_decide_J22
    exact r_bad (by decide) (r_badR (by decide) hr1 FrR.rf)
  by_cases hx : 0 ≤ y1 ∧ y1 < 4
  · have hs : y1.toNat < 4 := by omega
    by_cases hh : Hs A y1.toNat y2 = true
    · have h2 := Hs_lt hI hs hh
      have dk := hI.dk hs
      have hcl := (hI.2.1 y1.toNat hs).cl hN
      have hin : y2 ∈ (OL A N).filter (Hs A y1.toNat) := by rw [List.mem_filter, hI.1.2.2.2.2.1.2]; exact ⟨h2, hh⟩
      have ha := dk.act hI.1 hcl hin
      have cls : ∀ {Q : Nat × Int × St → Prop}, (∀ σ3, Cl σ3 A N nm nv → FrC σ σ3 → wp (if b2i (openB A N (docOf A N (Hs A y1.toNat)) y2 && decide (lev (docOf A N (Hs A y1.toNat)) (y1.toNat : Int) (blk (docOf A N (Hs A y1.toNat)) (elemOf A N y2)) = 0)) ≠ 0 then (xw 0 (fX5_checkRoomFor σ3 1) (fun v9 σ8 => if p = 0 then (fX5_decide_J59 1000 σ8 y1 y2 p 9 (20 + 40 * y1.toNat)) else (fX5_decide_J59 1000 σ8 y1 y2 p 8 (20 + 40 * y1.toNat)))) else (some (3, 0, σ3))) Q) → wp (fX5_decide 1000 σ y1 y2 p) Q := by
        intro Q hK
        unfold fX5_decide
        rw [xw_ok (c_siteAt hx), xw_ok (by rw [c_held (hC.site hs), if_pos hh])]
        refine wp_b2 (c_paperOf hI.1 hC hs (by decide)) (fun o s q => ?_)
        obtain ⟨q1, q2, q3, q4⟩ := q
        have q1' : o = 20 + 40 * y1.toNat + 10 := q1
        subst q1'
        have e0 : s (20 + 40 * y1.toNat) 0 = (y1.toNat : Int) := (q3.site hs).1
        rw [e0]
        exact wp_b1e (q_mayDecide q2 q3.1 (by decide) _ _) (hK s q3 q4)
      have ref : ∀ σ1, Re σ1 A N nm nv → wp (fX6_decide 1000 σ1 y1 y2 p) (fun r => (okD A N y1.toNat y2 → r.2 230 0 = 0 ∧ r.1 = (N : Int) ∧ Re r.2 (mkA A N y1.toNat (if p = 0 then 9 else 8) y2 (-1) 0 0) (N + 1) nm nv) ∧ (¬ okD A N y1.toNat y2 → r.2 230 0 = 2 ∧ Re r.2 A N nm nv) ∧ FrR σ1 r.2) := by
        intro σ1 hr1
        unfold fX6_decide
        refine wp_b1e (r_isSite y1) ?_
        rw [decide_eq_true hx, if_neg (by decide)]
        refine wp_b1e (r_hasAct hI hr1 hx) ?_
        rw [hh, if_neg (by decide)]
        unfold fX6_decide_J22
        refine wp_pf ?_
        rw [if_pos (by rw [st_row, if_pos rfl]; decide)]
        have f0 := (FrS.up0 (v := 0) (FrS.rf (σ := σ1))).R
        have hsi := r_site hI.1 (hI.2.1 y1.toNat hs) (hr1.fr (FrS.up0 (v := 0) FrS.rf)) hs (n := 1000) (by decide)
        rw [Int.toNat_of_nonneg hx.1] at hsi
        refine wp_b1 hsi (fun σ3 q => ?_)
        obtain ⟨q1, q2, q3⟩ := q
        have f3 : FrR σ1 σ3 := f0.tr (FrR.ofF q3)
        refine wp_b1e (r_isOpenE q1.r q2.1 q1.d hN h2 ha.2.1 (fun g => ha.2.2 (Or.inl g))) ?_
        have no : ¬ okD A N y1.toNat y2 → wp (fX6_decide_J78 1000 σ3 y1 y2 p) (fun r => (okD A N y1.toNat y2 → r.2 230 0 = 0 ∧ r.1 = (N : Int) ∧ Re r.2 (mkA A N y1.toNat (if p = 0 then 9 else 8) y2 (-1) 0 0) (N + 1) nm nv) ∧ (¬ okD A N y1.toNat y2 → r.2 230 0 = 2 ∧ Re r.2 A N nm nv) ∧ FrR σ1 r.2) := by
          intro hno
          unfold fX6_decide_J78 fX6_decide_J79
          rw [if_pos rfl]
          unfold fX6_decide_J92
          exact r_bad (by decide) ⟨fun g => absurd g hno, fun _ => ⟨by show st σ3 230 0 2 230 0 = 2; rw [st_row, if_pos rfl], q2.fr (FrS.up0 FrS.rf)⟩, f3.upd (by decide)⟩
        cases ho : openB A N (docOf A N (Hs A y1.toNat)) y2 with
        | false => rw [if_pos (by rfl)]; exact no (fun g => by rw [g.1.1] at ho; cases ho)
        | true =>
          rw [if_neg (by decide)]
          have hel : (mkE A N y2 = true ∧ y2 ∈ (docOf A N (Hs A y1.toNat)).1) ∨ (mkE A N y2 = false ∧ A 11 y2.toNat = 2 ∧ A 12 y2.toNat ∈ (docOf A N (Hs A y1.toNat)).1) := by
            by_cases hm : mkE A N y2 = true
            · exact Or.inl ⟨hm, ha.2.1 hm⟩
            · refine Or.inr ⟨Bool.eq_false_iff.mpr hm, ?_⟩
              have ho2 := ho
              unfold openB at ho2
              rw [Bool.and_eq_true, Bool.or_eq_true, decide_eq_true_iff, decide_eq_true_iff, Bool.and_eq_true, decide_eq_true_iff] at ho2
              have e : ((y2.toNat : Nat) : Int) = y2 := Int.toNat_of_nonneg h2.1
              rcases ho2.2 with g | g
              · exfalso
                have : (y2.toNat : Int) ∉ (docOf A N (Hs A y1.toNat)).1 := fun w => by
                  rw [e] at w
                  exact hm (dk.1.2.1 y2 w)
                have := (dk.1.2.2.2.1 y2.toNat this).1
                omega
              · have k2 := ((dk.1.2.2.2.2.1 y2.toNat).2 g.1).2
                exact ⟨k2, ha.2.2 (Or.inl k2)⟩
          have eEl : fX6_elementOf σ3 y2 = some (elemOf A N y2) := by
            have rt := q2.1.2 y2.toNat (by omega)
            unfold fX6_elementOf elemOf
            rw [rd_ok h2.1 (by omega), rt.2.2.1]
            rcases hel with g | g
            · have := (mkE_num g.1).2
              rw [if_pos (by omega), if_pos g.1]
            · rw [if_neg (by omega), rd_ok h2.1 (by omega), if_neg (by rw [g.1]; decide), gt_i h2, rt.2.2.2.1 (by omega)]
          have eIn : elemOf A N y2 ∈ (docOf A N (Hs A y1.toNat)).1 := by
            unfold elemOf
            rcases hel with g | g
            · rw [if_pos g.1]; exact g.2
            · rw [if_neg (by rw [g.1]; decide), gt_i h2]; exact g.2.2
          refine wp_b1e eEl (wp_b1e (r_blockOf q1.r q2.1 q1.d hN (by decide) (Or.inr eIn)) ?_)
          have hb := blk_in dk.1 hN (elemOf A N y2)
          refine wp_b1e (r_levelIn q1.r hx hb) ?_
          rw [show lev (docOf A N (Hs A y1.toNat)) y1 (blk (docOf A N (Hs A y1.toNat)) (elemOf A N y2)) = lev (docOf A N (Hs A y1.toNat)) (y1.toNat : Int) (blk (docOf A N (Hs A y1.toNat)) (elemOf A N y2)) by rw [Int.toNat_of_nonneg hx.1]]
          by_cases g : lev (docOf A N (Hs A y1.toNat)) (y1.toNat : Int) (blk (docOf A N (Hs A y1.toNat)) (elemOf A N y2)) = 0
          · rw [if_neg (fun w => w g), q2.1.1]
            by_cases hN2 : N = 160
            · rw [if_pos (by omega)]; exact no (fun g => by have := g.2; omega)
            · rw [if_neg (by omega)]
              unfold fX6_decide_J79
              rw [if_neg (by decide)]
              unfold fX6_decide_J92
              refine wp_pf ?_
              have q5 : Re (st σ3 230 0 0) A N nm nv := q2.fr (FrS.up0 FrS.rf)
              have f4 : FrR σ1 (st σ3 230 0 0) := f3.upd (by decide)
              have e0 : st σ3 230 0 0 230 0 = 0 := by rw [st_row, if_pos rfl]
              generalize st σ3 230 0 0 = σ4 at q5 f4 e0
              rw [if_pos (by omega)]
              have fin : ∀ kk : Int, (kk = 8 ∨ kk = 9) → kk = (if p = 0 then 9 else 8) → wp (fX6_decide_J119 1000 σ4 y1 y2 p kk y1) (fun r => (okD A N y1.toNat y2 → r.2 230 0 = 0 ∧ r.1 = (N : Int) ∧ Re r.2 (mkA A N y1.toNat (if p = 0 then 9 else 8) y2 (-1) 0 0) (N + 1) nm nv) ∧ (¬ okD A N y1.toNat y2 → r.2 230 0 = 2 ∧ Re r.2 A N nm nv) ∧ FrR σ1 r.2) := by
                intro kk hk ek
                unfold fX6_decide_J119
                have hk' : kk = 8 ∨ kk = 9 ∨ kk = 11 ∨ kk = 12 := by omega
                have hmk := r_make' (σ := σ4) hI (okx (k := kk) (by omega) hs hk' hh) q5 (by omega) (Or.inl rfl) (rmx hk' _)
                rw [Int.toNat_of_nonneg hx.1] at hmk
                rw [← ek]
                refine wp_b2 hmk (fun v σ5 q => wp_some ⟨fun _ => ⟨?_, q.1, q.2.1⟩, fun h => absurd ⟨⟨ho, g⟩, by omega⟩ h, f4.tr (FrM.R q.2.2)⟩)
                exact (q.2.2 230 0 (by omega) (by omega)).trans e0
              by_cases gp : p = 0
              · rw [if_pos gp]; exact fin 9 (by decide) (by rw [if_pos gp])
              · rw [if_neg gp]; exact fin 8 (by decide) (by rw [if_neg gp])
          · rw [if_pos g]; exact no (fun w => g w.1.2)
      by_cases ok : okD A N y1.toNat y2
      · have hk' : (if p = 0 then (9 : Int) else 8) = 8 ∨ (if p = 0 then (9 : Int) else 8) = 9 ∨ (if p = 0 then (9 : Int) else 8) = 11 ∨ (if p = 0 then (9 : Int) else 8) = 12 := by split <;> omega
        have hm := okx ok.2 hs hk' hh
        refine So_fin (F := fun σ1 => fX6_decide 1000 σ1 y1 y2 p) (g := fun v => v) (k := 0) (kk := 0) (v := (N : Int)) rfl (fun _ => rfl) hR (hI.make hm) (cls (fun σ3 p2 p3 => ?_)) (fun σ1 hr1 => ?_)
        · rw [ok.1.1, decide_eq_true ok.1.2, if_pos (by decide), xw_ok (by rw [c_room p2, if_pos (by have := ok.2; omega)])]
          have fin : ∀ kk : Int, kk = (if p = 0 then 9 else 8) → wp (fX5_decide_J59 1000 σ3 y1 y2 p kk (20 + 40 * y1.toNat)) (OkC σ (mkA A N y1.toNat (if p = 0 then 9 else 8) y2 (-1) 0 0) (N + 1) nm nv 0 (N : Int)) := by
            intro kk ek
            unfold fX5_decide_J59
            rw [ek]
            exact wp_b2 (c_make hI p2 hm (by decide)) (fun v σ5 q => wp_some ⟨rfl, fun _ => q.1, q.2.1, p3.tr q.2.2.1⟩)
          by_cases gp : p = 0
          · rw [if_pos gp]; exact fin 9 (by rw [if_pos gp])
          · rw [if_neg gp]; exact fin 8 (by rw [if_neg gp])
        · exact wp_mono (ref σ1 hr1) (fun r q => ⟨(q.1 ok).1, fun _ => (q.1 ok).2.1, (q.1 ok).2.2, q.2.2⟩)
      · refine So_fin (F := fun σ1 => fX6_decide 1000 σ1 y1 y2 p) (g := fun v => v) (k := 3) (kk := 2) (v := 0) rfl (fun q => (by cases q)) hR hI (cls (fun σ3 p2 p3 => ?_)) (fun σ1 hr1 => ?_)
        · by_cases h1 : openB A N (docOf A N (Hs A y1.toNat)) y2 = true ∧ lev (docOf A N (Hs A y1.toNat)) (y1.toNat : Int) (blk (docOf A N (Hs A y1.toNat)) (elemOf A N y2)) = 0
          · have hN2 : ¬ N < 160 := fun g => ok ⟨h1, g⟩
            rw [h1.1, decide_eq_true h1.2, if_pos (by decide), xw_x (c := 2) (by rw [c_room p2, if_neg (by omega)])]
            exact wp_some ⟨rfl, fun q => (by cases q), p2, p3⟩
          · have : (openB A N (docOf A N (Hs A y1.toNat)) y2 && decide (lev (docOf A N (Hs A y1.toNat)) (y1.toNat : Int) (blk (docOf A N (Hs A y1.toNat)) (elemOf A N y2)) = 0)) = false := by
              rw [Bool.eq_false_iff]
              intro g
              rw [Bool.and_eq_true, decide_eq_true_iff] at g
              exact h1 g
            rw [this, if_neg (by decide)]
            exact wp_some ⟨rfl, fun q => (by cases q), p2, p3⟩
        · exact wp_mono (ref σ1 hr1) (fun r q => ⟨(q.2.1 ok).1, fun q => (by cases q), (q.2.1 ok).2, q.2.2⟩)
    · refine So_fin (F := fun σ1 => fX6_decide 1000 σ1 y1 y2 p) (g := fun v => v) (k := 1) (kk := 1) (v := 0) rfl (fun q => (by cases q)) hR hI ?_ (fun σ1 hr1 => ?_)
      · unfold fX5_decide
        rw [xw_ok (c_siteAt hx), xw_x (by rw [c_held (hC.site hs), if_neg hh])]
        exact wp_some ⟨rfl, fun q => (by cases q), hC, FrC.rf⟩
      · unfold fX6_decide
        refine wp_b1e (r_isSite y1) ?_
        rw [decide_eq_true hx, if_neg (by decide)]
        refine wp_b1e (r_hasAct hI hr1 hx) ?_
        rw [Bool.eq_false_iff.mpr hh, if_pos (by decide)]
        exact bad σ1 hr1
  · refine So_fin (F := fun σ1 => fX6_decide 1000 σ1 y1 y2 p) (g := fun v => v) (k := 1) (kk := 1) (v := 0) rfl (fun q => (by cases q)) hR hI (by unfold fX5_decide; exact c_no hC hx) (fun σ1 hr1 => ?_)
    unfold fX6_decide
    refine wp_b1e (r_isSite y1) ?_
    rw [decide_eq_false hx, if_pos (by rfl)]
    exact bad σ1 hr1
/-- the last act that may be undone, redone -/
def uS (A : St) (s : Nat) (D : Dc) (acc a : Int) : Int := if A 9 a.toNat = (s : Int) ∧ A 11 a.toNat ≤ 7 ∧ D.2 9 a.toNat = 0 then a else acc
def rS (A : St) (s : Nat) (D : Dc) (q : Int × Int) (a : Int) : Int × Int := if A 9 a.toNat = (s : Int) ∧ A 11 a.toNat = 11 ∧ D.2 9 (A 12 a.toNat).toNat ≠ 0 then (a, 0) else if A 9 a.toNat = (s : Int) ∧ A 11 a.toNat ≤ 7 then (q.1, 1) else q
def rV (A : St) (q : Int × Int) : Int := if q.1 = -1 ∨ q.2 ≠ 0 then -1 else A 12 q.1.toNat
theorem rS_1 {acc : Int × Int} {a : Int} (g1 : A 9 a.toNat = (s : Int)) (g2 : A 11 a.toNat ≤ 7) : rS A s D acc a = (acc.1, 1) := by
  unfold rS; rw [if_neg (fun w => by have := w.2.1; omega), if_pos ⟨g1, g2⟩]
theorem rS_2 {acc : Int × Int} {a : Int} (h : A 9 a.toNat = (s : Int) ∧ A 11 a.toNat = 11 ∧ D.2 9 (A 12 a.toNat).toNat ≠ 0) : rS A s D acc a = (a, 0) := if_pos h
theorem rS_3 {acc : Int × Int} {a : Int} (h : ¬ (A 9 a.toNat = (s : Int) ∧ A 11 a.toNat = 11 ∧ D.2 9 (A 12 a.toNat).toNat ≠ 0)) (h2 : ¬ (A 9 a.toNat = (s : Int) ∧ A 11 a.toNat ≤ 7)) : rS A s D acc a = acc := by
  unfold rS; rw [if_neg h, if_neg h2]
theorem OL_take (i : Nat) (hi : i < N) : (OL A N).take (i + 1) = (OL A N).take i ++ [A 16 i] := by
  have e : (OL A N)[i]? = some (A 16 i) := by
    have := seg_get (A 16) N 0 i
    rw [if_pos hi, Nat.zero_add] at this; exact this
  rw [List.take_succ, e]; rfl
theorem c_made (hI : Inv A N nm nv) (hC : Cl σ A N nm nv) (hs : s < 4) {a : Int} (ha : 0 ≤ a ∧ a < (N : Int)) : fX5_madeAndHas σ (20 + 40 * s) a = some (b2i (decide (A 9 a.toNat = (s : Int)) && Hs A s a)) := by
  have w := hC.site hs
  unfold fX5_madeAndHas
  rw [b1_ok (q_siteOf hC.1 a), gt_i ha, w.1]
  by_cases q : A 9 a.toNat = (s : Int)
  · rw [if_neg (fun g => g q), b1_ok (q_contains σ _ a), w.has, decide_eq_true q]
    cases Hs A s a <;> rfl
  · rw [if_pos q, decide_eq_false q]; rfl
theorem c_lastU (hI : Inv A N nm nv) (hC : Cl σ A N nm nv) (hP : isP σ (20 + 40 * s + 10) (docOf A N (Hs A s))) (hs : s < 4) (hn : 200 ≤ n) : fX5_lastNotUndone n σ (20 + 40 * s) (20 + 40 * s + 10) = some (((OL A N).filter (Hs A s)).foldl (uS A s (docOf A N (Hs A s))) (-1)) := by
  have hN := hI.1.2.1
  have to := hI.1.to
  have key1 : ∀ k m : Nat, k ≤ N → k < m → fX5_lastNotUndone_L10 n σ (20 + 40 * s) (20 + 40 * s + 10) m ((k : Int) - 1) = some ((((OL A N).take k).filter (Hs A s)).foldl (uS A s (docOf A N (Hs A s))) (-1)) := by
    intro k
    induction k with
    | zero =>
      intro m _ hm
      obtain ⟨m, rfl⟩ : ∃ q, m = q + 1 := ⟨m - 1, by omega⟩
      unfold fX5_lastNotUndone_L10
      rw [lpR_s]
      unfold fX5_lastNotUndone_L10s
      rw [if_pos (by omega), List.take_zero]; rfl
    | succ k ih =>
      intro m hk hm
      obtain ⟨m, rfl⟩ : ∃ q, m = q + 1 := ⟨m - 1, by omega⟩
      unfold fX5_lastNotUndone_L10
      rw [lpR_s]
      have ih2 := ih m (by omega) (by omega)
      unfold fX5_lastNotUndone_L10 at ih2
      generalize lpR (fun _ => none) (fX5_lastNotUndone_L10s n σ (20 + 40 * s) (20 + 40 * s + 10)) m = lp at ih2
      have ha := to.1 k (by omega)
      unfold fX5_lastNotUndone_L10s
      rw [if_neg (by omega), show ((k + 1 : Nat) : Int) - 1 = (k : Int) by omega, b1_ok (q_inOrder hC.1 _), OL_in to (by omega), OL_take k (by omega), List.filter_append, List.foldl_append, b1_ok (c_made hI hC hs ha), ck_ok (by omega) (by omega), show (k : Int) + (-1) = (k : Int) - 1 by omega, ih2]
      generalize (((OL A N).take k).filter (Hs A s)).foldl (uS A s (docOf A N (Hs A s))) (-1) = acc
      cases hh : Hs A s (A 16 k) with
      | false =>
        rw [Bool.and_false, if_pos (by rfl), List.filter_cons_of_neg (by rw [hh]; decide)]; rfl
      | true =>
        rw [Bool.and_true, List.filter_cons_of_pos (by rw [hh]), List.filter_nil]
        show _ = some (uS A s (docOf A N (Hs A s)) acc (A 16 k))
        unfold uS
        by_cases g1 : A 9 (A 16 k).toNat = (s : Int)
        · rw [decide_eq_true g1, if_neg (by decide), b1_ok (q_isUndoable hC.1 _)]
          by_cases g2 : A 11 (A 16 k).toNat ≤ 7
          · rw [decide_eq_true ⟨ha, g2⟩, if_neg (by decide), b1_ok (q_wasUndone hP _)]
            by_cases g3 : (docOf A N (Hs A s)).2 9 (A 16 k).toNat = 0
            · rw [decide_eq_false (fun w => w.2 g3), if_neg (by decide), if_pos ⟨g1, g2, g3⟩]
            · rw [decide_eq_true ⟨show 0 ≤ A 16 k ∧ A 16 k < 160 by omega, g3⟩, if_pos (by decide), if_neg (fun w => g3 w.2.2)]
          · rw [decide_eq_false (fun w => g2 w.2), if_pos (by rfl), if_neg (fun w => g2 w.2.1)]
        · rw [decide_eq_false g1, if_pos (by rfl), if_neg (fun w => g1 w.1)]
  have := key1 N n (Nat.le_refl _) (by omega)
  unfold fX5_lastNotUndone
  rw [hC.1.made, ck_ok (by omega) (by omega), this, List.take_of_length_le (by rw [show (OL A N).length = N from seg_len _ _ _]; exact Nat.le_refl _)]
theorem c_lastR (hI : Inv A N nm nv) (hC : Cl σ A N nm nv) (hP : isP σ (20 + 40 * s + 10) (docOf A N (Hs A s))) (hs : s < 4) (hn : 200 ≤ n) : fX5_lastToRedo n σ (20 + 40 * s) (20 + 40 * s + 10) = some (rV A (((OL A N).filter (Hs A s)).foldl (rS A s (docOf A N (Hs A s))) (-1, 0))) := by
  have hN := hI.1.2.1
  have to := hI.1.to
  have key1 : ∀ k m : Nat, k ≤ N → k < m → fX5_lastToRedo_L10 n σ (20 + 40 * s) (20 + 40 * s + 10) m ((k : Int) - 1) = some (rV A ((((OL A N).take k).filter (Hs A s)).foldl (rS A s (docOf A N (Hs A s))) (-1, 0))) := by
    intro k
    induction k with
    | zero =>
      intro m _ hm
      obtain ⟨m, rfl⟩ : ∃ q, m = q + 1 := ⟨m - 1, by omega⟩
      unfold fX5_lastToRedo_L10
      rw [lpR_s]
      unfold fX5_lastToRedo_L10s
      rw [if_pos (by omega), List.take_zero]; rfl
    | succ k ih =>
      intro m hk hm
      obtain ⟨m, rfl⟩ : ∃ q, m = q + 1 := ⟨m - 1, by omega⟩
      unfold fX5_lastToRedo_L10
      rw [lpR_s]
      have ih2 := ih m (by omega) (by omega)
      unfold fX5_lastToRedo_L10 at ih2
      generalize lpR (fun _ => none) (fX5_lastToRedo_L10s n σ (20 + 40 * s) (20 + 40 * s + 10)) m = lp at ih2
      have ha := to.1 k (by omega)
      have v14 := fun g => (hI.1.2.2.2.1 (A 16 k).toNat (by omega)).2.2.2.2.2.2.2.2.2.2.2.2.2 (Or.inr (Or.inr (Or.inl g)))
      unfold fX5_lastToRedo_L10s
      rw [if_neg (by omega), show ((k + 1 : Nat) : Int) - 1 = (k : Int) by omega, b1_ok (q_inOrder hC.1 _), OL_in to (by omega), OL_take k (by omega), List.filter_append, List.foldl_append, b1_ok (c_made hI hC hs ha), ck_ok (by omega) (by omega), show (k : Int) + (-1) = (k : Int) - 1 by omega, ih2]
      generalize (((OL A N).take k).filter (Hs A s)).foldl (rS A s (docOf A N (Hs A s))) (-1, 0) = acc
      cases hh : Hs A s (A 16 k) with
      | false =>
        rw [Bool.and_false, if_neg (by decide), List.filter_cons_of_neg (by rw [hh]; decide)]; rfl
      | true =>
        rw [Bool.and_true, List.filter_cons_of_pos (by rw [hh]), List.filter_nil]
        show _ = some (rV A (rS A s (docOf A N (Hs A s)) acc (A 16 k)))
        by_cases g1 : A 9 (A 16 k).toNat = (s : Int)
        · rw [decide_eq_true g1, if_pos (by decide), b1_ok (q_isUndoable hC.1 _)]
          by_cases g2 : A 11 (A 16 k).toNat ≤ 7
          · rw [decide_eq_true ⟨ha, g2⟩, if_neg (by decide), rS_1 g1 g2]
            unfold rV; rw [if_pos (Or.inr (show (1 : Int) ≠ 0 by decide))]
          · rw [decide_eq_false (fun w => g2 w.2), if_pos (by rfl), b1_ok (q_kindOfA hC.1 _), gt_i ha]
            by_cases g3 : A 11 (A 16 k).toNat = 11
            · have w := v14 g3
              clear v14
              rw [if_neg (fun h => h g3), b1_ok (q_firstOf hC.1 _), gt_i ha, b1_ok (q_wasUndone hP _)]
              by_cases g4 : (docOf A N (Hs A s)).2 9 (A 12 (A 16 k).toNat).toNat = 0
              · rw [decide_eq_false (fun w => w.2 g4), if_pos (by rfl), rS_3 (fun w => w.2.2 g4) (fun w => g2 w.2)]
              · rw [decide_eq_true ⟨show 0 ≤ A 12 (A 16 k).toNat ∧ A 12 (A 16 k).toNat < 160 by omega, g4⟩, if_neg (by decide), rS_2 ⟨g1, g3, g4⟩, b1_ok (q_firstOf hC.1 _), gt_i ha]
                unfold rV
                rw [if_neg (by
                  show ¬ (A 16 k = -1 ∨ (0 : Int) ≠ 0)
                  omega)]
            · rw [if_pos g3, rS_3 (fun w => g3 w.2.1) (fun w => g2 w.2)]
        · rw [decide_eq_false g1, if_neg (by decide), rS_3 (fun w => g1 w.1) (fun w => g1 w.1)]
  have := key1 N n (Nat.le_refl _) (by omega)
  unfold fX5_lastToRedo
  rw [hC.1.made, ck_ok (by omega) (by omega), this, List.take_of_length_le (by rw [show (OL A N).length = N from seg_len _ _ _]; exact Nat.le_refl _)]
theorem isO.get (h : isO σ A N S) {i : Nat} (hi : i < ((OL A N).filter S).length) : ((OL A N).filter S)[i]? = some (σ 261 i) := by
  have := seg_get (σ 261) ((OL A N).filter S).length 0 i
  rw [h.1, if_pos hi, Nat.zero_add] at this; exact this
theorem isO.mem (h : isO σ A N S) {i : Nat} (hi : i < ((OL A N).filter S).length) : σ 261 i ∈ (OL A N).filter S := List.mem_of_getElem? (h.get hi)
theorem isO.tk (h : isO σ A N S) {i : Nat} (hi : i < ((OL A N).filter S).length) : ((OL A N).filter S).take (i + 1) = ((OL A N).filter S).take i ++ [σ 261 i] := by
  rw [List.take_succ, h.get hi]; rfl
theorem fl_len (S : Int → Bool) : ((OL A N).filter S).length ≤ N := by
  have h2 : ((OL A N).filter S).length ≤ (OL A N).length := List.length_filter_le _ _
  have h3 : (OL A N).length = N := seg_len _ _ _
  omega
theorem r_undoL {Q : Int × St → Prop} (hI : Inv A N nm nv) (h : isO σ A N (Hs A s)) (hr : RT A σ N) (hs : s < 4) (hn : 200 ≤ n) (K : Int → Option (Int × St))
    (hK : ∀ lp x2 x3, σ 230 29 ≤ x3 → fX6_undo_L30s n σ (s : Int) lp x2 x3 = K x2) (hQ : wp (K (((OL A N).filter (Hs A s)).foldl (uS A s (docOf A N (Hs A s))) (-1))) Q) : wp (fX6_undo_L30 n σ (s : Int) n (-1) 0) Q := by
  have hN := hI.1.2.1
  have dk := hI.dk hs
  have hl := fl_len (A := A) (N := N) (Hs A s)
  have key1 : ∀ (q m i : Nat), i + q = ((OL A N).filter (Hs A s)).length → q < m → fX6_undo_L30 n σ (s : Int) m ((((OL A N).filter (Hs A s)).take i).foldl (uS A s (docOf A N (Hs A s))) (-1)) (i : Int) = K (((OL A N).filter (Hs A s)).foldl (uS A s (docOf A N (Hs A s))) (-1)) := by
    intro q
    induction q with
    | zero =>
      intro m i h1 h2
      obtain ⟨m, rfl⟩ : ∃ q, m = q + 1 := ⟨m - 1, by omega⟩
      unfold fX6_undo_L30
      rw [lpR_s, hK _ _ _ (by rw [h.2.1]; omega), List.take_of_length_le (by omega)]
    | succ q ih =>
      intro m i h1 h2
      obtain ⟨m, rfl⟩ : ∃ q, m = q + 1 := ⟨m - 1, by omega⟩
      have ih2 := ih m (i + 1) (by omega) (by omega)
      rw [h.tk (by omega), List.foldl_append] at ih2
      have hm := h.mem (show i < ((OL A N).filter (Hs A s)).length by omega)
      rw [List.mem_filter, hI.1.2.2.2.2.1.2] at hm
      have rt := hr.2 (σ 261 i).toNat (by omega)
      unfold fX6_undo_L30 at ih2 ⊢
      rw [lpR_s]
      generalize lpR (fun _ _ => none) (fX6_undo_L30s n σ (s : Int)) m = lp at ih2
      generalize (((OL A N).filter (Hs A s)).take i).foldl (uS A s (docOf A N (Hs A s))) (-1) = acc at ih2
      have ih3 : lp (uS A s (docOf A N (Hs A s)) acc (σ 261 i)) ((i : Int) + 1) = K (((OL A N).filter (Hs A s)).foldl (uS A s (docOf A N (Hs A s))) (-1)) := by
        rw [show (i : Int) + 1 = ((i + 1 : Nat) : Int) by omega]; exact ih2
      rw [← ih3]
      unfold fX6_undo_L30s uS
      rw [if_neg (by rw [h.2.1]; omega), rd_ok (by omega) (by omega), Int.toNat_natCast, rd_ok hm.1.1 (by omega), rt.1, ck_ok (by omega) (by omega)]
      by_cases g1 : A 9 (σ 261 i).toNat = (s : Int)
      · rw [if_neg (fun w => w g1), rd_ok hm.1.1 (by omega), rt.2.2.1, ck_ok (by omega) (by omega)]
        by_cases g2 : A 11 (σ 261 i).toNat ≤ 7
        · rw [if_neg (by omega), rd_ok hm.1.1 (by omega), h.2.2 _ (by omega), ← dk.2.2.2.1]
          by_cases g3 : (docOf A N (Hs A s)).2 9 (σ 261 i).toNat = 0
          · rw [if_neg (fun w => w g3), if_pos ⟨g1, g2, g3⟩]
          · rw [if_pos g3, if_neg (fun w => g3 w.2.2)]
        · rw [if_pos (by omega), if_neg (fun w => g2 w.2.1)]
      · rw [if_pos g1, if_neg (fun w => g1 w.1)]
  have := key1 ((OL A N).filter (Hs A s)).length n 0 (by omega) (by omega)
  rw [List.take_zero] at this
  have e : fX6_undo_L30 n σ (s : Int) n (-1) 0 = K (((OL A N).filter (Hs A s)).foldl (uS A s (docOf A N (Hs A s))) (-1)) := this
  rw [e]; exact hQ
theorem r_redoL {Q : Int × St → Prop} (hI : Inv A N nm nv) (h : isO σ A N (Hs A s)) (hr : RT A σ N) (hs : s < 4) (hn : 200 ≤ n) (K : Int → Int → Option (Int × St))
    (hK : ∀ lp x2 x3 x4, σ 230 29 ≤ x4 → fX6_redo_L33s n σ (s : Int) lp x2 x3 x4 = K x2 x3) (hQ : wp (K (((OL A N).filter (Hs A s)).foldl (rS A s (docOf A N (Hs A s))) (-1, 0)).1 (((OL A N).filter (Hs A s)).foldl (rS A s (docOf A N (Hs A s))) (-1, 0)).2) Q) : wp (fX6_redo_L33 n σ (s : Int) n (-1) 0 0) Q := by
  have hN := hI.1.2.1
  have dk := hI.dk hs
  have hl := fl_len (A := A) (N := N) (Hs A s)
  have key1 : ∀ (q m i : Nat), i + q = ((OL A N).filter (Hs A s)).length → q < m → ∀ acc, (((OL A N).filter (Hs A s)).take i).foldl (rS A s (docOf A N (Hs A s))) (-1, 0) = acc → fX6_redo_L33 n σ (s : Int) m acc.1 acc.2 (i : Int) = K (((OL A N).filter (Hs A s)).foldl (rS A s (docOf A N (Hs A s))) (-1, 0)).1 (((OL A N).filter (Hs A s)).foldl (rS A s (docOf A N (Hs A s))) (-1, 0)).2 := by
    intro q
    induction q with
    | zero =>
      intro m i h1 h2 acc hacc
      obtain ⟨m, rfl⟩ : ∃ q, m = q + 1 := ⟨m - 1, by omega⟩
      rw [List.take_of_length_le (by omega)] at hacc
      unfold fX6_redo_L33
      rw [lpR_s, hK _ _ _ _ (by rw [h.2.1]; omega), hacc]
    | succ q ih =>
      intro m i h1 h2 acc hacc
      obtain ⟨m, rfl⟩ : ∃ q, m = q + 1 := ⟨m - 1, by omega⟩
      have ih2 := ih m (i + 1) (by omega) (by omega) (rS A s (docOf A N (Hs A s)) acc (σ 261 i)) (by rw [h.tk (by omega), List.foldl_append, hacc]; rfl)
      have hm := h.mem (show i < ((OL A N).filter (Hs A s)).length by omega)
      rw [List.mem_filter, hI.1.2.2.2.2.1.2] at hm
      have rt := hr.2 (σ 261 i).toNat (by omega)
      have v14 := fun g => (hI.1.2.2.2.1 (σ 261 i).toNat (by omega)).2.2.2.2.2.2.2.2.2.2.2.2.2 (Or.inr (Or.inr (Or.inl g)))
      unfold fX6_redo_L33 at ih2 ⊢
      rw [lpR_s]
      generalize lpR (fun _ _ _ => none) (fX6_redo_L33s n σ (s : Int)) m = lp at ih2
      rw [show ((i + 1 : Nat) : Int) = (i : Int) + 1 by omega] at ih2
      rw [← ih2]
      have j97 : ¬ (A 9 (σ 261 i).toNat = (s : Int) ∧ A 11 (σ 261 i).toNat = 11 ∧ (docOf A N (Hs A s)).2 9 (A 12 (σ 261 i).toNat).toNat ≠ 0) → fX6_redo_J97 n lp σ (s : Int) acc.1 acc.2 (i : Int) (σ 261 i) = lp (rS A s (docOf A N (Hs A s)) acc (σ 261 i)).1 (rS A s (docOf A N (Hs A s)) acc (σ 261 i)).2 ((i : Int) + 1) := by
        intro hno
        unfold fX6_redo_J97
        rw [rd_ok hm.1.1 (by omega), rt.1, ck_ok (by omega) (by omega), rd_ok hm.1.1 (by omega), rt.2.2.1, ck_ok (by omega) (by omega)]
        by_cases g1 : A 9 (σ 261 i).toNat = (s : Int)
        · rw [if_neg (fun w => w g1)]
          by_cases g2 : A 11 (σ 261 i).toNat ≤ 7
          · rw [if_neg (by omega), rS_1 g1 g2]
          · rw [if_pos (by omega), rS_3 hno (fun w => g2 w.2)]
        · rw [if_pos g1, rS_3 hno (fun w => g1 w.1)]
      unfold fX6_redo_L33s
      rw [if_neg (by rw [h.2.1]; omega), rd_ok (by omega) (by omega), Int.toNat_natCast, rd_ok hm.1.1 (by omega), rt.1]
      by_cases g1 : A 9 (σ 261 i).toNat = (s : Int)
      · rw [if_neg (fun w => w g1), rd_ok hm.1.1 (by omega), rt.2.2.1]
        by_cases g2 : A 11 (σ 261 i).toNat = 11
        · have w := v14 g2
          clear v14
          rw [if_neg (fun w => w g2), rd_ok hm.1.1 (by omega), rt.2.2.2.1 (by omega), rd_ok w.1 (by omega), h.2.2 _ (by omega), ← dk.2.2.2.1]
          by_cases g3 : (docOf A N (Hs A s)).2 9 (A 12 (σ 261 i).toNat).toNat = 0
          · rw [if_pos g3]; exact j97 (fun w => w.2.2 g3)
          · rw [if_neg g3, ck_ok (by omega) (by omega)]
            rw [rS_2 ⟨g1, g2, g3⟩]
        · rw [if_pos g2]; exact j97 (fun w => g2 w.2.1)
      · rw [if_pos g1]; exact j97 (fun w => g1 w.1)
  have e : fX6_redo_L33 n σ (s : Int) n (-1) 0 0 = _ := key1 ((OL A N).filter (Hs A s)).length n 0 (by omega) (by omega) (-1, 0) (by rw [List.take_zero]; rfl)
  rw [e]; exact hQ
theorem uS_in (L : List Int) : ∀ acc : Int, L.foldl (uS A s D) acc = acc ∨ L.foldl (uS A s D) acc ∈ L := by
  induction L with
  | nil => intro acc; exact Or.inl rfl
  | cons a L ih =>
    intro acc
    rw [List.foldl_cons]
    rcases ih (uS A s D acc a) with q | q
    · rw [q]; unfold uS
      split
      · exact Or.inr List.mem_cons_self
      · exact Or.inl rfl
    · exact Or.inr (List.mem_cons_of_mem _ q)
theorem rS_in (L : List Int) : ∀ acc : Int × Int, (L.foldl (rS A s D) acc).1 = acc.1 ∨ ((L.foldl (rS A s D) acc).1 ∈ L ∧ A 11 (L.foldl (rS A s D) acc).1.toNat = 11) := by
  induction L with
  | nil => intro acc; exact Or.inl rfl
  | cons a L ih =>
    intro acc
    rw [List.foldl_cons]
    rcases ih (rS A s D acc a) with q | q
    · rw [q]; unfold rS
      split
      · rename_i g; exact Or.inr ⟨List.mem_cons_self, g.2.1⟩
      · split
        · exact Or.inl rfl
        · exact Or.inl rfl
    · exact Or.inr ⟨List.mem_cons_of_mem _ q.1, q.2⟩
theorem so_undo : So_undo Rel := by
  intro nm nv σ y1 y2 y3 ⟨A, N, hI, hC, hR⟩ _ _ _ _
  have hN := hI.1.2.1
  refine ⟨1000, ?_⟩
  by_cases hx : 0 ≤ y1 ∧ y1 < 4
  · have hs : y1.toNat < 4 := by omega
    have hu := uS_in (A := A) (s := y1.toNat) (D := docOf A N (Hs A y1.toNat)) ((OL A N).filter (Hs A y1.toNat)) (-1)
    have cu0 := fun σ3 p1 p2 => c_lastU (σ := σ3) (n := 1000) hI p2 p1 hs (by decide)
    have ru0 := fun (Q : Int × St → Prop) σ3 h h2 K hK hQ => r_undoL (σ := σ3) (n := 1000) (Q := Q) hI h h2 hs (by decide) K hK hQ
    generalize ((OL A N).filter (Hs A y1.toNat)).foldl (uS A y1.toNat (docOf A N (Hs A y1.toNat))) (-1) = u at hu cu0 ru0
    rw [Int.toNat_of_nonneg hx.1] at ru0
    have ref : ∀ σ1, Re σ1 A N nm nv → wp (fX6_undo 1000 σ1 y1) (fun r => ((u ≠ -1 ∧ N < 160) → r.2 230 0 = 0 ∧ r.1 = u ∧ Re r.2 (mkA A N y1.toNat 11 u (-1) 0 0) (N + 1) nm nv) ∧ (¬ (u ≠ -1 ∧ N < 160) → r.2 230 0 = 2 ∧ Re r.2 A N nm nv) ∧ FrR σ1 r.2) := by
      intro σ1 hr1
      unfold fX6_undo
      refine wp_b1e (r_isSite y1) ?_
      rw [decide_eq_true hx, if_pos (by decide)]
      refine wp_ck (by omega) (by omega) (wp_b1 (r_ordSite hI hr1 hx (by decide)) (fun σ3 q => ?_))
      obtain ⟨q1, q2, q3⟩ := q
      have f3 : FrR σ1 σ3 := FrR.ofO q3
      refine ru0 _ σ3 q1 q2.1 (fun x2 => if x2 = (-1) then (fX6_undo_J108 1000 σ3 y1 x2) else (if σ3 230 1 ≠ 160 then (fX6_undo_J113 1000 σ3 y1 x2 0) else (fX6_undo_J108 1000 σ3 y1 x2))) (fun lp x2 x3 h => by unfold fX6_undo_L30s; rw [if_pos h]) ?_
      have bad : ¬ (u ≠ -1 ∧ N < 160) → wp (fX6_undo_J108 1000 σ3 y1 u) (fun r => ((u ≠ -1 ∧ N < 160) → r.2 230 0 = 0 ∧ r.1 = u ∧ Re r.2 (mkA A N y1.toNat 11 u (-1) 0 0) (N + 1) nm nv) ∧ (¬ (u ≠ -1 ∧ N < 160) → r.2 230 0 = 2 ∧ Re r.2 A N nm nv) ∧ FrR σ1 r.2) := by
        intro hno
        unfold fX6_undo_J108 fX6_undo_J113
        exact r_bad (by decide) ⟨fun g => absurd g hno, fun _ => ⟨by show st σ3 230 0 2 230 0 = 2; rw [st_row, if_pos rfl], q2.fr (FrS.up0 FrS.rf)⟩, f3.upd (by decide)⟩
      show wp (if u = (-1) then (fX6_undo_J108 1000 σ3 y1 u) else (if σ3 230 1 ≠ 160 then (fX6_undo_J113 1000 σ3 y1 u 0) else (fX6_undo_J108 1000 σ3 y1 u))) _
      by_cases g : u = -1
      · rw [if_pos g]; exact bad (fun w => w.1 g)
      rw [if_neg g, q2.1.1]
      by_cases hN2 : N = 160
      · rw [if_neg (by omega)]; exact bad (fun g => by have := g.2; omega)
      rw [if_pos (by omega)]
      have hh : Hs A y1.toNat u = true := (List.mem_filter.mp (hu.resolve_left g)).2
      unfold fX6_undo_J113
      refine wp_pf ?_
      have q5 : Re (st σ3 230 0 0) A N nm nv := q2.fr (FrS.up0 FrS.rf)
      have f4 : FrR σ1 (st σ3 230 0 0) := f3.upd (by decide)
      have e0 : st σ3 230 0 0 230 0 = 0 := by rw [st_row, if_pos rfl]
      generalize st σ3 230 0 0 = σ4 at q5 f4 e0
      rw [if_pos (by omega)]
      have hmk := r_make' (σ := σ4) hI (okx (k := 11) (by omega) hs (by decide) hh) q5 (by decide) (Or.inl rfl) (rmx (by decide) _)
      rw [Int.toNat_of_nonneg hx.1] at hmk
      refine wp_b2 hmk (fun v σ5 q => wp_some ⟨fun _ => ⟨?_, rfl, q.2.1⟩, fun h => absurd ⟨g, by omega⟩ h, f4.tr (FrM.R q.2.2)⟩)
      exact (q.2.2 230 0 (by omega) (by omega)).trans e0
    by_cases ok : u ≠ -1 ∧ N < 160
    · have hh : Hs A y1.toNat u = true := (List.mem_filter.mp (hu.resolve_left ok.1)).2
      have hm := okx (k := 11) ok.2 hs (by decide) hh
      refine So_fin (F := fun σ1 => fX6_undo 1000 σ1 y1) (g := fun v => v) (k := 0) (kk := 0) (v := u) rfl (fun _ => rfl) hR (hI.make hm) ?_ (fun σ1 hr1 => ?_)
      · unfold fX5_undo
        refine c_open hI.1 hC hx (by decide) (fun σ3 p1 p2 p3 => ?_)
        refine wp_b1e (cu0 σ3 p1 p2) ?_
        rw [if_pos ok.1, xw_ok (by rw [c_room p2, if_pos (by have := ok.2; omega)])]
        exact wp_b2 (c_make hI p2 hm (by decide)) (fun v σ5 q => wp_some ⟨rfl, fun _ => rfl, q.2.1, p3.tr q.2.2.1⟩)
      · exact wp_mono (ref σ1 hr1) (fun r q => ⟨(q.1 ok).1, fun _ => (q.1 ok).2.1, (q.1 ok).2.2, q.2.2⟩)
    · refine So_fin (F := fun σ1 => fX6_undo 1000 σ1 y1) (g := fun v => v) (k := 3) (kk := 2) (v := 0) rfl (fun q => (by cases q)) hR hI ?_ (fun σ1 hr1 => ?_)
      · unfold fX5_undo
        refine c_open hI.1 hC hx (by decide) (fun σ3 p1 p2 p3 => ?_)
        refine wp_b1e (cu0 σ3 p1 p2) ?_
        by_cases g : u = -1
        · rw [if_neg (fun w => w g)]
          exact wp_some ⟨rfl, fun q => (by cases q), p2, p3⟩
        · have hN2 : ¬ N < 160 := fun w => ok ⟨g, w⟩
          rw [if_pos g, xw_x (c := 2) (by rw [c_room p2, if_neg (by omega)])]
          exact wp_some ⟨rfl, fun q => (by cases q), p2, p3⟩
      · exact wp_mono (ref σ1 hr1) (fun r q => ⟨(q.2.1 ok).1, fun q => (by cases q), (q.2.1 ok).2, q.2.2⟩)
  · refine So_fin (F := fun σ1 => fX6_undo 1000 σ1 y1) (g := fun v => v) (k := 1) (kk := 1) (v := 0) rfl (fun q => (by cases q)) hR hI (by unfold fX5_undo; exact c_no hC hx) (fun σ1 hr1 => ?_)
    unfold fX6_undo
    refine wp_b1e (r_isSite y1) ?_
    rw [decide_eq_false hx, if_neg (by decide)]
    exact wp_b2e (r_fails 1) (wp_some (r_no hr1 (by decide)))
theorem so_redo : So_redo Rel := by
  intro nm nv σ y1 y2 y3 ⟨A, N, hI, hC, hR⟩ _ _ _ _
  have hN := hI.1.2.1
  refine ⟨1000, ?_⟩
  by_cases hx : 0 ≤ y1 ∧ y1 < 4
  · have hs : y1.toNat < 4 := by omega
    have hu := rS_in (A := A) (s := y1.toNat) (D := docOf A N (Hs A y1.toNat)) ((OL A N).filter (Hs A y1.toNat)) (-1, 0)
    have cu0 := fun σ3 p1 p2 => c_lastR (σ := σ3) (n := 1000) hI p2 p1 hs (by decide)
    have ru0 := fun (Q : Int × St → Prop) σ3 h h2 K hK hQ => r_redoL (σ := σ3) (n := 1000) (Q := Q) hI h h2 hs (by decide) K hK hQ
    generalize ((OL A N).filter (Hs A y1.toNat)).foldl (rS A y1.toNat (docOf A N (Hs A y1.toNat))) (-1, 0) = u at hu cu0 ru0
    rw [Int.toNat_of_nonneg hx.1] at ru0
    have hu' : u.1 ≠ -1 → (0 ≤ u.1 ∧ u.1 < (N : Int)) ∧ A 11 u.1.toNat = 11 ∧ (0 ≤ A 12 u.1.toNat ∧ A 12 u.1.toNat < (N : Int)) ∧ Hs A y1.toNat (A 12 u.1.toNat) = true := by
      intro g
      have w := hu.resolve_left g
      have w1 := List.mem_filter.mp w.1
      have w2 := (hI.1.2.2.2.2.1.2 _).mp w1.1
      have v14 := (hI.1.2.2.2.1 u.1.toNat (by omega)).2.2.2.2.2.2.2.2.2.2.2.2.2 (Or.inr (Or.inr (Or.inl w.2)))
      have cl := ((hI.2.1 y1.toNat hs).cl hN u.1.toNat (by omega) (by rw [Int.toNat_of_nonneg w2.1]; exact w1.2)).2.1 (Or.inr (Or.inr (Or.inr (Or.inr (Or.inr (Or.inr (Or.inl w.2)))))))
      exact ⟨w2, w.2, by omega, cl⟩
    have ref : ∀ σ1, Re σ1 A N nm nv → wp (fX6_redo 1000 σ1 y1) (fun r => ((¬ (u.1 = -1 ∨ u.2 ≠ 0) ∧ N < 160) → r.2 230 0 = 0 ∧ r.1 = A 12 u.1.toNat ∧ Re r.2 (mkA A N y1.toNat 12 (A 12 u.1.toNat) (-1) 0 0) (N + 1) nm nv) ∧ (¬ (¬ (u.1 = -1 ∨ u.2 ≠ 0) ∧ N < 160) → r.2 230 0 = 2 ∧ Re r.2 A N nm nv) ∧ FrR σ1 r.2) := by
      intro σ1 hr1
      unfold fX6_redo
      refine wp_b1e (r_isSite y1) ?_
      rw [decide_eq_true hx, if_pos (by decide)]
      refine wp_ck (by omega) (by omega) (wp_b1 (r_ordSite hI hr1 hx (by decide)) (fun σ3 q => ?_))
      obtain ⟨q1, q2, q3⟩ := q
      have f3 : FrR σ1 σ3 := FrR.ofO q3
      refine ru0 _ σ3 q1 q2.1 (fun x2 x3 => if x2 = (-1) then (fX6_redo_J148 1000 σ3 y1 x2) else (if x3 ≠ 0 then (fX6_redo_J148 1000 σ3 y1 x2) else (if σ3 230 1 ≠ 160 then (fX6_redo_J153 1000 σ3 y1 x2 0) else (fX6_redo_J148 1000 σ3 y1 x2)))) (fun lp x2 x3 x4 h => by unfold fX6_redo_L33s; rw [if_pos h]) ?_
      have bad : ¬ (¬ (u.1 = -1 ∨ u.2 ≠ 0) ∧ N < 160) → wp (fX6_redo_J148 1000 σ3 y1 u.1) (fun r => ((¬ (u.1 = -1 ∨ u.2 ≠ 0) ∧ N < 160) → r.2 230 0 = 0 ∧ r.1 = A 12 u.1.toNat ∧ Re r.2 (mkA A N y1.toNat 12 (A 12 u.1.toNat) (-1) 0 0) (N + 1) nm nv) ∧ (¬ (¬ (u.1 = -1 ∨ u.2 ≠ 0) ∧ N < 160) → r.2 230 0 = 2 ∧ Re r.2 A N nm nv) ∧ FrR σ1 r.2) := by
        intro hno
        unfold fX6_redo_J148 fX6_redo_J153
        exact r_bad (by decide) ⟨fun g => absurd g hno, fun _ => ⟨by show st σ3 230 0 2 230 0 = 2; rw [st_row, if_pos rfl], q2.fr (FrS.up0 FrS.rf)⟩, f3.upd (by decide)⟩
      show wp (if u.1 = (-1) then (fX6_redo_J148 1000 σ3 y1 u.1) else (if u.2 ≠ 0 then (fX6_redo_J148 1000 σ3 y1 u.1) else (if σ3 230 1 ≠ 160 then (fX6_redo_J153 1000 σ3 y1 u.1 0) else (fX6_redo_J148 1000 σ3 y1 u.1)))) _
      by_cases g : u.1 = -1
      · rw [if_pos g]; exact bad (fun w => w.1 (Or.inl g))
      rw [if_neg g]
      by_cases g2 : u.2 = 0
      · rw [if_neg (fun w => w g2), q2.1.1]
        by_cases hN2 : N = 160
        · rw [if_neg (by omega)]; exact bad (fun g => by have := g.2; omega)
        rw [if_pos (by omega)]
        obtain ⟨w1, w2, w3, w4⟩ := hu' g
        unfold fX6_redo_J153
        refine wp_pf ?_
        have q5 : Re (st σ3 230 0 0) A N nm nv := q2.fr (FrS.up0 FrS.rf)
        have f4 : FrR σ1 (st σ3 230 0 0) := f3.upd (by decide)
        have e0 : st σ3 230 0 0 230 0 = 0 := by rw [st_row, if_pos rfl]
        generalize st σ3 230 0 0 = σ4 at q5 f4 e0
        rw [if_pos (by omega)]
        have e236 := (q5.1.2 u.1.toNat (by omega)).2.2.2.1 (by omega)
        refine wp_rd w1.1 (by omega) ?_
        rw [e236]
        have hmk := r_make' (σ := σ4) hI (okx (k := 12) (by omega) hs (by decide) w4) q5 (by decide) (Or.inl rfl) (rmx (by decide) _)
        rw [Int.toNat_of_nonneg hx.1] at hmk
        refine wp_b2 hmk (fun v σ5 q => wp_rd w1.1 (by omega) (wp_some ⟨fun _ => ⟨?_, ?_, q.2.1⟩, fun h => absurd ⟨fun w => w.elim g (fun w => w g2), by omega⟩ h, f4.tr (FrM.R q.2.2)⟩))
        · exact (q.2.2 230 0 (by omega) (by omega)).trans e0
        · show σ5 236 u.1.toNat = _
          have e11 : mkA A N y1.toNat 12 (A 12 u.1.toNat) (-1) 0 0 11 u.1.toNat = A 11 u.1.toNat := by rw [mk_t (by decide) (by decide), if_neg (by omega)]
          have e12 : mkA A N y1.toNat 12 (A 12 u.1.toNat) (-1) 0 0 12 u.1.toNat = A 12 u.1.toNat := by rw [mk_t (by decide) (by decide), if_neg (by omega)]
          have := ((q.2.1 : Re σ5 _ _ _ _).1.2 u.1.toNat (by omega)).2.2.2.1 (by rw [e11]; omega)
          exact this.trans e12
      · rw [if_pos g2]; exact bad (fun w => w.1 (Or.inr g2))
    have ev : rV A u = (if u.1 = -1 ∨ u.2 ≠ 0 then -1 else A 12 u.1.toNat) := rfl
    by_cases ok : ¬ (u.1 = -1 ∨ u.2 ≠ 0) ∧ N < 160
    · obtain ⟨w1, w2, w3, w4⟩ := hu' (fun g => ok.1 (Or.inl g))
      have hm := okx (k := 12) ok.2 hs (by decide) w4
      refine So_fin (F := fun σ1 => fX6_redo 1000 σ1 y1) (g := fun v => v) (k := 0) (kk := 0) (v := A 12 u.1.toNat) rfl (fun _ => rfl) hR (hI.make hm) ?_ (fun σ1 hr1 => ?_)
      · unfold fX5_redo
        refine c_open hI.1 hC hx (by decide) (fun σ3 p1 p2 p3 => ?_)
        refine wp_b1e (cu0 σ3 p1 p2) ?_
        rw [ev, if_neg ok.1, if_pos (by omega), xw_ok (by rw [c_room p2, if_pos (by have := ok.2; omega)])]
        exact wp_b2 (c_make hI p2 hm (by decide)) (fun v σ5 q => wp_some ⟨rfl, fun _ => rfl, q.2.1, p3.tr q.2.2.1⟩)
      · exact wp_mono (ref σ1 hr1) (fun r q => ⟨(q.1 ok).1, fun _ => (q.1 ok).2.1, (q.1 ok).2.2, q.2.2⟩)
    · refine So_fin (F := fun σ1 => fX6_redo 1000 σ1 y1) (g := fun v => v) (k := 3) (kk := 2) (v := 0) rfl (fun q => (by cases q)) hR hI ?_ (fun σ1 hr1 => ?_)
      · unfold fX5_redo
        refine c_open hI.1 hC hx (by decide) (fun σ3 p1 p2 p3 => ?_)
        refine wp_b1e (cu0 σ3 p1 p2) ?_
        rw [ev]
        by_cases g : u.1 = -1 ∨ u.2 ≠ 0
        · rw [if_pos g, if_neg (fun w => w rfl)]
          exact wp_some ⟨rfl, fun q => (by cases q), p2, p3⟩
        · have hN2 : ¬ N < 160 := fun w => ok ⟨g, w⟩
          have := (hu' (fun w => g (Or.inl w))).2.2.1
          rw [if_neg g, if_pos (by omega), xw_x (c := 2) (by rw [c_room p2, if_neg (by omega)])]
          exact wp_some ⟨rfl, fun q => (by cases q), p2, p3⟩
      · exact wp_mono (ref σ1 hr1) (fun r q => ⟨(q.2.1 ok).1, fun q => (by cases q), (q.2.1 ok).2, q.2.2⟩)
  · refine So_fin (F := fun σ1 => fX6_redo 1000 σ1 y1) (g := fun v => v) (k := 1) (kk := 1) (v := 0) rfl (fun q => (by cases q)) hR hI (by unfold fX5_redo; exact c_no hC hx) (fun σ1 hr1 => ?_)
    unfold fX6_redo
    refine wp_b1e (r_isSite y1) ?_
    rw [decide_eq_false hx, if_neg (by decide)]
    exact wp_b2e (r_fails 1) (wp_some (r_no hr1 (by decide)))
end UNDO
