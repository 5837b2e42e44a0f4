/-! ===== letters, proposals, acts ===== -/
theorem rc_0 {k : Option (Int × St)} : rc 0 k = k := rc_ok (by decide) (by decide)
theorem so_letter : So_letter Rel := by
  intro nm nv σ y1 y2 y3 ⟨A, N, hI, hC, hR⟩ _ _ _ _
  refine ⟨1000, ?_⟩
  have main := q_el (n := 1000) (x := y1) (w := y2) (v := A 14 (elAt (docOf A N (Hs A y1.toNat)) y2).toNat % 65536) (K := fun _ _ v6 σ5 => b1 (fX1_valueOf σ5 v6) (fun v7 => vl (v7 % 65536) (fun v8 => some (0, v8, σ5)))) (R := fun σ3 => b1 (fX6_seenAt 1000 σ3 y2) (fun v4 => rd σ3 237 160 v4 (fun v5 => vl (v5 % 65536) (fun v6 => some (v6, σ3))))) hI hC hR (by decide) (fun hx hw σ3 p1 p2 => by
      have he := (hI.dk (s := y1.toNat) (by omega)).1.row hI.1.2.1 (elAt_in hw).1
      have h0 : 0 ≤ elAt (docOf A N (Hs A y1.toNat)) y2 := he.1.1
      rw [b1_ok (q_valueOf p2.1 _), gt_i ⟨h0, he.2⟩]; rfl) (fun hx hw σ3 q1 q2 => by
      have hm := (elAt_in hw).1
      have he := q1.d.row hI.1.2.1 hm
      have h0 : 0 ≤ elAt (docOf A N (Hs A y1.toNat)) y2 := he.1.1
      have hk := (mkE_num (q1.d.2.1 _ hm)).2
      rw [b1_ok (r_seenAt q1.r q1.d hI.1.2.1 (by decide) y2)]
      show rd σ3 237 160 (elAt (docOf A N (Hs A y1.toNat)) y2) _ = _
      rw [rd_ok h0 (by have := hI.1.2.1; omega), (q2.1.2 _ (by omega)).2.2.2.2.2.1 hk]; rfl)
  obtain ⟨k, v, σ1, σ2, g1, g2, g3⟩ := main
  refine ⟨k, v, σ1, σ2, g1, ?_, g3⟩
  rw [← g2]
  unfold fX6_letter fX6_letter_J15
  simp only [rc_0]
theorem so_proposed : So_proposed Rel := by
  intro nm nv σ y1 y2 y3 ⟨A, N, hI, hC, hR⟩ _ _ _ _
  refine ⟨1000, ?_⟩
  have main := q_el (n := 1000) (x := y1) (w := y2) (v := (if (docOf A N (Hs A y1.toNat)).2 4 (elAt (docOf A N (Hs A y1.toNat)) y2).toNat = 2 then 1 else 0) + (if (ids N).any (fun a => decide ((docOf A N (Hs A y1.toNat)).2 8 a.toNat ≠ 0 ∧ gt A N 12 (-1) a = elAt (docOf A N (Hs A y1.toNat)) y2)) = true then 2 else 0)) (K := fun _ o4 v6 σ5 => b1 (fX3_proposalsFor 1000 σ5 o4 v6) (fun v7 => some (0, v7, σ5))) (R := fun σ3 => b1 (fX6_seenAt 1000 σ3 y2) (fun v4 => fX6_proposed_L39 1000 σ3 y1 y2 v4 1000 0 0)) hI hC hR (by decide) (fun hx hw σ3 p1 p2 => by
      have he := (hI.dk (s := y1.toNat) (by omega)).1.row hI.1.2.1 (elAt_in hw).1
      rw [b1_ok (q_proposalsFor p1 p2.1 (by decide) he.1)]) (fun hx hw σ3 q1 q2 => by
      have hm := (elAt_in hw).1
      have hsn := (elAt_in hw).2
      have hN := hI.1.2.1
      have hc := (hI.2.1 y1.toNat (by omega)).cl hN
      have he := q1.d.row hN hm
      have h0 : 0 ≤ elAt (docOf A N (Hs A y1.toNat)) y2 := he.1.1
      have h265 := q1.r.2.2.2.1 _ hm
      rw [b1_ok (r_seenAt q1.r q1.d hN (by decide) y2)]
      show fX6_proposed_L39 1000 σ3 y1 y2 (elAt (docOf A N (Hs A y1.toNat)) y2) 1000 0 0 = _
      generalize elAt (docOf A N (Hs A y1.toNat)) y2 = e at hm hsn he h0 h265
      have hL : ((OL A N).filter (Hs A y1.toNat)).length ≤ N := by
        have h2 : ((OL A N).filter (Hs A y1.toNat)).length ≤ (OL A N).length := List.length_filter_le _ _
        have h3 : (OL A N).length = N := seg_len _ _ _
        omega
      have hg : ∀ i, i < ((OL A N).filter (Hs A y1.toNat)).length → σ3 261 i ∈ (OL A N).filter (Hs A y1.toNat) := by
        intro i hi
        have e := q1.2.2.1
        have : σ3 261 i ∈ seg (σ3 261) 0 ((OL A N).filter (Hs A y1.toNat)).length := seg_mem.mpr ⟨i, Nat.zero_le _, by omega, rfl⟩
        rw [e] at this; exact this
      have run := lpF (bot := fun _ _ => none) (F := fX6_proposed_L39s 1000 σ3 y1 y2 e) (fun i a => a = 0 ∨ a = 1) (fun a x => (.inr (if (decide (A 11 x.toNat = 2 ∧ A 12 x.toNat = e) && openB A N (docOf A N (Hs A y1.toNat)) x) = true then 1 else a) : (Int × St) ⊕ Int)) (fun a => ((if (docOf A N (Hs A y1.toNat)).2 4 e.toNat = 2 then 1 else 0) + (if a = 0 then 0 else 2), σ3)) (σ3 261) ((OL A N).filter (Hs A y1.toNat)).length
        (fun lp s hs => by
          unfold fX6_proposed_L39s fX6_proposed_J127
          rw [if_pos (by rw [q1.2.2.2.1]; omega), rd_ok h0 he.1.2]
          by_cases z : (docOf A N (Hs A y1.toNat)).2 4 e.toNat = 2
          · rw [if_neg (by omega), if_pos z]
            by_cases s0 : s = 0
            · rw [if_pos s0, if_pos s0, ck_ok (by decide) (by decide)]
            · rw [if_neg s0, if_neg s0, ck_ok (by decide) (by decide)]
          · rw [if_pos (by omega), if_neg z]
            by_cases s0 : s = 0
            · rw [if_pos s0, if_pos s0, ck_ok (by decide) (by decide)]
            · rw [if_neg s0, if_neg s0, ck_ok (by decide) (by decide)])
        (fun lp s i hi hs => by
          have ha := q1.2.1.act hI.1 hc (hg i hi)
          have t3 := (q2.1.2 (σ3 261 i).toNat (by omega)).2.2.1
          have t4 := (q2.1.2 (σ3 261 i).toNat (by omega)).2.2.2.1
          refine Or.inr ⟨_, rfl, ?_, by split; exact Or.inr rfl; exact hs⟩
          unfold fX6_proposed_L39s
          rw [if_neg (by rw [q1.2.2.2.1]; omega)]
          by_cases s0 : s = 0
          · rw [if_neg (by omega), rd_ok (by omega) (by omega), Int.toNat_natCast, rd_ok ha.1.1 (by omega), t3]
            by_cases k2 : A 11 (σ3 261 i).toNat = 2
            · rw [if_neg (by omega), rd_ok (by omega) (by omega), Int.toNat_natCast, rd_ok ha.1.1 (by omega), t4 (by omega)]
              by_cases kf : A 12 (σ3 261 i).toNat = e
              · rw [if_neg (by omega), rd_ok (by omega) (by omega), Int.toNat_natCast, b1_ok (r_isOpenE q1.r q2.1 q1.d hN ha.1 ha.2.1 (fun q => ha.2.2 (Or.inl q))), if_b2i, ck_ok (by omega) (by omega), ck_ok (by omega) (by omega), decide_eq_true (show A 11 (σ3 261 i).toNat = 2 ∧ A 12 (σ3 261 i).toNat = e from ⟨k2, kf⟩), Bool.true_and, s0]
                cases openB A N (docOf A N (Hs A y1.toNat)) (σ3 261 i)
                · rw [if_neg (by decide), if_neg (by decide)]
                · rw [if_pos rfl, if_pos rfl]
              · rw [if_pos kf, ck_ok (by omega) (by omega), decide_eq_false (fun z => kf z.2), Bool.false_and, if_neg (by decide), s0]
            · rw [if_pos k2, ck_ok (by omega) (by omega), decide_eq_false (fun z => k2 z.1), Bool.false_and, if_neg (by decide), s0]
          · have s1 : s = 1 := by omega
            rw [if_pos s0, ck_ok (by omega) (by omega), s1]
            congr 1
            split <;> rfl)
        ((OL A N).filter (Hs A y1.toNat)).length 1000 0 0 (Nat.zero_add _) (by omega) (Or.inl rfl)
      have any : ∀ (P : Int → Bool) (fin : Int → Int × St) (L : List Int) (a : Int), runL (fun a x => (.inr (if P x = true then 1 else a) : (Int × St) ⊕ Int)) fin a L = fin (if L.any P = true then 1 else a) := by
        intro P fin L
        induction L with
        | nil => intro a; rfl
        | cons x L ih =>
          intro a
          rw [runL_go (s' := if P x = true then 1 else a) rfl, ih, List.any_cons]
          congr 1
          cases P x
          · rw [Bool.false_or, if_neg (show ¬ (false = true) by decide)]
          · rw [if_pos rfl, Bool.true_or, if_pos rfl]; split <;> rfl
      rw [q1.2.2.1, any] at run
      refine Eq.trans run ?_
      have iff : ((OL A N).filter (Hs A y1.toNat)).any (fun x => decide (A 11 x.toNat = 2 ∧ A 12 x.toNat = e) && openB A N (docOf A N (Hs A y1.toNat)) x) = (ids N).any (fun a => decide ((docOf A N (Hs A y1.toNat)).2 8 a.toNat ≠ 0 ∧ gt A N 12 (-1) a = e)) := by
        rw [Bool.eq_iff_iff, List.any_eq_true, List.any_eq_true]
        constructor
        · rintro ⟨x, hx, h2⟩
          rw [Bool.and_eq_true, decide_eq_true_iff] at h2
          have ha := q1.2.1.act hI.1 hc hx
          refine ⟨x, ids_mem.mpr ha.1, decide_eq_true ⟨?_, by rw [gt_i ha.1]; exact h2.1.2⟩⟩
          have ho := h2.2
          unfold openB at ho
          rw [Bool.and_eq_true, Bool.or_eq_true, decide_eq_true_iff, decide_eq_true_iff, Bool.and_eq_true, decide_eq_true_iff] at ho
          rcases ho.2 with z | z
          · have hnot : ((x.toNat : Nat) : Int) ∉ (docOf A N (Hs A y1.toNat)).1 := fun y => by
              have := (mkE_num (q1.d.2.1 _ y)).2
              rw [Int.toNat_natCast] at this; omega
            have := (q1.d.2.2.2.1 x.toNat hnot).1
            omega
          · exact z.1
        · rintro ⟨x, hx, h2⟩
          have h2 := of_decide_eq_true h2
          have hx' := ids_mem.mp hx
          have hxx : ((x.toNat : Nat) : Int) = x := Int.toNat_of_nonneg hx'.1
          have hin := q1.2.1.2.2.1 x.toNat h2.1
          rw [hxx] at hin
          have hk := (q1.d.2.2.2.2.1 x.toNat).2 h2.1
          have hf := h2.2
          rw [gt_i hx'] at hf
          refine ⟨x, hin, ?_⟩
          rw [Bool.and_eq_true, decide_eq_true_iff]
          refine ⟨⟨hk.2, hf⟩, ?_⟩
          unfold openB
          rw [Bool.and_eq_true, Bool.or_eq_true, Bool.and_eq_true, decide_eq_true_iff, decide_eq_true_iff, gt_i hx', hf]
          exact ⟨show 0 ≤ x ∧ x < 160 by omega, Or.inr ⟨decide_eq_true h2.1, hsn⟩⟩
      rw [iff]
      by_cases z : (ids N).any (fun a => decide ((docOf A N (Hs A y1.toNat)).2 8 a.toNat ≠ 0 ∧ gt A N 12 (-1) a = e)) = true
      · rw [if_pos z, if_neg (show ¬ ((1 : Int) = 0) by decide), if_pos z]
      · rw [if_neg z, if_pos (show (0 : Int) = 0 from rfl), if_neg z])
  exact main
theorem so_acts : So_acts Rel := by
  intro nm nv σ y1 y2 y3 ⟨A, N, hI, hC, hR⟩ _ _ _ _
  refine ⟨(N : Int), (N : Int), st σ 230 0 0, ?_, ?_, rfl, A, N, hI, ?_, hR.fr (FrS.up0 FrS.rf)⟩
  · unfold fX5_acts; rw [hC.1.made]
  · show some (st σ 230 0 0 230 1, st σ 230 0 0) = _
    rw [st_row, if_neg (by decide), hR.1.1]
  · exact hC.frR (FrS.up0 FrS.rf).R hI.2.2.2.1.1 hI.2.2.2.2.1
