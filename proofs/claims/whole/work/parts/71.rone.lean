/-! ===== an act in the reference ===== -/
section RONE
variable {T σ : St} {N n a : Nat} {D : Dc}
theorem r_one (h : isR σ N D) (hr : RT T σ N) (hv : TV T N) (hd : DI T N D) (hN : N ≤ 160) (hn : 400 ≤ n) (ha : a < N) (hp : pre T N D a) : wp (fX6_does n σ (a : Int)) (fun σ2 => isR σ2 N (dOne T N D (a : Int)) ∧ FrD σ σ2) := by
  have t1 := (hr.2 a ha).1
  have t3 := (hr.2 a ha).2.2.1
  have v1 := (hv a ha).1
  have vk := (hv a ha).2.2.1
  have h9 := h.2.2.2.2.2.2.2.1 a ha
  have g9 := hd.2.2.2.2.2.2.1 a
  have hna : num (a : Int) := ⟨by omega, by omega⟩
  have w1 : ∀ {m : Option St} {E : Dc}, wp m (fun σ2 => isR σ2 N E ∧ FrD σ σ2) → dOne T N D (a : Int) = E → wp (b1 m (fun σ3 => some σ3)) (fun σ2 => isR σ2 N (dOne T N D (a : Int)) ∧ FrD σ σ2) := fun hm he => by
    rw [he]; exact wp_b1 hm (fun v hv => wp_some hv)
  unfold fX6_does
  refine wp_rd (by omega) (by omega) ?_
  rw [Int.toNat_natCast, t3]
  have put : T 11 a = 0 ∨ T 11 a = 1 → wp (fX6_does_J16 n σ (a : Int)) (fun σ2 => isR σ2 N (dOne T N D (a : Int)) ∧ FrD σ σ2) := by
    intro k01
    have hp1 := hp.1 k01
    unfold fX6_does_J16
    exact w1 (r_puts h hr hv hd hN (by omega) ha k01 hp1.1 hp1.2.1 hp1.2.2) (by unfold dOne; rw [gt_n ha, if_pos k01])
  refine wp_if (fun q => put (Or.inl q)) (fun q0 => wp_if (fun q1 => ?_) (fun q1 => put (Or.inr (by omega))))
  have hk01 : ¬ (T 11 a = 0 ∨ T 11 a = 1) := by omega
  refine wp_rd (by omega) (by omega) ?_
  rw [Int.toNat_natCast, h9]
  refine wp_if (fun qu => ?_) (fun qu => ?_)
  · refine wp_some ⟨?_, FrD.rf⟩
    unfold dOne
    rw [gt_n ha, if_neg hk01, if_pos ⟨hna, by rw [Int.toNat_natCast]; exact qu⟩]; exact h
  have ed : dOne T N D (a : Int) = (if T 11 a = 2 then dRem T N D (a : Int) else if T 11 a = 3 then dRes T N D (a : Int) else if T 11 a = 4 then dPaint T N D (a : Int) (fun v => if T 15 a ≠ 0 then bor v (bshl 1 (T 14 a)) else band v (bxor (bshl 1 (T 14 a)) (-1))) else if T 11 a = 5 then dKind T N D (a : Int) else if T 11 a = 6 then dNest T N D (a : Int) else if T 11 a = 7 then dPaint T N D (a : Int) (fun v => bor v (bshl 1 (2 + T 14 a))) else if T 11 a = 8 then dSet T N D (a : Int) true else if T 11 a = 9 then dSet T N D (a : Int) false else if T 11 a = 10 then dLevel T N D (a : Int) else D) := by
    unfold dOne
    rw [gt_n ha, gt_n ha, gt_n ha, if_neg hk01, if_neg (fun z => qu (by have := z.2; rw [Int.toNat_natCast] at this; exact this))]
  have t4 : T 11 a ≠ 10 → σ 236 a = T 12 a := (hr.2 a ha).2.2.2.1
  have v5 := (hv a ha).2.2.2.2.2.2.2.2.2.2.1
  -- nothing more
  have off : T 11 a ≠ 8 → T 11 a ≠ 9 → T 11 a ≠ 10 → dOne T N D (a : Int) = D → wp (fX6_does_J238 n σ (a : Int) (T 11 a)) (fun σ2 => isR σ2 N (dOne T N D (a : Int)) ∧ FrD σ σ2) := by
    intro q1 q2 q3 q4
    unfold fX6_does_J238
    rw [if_neg q1, if_pos q2, if_pos q3, q4]
    exact wp_some ⟨h, FrD.rf⟩
  have j172 : T 11 a ≠ 2 → T 11 a ≠ 3 → T 11 a ≠ 4 → T 11 a ≠ 7 → (T 11 a = 5 → dOne T N D (a : Int) = D) → wp (fX6_does_J172 n σ (a : Int) (T 11 a)) (fun σ2 => isR σ2 N (dOne T N D (a : Int)) ∧ FrD σ σ2) := by
    intro q2 q3 q4 q7 q5
    unfold fX6_does_J172
    refine wp_if (fun q6 => ?_) (fun q6 => ?_)
    · by_cases k5 : T 11 a = 5
      · exact off (by omega) (by omega) (by omega) (q5 k5)
      · have j250 : T 11 a = 8 ∨ T 11 a = 9 → wp (fX6_does_J250 n σ (a : Int) (T 11 a)) (fun σ2 => isR σ2 N (dOne T N D (a : Int)) ∧ FrD σ σ2) := by
          intro k89
          have pp := hp.2.2.2 k89
          unfold fX6_does_J250 fX6_does_J274
          refine wp_rd (by omega) (by omega) (wp_rd (by omega) (by omega) ?_)
          rw [Int.toNat_natCast, t4 (by omega), t1]
          refine wp_if (fun z => ?_) (fun z => ?_)
          · exact w1 (r_set h hr hv hd hN (by omega) ha k89 pp.1 pp.2 false) (by rw [ed, if_neg q2, if_neg q3, if_neg q4, if_neg k5, if_neg q6, if_neg q7, if_neg z, if_pos (by omega)])
          · exact w1 (r_set h hr hv hd hN (by omega) ha k89 pp.1 pp.2 true) (by rw [ed, if_neg q2, if_neg q3, if_neg q4, if_neg k5, if_neg q6, if_neg q7, if_pos (by omega)])
        unfold fX6_does_J238
        refine wp_if (fun z => j250 (Or.inl z)) (fun z8 => wp_if (fun z9 => ?_) (fun z => j250 (Or.inr (by omega))))
        refine wp_if (fun z10 => ?_) (fun z10 => ?_)
        · refine wp_some ⟨?_, FrD.rf⟩
          rw [ed, if_neg q2, if_neg q3, if_neg q4, if_neg k5, if_neg q6, if_neg q7, if_neg z8, if_neg z9, if_neg z10]; exact h
        · have k10 : T 11 a = 10 := by omega
          have t10 := (hr.2 a ha).2.2.2.2.1 k10
          have v10 := (hv a ha).2.2.2.2.2.2.2.2.2.2.2.2.1 k10
          have w10 := v5 (Or.inr (Or.inr k10))
          have e : dOne T N D (a : Int) = (D.1, st D.2 (13 + (T 13 a).toNat) (T 12 a + 1).toNat (T 14 a)) := by
            rw [ed, if_neg q2, if_neg q3, if_neg q4, if_neg k5, if_neg q6, if_neg q7, if_neg z8, if_neg z9, if_pos k10]
            unfold dLevel
            rw [gt_n ha, gt_n ha, gt_n ha, if_pos ⟨⟨w10.1, by omega⟩, v10.1, v10.2.1⟩]
          rw [e]
          refine wp_rd (by omega) (by omega) ?_
          rw [Int.toNat_natCast, t10.1]
          refine wp_ck (by omega) (by omega) (wp_rd (by omega) (by omega) ?_)
          rw [Int.toNat_natCast, t10.2.1]
          refine wp_ck (by omega) (by omega) (wp_ck (by omega) (by omega) (wp_rd (by omega) (by omega) ?_))
          rw [Int.toNat_natCast, t10.2.2]
          refine wp_wr (by omega) (by omega) (wp_some ⟨?_, FrD.rf.upd (by decide)⟩)
          rw [show (161 * T 13 a + T 12 a + 1).toNat = 161 * (T 13 a).toNat + (T 12 a + 1).toNat by omega]
          exact h.u272 (by omega) (by omega)
    · have k6 : T 11 a = 6 := by omega
      have t6 : σ 237 a = T 13 a := (hr.2 a ha).2.2.2.2.2.2.2.2.2.2 k6
      have w6 := v5 (Or.inr (Or.inl k6))
      have v6 := (hv a ha).2.2.2.2.2.2.2.2.2.2.2.1 k6
      have e0 : dOne T N D (a : Int) = dNest T N D (a : Int) := by rw [ed, if_neg q2, if_neg q3, if_neg q4, if_neg (by omega), if_pos k6]
      refine wp_rd (by omega) (by omega) (wp_rd (by omega) (by omega) ?_)
      rw [Int.toNat_natCast, t1, t4 (by omega)]
      refine wp_b1e (r_levelIn h v1 ⟨w6.1, by omega⟩) ?_
      refine wp_if (fun z => off (by omega) (by omega) (by omega) ?_) (fun z => ?_)
      · rw [e0]; unfold dNest; rw [gt_n ha, gt_n ha, if_neg (fun y => z y.2.1)]
      · refine wp_rd (by omega) (by omega) (wp_rd (by omega) (by omega) ?_)
        rw [Int.toNat_natCast, t6, t4 (by omega)]
        have hf : T 13 a = -2 ∨ (-1 ≤ T 13 a ∧ T 13 a < 160) := v6.imp id (fun y => ⟨y.1, by omega⟩)
        refine wp_b1e (r_comesTo h hn (fun b hb => (hd.2.2.2.2.2.2.2.1 b hb).imp id (fun y => ⟨y.1, by omega⟩)) (fun f _ => hd.2.2.2.2.2.2.2.2.len 162 f) _ _ hf w6.1) ?_
        by_cases hc : T 12 a ∈ chn (D.2 11) 161 (T 13 a)
        · rw [decide_eq_true hc, if_pos (by decide)]
          refine off (by omega) (by omega) (by omega) ?_
          rw [e0]; unfold dNest; rw [gt_n ha, gt_n ha, gt_n ha, if_neg (fun y => y.2.2 hc)]
        · rw [decide_eq_false hc, if_neg (by decide)]
          refine wp_rd (by omega) (by omega) ?_
          rw [Int.toNat_natCast, t4 (by omega)]
          refine wp_ck (by omega) (by omega) (wp_rd (by omega) (by omega) ?_)
          rw [Int.toNat_natCast, t6]
          refine wp_wr (by omega) (by omega) (wp_some ⟨?_, FrD.rf.upd (by decide)⟩)
          rw [e0]; unfold dNest
          rw [gt_n ha, gt_n ha, gt_n ha, if_pos ⟨⟨w6.1, by omega⟩, by omega, hc⟩]
          exact h.u271
  refine wp_if (fun q2 => ?_) (fun q2 => ?_)
  · refine wp_if (fun q3 => ?_) (fun q3 => ?_)
    · have j118 : T 11 a = 4 ∨ T 11 a = 7 → wp (fX6_does_J118 n σ (a : Int)) (fun σ2 => isR σ2 N (dOne T N D (a : Int)) ∧ FrD σ σ2) := by
        intro k47
        have pp := hp.2.2.1 k47
        unfold fX6_does_J118
        rcases k47 with k4 | k7
        · exact w1 (r_spans h hr hv hd hN (by omega) ha (Or.inl k4) pp.1 pp.2 (fun _ => rfl) (fun z => by omega)) (by rw [ed, if_neg q2, if_neg q3, if_pos k4])
        · exact w1 (r_spans h hr hv hd hN (by omega) ha (Or.inr k7) pp.1 pp.2 (fun z => by omega) (fun _ => rfl)) (by rw [ed, if_neg q2, if_neg q3, if_neg (by omega), if_neg (by omega), if_neg (by omega), if_pos k7])
      refine wp_if (fun q4 => j118 (Or.inl q4)) (fun q4 => wp_if (fun q7 => ?_) (fun q7 => j118 (Or.inr (by omega))))
      refine wp_if (fun q5 => ?_) (fun q5 => ?_)
      · exact j172 q2 q3 q4 q7 (fun z => absurd z q5)
      · have k5 : T 11 a = 5 := by omega
        have w5 := v5 (Or.inl k5)
        have t5 : σ 237 a = T 14 a := (hr.2 a ha).2.2.2.2.2.2.2.2.2.1 k5
        have e0 : dOne T N D (a : Int) = dKind T N D (a : Int) := by rw [ed, if_neg q2, if_neg q3, if_neg q4, if_pos k5]
        refine wp_rd (by omega) (by omega) (wp_rd (by omega) (by omega) ?_)
        rw [Int.toNat_natCast, t1, t4 (by omega)]
        refine wp_b1e (r_levelIn h v1 ⟨w5.1, by omega⟩) ?_
        refine wp_if (fun z => j172 q2 q3 q4 q7 (fun _ => ?_)) (fun z => ?_)
        · rw [e0]; unfold dKind; rw [gt_n ha, gt_n ha, if_neg (fun y => z y.2)]
        · refine wp_rd (by omega) (by omega) ?_
          rw [Int.toNat_natCast, t4 (by omega)]
          refine wp_ck (by omega) (by omega) (wp_rd (by omega) (by omega) ?_)
          rw [Int.toNat_natCast, t5]
          refine wp_wr (by omega) (by omega) (wp_some ⟨?_, FrD.rf.upd (by decide)⟩)
          rw [e0]; unfold dKind
          rw [gt_n ha, gt_n ha, gt_n ha, if_pos ⟨⟨w5.1, by omega⟩, by omega⟩]
          exact h.u270
    · have k3 : T 11 a = 3 := by omega
      have he := hp.2.1 (Or.inr k3)
      have hnum := hd.row hN he
      have g6 := hd.2.2.2.2.2.1 (T 12 a).toNat
      have h6 := h.2.2.2.2.1 (T 12 a).toNat (by omega)
      have e0 : dOne T N D (a : Int) = dRes T N D (a : Int) := by rw [ed, if_neg q2, if_pos k3]
      have e1 : dRes T N D (a : Int) = if lev D (T 9 a) (blk D (T 12 a)) = 0 then (D.1, st D.2 6 (T 12 a).toNat 0) else D := by
        unfold dRes dLv
        rw [gt_n ha, gt_n ha]
        by_cases z : lev D (T 9 a) (blk D (T 12 a)) = 0
        · rw [if_pos ⟨hnum.1, z⟩, if_pos z]
        · rw [if_neg (fun y => z y.2), if_neg z]
      have same : ∀ v : Int, D.2 6 (T 12 a).toNat = v → st D.2 6 (T 12 a).toNat v = D.2 := by
        intro v hv2
        funext x y
        unfold st
        split
        · rename_i hx
          split
          · rename_i hy; rw [hx, hy, hv2]
          · rw [hx]
        · rfl
      rw [e0, e1]
      refine wp_rd (by omega) (by omega) (wp_rd (by omega) (by omega) ?_)
      rw [Int.toNat_natCast, t4 (by omega)]
      refine wp_rd hnum.1.1 (by omega) ?_
      rw [h6]
      refine wp_if (fun z => ?_) (fun z => ?_)
      · refine wp_wrb hnum.1.1 (by omega) (Or.inl rfl) (wp_some ⟨?_, FrD.rf.upd (by decide)⟩)
        have := h.u266 (i := (T 12 a).toNat) (v := 0)
        split
        · exact this
        · rw [same 0 z] at this; exact this
      · refine wp_rd (by omega) (by omega) (wp_rd (by omega) (by omega) ?_)
        rw [Int.toNat_natCast, t1, t4 (by omega)]
        refine wp_b1e (r_blockOf h hr hd hN (by omega) (Or.inr he)) (wp_b1e (r_levelIn h v1 (blk_in hd hN _)) ?_)
        by_cases y : lev D (T 9 a) (blk D (T 12 a)) = 0
        · rw [if_pos y, if_pos y]
          exact wp_wrb hnum.1.1 (by omega) (Or.inl rfl) (wp_some ⟨h.u266, FrD.rf.upd (by decide)⟩)
        · rw [if_neg y, if_neg y]
          refine wp_wrb hnum.1.1 (by omega) (Or.inr rfl) (wp_some ⟨?_, FrD.rf.upd (by decide)⟩)
          have := h.u266 (i := (T 12 a).toNat) (v := 1)
          rw [same 1 (by rcases g6 with w | w; exact absurd w z; exact w)] at this
          exact this
  · have k2 : T 11 a = 2 := by omega
    exact w1 (r_rem h hr hv hd hN (by omega) ha k2 (hp.2.1 (Or.inl k2))) (by rw [ed, if_pos k2])
end RONE
