def pre (T : St) (N : Nat) (D : Dc) (a : Nat) : Prop :=
  ((T 11 a = 0 ∨ T 11 a = 1) → (T 12 a = -1 ∨ T 12 a ∈ D.1) ∧ (a : Int) ∉ D.1 ∧ D.1.length < 160) ∧ ((T 11 a = 2 ∨ T 11 a = 3) → T 12 a ∈ D.1) ∧ ((T 11 a = 4 ∨ T 11 a = 7) → T 12 a ∈ D.1 ∧ T 13 a ∈ D.1) ∧
  ((T 11 a = 8 ∨ T 11 a = 9) → (mkE T N (T 12 a) = true → T 12 a ∈ D.1) ∧ (T 11 (T 12 a).toNat = 2 → T 12 (T 12 a).toNat ∈ D.1))
theorem gt_n {T : St} {N r : Nat} {d : Int} {a : Nat} (h : a < N) : gt T N r d (a : Int) = T r a := by unfold gt; rw [if_pos (by omega), Int.toNat_natCast]
theorem gt_i {T : St} {N r : Nat} {d x : Int} (h : 0 ≤ x ∧ x < (N : Int)) : gt T N r d x = T r x.toNat := if_pos h
section RDOES
variable {T σ : St} {N n a : Nat} {D : Dc}
theorem r_rem (h : isR σ N D) (hr : RT T σ N) (hv : TV T N) (hd : DI T N D) (hN : N ≤ 160) (hn : 161 ≤ n) (ha : a < N) (hk : T 11 a = 2) (he : T 12 a ∈ D.1) : wp (fX6_removes n σ (a : Int)) (fun σ2 => isR σ2 N (dRem T N D (a : Int)) ∧ FrD σ σ2) := by
  have t1 := (hr.2 a ha).1
  have t4 : σ 236 a = T 12 a := (hr.2 a ha).2.2.2.1 (by rw [hk]; decide)
  have t7 : σ 240 a = T 15 a := (hr.2 a ha).2.2.2.2.2.2.1 (Or.inr (Or.inr (Or.inl hk)))
  have v1 := (hv a ha).1
  have hnum := hd.row hN he
  unfold fX6_removes
  refine wp_rd (by omega) (by omega) (wp_rd (by omega) (by omega) ?_)
  rw [Int.toNat_natCast, t4, t1]
  refine wp_b1e (r_blockOf h hr hd hN hn (Or.inr he)) (wp_b1e (r_levelIn h v1 (blk_in hd hN _)) ?_)
  have hD : ∀ q : Prop, [Decidable q] → (q ↔ (D.2 4 (T 12 a).toNat = 2 ∧ T 9 (T 12 a).toNat = T 9 a) ∨ (lev D (T 9 a) (blk D (T 12 a)) = 0 ∧ T 15 a = 0)) → lev D (T 9 a) (blk D (T 12 a)) ≠ 2 → dRem T N D (a : Int) = if q then (D.1, st D.2 6 (T 12 a).toNat 1) else (D.1, st D.2 8 a 1) := by
    intro q _ hq hl
    unfold dRem dLv
    rw [gt_n ha, gt_n ha, gt_n ha, gt_i ⟨hnum.1.1, hnum.2⟩, if_pos ⟨hnum.1, hl⟩, Int.toNat_natCast]
    by_cases hq2 : q
    · rw [if_pos hq2, if_pos (hq.mp hq2)]
    · rw [if_neg hq2, if_neg (fun z => hq2 (hq.mpr z))]
  generalize hlv : lev D (T 9 a) (blk D (T 12 a)) = lv at hD ⊢
  refine wp_if (fun q2 => ?_) (fun q2 => ?_)
  · refine wp_some ⟨?_, FrD.rf⟩
    unfold dRem dLv
    rw [gt_n ha, gt_n ha, hlv, if_neg (fun z => z.2 q2)]; exact h
  · have yes : (D.2 4 (T 12 a).toNat = 2 ∧ T 9 (T 12 a).toNat = T 9 a) ∨ (lv = 0 ∧ T 15 a = 0) → wp (fX6_removes_J78 n σ (a : Int) (T 12 a)) (fun σ2 => isR σ2 N (dRem T N D (a : Int)) ∧ FrD σ σ2) := by
      intro q
      unfold fX6_removes_J78
      refine wp_wrb hnum.1.1 (by omega) (Or.inr rfl) (wp_some ⟨?_, FrD.rf.upd (by decide)⟩)
      rw [hD True ⟨fun _ => q, fun _ => trivial⟩ q2, if_pos trivial]
      exact h.u266
    have no : ¬ ((D.2 4 (T 12 a).toNat = 2 ∧ T 9 (T 12 a).toNat = T 9 a) ∨ (lv = 0 ∧ T 15 a = 0)) → wp (wrb σ 269 160 (a : Int) 1 (fun σ9 => some σ9)) (fun σ2 => isR σ2 N (dRem T N D (a : Int)) ∧ FrD σ σ2) := by
      intro q
      refine wp_wrb (by omega) (by omega) (Or.inr rfl) (wp_some ⟨?_, FrD.rf.upd (by decide)⟩)
      rw [hD False ⟨fun z => z.elim, fun z => q z⟩ q2, if_neg id]
      exact h.u269
    have j58 : ∀ t0 : Int, (t0 ≠ 0 ↔ (D.2 4 (T 12 a).toNat = 2 ∧ T 9 (T 12 a).toNat = T 9 a)) → wp (fX6_removes_J58 n σ (a : Int) (T 12 a) lv t0) (fun σ2 => isR σ2 N (dRem T N D (a : Int)) ∧ FrD σ σ2) := by
      intro t0 ht0
      have j73 : ¬ (lv = 0 ∧ T 15 a = 0) → wp (fX6_removes_J73 n σ (a : Int) (T 12 a) t0) (fun σ2 => isR σ2 N (dRem T N D (a : Int)) ∧ FrD σ σ2) := by
        intro q
        unfold fX6_removes_J73
        refine wp_if (fun q0 => no (fun z => z.elim (fun z => (ht0.mpr z) q0) q)) (fun q0 => yes (Or.inl (ht0.mp q0)))
      unfold fX6_removes_J58
      refine wp_if (fun q => j73 (fun z => q z.1)) (fun q => ?_)
      refine wp_rd (by omega) (by omega) ?_
      rw [Int.toNat_natCast, t7]
      refine wp_if (fun q1 => yes (Or.inr ⟨by omega, q1⟩)) (fun q1 => j73 (fun z => q1 z.2))
    have hst := h.2.2.2.1 _ he
    have tm := (hr.2 (T 12 a).toNat (by omega)).1
    refine wp_rd hnum.1.1 (by omega) ?_
    refine wp_if (fun q => ?_) (fun q => ?_)
    · unfold fX6_removes_J57
      exact j58 0 ⟨fun z => absurd rfl z, fun z => absurd z.1 (by omega)⟩
    · refine wp_rd hnum.1.1 (by omega) (wp_rd (by omega) (by omega) ?_)
      rw [tm, Int.toNat_natCast, t1]
      refine wp_if (fun q1 => ?_) (fun q1 => ?_)
      · unfold fX6_removes_J57
        exact j58 0 ⟨fun z => absurd rfl z, fun z => absurd z.2 q1⟩
      · exact j58 1 ⟨fun _ => ⟨by omega, by omega⟩, fun _ => by decide⟩
theorem r_comesTo (h : isR σ N D) (hn : 400 ≤ n) (hab : ∀ b, b < 161 → D.2 11 b = -2 ∨ (-1 ≤ D.2 11 b ∧ D.2 11 b < 160)) (hch : ∀ f : Int, (f = -2 ∨ (-1 ≤ f ∧ f < 160)) → (chn (D.2 11) 162 f).length ≤ 161) (f o : Int) (hf : f = -2 ∨ (-1 ≤ f ∧ f < 160)) (ho : -1 ≤ o) : fX6_comesTo n σ f o = some (b2i (decide (o ∈ chn (D.2 11) 161 f))) := by
  have key : ∀ (g : Int) (k m : Nat) (f : Int), k < m → (f = -2 ∨ (-1 ≤ f ∧ f < 160)) → (chn (D.2 11) (k + 1) f).length ≤ k → fX6_comesTo_L2 n σ g o m f = some (b2i (decide (o ∈ chn (D.2 11) k f))) := by
    intro g k
    induction k with
    | zero =>
      intro m f hm hf hl
      obtain ⟨m, rfl⟩ : ∃ q, m = q + 1 := ⟨m - 1, by omega⟩
      show fX6_comesTo_L2s n σ g o _ f = _
      unfold fX6_comesTo_L2s fX6_comesTo_J25
      rcases hf with rfl | hf
      · rw [if_pos rfl, if_pos rfl]; rfl
      · rw [chn_s hf] at hl; exact absurd hl (by show ¬ (_ + 1 ≤ 0); omega)
    | succ k ih =>
      intro m f hm hf hl
      obtain ⟨m, rfl⟩ : ∃ q, m = q + 1 := ⟨m - 1, by omega⟩
      show fX6_comesTo_L2s n σ g o (fX6_comesTo_L2 n σ g o m) f = _
      unfold fX6_comesTo_L2s fX6_comesTo_J25
      by_cases hf2 : f = -2
      · rw [if_pos hf2, if_pos hf2, chn_n (by omega)]; rfl
      · have hf1 := hf.resolve_left hf2
        rw [if_neg hf2, chn_s hf1]
        by_cases hfo : f = o
        · rw [if_pos hfo, if_neg hf2, decide_eq_true (by rw [hfo]; exact List.mem_cons_self)]; rfl
        · rw [if_neg hfo, ck_ok (by omega) (by omega), rd_ok (by omega) (by omega), (h.2.2.2.2.2.2.2.2.1 (f + 1).toNat (by omega)).2]
          rw [chn_s hf1] at hl
          have hl : (chn (D.2 11) (k + 1) (D.2 11 (f + 1).toNat)).length + 1 ≤ k + 1 := hl
          refine (ih m _ (by omega) (hab _ (by omega)) (by omega)).trans ?_
          congr 2
          refine decide_eq_decide.mpr ⟨fun q => List.mem_cons_of_mem _ q, fun q => (List.mem_cons.mp q).resolve_left (fun q => hfo q.symm)⟩
  exact key f 161 n f (by omega) hf (hch f hf)
theorem r_isOpenE (h : isR σ N D) (hr : RT T σ N) (hd : DI T N D) (hN : N ≤ 160) {x : Int} (hx : 0 ≤ x ∧ x < (N : Int)) (h1 : mkE T N x = true → x ∈ D.1) (h2 : T 11 x.toNat = 2 → T 12 x.toNat ∈ D.1) : fX6_isOpen σ x = some (b2i (openB T N D x)) := by
  have hk := (hr.2 x.toNat (by omega)).2.2.1
  have hnx : num x := ⟨hx.1, by omega⟩
  unfold fX6_isOpen fX6_isOpen_J57 openB
  rw [rd_ok hx.1 (by omega), hk, decide_eq_true hnx, Bool.true_and]
  by_cases k2 : T 11 x.toNat = 2
  · have hnot : x ∉ D.1 := fun q => by have := (mkE_num (hd.2.1 x q)).2; omega
    have h4 := (hd.2.2.2.1 x.toNat (by rw [Int.toNat_of_nonneg hx.1]; exact hnot)).1
    rw [if_neg (by omega), rd_ok hx.1 (by omega), h.2.2.2.2.2.2.1 x.toNat (by omega), decide_eq_false (show ¬ (D.2 4 x.toNat = 2 ∧ D.2 6 x.toNat = 0) from fun q => by omega), Bool.false_or, gt_i hx]
    by_cases h8 : D.2 8 x.toNat = 0
    · rw [if_pos h8, decide_eq_false (by omega)]; rfl
    · have t4 := (hr.2 x.toNat (by omega)).2.2.2.1 (by omega)
      rw [if_neg h8, decide_eq_true h8, rd_ok hx.1 (by omega), t4, b1_ok (r_isSeen h hd hN (h2 k2))]
      cases seenB D (T 12 x.toNat) <;> rfl
  · have h8 : D.2 8 x.toNat = 0 := Decidable.byContradiction (fun q => k2 ((hd.2.2.2.2.1 x.toNat).2 q).2)
    rw [if_pos k2, decide_eq_false (show ¬ (D.2 8 x.toNat ≠ 0) from fun q => q h8), Bool.false_and, Bool.or_false, rd_ok hx.1 (by omega), hk]
    by_cases hm : mkE T N x = true
    · have hxr := h1 hm
      have hst := h.2.2.2.1 x hxr
      have h6 := h.2.2.2.2.1 x.toNat (by omega)
      have fin : (rd σ 265 160 x fun v7 => if v7 ≠ 1 then some 0 else rd σ 266 160 x fun v8 => if v8 ≠ 0 then some 0 else some 1) = some (b2i (decide (D.2 4 x.toNat = 2 ∧ D.2 6 x.toNat = 0))) := by
        rw [rd_ok hx.1 (by omega), rd_ok hx.1 (by omega), h6]
        by_cases q : σ 265 x.toNat = 1
        · rw [if_neg (by omega)]
          by_cases q6 : D.2 6 x.toNat = 0
          · rw [if_neg (by omega), decide_eq_true ⟨by omega, q6⟩]; rfl
          · rw [if_pos q6, decide_eq_false (by omega)]; rfl
        · rw [if_pos q, decide_eq_false (by omega)]; rfl
      rw [fin]
      rcases (mkE_num hm).2 with q | q
      · rw [if_pos q]
      · rw [if_neg (by omega), rd_ok hx.1 (by omega), hk, if_neg (by omega)]
    · have hnk : T 11 x.toNat ≠ 0 ∧ T 11 x.toNat ≠ 1 := by
        constructor
        · intro q; exact hm (decide_eq_true ⟨hx, Or.inl q⟩)
        · intro q; exact hm (decide_eq_true ⟨hx, Or.inr q⟩)
      have hnot : x ∉ D.1 := fun q => hm (hd.2.1 x q)
      have h4 := (hd.2.2.2.1 x.toNat (by rw [Int.toNat_of_nonneg hx.1]; exact hnot)).1
      rw [if_neg hnk.1, rd_ok hx.1 (by omega), hk, if_pos hnk.2, decide_eq_false (show ¬ (D.2 4 x.toNat = 2 ∧ D.2 6 x.toNat = 0) from fun q => by omega)]; rfl
theorem r_set (h : isR σ N D) (hr : RT T σ N) (hv : TV T N) (hd : DI T N D) (hN : N ≤ 160) (hn : 161 ≤ n) (ha : a < N) (hk : T 11 a = 8 ∨ T 11 a = 9) (h1 : mkE T N (T 12 a) = true → T 12 a ∈ D.1) (h2 : T 11 (T 12 a).toNat = 2 → T 12 (T 12 a).toNat ∈ D.1) (ok : Bool) : wp (fX6_decides n σ (T 12 a) (T 9 a) (b2i ok)) (fun σ2 => isR σ2 N (dSet T N D (a : Int) ok) ∧ FrD σ σ2) := by
  have v1 := (hv a ha).1
  have vp := (hv a ha).2.2.2.2.2.2.2.2.2.2.2.2.2 (by omega)
  generalize hpr : T 12 a = pr at h1 h2 vp ⊢
  have hprN : 0 ≤ pr ∧ pr < (N : Int) := ⟨vp.1, by omega⟩
  have hnp : num pr := ⟨vp.1, by omega⟩
  have hkp := (hr.2 pr.toNat (by omega)).2.2.1
  have hg : gt T N 12 (-1) (a : Int) = pr := by rw [gt_n ha, hpr]
  have off : openB T N D pr = false → dSet T N D (a : Int) ok = D := by
    intro q
    unfold dSet
    rw [hg, if_neg (fun z => by rw [q] at z; exact Bool.noConfusion z.2.1)]
  -- the open one
  have on : openB T N D pr = true → wp (fX6_decides_J21 n σ pr (T 9 a) (b2i ok) 1) (fun σ2 => isR σ2 N (dSet T N D (a : Int) ok) ∧ FrD σ σ2) := by
    intro ho
    have hcases : (mkE T N pr = true ∧ pr ∈ D.1) ∨ (T 11 pr.toNat = 2 ∧ mkE T N pr = false ∧ T 12 pr.toNat ∈ D.1) := by
      by_cases hm : mkE T N pr = true
      · exact Or.inl ⟨hm, h1 hm⟩
      · have hm : mkE T N pr = false := Bool.eq_false_iff.mpr hm
        refine Or.inr ⟨?_, hm, ?_⟩
        · unfold openB at ho
          rw [decide_eq_true hnp, Bool.true_and, Bool.or_eq_true] at ho
          have hnot : pr ∉ D.1 := fun q => by rw [hd.2.1 pr q] at hm; exact Bool.noConfusion hm
          have h4 := (hd.2.2.2.1 pr.toNat (by rw [Int.toNat_of_nonneg vp.1]; exact hnot)).1
          rcases ho with q | q
          · have := of_decide_eq_true q; omega
          · rw [Bool.and_eq_true] at q
            exact ((hd.2.2.2.2.1 pr.toNat).2 (of_decide_eq_true q.1)).2
        · refine h2 ?_
          unfold openB at ho
          rw [decide_eq_true hnp, Bool.true_and, Bool.or_eq_true] at ho
          have hnot : pr ∉ D.1 := fun q => by rw [hd.2.1 pr q] at hm; exact Bool.noConfusion hm
          have h4 := (hd.2.2.2.1 pr.toNat (by rw [Int.toNat_of_nonneg vp.1]; exact hnot)).1
          rcases ho with q | q
          · have := of_decide_eq_true q; omega
          · rw [Bool.and_eq_true] at q
            exact ((hd.2.2.2.2.1 pr.toNat).2 (of_decide_eq_true q.1)).2
    have hel : elemOf T N pr = (if T 11 pr.toNat = 2 then T 12 pr.toNat else pr) ∧ (if T 11 pr.toNat = 2 then T 12 pr.toNat else pr) ∈ D.1 := by
      unfold elemOf
      rcases hcases with ⟨q1, q2⟩ | ⟨q1, q2, q3⟩
      · have := (mkE_num q1).2
        rw [if_pos q1, if_neg (by omega)]; exact ⟨rfl, q2⟩
      · rw [q2, if_neg (by decide), if_pos q1, gt_i hprN]; exact ⟨rfl, q3⟩
    generalize hee : (if T 11 pr.toNat = 2 then T 12 pr.toNat else pr) = el at hel
    have hne := hd.row hN hel.2
    unfold fX6_decides_J21
    rw [if_neg (by decide)]
    have eo : fX6_elementOf σ pr = some el := by
      unfold fX6_elementOf
      rw [rd_ok vp.1 (by omega), hkp, ← hee]
      by_cases q : T 11 pr.toNat = 2
      · rw [if_neg (by omega), if_pos q, rd_ok vp.1 (by omega), (hr.2 pr.toNat (by omega)).2.2.2.1 (by omega)]
      · rw [if_pos q, if_neg q]
    refine wp_b1e eo (wp_b1e (r_blockOf h hr hd hN hn (Or.inr hel.2)) (wp_b1e (r_levelIn h v1 (blk_in hd hN _)) ?_))
    have hdd : lev D (T 9 a) (blk D el) = 0 → dSet T N D (a : Int) ok = (if el = pr then (D.1, st D.2 4 pr.toNat (if ok = true then 1 else 3)) else (D.1, st (st D.2 8 pr.toNat 0) 6 el.toNat (if D.2 6 el.toNat ≠ 0 ∨ ok = true then 1 else 0))) := by
      intro q
      unfold dSet dLv
      rw [hg, hel.1, gt_n ha, if_pos ⟨hne.1, ho, q⟩]
    refine wp_if (fun q => ?_) (fun q => ?_)
    · refine wp_some ⟨?_, FrD.rf⟩
      have : dSet T N D (a : Int) ok = D := by
        unfold dSet dLv
        rw [hg, hel.1, gt_n ha, if_neg (fun z => q z.2.2)]
      rw [this]; exact h
    · rw [hdd (by omega)]
      refine wp_rd vp.1 (by omega) ?_
      rw [hkp]
      by_cases k2 : T 11 pr.toNat = 2
      · rw [if_neg (by omega)]
        rw [if_pos k2] at hee
        have hnep : el ≠ pr := by
          intro z
          have := (mkE_num (hd.2.1 el hel.2)).2
          rw [z] at this; omega
        rw [if_neg hnep]
        refine wp_wrb vp.1 (by omega) (Or.inl rfl) ?_
        have h3 := h.u269 (i := pr.toNat) (v := 0)
        have f3 := (FrD.rf (σ := σ)).upd (r := 269) (i := pr.toNat) (v := 0) (by decide)
        have hr3 := hr.fr f3
        generalize st σ 269 pr.toNat 0 = σ1 at h3 f3 hr3
        have t4 := (hr3.2 pr.toNat (by omega)).2.2.2.1 (by omega)
        refine wp_rd vp.1 (by omega) (wp_rd vp.1 (by omega) ?_)
        rw [t4, hee]
        refine wp_rd hne.1.1 (by omega) ?_
        rw [h3.2.2.2.2.1 el.toNat (by omega)]
        show wp (if D.2 6 el.toNat ≠ 0 then _ else _) _
        refine wp_if (fun q6 => ?_) (fun q6 => ?_)
        · refine wp_wrb hne.1.1 (by omega) (Or.inr rfl) (wp_some ⟨?_, f3.upd (by decide)⟩)
          rw [if_pos (Or.inl q6)]; exact h3.u266
        · cases ok with
          | false =>
            rw [if_pos (by rfl), if_neg (fun z => z.elim q6 (fun z => Bool.noConfusion z))]
            exact wp_wrb hne.1.1 (by omega) (Or.inl rfl) (wp_some ⟨h3.u266, f3.upd (by decide)⟩)
          | true =>
            rw [if_neg (by decide), if_pos (Or.inr rfl)]
            exact wp_wrb hne.1.1 (by omega) (Or.inr rfl) (wp_some ⟨h3.u266, f3.upd (by decide)⟩)
      · rw [if_pos k2]
        rw [if_neg k2] at hee
        rw [if_pos hee.symm]
        cases ok with
        | false =>
          rw [if_pos (by rfl)]
          exact wp_wr vp.1 (by omega) (wp_some ⟨h.u265 (by decide), FrD.rf.upd (by decide)⟩)
        | true =>
          rw [if_neg (by decide)]
          exact wp_wr vp.1 (by omega) (wp_some ⟨h.u265 (by decide), FrD.rf.upd (by decide)⟩)
  have hoff : openB T N D pr = false → wp (fX6_decides_J20 n σ pr (T 9 a) (b2i ok)) (fun σ2 => isR σ2 N (dSet T N D (a : Int) ok) ∧ FrD σ σ2) := by
    intro q
    unfold fX6_decides_J20 fX6_decides_J21
    rw [if_pos rfl, off q]
    exact wp_some ⟨h, FrD.rf⟩
  unfold fX6_decides fX6_isDone
  refine wp_b1 (P := fun v => v = 0 → openB T N D pr = false) ?_ (fun v hvv => ?_)
  · refine wp_rd vp.1 (by omega) ?_
    rw [hkp]
    refine wp_if (fun _ => wp_some (fun z => absurd z (by decide))) (fun q => ?_)
    refine wp_b1e (r_spot h hn pr) ?_
    rw [h.1]
    refine wp_if (fun q2 => wp_some (fun _ => ?_)) (fun _ => wp_some (fun z => absurd z (by decide)))
    have hnot : pr ∉ D.1 := fun z => by have := ix_lt z; omega
    have hm : mkE T N pr ≠ true := fun z => hnot (h1 z)
    have h4 := (hd.2.2.2.1 pr.toNat (by rw [Int.toNat_of_nonneg vp.1]; exact hnot)).1
    have h8 : D.2 8 pr.toNat = 0 := Decidable.byContradiction (fun z => q ((hd.2.2.2.2.1 pr.toNat).2 z).2)
    unfold openB
    rw [decide_eq_false (show ¬ (D.2 4 pr.toNat = 2 ∧ D.2 6 pr.toNat = 0) from fun z => by omega), decide_eq_false (show ¬ (D.2 8 pr.toNat ≠ 0) from fun z => z h8), Bool.false_and, Bool.or_false, Bool.and_false]
  · refine wp_if (fun q => hoff (hvv q)) (fun _ => ?_)
    refine wp_b1e (r_isOpenE h hr hd hN hprN h1 h2) ?_
    cases ho : openB T N D pr with
    | false => rw [if_pos (by rfl)]; exact hoff ho
    | true => rw [if_neg (by decide)]; exact on ho
end RDOES
