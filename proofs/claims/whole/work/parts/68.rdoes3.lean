/-! ===== marks, comments and elements in the reference ===== -/
def accB (P : Int → Bool) : Int → List Int → Nat → Int
  | acc, _, 0 => acc
  | acc, [], _ + 1 => acc
  | acc, x :: L, k + 1 => accB P (if P x = true then x else acc) L k
theorem bK_acc (P : Int → Bool) (L : List Int) : ∀ acc k, k < L.length → bK P L acc k = if P (L.getD k 0) = true then L.getD k 0 else accB P acc L k := by
  induction L with
  | nil => intro acc k h; exact absurd h (Nat.not_lt_zero k)
  | cons x L ih =>
    intro acc k h
    cases k with
    | zero => rfl
    | succ k => exact ih _ k (Nat.lt_of_succ_lt_succ h)
theorem accB_s (P : Int → Bool) (L : List Int) : ∀ acc k, k < L.length → accB P acc L (k + 1) = if P (L.getD k 0) = true then L.getD k 0 else accB P acc L k := by
  induction L with
  | nil => intro acc k h; exact absurd h (Nat.not_lt_zero k)
  | cons x L ih =>
    intro acc k h
    cases k with
    | zero =>
      show accB P (if P x = true then x else acc) L 0 = if P x = true then x else acc
      cases L <;> rfl
    | succ k => exact ih _ k (Nat.lt_of_succ_lt_succ h)
theorem accB_0 (P : Int → Bool) (acc : Int) (L : List Int) : accB P acc L 0 = acc := by cases L <;> rfl
theorem dPnt_skip (P : Int → Bool) (lv : Int → Bool) (f l : Int) (g : Int → Int) (C : St) (L : List Int) : ∀ acc, f ∈ L → dPnt P lv f l g false acc C L = if ix l L < ix f L then C else dPnt P lv f l g true (accB P acc L (ix f L)) C (L.drop (ix f L)) := by
  induction L with
  | nil => intro acc h; cases h
  | cons x L ih =>
    intro acc h
    by_cases hf : x = f
    · have e : ix f (x :: L) = 0 := if_pos hf
      rw [e, if_neg (Nat.not_lt_zero _), accB_0]
      show dPnt P lv f l g false acc C (x :: L) = dPnt P lv f l g true acc C (x :: L)
      rw [dPnt_c, dPnt_c, decide_eq_true hf]; rfl
    · have e : ix f (x :: L) = ix f L + 1 := if_neg hf
      have hm := (List.mem_cons.mp h).resolve_left (fun q => hf q.symm)
      have e3 : (if (false || decide (x = f)) = true ∧ lv (if P x = true then x else acc) = true then st C 7 x.toNat (g (C 7 x.toNat)) else C) = C := by
        rw [decide_eq_false hf]; exact if_neg (fun q => Bool.noConfusion q.1)
      rw [e, dPnt_c, e3, decide_eq_false hf, Bool.or_false]
      by_cases hl : x = l
      · have e2 : ix l (x :: L) = 0 := if_pos hl
        rw [if_pos hl, e2, if_pos (Nat.succ_pos _)]
      · have e2 : ix l (x :: L) = ix l L + 1 := if_neg hl
        rw [if_neg hl, e2, ih _ hm]
        by_cases hlt : ix l L < ix f L
        · rw [if_pos hlt, if_pos (by omega)]
        · rw [if_neg hlt, if_neg (show ¬ (ix l L + 1 < ix f L + 1) from by omega)]; rfl
theorem nodup_ix {L : List Int} (h : L.Nodup) : ∀ {k : Nat}, k < L.length → ix (L.getD k 0) L = k := by
  induction L with
  | nil => intro k hk; exact absurd hk (Nat.not_lt_zero k)
  | cons x L ih =>
    rw [List.nodup_cons] at h
    intro k hk
    cases k with
    | zero => exact if_pos rfl
    | succ k =>
      have hk2 : k < L.length := Nat.lt_of_succ_lt_succ hk
      show (if x = L.getD k 0 then 0 else ix (L.getD k 0) L + 1) = k + 1
      rw [if_neg (fun q => h.1 (by rw [q, List.getD_eq_getElem?_getD, List.getElem?_eq_getElem hk2]; exact List.getElem_mem hk2)), ih h.2 hk2]
theorem drop_cons {L : List Int} {k : Nat} (h : k < L.length) : L.drop k = L.getD k 0 :: L.drop (k + 1) := by
  rw [List.drop_eq_getElem_cons h, List.getD_eq_getElem?_getD, List.getElem?_eq_getElem h]; rfl
theorem getD_mem {L : List Int} {k : Nat} (h : k < L.length) : L.getD k 0 ∈ L := by
  rw [List.getD_eq_getElem?_getD, List.getElem?_eq_getElem h]; exact List.getElem_mem h
theorem getD_ix {L : List Int} {e : Int} (h : e ∈ L) : L.getD (ix e L) 0 = e := by
  rw [List.getD_eq_getElem?_getD, ix_get h]; rfl
theorem DI.congr7 {T : St} {N : Nat} {D : Dc} {C : St} (h : DI T N D) (hC : ∀ q, q ≠ 7 → C q = D.2 q) : DI T N (D.1, C) := by
  obtain ⟨h1, h2, h3, h4, h5, h6, h7, h8, h9⟩ := h
  refine ⟨h1, h2, fun x hx => ?_, fun i hi => ?_, fun i => ?_, fun i => ?_, fun i => ?_, fun b hb => ?_, ?_⟩
  · show (C 4 _ = 1 ∨ C 4 _ = 2 ∨ C 4 _ = 3) ∧ C 5 _ = _
    rw [hC 4 (by decide), hC 5 (by decide)]; exact h3 x hx
  · show C 4 i = 0 ∧ C 5 i = 0
    rw [hC 4 (by decide), hC 5 (by decide)]; exact h4 i hi
  · show isB (C 8 i) ∧ (C 8 i ≠ 0 → _)
    rw [hC 8 (by decide)]; exact h5 i
  · show isB (C 6 i)
    rw [hC 6 (by decide)]; exact h6 i
  · show isB (C 9 i)
    rw [hC 9 (by decide)]; exact h7 i
  · show C 11 b = -2 ∨ _
    rw [hC 11 (by decide)]
    show D.2 11 b = -2 ∨ (-1 ≤ C 11 b ∧ C 11 b < (N : Int) ∧ (0 ≤ C 11 b → T 11 (C 11 b).toNat = 1))
    rw [hC 11 (by decide)]; exact h8 b hb
  · show AC (C 11)
    rw [hC 11 (by decide)]; exact h9
theorem isR.getv {σ : St} {N : Nat} {D : Dc} (h : isR σ N D) {i : Nat} (hi : i < D.1.length) : σ 264 i = D.1.getD i 0 := by
  have := h.get hi
  rw [List.getD_eq_getElem?_getD, this]; rfl
theorem BR_mark {x m c : Int} (h : BR x m c) {k : Nat} (hk : k < 2) : BR (bor x (bshl 1 (k : Int))) (bor m (bshl 1 (k : Int))) c ∧ BR (band x (bxor (bshl 1 (k : Int)) (-1))) (band m (bxor (bshl 1 (k : Int)) (-1))) c := by
  refine ⟨⟨fun j hj => ?_, fun j hj => ?_⟩, ⟨fun j hj => ?_, fun j hj => ?_⟩⟩
  · rw [tb_or, tb_or, h.1 j hj]
  · rw [tb_or, tb_shl (by omega) (by omega), decide_eq_false (by omega), Bool.or_false]; exact h.2 j hj
  · rw [tb_and, tb_and, h.1 j hj]
  · rw [tb_and, tb_not _ (by omega), tb_shl (by omega) (by omega), decide_eq_false (by omega), Bool.not_false, Bool.and_true]; exact h.2 j hj
theorem BR_com {x m c : Int} (h : BR x m c) {k : Nat} (hk : k < 20) : BR (bor x (bshl 1 (2 + (k : Int)))) m (bor c (bshl 1 (k : Int))) := by
  have e : (2 + (k : Int)) = ((2 + k : Nat) : Int) := by omega
  refine ⟨fun j hj => ?_, fun j hj => ?_⟩
  · rw [e, tb_or, tb_shl (by omega) (by omega), decide_eq_false (by omega), Bool.or_false]; exact h.1 j hj
  · rw [e, tb_or, tb_or, tb_shl (by omega) (by omega), tb_shl (by omega) (by omega), h.2 j hj]
    congr 1
    exact decide_eq_decide.mpr (by omega)
section RDOES2
variable {T σ : St} {N n a : Nat} {D : Dc}
theorem r_spans (h : isR σ N D) (hr : RT T σ N) (hv : TV T N) (hd : DI T N D) (hN : N ≤ 160) (hn : 161 ≤ n) (ha : a < N) (hk : T 11 a = 4 ∨ T 11 a = 7) (hf : T 12 a ∈ D.1) (hl : T 13 a ∈ D.1) {g : Int → Int}
    (hg4 : T 11 a = 4 → g = fun v => if T 15 a ≠ 0 then bor v (bshl 1 (T 14 a)) else band v (bxor (bshl 1 (T 14 a)) (-1))) (hg7 : T 11 a = 7 → g = fun v => bor v (bshl 1 (2 + T 14 a))) : wp (fX6_spans n σ (a : Int)) (fun σ2 => isR σ2 N (dPaint T N D (a : Int) g) ∧ FrD σ σ2) := by
  have t3 := (hr.2 a ha).2.2.1
  have t4 : σ 236 a = T 12 a := (hr.2 a ha).2.2.2.1 (by omega)
  have t37 : σ 237 a = T 13 a := by
    rcases hk with q | q
    · exact ((hr.2 a ha).2.2.2.2.2.2.2.1 q).1
    · exact ((hr.2 a ha).2.2.2.2.2.2.2.2.1 q).1
  have v1 := (hv a ha).1
  have hlen := h.2.1
  generalize hlv : (fun b => decide (gt T N 11 (-1) (a : Int) ≠ 4) || decide (lev D (gt T N 9 (-1) (a : Int)) b = 0)) = lv
  have elv : ∀ b, lv b = (decide (T 11 a ≠ 4) || decide (lev D (T 9 a) b = 0)) := fun b => by rw [← hlv, gt_n ha, gt_n ha]
  have stp : ∀ (lp : St → Int → Option St) (i : Nat) (σ1 : St) (C : St) (Q : St → Prop), i ≤ ix (T 13 a) D.1 → isR σ1 N (D.1, C) → (∀ q, q ≠ 7 → C q = D.2 q) → FrD σ σ1 →
      (∀ σ2, isR σ2 N (D.1, if lv (if brkB D (D.1.getD i 0) = true then D.1.getD i 0 else accB (brkB D) (-1) D.1 i) = true then st C 7 (D.1.getD i 0).toNat (g (C 7 (D.1.getD i 0).toNat)) else C) → FrD σ σ2 → wp (lp σ2 ((i : Int) + 1)) Q) → wp (fX6_spans_L22s n (a : Int) (ix (T 13 a) D.1 : Int) lp σ1 (i : Int)) Q := by
    intro lp i σ1 C Q hi h3 h4 h5 hq
    have hlt := ix_lt hl
    have hr1 := hr.fr h5
    have hd1 : DI T N (D.1, C) := hd.congr7 h4
    have hx : σ1 264 i = D.1.getD i 0 := h3.getv (i := i) (show i < D.1.length by omega)
    have hxm : D.1.getD i 0 ∈ D.1 := getD_mem (by omega)
    have hxn := hd.row hN hxm
    have eb : brkB (D.1, C) = brkB D := brkB_eq (M := D.1) (E := D.2) (h4 4 (by decide)) (h4 5 (by decide)) (h4 6 (by decide))
    have eblk := bK_acc (brkB D) D.1 (-1) i (by omega)
    have hbr := h3.2.2.2.2.2.1 (D.1.getD i 0).toNat (by omega)
    have hbr : BR (C 7 (D.1.getD i 0).toNat) (σ1 267 (D.1.getD i 0).toNat) (σ1 268 (D.1.getD i 0).toNat) := hbr
    have t3' := (hr1.2 a ha).2.2.1
    have t1' := (hr1.2 a ha).1
    unfold fX6_spans_L22s
    rw [if_neg (by omega)]
    refine wp_rd (by omega) (by omega) ?_
    rw [Int.toNat_natCast, t3']
    rcases hk with k4 | k7
    · have t38 := ((hr1.2 a ha).2.2.2.2.2.2.2.1 k4)
      have vv := (hv a ha).2.2.2.2.2.2.2.2.1 k4
      obtain ⟨q, hqv⟩ : ∃ q : Nat, T 14 a = (q : Int) := ⟨(T 14 a).toNat, by omega⟩
      have hq2 : q < 2 := by omega
      have hgm := BR_mark hbr hq2
      have hgv : ∀ v, g v = if T 15 a ≠ 0 then bor v (bshl 1 (q : Int)) else band v (bxor (bshl 1 (q : Int)) (-1)) := fun v => by rw [hg4 k4, hqv]
      rw [if_pos (by omega)]
      refine wp_rd (by omega) (by omega) ?_
      rw [Int.toNat_natCast, t1']
      refine wp_b1e (r_blockAt h3 hr1 hd1 hN hn (q := i) (show i < D.1.length by omega)) ?_
      rw [eb, eblk]
      generalize hbk : (if brkB D (D.1.getD i 0) = true then D.1.getD i 0 else accB (brkB D) (-1) D.1 i) = bk at hq
      have hbkr : -1 ≤ bk ∧ bk < 160 := by
        rcases bK_in (brkB D) D.1 (-1) i with z | z
        · rw [eblk, hbk] at z; omega
        · rw [eblk, hbk] at z; have := hd.row hN z; omega
      refine wp_b1e (r_levelIn h3 v1 hbkr) ?_
      rw [lev_eq (M := D.1) (E := D.2) (fun k hk => h4 k (by omega))]
      show wp (if lev D (T 9 a) bk ≠ 0 then _ else _) Q
      have ev : lv bk = decide (lev D (T 9 a) bk = 0) := by rw [elv, decide_eq_false (by omega), Bool.false_or]
      rw [ev] at hq
      by_cases hlev : lev D (T 9 a) bk = 0
      · rw [if_neg (fun z => z hlev)]
        rw [decide_eq_true hlev, if_pos rfl] at hq
        refine wp_rd (by omega) (by omega) (wp_vl ?_)
        refine wp_rd (by omega) (by omega) (wp_rd (by omega) (by omega) ?_)
        rw [Int.toNat_natCast, Int.toNat_natCast, t38.2.1, hx, hqv]
        refine wp_if (fun z => ?_) (fun z => ?_)
        · have e15 : ¬ (T 15 a ≠ 0) := fun y => z (t38.2.2.mpr y)
          refine wp_rd (by omega) (by omega) ?_
          rw [Int.toNat_natCast, hx]
          refine wp_rd hxn.1.1 (by omega) (wp_vl (wp_vl (wp_wr hxn.1.1 (by omega) (wp_ck (by omega) (by omega) (hq _ ?_ (h5.upd (by decide)))))))
          rw [hgv, if_neg e15]
          exact h3.u267 hgm.2
        · have e15 : T 15 a ≠ 0 := t38.2.2.mp (by omega)
          refine wp_rd (by omega) (by omega) ?_
          rw [Int.toNat_natCast, hx]
          refine wp_rd hxn.1.1 (by omega) (wp_vl (wp_wr hxn.1.1 (by omega) (wp_ck (by omega) (by omega) (hq _ ?_ (h5.upd (by decide))))))
          rw [hgv, if_pos e15]
          exact h3.u267 hgm.1
      · rw [if_pos hlev]
        rw [decide_eq_false hlev, if_neg (by decide)] at hq
        exact wp_ck (by omega) (by omega) (hq σ1 h3 h5)
    · have t42 := ((hr1.2 a ha).2.2.2.2.2.2.2.2.1 k7).2
      have vv := (hv a ha).2.2.2.2.2.2.2.2.2.1 k7
      obtain ⟨q, hqv⟩ : ∃ q : Nat, T 14 a = (q : Int) := ⟨(T 14 a).toNat, by omega⟩
      have hgm := BR_com hbr (k := q) (by omega)
      have hgv : ∀ v, g v = bor v (bshl 1 (2 + (q : Int))) := fun v => by rw [hg7 k7, hqv]
      rw [if_neg (by omega)]
      refine wp_rd (by omega) (by omega) ?_
      rw [Int.toNat_natCast, hx]
      refine wp_rd hxn.1.1 (by omega) (wp_rd (by omega) (by omega) ?_)
      rw [Int.toNat_natCast, t42, hqv]
      have ev : lv (if brkB D (D.1.getD i 0) = true then D.1.getD i 0 else accB (brkB D) (-1) D.1 i) = true := by rw [elv, decide_eq_true (by omega), Bool.true_or]
      rw [if_pos ev] at hq
      refine wp_vl (wp_vl (wp_wr hxn.1.1 (by omega) (wp_ck (by omega) (by omega) (hq _ ?_ (h5.upd (by decide))))))
      rw [hgv]
      exact h3.u268 hgm
  have key : ∀ (c m i : Nat) (σ1 : St) (C : St), i + c = ix (T 13 a) D.1 → c + 1 < m → isR σ1 N (D.1, C) → (∀ q, q ≠ 7 → C q = D.2 q) → FrD σ σ1 →
      wp (fX6_spans_L22 n (a : Int) (ix (T 13 a) D.1 : Int) m σ1 (i : Int)) (fun σ2 => isR σ2 N (D.1, dPnt (brkB D) lv (T 12 a) (T 13 a) g true (accB (brkB D) (-1) D.1 i) C (D.1.drop i)) ∧ FrD σ σ2) := by
    intro c
    induction c with
    | zero =>
      intro m i σ1 C h1 h2 h3 h4 h5
      obtain ⟨m, rfl⟩ : ∃ q, m = q + 1 + 1 := ⟨m - 2, by omega⟩
      have hlt := ix_lt hl
      show wp (fX6_spans_L22s n (a : Int) _ (fX6_spans_L22 n (a : Int) (ix (T 13 a) D.1 : Int) (m + 1)) σ1 (i : Int)) _
      refine stp _ i σ1 C _ (by omega) h3 h4 h5 (fun σ2 q1 q2 => ?_)
      show wp (fX6_spans_L22s n (a : Int) _ _ σ2 ((i : Int) + 1)) _
      unfold fX6_spans_L22s
      rw [if_pos (by omega)]
      refine wp_some ⟨?_, q2⟩
      rw [drop_cons (by omega), dPnt_c, if_pos (by rw [show i = ix (T 13 a) D.1 by omega, getD_ix hl]), Bool.true_or]
      have e : (true = true ∧ lv (if brkB D (D.1.getD i 0) = true then D.1.getD i 0 else accB (brkB D) (-1) D.1 i) = true) = (lv (if brkB D (D.1.getD i 0) = true then D.1.getD i 0 else accB (brkB D) (-1) D.1 i) = true) := propext ⟨fun z => z.2, fun z => ⟨rfl, z⟩⟩
      by_cases hz : lv (if brkB D (D.1.getD i 0) = true then D.1.getD i 0 else accB (brkB D) (-1) D.1 i) = true
      · rw [if_pos hz] at q1; rw [if_pos ⟨rfl, hz⟩]; exact q1
      · rw [if_neg hz] at q1; rw [if_neg (fun y => hz y.2)]; exact q1
    | succ c ih =>
      intro m i σ1 C h1 h2 h3 h4 h5
      obtain ⟨m, rfl⟩ : ∃ q, m = q + 1 := ⟨m - 1, by omega⟩
      have hlt := ix_lt hl
      show wp (fX6_spans_L22s n (a : Int) _ (fX6_spans_L22 n (a : Int) (ix (T 13 a) D.1 : Int) m) σ1 (i : Int)) _
      refine stp _ i σ1 C _ (by omega) h3 h4 h5 (fun σ2 q1 q2 => ?_)
      have hne : D.1.getD i 0 ≠ T 13 a := fun z => by
        have := nodup_ix hd.1 (k := i) (by omega)
        rw [z] at this; omega
      rw [drop_cons (by omega), dPnt_c, if_neg hne, Bool.true_or]
      have hacc := accB_s (brkB D) D.1 (-1) i (by omega)
      rw [← hacc] at q1 ⊢
      by_cases hz : lv (accB (brkB D) (-1) D.1 (i + 1)) = true
      · rw [if_pos hz] at q1; rw [if_pos ⟨rfl, hz⟩]
        exact ih m (i + 1) σ2 _ (by omega) (by omega) q1 (fun q hq => by rw [st_fn hq]; exact h4 q hq) q2
      · rw [if_neg hz] at q1; rw [if_neg (fun y => hz y.2)]
        exact ih m (i + 1) σ2 _ (by omega) (by omega) q1 h4 q2
  unfold fX6_spans
  refine wp_rd (by omega) (by omega) ?_
  rw [Int.toNat_natCast, t37]
  refine wp_b1e (r_spot h hn _) (wp_rd (by omega) (by omega) ?_)
  rw [Int.toNat_natCast, t4]
  refine wp_b1e (r_spot h hn _) ?_
  unfold dPaint
  rw [gt_n (r := 12) ha, gt_n (r := 13) ha, hlv, dPnt_skip _ _ _ _ _ _ _ _ hf]
  have hlt := ix_lt hl
  by_cases hlf : ix (T 13 a) D.1 < ix (T 12 a) D.1
  · rw [if_pos hlf]
    obtain ⟨m, rfl⟩ : ∃ q, n = q + 1 := ⟨n - 1, by omega⟩
    show wp (fX6_spans_L22s (m + 1) (a : Int) _ _ σ _) _
    unfold fX6_spans_L22s
    rw [if_pos (by omega)]
    exact wp_some ⟨h, FrD.rf⟩
  · rw [if_neg hlf]
    exact key (ix (T 13 a) D.1 - ix (T 12 a) D.1) n (ix (T 12 a) D.1) σ D.2 (by omega) (by omega) h (fun _ _ => rfl) FrD.rf
end RDOES2
