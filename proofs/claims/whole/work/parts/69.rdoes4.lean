/-! ===== an element in the reference; all acts ===== -/
theorem tb1 {j : Nat} (h : j < 32) : tb 1 j = decide (j = 0) := by
  have e : ∀ j : Fin 32, tb 1 j.val = decide (j.val = 0) := by decide +kernel
  exact e ⟨j, h⟩
theorem tb2 {j : Nat} (h : j < 32) : tb 2 j = decide (j = 1) := by
  have e : ∀ j : Fin 32, tb 2 j.val = decide (j.val = 1) := by decide +kernel
  exact e ⟨j, h⟩
theorem BR_0 : BR 0 0 0 := ⟨fun j _ => rfl, fun j _ => by rw [tb_zero, tb_zero]⟩
/-- the marks and covers of a new element between two others -/
theorem BR_new {x y m1 c1 m2 c2 : Int} (h1 : BR x m1 c1) (h2 : BR y m2 c2) : BR (band x (bor y 1)) (bor (band m1 1) (band (band m1 m2) 2)) (band c1 c2) := by
  refine ⟨fun j hj => ?_, fun j hj => ?_⟩
  · rw [tb_and, tb_or, tb_or, tb_and, tb_and, tb_and, tb1 (by omega), tb2 (by omega), h1.1 j hj, h2.1 j hj]
    rcases (show j = 0 ∨ j = 1 by omega) with rfl | rfl
    · cases tb m1 0 <;> cases tb m2 0 <;> rfl
    · cases tb m1 1 <;> cases tb m2 1 <;> rfl
  · rw [tb_and, tb_or, tb_and, tb1 (by omega), decide_eq_false (by omega), Bool.or_false, h1.2 j hj, h2.2 j hj]
section RPUT
variable {T σ : St} {N n a : Nat} {D : Dc}
theorem r_puts (h : isR σ N D) (hr : RT T σ N) (hv : TV T N) (hd : DI T N D) (hN : N ≤ 160) (hn : 170 ≤ n) (ha : a < N) (hk : T 11 a = 0 ∨ T 11 a = 1) (he : T 12 a = -1 ∨ T 12 a ∈ D.1) (hna : (a : Int) ∉ D.1) (hlen : D.1.length < 160) : wp (fX6_puts n σ (a : Int)) (fun σ2 => isR σ2 N (dPut T N D (a : Int)) ∧ FrD σ σ2) := by
  have t1 := (hr.2 a ha).1
  have t4 : σ 236 a = T 12 a := (hr.2 a ha).2.2.2.1 (by omega)
  have t40 : σ 240 a = T 15 a := (hr.2 a ha).2.2.2.2.2.2.1 (by omega)
  have v1 := (hv a ha).1
  have h9 := h.2.2.2.2.2.2.2.1 a ha
  have hat := dAt_le T N D (a : Int)
  -- the row, made room
  have tail : ∀ (σ1 : St) (s : Int), σ1 230 32 = (D.1.length : Int) → (∀ j, j < dAt T N D (a : Int) → σ1 264 j = D.1.getD j 0) → (∀ j, dAt T N D (a : Int) < j → j ≤ D.1.length → σ1 264 j = D.1.getD (j - 1) 0) → (∀ r, r ≠ 264 → r ≠ 265 → σ1 r = σ r) → (σ1 265 = st σ 265 a s 265) → s + 1 = dSt T N D (a : Int) →
      wp (wr σ1 264 160 (dAt T N D (a : Int) : Int) (a : Int) (fun σ12 => ck ((σ12 230 32) + 1) (fun v13 => pf σ12 230 32 v13 (fun σ14 => if (dAt T N D (a : Int) : Int) ≠ 0 then (ck ((dAt T N D (a : Int) : Int) - 1) (fun v15 => rd σ14 264 160 v15 (fun v16 => rd σ14 267 160 v16 (fun v17 => fX6_puts_J163 n σ14 (a : Int) (dAt T N D (a : Int)) v17)))) else (fX6_puts_J163 n σ14 (a : Int) (dAt T N D (a : Int)) 0))))) (fun σ2 => isR σ2 N (dPut T N D (a : Int)) ∧ FrD σ σ2) := by
    intro σ1 s e1 e2 e3 e4 e5 e6
    have edp : dPut T N D (a : Int) = (insA D.1 (dAt T N D (a : Int)) (a : Int), st (st (st D.2 5 a (if T 11 a = 1 then 1 else 0)) 4 a (dSt T N D (a : Int))) 7 a (dBt D.1 D.2 (dAt T N D (a : Int)))) := by
      unfold dPut; rw [gt_n ha, Int.toNat_natCast]
    rw [edp]
    generalize dAt T N D (a : Int) = k at *
    generalize dSt T N D (a : Int) = sd at *
    refine wp_wr (by omega) (by omega) ?_
    rw [Int.toNat_natCast]
    refine wp_ck (by rw [st_ne (by decide), e1]; omega) (by rw [st_ne (by decide), e1]; omega) (wp_pf ?_)
    have f1 : st (st σ1 264 k (a : Int)) 230 32 (st σ1 264 k (a : Int) 230 32 + 1) 230 32 = (D.1.length : Int) + 1 := by
      rw [st_row, if_pos rfl, st_ne (by decide), e1]
    have f2 : ∀ j, j ≤ D.1.length → st (st σ1 264 k (a : Int)) 230 32 (st σ1 264 k (a : Int) 230 32 + 1) 264 j = (insA D.1 k (a : Int)).getD j 0 := by
      intro j hj
      rw [st_ne (by decide), st_row, List.getD_eq_getElem?_getD, insA_get hat]
      by_cases q1 : j < k
      · rw [if_neg (by omega), if_pos q1, e2 j q1, List.getD_eq_getElem?_getD]
      · rw [if_neg q1]
        by_cases q2 : j = k
        · rw [if_pos q2, if_pos q2]; rfl
        · rw [if_neg q2, if_neg q2, e3 j (by omega) hj, List.getD_eq_getElem?_getD]
    have f3 : ∀ r, r ≠ 264 → r ≠ 265 → (r ≠ 230) → st (st σ1 264 k (a : Int)) 230 32 (st σ1 264 k (a : Int) 230 32 + 1) r = σ r := by
      intro r q1 q2 q3
      rw [st_fn q3, st_fn q1, e4 r q1 q2]
    have f4 : st (st σ1 264 k (a : Int)) 230 32 (st σ1 264 k (a : Int) 230 32 + 1) 265 = st σ 265 a s 265 := by
      rw [st_fn (by decide), st_fn (by decide), e5]
    have f5 : ∀ j, j ≠ 32 → st (st σ1 264 k (a : Int)) 230 32 (st σ1 264 k (a : Int) 230 32 + 1) 230 j = σ 230 j := by
      intro j q
      rw [st_row, if_neg q, st_ne (by decide), e4 230 (by decide) (by decide)]
    generalize st (st σ1 264 k (a : Int)) 230 32 (st σ1 264 k (a : Int) 230 32 + 1) = σ3 at f1 f2 f3 f4 f5
    have rown : ∀ q, q < D.1.length → num (D.1.getD q 0) := fun q hq => (hd.row hN (getD_mem hq)).1
    have hbr : ∀ q, q < D.1.length → BR (D.2 7 (D.1.getD q 0).toNat) (σ 267 (D.1.getD q 0).toNat) (σ 268 (D.1.getD q 0).toNat) := fun q hq => h.2.2.2.2.2.1 _ (by have := rown q hq; omega)
    have g1 : k ≠ 0 → σ3 264 (k - 1) = D.1.getD (k - 1) 0 := fun q => by
      rw [f2 (k - 1) (by omega), List.getD_eq_getElem?_getD, insA_get hat, if_pos (by omega), List.getD_eq_getElem?_getD]
    have g2 : k < D.1.length → σ3 264 (k + 1) = D.1.getD k 0 := fun q => by
      rw [f2 (k + 1) (by omega), List.getD_eq_getElem?_getD, insA_get hat, if_neg (by omega), if_neg (by omega), Nat.add_sub_cancel, List.getD_eq_getElem?_getD]
    -- marks and covers of both sides
    have last : ∀ (m c : Int), BR (dBt D.1 D.2 k) m c → isR (st (st σ3 267 a m) 268 a c) N (insA D.1 k (a : Int), st (st (st D.2 5 a (if T 11 a = 1 then 1 else 0)) 4 a sd) 7 a (dBt D.1 D.2 k)) ∧ FrD σ (st (st σ3 267 a m) 268 a c) := by
      intro m c hb
      refine ⟨⟨?_, ?_, ?_, ?_, ?_, ?_, ?_, ?_, ?_, ?_⟩, ?_⟩
      · rw [st_ne (by decide), st_ne (by decide), f1]
        show _ = ((insA D.1 k (a : Int)).length : Int)
        rw [insA_len hat]; omega
      · show (insA D.1 k (a : Int)).length ≤ 160
        rw [insA_len hat]; omega
      · show seg _ 0 (insA D.1 k (a : Int)).length = insA D.1 k (a : Int)
        refine seg_of_get rfl (fun j hj => ?_)
        have hj2 : j ≤ D.1.length := by rw [insA_len hat] at hj; omega
        rw [st_ne (by decide), st_ne (by decide), f2 j hj2, List.getD_eq_getElem?_getD, List.getElem?_eq_getElem hj]; rfl
      · intro x hx
        show st (st σ3 267 a m) 268 a c 265 x.toNat + 1 = st (st (st D.2 5 a (if T 11 a = 1 then 1 else 0)) 4 a sd) 7 a (dBt D.1 D.2 k) 4 x.toNat
        rw [st_ne (by decide), st_ne (by decide), f4, st_row, st_ne (by decide), st_row]
        rcases insA_mem.mp hx with rfl | hx
        · rw [if_pos (Int.toNat_natCast a), if_pos (Int.toNat_natCast a)]; exact e6
        · have hxa : x.toNat ≠ a := fun q => hna (by have := (hd.row hN hx).1; rw [← q, Int.toNat_of_nonneg this.1]; exact hx)
          rw [if_neg hxa, if_neg hxa, st_ne (by decide)]
          exact h.2.2.2.1 x hx
      · intro i hi
        show st (st σ3 267 a m) 268 a c 266 i = st (st (st D.2 5 a (if T 11 a = 1 then 1 else 0)) 4 a sd) 7 a (dBt D.1 D.2 k) 6 i
        rw [st_ne (by decide), st_ne (by decide), f3 266 (by decide) (by decide) (by decide), st_ne (by decide), st_ne (by decide), st_ne (by decide)]
        exact h.2.2.2.2.1 i hi
      · intro i hi
        show BR (st (st (st D.2 5 a (if T 11 a = 1 then 1 else 0)) 4 a sd) 7 a (dBt D.1 D.2 k) 7 i) (st (st σ3 267 a m) 268 a c 267 i) (st (st σ3 267 a m) 268 a c 268 i)
        rw [show st (st (st D.2 5 a (if T 11 a = 1 then 1 else 0)) 4 a sd) 7 a (dBt D.1 D.2 k) 7 i = if i = a then dBt D.1 D.2 k else D.2 7 i from by rw [st_row, st_ne (by decide), st_ne (by decide)], show st (st σ3 267 a m) 268 a c 267 i = if i = a then m else σ 267 i from by rw [st_ne (by decide), st_row, f3 267 (by decide) (by decide) (by decide)], show st (st σ3 267 a m) 268 a c 268 i = if i = a then c else σ 268 i from by rw [st_row, st_ne (by decide), f3 268 (by decide) (by decide) (by decide)]]
        by_cases q : i = a
        · rw [if_pos q, if_pos q, if_pos q]; exact hb
        · rw [if_neg q, if_neg q, if_neg q]
          exact h.2.2.2.2.2.1 i hi
      · intro i hi
        show st (st σ3 267 a m) 268 a c 269 i = st (st (st D.2 5 a (if T 11 a = 1 then 1 else 0)) 4 a sd) 7 a (dBt D.1 D.2 k) 8 i
        rw [st_ne (by decide), st_ne (by decide), f3 269 (by decide) (by decide) (by decide), st_ne (by decide), st_ne (by decide), st_ne (by decide)]
        exact h.2.2.2.2.2.2.1 i hi
      · intro i hi
        show st (st σ3 267 a m) 268 a c 262 i = st (st (st D.2 5 a (if T 11 a = 1 then 1 else 0)) 4 a sd) 7 a (dBt D.1 D.2 k) 9 i
        rw [st_ne (by decide), st_ne (by decide), f3 262 (by decide) (by decide) (by decide), st_ne (by decide), st_ne (by decide), st_ne (by decide)]
        exact h.2.2.2.2.2.2.2.1 i hi
      · intro b hb2
        show st (st σ3 267 a m) 268 a c 270 b = st (st (st D.2 5 a (if T 11 a = 1 then 1 else 0)) 4 a sd) 7 a (dBt D.1 D.2 k) 10 b ∧ st (st σ3 267 a m) 268 a c 271 b = st (st (st D.2 5 a (if T 11 a = 1 then 1 else 0)) 4 a sd) 7 a (dBt D.1 D.2 k) 11 b
        rw [st_ne (by decide), st_ne (by decide), f3 270 (by decide) (by decide) (by decide), st_ne (by decide), st_ne (by decide), st_ne (by decide), st_ne (by decide), st_ne (by decide), f3 271 (by decide) (by decide) (by decide), st_ne (by decide), st_ne (by decide), st_ne (by decide)]
        exact h.2.2.2.2.2.2.2.2.1 b hb2
      · intro s b q1 q2 q3
        show st (st σ3 267 a m) 268 a c 272 (161 * s + b) = st (st (st D.2 5 a (if T 11 a = 1 then 1 else 0)) 4 a sd) 7 a (dBt D.1 D.2 k) (13 + s) b
        rw [st_ne (by decide), st_ne (by decide), f3 272 (by decide) (by decide) (by decide), st_ne (by omega), st_ne (by omega), st_ne (by omega)]
        exact h.2.2.2.2.2.2.2.2.2 s b q1 q2 q3
      · intro r b q1 q2
        rw [st_ne (by omega), st_ne (by omega)]
        by_cases q3 : r = 230
        · subst q3; exact f5 b (by omega)
        · rw [f3 r (by omega) (by omega) q3]
    have j163 : ∀ t0 : Int, t0 = (if k = 0 then 0 else σ 267 (D.1.getD (k - 1) 0).toNat) → wp (fX6_puts_J163 n σ3 (a : Int) (k : Int) t0) (fun σ2 => isR σ2 N (insA D.1 k (a : Int), st (st (st D.2 5 a (if T 11 a = 1 then 1 else 0)) 4 a sd) 7 a (dBt D.1 D.2 k)) ∧ FrD σ σ2) := by
      intro t0 ht0
      have j192 : ∀ t1 : Int, t1 = (if k < D.1.length then σ 267 (D.1.getD k 0).toNat else 0) → wp (fX6_puts_J192 n σ3 (a : Int) (k : Int) t0 t1) (fun σ2 => isR σ2 N (insA D.1 k (a : Int), st (st (st D.2 5 a (if T 11 a = 1 then 1 else 0)) 4 a sd) 7 a (dBt D.1 D.2 k)) ∧ FrD σ σ2) := by
        intro t1 ht1
        have hx1 : BR (if k = 0 then 0 else D.2 7 (D.1.getD (k - 1) 0).toNat) t0 (if k = 0 then 0 else σ 268 (D.1.getD (k - 1) 0).toNat) := by
          by_cases q : k = 0
          · rw [if_pos q] at ht0; rw [if_pos q, if_pos q, ht0]; exact BR_0
          · rw [if_neg q] at ht0; rw [if_neg q, if_neg q, ht0]; exact hbr _ (by omega)
        have hx2 : BR (if k < D.1.length then D.2 7 (D.1.getD k 0).toNat else 0) t1 (if k < D.1.length then σ 268 (D.1.getD k 0).toNat else 0) := by
          by_cases q : k < D.1.length
          · rw [if_pos q] at ht1; rw [if_pos q, if_pos q, ht1]; exact hbr _ q
          · rw [if_neg q] at ht1; rw [if_neg q, if_neg q, ht1]; exact BR_0
        have hb := BR_new hx1 hx2
        have hb : BR (dBt D.1 D.2 k) (bor (band t0 1) (band (band t0 t1) 2)) (band (if k = 0 then 0 else σ 268 (D.1.getD (k - 1) 0).toNat) (if k < D.1.length then σ 268 (D.1.getD k 0).toNat else 0)) := hb
        have zero : (k = 0 ∨ ¬ k < D.1.length) → BR (dBt D.1 D.2 k) (bor (band t0 1) (band (band t0 t1) 2)) 0 := by
          intro q
          refine ⟨hb.1, fun j hj => ?_⟩
          rw [hb.2 j hj, tb_and, tb_zero]
          rcases q with q | q
          · rw [if_pos q, tb_zero, Bool.false_and]
          · rw [if_neg q, tb_zero, Bool.and_false]
        unfold fX6_puts_J192
        refine wp_vl (wp_vl (wp_vl (wp_vl (wp_wr (by omega) (by omega) ?_))))
        rw [Int.toNat_natCast]
        refine wp_if (fun q => ?_) (fun q => ?_)
        · refine wp_wr (by omega) (by omega) (wp_some ?_)
          rw [Int.toNat_natCast]
          exact last _ 0 (zero (Or.inl (by omega)))
        · refine wp_ck (by rw [st_ne (by decide), f1]; omega) (by rw [st_ne (by decide), f1]; omega) ?_
          rw [st_ne (by decide), f1]
          refine wp_if (fun q2 => ?_) (fun q2 => ?_)
          · have hkl : k < D.1.length := by omega
            refine wp_ck (by omega) (by omega) (wp_rd (by omega) (by omega) ?_)
            rw [st_ne (by decide), show ((k : Int) - 1).toNat = k - 1 by omega, g1 (by omega)]
            have n1 := rown (k - 1) (by omega)
            refine wp_rd n1.1 (by omega) (wp_ck (by omega) (by omega) (wp_rd (by omega) (by omega) ?_))
            rw [st_ne (by decide), st_ne (by decide), show ((k : Int) + 1).toNat = k + 1 by omega, g2 hkl]
            have n2 := rown k hkl
            refine wp_rd n2.1 (by omega) (wp_vl (wp_wr (by omega) (by omega) (wp_some ?_)))
            rw [Int.toNat_natCast, st_ne (by decide), f3 268 (by decide) (by decide) (by decide)]
            rw [if_neg (by omega), if_pos hkl] at hb
            exact last _ _ hb
          · refine wp_wr (by omega) (by omega) (wp_some ?_)
            rw [Int.toNat_natCast]
            exact last _ 0 (zero (Or.inr (by omega)))
      unfold fX6_puts_J163
      refine wp_ck (by rw [f1]; omega) (by rw [f1]; omega) ?_
      rw [f1]
      refine wp_if (fun q => ?_) (fun q => ?_)
      · have hkl : k < D.1.length := by omega
        refine wp_ck (by omega) (by omega) (wp_rd (by omega) (by omega) ?_)
        rw [show ((k : Int) + 1).toNat = k + 1 by omega, g2 hkl]
        have n2 := rown k hkl
        refine wp_rd n2.1 (by omega) (j192 _ ?_)
        rw [if_pos hkl, f3 267 (by decide) (by decide) (by decide)]
      · exact j192 0 (by rw [if_neg (by omega)])
    refine wp_if (fun q => ?_) (fun q => ?_)
    · refine wp_ck (by omega) (by omega) (wp_rd (by omega) (by omega) ?_)
      rw [show ((k : Int) - 1).toNat = k - 1 by omega, g1 (by omega)]
      have n1 := rown (k - 1) (by omega)
      refine wp_rd n1.1 (by omega) (j163 _ ?_)
      rw [if_neg (by omega), f3 267 (by decide) (by decide) (by decide)]
    · exact j163 0 (by rw [if_pos (by omega)])
  -- making room
  have room : ∀ (s : Int), s + 1 = dSt T N D (a : Int) → ∀ (c m : Nat) (σ1 : St), dAt T N D (a : Int) + c ≤ D.1.length → c < m → σ1 230 32 = (D.1.length : Int) → (∀ j, j < dAt T N D (a : Int) + c → σ1 264 j = D.1.getD j 0) → (∀ j, dAt T N D (a : Int) + c < j → j ≤ D.1.length → σ1 264 j = D.1.getD (j - 1) 0) → (∀ r, r ≠ 264 → r ≠ 265 → σ1 r = σ r) → (σ1 265 = st σ 265 a s 265) →
      wp (fX6_puts_L97 n (a : Int) (dAt T N D (a : Int)) m σ1 ((dAt T N D (a : Int) + c : Nat) : Int)) (fun σ2 => isR σ2 N (dPut T N D (a : Int)) ∧ FrD σ σ2) := by
    intro s hs c
    induction c with
    | zero =>
      intro m σ1 h0 h1 h2 h3 h4 h5 h6
      obtain ⟨m, rfl⟩ : ∃ q, m = q + 1 := ⟨m - 1, by omega⟩
      show wp (fX6_puts_L97s n (a : Int) _ _ σ1 _) _
      unfold fX6_puts_L97s
      rw [if_pos (by omega)]
      exact tail σ1 s h2 h3 h4 h5 h6 hs
    | succ c ih =>
      intro m σ1 h0 h1 h2 h3 h4 h5 h6
      obtain ⟨m, rfl⟩ : ∃ q, m = q + 1 := ⟨m - 1, by omega⟩
      show wp (fX6_puts_L97s n (a : Int) _ (fX6_puts_L97 n (a : Int) (dAt T N D (a : Int)) m) σ1 _) _
      unfold fX6_puts_L97s
      rw [if_neg (by omega)]
      generalize dAt T N D (a : Int) = k at *
      refine wp_ck (by omega) (by omega) (wp_rd (by omega) (by omega) (wp_wr (by omega) (by omega) (wp_ck (by omega) (by omega) ?_)))
      rw [show (((k + (c + 1) : Nat) : Int) - 1).toNat = k + c by omega, Int.toNat_natCast, show ((k + (c + 1) : Nat) : Int) + (-1) = ((k + c : Nat) : Int) by omega]
      refine ih m _ (by omega) (by omega) (by rw [st_ne (by decide)]; exact h2) (fun j hj => ?_) (fun j hj1 hj2 => ?_) (fun r q1 q2 => by rw [st_fn q1]; exact h5 r q1 q2) (by rw [st_fn (by decide)]; exact h6)
      · rw [st_row, if_neg (by omega)]; exact h3 j (by omega)
      · rw [st_row]
        by_cases q : j = k + (c + 1)
        · rw [if_pos q, q, h3 (k + c) (by omega)]; rfl
        · rw [if_neg q]; exact h4 j (by omega) hj2
  have j63 : ∀ s : Int, s + 1 = dSt T N D (a : Int) → wp (fX6_puts_J63 n σ (a : Int) s (a : Int)) (fun σ2 => isR σ2 N (dPut T N D (a : Int)) ∧ FrD σ σ2) := by
    intro s hs
    unfold fX6_puts_J63
    refine wp_wr (by omega) (by omega) (wp_rd (by omega) (by omega) ?_)
    rw [Int.toNat_natCast, st_ne (by decide), t4]
    have f2 : st σ 265 a s 230 32 = (D.1.length : Int) := by rw [st_ne (by decide)]; exact h.1
    have go : ∀ k : Nat, dAt T N D (a : Int) = k → wp (fX6_puts_L97 n (a : Int) (k : Int) n (st σ 265 a s) (st σ 265 a s 230 32)) (fun σ2 => isR σ2 N (dPut T N D (a : Int)) ∧ FrD σ σ2) := by
      intro k hk2
      have := room s hs (D.1.length - k) n (st σ 265 a s) (by omega) (by omega) f2 (fun j hj => by rw [st_ne (by decide)]; exact h.getv (by omega)) (fun j q1 q2 => by omega) (fun r q1 q2 => st_fn q2) rfl
      rw [hk2, show k + (D.1.length - k) = D.1.length by omega, ← f2] at this
      exact this
    refine wp_if (fun q => ?_) (fun q => ?_)
    · have hm := he.resolve_left q
      refine wp_rd (by omega) (by omega) ?_
      rw [Int.toNat_natCast, st_ne (by decide), t4]
      have h3 : isR (st σ 265 a s) N (D.1, st D.2 4 a (s + 1)) := h.u265 rfl
      refine wp_b1e (r_spot h3 (by omega) (T 12 a)) ?_
      have hix := ix_lt hm
      refine wp_ck (by show -2147483648 ≤ (ix (T 12 a) D.1 : Int) + 1; omega) (by show (ix (T 12 a) D.1 : Int) + 1 ≤ _; omega) ?_
      refine go (ix (T 12 a) D.1 + 1) ?_
      unfold dAt; rw [gt_n ha, if_pos hm]
    · refine go 0 ?_
      unfold dAt; rw [gt_n ha]
      have : T 12 a ∉ D.1 := fun z => by have := (hd.row hN z).1; omega
      rw [if_neg this]
  unfold fX6_puts
  refine wp_rd (by omega) (by omega) (wp_rd (by omega) (by omega) ?_)
  rw [Int.toNat_natCast, t1, t4]
  refine wp_b1e (r_blockOf h hr hd hN (by omega) he) (wp_b1e (r_levelIn h v1 (blk_in hd hN _)) (wp_rd (by omega) (by omega) ?_))
  rw [Int.toNat_natCast, h9]
  have ed : dSt T N D (a : Int) = if D.2 9 a ≠ 0 ∨ lev D (T 9 a) (blk D (T 12 a)) = 2 then 3 else if lev D (T 9 a) (blk D (T 12 a)) = 1 ∨ T 15 a ≠ 0 then 2 else 1 := by
    unfold dSt dLv
    rw [gt_n ha, gt_n ha, gt_n ha, Int.toNat_natCast]
  refine wp_if (fun q => ?_) (fun q => ?_)
  · unfold fX6_puts_J40
    exact j63 2 (by rw [ed, if_pos (Or.inl q)]; rfl)
  · refine wp_if (fun q2 => ?_) (fun q2 => ?_)
    · refine wp_if (fun q1 => ?_) (fun q1 => ?_)
      · unfold fX6_puts_J58
        exact j63 1 (by rw [ed, if_neg (by omega), if_pos (Or.inl q1)]; rfl)
      · refine wp_rd (by omega) (by omega) ?_
        rw [Int.toNat_natCast, t40]
        refine wp_if (fun q3 => ?_) (fun q3 => ?_)
        · exact j63 0 (by rw [ed, if_neg (by omega), if_neg (by omega)]; rfl)
        · unfold fX6_puts_J58
          exact j63 1 (by rw [ed, if_neg (by omega), if_pos (Or.inr q3)]; rfl)
    · unfold fX6_puts_J40
      exact j63 2 (by rw [ed, if_pos (Or.inr (by omega))]; rfl)
end RPUT
