/-! ===== one act more, in the class ===== -/
section MKC
variable {A U σ0 σ τ : St} {N nm nv s n : Nat} {k x y z p : Int}
theorem c_before (hv : TV U (N + 1)) (hN : N < 160) (h8 : σ 8 8 = (N : Int) + 1) (h9 : ∀ i, i ≤ N → σ 9 i = U 9 i) (h10 : ∀ i, i ≤ N → σ 10 i = U 10 i) {a b : Int} (ha : 0 ≤ a ∧ a ≤ (N : Int)) (hb : 0 ≤ b ∧ b ≤ (N : Int)) : fX1_comesBefore σ a b = some (b2i (decide (key U a < key U b))) := by
  have va := (hv a.toNat (by omega)).1
  have vb := (hv b.toNat (by omega)).1
  have cf : ∀ q : Int, 0 ≤ q ∧ q ≤ (N : Int) → fX1_countOf σ q = some (U 10 q.toNat) := fun q hq => by
    unfold fX1_countOf
    rw [h8, if_neg (by omega), if_neg (by omega), rd_ok hq.1 (by omega), h10 _ (by omega)]
  have sf : ∀ q : Int, 0 ≤ q ∧ q ≤ (N : Int) → fX1_siteOf σ q = some (U 9 q.toNat) := fun q hq => by
    unfold fX1_siteOf
    rw [h8, if_neg (by omega), if_neg (by omega), rd_ok hq.1 (by omega), h9 _ (by omega)]
  unfold fX1_comesBefore key
  rw [b1_ok (cf a ha), b1_ok (cf b hb), b1_ok (sf a ha), b1_ok (sf b hb), b1_ok (cf a ha), b1_ok (cf b hb)]
  by_cases q : U 10 a.toNat = U 10 b.toNat
  · rw [if_pos q]
    by_cases q2 : U 9 b.toNat ≤ U 9 a.toNat
    · rw [if_pos q2, decide_eq_false (by omega)]; rfl
    · rw [if_neg q2, decide_eq_true (by omega)]; rfl
  · rw [if_neg q]
    by_cases q2 : U 10 b.toNat ≤ U 10 a.toNat
    · rw [if_pos q2, decide_eq_false (by omega)]; rfl
    · rw [if_neg q2, decide_eq_true (by omega)]; rfl
theorem k_put (hts : TS A N) (hU : TS U (N + 1)) (hv : TV U (N + 1)) (e : ExT A U N (N + 1)) (h16U : ∀ i, N < i → U 16 i = A 16 i) (hN : N < 160) (hn : 200 ≤ n) (h8 : σ0 8 8 = (N : Int) + 1) (h9 : ∀ i, i ≤ N → σ0 9 i = U 9 i) (h10 : ∀ i, i ≤ N → σ0 10 i = U 10 i) (h16 : ∀ i, σ0 16 i = A 16 i) : wp (fX1_putInOrder n σ0 (N : Int)) (fun σ2 => (∀ a, a ≠ 16 → σ2 a = σ0 a) ∧ ∀ i, σ2 16 i = U 16 i) := by
  have hlen : (OL A N).length = N := seg_len _ _ _
  have hp : (OL A N).Pairwise (fun a b => key U a < key U b) := by
    refine List.Pairwise.imp_of_mem ?_ hts.1
    intro a b ha hb hab
    rw [hts.2] at ha hb
    rw [e.k ha, e.k hb]; exact hab
  have key1 : ∀ (c m : Nat) (σ1 : St), c ≤ N → c < m → (∀ a, a ≠ 16 → σ1 a = σ0 a) → (∀ j, j < c → σ1 16 j = (OL A N).getD j 0) → (∀ j, c < j → j ≤ N → σ1 16 j = (OL A N).getD (j - 1) 0) → (∀ j, N < j → σ1 16 j = A 16 j) → (∀ b, b ∈ (OL A N).drop c → key U (N : Int) < key U b) →
      wp (fX1_putInOrder_L7 n (N : Int) m σ1 (c : Int)) (fun σ2 => (∀ a, a ≠ 16 → σ2 a = σ0 a) ∧ ∀ i, σ2 16 i = U 16 i) := by
    have lay : ∀ (c : Nat) (σ1 : St), c ≤ N → (∀ a, a ≠ 16 → σ1 a = σ0 a) → (∀ j, j < c → σ1 16 j = (OL A N).getD j 0) → (∀ j, c < j → j ≤ N → σ1 16 j = (OL A N).getD (j - 1) 0) → (∀ j, N < j → σ1 16 j = A 16 j) → (∀ b, b ∈ (OL A N).drop c → key U (N : Int) < key U b) → (∀ b, b ∈ (OL A N).take c → key U b < key U (N : Int)) →
        wp (fX1_putInOrder_J47 n σ1 (N : Int) (c : Int)) (fun σ2 => (∀ a, a ≠ 16 → σ2 a = σ0 a) ∧ ∀ i, σ2 16 i = U 16 i) := by
      intro c σ1 h0 hf h4 h5 h6 hd ht
      unfold fX1_putInOrder_J47
      refine wp_wr (by omega) (by omega) (wp_some ⟨fun a ha => by rw [st_fn ha]; exact hf a ha, fun i => ?_⟩)
      rw [Int.toNat_natCast, st_row]
      have hM : insA (OL A N) c (N : Int) = OL U (N + 1) := by
        refine sorted_unique (k := key U) _ _ (sorted_ins hp ht hd) hU.1 (fun b => ?_)
        rw [insA_mem, hts.2, hU.2]; omega
      by_cases q : i ≤ N
      · have g1 := insA_get (a := (N : Int)) (show c ≤ (OL A N).length by omega) i
        have g2 : (OL U (N + 1))[i]? = some (U 16 i) := by
          have := seg_get (U 16) (N + 1) 0 i
          rw [if_pos (by omega), Nat.zero_add] at this; exact this
        rw [hM, g2] at g1
        by_cases q2 : i = c
        · rw [if_pos q2]
          rw [if_neg (by omega), if_pos q2] at g1
          exact (Option.some.inj g1).symm
        · rw [if_neg q2]
          by_cases q3 : i < c
          · rw [if_pos q3, List.getElem?_eq_getElem (by omega)] at g1
            rw [h4 i q3, List.getD_eq_getElem?_getD, List.getElem?_eq_getElem (by omega)]
            exact (Option.some.inj g1).symm
          · rw [if_neg q3, if_neg q2, List.getElem?_eq_getElem (by omega)] at g1
            rw [h5 i (by omega) q, List.getD_eq_getElem?_getD, List.getElem?_eq_getElem (by omega)]
            exact (Option.some.inj g1).symm
      · rw [if_neg (by omega), h6 i (by omega), h16U i (by omega)]
    intro c
    induction c with
    | zero =>
      intro m σ1 h0 h2 hf h4 h5 h6 hd
      obtain ⟨m, rfl⟩ : ∃ q, m = q + 1 := ⟨m - 1, by omega⟩
      have e0 : fX1_putInOrder_L7 n (N : Int) (m + 1) σ1 ((0 : Nat) : Int) = fX1_putInOrder_J47 n σ1 (N : Int) ((0 : Nat) : Int) := by
        have hz : ((0 : Nat) : Int) ≤ 0 := by omega
        revert hz
        generalize ((0 : Nat) : Int) = w
        intro hz
        unfold fX1_putInOrder_L7
        rw [lpR_s]
        unfold fX1_putInOrder_L7s
        rw [if_pos hz]
      rw [e0]
      exact lay 0 σ1 h0 hf h4 h5 h6 hd (fun b hb => by rw [List.take_zero] at hb; cases hb)
    | succ c ih =>
      intro m σ1 h0 h2 hf h4 h5 h6 hd
      obtain ⟨m, rfl⟩ : ∃ q, m = q + 1 := ⟨m - 1, by omega⟩
      show wp (fX1_putInOrder_L7s n (N : Int) (fX1_putInOrder_L7 n (N : Int) m) σ1 ((c + 1 : Nat) : Int)) _
      have hy := (hts.2 _).mp (getD_mem (show c < (OL A N).length by omega))
      unfold fX1_putInOrder_L7s
      rw [if_neg (by omega)]
      refine wp_ck (by omega) (by omega) (wp_rd (by omega) (by omega) ?_)
      rw [show (((c + 1 : Nat) : Int) - 1).toNat = c by omega, h4 c (by omega)]
      refine wp_b1e (c_before hv hN (by rw [hf 8 (by decide)]; exact h8) (fun i hi => by rw [hf 9 (by decide)]; exact h9 i hi) (fun i hi => by rw [hf 10 (by decide)]; exact h10 i hi) (a := (N : Int)) (b := (OL A N).getD c 0) ⟨by omega, by omega⟩ ⟨hy.1, by omega⟩) ?_
      by_cases hk : key U (N : Int) < key U ((OL A N).getD c 0)
      · rw [decide_eq_true hk, if_neg (by decide)]
        refine wp_ck (by omega) (by omega) (wp_rd (by omega) (by omega) (wp_wr (by omega) (by omega) (wp_ck (by omega) (by omega) ?_)))
        rw [show (((c + 1 : Nat) : Int) - 1).toNat = c by omega, Int.toNat_natCast, show ((c + 1 : Nat) : Int) + (-1) = (c : Int) by omega, h4 c (by omega)]
        refine ih m _ (by omega) (by omega) (fun a ha => by rw [st_fn ha]; exact hf a ha) (fun j hj => ?_) (fun j hj1 hj2 => ?_) (fun j hj => ?_) (fun b hb => ?_)
        · rw [st_row, if_neg (by omega)]; exact h4 j (by omega)
        · rw [st_row]
          by_cases q : j = c + 1
          · rw [if_pos q, q, Nat.add_sub_cancel]
          · rw [if_neg q]; exact h5 j (by omega) hj2
        · rw [st_row, if_neg (by omega)]; exact h6 j hj
        · rw [drop_cons (by omega)] at hb
          rcases List.mem_cons.mp hb with rfl | hb
          · exact hk
          · exact hd b hb
      · rw [decide_eq_false hk, if_pos (by rfl)]
        refine lay (c + 1) σ1 h0 hf h4 h5 h6 hd (sorted_take hp (by omega) ?_)
        have := TS.ne hU ((OL A N).getD c 0) (N : Int) ⟨hy.1, by omega⟩ ⟨by omega, by omega⟩ (by omega)
        omega
  unfold fX1_putInOrder
  refine wp_ck (by omega) (by omega) ?_
  rw [h8, show (N : Int) + 1 - 1 = (N : Int) by omega]
  refine key1 N n σ0 (Nat.le_refl _) (by omega) (fun _ _ => rfl) (fun j hj => ?_) (fun j h1 h2 => by omega) (fun j _ => h16 j) (fun b hb => ?_)
  · rw [h16, List.getD_eq_getElem?_getD]
    have := seg_get (A 16) N 0 j
    rw [if_pos hj, Nat.zero_add] at this
    show _ = ((OL A N)[j]?).getD 0
    unfold OL; rw [this]; rfl
  · rw [show (OL A N).drop N = [] from List.drop_eq_nil_of_le (by omega)] at hb; cases hb
theorem c_add (hI : Inv A N nm nv) (h : Cl σ A N nm nv) (hm : okM A N s k x y z p) (hn : 200 ≤ n) : wp (fX1_enter n σ (s : Int) (A 247 s + 1) k x y z p) (fun r => r.1 = (N : Int) ∧ (∀ a, (a < 8 ∨ 16 < a) → r.2 a = σ a) ∧ ∀ q, 8 ≤ q → q ≤ 16 → ∀ i, r.2 q i = mkA A N s k x y z p q i) := by
  have hN := hm.1.1
  have hs := hm.1.2
  have tt := h.1
  have made := tt.made
  have h89 : σ 8 9 = A 8 9 := tt.1 8 (by decide) (by decide) 9
  have hI1 := hI.1
  have hc := hI1.2.2.1
  have fin : ∀ σ7 : St, (∀ a, (a < 8 ∨ 15 < a) → σ7 a = σ a) → (∀ q, 9 ≤ q → q ≤ 15 → ∀ i, σ7 q i = mkA A N s k x y z p q i) → (∀ i, i ≠ 8 → σ7 8 i = mkA A N s k x y z p 8 i) → σ7 8 8 = (N : Int) → wp (fX1_enter_J94 n σ7 (s : Int) (A 247 s + 1) k x y z p (N : Int)) (fun r => r.1 = (N : Int) ∧ (∀ a, (a < 8 ∨ 16 < a) → r.2 a = σ a) ∧ ∀ q, 8 ≤ q → q ≤ 16 → ∀ i, r.2 q i = mkA A N s k x y z p q i) := by
    intro σ7 f1 f2 f3 f4
    unfold fX1_enter_J94
    refine wp_ck (by rw [f4]; omega) (by rw [f4]; omega) (wp_pf ?_)
    rw [f4]
    refine wp_b1 (k_put (U := mkA A N s k x y z p) hI1.2.2.2.2.1 (mk_TS hI hs) (mk_TV hI hm) mk_ext (fun i hi => by rw [mk_16, if_neg (by omega)]) hN hn (by rw [st_row, if_pos rfl]) (fun i _ => by rw [st_ne (by decide)]; exact f2 9 (by decide) (by decide) i) (fun i _ => by rw [st_ne (by decide)]; exact f2 10 (by decide) (by decide) i) (fun i => by rw [st_ne (by decide), f1 16 (by decide)]; exact tt.1 16 (by decide) (by decide) i)) (fun σ2 g => wp_some ⟨rfl, fun a ha => ?_, fun q q1 q2 i => ?_⟩)
    · show σ2 a = σ a
      rw [g.1 a (by omega), st_fn (by omega)]; exact f1 a (by omega)
    · show σ2 q i = _
      by_cases e : q = 16
      · rw [e]; exact g.2 i
      · rw [g.1 q e]
        by_cases e8 : q = 8
        · rw [e8, st_row]
          by_cases ei : i = 8
          · rw [if_pos ei, ei]; rfl
          · rw [if_neg ei]; exact f3 i ei
        · rw [st_ne e8]; exact f2 q (by omega) (by omega) i
  unfold fX1_enter
  rw [made, if_pos (by omega)]
  refine wp_wr (by omega) (by omega) (wp_wr (by omega) (by omega) (wp_wr (by omega) (by omega) (wp_wr (by omega) (by omega) (wp_wr (by omega) (by omega) (wp_wr (by omega) (by omega) (wp_wrb (by omega) (by omega) hm.2.2.1 ?_))))))
  rw [Int.toNat_natCast]
  have g1 : ∀ a, (a < 9 ∨ 15 < a) → st (st (st (st (st (st (st σ 9 N (s : Int)) 10 N (A 247 s + 1)) 11 N k) 12 N x) 13 N y) 14 N z) 15 N p a = σ a := fun a ha => by
    rw [st_fn (by omega), st_fn (by omega), st_fn (by omega), st_fn (by omega), st_fn (by omega), st_fn (by omega), st_fn (by omega)]
  have g2 : ∀ q, 9 ≤ q → q ≤ 15 → ∀ i, st (st (st (st (st (st (st σ 9 N (s : Int)) 10 N (A 247 s + 1)) 11 N k) 12 N x) 13 N y) 14 N z) 15 N p q i = mkA A N s k x y z p q i := fun q q1 q2 i => by
    rw [mk_t q1 q2, ← tt.1 q (by omega) (by omega) i]
    rcases (show q = 9 ∨ q = 10 ∨ q = 11 ∨ q = 12 ∨ q = 13 ∨ q = 14 ∨ q = 15 by omega) with rfl | rfl | rfl | rfl | rfl | rfl | rfl <;> (unfold st mkRow; simp)
  generalize st (st (st (st (st (st (st σ 9 N (s : Int)) 10 N (A 247 s + 1)) 11 N k) 12 N x) 13 N y) 14 N z) 15 N p = σ7 at g1 g2
  have g3 : ∀ i, σ7 8 i = A 8 i := fun i => by rw [g1 8 (by decide)]; exact tt.1 8 (by decide) (by decide) i
  by_cases q7 : k = 7
  · rw [if_neg (by omega)]
    refine wp_ck (by rw [g3]; omega) (by rw [g3]; omega) (wp_pf ?_)
    refine fin _ (fun a ha => by rw [st_fn (by omega)]; exact g1 a (by omega)) (fun q q1 q2 i => by rw [st_ne (by omega)]; exact g2 q q1 q2 i) (fun i hi => ?_) ?_
    · rw [st_row, mk_8]
      show _ = if i = 8 then (N : Int) + 1 else if i = 9 ∧ k = 7 then A 8 9 + 1 else A 8 i
      rw [if_neg hi]
      by_cases e9 : i = 9
      · rw [if_pos e9, if_pos ⟨e9, q7⟩, g3]
      · rw [if_neg e9, if_neg (fun w => e9 w.1)]; exact g3 i
    · rw [st_row, if_neg (by decide), g3]; exact tt.2.1
  · rw [if_pos q7]
    refine fin _ (fun a ha => g1 a (by omega)) g2 (fun i hi => ?_) ?_
    · rw [mk_8]
      show _ = if i = 8 then (N : Int) + 1 else if i = 9 ∧ k = 7 then A 8 9 + 1 else A 8 i
      rw [if_neg hi, if_neg (fun w => q7 w.2)]; exact g3 i
    · rw [g3]; exact tt.2.1
def MkC (σ τ A B : St) (N s : Nat) : Prop := (∀ a, (a < 8 ∨ 16 < a) → (a < 20 + 40 * s ∨ 20 + 40 * s + 3 < a) → τ a = σ a) ∧ (∀ q, 8 ≤ q → q ≤ 16 → ∀ i, τ q i = B q i) ∧ (∀ b, b ≠ 7 → τ (20 + 40 * s) b = σ (20 + 40 * s) b) ∧ τ (20 + 40 * s) 7 = A 247 s + 1 ∧ τ (20 + 40 * s + 1) 1 = A 245 s + 1 ∧ (∀ a, τ (20 + 40 * s + 2) a = if a = N then 1 else σ (20 + 40 * s + 2) a) ∧ ∀ i, τ (20 + 40 * s + 3) i = if i = (A 245 s).toNat then (N : Int) else σ (20 + 40 * s + 3) i
theorem c_take (hI : Inv A N nm nv) (h : Cl σ A N nm nv) (hN : N < 160) (hs : s < 4) {B : St} (f1 : ∀ a, (a < 8 ∨ 16 < a) → τ a = σ a) (f2 : ∀ q, 8 ≤ q → q ≤ 16 → ∀ i, τ q i = B q i) : wp (fX4_take τ (20 + 40 * s) (N : Int) (A 247 s + 1)) (fun σ2 => MkC σ σ2 A B N s) := by
  have w := h.site hs
  have hl := JL_len hI hs
  have h247 := (hI.2.1 s hs).2.1
  have eHas : inS τ (20 + 40 * s + 1) (N : Int) = false := by
    have : inS τ (20 + 40 * s + 1) = inS σ (20 + 40 * s + 1) := by
      funext a; unfold inS; rw [f1 (20 + 40 * s + 1 + 1) (by omega)]
    rw [this, w.has]; exact Hs_N hI hs
  have h02 : τ (20 + 40 * s + 2) N = 0 := by
    have : ¬ (num (N : Int) ∧ τ (20 + 40 * s + 1 + 1) (N : Int).toNat ≠ 0) := of_decide_eq_false eHas
    rw [Int.toNat_natCast] at this
    by_cases q : τ (20 + 40 * s + 2) N = 0
    · exact q
    · exact absurd ⟨show 0 ≤ (N : Int) ∧ (N : Int) < 160 by omega, q⟩ this
  have h1 : τ (20 + 40 * s + 1) 1 = A 245 s := by rw [f1 _ (by omega)]; exact w.2.2.2.2.2.2.1
  have h7 : τ (20 + 40 * s) 7 = A 247 s := by rw [f1 _ (by omega)]; exact w.2.2.2.1
  unfold fX4_take
  refine wp_b1e (q_contains _ _ _) ?_
  rw [eHas, if_neg (by decide), h1, if_pos (by omega)]
  refine wp_wr (by omega) (by omega) ?_
  refine wp_b1 (P := fun σ3 => σ3 = st (st (st τ (20 + 40 * s + 3) (A 245 s).toNat (N : Int)) (20 + 40 * s + 2) N 1) (20 + 40 * s + 1) 1 (A 245 s + 1)) ?_ (fun σ3 e => ?_)
  · unfold fX0_add
    rw [if_neg (by omega), if_neg (by omega)]
    refine wp_rd (by omega) (by omega) ?_
    rw [Int.toNat_natCast, st_ne (by omega), h02, if_neg (by decide)]
    refine wp_wrb (by omega) (by omega) (Or.inr rfl) ?_
    rw [Int.toNat_natCast, st_ne (by omega), st_ne (by omega), h1]
    exact wp_ck (by omega) (by omega) (wp_pf (wp_some rfl))
  · subst e
    refine wp_vl (wp_pf (wp_some ?_))
    rw [st_ne (by omega), st_ne (by omega), st_ne (by omega), h7, show imax (A 247 s) (A 247 s + 1) = A 247 s + 1 by unfold imax; rw [if_pos (by omega)]]
    refine ⟨fun a h8 ha => ?_, fun q q1 q2 i => ?_, fun b hb => ?_, ?_, ?_, fun a => ?_, fun i => ?_⟩
    · rw [st_fn (by omega), st_fn (by omega), st_fn (by omega), st_fn (by omega)]; exact f1 a h8
    · rw [st_ne (by omega), st_ne (by omega), st_ne (by omega), st_ne (by omega)]; exact f2 q q1 q2 i
    · rw [st_row, if_neg hb, st_ne (by omega), st_ne (by omega), st_ne (by omega), f1 _ (by omega)]
    · rw [st_row, if_pos rfl]
    · rw [st_ne (by omega), st_row, if_pos rfl]
    · rw [st_ne (by omega), st_ne (by omega), st_row, st_ne (by omega), f1 _ (by omega)]
    · rw [st_ne (by omega), st_ne (by omega), st_ne (by omega), st_row, f1 _ (by omega)]
theorem PD.mono {q : Nat} (h : PD σ q N) : PD σ q (N + 1) := fun k k1 k2 i hi => h k k1 k2 i (by
  unfold bd at hi ⊢
  split
  · rw [if_pos (by assumption)] at hi; omega
  · rename_i g
    rw [if_neg g] at hi
    split
    · omega
    · rename_i g2
      rw [if_neg g2] at hi; omega)
theorem mk_docT (hI : Inv A N nm nv) (hm : okM A N s k x y z p) {t : Nat} (ht : t < 4) (hts : t ≠ s) : docOf (mkA A N s k x y z p) (N + 1) (Hs (mkA A N s k x y z p) t) = docOf A N (Hs A t) := by
  unfold docOf
  rw [filt_eq (S := Hs A t) mk_ext hI.1.2.2.2.2.1 (mk_TS hI hm.1.2) (fun a _ _ => by rw [mk_Hs hI hm.1.1 hm.1.2 ht, if_neg (fun g => hts g.1)]) (fun a h1 h2 => by rw [mk_Hs hI hm.1.1 hm.1.2 ht, if_neg (fun g => hts g.1), show a = (N : Int) by omega]; exact Hs_N hI ht)]
  exact mk_ext.doc hI.1.2.2.2.1 (OLf hI.1)
theorem mk_docS (hI : Inv A N nm nv) (hm : okM A N s k x y z p) (hk : ¬ (k = 11 ∨ k = 12)) : docOf (mkA A N s k x y z p) (N + 1) (Hs (mkA A N s k x y z p) s) = dOne (mkA A N s k x y z p) (N + 1) (docOf A N (Hs A s)) (N : Int) := by
  unfold docOf
  rw [filt_app (S := Hs A s) mk_ext hI.1.2.2.2.2.1 (mk_TS hI hm.1.2) (fun a _ _ => by rw [mk_Hs hI hm.1.1 hm.1.2 hm.1.2, if_neg (by omega)]) (by rw [mk_Hs hI hm.1.1 hm.1.2 hm.1.2, if_pos ⟨rfl, rfl⟩]) (fun a _ _ h => by rw [mk_key]; exact mk_ltH hI hm.1.2 h)]
  refine mk_ext.docA hI.1.2.2.2.1 (OLf hI.1) ?_
  rw [gt_i (by omega), Int.toNat_natCast, mk_tN (by decide) (by decide)]
  exact hk
theorem Cl.mkC {υ : St} (hI : Inv A N nm nv) (hm : okM A N s k x y z p) (h : Cl σ A N nm nv) (g : MkC σ τ A (mkA A N s k x y z p) N s) (hf : ∀ a b, (a < 20 + 40 * s + 10 ∨ 20 + 40 * s + 26 < a) → (a ≠ 20 + 40 * s ∨ b ≠ 5) → υ a b = τ a b) (hb : isB (υ (20 + 40 * s) 5)) (hpd : PD υ (20 + 40 * s + 10) (N + 1)) (hdoc : υ (20 + 40 * s) 5 ≠ 0 → isP υ (20 + 40 * s + 10) (docOf (mkA A N s k x y z p) (N + 1) (Hs (mkA A N s k x y z p) s))) : Cl υ (mkA A N s k x y z p) (N + 1) nm nv := by
  have hN := hm.1.1
  have hs := hm.1.2
  obtain ⟨g1, g2, g3, g4, g5, g6, g7⟩ := g
  have row : ∀ a, (a < 8 ∨ 16 < a) → (a < 20 + 40 * s ∨ 20 + 40 * s + 26 < a) → υ a = σ a := fun a h1 h2 => by
    funext b
    rw [hf a b (by omega) (by omega), g1 a h1 (by omega)]
  have row2 : ∀ a, (a < 20 + 40 * s + 10 ∨ 20 + 40 * s + 26 < a) → a ≠ 20 + 40 * s → υ a = τ a := fun a h1 h2 => funext fun b => hf a b h1 (Or.inl h2)
  have pd : ∀ q, 17 ≤ q → (q + 16 < 20 + 40 * s ∨ 20 + 40 * s + 26 < q) → PD σ q N → PD υ q (N + 1) := fun q h0 hq w => by
    refine PD.mono (fun k k1 k2 i hi => ?_)
    rw [row _ (by omega) (by omega)]; exact w k k1 k2 i hi
  obtain ⟨h1, h2, h3, h4, ⟨h5, h6, h7⟩, h8, h9, h10⟩ := h
  refine ⟨⟨fun q q1 q2 i => ?_, ?_, by omega⟩, fun t ht => ?_, pd 180 (by decide) (by omega) h3, pd 200 (by decide) (by omega) h4, ⟨?_, ?_, fun m hm2 => ?_⟩, ?_, ?_, fun v hv a ha => ?_⟩
  · rw [row2 q (by omega) (by omega)]; exact g2 q q1 q2 i
  · rw [mk_8]; exact if_pos rfl
  · have q := h2 t ht
    by_cases e : t = s
    · subst e
      unfold ClS at q ⊢
      rw [row2 (20 + 40 * t + 1) (by omega) (by omega), row2 (20 + 40 * t + 2) (by omega) (by omega), row2 (20 + 40 * t + 3) (by omega) (by omega), row2 (20 + 40 * t + 4) (by omega) (by omega), hf (20 + 40 * t) 0 (by omega) (by omega), hf (20 + 40 * t) 6 (by omega) (by omega), hf (20 + 40 * t) 7 (by omega) (by omega), hf (20 + 40 * t) 8 (by omega) (by omega), hf (20 + 40 * t) 9 (by omega) (by omega), g3 0 (by decide), g3 6 (by decide), g3 8 (by decide), g3 9 (by decide), g4, g5, g1 (20 + 40 * t + 4) (by omega) (by omega)]
      rw [mk_o (a := 250) (by decide) (by decide), mk_o (a := 248) (by decide) (by decide), mk_o (a := 249) (by decide) (by decide), mk_o (a := 252) (by decide) (by decide), mk_247, mk_245, if_pos rfl, if_pos rfl]
      refine ⟨q.1, hb, q.2.2.1, rfl, q.2.2.2.2.1, q.2.2.2.2.2.1, rfl, fun a ha => ?_, fun i hi => ?_, q.2.2.2.2.2.2.2.2.2.1, hpd, hdoc⟩
      · rw [g6, mk_243]
        by_cases ea : a = N
        · rw [if_pos ea, if_pos (by omega)]
        · rw [if_neg ea, if_neg (by omega)]; exact q.2.2.2.2.2.2.2.1 a ha
      · have hl := JL_len hI ht
        rw [g7, mk_244]
        by_cases ea : i = (A 245 t).toNat
        · rw [if_pos ea, if_pos (by omega)]
        · rw [if_neg ea, if_neg (by omega)]; exact q.2.2.2.2.2.2.2.2.1 i (by omega)
    · have hl := JL_len hI ht
      have hl2 := JL_len hI hs
      have dd := mk_docT hI hm ht e
      unfold ClS at q ⊢
      rw [dd]
      rw [row (20 + 40 * t) (by omega) (by omega), row (20 + 40 * t + 1) (by omega) (by omega), row (20 + 40 * t + 2) (by omega) (by omega), row (20 + 40 * t + 3) (by omega) (by omega), row (20 + 40 * t + 4) (by omega) (by omega), mk_o (a := 250) (by decide) (by decide), mk_o (a := 248) (by decide) (by decide), mk_o (a := 249) (by decide) (by decide), mk_o (a := 252) (by decide) (by decide), mk_247, mk_245, if_neg e, if_neg e]
      refine ⟨q.1, q.2.1, q.2.2.1, q.2.2.2.1, q.2.2.2.2.1, q.2.2.2.2.2.1, q.2.2.2.2.2.2.1, fun a ha => ?_, fun i hi => ?_, q.2.2.2.2.2.2.2.2.2.1, pd _ (by omega) (by omega) q.2.2.2.2.2.2.2.2.2.2.1, fun w => ?_⟩
      · rw [mk_243, if_neg (by omega)]; exact q.2.2.2.2.2.2.2.1 a ha
      · rw [mk_244, if_neg (by omega)]; exact q.2.2.2.2.2.2.2.2.1 i hi
      · have pp := q.2.2.2.2.2.2.2.2.2.2.2 w
        refine ⟨?_, pp.2.1, ?_, fun k k1 k2 i => ?_⟩
        · rw [row _ (by omega) (by omega)]; exact pp.1
        · rw [row _ (by omega) (by omega)]; exact pp.2.2.1
        · rw [row _ (by omega) (by omega)]; exact pp.2.2.2 k k1 k2 i
  · rw [row 0 (by omega) (by omega)]; exact h5
  · rw [row 2 (by omega) (by omega)]; exact h6
  · have q := h7 m hm2
    unfold ClM at q ⊢
    rw [row (300 + 4 * m) (by omega) (by omega), row (300 + 4 * m + 2) (by omega) (by omega), row (300 + 4 * m + 3) (by omega) (by omega), mk_o (a := 254) (by decide) (by decide), mk_o (a := 255) (by decide) (by decide), mk_o (a := 257) (by decide) (by decide)]
    exact q
  · rw [row 0 (by omega) (by omega)]; exact h8
  · rw [row 3 (by omega) (by omega)]; exact h9
  · rw [row _ (by omega) (by omega), mk_o (a := 258) (by decide) (by decide)]; exact h10 v hv a ha
theorem c_make (hI : Inv A N nm nv) (h : Cl σ A N nm nv) (hm : okM A N s k x y z p) (hn : 200 ≤ n) : wp (fX5_make n σ (20 + 40 * s) k x y z p) (fun r => r.1 = (N : Int) ∧ Cl r.2 (mkA A N s k x y z p) (N + 1) nm nv ∧ FrC σ r.2 ∧ r.2 4 = σ 4 ∧ (σ (20 + 40 * s) 5 ≠ 0 → k < 11 → r.2 (20 + 40 * s) 5 ≠ 0)) := by
  have hN := hm.1.1
  have hs := hm.1.2
  have w := h.site hs
  have h247 := (hI.2.1 s hs).2.1
  have hkr := hm.2.1
  unfold fX5_make
  rw [w.1, w.2.2.2.1]
  refine wp_ck (by omega) (by omega) (wp_b2 (c_add hI h hm hn) (fun v σ2 g => ?_))
  obtain ⟨gv, ga, gb⟩ := g
  have gv' : v = (N : Int) := gv
  subst gv'
  refine wp_b1 (c_take hI h hN hs (B := mkA A N s k x y z p) ga gb) (fun σ4 g => ?_)
  have g1 := g.1
  have g3 := g.2.2.1
  have e5 : σ4 (20 + 40 * s) 5 = σ (20 + 40 * s) 5 := g3 5 (by decide)
  have frc : ∀ a b, (20 + 40 * s + 26 < a ∨ a = 4) → σ4 a b = σ a b := fun a b ha => by rw [g1 a (by omega) (by omega)]
  have pd4 : PD σ4 (20 + 40 * s + 10) (N + 1) := by
    refine PD.mono (fun q q1 q2 i hi => ?_)
    rw [g1 _ (by omega) (by omega)]; exact w.pd q q1 q2 i hi
  have stale : ∀ (t : Int), t = 0 → wp (fX5_make_J51 n σ4 (20 + 40 * s) k x y z p (N : Int)) (fun r => r.1 = (N : Int) ∧ Cl r.2 (mkA A N s k x y z p) (N + 1) nm nv ∧ FrC σ r.2 ∧ r.2 4 = σ 4) := by
    intro t _
    unfold fX5_make_J51
    refine wp_pfb (Or.inl rfl) (wp_some ⟨rfl, ?_, fun a b h3 h4 => ?_, ?_⟩)
    · refine Cl.mkC hI hm h g (fun a b h1 h2 => ?_) ?_ ?_ ?_
      · show st σ4 (20 + 40 * s) 5 0 a b = σ4 a b
        by_cases q : a = 20 + 40 * s
        · subst q; rw [st_row, if_neg (by omega)]
        · exact st_ne q
      · show isB (st σ4 (20 + 40 * s) 5 0 (20 + 40 * s) 5)
        rw [st_row, if_pos rfl]; exact Or.inl rfl
      · intro q q1 q2 i hi
        show st σ4 (20 + 40 * s) 5 0 (20 + 40 * s + 10 + q) i = C0 q i
        rw [st_ne (by omega)]; exact pd4 q q1 q2 i hi
      · intro q
        exact absurd (by show st σ4 (20 + 40 * s) 5 0 (20 + 40 * s) 5 = 0; rw [st_row, if_pos rfl]) q
    · show st σ4 (20 + 40 * s) 5 0 a b = σ a b
      rw [st_ne (by omega)]; exact frc a b (by omega)
    · show st σ4 (20 + 40 * s) 5 0 4 = σ 4
      rw [st_fn (by omega)]; exact g1 4 (by omega) (by omega)
  by_cases k11 : k = 11
  · rw [if_pos k11]
    exact wp_mono (stale 0 rfl) (fun r q => ⟨q.1, q.2.1, q.2.2.1, q.2.2.2, fun _ hk => absurd hk (by omega)⟩)
  rw [if_neg k11]
  by_cases k12 : k = 12
  · rw [if_neg (by omega)]
    exact wp_mono (stale 0 rfl) (fun r q => ⟨q.1, q.2.1, q.2.2.1, q.2.2.2, fun _ hk => absurd hk (by omega)⟩)
  rw [if_pos k12, e5]
  by_cases q5 : σ (20 + 40 * s) 5 = 0
  · rw [if_pos q5]
    refine wp_some ⟨rfl, ?_, fun a b h3 h4 => frc a b (by omega), funext fun b => frc 4 b (Or.inr rfl), fun q => absurd q5 q⟩
    exact Cl.mkC hI hm h g (fun a b _ _ => rfl) (by show isB (σ4 (20 + 40 * s) 5); rw [e5]; exact w.fresh) pd4 (fun q => absurd (e5.trans q5) q)
  · rw [if_neg q5]
    have dk := hI.dk hs
    have tt : TT (mkA A N s k x y z p) σ4 (N + 1) := ⟨g.2.1, by rw [mk_8]; exact if_pos rfl, by omega⟩
    have tv := mk_TV hI hm
    have pp : isP σ4 (20 + 40 * s + 10) (docOf A N (Hs A s)) := by
      have pp := w.doc q5
      refine ⟨?_, pp.2.1, ?_, fun k k1 k2 i => ?_⟩
      · rw [g1 _ (by omega) (by omega)]; exact pp.1
      · rw [g1 _ (by omega) (by omega)]; exact pp.2.2.1
      · rw [g1 _ (by omega) (by omega)]; exact pp.2.2.2 k k1 k2 i
    have h14 := (tv N (by omega)).2.2.2.2.1
    have so : SO (mkA A N s k x y z p) (N + 1) (docOf A N (Hs A s)) := fun i hi => by
      have hm4 : (i : Int) ∈ (docOf A N (Hs A s)).1 := Decidable.byContradiction (fun q => by have := (dk.1.2.2.2.1 i q).1; omega)
      have hmk := dk.1.2.1 _ hm4
      rw [mk_mE (mkE_num hmk).1.2]
      exact hmk
    have one := a_one pp tt (by omega) (by omega : 162 ≤ n) (a := (N : Int)) ⟨by omega, by omega⟩ (fun a ha => (dk.1.row hI.1.2.1 ha).1) so (by have := dk.2.2.2.2; omega) (by rw [gt_i (by omega), Int.toNat_natCast]; exact h14)
    rw [← mk_docS hI hm (by omega)] at one
    refine wp_b1 one (fun σ5 f => wp_some ⟨rfl, ?_, fun a b h3 h4 => ?_, funext fun b => ?_, fun _ _ => ?_⟩)
    · refine Cl.mkC hI hm h g (fun a b h1 _ => f.2 a h1 b) ?_ ?_ (fun _ => f.1)
      · show isB (σ5 (20 + 40 * s) 5)
        rw [f.2 _ (by omega), e5]; exact w.fresh
      · have iv := hI.make hm
        exact f.1.pd (doc_pd tv (OLf iv.1))
    · show σ5 a b = σ a b
      rw [f.2 a (by omega)]; exact frc a b (by omega)
    · show σ5 4 b = σ 4 b
      rw [f.2 4 (by omega)]; exact frc 4 b (Or.inr rfl)
    · show σ5 (20 + 40 * s) 5 ≠ 0
      rw [f.2 _ (by omega), e5]; exact q5
end MKC

