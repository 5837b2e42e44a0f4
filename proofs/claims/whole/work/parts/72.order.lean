/-! ===== orders ===== -/
def key (T : St) (x : Int) : Int := 4 * T 10 x.toNat + T 9 x.toNat
def TS (T : St) (N : Nat) : Prop := (OL T N).Pairwise (fun x y => key T x < key T y) ∧ ∀ x, x ∈ OL T N ↔ 0 ≤ x ∧ x < (N : Int)
theorem sorted_unique {k : Int → Int} : ∀ (L M : List Int), L.Pairwise (fun x y => k x < k y) → M.Pairwise (fun x y => k x < k y) → (∀ x, x ∈ L ↔ x ∈ M) → L = M := by
  intro L
  induction L with
  | nil =>
    intro M _ _ h
    cases M with
    | nil => rfl
    | cons y M => exact absurd ((h y).mpr List.mem_cons_self) List.not_mem_nil
  | cons x L ih =>
    intro M hL hM h
    cases M with
    | nil => exact absurd ((h x).mp List.mem_cons_self) List.not_mem_nil
    | cons y M =>
      rw [List.pairwise_cons] at hL hM
      have hxy : x = y := by
        rcases List.mem_cons.mp ((h x).mp List.mem_cons_self) with q | q
        · exact q
        · rcases List.mem_cons.mp ((h y).mpr List.mem_cons_self) with q2 | q2
          · exact q2.symm
          · have := hM.1 x q; have := hL.1 y q2; omega
      subst hxy
      congr 1
      refine ih M hL.2 hM.2 (fun z => ⟨fun hz => ?_, fun hz => ?_⟩)
      · rcases List.mem_cons.mp ((h z).mp (List.mem_cons_of_mem _ hz)) with q | q
        · subst q; have := hL.1 z hz; omega
        · exact q
      · rcases List.mem_cons.mp ((h z).mpr (List.mem_cons_of_mem _ hz)) with q | q
        · subst q; have := hM.1 z hz; omega
        · exact q
theorem sorted_ins {k : Int → Int} {L : List Int} {q : Nat} {a : Int} (hL : L.Pairwise (fun x y => k x < k y)) (h1 : ∀ x, x ∈ L.take q → k x < k a) (h2 : ∀ x, x ∈ L.drop q → k a < k x) : (insA L q a).Pairwise (fun x y => k x < k y) := by
  unfold insA
  rw [← List.take_append_drop q L, List.pairwise_append] at hL
  rw [List.pairwise_append, List.pairwise_cons]
  refine ⟨hL.1, ⟨h2, hL.2.1⟩, fun x hx y hy => ?_⟩
  rcases List.mem_cons.mp hy with rfl | hy
  · exact h1 x hx
  · exact hL.2.2 x hx y hy
theorem sorted_take {k : Int → Int} {L : List Int} {q : Nat} {c : Int} (hL : L.Pairwise (fun x y => k x < k y)) (hq : q < L.length) (h : k (L.getD q 0) < c) : ∀ x, x ∈ L.take (q + 1) → k x < c := by
  intro x hx
  rw [List.take_succ, List.mem_append] at hx
  rcases hx with hx | hx
  · have e : L = L.take q ++ L.getD q 0 :: L.drop (q + 1) := by rw [← drop_cons hq, List.take_append_drop]
    rw [e, List.pairwise_append] at hL
    have := hL.2.2 x hx (L.getD q 0) List.mem_cons_self
    omega
  · rw [List.getElem?_eq_getElem hq] at hx
    have : x = L.getD q 0 := by
      rw [List.getD_eq_getElem?_getD, List.getElem?_eq_getElem hq]
      simpa using hx
    rw [this]; exact h
def FrO (σ σ2 : St) : Prop := ∀ a b, (a < 259 ∨ 262 < a) → (a ≠ 230 ∨ b ≠ 29) → σ2 a b = σ a b
theorem FrO.tr {σ σ2 σ3 : St} (h : FrO σ σ2) (h2 : FrO σ2 σ3) : FrO σ σ3 := fun a b h3 h4 => (h2 a b h3 h4).trans (h a b h3 h4)
theorem FrO.upd {σ σ2 : St} {r i : Nat} {v : Int} (h : FrO σ σ2) (hr : 259 ≤ r ∧ r ≤ 262) : FrO σ (st σ2 r i v) := fun a b h3 h4 => by
  rw [st_ne (by omega)]; exact h a b h3 h4
theorem FrO.up2 {σ σ2 : St} {v : Int} (h : FrO σ σ2) : FrO σ (st σ2 230 29 v) := fun a b h3 h4 => by
  by_cases q : a = 230
  · subst q; rw [st_row, if_neg (by omega)]; exact h 230 b h3 h4
  · rw [st_ne q]; exact h a b h3 h4
theorem RT.fro {T σ σ2 : St} {N : Nat} (h : RT T σ N) (hf : FrO σ σ2) : RT T σ2 N := by
  refine ⟨by rw [hf 230 1 (by decide) (by decide)]; exact h.1, fun a ha => ?_⟩
  rw [hf 233 a (by omega) (by omega), hf 234 a (by omega) (by omega), hf 235 a (by omega) (by omega), hf 236 a (by omega) (by omega), hf 237 a (by omega) (by omega), hf 238 a (by omega) (by omega), hf 239 a (by omega) (by omega), hf 240 a (by omega) (by omega), hf 242 a (by omega) (by omega)]
  exact h.2 a ha
theorem uOne_ne {T : St} {N : Nat} {C : St} {a : Int} {q : Nat} (h : q ≠ 9) : uOne T N C a q = C q := by
  unfold uOne
  split
  · exact st_fn h
  · rfl
theorem uFold_ne {T : St} {N : Nat} {q : Nat} (h : q ≠ 9) : ∀ (L : List Int) (C : St), L.foldl (uOne T N) C q = C q := by
  intro L
  induction L with
  | nil => intro C; rfl
  | cons x L ih => intro C; rw [List.foldl_cons, ih, uOne_ne h]
theorem uFold_b {T : St} {N : Nat} : ∀ (L : List Int) (C : St), (∀ i, isB (C 9 i)) → ∀ i, isB (L.foldl (uOne T N) C 9 i) := by
  intro L
  induction L with
  | nil => intro C h; exact h
  | cons x L ih =>
    intro C h
    rw [List.foldl_cons]
    refine ih _ ?_
    unfold uOne
    split
    · exact isB_st h (by split; exact Or.inr rfl; exact Or.inl rfl)
    · exact h
section ORD
variable {T σ : St} {N n o fr : Nat}
theorem r_behind (hr : RT T σ N) (hv : TV T N) {x y : Int} (hx : 0 ≤ x ∧ x < (N : Int)) (hy : 0 ≤ y ∧ y < (N : Int)) (hN : N ≤ 160) : fX6_isBehind σ x y = some (b2i (decide (key T y < key T x))) := by
  have a1 := (hr.2 x.toNat (by omega)).1
  have a2 := (hr.2 x.toNat (by omega)).2.1
  have b1' := (hr.2 y.toNat (by omega)).1
  have b2' := (hr.2 y.toNat (by omega)).2.1
  have va := (hv x.toNat (by omega)).1
  have vb := (hv y.toNat (by omega)).1
  unfold fX6_isBehind key
  rw [rd_ok hx.1 (by omega), rd_ok hy.1 (by omega), rd_ok hx.1 (by omega), rd_ok hy.1 (by omega), rd_ok hx.1 (by omega), rd_ok hy.1 (by omega), a1, a2, b1', b2']
  by_cases q : T 10 x.toNat = T 10 y.toNat
  · rw [if_pos q]
    by_cases q2 : T 9 x.toNat ≤ T 9 y.toNat
    · rw [if_pos q2, decide_eq_false (by omega)]; rfl
    · rw [if_neg q2, decide_eq_true (by omega)]; rfl
  · rw [if_neg q]
    by_cases q2 : T 10 x.toNat ≤ T 10 y.toNat
    · rw [if_pos q2, decide_eq_false (by omega)]; rfl
    · rw [if_neg q2, decide_eq_true (by omega)]; rfl
theorem TS.ne (hs : TS T N) : ∀ x y : Int, 0 ≤ x ∧ x < (N : Int) → 0 ≤ y ∧ y < (N : Int) → x ≠ y → key T x ≠ key T y := by
  intro x y hx hy hxy hk
  obtain ⟨A, B, hAB⟩ := List.append_of_mem ((hs.2 x).mpr hx)
  have hy2 := (hs.2 y).mpr hy
  have hp := hs.1
  rw [hAB] at hy2 hp
  rw [List.pairwise_append, List.pairwise_cons] at hp
  rw [List.mem_append, List.mem_cons] at hy2
  rcases hy2 with q | q | q
  · have := hp.2.2 y q x List.mem_cons_self; omega
  · exact hxy q.symm
  · have := hp.2.1.1 y q; omega
theorem r_or134 (hr : RT T σ N) (hv : TV T N) (hN : N ≤ 160) (hn : 400 ≤ n) : ∀ (L : List Int) (k m i : Nat) (σ1 : St) (C : St), i + k = L.length → k < m → L.length ≤ 160 → (∀ x, x ∈ L → 0 ≤ x ∧ x < (N : Int)) → σ1 230 29 = (L.length : Int) → seg (σ1 261) 0 L.length = L → (∀ j, j < N → σ1 262 j = C 9 j) → FrO σ σ1 →
    wp (fX6_orders_L134 n o (fr : Int) m σ1 (i : Int)) (fun σ2 => seg (σ2 261) 0 L.length = L ∧ σ2 230 29 = (L.length : Int) ∧ (∀ j, j < N → σ2 262 j = ((L.drop i).foldl (uOne T N) C) 9 j) ∧ FrO σ σ2) := by
  intro L k
  induction k with
  | zero =>
    intro m i σ1 C h1 h2 hl hx h3 h4 h5 h6
    obtain ⟨m, rfl⟩ : ∃ q, m = q + 1 := ⟨m - 1, by omega⟩
    show wp (fX6_orders_L134s n o (fr : Int) _ σ1 (i : Int)) _
    unfold fX6_orders_L134s
    rw [if_pos (by rw [h3]; omega)]
    refine wp_some ⟨h4, h3, ?_, h6⟩
    rw [List.drop_eq_nil_of_le (by omega)]; exact h5
  | succ k ih =>
    intro m i σ1 C h1 h2 hl hx h3 h4 h5 h6
    obtain ⟨m, rfl⟩ : ∃ q, m = q + 1 := ⟨m - 1, by omega⟩
    show wp (fX6_orders_L134s n o (fr : Int) (fX6_orders_L134 n o (fr : Int) m) σ1 (i : Int)) _
    have hi : i < L.length := by omega
    have hg : σ1 261 i = L.getD i 0 := by
      have := seg_get (σ1 261) L.length 0 i
      rw [h4, if_pos hi, Nat.zero_add] at this
      rw [List.getD_eq_getElem?_getD, this]; rfl
    have hxi := hx _ (getD_mem hi)
    have hr1 := hr.fro h6
    rw [drop_cons hi, List.foldl_cons]
    generalize L.getD i 0 = x at hg hxi
    have hT := hr1.2 x.toNat (by omega)
    have hV := (hv x.toNat (by omega)).2.2.2.2.2.2.2.2.2.2.2.2.2
    unfold fX6_orders_L134s
    rw [if_neg (by rw [h3]; omega)]
    refine wp_rd (by omega) (by omega) ?_
    rw [Int.toNat_natCast, hg]
    refine wp_rd hxi.1 (by omega) ?_
    rw [hT.2.2.1]
    have j174 : T 11 x.toNat = 11 ∨ T 11 x.toNat = 12 → wp (fX6_orders_J174 n (fX6_orders_L134 n o (fr : Int) m) σ1 o (fr : Int) (i : Int) x) (fun σ2 => seg (σ2 261) 0 L.length = L ∧ σ2 230 29 = (L.length : Int) ∧ (∀ j, j < N → σ2 262 j = ((L.drop (i + 1)).foldl (uOne T N) (uOne T N C x)) 9 j) ∧ FrO σ σ2) := by
      intro hk
      have hv1 := hV (by omega)
      have ht4 := hT.2.2.2.1 (by omega)
      unfold fX6_orders_J174
      refine wp_rd hxi.1 (by omega) (wp_rd hxi.1 (by omega) ?_)
      rw [ht4, hT.2.2.1]
      have e : ∀ v : Int, v = (if T 11 x.toNat = 11 then 1 else 0) → wp (wrb σ1 262 160 (T 12 x.toNat) v (fun σ26 => ck ((i : Int) + 1) (fun v27 => fX6_orders_L134 n o (fr : Int) m σ26 v27))) (fun σ2 => seg (σ2 261) 0 L.length = L ∧ σ2 230 29 = (L.length : Int) ∧ (∀ j, j < N → σ2 262 j = ((L.drop (i + 1)).foldl (uOne T N) (uOne T N C x)) 9 j) ∧ FrO σ σ2) := by
        intro v hvv
        have hu : uOne T N C x = st C 9 (T 12 x.toNat).toNat v := by
          unfold uOne
          rw [gt_i hxi, gt_i hxi, if_pos ⟨hk, ⟨hv1.1, by omega⟩⟩, hvv]
        refine wp_wrb hv1.1 (by omega) (by rw [hvv]; split; exact Or.inr rfl; exact Or.inl rfl) (wp_ck (by omega) (by omega) ?_)
        refine ih m (i + 1) _ _ (by omega) (by omega) hl hx (by rw [st_ne (by decide)]; exact h3) (by rw [st_fn (by decide)]; exact h4) (fun j hj => ?_) (h6.upd (by decide))
        rw [hu, st_row, st_row]
        split
        · rfl
        · exact h5 j hj
      refine wp_if (fun q => e 0 (by rw [if_neg q])) (fun q => e 1 (by rw [if_pos (by omega)]))
    refine wp_if (fun q => j174 (Or.inl q)) (fun q => ?_)
    refine wp_rd hxi.1 (by omega) ?_
    rw [hT.2.2.1]
    refine wp_if (fun q2 => ?_) (fun q2 => j174 (Or.inr (by omega)))
    have hu : uOne T N C x = C := by
      unfold uOne
      rw [gt_i hxi, if_neg (by omega)]
    rw [hu]
    exact wp_ck (by omega) (by omega) (ih m (i + 1) σ1 C (by omega) (by omega) hl hx h3 h4 h5 h6)
theorem r_or111 (hr : RT T σ N) (hv : TV T N) (hN : N ≤ 160) (hn : 400 ≤ n) : ∀ (L : List Int), L.length ≤ 160 → (∀ x, x ∈ L → 0 ≤ x ∧ x < (N : Int)) → ∀ (k m i : Nat) (σ1 : St), i + k = N → k < m → σ1 230 29 = (L.length : Int) → seg (σ1 261) 0 L.length = L → (∀ j, j < i → σ1 262 j = 0) → FrO σ σ1 →
    wp (fX6_orders_L111 n o (fr : Int) m σ1 (i : Int)) (fun σ2 => seg (σ2 261) 0 L.length = L ∧ σ2 230 29 = (L.length : Int) ∧ (∀ j, j < N → σ2 262 j = (L.foldl (uOne T N) C0) 9 j) ∧ FrO σ σ2) := by
  intro L hl hx k
  induction k with
  | zero =>
    intro m i σ1 h1 h2 h3 h4 h5 h6
    obtain ⟨m, rfl⟩ : ∃ q, m = q + 1 := ⟨m - 1, by omega⟩
    show wp (fX6_orders_L111s n o (fr : Int) _ σ1 (i : Int)) _
    unfold fX6_orders_L111s
    rw [(hr.fro h6).1, if_pos (by omega)]
    refine wp_mono (r_or134 hr hv hN hn L L.length n 0 σ1 C0 (Nat.zero_add _) (by omega) hl hx h3 h4 (fun j hj => h5 j (by omega)) h6) (fun σ2 q => ⟨q.1, q.2.1, fun j hj => ?_, q.2.2.2⟩)
    have := q.2.2.1 j hj
    rw [List.drop_zero] at this
    exact this
  | succ k ih =>
    intro m i σ1 h1 h2 h3 h4 h5 h6
    obtain ⟨m, rfl⟩ : ∃ q, m = q + 1 := ⟨m - 1, by omega⟩
    show wp (fX6_orders_L111s n o (fr : Int) (fX6_orders_L111 n o (fr : Int) m) σ1 (i : Int)) _
    unfold fX6_orders_L111s
    rw [(hr.fro h6).1, if_neg (by omega)]
    refine wp_wrb (by omega) (by omega) (Or.inl rfl) (wp_ck (by omega) (by omega) ?_)
    rw [Int.toNat_natCast]
    refine ih m (i + 1) _ (by omega) (by omega) (by rw [st_ne (by decide)]; exact h3) (by rw [st_fn (by decide)]; exact h4) (fun j hj => ?_) (h6.upd (by decide))
    rw [st_row]
    split
    · rfl
    · exact h5 j (by omega)
theorem r_or41 (hr : RT T σ N) (hv : TV T N) (hN : N ≤ 160) (hn : 400 ≤ n) (kne : ∀ x y : Int, 0 ≤ x ∧ x < (N : Int) → 0 ≤ y ∧ y < (N : Int) → x ≠ y → key T x ≠ key T y) : ∀ (lp7 : St → Int → Option St) (a : Nat) (L : List Int) (Q : St → Prop), a < N → L.length < 160 → L.Pairwise (fun x y => key T x < key T y) → (∀ x, x ∈ L → 0 ≤ x ∧ x < (a : Int)) → ∀ (c m : Nat) (σ1 : St), c ≤ L.length → c < m → σ1 230 29 = (L.length : Int) → (∀ j, j < c → σ1 261 j = L.getD j 0) → (∀ j, c < j → j ≤ L.length → σ1 261 j = L.getD (j - 1) 0) → (∀ x, x ∈ L.drop c → key T (a : Int) < key T x) → FrO σ σ1 →
    (∀ (σ2 : St) (L2 : List Int), L2.Pairwise (fun x y => key T x < key T y) → (∀ x, x ∈ L2 ↔ x = (a : Int) ∨ x ∈ L) → L2.length = L.length + 1 → σ2 230 29 = (L2.length : Int) → seg (σ2 261) 0 L2.length = L2 → FrO σ σ2 → wp (lp7 σ2 ((a : Int) + 1)) Q) →
    wp (fX6_orders_L41 n lp7 o (fr : Int) (a : Int) m σ1 (c : Int)) Q := by
  intro lp7 a L Q ha hL hp hx c
  have lay : ∀ (c : Nat) (σ1 : St), c ≤ L.length → σ1 230 29 = (L.length : Int) → (∀ j, j < c → σ1 261 j = L.getD j 0) → (∀ j, c < j → j ≤ L.length → σ1 261 j = L.getD (j - 1) 0) → (∀ x, x ∈ L.drop c → key T (a : Int) < key T x) → (∀ x, x ∈ L.take c → key T x < key T (a : Int)) → FrO σ σ1 →
      (∀ (σ2 : St) (L2 : List Int), L2.Pairwise (fun x y => key T x < key T y) → (∀ x, x ∈ L2 ↔ x = (a : Int) ∨ x ∈ L) → L2.length = L.length + 1 → σ2 230 29 = (L2.length : Int) → seg (σ2 261) 0 L2.length = L2 → FrO σ σ2 → wp (lp7 σ2 ((a : Int) + 1)) Q) →
      wp (fX6_orders_J85 n lp7 σ1 o (fr : Int) (a : Int) (c : Int)) Q := by
    intro c σ1 h0 h3 h4 h5 h6 h7 h8 hq
    unfold fX6_orders_J85
    refine wp_wr (by omega) (by omega) ?_
    rw [Int.toNat_natCast]
    refine wp_ck (by rw [st_ne (by decide), h3]; omega) (by rw [st_ne (by decide), h3]; omega) (wp_pf (wp_ck (by omega) (by omega) ?_))
    refine hq _ (insA L c (a : Int)) (sorted_ins hp h7 h6) (fun x => insA_mem) (insA_len h0) ?_ ?_ ((h8.upd (by decide)).up2)
    · rw [st_row, if_pos rfl, st_ne (by decide), h3, insA_len h0]; omega
    · refine seg_of_get rfl (fun j hj => ?_)
      rw [insA_len h0] at hj
      rw [st_ne (by decide), st_row, insA_get h0]
      by_cases q1 : j < c
      · rw [if_pos q1, if_neg (by omega), h4 j q1, List.getD_eq_getElem?_getD, List.getElem?_eq_getElem (by omega)]; rfl
      · rw [if_neg q1]
        by_cases q2 : j = c
        · rw [if_pos q2, if_pos q2]
        · rw [if_neg q2, if_neg q2, h5 j (by omega) (by omega), List.getD_eq_getElem?_getD, List.getElem?_eq_getElem (by omega)]; rfl
  induction c with
  | zero =>
    intro m σ1 h0 h2 h3 h4 h5 h6 h8 hq
    obtain ⟨m, rfl⟩ : ∃ q, m = q + 1 := ⟨m - 1, by omega⟩
    have e : fX6_orders_L41 n lp7 o (fr : Int) (a : Int) (m + 1) σ1 ((0 : Nat) : Int) = fX6_orders_J85 n lp7 σ1 o (fr : Int) (a : Int) ((0 : Nat) : Int) := by
      have hz : ((0 : Nat) : Int) ≤ 0 := by omega
      revert hz
      generalize ((0 : Nat) : Int) = z
      intro hz
      unfold fX6_orders_L41
      rw [lpR_s]
      unfold fX6_orders_L41s
      rw [if_pos hz]
    rw [e]
    exact lay 0 σ1 h0 h3 h4 h5 h6 (fun x hx => by rw [List.take_zero] at hx; cases hx) h8 hq
  | succ c ih =>
    intro m σ1 h0 h2 h3 h4 h5 h6 h8 hq
    obtain ⟨m, rfl⟩ : ∃ q, m = q + 1 := ⟨m - 1, by omega⟩
    show wp (fX6_orders_L41s n lp7 o (fr : Int) (a : Int) (fX6_orders_L41 n lp7 o (fr : Int) (a : Int) m) σ1 ((c + 1 : Nat) : Int)) Q
    have hy := hx _ (getD_mem (show c < L.length by omega))
    unfold fX6_orders_L41s
    rw [if_neg (by omega)]
    refine wp_ck (by omega) (by omega) (wp_rd (by omega) (by omega) ?_)
    rw [show (((c + 1 : Nat) : Int) - 1).toNat = c by omega, h4 c (by omega)]
    refine wp_b1e (r_behind (hr.fro h8) hv (x := L.getD c 0) (y := (a : Int)) ⟨hy.1, by omega⟩ ⟨by omega, by omega⟩ hN) ?_
    by_cases hk : key T (a : Int) < key T (L.getD c 0)
    · rw [decide_eq_true hk, if_neg (by decide)]
      refine wp_ck (by omega) (by omega) (wp_rd (by omega) (by omega) (wp_wr (by omega) (by omega) (wp_ck (by omega) (by omega) ?_)))
      rw [show (((c + 1 : Nat) : Int) - 1).toNat = c by omega, Int.toNat_natCast, show ((c + 1 : Nat) : Int) + (-1) = (c : Int) by omega, h4 c (by omega)]
      refine ih m _ (by omega) (by omega) (by rw [st_ne (by decide)]; exact h3) (fun j hj => ?_) (fun j hj1 hj2 => ?_) (fun x hx2 => ?_) (h8.upd (by decide)) hq
      · rw [st_row, if_neg (by omega)]; exact h4 j (by omega)
      · rw [st_row]
        by_cases q : j = c + 1
        · rw [if_pos q, q, Nat.add_sub_cancel]
        · rw [if_neg q]; exact h5 j (by omega) hj2
      · rw [drop_cons (by omega)] at hx2
        rcases List.mem_cons.mp hx2 with rfl | hx2
        · exact hk
        · exact h6 x hx2
    · rw [decide_eq_false hk, if_pos (by rfl)]
      refine lay (c + 1) σ1 h0 h3 h4 h5 h6 (sorted_take hp (by omega) ?_) h8 hq
      have := kne (L.getD c 0) (a : Int) ⟨hy.1, by omega⟩ ⟨by omega, by omega⟩ (by omega)
      omega
theorem r_orders (hr : RT T σ N) (hv : TV T N) (hs : TS T N) (hN : N ≤ 160) (hn : 400 ≤ n) (ho : o < 259 ∨ 262 < o) (ho2 : o ≠ 230) (hln : fr + N ≤ ln o) (hB : ∀ a, a < N → isB (σ o (fr + a))) (S : Int → Bool) (hS : ∀ a : Nat, a < N → (S (a : Int) = true ↔ σ o (fr + a) ≠ 0)) :
    wp (fX6_orders n σ o (fr : Int)) (fun σ2 => seg (σ2 261) 0 ((OL T N).filter S).length = (OL T N).filter S ∧ σ2 230 29 = (((OL T N).filter S).length : Int) ∧ (∀ i, i < N → σ2 262 i = (((OL T N).filter S).foldl (uOne T N) C0) 9 i) ∧ FrO σ σ2) := by
  have hlo := ln_le o
  have l7 : ∀ (k m i : Nat) (σ1 : St) (L : List Int), i + k = N → k < m → L.Pairwise (fun x y => key T x < key T y) → (∀ x, x ∈ L ↔ (0 ≤ x ∧ x < (i : Int)) ∧ S x = true) → L.length ≤ i → σ1 230 29 = (L.length : Int) → seg (σ1 261) 0 L.length = L → FrO σ σ1 →
      wp (fX6_orders_L7 n o (fr : Int) m σ1 (i : Int)) (fun σ2 => seg (σ2 261) 0 ((OL T N).filter S).length = (OL T N).filter S ∧ σ2 230 29 = (((OL T N).filter S).length : Int) ∧ (∀ i, i < N → σ2 262 i = (((OL T N).filter S).foldl (uOne T N) C0) 9 i) ∧ FrO σ σ2) := by
    intro k
    induction k with
    | zero =>
      intro m i σ1 L h1 h2 hp hm hl h3 h4 h6
      obtain ⟨m, rfl⟩ : ∃ q, m = q + 1 := ⟨m - 1, by omega⟩
      have hLe : L = (OL T N).filter S := by
        refine sorted_unique L _ hp (List.Pairwise.filter _ hs.1) (fun x => ?_)
        rw [hm, List.mem_filter, hs.2]
        have : i = N := by omega
        rw [this]
      show wp (fX6_orders_L7s n o (fr : Int) _ σ1 (i : Int)) _
      unfold fX6_orders_L7s
      rw [(hr.fro h6).1, if_pos (by omega), ← hLe]
      exact r_or111 hr hv hN hn L (by omega) (fun x hx => by have := (hm x).mp hx; omega) N n 0 σ1 (Nat.zero_add _) (by omega) h3 h4 (fun j hj => by omega) h6
    | succ k ih =>
      intro m i σ1 L h1 h2 hp hm hl h3 h4 h6
      obtain ⟨m, rfl⟩ : ∃ q, m = q + 1 := ⟨m - 1, by omega⟩
      show wp (fX6_orders_L7s n o (fr : Int) (fX6_orders_L7 n o (fr : Int) m) σ1 (i : Int)) _
      unfold fX6_orders_L7s
      rw [(hr.fro h6).1, if_neg (by omega)]
      refine wp_ck (by omega) (by omega) (wp_rd (by omega) (by omega) ?_)
      rw [show ((fr : Int) + (i : Int)).toNat = fr + i by omega, h6 o (fr + i) ho (Or.inl ho2)]
      refine wp_wrb (by omega) (by omega) (hB i (by omega)) (wp_rd (by omega) (by omega) ?_)
      rw [Int.toNat_natCast, st_row, if_pos rfl]
      have h3' : st σ1 259 i (σ o (fr + i)) 230 29 = (L.length : Int) := by rw [st_ne (by decide)]; exact h3
      have h4' : seg (st σ1 259 i (σ o (fr + i)) 261) 0 L.length = L := by rw [st_fn (by decide)]; exact h4
      have h6' : FrO σ (st σ1 259 i (σ o (fr + i))) := h6.upd (by decide)
      generalize st σ1 259 i (σ o (fr + i)) = σ2 at h3' h4' h6'
      refine wp_if (fun q => ?_) (fun q => ?_)
      · refine wp_ck (by omega) (by omega) (ih m (i + 1) σ2 L (by omega) (by omega) hp (fun x => ?_) (by omega) h3' h4' h6')
        rw [hm]
        refine ⟨fun z => ⟨by omega, z.2⟩, fun z => ⟨?_, z.2⟩⟩
        have hne : x ≠ (i : Int) := fun y => by
          have := (hS i (by omega)).mp (by rw [← y]; exact z.2)
          exact this q
        omega
      · have hSi : S (i : Int) = true := (hS i (by omega)).mpr q
        have hg : ∀ j, j < L.length → σ2 261 j = L.getD j 0 := fun j hj => by
          have := seg_get (σ2 261) L.length 0 j
          rw [h4', if_pos hj, Nat.zero_add] at this
          rw [List.getD_eq_getElem?_getD, this]; rfl
        have := r_or41 (o := o) (fr := fr) hr hv hN hn hs.ne (fX6_orders_L7 n o (fr : Int) m) i L (fun σ2 => seg (σ2 261) 0 ((OL T N).filter S).length = (OL T N).filter S ∧ σ2 230 29 = (((OL T N).filter S).length : Int) ∧ (∀ i, i < N → σ2 262 i = (((OL T N).filter S).foldl (uOne T N) C0) 9 i) ∧ FrO σ σ2) (by omega) (by omega) hp (fun x hx => ((hm x).mp hx).1) L.length n σ2 (Nat.le_refl _) (by omega) h3' hg (fun j q1 q2 => by omega) (fun x hx => by rw [List.drop_length] at hx; cases hx) h6' (fun σ3 L2 q1 q2 q3 q4 q5 q6 => ?_)
        · rw [h3']; exact this
        · refine ih m (i + 1) σ3 L2 (by omega) (by omega) q1 (fun x => ?_) (by omega) q4 q5 q6
          rw [q2, hm]
          constructor
          · rintro (z | z)
            · subst z; exact ⟨by omega, hSi⟩
            · exact ⟨by omega, z.2⟩
          · rintro ⟨z1, z2⟩
            by_cases y : x = (i : Int)
            · exact Or.inl y
            · exact Or.inr ⟨by omega, z2⟩
  unfold fX6_orders
  refine wp_pf (l7 N n 0 _ [] (Nat.zero_add _) (by omega) List.Pairwise.nil (fun x => ⟨fun z => (nomatch z), fun z => by omega⟩) (Nat.le_refl _) (by rw [st_row, if_pos rfl]; rfl) rfl (FrO.up2 (fun _ _ _ _ => rfl)))
end ORD
