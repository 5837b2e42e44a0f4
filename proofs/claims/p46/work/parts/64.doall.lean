/-! ===== a document made anew ===== -/
def C0 : St := fun k i => if k = 11 then (if i < 161 then -2 else 0) else 0
def bd (k N : Nat) : Nat := if k ≤ 9 then N else if k = 12 then 0 else N + 1
/-- beyond the acts made, all is as in a new paper -/
def PD (σ : St) (p N : Nat) : Prop := ∀ k, 4 ≤ k → k ≤ 16 → ∀ i, bd k N ≤ i → σ (p + k) i = C0 k i
def uOne (T : St) (N : Nat) (C : St) (a : Int) : St := if (gt T N 11 (-1) a = 11 ∨ gt T N 11 (-1) a = 12) ∧ num (gt T N 12 (-1) a) then st C 9 (gt T N 12 (-1) a).toNat (if gt T N 11 (-1) a = 11 then 1 else 0) else C
def OL (T : St) (N : Nat) : List Int := seg (T 16) 0 N
def docL (T : St) (N : Nat) (L : List Int) : Dc := L.foldl (dOne T N) ([], L.foldl (uOne T N) C0)
def docOf (T : St) (N : Nat) (S : Int → Bool) : Dc := docL T N ((OL T N).filter S)
/-- the order, and the values -/
def TO (T : St) (N : Nat) : Prop := (∀ i, i < N → 0 ≤ T 16 i ∧ T 16 i < (N : Int)) ∧ ∀ i, i < N → 0 ≤ T 14 i ∧ T 14 i ≤ 65535
theorem dOne_row (T : St) (N : Nat) (D : Dc) (a : Int) : (dOne T N D a).1 = D.1 ∨ (dOne T N D a).1 = insA D.1 (dAt T N D a) a := by
  have e1 : (dRem T N D a).1 = D.1 := by
    unfold dRem; split
    · split <;> rfl
    · rfl
  have e2 : (dRes T N D a).1 = D.1 := by unfold dRes; split <;> rfl
  have e3 : (dKind T N D a).1 = D.1 := by unfold dKind; split <;> rfl
  have e4 : (dNest T N D a).1 = D.1 := by unfold dNest; split <;> rfl
  have e5 : ∀ ok, (dSet T N D a ok).1 = D.1 := by
    intro ok
    unfold dSet; split
    · split <;> rfl
    · rfl
  have e6 : (dLevel T N D a).1 = D.1 := by unfold dLevel; split <;> rfl
  unfold dOne
  by_cases h0 : gt T N 11 (-1) a = 0 ∨ gt T N 11 (-1) a = 1
  · rw [if_pos h0]; exact Or.inr rfl
  refine Or.inl ?_
  rw [if_neg h0]
  by_cases h1 : num a ∧ D.2 9 a.toNat ≠ 0
  · rw [if_pos h1]
  rw [if_neg h1]
  by_cases h2 : gt T N 11 (-1) a = 2
  · rw [if_pos h2, e1]
  rw [if_neg h2]
  by_cases h3 : gt T N 11 (-1) a = 3
  · rw [if_pos h3, e2]
  rw [if_neg h3]
  by_cases h4 : gt T N 11 (-1) a = 4
  · rw [if_pos h4]; rfl
  rw [if_neg h4]
  by_cases h5 : gt T N 11 (-1) a = 5
  · rw [if_pos h5, e3]
  rw [if_neg h5]
  by_cases h6 : gt T N 11 (-1) a = 6
  · rw [if_pos h6, e4]
  rw [if_neg h6]
  by_cases h7 : gt T N 11 (-1) a = 7
  · rw [if_pos h7]; rfl
  rw [if_neg h7]
  by_cases h8 : gt T N 11 (-1) a = 8
  · rw [if_pos h8, e5]
  rw [if_neg h8]
  by_cases h9 : gt T N 11 (-1) a = 9
  · rw [if_pos h9, e5]
  rw [if_neg h9]
  by_cases h10 : gt T N 11 (-1) a = 10
  · rw [if_pos h10, e6]
  rw [if_neg h10]
theorem dAt_le (T : St) (N : Nat) (D : Dc) (a : Int) : dAt T N D a ≤ D.1.length := by
  unfold dAt
  split
  · rename_i hm; exact ix_lt hm
  · exact Nat.zero_le _
theorem dOne_ok {T : St} {N : Nat} {D : Dc} {a : Int} (h : rowOK D) (ha : num a) : rowOK (dOne T N D a) ∧ (dOne T N D a).1.length ≤ D.1.length + 1 := by
  unfold rowOK
  rcases dOne_row T N D a with e | e
  · rw [e]; exact ⟨h, Nat.le_succ _⟩
  · rw [e]
    refine ⟨fun x hx => ?_, ?_⟩
    · rcases insA_mem.mp hx with rfl | hx
      · exact ha
      · exact h x hx
    · rw [insA_len (dAt_le T N D a)]; exact Nat.le_refl _
theorem st_fn {σ : St} {c i : Nat} {v : Int} {a : Nat} (h : a ≠ c) : st σ c i v a = σ a := funext fun b => st_ne h
theorem pst {L : List Int} {C : St} {c i : Nat} {v : Int} {q : Nat} (h : q ≠ c) : ((L, st C c i v) : Dc).2 q = C q := st_fn h
theorem dPnt_c (P : Int → Bool) (lv : Int → Bool) (f l : Int) (g : Int → Int) (b : Bool) (k : Int) (C : St) (x : Int) (L : List Int) : dPnt P lv f l g b k C (x :: L) = if x = l then (if (b || decide (x = f)) = true ∧ lv (if P x = true then x else k) = true then st C 7 x.toNat (g (C 7 x.toNat)) else C) else dPnt P lv f l g (b || decide (x = f)) (if P x = true then x else k) (if (b || decide (x = f)) = true ∧ lv (if P x = true then x else k) = true then st C 7 x.toNat (g (C 7 x.toNat)) else C) L := rfl
theorem dPnt_ne (P : Int → Bool) (lv : Int → Bool) (f l : Int) (g : Int → Int) (L : List Int) : ∀ (b : Bool) (k : Int) (C : St) (q : Nat), q ≠ 7 → dPnt P lv f l g b k C L q = C q := by
  induction L with
  | nil => intro b k C q _; rfl
  | cons x L ih =>
    intro b k C q hq
    rw [dPnt_c]
    generalize (if P x = true then x else k) = bk
    have e : (if (b || decide (x = f)) = true ∧ lv bk = true then st C 7 x.toNat (g (C 7 x.toNat)) else C) q = C q := by
      split
      · exact st_fn hq
      · rfl
    split
    · exact e
    · rw [ih _ _ _ q hq, e]
theorem SO.keep {T : St} {N : Nat} {D : Dc} {a : Int} (h : SO T N D) (ha : 0 ≤ a ∧ a < (N : Int)) : SO T N (dOne T N D a) := by
  have same : ∀ {E : Dc}, E.2 4 = D.2 4 → SO T N E := fun {E} e i hi => h i (by rw [← e]; exact hi)
  unfold dOne
  by_cases k01 : gt T N 11 (-1) a = 0 ∨ gt T N 11 (-1) a = 1
  · rw [if_pos k01]
    intro i hi
    unfold dPut at hi
    rw [congrFun (pst (by decide)) i, st_row] at hi
    by_cases hia : i = a.toNat
    · unfold mkE
      have e : (i : Int) = a := by omega
      rw [e]
      unfold gt at k01
      rw [if_pos ha] at k01
      exact decide_eq_true ⟨ha, k01⟩
    · rw [if_neg hia, congrFun (st_fn (by decide)) i] at hi
      exact h i hi
  rw [if_neg k01]
  by_cases z0 : num a ∧ D.2 9 a.toNat ≠ 0
  · rw [if_pos z0]; exact h
  rw [if_neg z0]
  by_cases z2 : gt T N 11 (-1) a = 2
  · rw [if_pos z2]; unfold dRem
    split
    · split
      · exact same (pst (by decide))
      · exact same (pst (by decide))
    · exact h
  rw [if_neg z2]
  by_cases z3 : gt T N 11 (-1) a = 3
  · rw [if_pos z3]; unfold dRes
    split
    · exact same (pst (by decide))
    · exact h
  rw [if_neg z3]
  by_cases z4 : gt T N 11 (-1) a = 4
  · rw [if_pos z4]; exact same (dPnt_ne _ _ _ _ _ _ _ _ _ _ (by decide))
  rw [if_neg z4]
  by_cases z5 : gt T N 11 (-1) a = 5
  · rw [if_pos z5]; unfold dKind
    split
    · exact same (pst (by decide))
    · exact h
  rw [if_neg z5]
  by_cases z6 : gt T N 11 (-1) a = 6
  · rw [if_pos z6]; unfold dNest
    split
    · exact same (pst (by decide))
    · exact h
  rw [if_neg z6]
  by_cases z7 : gt T N 11 (-1) a = 7
  · rw [if_pos z7]; exact same (dPnt_ne _ _ _ _ _ _ _ _ _ _ (by decide))
  rw [if_neg z7]
  have hs : ∀ ok, SO T N (dSet T N D a ok) := by
    intro ok
    unfold dSet
    split
    · split
      · intro i hi
        have hi : st D.2 4 (gt T N 12 (-1) a).toNat (if ok = true then 1 else 3) 4 i = 2 := hi
        rw [st_row] at hi
        by_cases q : i = (gt T N 12 (-1) a).toNat
        · rw [if_pos q] at hi
          cases ok with
          | true => rw [if_pos rfl] at hi; omega
          | false => rw [if_neg (by decide)] at hi; omega
        · rw [if_neg q] at hi; exact h i hi
      · exact same ((pst (by decide)).trans (st_fn (by decide)))
    · exact h
  by_cases z8 : gt T N 11 (-1) a = 8
  · rw [if_pos z8]; exact hs true
  rw [if_neg z8]
  by_cases z9 : gt T N 11 (-1) a = 9
  · rw [if_pos z9]; exact hs false
  rw [if_neg z9]
  by_cases z10 : gt T N 11 (-1) a = 10
  · rw [if_pos z10]; unfold dLevel
    split
    · exact same (pst (by omega))
    · exact h
  rw [if_neg z10]; exact h
theorem uFold_row {T : St} {N q : Nat} (hq : q ≠ 9) (L : List Int) : ∀ C : St, L.foldl (uOne T N) C q = C q := by
  induction L with
  | nil => intro C; rfl
  | cons x L ih =>
    intro C
    rw [List.foldl_cons, ih]
    unfold uOne
    split
    · exact st_fn hq
    · rfl
section ALL
variable {T σ : St} {N p n o : Nat}
theorem a_clear (hm : σ 8 8 = (N : Int)) (hN : N ≤ 160) (hp : 17 ≤ p) (hn : 200 ≤ n) (hd : PD σ p N) : wp (fX3_clear n σ p) (fun σ2 => isP σ2 p ([], C0) ∧ FrP p σ σ2) := by
  -- what is clean already
  have inv : ∀ (σ1 : St) (Z : Nat → Nat → Prop) (k0 j0 : Nat) (v : Int), (∀ k, 4 ≤ k → k ≤ 16 → ∀ j, Z k j → σ1 (p + k) j = C0 k j) → v = C0 k0 j0 → ∀ k, 4 ≤ k → k ≤ 16 → ∀ j, (Z k j ∨ (k = k0 ∧ j = j0)) → st σ1 (p + k0) j0 v (p + k) j = C0 k j := by
    intro σ1 Z k0 j0 v h hv k h1 h2 j hj
    by_cases hk : k = k0
    · subst hk
      rw [st_row]
      by_cases hj0 : j = j0
      · subst hj0; rw [if_pos rfl, hv]
      · rw [if_neg hj0]; exact h k h1 h2 j (hj.resolve_right (fun q => hj0 q.2))
    · rw [st_ne (by omega)]; exact h k h1 h2 j (hj.resolve_right (fun q => hk q.1))
  have l110 : ∀ (lp75 : St → Int → Option St) (i : Nat) (Q : St → Prop), i ≤ 160 → ∀ (c m x2 : Nat) (σ1 : St) (Z : Nat → Nat → Prop), x2 + c = 4 → c < m → (∀ k, 4 ≤ k → k ≤ 16 → ∀ j, Z k j → σ1 (p + k) j = C0 k j) → σ1 p 2 = 0 → FrP p σ σ1 →
      (∀ σ2, (∀ k, 4 ≤ k → k ≤ 16 → ∀ j, (Z k j ∨ (13 + x2 ≤ k ∧ j = i)) → σ2 (p + k) j = C0 k j) → σ2 p 2 = 0 → FrP p σ σ2 → wp (lp75 σ2 ((i : Int) + 1)) Q) → wp (fX3_clear_L110 n lp75 p (i : Int) m σ1 (x2 : Int)) Q := by
    intro lp75 i Q hi c
    induction c with
    | zero =>
      intro m x2 σ1 Z h1 h2 h3 h4 h5 hq
      obtain ⟨m, rfl⟩ : ∃ q, m = q + 1 := ⟨m - 1, by omega⟩
      show wp (fX3_clear_L110s n lp75 p (i : Int) _ σ1 (x2 : Int)) Q
      unfold fX3_clear_L110s
      rw [if_pos (by omega)]
      exact wp_ck (by omega) (by omega) (hq σ1 (fun k h6 h7 j hj => h3 k h6 h7 j (hj.resolve_right (by omega))) h4 h5)
    | succ c ih =>
      intro m x2 σ1 Z h1 h2 h3 h4 h5 hq
      obtain ⟨m, rfl⟩ : ∃ q, m = q + 1 := ⟨m - 1, by omega⟩
      show wp (fX3_clear_L110s n lp75 p (i : Int) (fX3_clear_L110 n lp75 p (i : Int) m) σ1 (x2 : Int)) Q
      unfold fX3_clear_L110s
      rw [if_neg (by omega)]
      refine wp_ra (by omega) (by omega) (wp_wr (by omega) (by omega) (wp_ck (by omega) (by omega) ?_))
      rw [Int.toNat_natCast, Int.toNat_natCast, show p + 13 + x2 = p + (13 + x2) by omega]
      refine ih m (x2 + 1) _ (fun k j => Z k j ∨ (k = 13 + x2 ∧ j = i)) (by omega) (by omega) (inv σ1 Z (13 + x2) i 0 h3 ?_) ?_ (h5.upd (by omega)) (fun σ2 hz => hq σ2 (fun k h6 h7 j hj => hz k h6 h7 j ?_))
      · show 0 = if 13 + x2 = 11 then _ else 0
        rw [if_neg (by omega)]
      · rw [st_ne (by omega)]; exact h4
      · rcases hj with hj | hj
        · exact Or.inl (Or.inl hj)
        · by_cases hk : k = 13 + x2
          · exact Or.inl (Or.inr ⟨hk, hj.2⟩)
          · exact Or.inr ⟨by omega, hj.2⟩
  have l75 : ∀ (c m i : Nat) (σ1 : St), i + c = N + 1 → c < m → (∀ k, 4 ≤ k → k ≤ 16 → ∀ j, (k ≤ 9 ∨ k = 12 ∨ j < i ∨ N < j) → σ1 (p + k) j = C0 k j) → σ1 p 2 = 0 → FrP p σ σ1 → wp (fX3_clear_L75 n p m σ1 (i : Int)) (fun σ2 => isP σ2 p ([], C0) ∧ FrP p σ σ2) := by
    intro c
    induction c with
    | zero =>
      intro m i σ1 h1 h2 h3 h4 h5
      obtain ⟨m, rfl⟩ : ∃ q, m = q + 1 := ⟨m - 1, by omega⟩
      show wp (fX3_clear_L75s n p _ σ1 (i : Int)) _
      unfold fX3_clear_L75s
      rw [h5 8 (by omega), hm, if_pos (by omega)]
      exact wp_some ⟨⟨h4, Nat.zero_le _, rfl, fun k h6 h7 j => h3 k h6 h7 j (by omega)⟩, h5⟩
    | succ c ih =>
      intro m i σ1 h1 h2 h3 h4 h5
      obtain ⟨m, rfl⟩ : ∃ q, m = q + 1 := ⟨m - 1, by omega⟩
      show wp (fX3_clear_L75s n p (fX3_clear_L75 n p m) σ1 (i : Int)) _
      unfold fX3_clear_L75s
      rw [h5 8 (by omega), hm, if_neg (by omega), if_neg (by omega)]
      refine wp_wr (by omega) (by omega) (wp_wr (by omega) (by omega) ?_)
      rw [Int.toNat_natCast]
      have i1 := inv σ1 _ 10 i 0 h3 rfl
      have i2 := inv _ _ 11 i (-2) i1 (by show -2 = if 11 = 11 then (if i < 161 then -2 else 0) else 0; rw [if_pos rfl, if_pos (by omega)])
      refine l110 _ i _ (by omega) 4 n 0 _ _ rfl (by omega) i2 (by rw [st_ne (by omega), st_ne (by omega)]; exact h4) ((h5.upd (by decide)).upd (by decide)) (fun σ2 hz h6 h7 => ?_)
      refine ih m (i + 1) σ2 (by omega) (by omega) (fun k h8 h9 j hj => hz k h8 h9 j ?_) h6 h7
      by_cases hji : j = i
      · by_cases hk : k ≤ 9 ∨ k = 12
        · exact Or.inl (Or.inl (Or.inl (by omega)))
        · by_cases h10 : k = 10
          · exact Or.inl (Or.inl (Or.inr ⟨h10, hji⟩))
          · by_cases h11 : k = 11
            · exact Or.inl (Or.inr ⟨h11, hji⟩)
            · exact Or.inr ⟨by omega, hji⟩
      · exact Or.inl (Or.inl (Or.inl (by omega)))
  have l7 : ∀ (c m i : Nat) (σ1 : St), i + c = N → c < m → (∀ k, 4 ≤ k → k ≤ 16 → ∀ j, ((k ≤ 9 ∧ (j < i ∨ N ≤ j)) ∨ (9 < k ∧ (k = 12 ∨ N < j))) → σ1 (p + k) j = C0 k j) → σ1 p 2 = 0 → FrP p σ σ1 → wp (fX3_clear_L7 n p m σ1 (i : Int)) (fun σ2 => isP σ2 p ([], C0) ∧ FrP p σ σ2) := by
    intro c
    induction c with
    | zero =>
      intro m i σ1 h1 h2 h3 h4 h5
      obtain ⟨m, rfl⟩ : ∃ q, m = q + 1 := ⟨m - 1, by omega⟩
      show wp (fX3_clear_L7s n p _ σ1 (i : Int)) _
      unfold fX3_clear_L7s
      rw [h5 8 (by omega), hm, if_pos (by omega)]
      exact l75 (N + 1) n 0 σ1 (Nat.zero_add _) (by omega) (fun k h6 h7 j hj => h3 k h6 h7 j (by omega)) h4 h5
    | succ c ih =>
      intro m i σ1 h1 h2 h3 h4 h5
      obtain ⟨m, rfl⟩ : ∃ q, m = q + 1 := ⟨m - 1, by omega⟩
      show wp (fX3_clear_L7s n p (fX3_clear_L7 n p m) σ1 (i : Int)) _
      unfold fX3_clear_L7s
      rw [h5 8 (by omega), hm, if_neg (by omega), if_neg (by omega)]
      refine wp_wr (by omega) (by omega) (wp_wrb (by omega) (by omega) (Or.inl rfl) (wp_wrb (by omega) (by omega) (Or.inl rfl) (wp_wr (by omega) (by omega) (wp_wrb (by omega) (by omega) (Or.inl rfl) (wp_wrb (by omega) (by omega) (Or.inl rfl) (wp_ck (by omega) (by omega) ?_))))))
      rw [Int.toNat_natCast]
      have i1 := inv σ1 _ 4 i 0 h3 rfl
      have i2 := inv _ _ 5 i 0 i1 rfl
      have i3 := inv _ _ 6 i 0 i2 rfl
      have i4 := inv _ _ 7 i 0 i3 rfl
      have i5 := inv _ _ 8 i 0 i4 rfl
      have i6 := inv _ _ 9 i 0 i5 rfl
      refine ih m (i + 1) _ (by omega) (by omega) (fun k h6 h7 j hj => i6 k h6 h7 j ?_) (by rw [st_ne (by omega), st_ne (by omega), st_ne (by omega), st_ne (by omega), st_ne (by omega), st_ne (by omega)]; exact h4) ((((((h5.upd (by decide)).upd (by decide)).upd (by decide)).upd (by decide)).upd (by decide)).upd (by decide))
      by_cases hji : j = i ∧ k ≤ 9
      · rcases (show k = 4 ∨ k = 5 ∨ k = 6 ∨ k = 7 ∨ k = 8 ∨ k = 9 by omega) with e | e | e | e | e | e
        · exact Or.inl (Or.inl (Or.inl (Or.inl (Or.inl (Or.inr ⟨e, hji.1⟩)))))
        · exact Or.inl (Or.inl (Or.inl (Or.inl (Or.inr ⟨e, hji.1⟩))))
        · exact Or.inl (Or.inl (Or.inl (Or.inr ⟨e, hji.1⟩)))
        · exact Or.inl (Or.inl (Or.inr ⟨e, hji.1⟩))
        · exact Or.inl (Or.inr ⟨e, hji.1⟩)
        · exact Or.inr ⟨e, hji.1⟩
      · exact Or.inl (Or.inl (Or.inl (Or.inl (Or.inl (Or.inl (by omega))))))
  unfold fX3_clear
  refine wp_pf (l7 N n 0 _ (Nat.zero_add _) (by omega) (fun k h6 h7 j hj => ?_) (by rw [st_row, if_pos rfl]) (fun b hb i => st_ne (by omega)))
  rw [st_ne (by omega)]
  refine hd k h6 h7 j ?_
  unfold bd
  split
  · omega
  · split
    · exact Nat.zero_le _
    · omega
theorem OL_in {i : Nat} (hT : TO T N) (hi : i < N) : gt T N 16 (-1) (i : Int) = T 16 i := by
  unfold gt; rw [if_pos (by omega), Int.toNat_natCast]
theorem inS_fr {σ1 : St} (hf : FrP p σ σ1) (ho : o + 1 < p ∨ p + 16 < o + 1) : inS σ1 o = inS σ o := by
  funext x
  unfold inS
  rw [hf (o + 1) ho]
theorem a_findUndone (hT : TO T N) (ht : TT T σ N) (hp : 17 ≤ p) (hn : 200 ≤ n) (ho : o + 1 < p ∨ p + 16 < o + 1) {C : St} (h : isP σ p ([], C)) : wp (fX3_findUndone n σ p o) (fun σ2 => isP σ2 p ([], ((OL T N).filter (inS σ o)).foldl (uOne T N) C) ∧ FrP p σ σ2) := by
  have hN := ht.2.2
  have key : ∀ (k m i : Nat) (σ1 : St) (C : St), i + k = N → k < m → isP σ1 p ([], C) → FrP p σ σ1 → wp (fX3_findUndone_L2 n p o m σ1 (i : Int)) (fun σ2 => isP σ2 p ([], ((seg (T 16) i k).filter (inS σ o)).foldl (uOne T N) C) ∧ FrP p σ σ2) := by
    intro k
    induction k with
    | zero =>
      intro m i σ1 C h1 h2 h3 h4
      obtain ⟨m, rfl⟩ : ∃ q, m = q + 1 := ⟨m - 1, by omega⟩
      show wp (fX3_findUndone_L2s n p o _ σ1 (i : Int)) _
      unfold fX3_findUndone_L2s
      rw [(ht.fr hp h4).made, if_pos (by omega)]
      exact wp_some ⟨h3, h4⟩
    | succ k ih =>
      intro m i σ1 C h1 h2 h3 h4
      obtain ⟨m, rfl⟩ : ∃ q, m = q + 1 := ⟨m - 1, by omega⟩
      have ht1 := ht.fr hp h4
      show wp (fX3_findUndone_L2s n p o (fX3_findUndone_L2 n p o m) σ1 (i : Int)) _
      unfold fX3_findUndone_L2s
      rw [ht1.made, if_neg (by omega)]
      refine wp_b1e (q_inOrder ht1 _) ?_
      rw [OL_in hT (by omega)]
      refine wp_b1e (q_kindOfA ht1 _) (wp_b1e (q_firstOf ht1 _) ?_)
      show wp _ (fun σ2 => isP σ2 p ([], ((T 16 i :: seg (T 16) (i + 1) k).filter (inS σ o)).foldl (uOne T N) C) ∧ FrP p σ σ2)
      generalize T 16 i = x
      have skip : uOne T N C x = C ∨ inS σ o x = false → wp (ck ((i : Int) + 1) (fun v4 => fX3_findUndone_L2 n p o m σ1 v4)) (fun σ2 => isP σ2 p ([], ((x :: seg (T 16) (i + 1) k).filter (inS σ o)).foldl (uOne T N) C) ∧ FrP p σ σ2) := by
        intro hs
        have e : ((x :: seg (T 16) (i + 1) k).filter (inS σ o)).foldl (uOne T N) C = ((seg (T 16) (i + 1) k).filter (inS σ o)).foldl (uOne T N) C := by
          cases hx : inS σ o x with
          | false => rw [List.filter_cons_of_neg (by rw [hx]; decide)]
          | true =>
            rw [List.filter_cons_of_pos hx, List.foldl_cons, hs.resolve_right (by rw [hx]; decide)]
        rw [e]
        exact wp_ck (by omega) (by omega) (ih m (i + 1) σ1 C (by omega) (by omega) h3 h4)
      have j56 : gt T N 11 (-1) x = 11 ∨ gt T N 11 (-1) x = 12 → wp (fX3_findUndone_J56 n (fX3_findUndone_L2 n p o m) σ1 p o (i : Int) x (gt T N 11 (-1) x) (gt T N 12 (-1) x)) (fun σ2 => isP σ2 p ([], ((x :: seg (T 16) (i + 1) k).filter (inS σ o)).foldl (uOne T N) C) ∧ FrP p σ σ2) := by
        intro hk
        unfold fX3_findUndone_J56
        refine wp_b1e (q_contains σ1 o x) ?_
        rw [inS_fr h4 ho]
        cases hx : inS σ o x with
        | false => rw [if_pos (by rfl)]; exact skip (Or.inr hx)
        | true =>
          rw [if_neg (by decide)]
          refine wp_b1e (q_isNumber _) ?_
          by_cases hne : num (gt T N 12 (-1) x)
          · rw [decide_eq_true hne, if_neg (by decide)]
            have e : ∀ v : Int, v = (if gt T N 11 (-1) x = 11 then 1 else 0) → wp (wrb σ1 (p + 9) 160 (gt T N 12 (-1) x) v (fun σ9 => ck ((i : Int) + 1) (fun v10 => fX3_findUndone_L2 n p o m σ9 v10))) (fun σ2 => isP σ2 p ([], ((x :: seg (T 16) (i + 1) k).filter (inS σ o)).foldl (uOne T N) C) ∧ FrP p σ σ2) := by
              intro v hv
              refine wp_wrb hne.1 (by omega) (by rw [hv]; split; exact Or.inr rfl; exact Or.inl rfl) (wp_ck (by omega) (by omega) ?_)
              have e : ((x :: seg (T 16) (i + 1) k).filter (inS σ o)).foldl (uOne T N) C = ((seg (T 16) (i + 1) k).filter (inS σ o)).foldl (uOne T N) (st C 9 (gt T N 12 (-1) x).toNat v) := by
                rw [List.filter_cons_of_pos hx, List.foldl_cons]
                congr 1
                unfold uOne
                rw [if_pos ⟨hk, hne⟩, hv]
              rw [e]
              exact ih m (i + 1) _ _ (by omega) (by omega) (h3.upd (by decide) (by decide)) (h4.upd (by decide))
            refine wp_if (fun q => ?_) (fun q => ?_)
            · exact e 0 (by rw [if_neg q])
            · exact e 1 (by rw [if_pos (by omega)])
          · rw [decide_eq_false hne, if_pos (by rfl)]
            exact skip (Or.inl (by unfold uOne; rw [if_neg (fun q => hne q.2)]))
      refine wp_if (fun q => j56 (Or.inl q)) (fun q => wp_if (fun q2 => skip (Or.inl ?_)) (fun q2 => j56 (Or.inr (by omega))))
      unfold uOne; rw [if_neg (by omega)]
  have := key N n 0 σ C (Nat.zero_add _) (by omega) h FrP.rf
  exact this
theorem a_doAll (hT : TO T N) (ht : TT T σ N) (hp : 17 ≤ p) (hn : 200 ≤ n) (ho : o + 1 < p ∨ p + 16 < o + 1) (hd : PD σ p N) : wp (fX3_doAll n σ p o) (fun σ2 => isP σ2 p (docOf T N (inS σ o)) ∧ FrP p σ σ2) := by
  have hN := ht.2.2
  unfold fX3_doAll
  refine wp_b1 (a_clear ht.made hN hp hn hd) (fun σ1 h1 => ?_)
  refine wp_b1 (a_findUndone hT (ht.fr hp h1.2) hp hn ho h1.1) (fun σ2 h2 => ?_)
  rw [inS_fr h1.2 ho] at h2
  have f2 := h1.2.tr h2.2
  have key : ∀ (k m i : Nat) (σ3 : St) (D : Dc), i + k = N → k < m → isP σ3 p D → rowOK D → SO T N D → D.1.length ≤ i → FrP p σ σ3 → wp (fX3_doAll_L11 n p o m σ3 (i : Int)) (fun σ2 => isP σ2 p (((seg (T 16) i k).filter (inS σ o)).foldl (dOne T N) D) ∧ FrP p σ σ2) := by
    intro k
    induction k with
    | zero =>
      intro m i σ3 D h1 h2 h3 h4 hso h5 h6
      obtain ⟨m, rfl⟩ : ∃ q, m = q + 1 := ⟨m - 1, by omega⟩
      show wp (fX3_doAll_L11s n p o _ σ3 (i : Int)) _
      unfold fX3_doAll_L11s
      rw [(ht.fr hp h6).made, if_pos (by omega)]
      exact wp_some ⟨h3, h6⟩
    | succ k ih =>
      intro m i σ3 D h1 h2 h3 h4 hso h5 h6
      obtain ⟨m, rfl⟩ : ∃ q, m = q + 1 := ⟨m - 1, by omega⟩
      have ht1 := ht.fr hp h6
      show wp (fX3_doAll_L11s n p o (fX3_doAll_L11 n p o m) σ3 (i : Int)) _
      unfold fX3_doAll_L11s
      rw [ht1.made, if_neg (by omega)]
      refine wp_b1e (q_inOrder ht1 _) ?_
      rw [OL_in hT (by omega)]
      have hx := hT.1 i (by omega)
      show wp _ (fun σ2 => isP σ2 p (((T 16 i :: seg (T 16) (i + 1) k).filter (inS σ o)).foldl (dOne T N) D) ∧ FrP p σ σ2)
      generalize T 16 i = x at hx
      refine wp_b1e (q_contains σ3 o x) ?_
      rw [inS_fr h6 ho]
      cases hs : inS σ o x with
      | false =>
        rw [if_pos (by rfl), List.filter_cons_of_neg (by rw [hs]; decide)]
        exact wp_ck (by omega) (by omega) (ih m (i + 1) σ3 D (by omega) (by omega) h3 h4 hso (by omega) h6)
      | true =>
        rw [if_neg (by decide), List.filter_cons_of_pos hs, List.foldl_cons]
        have hval : 0 ≤ gt T N 14 0 x ∧ gt T N 14 0 x ≤ 65535 := by
          unfold gt; rw [if_pos hx]; exact hT.2 x.toNat (by omega)
        refine wp_b1 (a_one h3 ht1 hp (by omega) hx h4 hso (by omega) hval) (fun σ4 h7 => ?_)
        have hk := dOne_ok (T := T) (N := N) h4 (show num x from ⟨hx.1, by omega⟩)
        exact wp_ck (by omega) (by omega) (ih m (i + 1) σ4 _ (by omega) (by omega) h7.1 hk.1 (hso.keep hx) (by omega) (h6.tr h7.2))
  refine key N n 0 σ2 _ (Nat.zero_add _) (by omega) h2.1 (fun x hx => by cases hx) (fun i hi => ?_) (Nat.le_refl _) f2
  have e : ((OL T N).filter (inS σ o)).foldl (uOne T N) C0 4 = C0 4 := uFold_row (by decide) _ _
  rw [show (([], ((OL T N).filter (inS σ o)).foldl (uOne T N) C0) : Dc).2 4 i = 0 from congrFun e i] at hi
  omega
end ALL

