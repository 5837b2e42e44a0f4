/-! ===== what every document of this law's runs keeps ===== -/
section LD
variable {T : St} {N : Nat} {D : Dc} {a : Int}
theorem foldD {P : Dc → Prop} (L : List Int) : ∀ D : Dc, P D → (∀ D x, x ∈ L → P D → P (dOne T N D x)) → P (L.foldl (dOne T N) D) := by
  induction L with
  | nil => intro D h _; exact h
  | cons x L ih => intro D h hs; exact ih _ (hs D x List.mem_cons_self h) (fun D y hy => hs D y (List.mem_cons_of_mem _ hy))
/-- the levels that are given are 0 or 1 -/
def LvD (D : Dc) : Prop := ∀ k b, 13 ≤ k → k ≤ 16 → D.2 k b = 0 ∨ D.2 k b = 1
theorem LvD.keep (h : LvD D) (hv : gt T N 11 (-1) a = 10 → gt T N 14 0 a = 0 ∨ gt T N 14 0 a = 1) : LvD (dOne T N D a) := by
  have same : ∀ {E : Dc}, (∀ k, 13 ≤ k → E.2 k = D.2 k) → LvD E := fun {E} e k b k1 k2 => by rw [e k k1]; exact h k b k1 k2
  unfold dOne
  by_cases k01 : gt T N 11 (-1) a = 0 ∨ gt T N 11 (-1) a = 1
  · rw [if_pos k01]
    refine same (fun k hk => ?_)
    unfold dPut
    exact (pst (by omega)).trans ((st_fn (by omega)).trans (st_fn (by omega)))
  rw [if_neg k01]
  by_cases z0 : num a ∧ D.2 9 a.toNat ≠ 0
  · rw [if_pos z0]; exact h
  rw [if_neg z0]
  by_cases z2 : gt T N 11 (-1) a = 2
  · rw [if_pos z2]; unfold dRem
    split
    · split
      · exact same (fun k hk => pst (by omega))
      · exact same (fun k hk => pst (by omega))
    · exact h
  rw [if_neg z2]
  by_cases z3 : gt T N 11 (-1) a = 3
  · rw [if_pos z3]; unfold dRes
    split
    · exact same (fun k hk => pst (by omega))
    · exact h
  rw [if_neg z3]
  by_cases z4 : gt T N 11 (-1) a = 4
  · rw [if_pos z4]
    exact same (fun k hk => dPnt_ne _ _ _ _ _ _ _ _ _ _ (by omega))
  rw [if_neg z4]
  by_cases z5 : gt T N 11 (-1) a = 5
  · rw [if_pos z5]; unfold dKind
    split
    · exact same (fun k hk => pst (by omega))
    · exact h
  rw [if_neg z5]
  by_cases z6 : gt T N 11 (-1) a = 6
  · rw [if_pos z6]; unfold dNest
    split
    · exact same (fun k hk => pst (by omega))
    · exact h
  rw [if_neg z6]
  by_cases z7 : gt T N 11 (-1) a = 7
  · rw [if_pos z7]
    exact same (fun k hk => dPnt_ne _ _ _ _ _ _ _ _ _ _ (by omega))
  rw [if_neg z7]
  have hs : ∀ ok, LvD (dSet T N D a ok) := by
    intro ok
    unfold dSet
    split
    · split
      · exact same (fun k hk => pst (by omega))
      · exact same (fun k hk => (pst (by omega)).trans (st_fn (by omega)))
    · exact h
  by_cases z8 : gt T N 11 (-1) a = 8
  · rw [if_pos z8]; exact hs true
  rw [if_neg z8]
  by_cases z9 : gt T N 11 (-1) a = 9
  · rw [if_pos z9]; exact hs false
  rw [if_neg z9]
  by_cases z10 : gt T N 11 (-1) a = 10
  · rw [if_pos z10]
    unfold dLevel
    split
    · intro k b k1 k2
      show st D.2 (13 + (gt T N 13 (-1) a).toNat) (gt T N 12 (-1) a + 1).toNat (gt T N 14 0 a) k b = 0 ∨ st D.2 (13 + (gt T N 13 (-1) a).toNat) (gt T N 12 (-1) a + 1).toNat (gt T N 14 0 a) k b = 1
      unfold st
      split
      · split
        · exact hv z10
        · exact h k b k1 k2
      · exact h k b k1 k2
    · exact h
  rw [if_neg z10]; exact h
theorem LvD.le01 (h : LvD D) (s b : Int) : lev D s b = 0 ∨ lev D s b = 1 := by
  unfold lev
  split
  · exact h _ _ (by omega) (by omega)
  · exact Or.inl rfl
theorem dPnt_inv {P : Int → Prop} (PB : Int → Bool) (lv : Int → Bool) (f l : Int) (g : Int → Int) (hg : ∀ v, P v → P (g v)) (L : List Int) : ∀ (b : Bool) (k : Int) (C : St), (∀ i, P (C 7 i)) → ∀ i, P (dPnt PB lv f l g b k C L 7 i) := by
  induction L with
  | nil => intro b k C h i; exact h i
  | cons x L ih =>
    intro b k C h i
    rw [dPnt_c]
    generalize (if PB x = true then x else k) = bk
    have e : ∀ i, P ((if (b || decide (x = f)) = true ∧ lv bk = true then st C 7 x.toNat (g (C 7 x.toNat)) else C) 7 i) := by
      intro i
      split
      · rw [st_row]
        split
        · exact hg _ (h _)
        · exact h i
      · exact h i
    split
    · exact e i
    · exact ih _ _ _ e i
/-- no bit from 2 + c on -/
def BtD (c : Nat) (D : Dc) : Prop := ∀ i j, c ≤ j → j < 30 → tb (D.2 7 i) (2 + j) = false
theorem BtD.keep {c : Nat} (h : BtD c D) (h4 : gt T N 11 (-1) a = 4 → 0 ≤ gt T N 14 0 a ∧ gt T N 14 0 a < 2) (h7 : gt T N 11 (-1) a = 7 → 0 ≤ gt T N 14 0 a ∧ gt T N 14 0 a < (c : Int)) : BtD c (dOne T N D a) := by
  have same : ∀ {E : Dc}, E.2 7 = D.2 7 → BtD c E := fun {E} e i j j1 j2 => by rw [e]; exact h i j j1 j2
  unfold dOne
  by_cases k01 : gt T N 11 (-1) a = 0 ∨ gt T N 11 (-1) a = 1
  · rw [if_pos k01]
    unfold dPut
    intro i j j1 j2
    show tb (st (st (st D.2 5 a.toNat (if gt T N 11 (-1) a = 1 then 1 else 0)) 4 a.toNat (dSt T N D a)) 7 a.toNat (dBt D.1 D.2 (dAt T N D a)) 7 i) (2 + j) = false
    rw [st_row]
    split
    · unfold dBt
      rw [tb_and]
      have e : tb (if dAt T N D a = 0 then 0 else D.2 7 (D.1.getD (dAt T N D a - 1) 0).toNat) (2 + j) = false := by
        split
        · exact tb_zero _
        · exact h _ j j1 j2
      rw [e, Bool.false_and]
    · rw [st_ne (by decide), st_ne (by decide)]; exact h i j j1 j2
  rw [if_neg k01]
  by_cases z0 : num a ∧ D.2 9 a.toNat ≠ 0
  · rw [if_pos z0]; exact h
  rw [if_neg z0]
  by_cases z2 : gt T N 11 (-1) a = 2
  · rw [if_pos z2]; unfold dRem
    split
    · split
      · exact same (pst (by decide))
      · exact same (pst (by decide))
    · exact h
  rw [if_neg z2]
  by_cases z3 : gt T N 11 (-1) a = 3
  · rw [if_pos z3]; unfold dRes
    split
    · exact same (pst (by decide))
    · exact h
  rw [if_neg z3]
  by_cases z4 : gt T N 11 (-1) a = 4
  · rw [if_pos z4]
    intro i j j1 j2
    refine dPnt_inv (P := fun v => tb v (2 + j) = false) _ _ _ _ _ (fun v hv => ?_) D.1 _ _ _ (fun i => h i j j1 j2) i
    obtain ⟨q, hq⟩ : ∃ q : Nat, gt T N 14 0 a = (q : Int) := ⟨(gt T N 14 0 a).toNat, by have := h4 z4; omega⟩
    have h4' := h4 z4
    show tb (if gt T N 15 0 a ≠ 0 then bor v (bshl 1 (gt T N 14 0 a)) else band v (bxor (bshl 1 (gt T N 14 0 a)) (-1))) (2 + j) = false
    have hv' : tb v (2 + j) = false := hv
    split
    · rw [tb_or, hv', hq, tb_shl (by omega) (by omega), decide_eq_false (by omega)]; rfl
    · rw [tb_and, hv', Bool.false_and]
  rw [if_neg z4]
  by_cases z5 : gt T N 11 (-1) a = 5
  · rw [if_pos z5]; unfold dKind
    split
    · exact same (pst (by decide))
    · exact h
  rw [if_neg z5]
  by_cases z6 : gt T N 11 (-1) a = 6
  · rw [if_pos z6]; unfold dNest
    split
    · exact same (pst (by decide))
    · exact h
  rw [if_neg z6]
  by_cases z7 : gt T N 11 (-1) a = 7
  · rw [if_pos z7]
    intro i j j1 j2
    refine dPnt_inv (P := fun v => tb v (2 + j) = false) _ _ _ _ _ (fun v hv => ?_) D.1 _ _ _ (fun i => h i j j1 j2) i
    obtain ⟨q, hq⟩ : ∃ q : Nat, gt T N 14 0 a = (q : Int) := ⟨(gt T N 14 0 a).toNat, by have := h7 z7; omega⟩
    have h7' := h7 z7
    show tb (bor v (bshl 1 (2 + gt T N 14 0 a))) (2 + j) = false
    have hv' : tb v (2 + j) = false := hv
    rw [tb_or, hv', hq, show (2 : Int) + (q : Int) = ((2 + q : Nat) : Int) by omega, tb_shl (by omega) (by omega), decide_eq_false (by omega)]; rfl
  rw [if_neg z7]
  have hs : ∀ ok, BtD c (dSet T N D a ok) := by
    intro ok
    unfold dSet
    split
    · split
      · exact same (pst (by decide))
      · exact same ((pst (by decide)).trans (st_fn (by decide)))
    · exact h
  by_cases z8 : gt T N 11 (-1) a = 8
  · rw [if_pos z8]; exact hs true
  rw [if_neg z8]
  by_cases z9 : gt T N 11 (-1) a = 9
  · rw [if_pos z9]; exact hs false
  rw [if_neg z9]
  by_cases z10 : gt T N 11 (-1) a = 10
  · rw [if_pos z10]
    unfold dLevel
    split
    · exact same (pst (by omega))
    · exact h
  rw [if_neg z10]; exact h
end LD
section LA
variable {A : St} {N nm nv : Nat}
theorem doc_lv (hI : In1 A N) (h : ∀ a, a < N → A 11 a = 10 → A 14 a = 0 ∨ A 14 a = 1) (S : Int → Bool) : LvD (docOf A N S) := by
  refine foldD _ _ (fun k b k1 k2 => Or.inl ?_) (fun D x hx hD => hD.keep (fun hk => ?_))
  · show ((OL A N).filter S).foldl (uOne A N) C0 k b = 0
    rw [uFold_row (by omega)]
    show (if k = 11 then _ else (0 : Int)) = 0
    rw [if_neg (by omega)]
  · have hr := OLf hI x hx
    rw [gt_i hr] at hk ⊢
    exact h _ (by omega) hk
theorem doc_bt (hI : In1 A N) {c : Nat} (h : ∀ a, a < N → A 11 a = 7 → A 14 a < (c : Int)) (S : Int → Bool) : BtD c (docOf A N S) := by
  refine foldD _ _ (fun i j j1 j2 => ?_) (fun D x hx hD => hD.keep (fun hk => ?_) (fun hk => ?_))
  · show tb (((OL A N).filter S).foldl (uOne A N) C0 7 i) (2 + j) = false
    rw [uFold_row (by omega)]
    exact tb_zero _
  · have hr := OLf hI x hx
    rw [gt_i hr] at hk ⊢
    exact (hI.2.2.2.1 x.toNat (by omega)).2.2.2.2.2.2.2.2.1 hk
  · have hr := OLf hI x hx
    rw [gt_i hr] at hk ⊢
    have := (hI.2.2.2.1 x.toNat (by omega)).2.2.2.2.2.2.2.2.2.1 hk
    have := h _ (by omega) hk
    omega
end LA
