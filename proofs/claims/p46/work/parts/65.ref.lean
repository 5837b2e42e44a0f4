/-! ===== the reference's document ===== -/
def TV (T : St) (N : Nat) : Prop := ∀ a, a < N → (0 ≤ T 9 a ∧ T 9 a < 4) ∧ (1 ≤ T 10 a ∧ T 10 a ≤ 160) ∧ (0 ≤ T 11 a ∧ T 11 a ≤ 12) ∧ isB (T 15 a) ∧ (0 ≤ T 14 a ∧ T 14 a ≤ 65535) ∧
  ((T 11 a = 0 ∨ T 11 a = 1) → -1 ≤ T 12 a ∧ T 12 a < (a : Int) ∧ (0 ≤ T 12 a → mkE T N (T 12 a) = true)) ∧
  ((T 11 a = 2 ∨ T 11 a = 3) → 0 ≤ T 12 a ∧ T 12 a < (a : Int) ∧ mkE T N (T 12 a) = true) ∧
  ((T 11 a = 4 ∨ T 11 a = 7) → 0 ≤ T 12 a ∧ T 12 a < (a : Int) ∧ mkE T N (T 12 a) = true ∧ 0 ≤ T 13 a ∧ T 13 a < (a : Int) ∧ mkE T N (T 13 a) = true) ∧
  (T 11 a = 4 → 0 ≤ T 14 a ∧ T 14 a < 2) ∧ (T 11 a = 7 → 0 ≤ T 14 a ∧ T 14 a < 20) ∧
  ((T 11 a = 5 ∨ T 11 a = 6 ∨ T 11 a = 10) → -1 ≤ T 12 a ∧ T 12 a < (a : Int) ∧ (0 ≤ T 12 a → T 11 (T 12 a).toNat = 1)) ∧
  (T 11 a = 6 → T 13 a = -2 ∨ (-1 ≤ T 13 a ∧ T 13 a < (a : Int) ∧ (0 ≤ T 13 a → T 11 (T 13 a).toNat = 1))) ∧
  (T 11 a = 10 → 0 < T 13 a ∧ T 13 a < 4 ∧ 0 ≤ T 14 a ∧ T 14 a ≤ 2) ∧
  ((T 11 a = 8 ∨ T 11 a = 9 ∨ T 11 a = 11 ∨ T 11 a = 12) → 0 ≤ T 12 a ∧ T 12 a < (a : Int))
def BR (x m c : Int) : Prop := (∀ j, j < 2 → tb x j = tb m j) ∧ ∀ j, j < 20 → tb x (2 + j) = tb c j
def AC (ab : Nat → Int) : Prop := ∃ rk : Int → Nat, ∀ b : Int, -1 ≤ b → b < 160 → -1 ≤ ab (b + 1).toNat → ab (b + 1).toNat < 160 → rk (ab (b + 1).toNat) < rk b
def DI (T : St) (N : Nat) (D : Dc) : Prop := D.1.Nodup ∧ (∀ x, x ∈ D.1 → mkE T N x = true) ∧ (∀ x, x ∈ D.1 → (D.2 4 x.toNat = 1 ∨ D.2 4 x.toNat = 2 ∨ D.2 4 x.toNat = 3) ∧ D.2 5 x.toNat = (if T 11 x.toNat = 1 then 1 else 0)) ∧ (∀ i : Nat, (i : Int) ∉ D.1 → D.2 4 i = 0 ∧ D.2 5 i = 0) ∧ (∀ i, isB (D.2 8 i) ∧ (D.2 8 i ≠ 0 → i < N ∧ T 11 i = 2)) ∧ (∀ i, isB (D.2 6 i)) ∧ (∀ i, isB (D.2 9 i)) ∧ (∀ b, b < 161 → D.2 11 b = -2 ∨ (-1 ≤ D.2 11 b ∧ D.2 11 b < (N : Int) ∧ (0 ≤ D.2 11 b → T 11 (D.2 11 b).toNat = 1))) ∧ AC (D.2 11)
theorem mkE_num {T : St} {N : Nat} {x : Int} (h : mkE T N x = true) : (0 ≤ x ∧ x < (N : Int)) ∧ (T 11 x.toNat = 0 ∨ T 11 x.toNat = 1) := of_decide_eq_true h
section REF
variable {T σ : St} {N n : Nat} {D : Dc}
theorem DI.row (hd : DI T N D) (hN : N ≤ 160) {x : Int} (hx : x ∈ D.1) : num x ∧ x < (N : Int) := by
  have := mkE_num (hd.2.1 x hx)
  exact ⟨⟨this.1.1, by omega⟩, this.1.2⟩
theorem brk_shown (hd : DI T N D) (hN : N ≤ 160) {x : Int} (hx : x ∈ D.1) : brkB D x = (decide (T 11 x.toNat = 1) && shownB D x) := by
  have hn := (hd.row hN hx).1
  have h5 := (hd.2.2.1 x hx).2
  unfold brkB shownB
  by_cases q : T 11 x.toNat = 1
  · rw [if_pos q] at h5
    rw [decide_eq_true q, Bool.true_and]
    refine decide_eq_decide.mpr ⟨fun z => ⟨z.1, z.2.2.1, z.2.2.2⟩, fun z => ⟨z.1, by omega, z.2.1, z.2.2⟩⟩
  · rw [if_neg q] at h5
    rw [decide_eq_false q, Bool.false_and, decide_eq_false (fun z => z.2.1 h5)]
def bK (P : Int → Bool) : List Int → Int → Nat → Int
  | [], acc, _ => acc
  | x :: _, acc, 0 => if P x = true then x else acc
  | x :: L, acc, k + 1 => bK P L (if P x = true then x else acc) k
theorem bK_blk (P : Int → Bool) (e : Int) (L : List Int) : ∀ acc, e ∈ L → runL (blkS P e) (fun _ => -1) acc L = bK P L acc (ix e L) := by
  induction L with
  | nil => intro acc h; cases h
  | cons x L ih =>
    intro acc h
    by_cases hx : x = e
    · rw [runL_in (r := if P x = true then x else acc) (if_pos hx)]
      show _ = bK P (x :: L) acc (if x = e then 0 else ix e L + 1)
      rw [if_pos hx]; rfl
    · rw [runL_go (s' := if P x = true then x else acc) (if_neg hx), ih _ ((List.mem_cons.mp h).resolve_left (fun q => hx q.symm))]
      show _ = bK P (x :: L) acc (if x = e then 0 else ix e L + 1)
      rw [if_neg hx]; rfl
theorem bK_in (P : Int → Bool) (L : List Int) : ∀ acc k, bK P L acc k = acc ∨ bK P L acc k ∈ L := by
  induction L with
  | nil => intro acc k; exact Or.inl rfl
  | cons x L ih =>
    intro acc k
    have hx : (if P x = true then x else acc) = acc ∨ (if P x = true then x else acc) = x := by split; exact Or.inr rfl; exact Or.inl rfl
    cases k with
    | zero =>
      rcases hx with q | q
      · exact Or.inl q
      · exact Or.inr (by show (if P x = true then x else acc) ∈ x :: L; rw [q]; exact List.mem_cons_self)
    | succ k =>
      show bK P L (if P x = true then x else acc) k = acc ∨ bK P L (if P x = true then x else acc) k ∈ x :: L
      rcases ih (if P x = true then x else acc) k with q | q
      · rw [q]; exact hx.imp id (fun z => by rw [z]; exact List.mem_cons_self)
      · exact Or.inr (List.mem_cons_of_mem _ q)
theorem blk_in (hd : DI T N D) (hN : N ≤ 160) (e : Int) : -1 ≤ blk D e ∧ blk D e < 160 := by
  have key : ∀ (L : List Int) acc, (-1 ≤ acc ∧ acc < 160) → (∀ x, x ∈ L → num x) → -1 ≤ runL (blkS (brkB D) e) (fun _ => (-1 : Int)) acc L ∧ runL (blkS (brkB D) e) (fun _ => (-1 : Int)) acc L < 160 := by
    intro L
    induction L with
    | nil => intro acc _ _; show (-1 : Int) ≤ -1 ∧ (-1 : Int) < 160; exact ⟨by decide, by decide⟩
    | cons x L ih =>
      intro acc ha hx
      have h1 : -1 ≤ (if brkB D x = true then x else acc) ∧ (if brkB D x = true then x else acc) < 160 := by
        have := hx x List.mem_cons_self
        split
        · omega
        · exact ha
      by_cases he : x = e
      · rw [runL_in (r := if brkB D x = true then x else acc) (if_pos he)]; exact h1
      · rw [runL_go (s' := if brkB D x = true then x else acc) (if_neg he)]
        exact ih _ h1 (fun y hy => hx y (List.mem_cons_of_mem _ hy))
  exact key D.1 (-1) ⟨by decide, by decide⟩ (fun x hx => (hd.row hN hx).1)
end REF

