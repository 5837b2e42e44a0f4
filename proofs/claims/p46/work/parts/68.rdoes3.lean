/-! ===== marks, comments and elements in the reference ===== -/
def accB (P : Int → Bool) : Int → List Int → Nat → Int
  | acc, _, 0 => acc
  | acc, [], _ + 1 => acc
  | acc, x :: L, k + 1 => accB P (if P x = true then x else acc) L k
theorem bK_acc (P : Int → Bool) (L : List Int) : ∀ acc k, k < L.length → bK P L acc k = if P (L.getD k 0) = true then L.getD k 0 else accB P acc L k := by
  induction L with
  | nil => intro acc k h; exact absurd h (Nat.not_lt_zero k)
  | cons x L ih =>
    intro acc k h
    cases k with
    | zero => rfl
    | succ k => exact ih _ k (Nat.lt_of_succ_lt_succ h)
theorem accB_s (P : Int → Bool) (L : List Int) : ∀ acc k, k < L.length → accB P acc L (k + 1) = if P (L.getD k 0) = true then L.getD k 0 else accB P acc L k := by
  induction L with
  | nil => intro acc k h; exact absurd h (Nat.not_lt_zero k)
  | cons x L ih =>
    intro acc k h
    cases k with
    | zero =>
      show accB P (if P x = true then x else acc) L 0 = if P x = true then x else acc
      cases L <;> rfl
    | succ k => exact ih _ k (Nat.lt_of_succ_lt_succ h)
theorem accB_0 (P : Int → Bool) (acc : Int) (L : List Int) : accB P acc L 0 = acc := by cases L <;> rfl
theorem dPnt_skip (P : Int → Bool) (lv : Int → Bool) (f l : Int) (g : Int → Int) (C : St) (L : List Int) : ∀ acc, f ∈ L → dPnt P lv f l g false acc C L = if ix l L < ix f L then C else dPnt P lv f l g true (accB P acc L (ix f L)) C (L.drop (ix f L)) := by
  induction L with
  | nil => intro acc h; cases h
  | cons x L ih =>
    intro acc h
    by_cases hf : x = f
    · have e : ix f (x :: L) = 0 := if_pos hf
      rw [e, if_neg (Nat.not_lt_zero _), accB_0]
      show dPnt P lv f l g false acc C (x :: L) = dPnt P lv f l g true acc C (x :: L)
      rw [dPnt_c, dPnt_c, decide_eq_true hf]; rfl
    · have e : ix f (x :: L) = ix f L + 1 := if_neg hf
      have hm := (List.mem_cons.mp h).resolve_left (fun q => hf q.symm)
      have e3 : (if (false || decide (x = f)) = true ∧ lv (if P x = true then x else acc) = true then st C 7 x.toNat (g (C 7 x.toNat)) else C) = C := by
        rw [decide_eq_false hf]; exact if_neg (fun q => Bool.noConfusion q.1)
      rw [e, dPnt_c, e3, decide_eq_false hf, Bool.or_false]
      by_cases hl : x = l
      · have e2 : ix l (x :: L) = 0 := if_pos hl
        rw [if_pos hl, e2, if_pos (Nat.succ_pos _)]
      · have e2 : ix l (x :: L) = ix l L + 1 := if_neg hl
        rw [if_neg hl, e2, ih _ hm]
        by_cases hlt : ix l L < ix f L
        · rw [if_pos hlt, if_pos (by omega)]
        · rw [if_neg hlt, if_neg (show ¬ (ix l L + 1 < ix f L + 1) from by omega)]; rfl
theorem nodup_ix {L : List Int} (h : L.Nodup) : ∀ {k : Nat}, k < L.length → ix (L.getD k 0) L = k := by
  induction L with
  | nil => intro k hk; exact absurd hk (Nat.not_lt_zero k)
  | cons x L ih =>
    rw [List.nodup_cons] at h
    intro k hk
    cases k with
    | zero => exact if_pos rfl
    | succ k =>
      have hk2 : k < L.length := Nat.lt_of_succ_lt_succ hk
      show (if x = L.getD k 0 then 0 else ix (L.getD k 0) L + 1) = k + 1
      rw [if_neg (fun q => h.1 (by rw [q, List.getD_eq_getElem?_getD, List.getElem?_eq_getElem hk2]; exact List.getElem_mem hk2)), ih h.2 hk2]
theorem drop_cons {L : List Int} {k : Nat} (h : k < L.length) : L.drop k = L.getD k 0 :: L.drop (k + 1) := by
  rw [List.drop_eq_getElem_cons h, List.getD_eq_getElem?_getD, List.getElem?_eq_getElem h]; rfl
theorem getD_mem {L : List Int} {k : Nat} (h : k < L.length) : L.getD k 0 ∈ L := by
  rw [List.getD_eq_getElem?_getD, List.getElem?_eq_getElem h]; exact List.getElem_mem h
theorem getD_ix {L : List Int} {e : Int} (h : e ∈ L) : L.getD (ix e L) 0 = e := by
  rw [List.getD_eq_getElem?_getD, ix_get h]; rfl
theorem DI.congr7 {T : St} {N : Nat} {D : Dc} {C : St} (h : DI T N D) (hC : ∀ q, q ≠ 7 → C q = D.2 q) : DI T N (D.1, C) := by
  obtain ⟨h1, h2, h3, h4, h5, h6, h7, h8, h9⟩ := h
  refine ⟨h1, h2, fun x hx => ?_, fun i hi => ?_, fun i => ?_, fun i => ?_, fun i => ?_, fun b hb => ?_, ?_⟩
  · show (C 4 _ = 1 ∨ C 4 _ = 2 ∨ C 4 _ = 3) ∧ C 5 _ = _
    rw [hC 4 (by decide), hC 5 (by decide)]; exact h3 x hx
  · show C 4 i = 0 ∧ C 5 i = 0
    rw [hC 4 (by decide), hC 5 (by decide)]; exact h4 i hi
  · show isB (C 8 i) ∧ (C 8 i ≠ 0 → _)
    rw [hC 8 (by decide)]; exact h5 i
  · show isB (C 6 i)
    rw [hC 6 (by decide)]; exact h6 i
  · show isB (C 9 i)
    rw [hC 9 (by decide)]; exact h7 i
  · show C 11 b = -2 ∨ _
    rw [hC 11 (by decide)]
    show D.2 11 b = -2 ∨ (-1 ≤ C 11 b ∧ C 11 b < (N : Int) ∧ (0 ≤ C 11 b → T 11 (C 11 b).toNat = 1))
    rw [hC 11 (by decide)]; exact h8 b hb
  · show AC (C 11)
    rw [hC 11 (by decide)]; exact h9
theorem BR_mark {x m c : Int} (h : BR x m c) {k : Nat} (hk : k < 2) : BR (bor x (bshl 1 (k : Int))) (bor m (bshl 1 (k : Int))) c ∧ BR (band x (bxor (bshl 1 (k : Int)) (-1))) (band m (bxor (bshl 1 (k : Int)) (-1))) c := by
  refine ⟨⟨fun j hj => ?_, fun j hj => ?_⟩, ⟨fun j hj => ?_, fun j hj => ?_⟩⟩
  · rw [tb_or, tb_or, h.1 j hj]
  · rw [tb_or, tb_shl (by omega) (by omega), decide_eq_false (by omega), Bool.or_false]; exact h.2 j hj
  · rw [tb_and, tb_and, h.1 j hj]
  · rw [tb_and, tb_not _ (by omega), tb_shl (by omega) (by omega), decide_eq_false (by omega), Bool.not_false, Bool.and_true]; exact h.2 j hj
theorem BR_com {x m c : Int} (h : BR x m c) {k : Nat} (hk : k < 20) : BR (bor x (bshl 1 (2 + (k : Int)))) m (bor c (bshl 1 (k : Int))) := by
  have e : (2 + (k : Int)) = ((2 + k : Nat) : Int) := by omega
  refine ⟨fun j hj => ?_, fun j hj => ?_⟩
  · rw [e, tb_or, tb_shl (by omega) (by omega), decide_eq_false (by omega), Bool.or_false]; exact h.1 j hj
  · rw [e, tb_or, tb_or, tb_shl (by omega) (by omega), tb_shl (by omega) (by omega), h.2 j hj]
    congr 1
    exact decide_eq_decide.mpr (by omega)
section RDOES2
variable {T σ : St} {N n a : Nat} {D : Dc}
end RDOES2

