/-! ===== decide, undo, redo ===== -/
section UNDO
variable {σ τ A : St} {N nm nv n s : Nat} {D : Dc} {S : Int → Bool} {k x y z p : Int}
def okD (A : St) (N s : Nat) (w : Int) : Prop := (openB A N (docOf A N (Hs A s)) w = true ∧ lev (docOf A N (Hs A s)) (s : Int) (blk (docOf A N (Hs A s)) (elemOf A N w)) = 0) ∧ N < 160
theorem okx (hN : N < 160) (hs : s < 4) (hk : k = 8 ∨ k = 9 ∨ k = 11 ∨ k = 12) (hx : Hs A s x = true) : okM A N s k x (-1) 0 0 := by
  refine ⟨⟨hN, hs⟩, by omega, Or.inl rfl, by omega, fun g => ?_, fun g => ?_, fun g => ?_, fun g => ?_, fun g => ?_, fun g => ?_, fun g => ?_, fun g => ?_, fun _ => hx⟩ <;> (exfalso; omega)
theorem rmx (hk : k = 8 ∨ k = 9 ∨ k = 11 ∨ k = 12) (c : Int) : rmap k x (-1) 0 0 x 0 0 0 0 c :=
  ⟨fun _ => rfl, fun g => by omega, fun g => by omega, fun g => by omega, fun g => by omega, fun g => by omega, fun g => by omega, fun g => by omega⟩
/-- the last act that may be undone, redone -/
def uS (A : St) (s : Nat) (D : Dc) (acc a : Int) : Int := if A 9 a.toNat = (s : Int) ∧ A 11 a.toNat ≤ 7 ∧ D.2 9 a.toNat = 0 then a else acc
def rS (A : St) (s : Nat) (D : Dc) (q : Int × Int) (a : Int) : Int × Int := if A 9 a.toNat = (s : Int) ∧ A 11 a.toNat = 11 ∧ D.2 9 (A 12 a.toNat).toNat ≠ 0 then (a, 0) else if A 9 a.toNat = (s : Int) ∧ A 11 a.toNat ≤ 7 then (q.1, 1) else q
def rV (A : St) (q : Int × Int) : Int := if q.1 = -1 ∨ q.2 ≠ 0 then -1 else A 12 q.1.toNat
theorem rS_1 {acc : Int × Int} {a : Int} (g1 : A 9 a.toNat = (s : Int)) (g2 : A 11 a.toNat ≤ 7) : rS A s D acc a = (acc.1, 1) := by
  unfold rS; rw [if_neg (fun w => by have := w.2.1; omega), if_pos ⟨g1, g2⟩]
theorem rS_2 {acc : Int × Int} {a : Int} (h : A 9 a.toNat = (s : Int) ∧ A 11 a.toNat = 11 ∧ D.2 9 (A 12 a.toNat).toNat ≠ 0) : rS A s D acc a = (a, 0) := if_pos h
theorem rS_3 {acc : Int × Int} {a : Int} (h : ¬ (A 9 a.toNat = (s : Int) ∧ A 11 a.toNat = 11 ∧ D.2 9 (A 12 a.toNat).toNat ≠ 0)) (h2 : ¬ (A 9 a.toNat = (s : Int) ∧ A 11 a.toNat ≤ 7)) : rS A s D acc a = acc := by
  unfold rS; rw [if_neg h, if_neg h2]
theorem OL_take (i : Nat) (hi : i < N) : (OL A N).take (i + 1) = (OL A N).take i ++ [A 16 i] := by
  have e : (OL A N)[i]? = some (A 16 i) := by
    have := seg_get (A 16) N 0 i
    rw [if_pos hi, Nat.zero_add] at this; exact this
  rw [List.take_succ, e]; rfl
theorem c_made (hI : Inv A N nm nv) (hC : Cl σ A N nm nv) (hs : s < 4) {a : Int} (ha : 0 ≤ a ∧ a < (N : Int)) : fX5_madeAndHas σ (20 + 40 * s) a = some (b2i (decide (A 9 a.toNat = (s : Int)) && Hs A s a)) := by
  have w := hC.site hs
  unfold fX5_madeAndHas
  rw [b1_ok (q_siteOf hC.1 a), gt_i ha, w.1]
  by_cases q : A 9 a.toNat = (s : Int)
  · rw [if_neg (fun g => g q), b1_ok (q_contains σ _ a), w.has, decide_eq_true q]
    cases Hs A s a <;> rfl
  · rw [if_pos q, decide_eq_false q]; rfl
theorem c_lastU (hI : Inv A N nm nv) (hC : Cl σ A N nm nv) (hP : isP σ (20 + 40 * s + 10) (docOf A N (Hs A s))) (hs : s < 4) (hn : 200 ≤ n) : fX5_lastNotUndone n σ (20 + 40 * s) (20 + 40 * s + 10) = some (((OL A N).filter (Hs A s)).foldl (uS A s (docOf A N (Hs A s))) (-1)) := by
  have hN := hI.1.2.1
  have to := hI.1.to
  have key1 : ∀ k m : Nat, k ≤ N → k < m → fX5_lastNotUndone_L10 n σ (20 + 40 * s) (20 + 40 * s + 10) m ((k : Int) - 1) = some ((((OL A N).take k).filter (Hs A s)).foldl (uS A s (docOf A N (Hs A s))) (-1)) := by
    intro k
    induction k with
    | zero =>
      intro m _ hm
      obtain ⟨m, rfl⟩ : ∃ q, m = q + 1 := ⟨m - 1, by omega⟩
      unfold fX5_lastNotUndone_L10
      rw [lpR_s]
      unfold fX5_lastNotUndone_L10s
      rw [if_pos (by omega), List.take_zero]; rfl
    | succ k ih =>
      intro m hk hm
      obtain ⟨m, rfl⟩ : ∃ q, m = q + 1 := ⟨m - 1, by omega⟩
      unfold fX5_lastNotUndone_L10
      rw [lpR_s]
      have ih2 := ih m (by omega) (by omega)
      unfold fX5_lastNotUndone_L10 at ih2
      generalize lpR (fun _ => none) (fX5_lastNotUndone_L10s n σ (20 + 40 * s) (20 + 40 * s + 10)) m = lp at ih2
      have ha := to.1 k (by omega)
      unfold fX5_lastNotUndone_L10s
      rw [if_neg (by omega), show ((k + 1 : Nat) : Int) - 1 = (k : Int) by omega, b1_ok (q_inOrder hC.1 _), OL_in to (by omega), OL_take k (by omega), List.filter_append, List.foldl_append, b1_ok (c_made hI hC hs ha), ck_ok (by omega) (by omega), show (k : Int) + (-1) = (k : Int) - 1 by omega, ih2]
      generalize (((OL A N).take k).filter (Hs A s)).foldl (uS A s (docOf A N (Hs A s))) (-1) = acc
      cases hh : Hs A s (A 16 k) with
      | false =>
        rw [Bool.and_false, if_pos (by rfl), List.filter_cons_of_neg (by rw [hh]; decide)]; rfl
      | true =>
        rw [Bool.and_true, List.filter_cons_of_pos (by rw [hh]), List.filter_nil]
        show _ = some (uS A s (docOf A N (Hs A s)) acc (A 16 k))
        unfold uS
        by_cases g1 : A 9 (A 16 k).toNat = (s : Int)
        · rw [decide_eq_true g1, if_neg (by decide), b1_ok (q_isUndoable hC.1 _)]
          by_cases g2 : A 11 (A 16 k).toNat ≤ 7
          · rw [decide_eq_true ⟨ha, g2⟩, if_neg (by decide), b1_ok (q_wasUndone hP _)]
            by_cases g3 : (docOf A N (Hs A s)).2 9 (A 16 k).toNat = 0
            · rw [decide_eq_false (fun w => w.2 g3), if_neg (by decide), if_pos ⟨g1, g2, g3⟩]
            · rw [decide_eq_true ⟨show 0 ≤ A 16 k ∧ A 16 k < 160 by omega, g3⟩, if_pos (by decide), if_neg (fun w => g3 w.2.2)]
          · rw [decide_eq_false (fun w => g2 w.2), if_pos (by rfl), if_neg (fun w => g2 w.2.1)]
        · rw [decide_eq_false g1, if_pos (by rfl), if_neg (fun w => g1 w.1)]
  have := key1 N n (Nat.le_refl _) (by omega)
  unfold fX5_lastNotUndone
  rw [hC.1.made, ck_ok (by omega) (by omega), this, List.take_of_length_le (by rw [show (OL A N).length = N from seg_len _ _ _]; exact Nat.le_refl _)]
theorem c_lastR (hI : Inv A N nm nv) (hC : Cl σ A N nm nv) (hP : isP σ (20 + 40 * s + 10) (docOf A N (Hs A s))) (hs : s < 4) (hn : 200 ≤ n) : fX5_lastToRedo n σ (20 + 40 * s) (20 + 40 * s + 10) = some (rV A (((OL A N).filter (Hs A s)).foldl (rS A s (docOf A N (Hs A s))) (-1, 0))) := by
  have hN := hI.1.2.1
  have to := hI.1.to
  have key1 : ∀ k m : Nat, k ≤ N → k < m → fX5_lastToRedo_L10 n σ (20 + 40 * s) (20 + 40 * s + 10) m ((k : Int) - 1) = some (rV A ((((OL A N).take k).filter (Hs A s)).foldl (rS A s (docOf A N (Hs A s))) (-1, 0))) := by
    intro k
    induction k with
    | zero =>
      intro m _ hm
      obtain ⟨m, rfl⟩ : ∃ q, m = q + 1 := ⟨m - 1, by omega⟩
      unfold fX5_lastToRedo_L10
      rw [lpR_s]
      unfold fX5_lastToRedo_L10s
      rw [if_pos (by omega), List.take_zero]; rfl
    | succ k ih =>
      intro m hk hm
      obtain ⟨m, rfl⟩ : ∃ q, m = q + 1 := ⟨m - 1, by omega⟩
      unfold fX5_lastToRedo_L10
      rw [lpR_s]
      have ih2 := ih m (by omega) (by omega)
      unfold fX5_lastToRedo_L10 at ih2
      generalize lpR (fun _ => none) (fX5_lastToRedo_L10s n σ (20 + 40 * s) (20 + 40 * s + 10)) m = lp at ih2
      have ha := to.1 k (by omega)
      have v14 := fun g => (hI.1.2.2.2.1 (A 16 k).toNat (by omega)).2.2.2.2.2.2.2.2.2.2.2.2.2 (Or.inr (Or.inr (Or.inl g)))
      unfold fX5_lastToRedo_L10s
      rw [if_neg (by omega), show ((k + 1 : Nat) : Int) - 1 = (k : Int) by omega, b1_ok (q_inOrder hC.1 _), OL_in to (by omega), OL_take k (by omega), List.filter_append, List.foldl_append, b1_ok (c_made hI hC hs ha), ck_ok (by omega) (by omega), show (k : Int) + (-1) = (k : Int) - 1 by omega, ih2]
      generalize (((OL A N).take k).filter (Hs A s)).foldl (rS A s (docOf A N (Hs A s))) (-1, 0) = acc
      cases hh : Hs A s (A 16 k) with
      | false =>
        rw [Bool.and_false, if_neg (by decide), List.filter_cons_of_neg (by rw [hh]; decide)]; rfl
      | true =>
        rw [Bool.and_true, List.filter_cons_of_pos (by rw [hh]), List.filter_nil]
        show _ = some (rV A (rS A s (docOf A N (Hs A s)) acc (A 16 k)))
        by_cases g1 : A 9 (A 16 k).toNat = (s : Int)
        · rw [decide_eq_true g1, if_pos (by decide), b1_ok (q_isUndoable hC.1 _)]
          by_cases g2 : A 11 (A 16 k).toNat ≤ 7
          · rw [decide_eq_true ⟨ha, g2⟩, if_neg (by decide), rS_1 g1 g2]
            unfold rV; rw [if_pos (Or.inr (show (1 : Int) ≠ 0 by decide))]
          · rw [decide_eq_false (fun w => g2 w.2), if_pos (by rfl), b1_ok (q_kindOfA hC.1 _), gt_i ha]
            by_cases g3 : A 11 (A 16 k).toNat = 11
            · have w := v14 g3
              clear v14
              rw [if_neg (fun h => h g3), b1_ok (q_firstOf hC.1 _), gt_i ha, b1_ok (q_wasUndone hP _)]
              by_cases g4 : (docOf A N (Hs A s)).2 9 (A 12 (A 16 k).toNat).toNat = 0
              · rw [decide_eq_false (fun w => w.2 g4), if_pos (by rfl), rS_3 (fun w => w.2.2 g4) (fun w => g2 w.2)]
              · rw [decide_eq_true ⟨show 0 ≤ A 12 (A 16 k).toNat ∧ A 12 (A 16 k).toNat < 160 by omega, g4⟩, if_neg (by decide), rS_2 ⟨g1, g3, g4⟩, b1_ok (q_firstOf hC.1 _), gt_i ha]
                unfold rV
                rw [if_neg (by
                  show ¬ (A 16 k = -1 ∨ (0 : Int) ≠ 0)
                  omega)]
            · rw [if_pos g3, rS_3 (fun w => g3 w.2.1) (fun w => g2 w.2)]
        · rw [decide_eq_false g1, if_neg (by decide), rS_3 (fun w => g1 w.1) (fun w => g1 w.1)]
  have := key1 N n (Nat.le_refl _) (by omega)
  unfold fX5_lastToRedo
  rw [hC.1.made, ck_ok (by omega) (by omega), this, List.take_of_length_le (by rw [show (OL A N).length = N from seg_len _ _ _]; exact Nat.le_refl _)]
theorem fl_len (S : Int → Bool) : ((OL A N).filter S).length ≤ N := by
  have h2 : ((OL A N).filter S).length ≤ (OL A N).length := List.length_filter_le _ _
  have h3 : (OL A N).length = N := seg_len _ _ _
  omega
theorem uS_in (L : List Int) : ∀ acc : Int, L.foldl (uS A s D) acc = acc ∨ L.foldl (uS A s D) acc ∈ L := by
  induction L with
  | nil => intro acc; exact Or.inl rfl
  | cons a L ih =>
    intro acc
    rw [List.foldl_cons]
    rcases ih (uS A s D acc a) with q | q
    · rw [q]; unfold uS
      split
      · exact Or.inr List.mem_cons_self
      · exact Or.inl rfl
    · exact Or.inr (List.mem_cons_of_mem _ q)
theorem rS_in (L : List Int) : ∀ acc : Int × Int, (L.foldl (rS A s D) acc).1 = acc.1 ∨ ((L.foldl (rS A s D) acc).1 ∈ L ∧ A 11 (L.foldl (rS A s D) acc).1.toNat = 11) := by
  induction L with
  | nil => intro acc; exact Or.inl rfl
  | cons a L ih =>
    intro acc
    rw [List.foldl_cons]
    rcases ih (rS A s D acc a) with q | q
    · rw [q]; unfold rS
      split
      · rename_i g; exact Or.inr ⟨List.mem_cons_self, g.2.1⟩
      · split
        · exact Or.inl rfl
        · exact Or.inl rfl
    · exact Or.inr ⟨List.mem_cons_of_mem _ q.1, q.2⟩
end UNDO

