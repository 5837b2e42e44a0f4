/-! ===== the book's and the sets' answers; more of a paper's ===== -/
def TT (T σ : St) (N : Nat) : Prop := (∀ k, 8 ≤ k → k ≤ 16 → ∀ i, σ k i = T k i) ∧ T 8 8 = (N : Int) ∧ N ≤ 160
def gt (T : St) (N r : Nat) (d x : Int) : Int := if 0 ≤ x ∧ x < (N : Int) then T r x.toNat else d
def inS (σ : St) (a : Nat) (x : Int) : Bool := decide (num x ∧ σ (a + 1) x.toNat ≠ 0)
section BOOK
variable {T σ : St} {N : Nat}
theorem TT.made (h : TT T σ N) : σ 8 8 = (N : Int) := by rw [h.1 8 (by decide) (by decide)]; exact h.2.1
theorem q_inOrder (h : TT T σ N) (x : Int) : fX1_inOrder σ x = some (gt T N 16 (-1) x) := by
  have hN := h.2.2
  unfold fX1_inOrder gt
  rw [h.made]
  by_cases h1 : x < 0
  · rw [if_pos h1, if_neg (by omega)]
  by_cases h2 : (N : Int) ≤ x
  · rw [if_neg h1, if_pos h2, if_neg (by omega)]
  rw [if_neg h1, if_neg h2, if_pos (by omega), rd_ok (by omega) (by omega), h.1 16 (by decide) (by decide)]
theorem q_siteOf (h : TT T σ N) (x : Int) : fX1_siteOf σ x = some (gt T N 9 (-1) x) := by
  have hN := h.2.2
  unfold fX1_siteOf gt
  rw [h.made]
  by_cases h1 : x < 0
  · rw [if_pos h1, if_neg (by omega)]
  by_cases h2 : (N : Int) ≤ x
  · rw [if_neg h1, if_pos h2, if_neg (by omega)]
  rw [if_neg h1, if_neg h2, if_pos (by omega), rd_ok (by omega) (by omega), h.1 9 (by decide) (by decide)]
theorem q_countOf (h : TT T σ N) (x : Int) : fX1_countOf σ x = some (gt T N 10 0 x) := by
  have hN := h.2.2
  unfold fX1_countOf gt
  rw [h.made]
  by_cases h1 : x < 0
  · rw [if_pos h1, if_neg (by omega)]
  by_cases h2 : (N : Int) ≤ x
  · rw [if_neg h1, if_pos h2, if_neg (by omega)]
  rw [if_neg h1, if_neg h2, if_pos (by omega), rd_ok (by omega) (by omega), h.1 10 (by decide) (by decide)]
theorem q_kindOfA (h : TT T σ N) (x : Int) : fX1_kindOf σ x = some (gt T N 11 (-1) x) := by
  have hN := h.2.2
  unfold fX1_kindOf gt
  rw [h.made]
  by_cases h1 : x < 0
  · rw [if_pos h1, if_neg (by omega)]
  by_cases h2 : (N : Int) ≤ x
  · rw [if_neg h1, if_pos h2, if_neg (by omega)]
  rw [if_neg h1, if_neg h2, if_pos (by omega), rd_ok (by omega) (by omega), h.1 11 (by decide) (by decide)]
theorem q_firstOf (h : TT T σ N) (x : Int) : fX1_firstOf σ x = some (gt T N 12 (-1) x) := by
  have hN := h.2.2
  unfold fX1_firstOf gt
  rw [h.made]
  by_cases h1 : x < 0
  · rw [if_pos h1, if_neg (by omega)]
  by_cases h2 : (N : Int) ≤ x
  · rw [if_neg h1, if_pos h2, if_neg (by omega)]
  rw [if_neg h1, if_neg h2, if_pos (by omega), rd_ok (by omega) (by omega), h.1 12 (by decide) (by decide)]
theorem q_secondOf (h : TT T σ N) (x : Int) : fX1_secondOf σ x = some (gt T N 13 (-1) x) := by
  have hN := h.2.2
  unfold fX1_secondOf gt
  rw [h.made]
  by_cases h1 : x < 0
  · rw [if_pos h1, if_neg (by omega)]
  by_cases h2 : (N : Int) ≤ x
  · rw [if_neg h1, if_pos h2, if_neg (by omega)]
  rw [if_neg h1, if_neg h2, if_pos (by omega), rd_ok (by omega) (by omega), h.1 13 (by decide) (by decide)]
theorem q_valueOf (h : TT T σ N) (x : Int) : fX1_valueOf σ x = some (gt T N 14 0 x) := by
  have hN := h.2.2
  unfold fX1_valueOf gt
  rw [h.made]
  by_cases h1 : x < 0
  · rw [if_pos h1, if_neg (by omega)]
  by_cases h2 : (N : Int) ≤ x
  · rw [if_neg h1, if_pos h2, if_neg (by omega)]
  rw [if_neg h1, if_neg h2, if_pos (by omega), rd_ok (by omega) (by omega), h.1 14 (by decide) (by decide)]
theorem q_flagOf (h : TT T σ N) (x : Int) : fX1_flagOf σ x = some (b2i (decide (gt T N 15 0 x ≠ 0))) := by
  have hN := h.2.2
  unfold fX1_flagOf gt
  rw [h.made]
  by_cases h1 : x < 0
  · rw [if_pos h1, if_neg (by omega)]; rfl
  by_cases h2 : (N : Int) ≤ x
  · rw [if_neg h1, if_pos h2, if_neg (by omega)]; rfl
  rw [if_neg h1, if_neg h2, if_pos (by omega), rd_ok (by omega) (by omega), h.1 15 (by decide) (by decide)]
  by_cases h3 : T 15 x.toNat = 0
  · rw [if_pos h3, decide_eq_false (by omega)]; rfl
  · rw [if_neg h3, decide_eq_true h3]; rfl
def mkE (T : St) (N : Nat) (x : Int) : Bool := decide ((0 ≤ x ∧ x < (N : Int)) ∧ (T 11 x.toNat = 0 ∨ T 11 x.toNat = 1))
theorem q_makesElement (h : TT T σ N) (x : Int) : fX1_makesElement σ x = some (b2i (mkE T N x)) := by
  have hN := h.2.2
  unfold fX1_makesElement mkE
  rw [h.made]
  by_cases h1 : x < 0
  · rw [if_pos h1, decide_eq_false (by omega)]; rfl
  by_cases h2 : (N : Int) ≤ x
  · rw [if_neg h1, if_pos h2, decide_eq_false (by omega)]; rfl
  rw [if_neg h1, if_neg h2, rd_ok (by omega) (by omega), h.1 11 (by decide) (by decide), rd_ok (by omega) (by omega), h.1 11 (by decide) (by decide)]
  by_cases h3 : T 11 x.toNat = 0
  · rw [if_pos h3, decide_eq_true (by omega)]; rfl
  · rw [if_neg h3]
    by_cases h4 : T 11 x.toNat = 1
    · rw [if_neg (by omega), decide_eq_true (by omega)]; rfl
    · rw [if_pos h4, decide_eq_false (by omega)]; rfl
theorem q_isUndoable (h : TT T σ N) (x : Int) : fX1_isUndoable σ x = some (b2i (decide ((0 ≤ x ∧ x < (N : Int)) ∧ T 11 x.toNat ≤ 7))) := by
  have hN := h.2.2
  unfold fX1_isUndoable
  rw [h.made]
  by_cases h1 : x < 0
  · rw [if_pos h1, decide_eq_false (by omega)]; rfl
  by_cases h2 : (N : Int) ≤ x
  · rw [if_neg h1, if_pos h2, decide_eq_false (by omega)]; rfl
  rw [if_neg h1, if_neg h2, rd_ok (by omega) (by omega), h.1 11 (by decide) (by decide)]
  by_cases h3 : T 11 x.toNat ≤ 7
  · rw [if_neg (by omega), decide_eq_true (by omega)]; rfl
  · rw [if_pos (by omega), decide_eq_false (by omega)]; rfl
theorem q_contains (σ : St) (a : Nat) (x : Int) : fX0_contains σ a x = some (b2i (inS σ a x)) := by
  unfold fX0_contains inS
  by_cases h1 : x < 0
  · rw [if_pos h1, decide_eq_false (by omega)]; rfl
  by_cases h2 : 160 ≤ x
  · rw [if_neg h1, if_pos h2, decide_eq_false (by omega)]; rfl
  rw [if_neg h1, if_neg h2, rd_ok (by omega) (by omega)]
  by_cases h3 : σ (a + 1) x.toNat = 0
  · rw [if_pos h3, decide_eq_false (by omega)]; rfl
  · rw [if_neg h3, decide_eq_true (by omega)]; rfl
end BOOK
def elemOf (T : St) (N : Nat) (x : Int) : Int := if mkE T N x = true then x else gt T N 12 (-1) x
def openB (T : St) (N : Nat) (D : Dc) (x : Int) : Bool := decide (num x) && (decide (D.2 4 x.toNat = 2 ∧ D.2 6 x.toNat = 0) || (decide (D.2 8 x.toNat ≠ 0) && seenB D (gt T N 12 (-1) x)))
def ids (N : Nat) : List Int := seg (fun i => (i : Int)) 0 N
theorem ids_mem {N : Nat} {x : Int} : x ∈ ids N ↔ 0 ≤ x ∧ x < (N : Int) := by
  unfold ids
  rw [seg_mem]
  constructor
  · rintro ⟨j, h1, h2, rfl⟩; omega
  · rintro ⟨h1, h2⟩; exact ⟨x.toNat, by omega, by omega, by omega⟩
section PAPER2
variable {T σ : St} {N p n : Nat} {D : Dc}
theorem q_elementOf (h : TT T σ N) (x : Int) : fX3_elementOf σ p x = some (elemOf T N x) := by
  unfold fX3_elementOf elemOf
  rw [b1_ok (q_makesElement h x), b1_ok (q_firstOf h x)]
  cases mkE T N x <;> rfl
theorem q_isOpen (h : isP σ p D) (ht : TT T σ N) (x : Int) : fX3_isOpen σ p x = some (b2i (openB T N D x)) := by
  unfold fX3_isOpen fX3_isOpen_J36 fX3_isOpen_J37 openB
  by_cases h1 : x < 0
  · rw [if_pos h1, decide_eq_false (by omega)]; rfl
  by_cases h2 : x < 160
  · rw [if_neg h1, if_pos h2, decide_eq_true (show num x from ⟨by omega, h2⟩), rd_ok (by omega) (by omega), h.c (by decide) (by decide), Bool.true_and]
    have e : (if (0 : Int) ≠ 0 then some 1 else rd σ (p + 8) 160 x fun v3 => if v3 = 0 then some 0 else b1 (fX1_firstOf σ x) fun v4 => b1 (fX3_isSeen σ p v4) fun v5 => if v5 = 0 then some 0 else some 1) = some (b2i (decide (D.2 8 x.toNat ≠ 0) && seenB D (gt T N 12 (-1) x))) := by
      rw [if_neg (by decide), rd_ok (by omega) (by omega), h.c (by decide) (by decide), b1_ok (q_firstOf ht x), b1_ok (q_isSeen h _)]
      by_cases h8 : D.2 8 x.toNat = 0
      · rw [if_pos h8, decide_eq_false (by omega)]; rfl
      · rw [if_neg h8, decide_eq_true h8]
        cases seenB D (gt T N 12 (-1) x) <;> rfl
    rw [e]
    by_cases h4 : D.2 4 x.toNat = 2
    · rw [if_neg (by omega), rd_ok (by omega) (by omega), h.c (by decide) (by decide)]
      by_cases h6 : D.2 6 x.toNat = 0
      · rw [if_neg (by omega), if_pos (by decide), decide_eq_true ⟨h4, h6⟩]; rfl
      · rw [if_pos h6, show decide (D.2 4 x.toNat = 2 ∧ D.2 6 x.toNat = 0) = false from decide_eq_false (by omega), Bool.false_or]
    · rw [if_pos h4, show decide (D.2 4 x.toNat = 2 ∧ D.2 6 x.toNat = 0) = false from decide_eq_false (by omega), Bool.false_or]
  · rw [if_neg h1, if_neg h2, decide_eq_false (by omega)]; rfl
theorem q_mayDecide (h : isP σ p D) (ht : TT T σ N) (hn : 161 ≤ n) (s x : Int) : fX3_mayDecide n σ p s x = some (b2i (openB T N D x && decide (lev D s (blk D (elemOf T N x)) = 0))) := by
  unfold fX3_mayDecide
  rw [b1_ok (q_isOpen h ht x), b1_ok (q_elementOf ht x), b1_ok (q_blockOf h hn _), b1_ok (q_levelIn h _ _)]
  cases openB T N D x
  · rfl
  · show (if (1 : Int) = 0 then _ else _) = _
    rw [if_neg (by decide), Bool.true_and]
    by_cases hl : lev D s (blk D (elemOf T N x)) = 0
    · rw [if_neg (by omega), decide_eq_true hl]; rfl
    · rw [if_pos hl, decide_eq_false hl]; rfl
theorem q_countOpen (h : isP σ p D) (ht : TT T σ N) (hn : 161 ≤ n) : fX3_countOpen n σ p = some (cnt (openB T N D) (ids N)) := by
  have hN := ht.2.2
  have := lpF (bot := fun _ _ => none) (F := fX3_countOpen_L4s n σ p) (fun i a => 0 ≤ a ∧ a ≤ (i : Int)) (cntS (openB T N D)) (fun a => a) (fun i => (i : Int)) N
    (fun lp s hs => by unfold fX3_countOpen_L4s; rw [ht.made, if_pos (by omega)])
    (fun lp s i hi hs => by
      refine Or.inr ⟨_, rfl, ?_, ?_⟩
      · unfold fX3_countOpen_L4s
        rw [ht.made, if_neg (by omega), b1_ok (q_isOpen h ht _)]
        cases openB T N D (i : Int)
        · show (if (0 : Int) = 0 then _ else _) = lp (s + 0) _
          rw [if_pos rfl, ck_ok (by omega) (by omega), Int.add_zero]
        · show (if (1 : Int) = 0 then _ else _) = lp (s + 1) _
          rw [if_neg (by decide), ck_ok (by omega) (by omega), ck_ok (by omega) (by omega)]
      · have := b2i_r (openB T N D (i : Int)); omega)
    N n 0 0 (Nat.zero_add _) (by omega) ⟨by decide, by decide⟩
  rw [run_cnt, Int.zero_add] at this
  exact this
def anyS (P : Int → Bool) : Int → Int → Int ⊕ Int := fun a x => .inr (if P x = true then 1 else a)
theorem run_any (g : Int → Int) (P : Int → Bool) (L : List Int) : ∀ a, runL (anyS P) g a L = g (if L.any P = true then 1 else a) := by
  induction L with
  | nil => intro a; rfl
  | cons x L ih =>
    intro a
    rw [runL_go (s' := if P x = true then 1 else a) rfl, ih, List.any_cons]
    cases P x <;> cases L.any P <;> rfl
theorem q_proposalsFor (h : isP σ p D) (ht : TT T σ N) (hn : 161 ≤ n) {x : Int} (hx : num x) : fX3_proposalsFor n σ p x = some ((if D.2 4 x.toNat = 2 then 1 else 0) + (if (ids N).any (fun a => decide (D.2 8 a.toNat ≠ 0 ∧ gt T N 12 (-1) a = x)) = true then 2 else 0)) := by
  have hN := ht.2.2
  have key : ∀ x2 : Int, x2 = 0 ∨ x2 = 1 → fX3_proposalsFor_L28 n σ p x x2 n 0 0 = some (x2 + (if (ids N).any (fun a => decide (D.2 8 a.toNat ≠ 0 ∧ gt T N 12 (-1) a = x)) = true then 2 else 0)) := by
    intro x2 hx2
    have := lpF (bot := fun _ _ => none) (F := fX3_proposalsFor_L28s n σ p x x2) (fun _ _ => True) (anyS (fun a => decide (D.2 8 a.toNat ≠ 0 ∧ gt T N 12 (-1) a = x))) (fun a => x2 + (if a = 0 then 0 else 2)) (fun i => (i : Int)) N
      (fun lp s hs => by
        unfold fX3_proposalsFor_L28s fX3_proposalsFor_J79 fX3_proposalsFor_J88
        rw [ht.made, if_pos (by omega)]
        rcases hx2 with rfl | rfl
        · rw [if_pos rfl]; by_cases hs0 : s = 0
          · rw [if_pos hs0, if_pos hs0]; rfl
          · rw [if_neg hs0, if_neg hs0]; rfl
        · rw [if_neg (by decide)]; by_cases hs0 : s = 0
          · rw [if_pos hs0, if_pos hs0]; rfl
          · rw [if_neg hs0, if_neg hs0]; rfl)
      (fun lp s i hi hs => by
        refine Or.inr ⟨_, rfl, ?_, trivial⟩
        unfold fX3_proposalsFor_L28s
        rw [ht.made, if_neg (by omega), if_neg (by omega), rd_ok (by omega) (by omega), h.c (by decide) (by decide), b1_ok (q_firstOf ht _), ck_ok (by omega) (by omega), ck_ok (by omega) (by omega)]
        dsimp only
        by_cases h8 : D.2 8 (i : Int).toNat = 0
        · rw [if_pos h8, if_neg (by rw [decide_eq_false (by omega)]; decide)]
        · rw [if_neg h8]
          by_cases hf : gt T N 12 (-1) (i : Int) = x
          · rw [if_neg (by omega), if_pos (decide_eq_true ⟨h8, hf⟩)]
          · rw [if_pos hf, if_neg (by rw [decide_eq_false (by omega)]; decide)])
      N n 0 0 (Nat.zero_add _) (by omega) trivial
    rw [run_any] at this
    refine Eq.trans this ?_
    show some (x2 + if (if (ids N).any _ = true then (1 : Int) else 0) = 0 then 0 else 2) = _
    by_cases ha : (ids N).any (fun a => decide (D.2 8 a.toNat ≠ 0 ∧ gt T N 12 (-1) a = x)) = true
    · rw [if_pos ha, if_pos ha]; rfl
    · rw [if_neg ha, if_neg ha]; rfl
  unfold fX3_proposalsFor
  rw [b1_ok (q_isNumber x), decide_eq_true hx]
  show (if (1 : Int) = 0 then _ else _) = _
  rw [if_neg (by decide), rd_ok hx.1 (by omega), h.c (by decide) (by decide)]
  by_cases h4 : D.2 4 x.toNat = 2
  · rw [if_neg (by omega), if_pos h4, key 1 (Or.inr rfl)]
  · rw [if_pos h4, if_neg h4, key 0 (Or.inl rfl)]
theorem q_kindOf (h : isP σ p D) {b : Int} (hb : -1 ≤ b ∧ b < 160) : fX3_kindOf σ p b = some (D.2 10 (b + 1).toNat) := by
  unfold fX3_kindOf
  rw [b1_ok (q_isBlock b), decide_eq_true hb]
  show (if (1 : Int) = 0 then _ else _) = _
  rw [if_neg (by decide), ck_ok (by omega) (by omega), rd_ok (by omega) (by omega), h.c (by decide) (by decide)]
theorem q_wasUndone (h : isP σ p D) (x : Int) : fX3_wasUndone σ p x = some (b2i (decide (num x ∧ D.2 9 x.toNat ≠ 0))) := by
  unfold fX3_wasUndone
  rw [b1_ok (q_isNumber x)]
  by_cases hx : num x
  · rw [decide_eq_true hx]
    show (if (1 : Int) = 0 then _ else _) = _
    rw [if_neg (by decide), rd_ok hx.1 (by omega), h.c (by decide) (by decide)]
    by_cases h9 : D.2 9 x.toNat = 0
    · rw [if_pos h9, decide_eq_false (by omega)]; rfl
    · rw [if_neg h9, decide_eq_true ⟨hx, h9⟩]; rfl
  · rw [decide_eq_false hx, decide_eq_false (fun q => hx q.1)]; rfl
theorem q_bitsOf (h : isP σ p D) {x : Int} (hx : num x) : fX3_bitsOf σ p x = some (D.2 7 x.toNat) := by
  unfold fX3_bitsOf
  rw [b1_ok (q_isNumber x), decide_eq_true hx]
  show (if (1 : Int) = 0 then _ else _) = _
  rw [if_neg (by decide), rd_ok hx.1 (by omega), h.c (by decide) (by decide)]
theorem q_bitsOfN {x : Int} (hx : ¬ num x) : fX3_bitsOf σ p x = some 0 := by
  unfold fX3_bitsOf
  rw [b1_ok (q_isNumber x), decide_eq_false hx]; rfl
theorem q_hasBit (h : isP σ p D) {x : Int} (hx : num x) {k : Nat} (hk : k < 32) : fX3_hasBit σ p x (bshl 1 (k : Int)) = some (b2i (tb (D.2 7 x.toNat) k)) := by
  unfold fX3_hasBit
  rw [b1_ok (q_bitsOf h hx), vl_ok]
  by_cases hb : tb (D.2 7 x.toNat) k = true
  · rw [if_neg ((tb_test hk).mpr hb), hb]; rfl
  · have : band (D.2 7 x.toNat) (bshl 1 (k : Int)) = 0 := Decidable.byContradiction (fun q => hb ((tb_test hk).mp q))
    rw [if_pos this, Bool.eq_false_iff.mpr hb]; rfl
theorem q_countSeenWith (h : isP σ p D) (hr : rowOK D) (hn : 161 ≤ n) {k : Nat} (hk : k < 32) : fX3_countSeenWith n σ p (bshl 1 (k : Int)) = some (cnt (fun x => seenB D x && tb (D.2 7 x.toNat) k) D.1) := by
  have hl := h.2.1
  have := lpF (bot := fun _ _ => none) (F := fX3_countSeenWith_L4s n σ p (bshl 1 (k : Int))) (fun i a => 0 ≤ a ∧ a ≤ (i : Int)) (cntS (fun x => seenB D x && tb (D.2 7 x.toNat) k)) (fun a => a) (σ (p + 2)) D.1.length
    (fun lp s hs => by unfold fX3_countSeenWith_L4s; rw [if_pos (by rw [h.1]; omega)])
    (fun lp s i hi hs => by
      refine Or.inr ⟨_, rfl, ?_, ?_⟩
      · unfold fX3_countSeenWith_L4s
        rw [if_neg (by rw [h.1]; omega), b1_ok (q_inRow h hi), b1_ok (q_isSeen h _), b1_ok (q_inRow h hi), b1_ok (q_hasBit h (hr _ (h.mem hi)) hk)]
        dsimp only
        cases seenB D (σ (p + 2) i)
        · show (if (0 : Int) = 0 then _ else _) = lp (s + 0) _
          rw [if_pos rfl, ck_ok (by omega) (by omega), Int.add_zero]
        · show (if (1 : Int) = 0 then _ else _) = lp (s + b2i (true && tb (D.2 7 (σ (p + 2) i).toNat) k)) _
          rw [if_neg (by decide), Bool.true_and]
          cases tb (D.2 7 (σ (p + 2) i).toNat) k
          · show (if (0 : Int) = 0 then _ else _) = lp (s + 0) _
            rw [if_pos rfl, ck_ok (by omega) (by omega), Int.add_zero]
          · show (if (1 : Int) = 0 then _ else _) = lp (s + 1) _
            rw [if_neg (by decide), ck_ok (by omega) (by omega), ck_ok (by omega) (by omega)]
      · have := b2i_r (seenB D (σ (p + 2) i) && tb (D.2 7 (σ (p + 2) i).toNat) k); dsimp only; omega)
    D.1.length n 0 0 (Nat.zero_add _) (by omega) ⟨by decide, by decide⟩
  rw [run_cnt, h.2.2.1, Int.zero_add] at this
  exact this
/-- the blocks that are met going up, at most k -/
def chn (ab : Nat → Int) : Nat → Int → List Int
  | 0, _ => []
  | k + 1, b => if -1 ≤ b ∧ b < 160 then b :: chn ab k (ab (b + 1).toNat) else []
theorem chn_s {ab : Nat → Int} {k : Nat} {b : Int} (h : -1 ≤ b ∧ b < 160) : chn ab (k + 1) b = b :: chn ab k (ab (b + 1).toNat) := if_pos h
theorem chn_n {ab : Nat → Int} {k : Nat} {b : Int} (h : ¬ (-1 ≤ b ∧ b < 160)) : chn ab k b = [] := by
  cases k with
  | zero => rfl
  | succ k => exact if_neg h
theorem q_comesTo (h : isP σ p D) (hn : 162 ≤ n) (f o : Int) : fX3_comesTo n σ p f o = some (b2i (decide (o ∈ chn (D.2 11) 161 f))) := by
  have key : ∀ (k m i : Nat) (f : Int), i + k = 161 → k < m → fX3_comesTo_L5 n σ p f o m f (i : Int) = some (b2i (decide (o ∈ chn (D.2 11) k f))) := by
    have gen : ∀ (g : Int) (k m i : Nat) (f : Int), i + k = 161 → k < m → fX3_comesTo_L5 n σ p g o m f (i : Int) = some (b2i (decide (o ∈ chn (D.2 11) k f))) := by
      intro g k
      induction k with
      | zero =>
        intro m i f h1 h2
        obtain ⟨m, rfl⟩ : ∃ q, m = q + 1 := ⟨m - 1, by omega⟩
        show fX3_comesTo_L5s n σ p g o _ f (i : Int) = _
        unfold fX3_comesTo_L5s
        rw [if_pos (by omega)]; rfl
      | succ k ih =>
        intro m i f h1 h2
        obtain ⟨m, rfl⟩ : ∃ q, m = q + 1 := ⟨m - 1, by omega⟩
        show fX3_comesTo_L5s n σ p g o (fX3_comesTo_L5 n σ p g o m) f (i : Int) = _
        unfold fX3_comesTo_L5s
        rw [if_neg (by omega), b1_ok (q_isBlock f)]
        by_cases hf : -1 ≤ f ∧ f < 160
        · rw [decide_eq_true hf, chn_s hf]
          show (if (1 : Int) = 0 then _ else _) = _
          rw [if_neg (by decide)]
          by_cases hfo : f = o
          · rw [if_neg (by omega), decide_eq_true (by rw [hfo]; exact List.mem_cons_self)]; rfl
          · rw [if_pos hfo, ck_ok (by omega) (by omega), rd_ok (by omega) (by omega), h.c (by decide) (by decide), ck_ok (by omega) (by omega)]
            have e := ih m (i + 1) (D.2 11 (f + 1).toNat) (by omega) (by omega)
            refine Eq.trans e ?_
            congr 2
            refine decide_eq_decide.mpr ⟨fun q => List.mem_cons_of_mem _ q, fun q => (List.mem_cons.mp q).resolve_left (fun q => hfo q.symm)⟩
        · rw [decide_eq_false hf, chn_n hf]; rfl
    exact fun k m i f => gen f k m i f
  exact key 161 n 0 f (Nat.zero_add _) (by omega)
theorem q_depthOf (h : isP σ p D) (hn : 162 ≤ n) {b : Int} (hb : -1 ≤ b ∧ b < 160) : fX3_depthOf n σ p b = some (cnt (fun x => decide (x = -1) || brkB D x) (chn (D.2 11) 161 (D.2 11 (b + 1).toNat))) := by
  have gen : ∀ (k m i : Nat) (a f : Int), i + k = 161 → k < m → 0 ≤ a → a ≤ (i : Int) → fX3_depthOf_L26 n σ p b m a f (i : Int) = some (a + cnt (fun x => decide (x = -1) || brkB D x) (chn (D.2 11) k f)) := by
    intro k
    induction k with
    | zero =>
      intro m i a f h1 h2 h3 h4
      obtain ⟨m, rfl⟩ : ∃ q, m = q + 1 := ⟨m - 1, by omega⟩
      show fX3_depthOf_L26s n σ p b _ a f (i : Int) = _
      unfold fX3_depthOf_L26s
      rw [if_pos (by omega)]
      show some a = some (a + 0)
      rw [Int.add_zero]
    | succ k ih =>
      intro m i a f h1 h2 h3 h4
      obtain ⟨m, rfl⟩ : ∃ q, m = q + 1 := ⟨m - 1, by omega⟩
      show fX3_depthOf_L26s n σ p b (fX3_depthOf_L26 n σ p b m) a f (i : Int) = _
      unfold fX3_depthOf_L26s fX3_depthOf_J54 fX3_depthOf_J57
      rw [if_neg (by omega), b1_ok (q_isBlock f)]
      by_cases hf : -1 ≤ f ∧ f < 160
      · rw [decide_eq_true hf, chn_s hf]
        show (if (1 : Int) = 0 then _ else _) = some (a + (b2i (decide (f = -1) || brkB D f) + cnt _ (chn (D.2 11) k (D.2 11 (f + 1).toNat))))
        rw [if_neg (by decide), b1_ok (q_isShownBreak h f), ck_ok (by omega) (by omega), ck_ok (by omega) (by omega), rd_ok (by omega) (by omega), h.c (by decide) (by decide), ck_ok (by omega) (by omega), ck_ok (by omega) (by omega), rd_ok (by omega) (by omega), h.c (by decide) (by decide), ck_ok (by omega) (by omega)]
        have e1 := ih m (i + 1) (a + 1) (D.2 11 (f + 1).toNat) (by omega) (by omega) (by omega) (by omega)
        have e0 := ih m (i + 1) a (D.2 11 (f + 1).toNat) (by omega) (by omega) (by omega) (by omega)
        by_cases hf1 : f = -1
        · rw [if_pos hf1, decide_eq_true hf1, Bool.true_or]
          refine Eq.trans e1 ?_
          show some (a + 1 + _) = some (a + (1 + _))
          rw [Int.add_assoc]
        · rw [if_neg hf1, decide_eq_false hf1, Bool.false_or]
          cases brkB D f
          · refine Eq.trans e0 ?_
            show some (a + _) = some (a + (0 + _))
            rw [Int.zero_add]
          · refine Eq.trans e1 ?_
            show some (a + 1 + _) = some (a + (1 + _))
            rw [Int.add_assoc]
      · rw [decide_eq_false hf, chn_n hf]
        show some a = some (a + 0)
        rw [Int.add_zero]
  unfold fX3_depthOf
  rw [b1_ok (q_isBlock b), decide_eq_true hb]
  show (if (1 : Int) = 0 then _ else _) = _
  rw [if_neg (by decide), ck_ok (by omega) (by omega), rd_ok (by omega) (by omega), h.c (by decide) (by decide)]
  have := gen 161 n 0 0 (D.2 11 (b + 1).toNat) (Nat.zero_add _) (by omega) (by decide) (by decide)
  rw [Int.zero_add] at this
  exact this
end PAPER2

