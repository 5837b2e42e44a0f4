/-! ===== loops over a list; what a paper answers ===== -/
def runL {S R : Type} (step : S → Int → R ⊕ S) (fin : S → R) : S → List Int → R
  | s, [] => fin s
  | s, x :: L => match step s x with
    | .inl r => r
    | .inr s' => runL step fin s' L
theorem runL_in {S R : Type} {step : S → Int → R ⊕ S} {fin : S → R} {s : S} {x : Int} {L : List Int} {r : R} (h : step s x = .inl r) : runL step fin s (x :: L) = r := by
  show (match step s x with | .inl r => r | .inr s' => runL step fin s' L) = r
  rw [h]
theorem runL_go {S R : Type} {step : S → Int → R ⊕ S} {fin : S → R} {s s' : S} {x : Int} {L : List Int} (h : step s x = .inr s') : runL step fin s (x :: L) = runL step fin s' L := by
  show (match step s x with | .inl r => r | .inr s' => runL step fin s' L) = _
  rw [h]
theorem lpF {S R : Type} {bot : S → Int → Option R} {F : (S → Int → Option R) → S → Int → Option R} (inv : Nat → S → Prop) (step : S → Int → R ⊕ S) (fin : S → R) (f : Nat → Int) (len : Nat)
    (hend : ∀ lp s, inv len s → F lp s (len : Int) = some (fin s))
    (hstep : ∀ lp s i, i < len → inv i s → (∃ r, step s (f i) = .inl r ∧ F lp s (i : Int) = some r) ∨ ∃ s', step s (f i) = .inr s' ∧ F lp s (i : Int) = lp s' ((i : Int) + 1) ∧ inv (i + 1) s') :
    ∀ (k m i : Nat) (s : S), i + k = len → k < m → inv i s → lpR bot F m s (i : Int) = some (runL step fin s (seg f i k)) := by
  intro k
  induction k with
  | zero =>
    intro m i s h1 h2 h3
    obtain ⟨m, rfl⟩ : ∃ q, m = q + 1 := ⟨m - 1, by omega⟩
    rw [lpR_s, show i = len by omega] at *
    exact hend _ s h3
  | succ k ih =>
    intro m i s h1 h2 h3
    obtain ⟨m, rfl⟩ : ∃ q, m = q + 1 := ⟨m - 1, by omega⟩
    rw [lpR_s]
    rcases hstep (lpR bot F m) s i (by omega) h3 with ⟨r, h4, h5⟩ | ⟨s', h4, h5, h6⟩
    · rw [h5]
      show some r = some (runL step fin s (f i :: seg f (i + 1) k))
      rw [runL_in h4]
    · rw [h5]
      show lpR bot F m s' ((i : Int) + 1) = some (runL step fin s (f i :: seg f (i + 1) k))
      rw [runL_go h4, ← ih m (i + 1) s' (by omega) (by omega) h6]
      rfl
def optS {R : Type} (step : Nat → Int → Option R) : Nat → Int → R ⊕ Nat := fun s x => match step s x with
  | some r => .inl r
  | none => .inr (s + 1)
theorem optS_s {R : Type} {step : Nat → Int → Option R} {s : Nat} {x : Int} {r : R} (h : step s x = some r) : optS step s x = .inl r := by unfold optS; rw [h]
theorem optS_n {R : Type} {step : Nat → Int → Option R} {s : Nat} {x : Int} (h : step s x = none) : optS step s x = .inr (s + 1) := by unfold optS; rw [h]
theorem lpF0 {R : Type} {bot : Int → Option R} {F : (Int → Option R) → Int → Option R} (step : Nat → Int → Option R) (fin : R) (f : Nat → Int) (len : Nat)
    (hend : ∀ lp, F lp (len : Int) = some fin)
    (hstep : ∀ lp i, i < len → (∃ r, step i (f i) = some r ∧ F lp (i : Int) = some r) ∨ (step i (f i) = none ∧ F lp (i : Int) = lp ((i : Int) + 1))) :
    ∀ (k m i : Nat), i + k = len → k < m → lpR bot F m (i : Int) = some (runL (optS step) (fun _ => fin) i (seg f i k)) := by
  intro k
  induction k with
  | zero =>
    intro m i h1 h2
    obtain ⟨m, rfl⟩ : ∃ q, m = q + 1 := ⟨m - 1, by omega⟩
    rw [lpR_s, show i = len by omega]
    exact hend _
  | succ k ih =>
    intro m i h1 h2
    obtain ⟨m, rfl⟩ : ∃ q, m = q + 1 := ⟨m - 1, by omega⟩
    rw [lpR_s]
    rcases hstep (lpR bot F m) i (by omega) with ⟨r, h4, h5⟩ | ⟨h4, h5⟩
    · rw [h5]
      show some r = some (runL _ _ i (f i :: seg f (i + 1) k))
      rw [runL_in (r := r) (optS_s h4)]
    · rw [h5]
      show lpR bot F m ((i : Int) + 1) = some (runL _ _ i (f i :: seg f (i + 1) k))
      rw [runL_go (s' := i + 1) (optS_n h4), ← ih m (i + 1) (by omega) (by omega)]
      rfl
/-- a document: the row of its elements, and the rows by elements, acts and blocks, by their places in a paper -/
abbrev Dc : Type := List Int × (Nat → Nat → Int)
def isP (σ : St) (p : Nat) (D : Dc) : Prop := σ p 2 = (D.1.length : Int) ∧ D.1.length ≤ 160 ∧ seg (σ (p + 2)) 0 D.1.length = D.1 ∧ ∀ k, 4 ≤ k → k ≤ 16 → ∀ i, σ (p + k) i = D.2 k i
theorem isP.get {σ : St} {p : Nat} {D : Dc} (h : isP σ p D) {i : Nat} (hi : i < D.1.length) : D.1[i]? = some (σ (p + 2) i) := by
  have := seg_get (σ (p + 2)) D.1.length 0 i
  rw [h.2.2.1, if_pos hi, Nat.zero_add] at this
  exact this
theorem isP.mem {σ : St} {p : Nat} {D : Dc} (h : isP σ p D) {i : Nat} (hi : i < D.1.length) : σ (p + 2) i ∈ D.1 := List.mem_of_getElem? (h.get hi)
theorem isP.c {σ : St} {p : Nat} {D : Dc} (h : isP σ p D) {k : Nat} (h1 : 4 ≤ k) (h2 : k ≤ 16) (i : Nat) : σ (p + k) i = D.2 k i := h.2.2.2 k h1 h2 i
abbrev num (x : Int) : Prop := 0 ≤ x ∧ x < 160
def rowOK (D : Dc) : Prop := ∀ x ∈ D.1, num x
def seenB (D : Dc) (x : Int) : Bool := decide (num x ∧ D.2 6 x.toNat = 0 ∧ (D.2 4 x.toNat = 1 ∨ D.2 4 x.toNat = 2))
def shownB (D : Dc) (x : Int) : Bool := decide (num x ∧ D.2 4 x.toNat = 1 ∧ D.2 6 x.toNat = 0)
def brkB (D : Dc) (x : Int) : Bool := decide (num x ∧ D.2 5 x.toNat ≠ 0 ∧ D.2 4 x.toNat = 1 ∧ D.2 6 x.toNat = 0)
def graveB (D : Dc) (x : Int) : Bool := decide (num x ∧ D.2 4 x.toNat ≠ 0) && !seenB D x
def lev (D : Dc) (s b : Int) : Int := if 0 < s ∧ s < 4 ∧ -1 ≤ b ∧ b < 160 then D.2 (13 + s.toNat) (b + 1).toNat else 0
section PAPER
variable {σ : St} {p n : Nat} {D : Dc}
theorem q_isNumber (x : Int) : fX3_isNumber x = some (b2i (decide (num x))) := by
  unfold fX3_isNumber
  by_cases h1 : x < 0
  · rw [if_pos h1, decide_eq_false (by omega)]; rfl
  by_cases h2 : 160 ≤ x
  · rw [if_neg h1, if_pos h2, decide_eq_false (by omega)]; rfl
  rw [if_neg h1, if_neg h2, decide_eq_true (by omega)]; rfl
theorem q_inRow (h : isP σ p D) {i : Nat} (hi : i < D.1.length) : fX3_inRow σ p (i : Int) = some (σ (p + 2) i) := by
  have hl := h.2.1
  unfold fX3_inRow
  rw [h.1, if_neg (by omega), if_neg (by omega), if_neg (by omega), rd_ok (by omega) (by omega), Int.toNat_natCast]
theorem q_inRowN (h : isP σ p D) {x : Int} (hx : x < 0 ∨ (D.1.length : Int) ≤ x) : fX3_inRow σ p x = some (-1) := by
  unfold fX3_inRow
  rw [h.1]
  by_cases h1 : x < 0
  · rw [if_pos h1]
  · rw [if_neg h1, if_pos (by omega)]
theorem q_isSeen (h : isP σ p D) (x : Int) : fX3_isSeen σ p x = some (b2i (seenB D x)) := by
  unfold fX3_isSeen seenB
  by_cases h1 : x < 0
  · rw [if_pos h1, decide_eq_false (by omega)]; rfl
  by_cases h2 : 160 ≤ x
  · rw [if_neg h1, if_pos h2, decide_eq_false (by omega)]; rfl
  rw [if_neg h1, if_neg h2, rd_ok (by omega) (by omega), h.c (by decide) (by decide), rd_ok (by omega) (by omega), h.c (by decide) (by decide), rd_ok (by omega) (by omega), h.c (by decide) (by decide)]
  by_cases h3 : D.2 6 x.toNat = 0
  · rw [if_pos h3]
    by_cases h4 : D.2 4 x.toNat = 1
    · rw [if_pos h4, decide_eq_true (by omega)]; rfl
    · rw [if_neg h4]
      by_cases h5 : D.2 4 x.toNat = 2
      · rw [if_neg (by omega), decide_eq_true (by omega)]; rfl
      · rw [if_pos h5, decide_eq_false (by omega)]; rfl
  · rw [if_neg h3, decide_eq_false (by omega)]; rfl
theorem q_isShown (h : isP σ p D) (x : Int) : fX3_isShown σ p x = some (b2i (shownB D x)) := by
  unfold fX3_isShown shownB
  by_cases h1 : x < 0
  · rw [if_pos h1, decide_eq_false (by omega)]; rfl
  by_cases h2 : 160 ≤ x
  · rw [if_neg h1, if_pos h2, decide_eq_false (by omega)]; rfl
  rw [if_neg h1, if_neg h2, rd_ok (by omega) (by omega), h.c (by decide) (by decide), rd_ok (by omega) (by omega), h.c (by decide) (by decide)]
  by_cases h3 : D.2 4 x.toNat = 1
  · rw [if_neg (by omega)]
    by_cases h4 : D.2 6 x.toNat = 0
    · rw [if_neg (by omega), decide_eq_true (by omega)]; rfl
    · rw [if_pos h4, decide_eq_false (by omega)]; rfl
  · rw [if_pos h3, decide_eq_false (by omega)]; rfl
theorem q_isShownBreak (h : isP σ p D) (x : Int) : fX3_isShownBreak σ p x = some (b2i (brkB D x)) := by
  unfold fX3_isShownBreak brkB
  by_cases h1 : x < 0
  · rw [if_pos h1, decide_eq_false (by omega)]; rfl
  by_cases h2 : 160 ≤ x
  · rw [if_neg h1, if_pos h2, decide_eq_false (by omega)]; rfl
  rw [if_neg h1, if_neg h2, rd_ok (by omega) (by omega), h.c (by decide) (by decide), rd_ok (by omega) (by omega), h.c (by decide) (by decide), rd_ok (by omega) (by omega), h.c (by decide) (by decide)]
  by_cases h5 : D.2 5 x.toNat = 0
  · rw [if_pos h5, decide_eq_false (by omega)]; rfl
  rw [if_neg h5]
  by_cases h3 : D.2 4 x.toNat = 1
  · rw [if_neg (by omega)]
    by_cases h4 : D.2 6 x.toNat = 0
    · rw [if_neg (by omega), decide_eq_true (by omega)]; rfl
    · rw [if_pos h4, decide_eq_false (by omega)]; rfl
  · rw [if_pos h3, decide_eq_false (by omega)]; rfl
theorem q_isGrave (h : isP σ p D) (x : Int) : fX3_isGrave σ p x = some (b2i (graveB D x)) := by
  unfold fX3_isGrave graveB
  rw [b1_ok (q_isNumber x)]
  by_cases h1 : num x
  · rw [decide_eq_true h1]
    show (if (1 : Int) = 0 then _ else _) = _
    rw [if_neg (by decide), rd_ok h1.1 (by omega), h.c (by decide) (by decide)]
    by_cases h2 : D.2 4 x.toNat = 0
    · rw [if_pos h2, decide_eq_false (by omega)]; rfl
    · rw [if_neg h2, b1_ok (q_isSeen h x), decide_eq_true ⟨h1, h2⟩]
      cases seenB D x <;> rfl
  · rw [decide_eq_false h1, decide_eq_false (by omega)]; rfl
theorem q_isBlock (x : Int) : fX3_isBlock x = some (b2i (decide (-1 ≤ x ∧ x < 160))) := by
  unfold fX3_isBlock
  by_cases h1 : x < -1
  · rw [if_pos h1, decide_eq_false (by omega)]; rfl
  by_cases h2 : 160 ≤ x
  · rw [if_neg h1, if_pos h2, decide_eq_false (by omega)]; rfl
  rw [if_neg h1, if_neg h2, decide_eq_true (by omega)]; rfl
theorem q_levelIn (h : isP σ p D) (s b : Int) : fX3_levelIn σ p s b = some (lev D s b) := by
  unfold fX3_levelIn lev
  by_cases h1 : s ≤ 0
  · rw [if_pos h1, if_neg (by omega)]
  by_cases h2 : 4 ≤ s
  · rw [if_neg h1, if_pos h2, if_neg (by omega)]
  rw [if_neg h1, if_neg h2, b1_ok (q_isBlock b)]
  by_cases h3 : -1 ≤ b ∧ b < 160
  · rw [decide_eq_true h3]
    show (if (1 : Int) = 0 then _ else _) = _
    rw [if_neg (by decide), if_pos (show 0 < s ∧ s < 4 ∧ -1 ≤ b ∧ b < 160 from ⟨by omega, by omega, h3.1, h3.2⟩), ra_ok (by omega) (by omega), ck_ok (by omega) (by omega), rd_ok (by omega) (by omega), show p + 13 + s.toNat = p + (13 + s.toNat) by omega, h.c (by omega) (by omega)]
  · rw [decide_eq_false h3]
    show (if (0 : Int) = 0 then _ else _) = _
    rw [if_pos rfl, if_neg (fun q => h3 ⟨q.2.2.1, q.2.2.2⟩)]
-- over the row
def cntS (P : Int → Bool) : Int → Int → Int ⊕ Int := fun a x => .inr (a + b2i (P x))
theorem run_cnt (P : Int → Bool) (L : List Int) : ∀ a, runL (cntS P) (fun a => a) a L = a + cnt P L := by
  induction L with
  | nil => intro a; show a = a + 0; omega
  | cons x L ih =>
    intro a
    rw [runL_go (s' := a + b2i (P x)) rfl, ih]
    show a + b2i (P x) + cnt P L = a + (b2i (P x) + cnt P L)
    omega
theorem q_countSeen (h : isP σ p D) (hn : 161 ≤ n) : fX3_countSeen n σ p = some (cnt (seenB D) D.1) := by
  have hl := h.2.1
  have := lpF (bot := fun _ _ => none) (F := fX3_countSeen_L4s n σ p) (fun i a => 0 ≤ a ∧ a ≤ (i : Int)) (cntS (seenB D)) (fun a => a) (σ (p + 2)) D.1.length
    (fun lp s hs => by unfold fX3_countSeen_L4s; rw [if_pos (by rw [h.1]; omega)])
    (fun lp s i hi hs => by
      refine Or.inr ⟨_, rfl, ?_, ?_⟩
      · unfold fX3_countSeen_L4s
        rw [if_neg (by rw [h.1]; omega), b1_ok (q_inRow h hi), b1_ok (q_isSeen h _)]
        cases seenB D (σ (p + 2) i)
        · show (if (0 : Int) = 0 then _ else _) = lp (s + 0) _
          rw [if_pos rfl, ck_ok (by omega) (by omega), Int.add_zero]
        · show (if (1 : Int) = 0 then _ else _) = lp (s + 1) _
          rw [if_neg (by decide), ck_ok (by omega) (by omega), ck_ok (by omega) (by omega)]
      · have := b2i_r (seenB D (σ (p + 2) i)); omega)
    D.1.length n 0 0 (Nat.zero_add _) (by omega) ⟨by decide, by decide⟩
  rw [run_cnt, h.2.2.1, Int.zero_add] at this
  exact this
theorem q_countShown (h : isP σ p D) (hn : 161 ≤ n) : fX3_countShown n σ p = some (cnt (shownB D) D.1) := by
  have hl := h.2.1
  have := lpF (bot := fun _ _ => none) (F := fX3_countShown_L4s n σ p) (fun i a => 0 ≤ a ∧ a ≤ (i : Int)) (cntS (shownB D)) (fun a => a) (σ (p + 2)) D.1.length
    (fun lp s hs => by unfold fX3_countShown_L4s; rw [if_pos (by rw [h.1]; omega)])
    (fun lp s i hi hs => by
      refine Or.inr ⟨_, rfl, ?_, ?_⟩
      · unfold fX3_countShown_L4s
        rw [if_neg (by rw [h.1]; omega), b1_ok (q_inRow h hi), b1_ok (q_isShown h _)]
        cases shownB D (σ (p + 2) i)
        · show (if (0 : Int) = 0 then _ else _) = lp (s + 0) _
          rw [if_pos rfl, ck_ok (by omega) (by omega), Int.add_zero]
        · show (if (1 : Int) = 0 then _ else _) = lp (s + 1) _
          rw [if_neg (by decide), ck_ok (by omega) (by omega), ck_ok (by omega) (by omega)]
      · have := b2i_r (shownB D (σ (p + 2) i)); omega)
    D.1.length n 0 0 (Nat.zero_add _) (by omega) ⟨by decide, by decide⟩
  rw [run_cnt, h.2.2.1, Int.zero_add] at this
  exact this
theorem q_countGraves (h : isP σ p D) (hn : 161 ≤ n) : fX3_countGraves n σ p = some ((D.1.length : Int) - cnt (seenB D) D.1) := by
  have hl := h.2.1
  have hc := cnt_le (seenB D) D.1
  unfold fX3_countGraves
  rw [b1_ok (q_countSeen h hn), h.1, ck_ok (by omega) (by omega)]
theorem q_countBlocks (h : isP σ p D) (hn : 161 ≤ n) : fX3_countBlocks n σ p = some (1 + cnt (brkB D) D.1) := by
  have hl := h.2.1
  have := lpF (bot := fun _ _ => none) (F := fX3_countBlocks_L4s n σ p) (fun i a => 0 ≤ a ∧ a ≤ (i : Int) + 1) (cntS (brkB D)) (fun a => a) (σ (p + 2)) D.1.length
    (fun lp s hs => by unfold fX3_countBlocks_L4s; rw [if_pos (by rw [h.1]; omega)])
    (fun lp s i hi hs => by
      refine Or.inr ⟨_, rfl, ?_, ?_⟩
      · unfold fX3_countBlocks_L4s
        rw [if_neg (by rw [h.1]; omega), b1_ok (q_inRow h hi), b1_ok (q_isShownBreak h _)]
        cases brkB D (σ (p + 2) i)
        · show (if (0 : Int) = 0 then _ else _) = lp (s + 0) _
          rw [if_pos rfl, ck_ok (by omega) (by omega), Int.add_zero]
        · show (if (1 : Int) = 0 then _ else _) = lp (s + 1) _
          rw [if_neg (by decide), ck_ok (by omega) (by omega), ck_ok (by omega) (by omega)]
      · have := b2i_r (brkB D (σ (p + 2) i)); omega)
    D.1.length n 0 1 (Nat.zero_add _) (by omega) ⟨by decide, by decide⟩
  rw [run_cnt, h.2.2.1] at this
  exact this
/-- the element that comes to a count -/
def atS (P : Int → Bool) (w : Int) : Int → Int → Int ⊕ Int := fun a x => if P x = true then (if a = w then .inl x else .inr (a + 1)) else .inr a
theorem q_seenAt (h : isP σ p D) (hn : 161 ≤ n) (w : Int) : fX3_seenAt n σ p w = some (runL (atS (seenB D) w) (fun _ => -1) 0 D.1) := by
  have hl := h.2.1
  have := lpF (bot := fun _ _ => none) (F := fX3_seenAt_L4s n σ p w) (fun i a => 0 ≤ a ∧ a ≤ (i : Int)) (atS (seenB D) w) (fun _ => -1) (σ (p + 2)) D.1.length
    (fun lp s hs => by unfold fX3_seenAt_L4s; rw [if_pos (by rw [h.1]; omega)])
    (fun lp s i hi hs => by
      have e : fX3_seenAt_L4s n σ p w lp s (i : Int) = if b2i (seenB D (σ (p + 2) i)) = 0 then lp s ((i : Int) + 1) else if s ≠ w then lp (s + 1) ((i : Int) + 1) else some (σ (p + 2) i) := by
        unfold fX3_seenAt_L4s
        rw [if_neg (by rw [h.1]; omega), b1_ok (q_inRow h hi), b1_ok (q_isSeen h _), ck_ok (by omega) (by omega), ck_ok (by omega) (by omega), ck_ok (by omega) (by omega), b1_ok (q_inRow h hi)]
      rw [e]
      unfold atS
      cases hb : seenB D (σ (p + 2) i)
      · exact Or.inr ⟨s, rfl, rfl, by omega⟩
      · by_cases hw : s = w
        · exact Or.inl ⟨σ (p + 2) i, by rw [if_pos rfl, if_pos hw], by rw [if_neg (by decide), if_neg (by omega)]⟩
        · exact Or.inr ⟨s + 1, by rw [if_pos rfl, if_neg hw], by rw [if_neg (by decide), if_pos hw], by omega⟩)
    D.1.length n 0 0 (Nat.zero_add _) (by omega) ⟨by decide, by decide⟩
  rw [h.2.2.1] at this
  exact this
theorem q_shownBlock (h : isP σ p D) (hn : 161 ≤ n) (w : Int) : fX3_shownBlock n σ p w = some (if w = 0 then -1 else runL (atS (brkB D) w) (fun _ => -2) 1 D.1) := by
  have hl := h.2.1
  unfold fX3_shownBlock
  by_cases hw0 : w = 0
  · rw [if_neg (by omega), if_pos hw0]
  rw [if_pos hw0, if_neg hw0]
  have := lpF (bot := fun _ _ => none) (F := fX3_shownBlock_L10s n σ p w) (fun i a => 0 ≤ a ∧ a ≤ (i : Int) + 1) (atS (brkB D) w) (fun _ => -2) (σ (p + 2)) D.1.length
    (fun lp s hs => by unfold fX3_shownBlock_L10s; rw [if_pos (by rw [h.1]; omega)])
    (fun lp s i hi hs => by
      have e : fX3_shownBlock_L10s n σ p w lp s (i : Int) = if b2i (brkB D (σ (p + 2) i)) = 0 then lp s ((i : Int) + 1) else if s ≠ w then lp (s + 1) ((i : Int) + 1) else some (σ (p + 2) i) := by
        unfold fX3_shownBlock_L10s
        rw [if_neg (by rw [h.1]; omega), b1_ok (q_inRow h hi), b1_ok (q_isShownBreak h _), ck_ok (by omega) (by omega), ck_ok (by omega) (by omega), ck_ok (by omega) (by omega), b1_ok (q_inRow h hi)]
      rw [e]
      unfold atS
      cases hb : brkB D (σ (p + 2) i)
      · exact Or.inr ⟨s, rfl, rfl, by omega⟩
      · by_cases hw : s = w
        · exact Or.inl ⟨σ (p + 2) i, by rw [if_pos rfl, if_pos hw], by rw [if_neg (by decide), if_neg (by omega)]⟩
        · exact Or.inr ⟨s + 1, by rw [if_pos rfl, if_neg hw], by rw [if_neg (by decide), if_pos hw], by omega⟩)
    D.1.length n 0 1 (Nat.zero_add _) (by omega) ⟨by decide, by decide⟩
  rw [h.2.2.1] at this
  exact this
/-- how many there are through an element -/
def thruS (P : Int → Bool) (e : Int) : Int → Int → Int ⊕ Int := fun a x => if x = e then .inl (a + b2i (P x)) else .inr (a + b2i (P x))
theorem q_seenThrough (h : isP σ p D) (hn : 161 ≤ n) (e : Int) : fX3_seenThrough n σ p e = some (runL (thruS (seenB D) e) (fun _ => 0) 0 D.1) := by
  have hl := h.2.1
  have := lpF (bot := fun _ _ => none) (F := fX3_seenThrough_L4s n σ p e) (fun i a => 0 ≤ a ∧ a ≤ (i : Int)) (thruS (seenB D) e) (fun _ => 0) (σ (p + 2)) D.1.length
    (fun lp s hs => by unfold fX3_seenThrough_L4s; rw [if_pos (by rw [h.1]; omega)])
    (fun lp s i hi hs => by
      have e1 : fX3_seenThrough_L4s n σ p e lp s (i : Int) = if σ (p + 2) i ≠ e then lp (s + b2i (seenB D (σ (p + 2) i))) ((i : Int) + 1) else some (s + b2i (seenB D (σ (p + 2) i))) := by
        unfold fX3_seenThrough_L4s fX3_seenThrough_J27
        rw [if_neg (by rw [h.1]; omega), b1_ok (q_inRow h hi), b1_ok (q_isSeen h _)]
        cases seenB D (σ (p + 2) i)
        · show (if (0 : Int) = 0 then _ else _) = if σ (p + 2) i ≠ e then lp (s + 0) _ else some (s + 0)
          rw [if_pos rfl, b1_ok (q_inRow h hi), ck_ok (by omega) (by omega), Int.add_zero]
        · show (if (1 : Int) = 0 then _ else _) = if σ (p + 2) i ≠ e then lp (s + 1) _ else some (s + 1)
          rw [if_neg (by decide), ck_ok (by omega) (by omega), b1_ok (q_inRow h hi), ck_ok (by omega) (by omega)]
      rw [e1]
      unfold thruS
      have hb := b2i_r (seenB D (σ (p + 2) i))
      by_cases hw : σ (p + 2) i = e
      · exact Or.inl ⟨_, by rw [if_pos hw], by rw [if_neg (by omega)]⟩
      · exact Or.inr ⟨_, by rw [if_neg hw], by rw [if_pos hw], by omega⟩)
    D.1.length n 0 0 (Nat.zero_add _) (by omega) ⟨by decide, by decide⟩
  rw [h.2.2.1] at this
  exact this
/-- the block of an element -/
def blkS (P : Int → Bool) (e : Int) : Int → Int → Int ⊕ Int := fun a x => if x = e then .inl (if P x = true then x else a) else .inr (if P x = true then x else a)
def blk (D : Dc) (e : Int) : Int := runL (blkS (brkB D) e) (fun _ => -1) (-1) D.1
theorem q_blockOf (h : isP σ p D) (hn : 161 ≤ n) (e : Int) : fX3_blockOf n σ p e = some (blk D e) := by
  have hl := h.2.1
  have := lpF (bot := fun _ _ => none) (F := fX3_blockOf_L4s n σ p e) (fun _ _ => True) (blkS (brkB D) e) (fun _ => -1) (σ (p + 2)) D.1.length
    (fun lp s hs => by unfold fX3_blockOf_L4s; rw [if_pos (by rw [h.1]; omega)])
    (fun lp s i hi hs => by
      have e1 : fX3_blockOf_L4s n σ p e lp s (i : Int) = if σ (p + 2) i ≠ e then lp (if brkB D (σ (p + 2) i) = true then σ (p + 2) i else s) ((i : Int) + 1) else some (if brkB D (σ (p + 2) i) = true then σ (p + 2) i else s) := by
        unfold fX3_blockOf_L4s fX3_blockOf_J30
        rw [if_neg (by rw [h.1]; omega), b1_ok (q_inRow h hi), b1_ok (q_isShownBreak h _), b1_ok (q_inRow h hi), b1_ok (q_inRow h hi), b1_ok (q_inRow h hi), ck_ok (by omega) (by omega), ck_ok (by omega) (by omega)]
        cases brkB D (σ (p + 2) i)
        · show (if (0 : Int) = 0 then _ else _) = _
          rw [if_pos rfl]; rfl
        · show (if (1 : Int) = 0 then _ else _) = _
          rw [if_neg (by decide)]; rfl
      rw [e1]
      unfold blkS
      by_cases hw : σ (p + 2) i = e
      · exact Or.inl ⟨_, by rw [if_pos hw], by rw [if_neg (by omega)]⟩
      · exact Or.inr ⟨_, by rw [if_neg hw], by rw [if_pos hw], trivial⟩)
    D.1.length n 0 (-1) (Nat.zero_add _) (by omega) trivial
  rw [h.2.2.1] at this
  exact this
theorem run_ix (e : Int) (L : List Int) : ∀ i : Nat, runL (optS (fun s x => if x = e then some (s : Int) else none)) (fun _ => (-1 : Int)) i L = if e ∈ L then ((i + ix e L : Nat) : Int) else -1 := by
  induction L with
  | nil => intro i; rw [if_neg List.not_mem_nil]; rfl
  | cons x L ih =>
    intro i
    by_cases hx : x = e
    · rw [runL_in (r := (i : Int)) (optS_s (if_pos hx)), if_pos (by rw [hx]; exact List.mem_cons_self)]
      show (i : Int) = ((i + (if x = e then 0 else ix e L + 1) : Nat) : Int)
      rw [if_pos hx]; rfl
    · rw [runL_go (s' := i + 1) (optS_n (if_neg hx)), ih]
      by_cases hm : e ∈ L
      · rw [if_pos hm, if_pos (List.mem_cons_of_mem _ hm)]
        show ((i + 1 + ix e L : Nat) : Int) = ((i + (if x = e then 0 else ix e L + 1) : Nat) : Int)
        rw [if_neg hx]; omega
      · rw [if_neg hm, if_neg (fun h => (List.mem_cons.mp h).elim (fun h => hx h.symm) hm)]
theorem q_placeOf (h : isP σ p D) (hn : 161 ≤ n) (e : Int) : fX3_placeOf n σ p e = some (if e ∈ D.1 then (ix e D.1 : Int) else -1) := by
  have hl := h.2.1
  have := lpF0 (bot := fun _ => none) (F := fX3_placeOf_L2s n σ p e) (fun s x => if x = e then some (s : Int) else none) (-1) (σ (p + 2)) D.1.length
    (fun lp => by unfold fX3_placeOf_L2s; rw [if_pos (by rw [h.1]; omega)])
    (fun lp i hi => by
      have e1 : fX3_placeOf_L2s n σ p e lp (i : Int) = if σ (p + 2) i ≠ e then lp ((i : Int) + 1) else some (i : Int) := by
        unfold fX3_placeOf_L2s
        rw [if_neg (by rw [h.1]; omega), b1_ok (q_inRow h hi), ck_ok (by omega) (by omega)]
      rw [e1]
      by_cases hw : σ (p + 2) i = e
      · exact Or.inl ⟨_, by rw [if_pos hw], by rw [if_neg (by omega)]⟩
      · exact Or.inr ⟨by rw [if_neg hw], by rw [if_pos hw]⟩)
    D.1.length n 0 (Nat.zero_add _) (by omega)
  rw [h.2.2.1, run_ix, Nat.zero_add] at this
  exact this
end PAPER

