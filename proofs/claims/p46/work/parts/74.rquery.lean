/-! ===== questions to the reference ===== -/
def cntR (R : Type) (P : Int → Bool) : Int → Int → R ⊕ Int := fun a x => .inr (a + b2i (P x))
theorem run_cntF {R : Type} (P : Int → Bool) (fin : Int → R) (L : List Int) : ∀ a, runL (cntR R P) fin a L = fin (a + cnt P L) := by
  induction L with
  | nil => intro a; show fin a = fin (a + 0); rw [Int.add_zero]
  | cons x L ih =>
    intro a
    show runL (cntR R P) fin (a + b2i (P x)) L = fin (a + (b2i (P x) + cnt P L))
    rw [ih, Int.add_assoc]
theorem r_cnt {R : Type} {bot : Int → Int → Option R} {F : (Int → Int → Option R) → Int → Int → Option R} {n : Nat} (P : Int → Bool) (fin : Int → R) (f : Nat → Int) (len : Nat) (c0 : Int) (hc : 0 ≤ c0 ∧ c0 ≤ 1) (hn : len < n)
    (hend : ∀ lp s, F lp s (len : Int) = some (fin s)) (hstep : ∀ lp s i, i < len → 0 ≤ s → s ≤ (i : Int) + 1 → F lp s (i : Int) = lp (s + b2i (P (f i))) ((i : Int) + 1)) :
    lpR bot F n c0 0 = some (fin (c0 + cnt P (seg f 0 len))) := by
  have := lpF (bot := bot) (F := F) (fun i a => 0 ≤ a ∧ a ≤ (i : Int) + 1) (cntR R P) fin f len (fun lp s _ => hend lp s)
    (fun lp s i hi hs => Or.inr ⟨_, rfl, hstep lp s i hi hs.1 hs.2, by have := b2i_r (P (f i)); omega⟩)
    len n 0 c0 (Nat.zero_add _) hn ⟨hc.1, by omega⟩
  rw [run_cntF] at this
  exact this
theorem if_b2i {α : Type} {b : Bool} {A B : α} : (if b2i b = 0 then A else B) = if b = true then B else A := by cases b <;> rfl
theorem lp_b {R : Type} (lp : Int → Int → R) (b : Bool) (s i : Int) : (if b = true then lp (s + 1) i else lp (s + 0) i) = lp (s + b2i b) i := by
  cases b
  · rw [if_neg (by decide)]; rfl
  · rw [if_pos rfl]; rfl
theorem seg_take {f : Nat → Int} {L : List Int} {q : Nat} (h : seg f 0 L.length = L) (hq : q ≤ L.length) : seg f 0 q = L.take q := by
  have e3 : L.length = q + (L.length - q) := by omega
  rw [e3, seg_add] at h
  have := congrArg (List.take q) h
  rw [List.take_append_of_le_length (by rw [seg_len]; exact Nat.le_refl _), List.take_of_length_le (by rw [seg_len]; exact Nat.le_refl _)] at this
  exact this
section AT
variable {P : Int → Bool}
theorem at_in (L : List Int) : ∀ (c w : Int) (fin : Int → Int), c ≤ w → w < c + cnt P L → runL (atS P w) fin c L ∈ L ∧ P (runL (atS P w) fin c L) = true := by
  induction L with
  | nil => intro c w fin h1 h2; have : w < c + 0 := h2; omega
  | cons x L ih =>
    intro c w fin h1 h2
    have h2' : w < c + (b2i (P x) + cnt P L) := h2
    by_cases hp : P x = true
    · by_cases hw : c = w
      · rw [runL_in (r := x) (by unfold atS; rw [if_pos hp, if_pos hw])]
        exact ⟨List.mem_cons_self, hp⟩
      · rw [runL_go (s' := c + 1) (by unfold atS; rw [if_pos hp, if_neg hw])]
        rw [hp] at h2'
        have h2'' : w < c + (1 + cnt P L) := h2'
        have := ih (c + 1) w fin (by omega) (by omega)
        exact ⟨List.mem_cons_of_mem _ this.1, this.2⟩
    · rw [runL_go (s' := c) (by unfold atS; rw [if_neg hp])]
      rw [Bool.eq_false_iff.mpr hp] at h2'
      have h2'' : w < c + (0 + cnt P L) := h2'
      have := ih c w fin h1 (by omega)
      exact ⟨List.mem_cons_of_mem _ this.1, this.2⟩
theorem at_out (L : List Int) : ∀ (c w d : Int), w < c ∨ c + cnt P L ≤ w → runL (atS P w) (fun _ => d) c L = d := by
  induction L with
  | nil => intro c w d h; rfl
  | cons x L ih =>
    intro c w d h
    have h2' : w < c ∨ c + (b2i (P x) + cnt P L) ≤ w := h
    by_cases hp : P x = true
    · rw [hp] at h2'
      have h2'' : w < c ∨ c + (1 + cnt P L) ≤ w := h2'
      have := (cnt_le P L).1
      rw [runL_go (s' := c + 1) (by unfold atS; rw [if_pos hp, if_neg (by omega)])]
      exact ih (c + 1) w d (by omega)
    · rw [Bool.eq_false_iff.mpr hp] at h2'
      have h2'' : w < c ∨ c + (0 + cnt P L) ≤ w := h2'
      rw [runL_go (s' := c) (by unfold atS; rw [if_neg hp])]
      exact ih c w d (by omega)
theorem at_fin (L : List Int) : ∀ (c w : Int) (fin fin2 : Int → Int), c ≤ w → w < c + cnt P L → runL (atS P w) fin c L = runL (atS P w) fin2 c L := by
  induction L with
  | nil => intro c w fin fin2 h1 h2; have : w < c + 0 := h2; omega
  | cons x L ih =>
    intro c w fin fin2 h1 h2
    have h2' : w < c + (b2i (P x) + cnt P L) := h2
    by_cases hp : P x = true
    · by_cases hw : c = w
      · rw [runL_in (r := x) (by unfold atS; rw [if_pos hp, if_pos hw]), runL_in (r := x) (by unfold atS; rw [if_pos hp, if_pos hw])]
      · rw [hp] at h2'
        have h2'' : w < c + (1 + cnt P L) := h2'
        rw [runL_go (s' := c + 1) (by unfold atS; rw [if_pos hp, if_neg hw]), runL_go (s' := c + 1) (by unfold atS; rw [if_pos hp, if_neg hw])]
        exact ih (c + 1) w fin fin2 (by omega) (by omega)
    · rw [Bool.eq_false_iff.mpr hp] at h2'
      have h2'' : w < c + (0 + cnt P L) := h2'
      rw [runL_go (s' := c) (by unfold atS; rw [if_neg hp]), runL_go (s' := c) (by unfold atS; rw [if_neg hp])]
      exact ih c w fin fin2 h1 (by omega)
theorem thru_at (L : List Int) : ∀ (c w a : Int) (fin fin2 : Int → Int), L.Nodup → c ≤ w → w < c + cnt P L → runL (thruS P (runL (atS P w) fin c L)) fin2 a L = a + (w - c) + 1 := by
  induction L with
  | nil => intro c w a fin fin2 _ h1 h2; have : w < c + 0 := h2; omega
  | cons x L ih =>
    intro c w a fin fin2 hnd h1 h2
    rw [List.nodup_cons] at hnd
    have h2' : w < c + (b2i (P x) + cnt P L) := h2
    by_cases hp : P x = true
    · by_cases hw : c = w
      · rw [runL_in (step := atS P w) (r := x) (by unfold atS; rw [if_pos hp, if_pos hw])]
        rw [runL_in (r := a + b2i (P x)) (by unfold thruS; rw [if_pos rfl]), hp]
        show a + 1 = _
        omega
      · rw [hp] at h2'
        have h2'' : w < c + (1 + cnt P L) := h2'
        rw [runL_go (step := atS P w) (s' := c + 1) (by unfold atS; rw [if_pos hp, if_neg hw])]
        have hin := (at_in (P := P) L (c + 1) w fin (by omega) (by omega)).1
        rw [runL_go (s' := a + b2i (P x)) (by unfold thruS; rw [if_neg (fun q => hnd.1 (by rw [q]; exact hin))])]
        rw [ih (c + 1) w _ fin fin2 hnd.2 (by omega) (by omega), hp]
        show a + 1 + (w - (c + 1)) + 1 = _
        omega
    · rw [Bool.eq_false_iff.mpr hp] at h2'
      have h2'' : w < c + (0 + cnt P L) := h2'
      rw [runL_go (step := atS P w) (s' := c) (by unfold atS; rw [if_neg hp])]
      have hin := (at_in (P := P) L c w fin h1 (by omega)).1
      rw [runL_go (s' := a + b2i (P x)) (by unfold thruS; rw [if_neg (fun q => hnd.1 (by rw [q]; exact hin))])]
      rw [ih c w _ fin fin2 hnd.2 h1 (by omega), Bool.eq_false_iff.mpr hp]
      show a + 0 + (w - c) + 1 = _
      omega
theorem thru_take {e : Int} (L : List Int) : ∀ (a : Int) (fin : Int → Int), e ∈ L → runL (thruS P e) fin a L = a + cnt P (L.take (ix e L + 1)) := by
  induction L with
  | nil => intro a fin h; cases h
  | cons x L ih =>
    intro a fin h
    by_cases hx : x = e
    · rw [runL_in (r := a + b2i (P x)) (by unfold thruS; rw [if_pos hx])]
      have : ix e (x :: L) = 0 := if_pos hx
      rw [this]
      show _ = a + (b2i (P x) + 0)
      omega
    · rw [runL_go (s' := a + b2i (P x)) (by unfold thruS; rw [if_neg hx])]
      have : ix e (x :: L) = ix e L + 1 := if_neg hx
      rw [this, ih _ fin ((List.mem_cons.mp h).resolve_left (fun q => hx q.symm))]
      show _ = a + (b2i (P x) + cnt P (L.take (ix e L + 1)))
      omega
theorem thru_not {e : Int} (L : List Int) : ∀ (a d : Int), e ∉ L → runL (thruS P e) (fun _ => d) a L = d := by
  induction L with
  | nil => intro a d h; rfl
  | cons x L ih =>
    intro a d h
    rw [runL_go (s' := a + b2i (P x)) (by unfold thruS; rw [if_neg (fun q => h (by rw [q]; exact List.mem_cons_self))])]
    exact ih _ d (fun q => h (List.mem_cons_of_mem _ q))
def bnF (P : Int → Bool) (w : Int) : Int → Int → List Int → Int
  | _, f, [] => f
  | c, f, x :: L => if P x = true then bnF P w (c + 1) (if c + 1 = w then x else f) L else bnF P w c f L
theorem bnF_ge (w : Int) (L : List Int) : ∀ c f, w ≤ c → bnF P w c f L = f := by
  induction L with
  | nil => intro c f _; rfl
  | cons x L ih =>
    intro c f h
    show (if P x = true then bnF P w (c + 1) (if c + 1 = w then x else f) L else bnF P w c f L) = f
    rw [if_neg (show ¬ (c + 1 = w) by omega), ih _ _ (show w ≤ c + 1 by omega), ih _ _ h]
    split <;> rfl
theorem bnF_lt (w : Int) (L : List Int) : ∀ c f, c < w → bnF P w c f L = runL (atS P w) (fun _ => f) (c + 1) L := by
  induction L with
  | nil => intro c f _; rfl
  | cons x L ih =>
    intro c f h
    show (if P x = true then bnF P w (c + 1) (if c + 1 = w then x else f) L else bnF P w c f L) = _
    by_cases hp : P x = true
    · rw [if_pos hp]
      by_cases hw : c + 1 = w
      · rw [if_pos hw, bnF_ge _ _ _ _ (by omega), runL_in (r := x) (by unfold atS; rw [if_pos hp, if_pos hw])]
      · rw [if_neg hw, ih _ _ (by omega), runL_go (s' := c + 1 + 1) (by unfold atS; rw [if_pos hp, if_neg hw])]
    · rw [if_neg hp, ih _ _ h, runL_go (s' := c + 1) (by unfold atS; rw [if_neg hp])]
theorem cnt_sub (L : List Int) : ∀ (M : List Int), L.Nodup → (∀ x, x ∈ L → P x = true → x ∈ M) → cnt P L ≤ cnt P M := by
  induction L with
  | nil => intro M _ _; exact (cnt_le P M).1
  | cons x L ih =>
    intro M hnd h
    rw [List.nodup_cons] at hnd
    show b2i (P x) + cnt P L ≤ cnt P M
    by_cases hp : P x = true
    · obtain ⟨A, B, hAB⟩ := List.append_of_mem (h x List.mem_cons_self hp)
      have := ih (A ++ B) hnd.2 (fun y hy hq => by
        have hy2 := h y (List.mem_cons_of_mem _ hy) hq
        rw [hAB, List.mem_append, List.mem_cons] at hy2
        rw [List.mem_append]
        rcases hy2 with q | q | q
        · exact Or.inl q
        · exact absurd (q ▸ hy) hnd.1
        · exact Or.inr q)
      rw [hAB, cnt_app]
      rw [cnt_app] at this
      show b2i (P x) + cnt P L ≤ cnt P A + (b2i (P x) + cnt P B)
      omega
    · rw [Bool.eq_false_iff.mpr hp]
      have := ih M hnd.2 (fun y hy hq => h y (List.mem_cons_of_mem _ hy) hq)
      show 0 + cnt P L ≤ cnt P M
      omega
theorem cnt_same {L M : List Int} (hL : L.Nodup) (hM : M.Nodup) (h : ∀ x, P x = true → (x ∈ L ↔ x ∈ M)) : cnt P L = cnt P M :=
  Int.le_antisymm (cnt_sub L M hL (fun x hx hp => (h x hp).mp hx)) (cnt_sub M L hM (fun x hx hp => (h x hp).mpr hx))
end AT
section RQ
variable {T σ : St} {N n : Nat} {D : Dc}
end RQ

