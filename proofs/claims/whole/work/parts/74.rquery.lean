/-! ===== questions to the reference ===== -/
def cntR (R : Type) (P : Int → Bool) : Int → Int → R ⊕ Int := fun a x => .inr (a + b2i (P x))
theorem run_cntF {R : Type} (P : Int → Bool) (fin : Int → R) (L : List Int) : ∀ a, runL (cntR R P) fin a L = fin (a + cnt P L) := by
  induction L with
  | nil => intro a; show fin a = fin (a + 0); rw [Int.add_zero]
  | cons x L ih =>
    intro a
    show runL (cntR R P) fin (a + b2i (P x)) L = fin (a + (b2i (P x) + cnt P L))
    rw [ih, Int.add_assoc]
theorem r_cnt {R : Type} {bot : Int → Int → Option R} {F : (Int → Int → Option R) → Int → Int → Option R} {n : Nat} (P : Int → Bool) (fin : Int → R) (f : Nat → Int) (len : Nat) (c0 : Int) (hc : 0 ≤ c0 ∧ c0 ≤ 1) (hn : len < n)
    (hend : ∀ lp s, F lp s (len : Int) = some (fin s)) (hstep : ∀ lp s i, i < len → 0 ≤ s → s ≤ (i : Int) + 1 → F lp s (i : Int) = lp (s + b2i (P (f i))) ((i : Int) + 1)) :
    lpR bot F n c0 0 = some (fin (c0 + cnt P (seg f 0 len))) := by
  have := lpF (bot := bot) (F := F) (fun i a => 0 ≤ a ∧ a ≤ (i : Int) + 1) (cntR R P) fin f len (fun lp s _ => hend lp s)
    (fun lp s i hi hs => Or.inr ⟨_, rfl, hstep lp s i hi hs.1 hs.2, by have := b2i_r (P (f i)); omega⟩)
    len n 0 c0 (Nat.zero_add _) hn ⟨hc.1, by omega⟩
  rw [run_cntF] at this
  exact this
theorem if_b2i {α : Type} {b : Bool} {A B : α} : (if b2i b = 0 then A else B) = if b = true then B else A := by cases b <;> rfl
theorem lp_b {R : Type} (lp : Int → Int → R) (b : Bool) (s i : Int) : (if b = true then lp (s + 1) i else lp (s + 0) i) = lp (s + b2i b) i := by
  cases b
  · rw [if_neg (by decide)]; rfl
  · rw [if_pos rfl]; rfl
theorem seg_take {f : Nat → Int} {L : List Int} {q : Nat} (h : seg f 0 L.length = L) (hq : q ≤ L.length) : seg f 0 q = L.take q := by
  have e3 : L.length = q + (L.length - q) := by omega
  rw [e3, seg_add] at h
  have := congrArg (List.take q) h
  rw [List.take_append_of_le_length (by rw [seg_len]; exact Nat.le_refl _), List.take_of_length_le (by rw [seg_len]; exact Nat.le_refl _)] at this
  exact this
section AT
variable {P : Int → Bool}
theorem at_in (L : List Int) : ∀ (c w : Int) (fin : Int → Int), c ≤ w → w < c + cnt P L → runL (atS P w) fin c L ∈ L ∧ P (runL (atS P w) fin c L) = true := by
  induction L with
  | nil => intro c w fin h1 h2; have : w < c + 0 := h2; omega
  | cons x L ih =>
    intro c w fin h1 h2
    have h2' : w < c + (b2i (P x) + cnt P L) := h2
    by_cases hp : P x = true
    · by_cases hw : c = w
      · rw [runL_in (r := x) (by unfold atS; rw [if_pos hp, if_pos hw])]
        exact ⟨List.mem_cons_self, hp⟩
      · rw [runL_go (s' := c + 1) (by unfold atS; rw [if_pos hp, if_neg hw])]
        rw [hp] at h2'
        have h2'' : w < c + (1 + cnt P L) := h2'
        have := ih (c + 1) w fin (by omega) (by omega)
        exact ⟨List.mem_cons_of_mem _ this.1, this.2⟩
    · rw [runL_go (s' := c) (by unfold atS; rw [if_neg hp])]
      rw [Bool.eq_false_iff.mpr hp] at h2'
      have h2'' : w < c + (0 + cnt P L) := h2'
      have := ih c w fin h1 (by omega)
      exact ⟨List.mem_cons_of_mem _ this.1, this.2⟩
theorem at_out (L : List Int) : ∀ (c w d : Int), w < c ∨ c + cnt P L ≤ w → runL (atS P w) (fun _ => d) c L = d := by
  induction L with
  | nil => intro c w d h; rfl
  | cons x L ih =>
    intro c w d h
    have h2' : w < c ∨ c + (b2i (P x) + cnt P L) ≤ w := h
    by_cases hp : P x = true
    · rw [hp] at h2'
      have h2'' : w < c ∨ c + (1 + cnt P L) ≤ w := h2'
      have := (cnt_le P L).1
      rw [runL_go (s' := c + 1) (by unfold atS; rw [if_pos hp, if_neg (by omega)])]
      exact ih (c + 1) w d (by omega)
    · rw [Bool.eq_false_iff.mpr hp] at h2'
      have h2'' : w < c ∨ c + (0 + cnt P L) ≤ w := h2'
      rw [runL_go (s' := c) (by unfold atS; rw [if_neg hp])]
      exact ih c w d (by omega)
theorem at_fin (L : List Int) : ∀ (c w : Int) (fin fin2 : Int → Int), c ≤ w → w < c + cnt P L → runL (atS P w) fin c L = runL (atS P w) fin2 c L := by
  induction L with
  | nil => intro c w fin fin2 h1 h2; have : w < c + 0 := h2; omega
  | cons x L ih =>
    intro c w fin fin2 h1 h2
    have h2' : w < c + (b2i (P x) + cnt P L) := h2
    by_cases hp : P x = true
    · by_cases hw : c = w
      · rw [runL_in (r := x) (by unfold atS; rw [if_pos hp, if_pos hw]), runL_in (r := x) (by unfold atS; rw [if_pos hp, if_pos hw])]
      · rw [hp] at h2'
        have h2'' : w < c + (1 + cnt P L) := h2'
        rw [runL_go (s' := c + 1) (by unfold atS; rw [if_pos hp, if_neg hw]), runL_go (s' := c + 1) (by unfold atS; rw [if_pos hp, if_neg hw])]
        exact ih (c + 1) w fin fin2 (by omega) (by omega)
    · rw [Bool.eq_false_iff.mpr hp] at h2'
      have h2'' : w < c + (0 + cnt P L) := h2'
      rw [runL_go (s' := c) (by unfold atS; rw [if_neg hp]), runL_go (s' := c) (by unfold atS; rw [if_neg hp])]
      exact ih c w fin fin2 h1 (by omega)
theorem thru_at (L : List Int) : ∀ (c w a : Int) (fin fin2 : Int → Int), L.Nodup → c ≤ w → w < c + cnt P L → runL (thruS P (runL (atS P w) fin c L)) fin2 a L = a + (w - c) + 1 := by
  induction L with
  | nil => intro c w a fin fin2 _ h1 h2; have : w < c + 0 := h2; omega
  | cons x L ih =>
    intro c w a fin fin2 hnd h1 h2
    rw [List.nodup_cons] at hnd
    have h2' : w < c + (b2i (P x) + cnt P L) := h2
    by_cases hp : P x = true
    · by_cases hw : c = w
      · rw [runL_in (step := atS P w) (r := x) (by unfold atS; rw [if_pos hp, if_pos hw])]
        rw [runL_in (r := a + b2i (P x)) (by unfold thruS; rw [if_pos rfl]), hp]
        show a + 1 = _
        omega
      · rw [hp] at h2'
        have h2'' : w < c + (1 + cnt P L) := h2'
        rw [runL_go (step := atS P w) (s' := c + 1) (by unfold atS; rw [if_pos hp, if_neg hw])]
        have hin := (at_in (P := P) L (c + 1) w fin (by omega) (by omega)).1
        rw [runL_go (s' := a + b2i (P x)) (by unfold thruS; rw [if_neg (fun q => hnd.1 (by rw [q]; exact hin))])]
        rw [ih (c + 1) w _ fin fin2 hnd.2 (by omega) (by omega), hp]
        show a + 1 + (w - (c + 1)) + 1 = _
        omega
    · rw [Bool.eq_false_iff.mpr hp] at h2'
      have h2'' : w < c + (0 + cnt P L) := h2'
      rw [runL_go (step := atS P w) (s' := c) (by unfold atS; rw [if_neg hp])]
      have hin := (at_in (P := P) L c w fin h1 (by omega)).1
      rw [runL_go (s' := a + b2i (P x)) (by unfold thruS; rw [if_neg (fun q => hnd.1 (by rw [q]; exact hin))])]
      rw [ih c w _ fin fin2 hnd.2 h1 (by omega), Bool.eq_false_iff.mpr hp]
      show a + 0 + (w - c) + 1 = _
      omega
theorem thru_take {e : Int} (L : List Int) : ∀ (a : Int) (fin : Int → Int), e ∈ L → runL (thruS P e) fin a L = a + cnt P (L.take (ix e L + 1)) := by
  induction L with
  | nil => intro a fin h; cases h
  | cons x L ih =>
    intro a fin h
    by_cases hx : x = e
    · rw [runL_in (r := a + b2i (P x)) (by unfold thruS; rw [if_pos hx])]
      have : ix e (x :: L) = 0 := if_pos hx
      rw [this]
      show _ = a + (b2i (P x) + 0)
      omega
    · rw [runL_go (s' := a + b2i (P x)) (by unfold thruS; rw [if_neg hx])]
      have : ix e (x :: L) = ix e L + 1 := if_neg hx
      rw [this, ih _ fin ((List.mem_cons.mp h).resolve_left (fun q => hx q.symm))]
      show _ = a + (b2i (P x) + cnt P (L.take (ix e L + 1)))
      omega
theorem thru_not {e : Int} (L : List Int) : ∀ (a d : Int), e ∉ L → runL (thruS P e) (fun _ => d) a L = d := by
  induction L with
  | nil => intro a d h; rfl
  | cons x L ih =>
    intro a d h
    rw [runL_go (s' := a + b2i (P x)) (by unfold thruS; rw [if_neg (fun q => h (by rw [q]; exact List.mem_cons_self))])]
    exact ih _ d (fun q => h (List.mem_cons_of_mem _ q))
def bnF (P : Int → Bool) (w : Int) : Int → Int → List Int → Int
  | _, f, [] => f
  | c, f, x :: L => if P x = true then bnF P w (c + 1) (if c + 1 = w then x else f) L else bnF P w c f L
theorem bnF_ge (w : Int) (L : List Int) : ∀ c f, w ≤ c → bnF P w c f L = f := by
  induction L with
  | nil => intro c f _; rfl
  | cons x L ih =>
    intro c f h
    show (if P x = true then bnF P w (c + 1) (if c + 1 = w then x else f) L else bnF P w c f L) = f
    rw [if_neg (show ¬ (c + 1 = w) by omega), ih _ _ (show w ≤ c + 1 by omega), ih _ _ h]
    split <;> rfl
theorem bnF_lt (w : Int) (L : List Int) : ∀ c f, c < w → bnF P w c f L = runL (atS P w) (fun _ => f) (c + 1) L := by
  induction L with
  | nil => intro c f _; rfl
  | cons x L ih =>
    intro c f h
    show (if P x = true then bnF P w (c + 1) (if c + 1 = w then x else f) L else bnF P w c f L) = _
    by_cases hp : P x = true
    · rw [if_pos hp]
      by_cases hw : c + 1 = w
      · rw [if_pos hw, bnF_ge _ _ _ _ (by omega), runL_in (r := x) (by unfold atS; rw [if_pos hp, if_pos hw])]
      · rw [if_neg hw, ih _ _ (by omega), runL_go (s' := c + 1 + 1) (by unfold atS; rw [if_pos hp, if_neg hw])]
    · rw [if_neg hp, ih _ _ h, runL_go (s' := c + 1) (by unfold atS; rw [if_neg hp])]
theorem cnt_sub (L : List Int) : ∀ (M : List Int), L.Nodup → (∀ x, x ∈ L → P x = true → x ∈ M) → cnt P L ≤ cnt P M := by
  induction L with
  | nil => intro M _ _; exact (cnt_le P M).1
  | cons x L ih =>
    intro M hnd h
    rw [List.nodup_cons] at hnd
    show b2i (P x) + cnt P L ≤ cnt P M
    by_cases hp : P x = true
    · obtain ⟨A, B, hAB⟩ := List.append_of_mem (h x List.mem_cons_self hp)
      have := ih (A ++ B) hnd.2 (fun y hy hq => by
        have hy2 := h y (List.mem_cons_of_mem _ hy) hq
        rw [hAB, List.mem_append, List.mem_cons] at hy2
        rw [List.mem_append]
        rcases hy2 with q | q | q
        · exact Or.inl q
        · exact absurd (q ▸ hy) hnd.1
        · exact Or.inr q)
      rw [hAB, cnt_app]
      rw [cnt_app] at this
      show b2i (P x) + cnt P L ≤ cnt P A + (b2i (P x) + cnt P B)
      omega
    · rw [Bool.eq_false_iff.mpr hp]
      have := ih M hnd.2 (fun y hy hq => h y (List.mem_cons_of_mem _ hy) hq)
      show 0 + cnt P L ≤ cnt P M
      omega
theorem cnt_same {L M : List Int} (hL : L.Nodup) (hM : M.Nodup) (h : ∀ x, P x = true → (x ∈ L ↔ x ∈ M)) : cnt P L = cnt P M :=
  Int.le_antisymm (cnt_sub L M hL (fun x hx hp => (h x hp).mp hx)) (cnt_sub M L hM (fun x hx hp => (h x hp).mpr hx))
end AT
section RQ
variable {T σ : St} {N n : Nat} {D : Dc}
theorem r_seen (h : isR σ N D) (hd : DI T N D) (hN : N ≤ 160) (hn : 161 ≤ n) : fX6_seen n σ = some (cnt (seenB D) D.1) := by
  have hl := h.2.1
  have := r_cnt (n := n) (bot := fun _ _ => none) (F := fX6_seen_L4s n σ) (seenB D) (fun a => a) (σ 264) D.1.length 0 (by decide) (by omega)
    (fun lp s => by unfold fX6_seen_L4s; rw [if_pos (by rw [h.1]; omega)])
    (fun lp s i hi h1 h2 => by
      unfold fX6_seen_L4s
      rw [if_neg (by rw [h.1]; omega), rd_ok (by omega) (by omega), Int.toNat_natCast, b1_ok (r_isSeen h hd hN (h.mem hi)), ck_ok (by omega) (by omega), ck_ok (by omega) (by omega), ck_ok (by omega) (by omega), ck_ok (by omega) (by omega), if_b2i]
      exact lp_b lp _ s _)
  rw [h.2.2.1, Int.zero_add] at this
  exact this
theorem r_shownN (h : isR σ N D) (hd : DI T N D) (hN : N ≤ 160) (hn : 161 ≤ n) (s : Int) : fX6_shown_L27 n σ s n 0 0 = some (cnt (shownB D) D.1, σ) := by
  have hl := h.2.1
  have := r_cnt (n := n) (bot := fun _ _ => none) (F := fX6_shown_L27s n σ s) (shownB D) (fun a => (a, σ)) (σ 264) D.1.length 0 (by decide) (by omega)
    (fun lp s => by unfold fX6_shown_L27s; rw [if_pos (by rw [h.1]; omega)])
    (fun lp s i hi h1 h2 => by
      unfold fX6_shown_L27s
      rw [if_neg (by rw [h.1]; omega), rd_ok (by omega) (by omega), Int.toNat_natCast, b1_ok (r_isShown h hd hN (h.mem hi)), ck_ok (by omega) (by omega), ck_ok (by omega) (by omega), ck_ok (by omega) (by omega), ck_ok (by omega) (by omega), if_b2i]
      exact lp_b lp _ s _)
  rw [h.2.2.1, Int.zero_add] at this
  exact this
theorem r_shownBlocks (h : isR σ N D) (hr : RT T σ N) (hd : DI T N D) (hN : N ≤ 160) (hn : 161 ≤ n) : fX6_shownBlocks n σ = some (1 + cnt (brkB D) D.1) := by
  have hl := h.2.1
  have := r_cnt (n := n) (bot := fun _ _ => none) (F := fX6_shownBlocks_L4s n σ) (brkB D) (fun a => a) (σ 264) D.1.length 1 (by decide) (by omega)
    (fun lp s => by unfold fX6_shownBlocks_L4s; rw [if_pos (by rw [h.1]; omega)])
    (fun lp s i hi h1 h2 => by
      have hx := hd.row hN (h.mem hi)
      have hb := brk_shown hd hN (h.mem hi)
      have ht := (hr.2 (σ 264 i).toNat (by omega)).2.2.1
      unfold fX6_shownBlocks_L4s
      rw [if_neg (by rw [h.1]; omega), rd_ok (by omega) (by omega), Int.toNat_natCast, rd_ok hx.1.1 hx.1.2, ht]
      by_cases k1 : T 11 (σ 264 i).toNat = 1
      · rw [if_neg (by omega), rd_ok (by omega) (by omega), Int.toNat_natCast, b1_ok (r_isShown h hd hN (h.mem hi)), ck_ok (by omega) (by omega), ck_ok (by omega) (by omega), ck_ok (by omega) (by omega), ck_ok (by omega) (by omega), if_b2i, hb, decide_eq_true k1, Bool.true_and]
        exact lp_b lp _ s _
      · rw [if_pos k1, ck_ok (by omega) (by omega), ck_ok (by omega) (by omega), hb, decide_eq_false k1, Bool.false_and]
        rfl)
  rw [h.2.2.1] at this
  exact this
theorem r_seenAt (h : isR σ N D) (hd : DI T N D) (hN : N ≤ 160) (hn : 161 ≤ n) (w : Int) : fX6_seenAt n σ w = some (runL (atS (seenB D) w) (fun _ => -1) 0 D.1) := by
  have hl := h.2.1
  have := lpF (bot := fun _ _ => none) (F := fX6_seenAt_L4s n σ w) (fun i a => 0 ≤ a ∧ a ≤ (i : Int)) (atS (seenB D) w) (fun _ => -1) (σ 264) D.1.length
    (fun lp s hs => by unfold fX6_seenAt_L4s; rw [if_pos (by rw [h.1]; omega)])
    (fun lp s i hi hs => by
      have e : fX6_seenAt_L4s n σ w lp s (i : Int) = if b2i (seenB D (σ 264 i)) = 0 then lp s ((i : Int) + 1) else if s ≠ w then lp (s + 1) ((i : Int) + 1) else some (σ 264 i) := by
        unfold fX6_seenAt_L4s
        rw [if_neg (by rw [h.1]; omega), rd_ok (by omega) (by omega), Int.toNat_natCast, b1_ok (r_isSeen h hd hN (h.mem hi)), ck_ok (by omega) (by omega), ck_ok (by omega) (by omega), ck_ok (by omega) (by omega), rd_ok (by omega) (by omega), Int.toNat_natCast]
      rw [e]
      unfold atS
      cases hb : seenB D (σ 264 i)
      · exact Or.inr ⟨s, rfl, rfl, by omega⟩
      · by_cases hw : s = w
        · exact Or.inl ⟨σ 264 i, by rw [if_pos rfl, if_pos hw], by rw [if_neg (by decide), if_neg (by omega)]⟩
        · exact Or.inr ⟨s + 1, by rw [if_pos rfl, if_neg hw], by rw [if_neg (by decide), if_pos hw], by omega⟩)
    D.1.length n 0 0 (Nat.zero_add _) (by omega) ⟨by decide, by decide⟩
  rw [h.2.2.1] at this
  exact this
theorem r_placeOf (h : isR σ N D) (hd : DI T N D) (hN : N ≤ 160) (hn : 200 ≤ n) {e : Int} (he : e = -1 ∨ e ∈ D.1) : fX6_placeOf n σ e = some (runL (thruS (seenB D) e) (fun _ => 0) 0 D.1) := by
  have hl := h.2.1
  unfold fX6_placeOf
  by_cases h1 : e = -1
  · rw [if_neg (fun q => q h1), h1, thru_not _ _ _ (fun q => by have := (hd.row hN q).1; omega)]
    obtain ⟨m, rfl⟩ : ∃ q, n = q + 1 := ⟨n - 1, by omega⟩
    unfold fX6_placeOf_L20
    rw [lpR_s]
    unfold fX6_placeOf_L20s
    rw [if_pos (by decide)]
  · rw [if_pos h1]
    have hm := he.resolve_left h1
    have hi := ix_lt hm
    rw [b1_ok (r_spot h (by omega) e), thru_take _ _ _ hm]
    have := r_cnt (n := n) (bot := fun _ _ => none) (F := fX6_placeOf_L20s n σ e (ix e D.1 : Int)) (seenB D) (fun a => a) (σ 264) (ix e D.1 + 1) 0 (by decide) (by omega)
      (fun lp s => by unfold fX6_placeOf_L20s; rw [if_pos (by omega)])
      (fun lp s i hj h1 h2 => by
        unfold fX6_placeOf_L20s
        rw [if_neg (by omega), rd_ok (by omega) (by omega), Int.toNat_natCast, b1_ok (r_isSeen h hd hN (h.mem (by omega))), ck_ok (by omega) (by omega), ck_ok (by omega) (by omega), ck_ok (by omega) (by omega), ck_ok (by omega) (by omega), if_b2i]
        exact lp_b lp _ s _)
    have e2 : seg (σ 264) 0 (ix e D.1 + 1) = D.1.take (ix e D.1 + 1) := seg_take h.2.2.1 (by omega)
    rw [e2] at this
    exact this
theorem r_blockNumber (h : isR σ N D) (hr : RT T σ N) (hd : DI T N D) (hN : N ≤ 160) (hn : 161 ≤ n) {w : Int} (hw : 0 ≤ w ∧ w ≤ cnt (brkB D) D.1) : fX6_blockNumber n σ w = some (if w = 0 then -1 else runL (atS (brkB D) w) (fun _ => -2) 1 D.1) := by
  have hl := h.2.1
  have key : ∀ (k m i : Nat) (c f : Int), i + k = D.1.length → k < m → 0 ≤ c → c ≤ (i : Int) → fX6_blockNumber_L7 n σ w m c f (i : Int) = some (bnF (brkB D) w c f (seg (σ 264) i k)) := by
    intro k
    induction k with
    | zero =>
      intro m i c f h1 h2 h3 h4
      obtain ⟨m, rfl⟩ : ∃ q, m = q + 1 := ⟨m - 1, by omega⟩
      unfold fX6_blockNumber_L7
      rw [lpR_s]
      unfold fX6_blockNumber_L7s
      rw [if_pos (by rw [h.1]; omega)]; rfl
    | succ k ih =>
      intro m i c f h1 h2 h3 h4
      obtain ⟨m, rfl⟩ : ∃ q, m = q + 1 := ⟨m - 1, by omega⟩
      have hi : i < D.1.length := by omega
      have hx := hd.row hN (h.mem hi)
      have hb := brk_shown hd hN (h.mem hi)
      have ht := (hr.2 (σ 264 i).toNat (by omega)).2.2.1
      have i0 := ih m (i + 1) c f (by omega) (by omega) h3 (by omega)
      have i1 := ih m (i + 1) (c + 1) f (by omega) (by omega) (by omega) (by omega)
      have i2 := ih m (i + 1) (c + 1) (σ 264 i) (by omega) (by omega) (by omega) (by omega)
      rw [show ((i + 1 : Nat) : Int) = (i : Int) + 1 by omega] at i0 i1 i2
      show fX6_blockNumber_L7 n σ w (m + 1) c f (i : Int) = some (if brkB D (σ 264 i) = true then bnF (brkB D) w (c + 1) (if c + 1 = w then σ 264 i else f) (seg (σ 264) (i + 1) k) else bnF (brkB D) w c f (seg (σ 264) (i + 1) k))
      have e0 : fX6_blockNumber_L7 n σ w (m + 1) = fX6_blockNumber_L7s n σ w (fX6_blockNumber_L7 n σ w m) := rfl
      rw [e0]
      unfold fX6_blockNumber_L7s
      rw [if_neg (by rw [h.1]; omega), rd_ok (by omega) (by omega), Int.toNat_natCast, rd_ok hx.1.1 hx.1.2, ht]
      by_cases k1 : T 11 (σ 264 i).toNat = 1
      · rw [if_neg (by omega), rd_ok (by omega) (by omega), Int.toNat_natCast, b1_ok (r_isShown h hd hN (h.mem hi)), if_b2i, hb, decide_eq_true k1, Bool.true_and]
        cases shownB D (σ 264 i)
        · rw [if_neg (by decide), if_neg (by decide), ck_ok (by omega) (by omega), i0]
        · rw [if_pos rfl, if_pos rfl, ck_ok (by omega) (by omega)]
          by_cases q : c + 1 = w
          · rw [if_neg (by omega), if_pos q, rd_ok (by omega) (by omega), Int.toNat_natCast, ck_ok (by omega) (by omega), i2]
          · rw [if_pos q, if_neg q, ck_ok (by omega) (by omega), i1]
      · rw [if_pos k1, hb, decide_eq_false k1, Bool.false_and, if_neg (by decide), ck_ok (by omega) (by omega), i0]
  have := key D.1.length n 0 0 (-1) (Nat.zero_add _) (by omega) (by decide) (by decide)
  rw [h.2.2.1] at this
  refine Eq.trans this ?_
  by_cases q : w = 0
  · rw [if_pos q, bnF_ge _ _ _ _ (by omega)]
  · rw [if_neg q, bnF_lt _ _ _ _ (by omega), at_fin D.1 (0 + 1) w (fun _ => -1) (fun _ => -2) (by omega) (by omega)]
    rfl
end RQ
