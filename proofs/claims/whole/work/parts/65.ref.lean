/-! ===== the reference's document ===== -/
def TV (T : St) (N : Nat) : Prop := ∀ a, a < N → (0 ≤ T 9 a ∧ T 9 a < 4) ∧ (1 ≤ T 10 a ∧ T 10 a ≤ 160) ∧ (0 ≤ T 11 a ∧ T 11 a ≤ 12) ∧ isB (T 15 a) ∧ (0 ≤ T 14 a ∧ T 14 a ≤ 65535) ∧
  ((T 11 a = 0 ∨ T 11 a = 1) → -1 ≤ T 12 a ∧ T 12 a < (a : Int) ∧ (0 ≤ T 12 a → mkE T N (T 12 a) = true)) ∧
  ((T 11 a = 2 ∨ T 11 a = 3) → 0 ≤ T 12 a ∧ T 12 a < (a : Int) ∧ mkE T N (T 12 a) = true) ∧
  ((T 11 a = 4 ∨ T 11 a = 7) → 0 ≤ T 12 a ∧ T 12 a < (a : Int) ∧ mkE T N (T 12 a) = true ∧ 0 ≤ T 13 a ∧ T 13 a < (a : Int) ∧ mkE T N (T 13 a) = true) ∧
  (T 11 a = 4 → 0 ≤ T 14 a ∧ T 14 a < 2) ∧ (T 11 a = 7 → 0 ≤ T 14 a ∧ T 14 a < 20) ∧
  ((T 11 a = 5 ∨ T 11 a = 6 ∨ T 11 a = 10) → -1 ≤ T 12 a ∧ T 12 a < (a : Int) ∧ (0 ≤ T 12 a → T 11 (T 12 a).toNat = 1)) ∧
  (T 11 a = 6 → T 13 a = -2 ∨ (-1 ≤ T 13 a ∧ T 13 a < (a : Int) ∧ (0 ≤ T 13 a → T 11 (T 13 a).toNat = 1))) ∧
  (T 11 a = 10 → 0 < T 13 a ∧ T 13 a < 4 ∧ 0 ≤ T 14 a ∧ T 14 a ≤ 2) ∧
  ((T 11 a = 8 ∨ T 11 a = 9 ∨ T 11 a = 11 ∨ T 11 a = 12) → 0 ≤ T 12 a ∧ T 12 a < (a : Int))
/-- the reference's tables of the acts -/
def RT (T σ : St) (N : Nat) : Prop := σ 230 1 = (N : Int) ∧ ∀ a, a < N → σ 233 a = T 9 a ∧ σ 234 a = T 10 a ∧ σ 235 a = T 11 a ∧ (T 11 a ≠ 10 → σ 236 a = T 12 a) ∧ (T 11 a = 10 → σ 236 a = T 13 a ∧ σ 237 a = T 12 a ∧ σ 238 a = T 14 a) ∧
  ((T 11 a = 0 ∨ T 11 a = 1) → σ 237 a = T 14 a) ∧ ((T 11 a = 0 ∨ T 11 a = 1 ∨ T 11 a = 2 ∨ T 11 a = 3) → σ 240 a = T 15 a) ∧ (T 11 a = 4 → σ 237 a = T 13 a ∧ σ 238 a = T 14 a ∧ (σ 239 a = 1 ↔ T 15 a ≠ 0)) ∧ (T 11 a = 7 → σ 237 a = T 13 a ∧ σ 242 a = T 14 a) ∧ (T 11 a = 5 → σ 237 a = T 14 a) ∧ (T 11 a = 6 → σ 237 a = T 13 a)
def BR (x m c : Int) : Prop := (∀ j, j < 2 → tb x j = tb m j) ∧ ∀ j, j < 20 → tb x (2 + j) = tb c j
def isR (σ : St) (N : Nat) (D : Dc) : Prop := σ 230 32 = (D.1.length : Int) ∧ D.1.length ≤ 160 ∧ seg (σ 264) 0 D.1.length = D.1 ∧ (∀ x, x ∈ D.1 → σ 265 x.toNat + 1 = D.2 4 x.toNat) ∧ (∀ i, i < 160 → σ 266 i = D.2 6 i) ∧ (∀ i, i < 160 → BR (D.2 7 i) (σ 267 i) (σ 268 i)) ∧ (∀ i, i < 160 → σ 269 i = D.2 8 i) ∧ (∀ i, i < N → σ 262 i = D.2 9 i) ∧ (∀ b, b < 161 → σ 270 b = D.2 10 b ∧ σ 271 b = D.2 11 b) ∧ ∀ s b, 1 ≤ s → s < 4 → b < 161 → σ 272 (161 * s + b) = D.2 (13 + s) b
def AC (ab : Nat → Int) : Prop := ∃ rk : Int → Nat, ∀ b : Int, -1 ≤ b → b < 160 → -1 ≤ ab (b + 1).toNat → ab (b + 1).toNat < 160 → rk (ab (b + 1).toNat) < rk b
def DI (T : St) (N : Nat) (D : Dc) : Prop := D.1.Nodup ∧ (∀ x, x ∈ D.1 → mkE T N x = true) ∧ (∀ x, x ∈ D.1 → (D.2 4 x.toNat = 1 ∨ D.2 4 x.toNat = 2 ∨ D.2 4 x.toNat = 3) ∧ D.2 5 x.toNat = (if T 11 x.toNat = 1 then 1 else 0)) ∧ (∀ i : Nat, (i : Int) ∉ D.1 → D.2 4 i = 0 ∧ D.2 5 i = 0) ∧ (∀ i, isB (D.2 8 i) ∧ (D.2 8 i ≠ 0 → i < N ∧ T 11 i = 2)) ∧ (∀ i, isB (D.2 6 i)) ∧ (∀ i, isB (D.2 9 i)) ∧ (∀ b, b < 161 → D.2 11 b = -2 ∨ (-1 ≤ D.2 11 b ∧ D.2 11 b < (N : Int) ∧ (0 ≤ D.2 11 b → T 11 (D.2 11 b).toNat = 1))) ∧ AC (D.2 11)
theorem mkE_num {T : St} {N : Nat} {x : Int} (h : mkE T N x = true) : (0 ≤ x ∧ x < (N : Int)) ∧ (T 11 x.toNat = 0 ∨ T 11 x.toNat = 1) := of_decide_eq_true h
section REF
variable {T σ : St} {N n : Nat} {D : Dc}
theorem isR.get (h : isR σ N D) {i : Nat} (hi : i < D.1.length) : D.1[i]? = some (σ 264 i) := by
  have := seg_get (σ 264) D.1.length 0 i
  rw [h.2.2.1, if_pos hi, Nat.zero_add] at this
  exact this
theorem isR.mem (h : isR σ N D) {i : Nat} (hi : i < D.1.length) : σ 264 i ∈ D.1 := List.mem_of_getElem? (h.get hi)
theorem DI.row (hd : DI T N D) (hN : N ≤ 160) {x : Int} (hx : x ∈ D.1) : num x ∧ x < (N : Int) := by
  have := mkE_num (hd.2.1 x hx)
  exact ⟨⟨this.1.1, by omega⟩, this.1.2⟩
theorem r_spot (h : isR σ N D) (hn : 161 ≤ n) (e : Int) : fX6_spot n σ e = some (ix e D.1 : Int) := by
  have hl := h.2.1
  have key : ∀ (k m i : Nat), i + k = D.1.length → k < m → fX6_spot_L2 n σ e m (i : Int) = some ((i + ix e (seg (σ 264) i k) : Nat) : Int) := by
    intro k
    induction k with
    | zero =>
      intro m i h1 h2
      obtain ⟨m, rfl⟩ : ∃ q, m = q + 1 := ⟨m - 1, by omega⟩
      show fX6_spot_L2s n σ e _ (i : Int) = _
      unfold fX6_spot_L2s
      rw [if_pos (by rw [h.1]; omega)]; rfl
    | succ k ih =>
      intro m i h1 h2
      obtain ⟨m, rfl⟩ : ∃ q, m = q + 1 := ⟨m - 1, by omega⟩
      show fX6_spot_L2s n σ e (fX6_spot_L2 n σ e m) (i : Int) = some ((i + (if σ 264 i = e then 0 else ix e (seg (σ 264) (i + 1) k) + 1) : Nat) : Int)
      unfold fX6_spot_L2s
      rw [if_neg (by rw [h.1]; omega), rd_ok (by omega) (by omega), Int.toNat_natCast]
      by_cases he : σ 264 i = e
      · rw [if_pos he, if_pos he]; rfl
      · rw [if_neg he, if_neg he, ck_ok (by omega) (by omega)]
        refine (ih m (i + 1) (by omega) (by omega)).trans ?_
        congr 2
        omega
  have := key D.1.length n 0 (Nat.zero_add _) (by omega)
  rw [h.2.2.1, Nat.zero_add] at this
  exact this
theorem r_isSeen (h : isR σ N D) (hd : DI T N D) (hN : N ≤ 160) {x : Int} (hx : x ∈ D.1) : fX6_isSeen σ x = some (b2i (seenB D x)) := by
  have hn := (hd.row hN hx).1
  have h4 := h.2.2.2.1 x hx
  have h6 := h.2.2.2.2.1 x.toNat (by omega)
  have hs := (hd.2.2.1 x hx).1
  unfold fX6_isSeen seenB
  rw [rd_ok hn.1 (by omega), rd_ok hn.1 (by omega), h6]
  by_cases q : σ 265 x.toNat = 2
  · rw [if_pos q, decide_eq_false (by omega)]; rfl
  · rw [if_neg q]
    by_cases q6 : D.2 6 x.toNat = 0
    · rw [if_neg (by omega), decide_eq_true ⟨hn, q6, by omega⟩]; rfl
    · rw [if_pos q6, decide_eq_false (by omega)]; rfl
theorem r_isShown (h : isR σ N D) (hd : DI T N D) (hN : N ≤ 160) {x : Int} (hx : x ∈ D.1) : fX6_isShown σ x = some (b2i (shownB D x)) := by
  have hn := (hd.row hN hx).1
  have h4 := h.2.2.2.1 x hx
  have h6 := h.2.2.2.2.1 x.toNat (by omega)
  unfold fX6_isShown shownB
  rw [rd_ok hn.1 (by omega), rd_ok hn.1 (by omega), h6]
  by_cases q : σ 265 x.toNat = 0
  · rw [if_neg (by omega)]
    by_cases q6 : D.2 6 x.toNat = 0
    · rw [if_neg (by omega), decide_eq_true ⟨hn, by omega, q6⟩]; rfl
    · rw [if_pos q6, decide_eq_false (by omega)]; rfl
  · rw [if_pos q, decide_eq_false (by omega)]; rfl
theorem brk_shown (hd : DI T N D) (hN : N ≤ 160) {x : Int} (hx : x ∈ D.1) : brkB D x = (decide (T 11 x.toNat = 1) && shownB D x) := by
  have hn := (hd.row hN hx).1
  have h5 := (hd.2.2.1 x hx).2
  unfold brkB shownB
  by_cases q : T 11 x.toNat = 1
  · rw [if_pos q] at h5
    rw [decide_eq_true q, Bool.true_and]
    refine decide_eq_decide.mpr ⟨fun z => ⟨z.1, z.2.2.1, z.2.2.2⟩, fun z => ⟨z.1, by omega, z.2.1, z.2.2⟩⟩
  · rw [if_neg q] at h5
    rw [decide_eq_false q, Bool.false_and, decide_eq_false (fun z => z.2.1 h5)]
def bK (P : Int → Bool) : List Int → Int → Nat → Int
  | [], acc, _ => acc
  | x :: _, acc, 0 => if P x = true then x else acc
  | x :: L, acc, k + 1 => bK P L (if P x = true then x else acc) k
theorem bK_blk (P : Int → Bool) (e : Int) (L : List Int) : ∀ acc, e ∈ L → runL (blkS P e) (fun _ => -1) acc L = bK P L acc (ix e L) := by
  induction L with
  | nil => intro acc h; cases h
  | cons x L ih =>
    intro acc h
    by_cases hx : x = e
    · rw [runL_in (r := if P x = true then x else acc) (if_pos hx)]
      show _ = bK P (x :: L) acc (if x = e then 0 else ix e L + 1)
      rw [if_pos hx]; rfl
    · rw [runL_go (s' := if P x = true then x else acc) (if_neg hx), ih _ ((List.mem_cons.mp h).resolve_left (fun q => hx q.symm))]
      show _ = bK P (x :: L) acc (if x = e then 0 else ix e L + 1)
      rw [if_neg hx]; rfl
theorem r_blockAt (h : isR σ N D) (hr : RT T σ N) (hd : DI T N D) (hN : N ≤ 160) (hn : 161 ≤ n) {q : Nat} (hq : q < D.1.length) : fX6_blockAt n σ (q : Int) = some (bK (brkB D) D.1 (-1) q) := by
  have hl := h.2.1
  have key : ∀ (k m i : Nat) (acc : Int), i + k = D.1.length → k < m → (i ≤ q + 1) → fX6_blockAt_L4 n σ (q : Int) m acc (i : Int) = some (if q < i then acc else bK (brkB D) (seg (σ 264) i k) acc (q - i)) := by
    intro k
    induction k with
    | zero =>
      intro m i acc h1 h2 h3
      obtain ⟨m, rfl⟩ : ∃ z, m = z + 1 := ⟨m - 1, by omega⟩
      show fX6_blockAt_L4s n σ (q : Int) _ acc (i : Int) = _
      unfold fX6_blockAt_L4s
      rw [if_pos (by omega), if_pos (by omega)]
    | succ k ih =>
      intro m i acc h1 h2 h3
      obtain ⟨m, rfl⟩ : ∃ z, m = z + 1 := ⟨m - 1, by omega⟩
      show fX6_blockAt_L4s n σ (q : Int) (fX6_blockAt_L4 n σ (q : Int) m) acc (i : Int) = _
      unfold fX6_blockAt_L4s
      by_cases hi : q < i
      · rw [if_pos (by omega), if_pos hi]
      · rw [if_neg (by omega), if_neg hi, if_neg (by rw [h.1]; omega)]
        have hx := h.mem (i := i) (by omega)
        have hxn := hd.row hN hx
        have hT := (hr.2 (σ 264 i).toNat (by omega)).2.2.1
        have e : (rd σ 264 160 (i : Int) fun v1 => rd σ 235 160 v1 fun v2 => if v2 ≠ 1 then ck ((i : Int) + 1) fun v3 => fX6_blockAt_L4 n σ (q : Int) m acc v3 else rd σ 264 160 (i : Int) fun v4 => b1 (fX6_isShown σ v4) fun v5 => if v5 = 0 then ck ((i : Int) + 1) fun v6 => fX6_blockAt_L4 n σ (q : Int) m acc v6 else rd σ 264 160 (i : Int) fun v7 => ck ((i : Int) + 1) fun v8 => fX6_blockAt_L4 n σ (q : Int) m v7 v8) = fX6_blockAt_L4 n σ (q : Int) m (if brkB D (σ 264 i) = true then σ 264 i else acc) ((i + 1 : Nat) : Int) := by
          rw [rd_ok (by omega) (by omega), Int.toNat_natCast, rd_ok hxn.1.1 (by omega), hT, brk_shown hd hN hx, rd_ok (by omega) (by omega), Int.toNat_natCast, b1_ok (r_isShown h hd hN hx), rd_ok (by omega) (by omega), Int.toNat_natCast, ck_ok (by omega) (by omega), ck_ok (by omega) (by omega)]
          by_cases hk : T 11 (σ 264 i).toNat = 1
          · rw [if_neg (by omega), decide_eq_true hk, Bool.true_and]
            cases shownB D (σ 264 i) <;> rfl
          · rw [if_pos hk, decide_eq_false hk]; rfl
        rw [e, ih m (i + 1) _ (by omega) (by omega) (by omega)]
        show _ = some (bK (brkB D) (σ 264 i :: seg (σ 264) (i + 1) k) acc (q - i))
        by_cases hqi : q = i
        · rw [if_pos (by omega), show q - i = 0 by omega]; rfl
        · rw [if_neg (by omega), show q - i = (q - (i + 1)) + 1 by omega]; rfl
  have := key D.1.length n 0 (-1) (Nat.zero_add _) (by omega) (by omega)
  rw [if_neg (by omega), h.2.2.1] at this
  exact this
theorem r_blockOf (h : isR σ N D) (hr : RT T σ N) (hd : DI T N D) (hN : N ≤ 160) (hn : 161 ≤ n) {e : Int} (he : e = -1 ∨ e ∈ D.1) : fX6_blockOf n σ e = some (blk D e) := by
  unfold fX6_blockOf
  by_cases h1 : e = -1
  · rw [if_neg (fun q => q h1), h1]
    have hnot : (-1 : Int) ∉ D.1 := fun q => by have := (hd.row hN q).1; omega
    have : ∀ (L : List Int) acc, (-1 : Int) ∉ L → runL (blkS (brkB D) (-1)) (fun _ => (-1 : Int)) acc L = -1 := by
      intro L
      induction L with
      | nil => intro acc _; rfl
      | cons x L ih =>
        intro acc hx
        rw [runL_go (s' := if brkB D x = true then x else acc) (if_neg (fun q => hx (by rw [q]; exact List.mem_cons_self)))]
        exact ih _ (fun q => hx (List.mem_cons_of_mem _ q))
    unfold blk
    rw [this D.1 _ hnot]
  · rw [if_pos h1]
    have hm := he.resolve_left h1
    rw [b1_ok (r_spot h hn e), b1_ok (r_blockAt h hr hd hN hn (ix_lt hm))]
    unfold blk
    rw [bK_blk _ _ _ _ hm]
theorem bK_in (P : Int → Bool) (L : List Int) : ∀ acc k, bK P L acc k = acc ∨ bK P L acc k ∈ L := by
  induction L with
  | nil => intro acc k; exact Or.inl rfl
  | cons x L ih =>
    intro acc k
    have hx : (if P x = true then x else acc) = acc ∨ (if P x = true then x else acc) = x := by split; exact Or.inr rfl; exact Or.inl rfl
    cases k with
    | zero =>
      rcases hx with q | q
      · exact Or.inl q
      · exact Or.inr (by show (if P x = true then x else acc) ∈ x :: L; rw [q]; exact List.mem_cons_self)
    | succ k =>
      show bK P L (if P x = true then x else acc) k = acc ∨ bK P L (if P x = true then x else acc) k ∈ x :: L
      rcases ih (if P x = true then x else acc) k with q | q
      · rw [q]; exact hx.imp id (fun z => by rw [z]; exact List.mem_cons_self)
      · exact Or.inr (List.mem_cons_of_mem _ q)
theorem blk_in (hd : DI T N D) (hN : N ≤ 160) (e : Int) : -1 ≤ blk D e ∧ blk D e < 160 := by
  have key : ∀ (L : List Int) acc, (-1 ≤ acc ∧ acc < 160) → (∀ x, x ∈ L → num x) → -1 ≤ runL (blkS (brkB D) e) (fun _ => (-1 : Int)) acc L ∧ runL (blkS (brkB D) e) (fun _ => (-1 : Int)) acc L < 160 := by
    intro L
    induction L with
    | nil => intro acc _ _; show (-1 : Int) ≤ -1 ∧ (-1 : Int) < 160; exact ⟨by decide, by decide⟩
    | cons x L ih =>
      intro acc ha hx
      have h1 : -1 ≤ (if brkB D x = true then x else acc) ∧ (if brkB D x = true then x else acc) < 160 := by
        have := hx x List.mem_cons_self
        split
        · omega
        · exact ha
      by_cases he : x = e
      · rw [runL_in (r := if brkB D x = true then x else acc) (if_pos he)]; exact h1
      · rw [runL_go (s' := if brkB D x = true then x else acc) (if_neg he)]
        exact ih _ h1 (fun y hy => hx y (List.mem_cons_of_mem _ hy))
  exact key D.1 (-1) ⟨by decide, by decide⟩ (fun x hx => (hd.row hN hx).1)
theorem r_levelIn (h : isR σ N D) {s b : Int} (hs : 0 ≤ s ∧ s < 4) (hb : -1 ≤ b ∧ b < 160) : fX6_levelIn σ s b = some (lev D s b) := by
  unfold fX6_levelIn lev
  by_cases h0 : s = 0
  · rw [if_neg (fun q => q h0), if_neg (by omega)]
  · rw [if_pos h0, if_pos ⟨by omega, hs.2, hb.1, hb.2⟩, ck_ok (by omega) (by omega), ck_ok (by omega) (by omega), ck_ok (by omega) (by omega), rd_ok (by omega) (by omega)]
    have := h.2.2.2.2.2.2.2.2.2 s.toNat (b + 1).toNat (by omega) (by omega) (by omega)
    rw [← this, show (161 * s + b + 1).toNat = 161 * s.toNat + (b + 1).toNat by omega]
end REF
