/-! ===== what the law asks of what a call has changed ===== -/
section OPS46
variable {A : St} {N nm nv s t : Nat} {k x y z p : Int} {D : Dc}
theorem cnt_ins (P : Int → Bool) (L : List Int) (i : Nat) (a : Int) : cnt P (insA L i a) = cnt P L + b2i (P a) := by
  have e : cnt P (L.take i) + cnt P (L.drop i) = cnt P L := by rw [← cnt_app, List.take_append_drop]
  unfold insA
  rw [cnt_app]
  show cnt P (L.take i) + (b2i (P a) + cnt P (L.drop i)) = _
  omega
theorem doc_hi (hI : Inv A N nm nv) (S : Int → Bool) {r i : Nat} (h1 : 4 ≤ r) (h2 : r ≤ 9) (hi : N ≤ i) : (docOf A N S).2 r i = 0 := by
  have h : CD (docOf A N S).2 N := doc_pd hI.1.2.2.2.1 (OLf hI.1)
  rw [h r h1 (by omega) i (by rw [bd_lo h2]; exact hi)]
  exact if_neg (by omega)
theorem lev_gt (hm : okM A N s k x y z p) : gt (mkA A N s k x y z p) (N + 1) 9 (-1) (N : Int) = (s : Int) ∧ gt (mkA A N s k x y z p) (N + 1) 11 (-1) (N : Int) = k ∧ gt (mkA A N s k x y z p) (N + 1) 12 (-1) (N : Int) = x ∧ gt (mkA A N s k x y z p) (N + 1) 13 (-1) (N : Int) = y ∧ gt (mkA A N s k x y z p) (N + 1) 14 0 (N : Int) = z := by
  refine ⟨?_, ?_, ?_, ?_, ?_⟩ <;> (rw [gt_i (by omega), Int.toNat_natCast, mk_tN (by decide) (by decide)]; rfl)
/-- a letter or a break that is written is seen -/
theorem len_put (hI : Inv A N nm nv) (hm : okM A N s k x y z p) (hk : k = 0 ∨ k = 1) (hl : lev (docOf A N (Hs A s)) (s : Int) (blk (docOf A N (Hs A s)) x) ≠ 2) : lenA (mkA A N s k x y z p) (N + 1) s = lenA A N s + 1 := by
  have dk := hI.dk hm.1.2
  have hN := hI.1.2.1
  obtain ⟨g9, g11, g12, g13, g14⟩ := lev_gt hm
  unfold lenA
  have hD : docOf (mkA A N s k x y z p) (N + 1) (Hs (mkA A N s k x y z p) s) = dPut (mkA A N s k x y z p) (N + 1) (docOf A N (Hs A s)) (N : Int) := by
    rw [mk_docS hI hm (by omega)]
    unfold dOne
    rw [g11, if_pos hk]
  have h4 := doc_hi (r := 4) hI (Hs A s) (by decide) (by decide) (Nat.le_refl N)
  have h6 := doc_hi (r := 6) hI (Hs A s) (by decide) (by decide) (Nat.le_refl N)
  have h9 := doc_hi (r := 9) hI (Hs A s) (by decide) (by decide) (Nat.le_refl N)
  rw [hD]
  have row : ∀ w, w ∈ (docOf A N (Hs A s)).1 → w.toNat ≠ N := fun w hw => by have := dk.1.row hN hw; omega
  have sdt : dSt (mkA A N s k x y z p) (N + 1) (docOf A N (Hs A s)) (N : Int) = 1 ∨ dSt (mkA A N s k x y z p) (N + 1) (docOf A N (Hs A s)) (N : Int) = 2 := by
    unfold dSt dLv
    rw [g9, g12, Int.toNat_natCast, h9, if_neg (fun w => w.elim (fun w => w rfl) hl)]
    split
    · exact Or.inr rfl
    · exact Or.inl rfl
  generalize docOf A N (Hs A s) = D at *
  generalize mkA A N s k x y z p = T at *
  have r6 : ∀ i, (dPut T (N + 1) D (N : Int)).2 6 i = D.2 6 i := fun i => by
    unfold dPut; exact congrFun ((pst (by decide)).trans ((st_fn (by decide)).trans (st_fn (by decide)))) i
  have r4 : ∀ i, (dPut T (N + 1) D (N : Int)).2 4 i = if i = N then dSt T (N + 1) D (N : Int) else D.2 4 i := fun i => by
    unfold dPut
    rw [congrFun (pst (by decide)) i, st_row, Int.toNat_natCast, st_ne (by decide)]
  have e1 : (dPut T (N + 1) D (N : Int)).1 = insA D.1 (dAt T (N + 1) D (N : Int)) (N : Int) := rfl
  rw [e1, cnt_ins]
  rw [cnt_congr (R := seenB D) (fun w hw => by
    unfold seenB
    rw [r6, r4, if_neg (row w hw)])]
  have eN : seenB (dPut T (N + 1) D (N : Int)) (N : Int) = true := by
    unfold seenB
    rw [r6, r4, Int.toNat_natCast, if_pos rfl, h6]
    have hlt := hm.1.1
    exact decide_eq_true ⟨⟨by omega, by omega⟩, rfl, sdt⟩
  rw [eN]
  rfl
theorem len_cu (hI : In1 A N) {B : St} (e : SaC A B) (t : Nat) : lenA B N t = lenA A N t := by
  unfold lenA
  rw [e.hs, e.t.doc hI]
/-- a stretch that is painted, counted -/
theorem paint_cnt (PB : Int → Bool) (lv : Int → Bool) (hlv : ∀ b, lv b = true) (g : Int → Int) (P : Int → Bool) (q : Nat) (hg : ∀ v, tb (g v) q = true) (f l lo hi : Int) (hlh : lo < hi) : ∀ (L : List Int) (c : Int) (k : Int) (C : St), L.Nodup → (∀ a, a ∈ L → num a) → (∀ a, a ∈ L → tb (C 7 a.toNat) q = false) → c < hi → hi ≤ c + cnt P L → runL (atS P (hi - 1)) (fun _ => -1) c L = l → (c ≤ lo → runL (atS P lo) (fun _ => -1) c L = f) → cnt (fun a => P a && tb (dPnt PB lv f l g (decide (lo < c)) k C L 7 a.toNat) q) L = hi - (if c ≤ lo then lo else c) := by
  intro L
  induction L with
  | nil =>
    intro c k C _ _ _ h1 h2
    have h2' : hi ≤ c + 0 := h2
    omega
  | cons a L ih =>
    intro c k C hnd hnum hC h1 h2 hl hf
    have hnd := List.nodup_cons.mp hnd
    have na := hnum a List.mem_cons_self
    have h2' : hi ≤ c + (b2i (P a) + cnt P L) := h2
    have off : ∀ b, b ∈ L → b.toNat ≠ a.toNat := fun b hb e => by
      have nb := hnum b (List.mem_cons_of_mem _ hb)
      have : b = a := by have := nb.1; have := na.1; omega
      exact hnd.1 (by rw [← this]; exact hb)
    have ca : ∀ (M : List Int) (R : Int → Bool), cnt R (a :: M) = b2i (R a) + cnt R M := fun _ _ => rfl
    have step : ∀ (b : Bool), dPnt PB lv f l g b k C (a :: L) = if a = l then (if (b || decide (a = f)) = true then st C 7 a.toNat (g (C 7 a.toNat)) else C) else dPnt PB lv f l g (b || decide (a = f)) (if PB a = true then a else k) (if (b || decide (a = f)) = true then st C 7 a.toNat (g (C 7 a.toNat)) else C) L := fun b => by
      have e : ∀ X Y : St, (if (b || decide (a = f)) = true ∧ lv (if PB a = true then a else k) = true then X else Y) = (if (b || decide (a = f)) = true then X else Y) := fun X Y => by
        by_cases w : (b || decide (a = f)) = true
        · rw [if_pos ⟨w, hlv _⟩, if_pos w]
        · rw [if_neg (fun z => w z.1), if_neg w]
      rw [dPnt_c, e]
    rw [ca, step]
    cases hp : P a with
    | true =>
      rw [hp] at h2'
      have h2' : hi ≤ c + (1 + cnt P L) := h2'
      by_cases hc : c = hi - 1
      · -- the last one
        have el : a = l := by
          rw [← hl]
          exact (runL_in (by unfold atS; rw [if_pos hp, if_pos hc])).symm
        have hb : (decide (lo < c) || decide (a = f)) = true := by
          by_cases w : lo < c
          · rw [decide_eq_true w]; rfl
          · have ef : a = f := by
              rw [← hf (by omega)]
              exact (runL_in (by unfold atS; rw [if_pos hp, if_pos (by omega)])).symm
            rw [decide_eq_true ef, Bool.or_true]
        rw [if_pos el, if_pos hb]
        rw [st_row, if_pos rfl, hg, cnt_zero (fun b hb2 => by
          rw [st_row, if_neg (off b hb2), hC b (List.mem_cons_of_mem _ hb2), Bool.and_false])]
        show (1 : Int) + 0 = _
        split <;> omega
      · have hl2 : runL (atS P (hi - 1)) (fun _ => -1) (c + 1) L = l := by
          rw [← hl]
          exact (runL_go (by unfold atS; rw [if_pos hp, if_neg hc])).symm
        have nl : a ≠ l := fun e => by
          have := (at_in (P := P) L (c + 1) (hi - 1) (fun _ => -1) (by omega) (by omega)).1
          rw [hl2, ← e] at this
          exact hnd.1 this
        have hb : (decide (lo < c) || decide (a = f)) = decide (lo < c + 1) := by
          by_cases w : lo < c
          · rw [decide_eq_true w, decide_eq_true (show lo < c + 1 by omega)]; rfl
          · rw [decide_eq_false w, Bool.false_or]
            by_cases w2 : c = lo
            · have ef : a = f := by
                rw [← hf (by omega)]
                exact (runL_in (by unfold atS; rw [if_pos hp, if_pos w2])).symm
              rw [decide_eq_true ef, decide_eq_true (by omega)]
            · have hf2 : runL (atS P lo) (fun _ => -1) (c + 1) L = f := by
                rw [← hf (by omega)]
                exact (runL_go (by unfold atS; rw [if_pos hp, if_neg w2])).symm
              have nf : a ≠ f := fun e => by
                have := (at_in (P := P) L (c + 1) lo (fun _ => -1) (by omega) (by omega)).1
                rw [hf2, ← e] at this
                exact hnd.1 this
              rw [decide_eq_false nf, decide_eq_false (by omega)]
        rw [if_neg nl, hb]
        generalize hC2 : (if decide (lo < c + 1) = true then st C 7 a.toNat (g (C 7 a.toNat)) else C) = C2
        have e2 : ∀ b, b ∈ L → C2 7 b.toNat = C 7 b.toNat := fun b hb2 => by
          rw [← hC2]; split
          · rw [st_row, if_neg (off b hb2)]
          · rfl
        have ea : tb (C2 7 a.toNat) q = decide (lo < c + 1) := by
          rw [← hC2]
          by_cases w : lo < c + 1
          · rw [decide_eq_true w, if_pos rfl, st_row, if_pos rfl, hg]
          · rw [decide_eq_false w, if_neg (by decide)]; exact hC a List.mem_cons_self
        rw [ih (c + 1) _ C2 hnd.2 (fun b hb2 => hnum b (List.mem_cons_of_mem _ hb2)) (fun b hb2 => by rw [e2 b hb2]; exact hC b (List.mem_cons_of_mem _ hb2)) (by omega) (by omega) hl2 (fun w => by
          rw [← hf (by omega)]
          exact (runL_go (by unfold atS; rw [if_pos hp, if_neg (by omega)])).symm)]
        rw [dPnt_at _ _ _ _ _ L _ _ _ _ off, ea, Bool.true_and]
        by_cases w : lo < c + 1
        · rw [decide_eq_true w, if_neg (by omega)]
          show (1 : Int) + _ = _
          split <;> omega
        · rw [decide_eq_false w, if_pos (by omega), if_pos (by omega)]
          show (0 : Int) + _ = _
          omega
    | false =>
      rw [hp] at h2'
      have h2' : hi ≤ c + (0 + cnt P L) := h2'
      have hl2 : runL (atS P (hi - 1)) (fun _ => -1) c L = l := by
        rw [← hl]
        exact (runL_go (by unfold atS; rw [if_neg (by rw [hp]; decide)])).symm
      have nl : a ≠ l := fun e => by
        have := (at_in (P := P) L c (hi - 1) (fun _ => -1) (by omega) (by omega)).2
        rw [hl2, ← e, hp] at this
        cases this
      have hf2 : c ≤ lo → runL (atS P lo) (fun _ => -1) c L = f := fun w => by
        rw [← hf w]
        exact (runL_go (by unfold atS; rw [if_neg (by rw [hp]; decide)])).symm
      have hb : (decide (lo < c) || decide (a = f)) = decide (lo < c) := by
        by_cases w : lo < c
        · rw [decide_eq_true w]; rfl
        · have nf : a ≠ f := fun e => by
            have := (at_in (P := P) L c lo (fun _ => -1) (by omega) (by omega)).2
            rw [hf2 (by omega), ← e, hp] at this
            cases this
          rw [decide_eq_false nf, Bool.or_false]
      rw [if_neg nl, hb]
      generalize hC2 : (if decide (lo < c) = true then st C 7 a.toNat (g (C 7 a.toNat)) else C) = C2
      have e2 : ∀ b, b ∈ L → C2 7 b.toNat = C 7 b.toNat := fun b hb2 => by
        rw [← hC2]; split
        · rw [st_row, if_neg (off b hb2)]
        · rfl
      rw [ih c _ C2 hnd.2 (fun b hb2 => hnum b (List.mem_cons_of_mem _ hb2)) (fun b hb2 => by rw [e2 b hb2]; exact hC b (List.mem_cons_of_mem _ hb2)) h1 (by omega) hl2 hf2, Bool.false_and]
      show (0 : Int) + _ = _
      omega
/-- a comment covers just what was selected -/
theorem cov_ok (hI : Inv A N nm nv) (hJ : JA A N) (hs : s < 4) (ok : okS A N s) (h9 : A 8 9 < 20) {j : Nat} (hj : A 8 9 = (j : Int)) : cnt (fun w => seenB (docOf (mkA A N s 7 (sx A N s) (sy A N s) (A 8 9) 0) (N + 1) (Hs (mkA A N s 7 (sx A N s) (sy A N s) (A 8 9) 0) s)) w && tb ((docOf (mkA A N s 7 (sx A N s) (sy A N s) (A 8 9) 0) (N + 1) (Hs (mkA A N s 7 (sx A N s) (sy A N s) (A 8 9) 0) s)).2 7 w.toNat) (2 + j)) (docOf (mkA A N s 7 (sx A N s) (sy A N s) (A 8 9) 0) (N + 1) (Hs (mkA A N s 7 (sx A N s) (sy A N s) (A 8 9) 0) s)).1 = selHi A N s - selLo A N s := by
  have dk := hI.dk hs
  have hN := hI.1.2.1
  have hm := sel_m7 hI hs ok h9
  have hr := sel_r hI hs
  have ok1 := ok.1
  obtain ⟨g9, g11, g12, g13, g14⟩ := lev_gt hm
  have bt : BtD j (docOf A N (Hs A s)) := doc_bt hI.1 (fun a ha h7 => by rw [← hj]; exact hJ.2.2.1 a ha h7) _
  have hD : docOf (mkA A N s 7 (sx A N s) (sy A N s) (A 8 9) 0) (N + 1) (Hs (mkA A N s 7 (sx A N s) (sy A N s) (A 8 9) 0) s) = dPaint (mkA A N s 7 (sx A N s) (sy A N s) (A 8 9) 0) (N + 1) (docOf A N (Hs A s)) (N : Int) (fun v => bor v (bshl 1 (2 + A 8 9))) := by
    rw [mk_docS hI hm (by decide)]
    have h9 := doc_hi (r := 9) hI (Hs A s) (by decide) (by decide) (Nat.le_refl N)
    unfold dOne
    rw [g11, g14, if_neg (by decide), Int.toNat_natCast, if_neg (fun w => w.2 h9), if_neg (by decide), if_neg (by decide), if_neg (by decide), if_neg (by decide), if_neg (by decide), if_pos rfl]
  rw [hD]
  unfold dPaint
  rw [g11, g12, g13, g9]
  have es : ∀ w, seenB ((docOf A N (Hs A s)).1, dPnt (brkB (docOf A N (Hs A s))) (fun b => decide ((7 : Int) ≠ 4) || decide (lev (docOf A N (Hs A s)) (s : Int) b = 0)) (sx A N s) (sy A N s) (fun v => bor v (bshl 1 (2 + A 8 9))) false (-1) (docOf A N (Hs A s)).2 (docOf A N (Hs A s)).1) w = seenB (docOf A N (Hs A s)) w := fun w => by
    unfold seenB
    show decide (num w ∧ dPnt _ _ _ _ _ _ _ _ _ 6 w.toNat = 0 ∧ (dPnt _ _ _ _ _ _ _ _ _ 4 w.toNat = 1 ∨ dPnt _ _ _ _ _ _ _ _ _ 4 w.toNat = 2)) = _
    rw [dPnt_ne _ _ _ _ _ _ _ _ _ 6 (by decide), dPnt_ne _ _ _ _ _ _ _ _ _ 4 (by decide)]
  rw [cnt_congr (fun w _ => by rw [es])]
  have hlo : ¬ (selLo A N s < 0) := by omega
  have main := paint_cnt (brkB (docOf A N (Hs A s))) (fun b => decide ((7 : Int) ≠ 4) || decide (lev (docOf A N (Hs A s)) (s : Int) b = 0)) (fun b => rfl) (fun v => bor v (bshl 1 (2 + A 8 9))) (seenB (docOf A N (Hs A s))) (2 + j) (fun v => by
    rw [tb_or, hj, show (2 : Int) + (j : Int) = ((2 + j : Nat) : Int) by omega, tb_shl (by omega) (by omega), decide_eq_true rfl, Bool.or_true]) (sx A N s) (sy A N s) (selLo A N s) (selHi A N s) (by omega) (docOf A N (Hs A s)).1 0 (-1) (docOf A N (Hs A s)).2 dk.1.1 (fun a ha => (dk.1.row hN ha).1) (fun a _ => bt _ _ (Nat.le_refl j) (by omega)) (by omega) (by omega) rfl (fun _ => rfl)
  rw [decide_eq_false hlo, if_pos (by omega)] at main
  exact main
/-- a decision by the owner closes what it decides -/
theorem open_less (hI : Inv A N nm nv) {e : Int} (hm : okM A N 0 k e (-1) 0 0) (hk : k = 8 ∨ k = 9) (he : e ∈ (docOf A N (Hs A 0)).1) (h2 : (docOf A N (Hs A 0)).2 4 e.toNat = 2) (h6 : (docOf A N (Hs A 0)).2 6 e.toNat = 0) : cnt (openB (mkA A N 0 k e (-1) 0 0) (N + 1) (docOf (mkA A N 0 k e (-1) 0 0) (N + 1) (Hs (mkA A N 0 k e (-1) 0 0) 0))) (ids (N + 1)) < cnt (openB A N (docOf A N (Hs A 0))) (ids N) := by
  have dk := hI.dk (s := 0) (by decide)
  have hN := hI.1.2.1
  have hlt := hm.1.1
  have hrow := dk.1.row hN he
  have hmk := dk.1.2.1 e he
  have hk01 := (mkE_num hmk).2
  obtain ⟨g9, g11, g12, g13, g14⟩ := lev_gt hm
  have h8e : (docOf A N (Hs A 0)).2 8 e.toNat = 0 := Decidable.byContradiction (fun w => by
    have := (dk.1.2.2.2.2.1 e.toNat).2 w; omega)
  have h4N := doc_hi (r := 4) hI (Hs A 0) (by decide) (by decide) (Nat.le_refl N)
  have h8N := doc_hi (r := 8) hI (Hs A 0) (by decide) (by decide) (Nat.le_refl N)
  have h9N := doc_hi (r := 9) hI (Hs A 0) (by decide) (by decide) (Nat.le_refl N)
  have hmk2 : mkE (mkA A N 0 k e (-1) 0 0) (N + 1) e = true := by rw [mk_mE hrow.2]; exact hmk
  have hel : elemOf (mkA A N 0 k e (-1) 0 0) (N + 1) e = e := by unfold elemOf; rw [if_pos hmk2]
  have hop : ∀ (T : St) (M : Nat), openB T M (docOf A N (Hs A 0)) e = true := fun T M => by
    unfold openB
    rw [decide_eq_true hrow.1, decide_eq_true (show (docOf A N (Hs A 0)).2 4 e.toNat = 2 ∧ (docOf A N (Hs A 0)).2 6 e.toNat = 0 from ⟨h2, h6⟩)]
    rfl
  have hset : ∀ ok, dSet (mkA A N 0 k e (-1) 0 0) (N + 1) (docOf A N (Hs A 0)) (N : Int) ok = ((docOf A N (Hs A 0)).1, st (docOf A N (Hs A 0)).2 4 e.toNat (if ok = true then 1 else 3)) := fun ok => by
    unfold dSet
    have hlv : dLv (mkA A N 0 k e (-1) 0 0) (N + 1) (docOf A N (Hs A 0)) (N : Int) e = 0 := by
      unfold dLv
      rw [g9]
      exact if_neg (fun w => by have := w.1; omega)
    rw [g12, hel, if_pos ⟨hrow.1, hop _ _, hlv⟩, if_pos rfl]
  obtain ⟨v, hv, hD⟩ : ∃ v : Int, v ≠ 2 ∧ docOf (mkA A N 0 k e (-1) 0 0) (N + 1) (Hs (mkA A N 0 k e (-1) 0 0) 0) = ((docOf A N (Hs A 0)).1, st (docOf A N (Hs A 0)).2 4 e.toNat v) := by
    rw [mk_docS hI hm (by omega)]
    unfold dOne
    rw [g11, if_neg (by omega), Int.toNat_natCast, if_neg (fun w => w.2 h9N), if_neg (by omega), if_neg (by omega), if_neg (by omega), if_neg (by omega), if_neg (by omega), if_neg (by omega)]
    by_cases w : k = 8
    · rw [if_pos w]; exact ⟨1, by decide, hset true⟩
    · rw [if_neg w, if_pos (by omega)]; exact ⟨3, by decide, hset false⟩
  rw [hD, ids_succ, cnt_app, cnt_one]
  have eN : openB (mkA A N 0 k e (-1) 0 0) (N + 1) ((docOf A N (Hs A 0)).1, st (docOf A N (Hs A 0)).2 4 e.toNat v) (N : Int) = false := by
    have a4 : st (docOf A N (Hs A 0)).2 4 e.toNat v 4 (N : Int).toNat = 0 := by rw [st_row, Int.toNat_natCast, if_neg (by omega)]; exact h4N
    have a8 : st (docOf A N (Hs A 0)).2 4 e.toNat v 8 (N : Int).toNat = 0 := by rw [st_ne (by decide), Int.toNat_natCast]; exact h8N
    unfold openB
    rw [decide_eq_false (show ¬ (st (docOf A N (Hs A 0)).2 4 e.toNat v 4 (N : Int).toNat = 2 ∧ st (docOf A N (Hs A 0)).2 4 e.toNat v 6 (N : Int).toNat = 0) from fun w => by rw [a4] at w; exact absurd w.1 (by decide)), decide_eq_false (show ¬ (st (docOf A N (Hs A 0)).2 4 e.toNat v 8 (N : Int).toNat ≠ 0) from fun w => w a8), Bool.false_and, Bool.or_false, Bool.and_false]
  rw [eN]
  have hin : e ∈ ids N := ids_mem.mpr ⟨hrow.1.1, hrow.2⟩
  have h1 := cnt_rm (P := openB A N (docOf A N (Hs A 0))) (u := e) ids_nd hin (hop _ _)
  have h3 : cnt (openB (mkA A N 0 k e (-1) 0 0) (N + 1) ((docOf A N (Hs A 0)).1, st (docOf A N (Hs A 0)).2 4 e.toNat v)) (ids N) ≤ cnt (fun a => openB A N (docOf A N (Hs A 0)) a && decide (a ≠ e)) (ids N) := by
    refine cnt_mono (fun a ha ho => ?_)
    have hr := ids_mem.mp ha
    unfold openB at ho
    rw [Bool.and_eq_true, Bool.or_eq_true, Bool.and_eq_true, decide_eq_true_iff, decide_eq_true_iff, decide_eq_true_iff] at ho
    obtain ⟨ho1, ho2⟩ := ho
    have ho2 : (st (docOf A N (Hs A 0)).2 4 e.toNat v 4 a.toNat = 2 ∧ st (docOf A N (Hs A 0)).2 4 e.toNat v 6 a.toNat = 0) ∨ (st (docOf A N (Hs A 0)).2 4 e.toNat v 8 a.toNat ≠ 0 ∧ seenB ((docOf A N (Hs A 0)).1, st (docOf A N (Hs A 0)).2 4 e.toNat v) (gt (mkA A N 0 k e (-1) 0 0) (N + 1) 12 (-1) a) = true) := ho2
    rw [st_row, st_ne (a := 6) (by decide), st_ne (a := 8) (by decide)] at ho2
    have hne : a ≠ e := fun w => by
      rw [w, if_pos rfl] at ho2
      rcases ho2 with w2 | w2
      · exact hv w2.1
      · exact w2.1 h8e
    have hne2 : a.toNat ≠ e.toNat := fun w => hne (by have := hrow.1.1; omega)
    rw [if_neg hne2] at ho2
    rw [Bool.and_eq_true, decide_eq_true_iff]
    refine ⟨?_, hne⟩
    unfold openB
    rw [Bool.and_eq_true, Bool.or_eq_true, Bool.and_eq_true, decide_eq_true_iff, decide_eq_true_iff, decide_eq_true_iff]
    refine ⟨ho1, ?_⟩
    rcases ho2 with w | w
    · exact Or.inl w
    · refine Or.inr ⟨w.1, ?_⟩
      have w2 := w.2
      rw [mk_ext.g (by decide) (by decide) hr.2] at w2
      unfold seenB at w2 ⊢
      have w3 := of_decide_eq_true w2
      have w3 : num (gt A N 12 (-1) a) ∧ st (docOf A N (Hs A 0)).2 4 e.toNat v 6 (gt A N 12 (-1) a).toNat = 0 ∧ (st (docOf A N (Hs A 0)).2 4 e.toNat v 4 (gt A N 12 (-1) a).toNat = 1 ∨ st (docOf A N (Hs A 0)).2 4 e.toNat v 4 (gt A N 12 (-1) a).toNat = 2) := w3
      rw [st_ne (a := 6) (by decide), st_row] at w3
      refine decide_eq_true ⟨w3.1, w3.2.1, ?_⟩
      by_cases c : (gt A N 12 (-1) a).toNat = e.toNat
      · rw [c]; exact Or.inr h2
      · rw [if_neg c] at w3; exact w3.2.2
  show _ + (0 : Int) < _
  omega
/-- a kind that is set is told -/
theorem kind_doc (hI : Inv A N nm nv) {b : Int} (hm : okM A N s 5 b (-1) z 0) (hb : -1 ≤ b ∧ b < 160) (hl : lev (docOf A N (Hs A s)) (s : Int) b = 0) : docOf (mkA A N s 5 b (-1) z 0) (N + 1) (Hs (mkA A N s 5 b (-1) z 0) s) = ((docOf A N (Hs A s)).1, st (docOf A N (Hs A s)).2 10 (b + 1).toNat z) := by
  obtain ⟨g9, g11, g12, g13, g14⟩ := lev_gt hm
  have h9N := doc_hi (r := 9) hI (Hs A s) (by decide) (by decide) (Nat.le_refl N)
  rw [mk_docS hI hm (by decide)]
  unfold dOne
  rw [g11, if_neg (by decide), Int.toNat_natCast, if_neg (fun w => w.2 h9N), if_neg (by decide), if_neg (by decide), if_neg (by decide), if_pos rfl]
  unfold dKind
  rw [g9, g12, g14, if_pos ⟨hb, hl⟩]
theorem kind_brk (i : Nat) (v : Int) : brkB (D.1, st D.2 10 i v) = brkB D := by
  funext w
  unfold brkB
  show decide (num w ∧ st D.2 10 i v 5 w.toNat ≠ 0 ∧ st D.2 10 i v 4 w.toNat = 1 ∧ st D.2 10 i v 6 w.toNat = 0) = _
  rw [st_ne (by decide), st_ne (by decide), st_ne (by decide)]
theorem kind_bl (i : Nat) (v w : Int) : (isBl (D.1, st D.2 10 i v) w ↔ isBl D w) ∧ blN (D.1, st D.2 10 i v) w = blN D w := by
  unfold isBl blN
  rw [kind_brk]
  exact ⟨Iff.rfl, rfl⟩
theorem kind_lev (i : Nat) (v u w : Int) : lev (D.1, st D.2 10 i v) u w = lev D u w := by
  unfold lev
  by_cases q : 0 < u ∧ u < 4 ∧ -1 ≤ w ∧ w < 160
  · rw [if_pos q, if_pos q]
    exact st_ne (by omega)
  · rw [if_neg q, if_neg q]
end OPS46
