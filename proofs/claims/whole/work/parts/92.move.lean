/-! ===== moveTo, extend ===== -/
section MOVE
variable {σ τ A : St} {N nm nv n s : Nat} {D : Dc} {S : Int → Bool}
def cuA (A : St) (s : Nat) (c d : Int) : St := st (st A 248 s c) 249 s d
theorem cu_c {c d : Int} : SaC A (cuA A s c d) := fun r hr => by unfold cuA; rw [st_fn (by omega), st_fn (by omega)]
theorem Inv.cu {c d : Int} (h : Inv A N nm nv) (hs : s < 4) (hc : curOK A N s c) (hd : curOK A N s d) : Inv (cuA A s c d) N nm nv := by
  refine h.cur cu_c (fun t ht => ?_) (fun t ht => ?_) (fun t ht => ?_)
  · unfold cuA; rw [st_ne (by decide), st_ne (by decide)]; exact (h.2.1 t ht).1
  · unfold cuA; rw [st_ne (by decide), st_row]; split
    · rename_i e; rw [e]; exact hc
    · exact (h.2.1 t ht).2.2.2.2.2.2.2.2.2.1
  · unfold cuA; rw [st_row, st_ne (by decide)]; split
    · rename_i e; rw [e]; exact hd
    · exact (h.2.1 t ht).2.2.2.2.2.2.2.2.2.2.1
theorem Cl.cu {c d : Int} (hI : In1 A N) (h : Cl σ A N nm nv) (hs : s < 4) (hτ : ∀ a b, (a ≠ 20 + 40 * s ∨ (b ≠ 8 ∧ b ≠ 9)) → τ a b = σ a b) (h8 : τ (20 + 40 * s) 8 = c) (h9 : τ (20 + 40 * s) 9 = d) : Cl τ (cuA A s c d) N nm nv := by
  refine h.cur hI cu_c (fun a b hab => hτ a b (by have := hab s hs; omega)) (fun t ht => ?_)
  have w := h.site ht
  unfold cuA
  rw [st_ne (a := 250) (by decide), st_ne (a := 250) (by decide), st_ne (a := 248) (by decide), st_row (c := 248), st_row (c := 249), st_ne (a := 249) (by decide), hτ (20 + 40 * t) 6 (by omega)]
  by_cases q : t = s
  · rw [if_pos q, if_pos q, q, h8, h9]
    rw [q] at w
    exact ⟨w.2.2.1, rfl, rfl⟩
  · rw [if_neg q, if_neg q, hτ (20 + 40 * t) 8 (by omega), hτ (20 + 40 * t) 9 (by omega)]
    exact ⟨w.2.2.1, w.2.2.2.2.1, w.2.2.2.2.2.1⟩
theorem Re.cu {c d : Int} (h : Re σ A N nm nv) (hs : s < 4) (hτ : ∀ a b, ((a ≠ 248 ∧ a ≠ 249) ∨ b ≠ s) → τ a b = σ a b) (h8 : τ 248 s = c) (h9 : τ 249 s = d) : Re τ (cuA A s c d) N nm nv := by
  refine h.cur cu_c (fun a b hab => hτ a b (by omega)) (fun r t r1 r2 ht => ?_)
  have q := (h.2.2.1 t ht).1 r (by omega) r2
  unfold cuA
  rcases (show r = 248 ∨ r = 249 ∨ r = 250 by omega) with rfl | rfl | rfl
  · rw [st_ne (by decide), st_row]
    split
    · rename_i e; rw [e]; exact h8
    · rename_i e; rw [hτ 248 t (by omega)]; exact q
  · rw [st_row, st_ne (by decide)]
    split
    · rename_i e; rw [e]; exact h9
    · rename_i e; rw [hτ 249 t (by omega)]; exact q
  · rw [st_ne (by decide), st_ne (by decide), hτ 250 t (by omega)]; exact q
theorem isR.fr2 (h : isR σ N D) (hf : ∀ a b, ((a = 230 ∧ b = 32) ∨ (262 ≤ a ∧ a ≤ 272)) → τ a b = σ a b) : isR τ N D := by
  have row : ∀ a, 262 ≤ a → a ≤ 272 → τ a = σ a := fun a h1 h2 => funext fun b => hf a b (Or.inr ⟨h1, h2⟩)
  unfold isR at h ⊢
  rw [hf 230 32 (Or.inl ⟨rfl, rfl⟩), row 264 (by decide) (by decide), row 265 (by decide) (by decide), row 266 (by decide) (by decide), row 267 (by decide) (by decide), row 268 (by decide) (by decide), row 269 (by decide) (by decide), row 262 (by decide) (by decide), row 270 (by decide) (by decide), row 271 (by decide) (by decide), row 272 (by decide) (by decide)]
  exact h
theorem DK.cok (dk : DK A N (Hs A s) D) {c : Int} (h : c = -1 ∨ c ∈ D.1) : curOK A N s c := by
  rcases h with h | h
  · exact Or.inl h
  · have := (dk.2.1 c).mp h
    exact Or.inr ⟨(List.mem_filter.mp this.1).2, this.2⟩
/-- a place between the seen elements -/
def isSt (D : Dc) (x : Int) : Prop := 0 ≤ x ∧ x ≤ cnt (seenB D) D.1
def stN (D : Dc) (x : Int) : Int := if x = 0 then -1 else elAt D (x - 1)
def thr (D : Dc) (e : Int) : Int := runL (thruS (seenB D) e) (fun _ => 0) 0 D.1
theorem stN_in {x : Int} (h : isSt D x) : stN D x = -1 ∨ stN D x ∈ D.1 := by
  unfold stN
  by_cases q : x = 0
  · rw [if_pos q]; exact Or.inl rfl
  · rw [if_neg q]; exact Or.inr (elAt_in (show isEl D (x - 1) from ⟨by have := h.1; omega, by have := h.2; omega⟩)).1
theorem thr_st (hd : DI A N D) {x : Int} (h : isSt D x) : thr D (stN D x) = x := by
  unfold thr stN
  by_cases q : x = 0
  · rw [if_pos q, q]
    refine thru_not D.1 0 0 (fun hm => ?_)
    have := mkE_num (hd.2.1 _ hm); omega
  · rw [if_neg q]
    have e := thru_at (P := seenB D) D.1 0 (x - 1) 0 (fun _ => -1) (fun _ => 0) hd.1 (by have := h.1; omega) (by have := h.2; omega)
    exact e.trans (by omega)
theorem thr_r {e : Int} : 0 ≤ thr D e ∧ thr D e ≤ cnt (seenB D) D.1 := by
  by_cases q : e ∈ D.1
  · unfold thr
    rw [thru_take D.1 0 _ q]
    have h1 := cnt_le (seenB D) (D.1.take (ix e D.1 + 1))
    have h2 := cnt_le (seenB D) (D.1.drop (ix e D.1 + 1))
    have h3 := cnt_app (seenB D) (D.1.take (ix e D.1 + 1)) (D.1.drop (ix e D.1 + 1))
    rw [List.take_append_drop] at h3
    omega
  · unfold thr
    rw [thru_not D.1 0 0 q]
    have := cnt_le (seenB D) D.1
    omega
theorem c_stand {q : Nat} {x : Int} (h : isP σ q D) (hd : DI A N D) (hN : N ≤ 160) (hn : 161 ≤ n) (hx : isSt D x) : fX5_standAt n σ q x = some (0, stN D x, σ) := by
  unfold fX5_standAt stN
  have h1 := (cnt_le (seenB D) D.1).2
  have h2 := h.2.1
  have hx' := hx
  unfold isSt at hx'
  by_cases e : x = 0
  · rw [if_neg (fun w => w e), if_pos e]
  · rw [if_pos e, if_neg e, vl_ok, i32_toInt ⟨by omega, by omega⟩, xw_ok (c_elementAt h hd hN hn (show isEl D (x - 1) from ⟨by omega, by omega⟩))]
theorem c_standNo {q : Nat} {x : Int} (h : isP σ q D) (hn : 161 ≤ n) (hr : inR x) (hx : ¬ isSt D x) : fX5_standAt n σ q x = some (1, 0, σ) := by
  unfold fX5_standAt
  have h1 := (cnt_le (seenB D) D.1)
  have h2 := h.2.1
  have hx' := hx
  unfold isSt at hx'
  have hr1 := hr.1
  have hr2 := hr.2
  rw [if_pos (by omega), vl_ok]
  have no : ¬ isEl D (i32 (x - 1)).toInt := by
    unfold isEl
    by_cases e : x = -2147483648
    · rw [e]
      have : (i32 (-2147483648 - 1)).toInt = 2147483647 := by decide
      rw [this]; omega
    · rw [i32_toInt ⟨by omega, by omega⟩]; omega
  rw [xw_x (c_elementNo h hn no)]
theorem so_moveTo : So_moveTo Rel := by
  intro nm nv σ y1 y2 y3 ⟨A, N, hI, hC, hR⟩ _ _ r2 _
  by_cases hx : 0 ≤ y1 ∧ y1 < 4
  · have hs : y1.toNat < 4 := by omega
    have dk := hI.dk hs
    have hN := hI.1.2.1
    by_cases hst : isSt (docOf A N (Hs A y1.toNat)) y2
    · have ok := dk.cok (stN_in hst)
      refine ⟨1000, So_fin (A' := cuA A y1.toNat (stN (docOf A N (Hs A y1.toNat)) y2) (stN (docOf A N (Hs A y1.toNat)) y2)) (F := fun σ1 => fX6_moveTo 1000 σ1 y1 y2) (g := fun v => v) (k := 0) (kk := 0) (v := thr (docOf A N (Hs A y1.toNat)) (A 248 y1.toNat)) rfl (fun _ => rfl) hR (hI.cu hs ok ok) ?_ (fun σ1 hr1 => ?_)⟩
      · unfold fX5_moveTo
        refine c_open hI.1 hC hx (by decide) (fun σ3 p1 p2 p3 => ?_)
        rw [xw_ok (c_stand p1 dk.1 hN (by decide) hst)]
        refine wp_b1e (q_seenThrough p1 (by decide) _) (wp_pf (wp_pf (wp_some ⟨rfl, fun _ => ?_, ?_, (p3.upd (by omega)).upd (by omega)⟩)))
        · rw [(p2.site hs).2.2.2.2.1]; rfl
        · refine p2.cu hI.1 hs (fun a b hab => ?_) ?_ ?_
          · show st (st σ3 (20 + 40 * y1.toNat) 8 (stN (docOf A N (Hs A y1.toNat)) y2)) (20 + 40 * y1.toNat) 9 (stN (docOf A N (Hs A y1.toNat)) y2) a b = σ3 a b
            by_cases q : a = 20 + 40 * y1.toNat
            · rw [q, st_row, if_neg (by omega), st_row, if_neg (by omega)]
            · rw [st_ne q, st_ne q]
          · show st (st σ3 (20 + 40 * y1.toNat) 8 (stN (docOf A N (Hs A y1.toNat)) y2)) (20 + 40 * y1.toNat) 9 (stN (docOf A N (Hs A y1.toNat)) y2) (20 + 40 * y1.toNat) 8 = _
            rw [st_row, if_neg (by decide), st_row, if_pos rfl]
          · show st (st σ3 (20 + 40 * y1.toNat) 8 (stN (docOf A N (Hs A y1.toNat)) y2)) (20 + 40 * y1.toNat) 9 (stN (docOf A N (Hs A y1.toNat)) y2) (20 + 40 * y1.toNat) 9 = _
            rw [st_row, if_pos rfl]
      · unfold fX6_moveTo
        refine wp_b1e (r_isSite y1) ?_
        rw [decide_eq_true hx, if_pos (by decide)]
        have hsi := r_site hI.1 (hI.2.1 y1.toNat hs) hr1 hs (n := 1000) (by decide)
        rw [Int.toNat_of_nonneg hx.1] at hsi
        refine wp_b1 hsi (fun σ3 q => ?_)
        obtain ⟨q1, q2, q3⟩ := q
        refine wp_b1e (r_seen q1.r q1.d hN (by decide)) (wp_b1e (r_isIn _ _ _) ?_)
        have hst' := hst
        unfold isSt at hst'
        rw [decide_eq_true hst', if_neg (by decide)]
        unfold fX6_moveTo_J36
        refine wp_pf ?_
        have fr : FrR σ1 (st σ3 230 0 0) := (FrR.ofF q3).upd (by decide)
        have q4 := q1.fr0 (v := 0)
        have q5 : Re (st σ3 230 0 0) A N nm nv := q2.fr (FrS.up0 FrS.rf)
        have e0 : st σ3 230 0 0 230 0 = 0 := by rw [st_row, if_pos rfl]
        generalize st σ3 230 0 0 = σ4 at fr q4 q5 e0
        rw [if_pos (by omega)]
        have e248 : σ4 248 y1.toNat = A 248 y1.toNat := (q5.2.2.1 y1.toNat hs).1 248 (by decide) (by decide)
        refine wp_rd hx.1 (by omega) ?_
        rw [e248]
        refine wp_b1e (r_placeOf q4.r q4.d hN (by decide) (dk.el hI.1 (hI.2.1 _ hs) (hI.2.1 y1.toNat hs).2.2.2.2.2.2.2.2.2.1)) ?_
        have fin : wp (fX6_moveTo_J79 1000 σ4 y1 y2 (thr (docOf A N (Hs A y1.toNat)) (A 248 y1.toNat)) (stN (docOf A N (Hs A y1.toNat)) y2) y1) (OkR σ1 (cuA A y1.toNat (stN (docOf A N (Hs A y1.toNat)) y2) (stN (docOf A N (Hs A y1.toNat)) y2)) N nm nv 0 (thr (docOf A N (Hs A y1.toNat)) (A 248 y1.toNat))) := by
          unfold fX6_moveTo_J79
          refine wp_wr hx.1 (by omega) (wp_rd hx.1 (by omega) ?_)
          rw [st_row, if_pos rfl]
          refine wp_wr hx.1 (by omega) (wp_some ⟨?_, fun _ => rfl, ?_, (fr.upd (by decide)).upd (by decide)⟩)
          · show st (st σ4 248 y1.toNat (stN (docOf A N (Hs A y1.toNat)) y2)) 249 y1.toNat (stN (docOf A N (Hs A y1.toNat)) y2) 230 0 = 0
            rw [st_ne (by decide), st_ne (by decide)]; exact e0
          · refine q5.cu hs (fun a b hab => ?_) ?_ ?_
            · show st (st σ4 248 y1.toNat (stN (docOf A N (Hs A y1.toNat)) y2)) 249 y1.toNat (stN (docOf A N (Hs A y1.toNat)) y2) a b = σ4 a b
              by_cases g1 : a = 249
              · rw [g1, st_row, if_neg (by omega), st_ne (by decide)]
              · rw [st_ne g1]
                by_cases g2 : a = 248
                · rw [g2, st_row, if_neg (by omega)]
                · rw [st_ne g2]
            · show st (st σ4 248 y1.toNat (stN (docOf A N (Hs A y1.toNat)) y2)) 249 y1.toNat (stN (docOf A N (Hs A y1.toNat)) y2) 248 y1.toNat = _
              rw [st_ne (by decide), st_row, if_pos rfl]
            · show st (st σ4 248 y1.toNat (stN (docOf A N (Hs A y1.toNat)) y2)) 249 y1.toNat (stN (docOf A N (Hs A y1.toNat)) y2) 249 y1.toNat = _
              rw [st_row, if_pos rfl]
        by_cases g : y2 = 0
        · rw [if_neg (fun w => w g)]
          have : stN (docOf A N (Hs A y1.toNat)) y2 = -1 := by unfold stN; rw [if_pos g]
          rw [this] at fin ⊢; exact fin
        · rw [if_pos g]
          refine wp_ck (by omega) (by have := r2.2; omega) (wp_b1e (r_seenAt q4.r q4.d hN (by decide) _) ?_)
          have : stN (docOf A N (Hs A y1.toNat)) y2 = runL (atS (seenB (docOf A N (Hs A y1.toNat))) (y2 - 1)) (fun _ => -1) 0 (docOf A N (Hs A y1.toNat)).1 := by unfold stN; rw [if_neg g]; rfl
          rw [← this]; exact fin
    · refine ⟨1000, So_fin (F := fun σ1 => fX6_moveTo 1000 σ1 y1 y2) (g := fun v => v) (k := 1) (kk := 1) (v := 0) rfl (fun q => (by cases q)) hR hI ?_ (fun σ1 hr1 => ?_)⟩
      · unfold fX5_moveTo
        refine c_open hI.1 hC hx (by decide) (fun σ3 p1 p2 p3 => ?_)
        rw [xw_x (c_standNo p1 (by decide) r2 hst)]
        exact wp_some ⟨rfl, fun q => (by cases q), p2, p3⟩
      · unfold fX6_moveTo
        refine wp_b1e (r_isSite y1) ?_
        rw [decide_eq_true hx, if_pos (by decide)]
        have hsi := r_site hI.1 (hI.2.1 y1.toNat hs) hr1 hs (n := 1000) (by decide)
        rw [Int.toNat_of_nonneg hx.1] at hsi
        refine wp_b1 hsi (fun σ3 q => ?_)
        obtain ⟨q1, q2, q3⟩ := q
        refine wp_b1e (r_seen q1.r q1.d hN (by decide)) (wp_b1e (r_isIn _ _ _) ?_)
        unfold isSt at hst
        rw [decide_eq_false hst, if_pos (by rfl)]
        unfold fX6_moveTo_J36
        refine wp_pf ?_
        rw [if_neg (by rw [st_row, if_pos rfl]; decide)]
        refine wp_some ⟨by show st σ3 230 0 1 230 0 = 1; rw [st_row, if_pos rfl], fun q => (by cases q), q2.fr (FrS.up0 FrS.rf), (FrR.ofF q3).upd (by decide)⟩
  · refine ⟨1000, So_fin (F := fun σ1 => fX6_moveTo 1000 σ1 y1 y2) (g := fun v => v) (k := 1) (kk := 1) (v := 0) rfl (fun q => (by cases q)) hR hI (by unfold fX5_moveTo; exact c_no hC hx) (fun σ1 hr1 => ?_)⟩
    unfold fX6_moveTo
    refine wp_b1e (r_isSite y1) ?_
    rw [decide_eq_false hx, if_neg (by decide)]
    exact wp_b2e (r_fails 1) (wp_some (r_no hr1 (by decide)))
theorem so_extend : So_extend Rel := by
  intro nm nv σ y1 y2 y3 ⟨A, N, hI, hC, hR⟩ _ _ r2 _
  by_cases hx : 0 ≤ y1 ∧ y1 < 4
  · have hs : y1.toNat < 4 := by omega
    have dk := hI.dk hs
    have hN := hI.1.2.1
    have ok9 := (hI.2.1 y1.toNat hs).2.2.2.2.2.2.2.2.2.2.1
    by_cases hst : isSt (docOf A N (Hs A y1.toNat)) y2
    · have ok := dk.cok (stN_in hst)
      have hst' := hst
      unfold isSt at hst'
      have hth := thr_r (D := docOf A N (Hs A y1.toNat)) (e := A 249 y1.toNat)
      have hcl : cnt (seenB (docOf A N (Hs A y1.toNat))) (docOf A N (Hs A y1.toNat)).1 ≤ 160 := by
        have := (cnt_le (seenB (docOf A N (Hs A y1.toNat))) (docOf A N (Hs A y1.toNat)).1).2
        have := dk.2.2.2.2
        omega
      refine ⟨1000, So_fin (A' := cuA A y1.toNat (stN (docOf A N (Hs A y1.toNat)) y2) (A 249 y1.toNat)) (F := fun σ1 => fX6_extend 1000 σ1 y1 y2) (g := fun v => v) (k := 0) (kk := 0) (v := imax y2 (thr (docOf A N (Hs A y1.toNat)) (A 249 y1.toNat)) - imin y2 (thr (docOf A N (Hs A y1.toNat)) (A 249 y1.toNat))) rfl (fun _ => rfl) hR (hI.cu hs ok ok9) ?_ (fun σ1 hr1 => ?_)⟩
      · unfold fX5_extend
        refine c_open hI.1 hC hx (by decide) (fun σ3 p1 p2 p3 => ?_)
        rw [xw_ok (c_stand p1 dk.1 hN (by decide) hst)]
        refine wp_pf ?_
        have p4 : isP (st σ3 (20 + 40 * y1.toNat) 8 (stN (docOf A N (Hs A y1.toNat)) y2)) (20 + 40 * y1.toNat + 10) (docOf A N (Hs A y1.toNat)) := by
          refine ⟨?_, p1.2.1, ?_, fun k k1 k2 i => ?_⟩
          · rw [st_ne (by omega)]; exact p1.1
          · rw [st_fn (by omega)]; exact p1.2.2.1
          · rw [st_ne (by omega)]; exact p1.2.2.2 k k1 k2 i
        refine wp_b1e (q_seenThrough p4 (by decide) _) (wp_vl (wp_vl ?_))
        have e9 : st σ3 (20 + 40 * y1.toNat) 8 (stN (docOf A N (Hs A y1.toNat)) y2) (20 + 40 * y1.toNat) 9 = A 249 y1.toNat := by
          rw [st_row, if_neg (by decide)]; exact (p2.site hs).2.2.2.2.2.1
        rw [e9]
        show wp (ck (imax y2 (thr (docOf A N (Hs A y1.toNat)) (A 249 y1.toNat)) - imin y2 (thr (docOf A N (Hs A y1.toNat)) (A 249 y1.toNat))) _) _
        have hb : 0 ≤ imax y2 (thr (docOf A N (Hs A y1.toNat)) (A 249 y1.toNat)) - imin y2 (thr (docOf A N (Hs A y1.toNat)) (A 249 y1.toNat)) ∧ imax y2 (thr (docOf A N (Hs A y1.toNat)) (A 249 y1.toNat)) - imin y2 (thr (docOf A N (Hs A y1.toNat)) (A 249 y1.toNat)) ≤ 160 := by
          unfold imax imin
          constructor <;> (split <;> split <;> omega)
        refine wp_ck (by omega) (by omega) (wp_some ⟨rfl, fun _ => rfl, ?_, p3.upd (by omega)⟩)
        refine p2.cu hI.1 hs (fun a b hab => ?_) ?_ e9
        · show st σ3 (20 + 40 * y1.toNat) 8 (stN (docOf A N (Hs A y1.toNat)) y2) a b = σ3 a b
          by_cases q : a = 20 + 40 * y1.toNat
          · rw [q, st_row, if_neg (by omega)]
          · rw [st_ne q]
        · show st σ3 (20 + 40 * y1.toNat) 8 (stN (docOf A N (Hs A y1.toNat)) y2) (20 + 40 * y1.toNat) 8 = _
          rw [st_row, if_pos rfl]
      · unfold fX6_extend
        refine wp_b1e (r_isSite y1) ?_
        rw [decide_eq_true hx, if_pos (by decide)]
        have hsi := r_site hI.1 (hI.2.1 y1.toNat hs) hr1 hs (n := 1000) (by decide)
        rw [Int.toNat_of_nonneg hx.1] at hsi
        refine wp_b1 hsi (fun σ3 q => ?_)
        obtain ⟨q1, q2, q3⟩ := q
        refine wp_b1e (r_seen q1.r q1.d hN (by decide)) (wp_b1e (r_isIn _ _ _) ?_)
        rw [decide_eq_true hst', if_neg (by decide)]
        unfold fX6_extend_J36
        refine wp_pf ?_
        have fr : FrR σ1 (st σ3 230 0 0) := (FrR.ofF q3).upd (by decide)
        have q4 := q1.fr0 (v := 0)
        have q5 : Re (st σ3 230 0 0) A N nm nv := q2.fr (FrS.up0 FrS.rf)
        have e0 : st σ3 230 0 0 230 0 = 0 := by rw [st_row, if_pos rfl]
        generalize st σ3 230 0 0 = σ4 at fr q4 q5 e0
        rw [if_pos (by omega)]
        have fin : wp (fX6_extend_J68 1000 σ4 y1 y2 (stN (docOf A N (Hs A y1.toNat)) y2) y1) (OkR σ1 (cuA A y1.toNat (stN (docOf A N (Hs A y1.toNat)) y2) (A 249 y1.toNat)) N nm nv 0 (imax y2 (thr (docOf A N (Hs A y1.toNat)) (A 249 y1.toNat)) - imin y2 (thr (docOf A N (Hs A y1.toNat)) (A 249 y1.toNat)))) := by
          unfold fX6_extend_J68
          refine wp_wr hx.1 (by omega) ?_
          have q6 : isR (st σ4 248 y1.toNat (stN (docOf A N (Hs A y1.toNat)) y2)) N (docOf A N (Hs A y1.toNat)) := q4.r.fr2 (fun a b hab => by rw [st_ne (by omega)])
          have e249 : st σ4 248 y1.toNat (stN (docOf A N (Hs A y1.toNat)) y2) 249 y1.toNat = A 249 y1.toNat := by
            rw [st_ne (by decide)]; exact (q5.2.2.1 y1.toNat hs).1 249 (by decide) (by decide)
          have sel : fX6_selected 1000 (st σ4 248 y1.toNat (stN (docOf A N (Hs A y1.toNat)) y2)) y1 = some (imax y2 (thr (docOf A N (Hs A y1.toNat)) (A 249 y1.toNat)) - imin y2 (thr (docOf A N (Hs A y1.toNat)) (A 249 y1.toNat))) := by
            unfold fX6_selected
            rw [rd_ok hx.1 (by omega), st_row, if_pos rfl, b1_ok (r_placeOf q6 dk.1 hN (by decide) (stN_in hst)), rd_ok hx.1 (by omega), e249, b1_ok (r_placeOf q6 dk.1 hN (by decide) (dk.el hI.1 (hI.2.1 _ hs) ok9))]
            rw [show runL (thruS (seenB (docOf A N (Hs A y1.toNat))) (stN (docOf A N (Hs A y1.toNat)) y2)) (fun _ => 0) 0 (docOf A N (Hs A y1.toNat)).1 = y2 from thr_st dk.1 hst]
            show ck (y2 - thr (docOf A N (Hs A y1.toNat)) (A 249 y1.toNat)) _ = _
            rw [ck_ok (by omega) (by omega)]
            unfold imax imin
            by_cases g : 0 ≤ y2 - thr (docOf A N (Hs A y1.toNat)) (A 249 y1.toNat)
            · rw [if_pos g, if_neg (by omega)]
              by_cases g2 : thr (docOf A N (Hs A y1.toNat)) (A 249 y1.toNat) < y2
              · rw [if_pos g2]
              · rw [if_neg g2]; congr 1; omega
            · rw [if_neg g, ck_ok (by omega) (by omega), if_pos (by omega), if_neg (by omega)]
              congr 1; omega
          refine wp_b1e sel (wp_some ⟨?_, fun _ => rfl, ?_, fr.upd (by decide)⟩)
          · show st σ4 248 y1.toNat (stN (docOf A N (Hs A y1.toNat)) y2) 230 0 = 0
            rw [st_ne (by decide)]; exact e0
          · refine q5.cu hs (fun a b hab => ?_) ?_ e249
            · show st σ4 248 y1.toNat (stN (docOf A N (Hs A y1.toNat)) y2) a b = σ4 a b
              by_cases g2 : a = 248
              · rw [g2, st_row, if_neg (by omega)]
              · rw [st_ne g2]
            · show st σ4 248 y1.toNat (stN (docOf A N (Hs A y1.toNat)) y2) 248 y1.toNat = _
              rw [st_row, if_pos rfl]
        by_cases g : y2 = 0
        · rw [if_neg (fun w => w g)]
          have : stN (docOf A N (Hs A y1.toNat)) y2 = -1 := by unfold stN; rw [if_pos g]
          rw [this] at fin ⊢; exact fin
        · rw [if_pos g]
          refine wp_ck (by omega) (by have := r2.2; omega) (wp_b1e (r_seenAt q4.r q4.d hN (by decide) _) ?_)
          have : stN (docOf A N (Hs A y1.toNat)) y2 = runL (atS (seenB (docOf A N (Hs A y1.toNat))) (y2 - 1)) (fun _ => -1) 0 (docOf A N (Hs A y1.toNat)).1 := by unfold stN; rw [if_neg g]; rfl
          rw [← this]; exact fin
    · refine ⟨1000, So_fin (F := fun σ1 => fX6_extend 1000 σ1 y1 y2) (g := fun v => v) (k := 1) (kk := 1) (v := 0) rfl (fun q => (by cases q)) hR hI ?_ (fun σ1 hr1 => ?_)⟩
      · unfold fX5_extend
        refine c_open hI.1 hC hx (by decide) (fun σ3 p1 p2 p3 => ?_)
        rw [xw_x (c_standNo p1 (by decide) r2 hst)]
        exact wp_some ⟨rfl, fun q => (by cases q), p2, p3⟩
      · unfold fX6_extend
        refine wp_b1e (r_isSite y1) ?_
        rw [decide_eq_true hx, if_pos (by decide)]
        have hsi := r_site hI.1 (hI.2.1 y1.toNat hs) hr1 hs (n := 1000) (by decide)
        rw [Int.toNat_of_nonneg hx.1] at hsi
        refine wp_b1 hsi (fun σ3 q => ?_)
        obtain ⟨q1, q2, q3⟩ := q
        refine wp_b1e (r_seen q1.r q1.d hN (by decide)) (wp_b1e (r_isIn _ _ _) ?_)
        unfold isSt at hst
        rw [decide_eq_false hst, if_pos (by rfl)]
        unfold fX6_extend_J36
        refine wp_pf ?_
        rw [if_neg (by rw [st_row, if_pos rfl]; decide)]
        refine wp_some ⟨by show st σ3 230 0 1 230 0 = 1; rw [st_row, if_pos rfl], fun q => (by cases q), q2.fr (FrS.up0 FrS.rf), (FrR.ofF q3).upd (by decide)⟩
  · refine ⟨1000, So_fin (F := fun σ1 => fX6_extend 1000 σ1 y1 y2) (g := fun v => v) (k := 1) (kk := 1) (v := 0) rfl (fun q => (by cases q)) hR hI (by unfold fX5_extend; exact c_no hC hx) (fun σ1 hr1 => ?_)⟩
    unfold fX6_extend
    refine wp_b1e (r_isSite y1) ?_
    rw [decide_eq_false hx, if_neg (by decide)]
    exact wp_b2e (r_fails 1) (wp_some (r_no hr1 (by decide)))
end MOVE
