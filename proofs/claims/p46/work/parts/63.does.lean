/-! ===== what an act does to a document; the class's paper does just that ===== -/
def insA (L : List Int) (at_ : Nat) (a : Int) : List Int := L.take at_ ++ a :: L.drop at_
theorem insA_len {L : List Int} {k : Nat} {a : Int} (h : k ≤ L.length) : (insA L k a).length = L.length + 1 := by
  unfold insA
  rw [List.length_append, List.length_cons, List.length_take, List.length_drop]; omega
theorem insA_get {L : List Int} {k : Nat} {a : Int} (h : k ≤ L.length) (j : Nat) : (insA L k a)[j]? = if j < k then L[j]? else if j = k then some a else L[j - 1]? := by
  unfold insA
  have hl : (L.take k).length = k := by rw [List.length_take]; omega
  by_cases h1 : j < k
  · rw [if_pos h1, List.getElem?_append_left (by omega), List.getElem?_take, if_pos h1]
  · rw [if_neg h1, List.getElem?_append_right (by omega), hl]
    by_cases h2 : j = k
    · rw [if_pos h2, h2, Nat.sub_self]; rfl
    · rw [if_neg h2]
      obtain ⟨q, rfl⟩ : ∃ q, j = k + q + 1 := ⟨j - k - 1, by omega⟩
      rw [show k + q + 1 - k = q + 1 by omega, List.getElem?_cons_succ, List.getElem?_drop, show k + q + 1 - 1 = k + q by omega]
theorem insA_mem {L : List Int} {k : Nat} {a x : Int} : x ∈ insA L k a ↔ x = a ∨ x ∈ L := by
  unfold insA
  rw [List.mem_append, List.mem_cons]
  constructor
  · rintro (h | h | h)
    · exact Or.inr (List.mem_of_mem_take h)
    · exact Or.inl h
    · exact Or.inr (List.mem_of_mem_drop h)
  · rintro (h | h)
    · exact Or.inr (Or.inl h)
    · rw [← List.take_append_drop k L, List.mem_append] at h
      exact h.elim Or.inl (fun h => Or.inr (Or.inr h))
def FrP (p : Nat) (σ σ2 : St) : Prop := ∀ a, a < p ∨ p + 16 < a → ∀ b, σ2 a b = σ a b
theorem FrP.rf {p : Nat} {σ : St} : FrP p σ σ := fun _ _ _ => rfl
theorem FrP.tr {p : Nat} {σ σ2 σ3 : St} (h : FrP p σ σ2) (h2 : FrP p σ2 σ3) : FrP p σ σ3 := fun a ha b => (h2 a ha b).trans (h a ha b)
theorem FrP.upd {p k i : Nat} {v : Int} {σ σ2 : St} (h : FrP p σ σ2) (hk : k ≤ 16) : FrP p σ (st σ2 (p + k) i v) := fun a ha b => by
  rw [st_ne (by omega)]; exact h a ha b
theorem TT.fr {T σ σ2 : St} {N p : Nat} (h : TT T σ N) (hp : 17 ≤ p) (hf : FrP p σ σ2) : TT T σ2 N := ⟨fun k h1 h2 i => (hf k (by omega) i).trans (h.1 k h1 h2 i), h.2⟩
theorem isP.upd {σ : St} {p k i : Nat} {v : Int} {D : Dc} (h : isP σ p D) (h1 : 4 ≤ k) (h2 : k ≤ 16) : isP (st σ (p + k) i v) p (D.1, st D.2 k i v) := by
  refine ⟨?_, h.2.1, ?_, fun k' h3 h4 i' => ?_⟩
  · rw [st_ne (by omega)]; exact h.1
  · show seg (st σ (p + k) i v (p + 2)) 0 D.1.length = D.1
    rw [seg_congr (g := σ (p + 2)) (fun j _ _ => by rw [st_ne (by omega)]), h.2.2.1]
  · show st σ (p + k) i v (p + k') i' = st D.2 k i v k' i'
    unfold st
    by_cases hk : k' = k
    · subst hk
      rw [if_pos rfl, if_pos rfl, h.2.2.2 k' h3 h4]
    · rw [if_neg (by omega), if_neg hk, h.2.2.2 k' h3 h4]
def dLv (T : St) (N : Nat) (D : Dc) (a e : Int) : Int := lev D (gt T N 9 (-1) a) (blk D e)
def dAt (T : St) (N : Nat) (D : Dc) (a : Int) : Nat := if gt T N 12 (-1) a ∈ D.1 then ix (gt T N 12 (-1) a) D.1 + 1 else 0
def dSt (T : St) (N : Nat) (D : Dc) (a : Int) : Int := if D.2 9 a.toNat ≠ 0 ∨ dLv T N D a (gt T N 12 (-1) a) = 2 then 3 else if dLv T N D a (gt T N 12 (-1) a) = 1 ∨ gt T N 15 0 a ≠ 0 then 2 else 1
def dBt (L : List Int) (C : St) (k : Nat) : Int := band (if k = 0 then 0 else C 7 (L.getD (k - 1) 0).toNat) (bor (if k < L.length then C 7 (L.getD k 0).toNat else 0) 1)
def dPut (T : St) (N : Nat) (D : Dc) (a : Int) : Dc := (insA D.1 (dAt T N D a) a, st (st (st D.2 5 a.toNat (if gt T N 11 (-1) a = 1 then 1 else 0)) 4 a.toNat (dSt T N D a)) 7 a.toNat (dBt D.1 D.2 (dAt T N D a)))
def dRem (T : St) (N : Nat) (D : Dc) (a : Int) : Dc :=
  if num (gt T N 12 (-1) a) ∧ dLv T N D a (gt T N 12 (-1) a) ≠ 2 then
    (if (D.2 4 (gt T N 12 (-1) a).toNat = 2 ∧ gt T N 9 (-1) (gt T N 12 (-1) a) = gt T N 9 (-1) a) ∨ (dLv T N D a (gt T N 12 (-1) a) = 0 ∧ gt T N 15 0 a = 0) then (D.1, st D.2 6 (gt T N 12 (-1) a).toNat 1) else (D.1, st D.2 8 a.toNat 1)) else D
def dRes (T : St) (N : Nat) (D : Dc) (a : Int) : Dc := if num (gt T N 12 (-1) a) ∧ dLv T N D a (gt T N 12 (-1) a) = 0 then (D.1, st D.2 6 (gt T N 12 (-1) a).toNat 0) else D
def dPnt (P : Int → Bool) (lv : Int → Bool) (f l : Int) (g : Int → Int) : Bool → Int → St → List Int → St
  | _, _, C, [] => C
  | b, k, C, x :: L =>
    if x = l then (if (b || decide (x = f)) = true ∧ lv (if P x = true then x else k) = true then st C 7 x.toNat (g (C 7 x.toNat)) else C)
    else dPnt P lv f l g (b || decide (x = f)) (if P x = true then x else k) (if (b || decide (x = f)) = true ∧ lv (if P x = true then x else k) = true then st C 7 x.toNat (g (C 7 x.toNat)) else C) L
def dPaint (T : St) (N : Nat) (D : Dc) (a : Int) (g : Int → Int) : Dc := (D.1, dPnt (brkB D) (fun b => decide (gt T N 11 (-1) a ≠ 4) || decide (lev D (gt T N 9 (-1) a) b = 0)) (gt T N 12 (-1) a) (gt T N 13 (-1) a) g false (-1) D.2 D.1)
def dKind (T : St) (N : Nat) (D : Dc) (a : Int) : Dc := if (-1 ≤ gt T N 12 (-1) a ∧ gt T N 12 (-1) a < 160) ∧ lev D (gt T N 9 (-1) a) (gt T N 12 (-1) a) = 0 then (D.1, st D.2 10 (gt T N 12 (-1) a + 1).toNat (gt T N 14 0 a)) else D
def dNest (T : St) (N : Nat) (D : Dc) (a : Int) : Dc := if (-1 ≤ gt T N 12 (-1) a ∧ gt T N 12 (-1) a < 160) ∧ lev D (gt T N 9 (-1) a) (gt T N 12 (-1) a) = 0 ∧ gt T N 12 (-1) a ∉ chn (D.2 11) 161 (gt T N 13 (-1) a) then (D.1, st D.2 11 (gt T N 12 (-1) a + 1).toNat (gt T N 13 (-1) a)) else D
def dSet (T : St) (N : Nat) (D : Dc) (a : Int) (ok : Bool) : Dc :=
  if num (elemOf T N (gt T N 12 (-1) a)) ∧ openB T N D (gt T N 12 (-1) a) = true ∧ dLv T N D a (elemOf T N (gt T N 12 (-1) a)) = 0 then
    (if elemOf T N (gt T N 12 (-1) a) = gt T N 12 (-1) a then (D.1, st D.2 4 (gt T N 12 (-1) a).toNat (if ok = true then 1 else 3))
     else (D.1, st (st D.2 8 (gt T N 12 (-1) a).toNat 0) 6 (elemOf T N (gt T N 12 (-1) a)).toNat (if D.2 6 (elemOf T N (gt T N 12 (-1) a)).toNat ≠ 0 ∨ ok = true then 1 else 0))) else D
def dLevel (T : St) (N : Nat) (D : Dc) (a : Int) : Dc := if (-1 ≤ gt T N 12 (-1) a ∧ gt T N 12 (-1) a < 160) ∧ 0 < gt T N 13 (-1) a ∧ gt T N 13 (-1) a < 4 then (D.1, st D.2 (13 + (gt T N 13 (-1) a).toNat) (gt T N 12 (-1) a + 1).toNat (gt T N 14 0 a)) else D
def dOne (T : St) (N : Nat) (D : Dc) (a : Int) : Dc :=
  if gt T N 11 (-1) a = 0 ∨ gt T N 11 (-1) a = 1 then dPut T N D a
  else if num a ∧ D.2 9 a.toNat ≠ 0 then D
  else if gt T N 11 (-1) a = 2 then dRem T N D a
  else if gt T N 11 (-1) a = 3 then dRes T N D a
  else if gt T N 11 (-1) a = 4 then dPaint T N D a (fun v => if gt T N 15 0 a ≠ 0 then bor v (bshl 1 (gt T N 14 0 a)) else band v (bxor (bshl 1 (gt T N 14 0 a)) (-1)))
  else if gt T N 11 (-1) a = 5 then dKind T N D a
  else if gt T N 11 (-1) a = 6 then dNest T N D a
  else if gt T N 11 (-1) a = 7 then dPaint T N D a (fun v => bor v (bshl 1 (2 + gt T N 14 0 a)))
  else if gt T N 11 (-1) a = 8 then dSet T N D a true
  else if gt T N 11 (-1) a = 9 then dSet T N D a false
  else if gt T N 11 (-1) a = 10 then dLevel T N D a
  else D
/-- only an element can be PROPOSED -/
def SO (T : St) (N : Nat) (D : Dc) : Prop := ∀ i : Nat, D.2 4 i = 2 → mkE T N (i : Int) = true
section DOES
variable {T σ : St} {N p n : Nat} {D : Dc} {a : Int}
theorem a_put (h : isP σ p D) (ht : TT T σ N) (hp : 17 ≤ p) (hn : 161 ≤ n) (ha : 0 ≤ a ∧ a < (N : Int)) (hr : rowOK D) (hlen : D.1.length < 160) : wp (fX3_putElement n σ p a) (fun σ2 => isP σ2 p (dPut T N D a) ∧ FrP p σ σ2) := by
  have hN := ht.2.2
  have hat : dAt T N D a ≤ D.1.length := by
    unfold dAt
    split
    · rename_i hm; exact ix_lt hm
    · exact Nat.zero_le _
  have hna : num a := ⟨ha.1, by omega⟩
  -- the end: from the states on
  have fin : ∀ (σ1 : St) (C : St), isP σ1 p (D.1, C) → FrP p σ σ1 → C 7 = D.2 7 → wp (fX3_putElement_J150 n σ1 p a (dAt T N D a : Int)) (fun σ2 => isP σ2 p (insA D.1 (dAt T N D a) a, st C 7 a.toNat (dBt D.1 D.2 (dAt T N D a))) ∧ FrP p σ σ2) := by
    intro σ1 C h1 hf hC
    generalize dAt T N D a = k at hat ⊢
    have last : ∀ v : Int, v = dBt D.1 D.2 k → wp (wr σ1 (p + 7) 160 a v (fun σ22 => ck ((k : Int) + 1) (fun v23 => ck ((σ22 p 2) - k) (fun v24 => cp σ22 (p + 2) 160 k v23 v24 (fun σ25 => wr σ25 (p + 2) 160 k a (fun σ26 => ck ((σ26 p 2) + 1) (fun v27 => pf σ26 p 2 v27 (fun σ28 => some σ28)))))))) (fun σ2 => isP σ2 p (insA D.1 k a, st C 7 a.toNat (dBt D.1 D.2 k)) ∧ FrP p σ σ2) := by
      intro v hv
      subst hv
      refine wp_wr ha.1 (by omega) ?_
      have h2 := h1.upd (k := 7) (i := a.toNat) (v := dBt D.1 D.2 k) (by decide) (by decide)
      have hf2 := hf.upd (k := 7) (i := a.toNat) (v := dBt D.1 D.2 k) (by decide)
      generalize st σ1 (p + 7) a.toNat (dBt D.1 D.2 k) = σ3 at h2 hf2
      have e2 : σ3 p 2 = (D.1.length : Int) := h2.1
      refine wp_ck (by omega) (by omega) (wp_ck (by omega) (by omega) ?_)
      refine wp_cp (by omega) (by omega) (by omega) (by omega) (by omega) ?_
      refine wp_wr (by omega) (by omega) ?_
      have e3 : st (cpy σ3 (p + 2) (k : Int).toNat ((k : Int) + 1).toNat (σ3 p 2 - (k : Int)).toNat) (p + 2) (k : Int).toNat a p 2 = (D.1.length : Int) := by
        rw [st_ne (by omega)]
        show (if p = p + 2 then _ else _) = _
        rw [if_neg (by omega)]; exact e2
      refine wp_ck (by rw [e3]; omega) (by rw [e3]; omega) ?_
      refine wp_pf (wp_some ⟨⟨?_, ?_, ?_, ?_⟩, ?_⟩)
      · show (if p = p then (if 2 = 2 then _ else _) else _) = _
        rw [if_pos rfl, if_pos rfl, e3, insA_len hat]; omega
      · show (insA D.1 k a).length ≤ 160
        rw [insA_len hat]; omega
      · refine seg_of_get rfl (fun j hj => ?_)
        have hj : j < D.1.length + 1 := by rw [← insA_len (a := a) hat]; exact hj
        show (insA D.1 k a)[j]? = _
        rw [st_ne (by omega), st_row, insA_get hat]
        by_cases hj1 : j < k
        · rw [if_pos hj1, if_neg (by omega)]
          show _ = some (if p + 2 = p + 2 then (if _ then _ else _) else _)
          rw [if_pos rfl, if_neg (by omega), ← h2.get (i := j) (by show j < D.1.length; omega)]
        · rw [if_neg hj1]
          by_cases hj2 : j = k
          · rw [if_pos hj2, if_pos (by omega)]
          · rw [if_neg hj2, if_neg (by omega)]
            show _ = some (if p + 2 = p + 2 then (if _ then _ else _) else _)
            rw [if_pos rfl, if_pos (by omega), show (k : Int).toNat + (j - ((k : Int) + 1).toNat) = j - 1 by omega, ← h2.get (i := j - 1) (by show j - 1 < D.1.length; omega)]
      · intro k' h3 h4 i
        rw [st_ne (by omega), st_ne (by omega)]
        show (if p + k' = p + 2 then _ else _) = _
        rw [if_neg (by omega)]
        exact h2.2.2.2 k' h3 h4 i
      · intro b hb i
        rw [st_ne (by omega), st_ne (by omega)]
        show (if b = p + 2 then _ else _) = _
        rw [if_neg (by omega)]
        exact hf2 b hb i
    have e1 : σ1 p 2 = (D.1.length : Int) := h1.1
    have rowv : ∀ q, q < D.1.length → σ1 (p + 2) q = D.1.getD q 0 := fun q hq => by
      have := h1.get (i := q) hq
      have this : D.1[q]? = some (σ1 (p + 2) q) := this
      rw [List.getD_eq_getElem?_getD, this]; rfl
    have rown : ∀ q, q < D.1.length → num (D.1.getD q 0) := fun q hq => by
      rw [← rowv q hq]; exact hr _ (h1.mem hq)
    have bits : ∀ i, σ1 (p + 7) i = D.2 7 i := fun i => by
      rw [h1.c (by decide) (by decide)]; show C 7 i = _; rw [hC]
    have q1 : ∃ x, fX3_inRow σ1 p ((k : Int) - 1) = some x ∧ fX3_bitsOf σ1 p x = some (if k = 0 then 0 else D.2 7 (D.1.getD (k - 1) 0).toNat) := by
      by_cases hk : k = 0
      · refine ⟨-1, q_inRowN h1 (Or.inl (by omega)), ?_⟩
        rw [if_pos hk]; exact q_bitsOfN (by omega)
      · refine ⟨σ1 (p + 2) (k - 1), ?_, ?_⟩
        · rw [show (k : Int) - 1 = ((k - 1 : Nat) : Int) by omega]; exact q_inRow h1 (show k - 1 < D.1.length by omega)
        · rw [if_neg hk, rowv (k - 1) (by omega), q_bitsOf h1 (rown (k - 1) (by omega))]
          show some (C 7 _) = _
          rw [hC]
    have q2 : ∃ x, fX3_inRow σ1 p (k : Int) = some x ∧ fX3_bitsOf σ1 p x = some (if k < D.1.length then D.2 7 (D.1.getD k 0).toNat else 0) := by
      by_cases hk : k < D.1.length
      · refine ⟨σ1 (p + 2) k, q_inRow h1 hk, ?_⟩
        rw [if_pos hk, rowv k hk, q_bitsOf h1 (rown k hk)]
        show some (C 7 _) = _
        rw [hC]
      · refine ⟨-1, q_inRowN h1 (Or.inr (by show (D.1.length : Int) ≤ k; omega)), ?_⟩
        rw [if_neg hk]; exact q_bitsOfN (by omega)
    obtain ⟨x1, c1, c2⟩ := q1
    obtain ⟨x2, c3, c4⟩ := q2
    unfold fX3_putElement_J150
    exact wp_ck (by omega) (by omega) (wp_b1e c1 (wp_b1e c2 (wp_b1e c3 (wp_b1e c4 (wp_vl (wp_vl (last _ rfl)))))))
  -- the state
  have mid : ∀ t0 : Int, t0 = (if gt T N 11 (-1) a = 1 then 1 else 0) → wp (fX3_putElement_J90 n σ p a (dAt T N D a : Int) (dLv T N D a (gt T N 12 (-1) a)) t0 a) (fun σ2 => isP σ2 p (dPut T N D a) ∧ FrP p σ σ2) := by
    intro t0 ht0
    unfold fX3_putElement_J90 fX3_putElement_J106 fX3_putElement_J133
    refine wp_wrb ha.1 (by omega) (by rw [ht0]; split; exact Or.inr rfl; exact Or.inl rfl) ?_
    have h2 := h.upd (k := 5) (i := a.toNat) (v := t0) (by decide) (by decide)
    have hf2 := (FrP.rf (p := p) (σ := σ)).upd (k := 5) (i := a.toNat) (v := t0) (by decide)
    have ht2 := ht.fr hp hf2
    generalize st σ (p + 5) a.toNat t0 = σ1 at h2 hf2 ht2
    refine wp_rd ha.1 (by omega) ?_
    rw [h2.c (by decide) (by decide)]
    have end_ : ∀ v : Int, v = dSt T N D a → wp (wr σ1 (p + 4) 160 a v (fun σ13 => fX3_putElement_J150 n σ13 p a (dAt T N D a))) (fun σ2 => isP σ2 p (dPut T N D a) ∧ FrP p σ σ2) := by
      intro v hv
      refine wp_wr ha.1 (by omega) ?_
      have h3 := h2.upd (k := 4) (i := a.toNat) (v := v) (by decide) (by decide)
      refine wp_mono (fin _ _ h3 (hf2.upd (by decide)) ?_) (fun σ2 hq => ?_)
      · funext i
        show st (st D.2 5 a.toNat t0) 4 a.toNat v 7 i = D.2 7 i
        rw [st_ne (by decide), st_ne (by decide)]
      · unfold dPut
        rw [hv, ht0] at hq
        exact hq
    show wp (if D.2 9 a.toNat ≠ 0 then _ else _) _
    refine wp_if (fun q => ?_) (fun q => ?_)
    · exact end_ 3 (by unfold dSt; rw [if_pos (Or.inl q)])
    · refine wp_if (fun q2 => ?_) (fun q2 => ?_)
      · refine wp_if (fun q1 => ?_) (fun q1 => ?_)
        · exact end_ 2 (by unfold dSt; rw [if_neg (by omega), if_pos (Or.inl q1)])
        · refine wp_b1e (q_flagOf ht2 a) ?_
          by_cases hfl : gt T N 15 0 a ≠ 0
          · rw [decide_eq_true hfl, if_neg (by decide)]
            exact end_ 2 (by unfold dSt; rw [if_neg (by omega), if_pos (Or.inr hfl)])
          · rw [decide_eq_false hfl, if_pos (by decide)]
            exact end_ 1 (by unfold dSt; rw [if_neg (by omega), if_neg (by omega)])
      · exact end_ 3 (by unfold dSt; rw [if_pos (Or.inr (by omega))])
  unfold fX3_putElement
  refine wp_b1e (q_firstOf ht a) (wp_b1e (q_placeOf h hn _) ?_)
  have ep : (if gt T N 12 (-1) a ∈ D.1 then (ix (gt T N 12 (-1) a) D.1 : Int) else -1) + 1 = (dAt T N D a : Int) := by
    unfold dAt
    split <;> omega
  refine wp_ck (by rw [ep]; omega) (by rw [ep]; omega) ?_
  rw [ep]
  refine wp_b1e (q_isNumber a) ?_
  rw [decide_eq_true hna, if_neg (by decide), h.1, if_neg (by omega), if_neg (by omega), if_pos (by omega)]
  refine wp_b1e (q_siteOf ht a) (wp_b1e (q_blockOf h hn _) (wp_b1e (q_levelIn h _ _) (wp_b1e (q_kindOfA ht a) ?_)))
  refine wp_if (fun q => ?_) (fun q => ?_)
  · exact mid 0 (by rw [if_neg q])
  · exact mid 1 (by rw [if_pos (by omega)])
theorem a_rem (h : isP σ p D) (ht : TT T σ N) (hp : 17 ≤ p) (hn : 161 ≤ n) (ha : 0 ≤ a ∧ a < (N : Int)) : wp (fX3_removeElement n σ p a) (fun σ2 => isP σ2 p (dRem T N D a) ∧ FrP p σ σ2) := by
  have hN := ht.2.2
  have hna : num a := ⟨ha.1, by omega⟩
  unfold fX3_removeElement
  refine wp_b1e (q_firstOf ht a) (wp_b1e (q_siteOf ht a) (wp_b1e (q_blockOf h hn _) (wp_b1e (q_levelIn h _ _) (wp_b1e (q_isNumber _) ?_))))
  generalize he : gt T N 12 (-1) a = e
  have hlv0 : lev D (gt T N 9 (-1) a) (blk D e) = dLv T N D a e := rfl
  rw [hlv0]
  generalize hlv : dLv T N D a e = lv
  by_cases hne : num e
  · rw [decide_eq_true hne, if_neg (by decide)]
    refine wp_b1e (q_isNumber a) ?_
    rw [decide_eq_true hna, if_neg (by decide)]
    by_cases hl2 : lv = 2
    · rw [if_neg (by omega)]
      refine wp_some ⟨?_, FrP.rf⟩
      unfold dRem; rw [he, hlv, if_neg (by omega)]; exact h
    · rw [if_pos hl2]
      have yes : ∀ (hq : (D.2 4 e.toNat = 2 ∧ gt T N 9 (-1) e = gt T N 9 (-1) a) ∨ (lv = 0 ∧ gt T N 15 0 a = 0)), wp (fX3_removeElement_J101 n σ p a e) (fun σ2 => isP σ2 p (dRem T N D a) ∧ FrP p σ σ2) := by
        intro hq
        unfold fX3_removeElement_J101
        refine wp_wrb hne.1 (by omega) (Or.inr rfl) (wp_some ⟨?_, FrP.rf.upd (by decide)⟩)
        unfold dRem; rw [he, hlv, if_pos ⟨hne, hl2⟩, if_pos hq]
        exact h.upd (by decide) (by decide)
      have no : ∀ (hq : ¬ ((D.2 4 e.toNat = 2 ∧ gt T N 9 (-1) e = gt T N 9 (-1) a) ∨ (lv = 0 ∧ gt T N 15 0 a = 0))), wp (fX3_removeElement_J111 n σ p a) (fun σ2 => isP σ2 p (dRem T N D a) ∧ FrP p σ σ2) := by
        intro hq
        unfold fX3_removeElement_J111
        refine wp_wrb ha.1 (by omega) (Or.inr rfl) (wp_some ⟨?_, FrP.rf.upd (by decide)⟩)
        unfold dRem; rw [he, hlv, if_pos ⟨hne, hl2⟩, if_neg hq]
        exact h.upd (by decide) (by decide)
      have j71 : ∀ t0 : Int, (t0 ≠ 0 ↔ (D.2 4 e.toNat = 2 ∧ gt T N 9 (-1) e = gt T N 9 (-1) a)) → wp (fX3_removeElement_J78 n σ p a e lv t0) (fun σ2 => isP σ2 p (dRem T N D a) ∧ FrP p σ σ2) := by
        intro t0 ht0
        unfold fX3_removeElement_J78
        refine wp_if (fun q => yes (Or.inl (ht0.mp q))) (fun q => ?_)
        refine wp_if (fun q1 => no (fun hq => hq.elim (fun hq => q (ht0.mpr hq)) (fun hq => q1 hq.1))) (fun q1 => ?_)
        refine wp_b1e (q_flagOf ht a) ?_
        by_cases hfl : gt T N 15 0 a ≠ 0
        · rw [decide_eq_true hfl, if_pos (by decide)]
          exact no (fun hq => hq.elim (fun hq => q (ht0.mpr hq)) (fun hq => hfl hq.2))
        · rw [decide_eq_false hfl, if_neg (by decide)]
          exact yes (Or.inr ⟨by omega, by omega⟩)
      refine wp_rd hne.1 (by omega) ?_
      rw [h.c (by decide) (by decide)]
      refine wp_if (fun q => ?_) (fun q => ?_)
      · unfold fX3_removeElement_J77
        exact j71 0 ⟨fun q0 => absurd rfl q0, fun q0 => absurd q0.1 q⟩
      · refine wp_b1e (q_siteOf ht e) ?_
        refine wp_if (fun q1 => ?_) (fun q1 => ?_)
        · unfold fX3_removeElement_J77
          exact j71 0 ⟨fun q0 => absurd rfl q0, fun q0 => absurd q0.2 q1⟩
        · exact j71 1 ⟨fun _ => ⟨by omega, by omega⟩, fun _ => by decide⟩
  · rw [decide_eq_false hne, if_pos (by decide)]
    refine wp_some ⟨?_, FrP.rf⟩
    unfold dRem; rw [he, if_neg (fun q => hne q.1)]; exact h
theorem a_res (h : isP σ p D) (ht : TT T σ N) (hn : 161 ≤ n) : wp (fX3_restoreElement n σ p a) (fun σ2 => isP σ2 p (dRes T N D a) ∧ FrP p σ σ2) := by
  unfold fX3_restoreElement
  refine wp_b1e (q_firstOf ht a) (wp_b1e (q_isNumber _) ?_)
  generalize he : gt T N 12 (-1) a = e
  by_cases hne : num e
  · rw [decide_eq_true hne, if_neg (by decide)]
    refine wp_b1e (q_siteOf ht a) (wp_b1e (q_blockOf h hn _) (wp_b1e (q_levelIn h _ _) ?_))
    show wp (if dLv T N D a e ≠ 0 then _ else _) _
    refine wp_if (fun q => ?_) (fun q => ?_)
    · refine wp_some ⟨?_, FrP.rf⟩
      unfold dRes; rw [he, if_neg (fun q2 => q q2.2)]; exact h
    · refine wp_wrb hne.1 (by omega) (Or.inl rfl) (wp_some ⟨?_, FrP.rf.upd (by decide)⟩)
      unfold dRes; rw [he, if_pos ⟨hne, by omega⟩]
      exact h.upd (by decide) (by decide)
  · rw [decide_eq_false hne, if_pos (by decide)]
    refine wp_some ⟨?_, FrP.rf⟩
    unfold dRes; rw [he, if_neg (fun q => hne q.1)]; exact h
theorem brkB_eq {L M : List Int} {C E : St} (h4 : C 4 = E 4) (h5 : C 5 = E 5) (h6 : C 6 = E 6) : brkB (L, C) = brkB (M, E) := by
  funext x
  unfold brkB
  show decide (num x ∧ C 5 x.toNat ≠ 0 ∧ C 4 x.toNat = 1 ∧ C 6 x.toNat = 0) = decide (num x ∧ E 5 x.toNat ≠ 0 ∧ E 4 x.toNat = 1 ∧ E 6 x.toNat = 0)
  rw [h4, h5, h6]
theorem lev_eq {L M : List Int} {C E : St} (h : ∀ k, 13 ≤ k → C k = E k) (s b : Int) : lev (L, C) s b = lev (M, E) s b := by
  unfold lev
  show (if _ then C (13 + s.toNat) _ else 0) = (if _ then E (13 + s.toNat) _ else 0)
  rw [h _ (by omega)]
theorem seg_row (L : List Int) : seg (fun j => L.getD j 0) 0 L.length = L := seg_of_get rfl (fun j hj => by rw [List.getD_eq_getElem?_getD, List.getElem?_eq_getElem hj]; rfl)
theorem a_paint {bit on : Int} (h : isP σ p D) (ht : TT T σ N) (hn : 161 ≤ n) (hr : rowOK D) : wp (fX3_paint n σ p a bit on) (fun σ2 => isP σ2 p (dPaint T N D a (fun v => if on ≠ 0 then bor v bit else band v (bxor bit (-1)))) ∧ FrP p σ σ2) := by
  generalize hg : (fun v : Int => if on ≠ 0 then bor v bit else band v (bxor bit (-1))) = g
  have hgv : ∀ v, g v = if on ≠ 0 then bor v bit else band v (bxor bit (-1)) := fun v => by rw [← hg]
  have hl := h.2.1
  have key : ∀ (f l w hd : Int) (k m i : Nat) (σ1 : St) (C : St) (ins bk : Int), i + k = D.1.length → k < m → isP σ1 p (D.1, C) → (∀ q, q ≠ 7 → C q = D.2 q) → FrP p σ σ1 →
      wp (fX3_paint_L58 n p a bit on f l w hd m σ1 ins bk (i : Int)) (fun σ2 => isP σ2 p (D.1, dPnt (brkB D) (fun b => decide (hd = 0) || decide (lev D w b = 0)) f l g (decide (ins ≠ 0)) bk C (seg (fun j => D.1.getD j 0) i k)) ∧ FrP p σ σ2) := by
    intro f l w hd k
    induction k with
    | zero =>
      intro m i σ1 C ins bk h1 h2 h3 h4 h5
      obtain ⟨m, rfl⟩ : ∃ q, m = q + 1 := ⟨m - 1, by omega⟩
      show wp (fX3_paint_L58s n p a bit on f l w hd _ σ1 ins bk (i : Int)) _
      unfold fX3_paint_L58s
      rw [if_pos (by rw [h3.1]; show (D.1.length : Int) ≤ i; omega)]
      exact wp_some ⟨h3, h5⟩
    | succ k ih =>
      intro m i σ1 C ins bk h1 h2 h3 h4 h5
      obtain ⟨m, rfl⟩ : ∃ q, m = q + 1 := ⟨m - 1, by omega⟩
      show wp (fX3_paint_L58s n p a bit on f l w hd (fX3_paint_L58 n p a bit on f l w hd m) σ1 ins bk (i : Int)) _
      have hi : i < D.1.length := by omega
      have hx : σ1 (p + 2) i = D.1.getD i 0 := by
        have := h3.get (i := i) hi
        have this : D.1[i]? = some (σ1 (p + 2) i) := this
        rw [List.getD_eq_getElem?_getD, this]; rfl
      have hnx : num (D.1.getD i 0) := by rw [← hx]; exact hr _ (h3.mem hi)
      show wp _ (fun σ2 => isP σ2 p (D.1, dPnt (brkB D) (fun b => decide (hd = 0) || decide (lev D w b = 0)) f l g (decide (ins ≠ 0)) bk C (D.1.getD i 0 :: seg (fun j => D.1.getD j 0) (i + 1) k)) ∧ FrP p σ σ2)
      generalize hxx : D.1.getD i 0 = x at hx hnx
      have eb : brkB (D.1, C) = brkB D := brkB_eq (M := D.1) (E := D.2) (h4 4 (by decide)) (h4 5 (by decide)) (h4 6 (by decide))
      have el : ∀ s b, lev (D.1, C) s b = lev D s b := lev_eq (M := D.1) (E := D.2) (fun k hk => h4 k (by omega))
      -- going on, or the end
      have go : ∀ (σ3 : St) (C3 : St) (ins2 bk2 : Int), isP σ3 p (D.1, C3) → (∀ q, q ≠ 7 → C3 q = D.2 q) → FrP p σ σ3 → wp (if x ≠ l then ck ((i : Int) + 1) (fun v16 => fX3_paint_L58 n p a bit on f l w hd m σ3 ins2 bk2 v16) else some σ3) (fun σ2 => isP σ2 p (D.1, if x = l then C3 else dPnt (brkB D) (fun b => decide (hd = 0) || decide (lev D w b = 0)) f l g (decide (ins2 ≠ 0)) bk2 C3 (seg (fun j => D.1.getD j 0) (i + 1) k)) ∧ FrP p σ σ2) := by
        intro σ3 C3 ins2 bk2 q1 q2 q3
        by_cases hxl : x = l
        · rw [if_neg (fun z => z hxl), if_pos hxl]; exact wp_some ⟨q1, q3⟩
        · rw [if_pos hxl, if_neg hxl]
          exact wp_ck (by omega) (by omega) (ih m (i + 1) σ3 C3 ins2 bk2 (by omega) (by omega) q1 q2 q3)
      have j120 : ∀ (ins2 bk2 : Int), wp (fX3_paint_J127 n (fX3_paint_L58 n p a bit on f l w hd m) σ1 p a bit on f l w hd ins2 bk2 i x) (fun σ2 => isP σ2 p (D.1, if x = l then st C 7 x.toNat (g (C 7 x.toNat)) else dPnt (brkB D) (fun b => decide (hd = 0) || decide (lev D w b = 0)) f l g (decide (ins2 ≠ 0)) bk2 (st C 7 x.toNat (g (C 7 x.toNat))) (seg (fun j => D.1.getD j 0) (i + 1) k)) ∧ FrP p σ σ2) := by
        intro ins2 bk2
        have e7 : σ1 (p + 7) x.toNat = C 7 x.toNat := h3.c (by decide) (by decide) _
        have j153 : ∀ v : Int, v = g (C 7 x.toNat) → wp (fX3_paint_J160 n (fX3_paint_L58 n p a bit on f l w hd m) σ1 p a bit on f l w hd ins2 bk2 i x v x) (fun σ2 => isP σ2 p (D.1, if x = l then st C 7 x.toNat (g (C 7 x.toNat)) else dPnt (brkB D) (fun b => decide (hd = 0) || decide (lev D w b = 0)) f l g (decide (ins2 ≠ 0)) bk2 (st C 7 x.toNat (g (C 7 x.toNat))) (seg (fun j => D.1.getD j 0) (i + 1) k)) ∧ FrP p σ σ2) := by
          intro v hv
          subst hv
          unfold fX3_paint_J160
          refine wp_wr hnx.1 (by omega) ?_
          exact go _ _ ins2 bk2 (h3.upd (by decide) (by decide)) (fun q hq => by funext z; rw [st_ne hq, h4 q hq]) (h5.upd (by decide))
        unfold fX3_paint_J127
        refine wp_if (fun q => ?_) (fun q => ?_)
        · refine wp_rd hnx.1 (by omega) (wp_vl (wp_vl (j153 _ ?_)))
          rw [e7, hgv, if_neg (by omega)]
        · refine wp_rd hnx.1 (by omega) (wp_vl (j153 _ ?_))
          rw [e7, hgv, if_pos q]
      have j99 : ∀ (ins2 bk2 : Int), wp (fX3_paint_J98 n (fX3_paint_L58 n p a bit on f l w hd m) σ1 p a bit on f l w hd ins2 bk2 i x) (fun σ2 => isP σ2 p (D.1, if x = l then (if decide (ins2 ≠ 0) = true ∧ (decide (hd = 0) || decide (lev D w bk2 = 0)) = true then st C 7 x.toNat (g (C 7 x.toNat)) else C) else dPnt (brkB D) (fun b => decide (hd = 0) || decide (lev D w b = 0)) f l g (decide (ins2 ≠ 0)) bk2 (if decide (ins2 ≠ 0) = true ∧ (decide (hd = 0) || decide (lev D w bk2 = 0)) = true then st C 7 x.toNat (g (C 7 x.toNat)) else C) (seg (fun j => D.1.getD j 0) (i + 1) k)) ∧ FrP p σ σ2) := by
        intro ins2 bk2
        unfold fX3_paint_J98
        by_cases q0 : ins2 = 0
        · rw [if_pos q0, if_neg (show ¬ (decide (ins2 ≠ 0) = true ∧ _) from fun z => (of_decide_eq_true z.1) q0)]
          exact go σ1 C ins2 bk2 h3 h4 h5
        · rw [if_neg q0]
          refine wp_b1e (q_isNumber x) ?_
          rw [decide_eq_true hnx, if_neg (by decide)]
          by_cases q1 : hd = 0
          · rw [if_pos q1, if_pos (show decide (ins2 ≠ 0) = true ∧ (decide (hd = 0) || decide (lev D w bk2 = 0)) = true from ⟨decide_eq_true q0, by rw [decide_eq_true q1]; rfl⟩)]
            exact j120 ins2 bk2
          · rw [if_neg q1]
            refine wp_b1e (q_levelIn h3 w bk2) ?_
            rw [el]
            by_cases q2 : lev D w bk2 = 0
            · rw [if_neg (show ¬ lev D w bk2 ≠ 0 from fun z => z q2), if_pos (show decide (ins2 ≠ 0) = true ∧ (decide (hd = 0) || decide (lev D w bk2 = 0)) = true from ⟨decide_eq_true q0, by rw [decide_eq_true q2, Bool.or_true]⟩)]
              exact j120 ins2 bk2
            · rw [if_pos q2, if_neg (show ¬ (decide (ins2 ≠ 0) = true ∧ (decide (hd = 0) || decide (lev D w bk2 = 0)) = true) from fun z => by rw [decide_eq_false q1, decide_eq_false q2] at z; exact Bool.noConfusion z.2)]
              exact go σ1 C ins2 bk2 h3 h4 h5
      have j89 : ∀ (bk2 : Int), wp (fX3_paint_J88 n (fX3_paint_L58 n p a bit on f l w hd m) σ1 p a bit on f l w hd ins bk2 i x) (fun σ2 => isP σ2 p (D.1, if x = l then (if (decide (ins ≠ 0) || decide (x = f)) = true ∧ (decide (hd = 0) || decide (lev D w bk2 = 0)) = true then st C 7 x.toNat (g (C 7 x.toNat)) else C) else dPnt (brkB D) (fun b => decide (hd = 0) || decide (lev D w b = 0)) f l g (decide (ins ≠ 0) || decide (x = f)) bk2 (if (decide (ins ≠ 0) || decide (x = f)) = true ∧ (decide (hd = 0) || decide (lev D w bk2 = 0)) = true then st C 7 x.toNat (g (C 7 x.toNat)) else C) (seg (fun j => D.1.getD j 0) (i + 1) k)) ∧ FrP p σ σ2) := by
        intro bk2
        unfold fX3_paint_J88
        by_cases q0 : x = f
        · rw [if_neg (show ¬ x ≠ f from fun z => z q0), decide_eq_true q0, Bool.or_true]
          have := j99 1 bk2
          rw [show decide ((1 : Int) ≠ 0) = true from rfl] at this
          exact this
        · rw [if_pos q0, decide_eq_false q0, Bool.or_false]
          exact j99 ins bk2
      unfold fX3_paint_L58s
      rw [if_neg (by rw [h3.1]; show ¬ ((D.1.length : Int) ≤ i); omega)]
      refine wp_b1e (q_inRow h3 (show i < D.1.length from hi)) ?_
      rw [hx]
      refine wp_b1e (q_isShownBreak h3 x) ?_
      rw [eb]
      show wp _ (fun σ2 => isP σ2 p (D.1, if x = l then _ else _) ∧ _)
      cases brkB D x with
      | false =>
        rw [if_pos (by rfl)]
        exact j89 bk
      | true =>
        rw [if_neg (by decide)]
        exact j89 x
  unfold fX3_paint fX3_paint_J47
  refine wp_b1e (q_firstOf ht a) (wp_b1e (q_secondOf ht a) (wp_b1e (q_siteOf ht a) (wp_b1e (q_kindOfA ht a) ?_)))
  have e0 : ∀ hd : Int, (hd = 0 ↔ gt T N 11 (-1) a ≠ 4) → wp (fX3_paint_L58 n p a bit on (gt T N 12 (-1) a) (gt T N 13 (-1) a) (gt T N 9 (-1) a) hd n σ 0 (-1) 0) (fun σ2 => isP σ2 p (dPaint T N D a g) ∧ FrP p σ σ2) := by
    intro hd hhd
    have := key (gt T N 12 (-1) a) (gt T N 13 (-1) a) (gt T N 9 (-1) a) hd D.1.length n 0 σ D.2 0 (-1) (Nat.zero_add _) (by omega) h (fun _ _ => rfl) FrP.rf
    rw [seg_row, show decide (hd = 0) = decide (gt T N 11 (-1) a ≠ 4) from decide_eq_decide.mpr hhd] at this
    exact this
  refine wp_if (fun q => ?_) (fun q => ?_)
  · exact e0 0 ⟨fun _ => q, fun _ => rfl⟩
  · exact e0 1 ⟨fun z => absurd z (by decide), fun z => absurd z q⟩
theorem a_kind (h : isP σ p D) (ht : TT T σ N) : wp (fX3_giveKind σ p a) (fun σ2 => isP σ2 p (dKind T N D a) ∧ FrP p σ σ2) := by
  unfold fX3_giveKind
  refine wp_b1e (q_firstOf ht a) (wp_b1e (q_isBlock _) ?_)
  generalize he : gt T N 12 (-1) a = e
  by_cases hne : -1 ≤ e ∧ e < 160
  · rw [decide_eq_true hne, if_neg (by decide)]
    refine wp_b1e (q_siteOf ht a) (wp_b1e (q_levelIn h _ _) ?_)
    refine wp_if (fun q => ?_) (fun q => ?_)
    · refine wp_some ⟨?_, FrP.rf⟩
      unfold dKind; rw [he, if_neg (fun q2 => q q2.2)]; exact h
    · refine wp_ck (by omega) (by omega) (wp_b1e (q_valueOf ht a) (wp_wr (by omega) (by omega) (wp_some ⟨?_, FrP.rf.upd (by decide)⟩)))
      unfold dKind; rw [he, if_pos ⟨hne, by omega⟩]
      exact h.upd (by decide) (by decide)
  · rw [decide_eq_false hne, if_pos (by decide)]
    refine wp_some ⟨?_, FrP.rf⟩
    unfold dKind; rw [he, if_neg (fun q => hne q.1)]; exact h
theorem a_nest (h : isP σ p D) (ht : TT T σ N) (hn : 162 ≤ n) : wp (fX3_putUnder n σ p a) (fun σ2 => isP σ2 p (dNest T N D a) ∧ FrP p σ σ2) := by
  unfold fX3_putUnder
  refine wp_b1e (q_firstOf ht a) (wp_b1e (q_secondOf ht a) (wp_b1e (q_isBlock _) ?_))
  generalize he : gt T N 12 (-1) a = e
  by_cases hne : -1 ≤ e ∧ e < 160
  · rw [decide_eq_true hne, if_neg (by decide)]
    refine wp_b1e (q_siteOf ht a) (wp_b1e (q_levelIn h _ _) ?_)
    refine wp_if (fun q => ?_) (fun q => ?_)
    · refine wp_some ⟨?_, FrP.rf⟩
      unfold dNest; rw [he, if_neg (fun q2 => q q2.2.1)]; exact h
    · refine wp_b1e (q_comesTo h hn _ _) ?_
      by_cases hc : e ∈ chn (D.2 11) 161 (gt T N 13 (-1) a)
      · rw [decide_eq_true hc, if_pos (by decide)]
        refine wp_some ⟨?_, FrP.rf⟩
        unfold dNest; rw [he, if_neg (fun q2 => q2.2.2 hc)]; exact h
      · rw [decide_eq_false hc, if_neg (by decide)]
        refine wp_ck (by omega) (by omega) (wp_wr (by omega) (by omega) (wp_some ⟨?_, FrP.rf.upd (by decide)⟩))
        unfold dNest; rw [he, if_pos ⟨hne, by omega, hc⟩]
        exact h.upd (by decide) (by decide)
  · rw [decide_eq_false hne, if_pos (by decide)]
    refine wp_some ⟨?_, FrP.rf⟩
    unfold dNest; rw [he, if_neg (fun q => hne q.1)]; exact h
theorem a_set (h : isP σ p D) (ht : TT T σ N) (hn : 161 ≤ n) (hso : SO T N D) : wp (fX3_settle n σ p a) (fun σ2 => isP σ2 p (dSet T N D a (decide (gt T N 11 (-1) a = 8))) ∧ FrP p σ σ2) := by
  have key : ∀ (t0 : Int) (ok : Bool), t0 = (if ok = true then 1 else 0) → wp (fX3_settle_J33 n σ p a (gt T N 12 (-1) a) (elemOf T N (gt T N 12 (-1) a)) t0) (fun σ2 => isP σ2 p (dSet T N D a ok) ∧ FrP p σ σ2) := by
    intro t0 ok hok
    unfold fX3_settle_J33
    refine wp_b1e (q_isNumber _) ?_
    generalize hpr : gt T N 12 (-1) a = pr
    generalize hel : elemOf T N pr = el
    by_cases hne : num el
    · rw [decide_eq_true hne, if_neg (by decide)]
      refine wp_b1e (q_isOpen h ht pr) ?_
      cases ho : openB T N D pr with
      | false =>
        rw [if_pos (by rfl)]
        refine wp_some ⟨?_, FrP.rf⟩
        unfold dSet; rw [hpr, hel, if_neg (fun q => by rw [ho] at q; exact Bool.noConfusion q.2.1)]; exact h
      | true =>
        rw [if_neg (by decide)]
        refine wp_b1e (q_siteOf ht a) (wp_b1e (q_blockOf h hn _) (wp_b1e (q_levelIn h _ _) ?_))
        show wp (if dLv T N D a el = 0 then _ else _) _
        refine wp_if (fun q => ?_) (fun q => ?_)
        · have hd : dSet T N D a ok = (if el = pr then (D.1, st D.2 4 pr.toNat (if ok = true then 1 else 3)) else (D.1, st (st D.2 8 pr.toNat 0) 6 el.toNat (if D.2 6 el.toNat ≠ 0 ∨ ok = true then 1 else 0))) := by
            unfold dSet; rw [hpr, hel, if_pos ⟨hne, ho, q⟩]
          refine wp_if (fun qe => ?_) (fun qe => ?_)
          · have hnp : num pr := by
              unfold openB at ho
              rw [Bool.and_eq_true] at ho
              exact of_decide_eq_true ho.1
            refine wp_wrb hnp.1 (by omega) (Or.inl rfl) ?_
            have h2 := h.upd (k := 8) (i := pr.toNat) (v := 0) (by decide) (by decide)
            have hf2 := (FrP.rf (p := p) (σ := σ)).upd (k := 8) (i := pr.toNat) (v := 0) (by decide)
            generalize st σ (p + 8) pr.toNat 0 = σ1 at h2 hf2
            have h6 : D.2 6 el.toNat = 0 := by
              have hm : mkE T N pr ≠ true := fun z => by
                unfold elemOf at hel
                rw [if_pos z] at hel
                exact qe hel.symm
              have h4 : D.2 4 pr.toNat ≠ 2 := fun z => by
                have := hso _ z
                rw [Int.toNat_of_nonneg hnp.1] at this
                exact hm this
              have hg : gt T N 12 (-1) pr = el := by
                unfold elemOf at hel
                rw [if_neg hm] at hel
                exact hel
              unfold openB at ho
              rw [hg, decide_eq_false (show ¬ (D.2 4 pr.toNat = 2 ∧ D.2 6 pr.toNat = 0) from fun z => h4 z.1), Bool.false_or, Bool.and_eq_true, Bool.and_eq_true] at ho
              unfold seenB at ho
              exact (of_decide_eq_true ho.2.2).2.1
            rw [hd, if_neg qe]
            have ht0 : t0 = (if D.2 6 el.toNat ≠ 0 ∨ ok = true then 1 else 0) := by
              rw [hok]
              cases ok with
              | true => rw [if_pos rfl, if_pos (Or.inr rfl)]
              | false => rw [if_neg (by decide), if_neg (fun z => z.elim (fun z => z h6) (fun z => Bool.noConfusion z))]
            rw [← ht0]
            refine wp_wrb hne.1 (by omega) (by rw [hok]; split; exact Or.inr rfl; exact Or.inl rfl) (wp_some ⟨?_, hf2.upd (by decide)⟩)
            exact h2.upd (by decide) (by decide)
          · have qe : el = pr := by omega
            rw [hd, if_pos qe]
            refine wp_if (fun q0 => ?_) (fun q0 => ?_)
            · refine wp_wr hne.1 (by omega) (wp_some ⟨?_, FrP.rf.upd (by decide)⟩)
              have : ok = false := by
                cases ok with
                | true => rw [if_pos rfl] at hok; omega
                | false => rfl
              rw [this, qe]
              exact h.upd (by decide) (by decide)
            · refine wp_wr hne.1 (by omega) (wp_some ⟨?_, FrP.rf.upd (by decide)⟩)
              have : ok = true := by
                cases ok with
                | true => rfl
                | false => rw [if_neg (by decide)] at hok; exact absurd hok q0
              rw [this, qe]
              exact h.upd (by decide) (by decide)
        · refine wp_some ⟨?_, FrP.rf⟩
          unfold dSet; rw [hpr, hel, if_neg (fun z => q z.2.2)]; exact h
    · rw [decide_eq_false hne, if_pos (by decide)]
      refine wp_some ⟨?_, FrP.rf⟩
      unfold dSet; rw [hpr, hel, if_neg (fun q => hne q.1)]; exact h
  unfold fX3_settle
  refine wp_b1e (q_firstOf ht a) (wp_b1e (q_elementOf ht _) (wp_b1e (q_kindOfA ht a) ?_))
  refine wp_if (fun q => ?_) (fun q => ?_)
  · rw [decide_eq_false q]; exact key 0 false rfl
  · rw [decide_eq_true (by omega)]; exact key 1 true rfl
theorem a_level (h : isP σ p D) (ht : TT T σ N) : wp (fX3_giveLevel σ p a) (fun σ2 => isP σ2 p (dLevel T N D a) ∧ FrP p σ σ2) := by
  unfold fX3_giveLevel
  refine wp_b1e (q_firstOf ht a) (wp_b1e (q_secondOf ht a) (wp_b1e (q_isBlock _) ?_))
  generalize he : gt T N 12 (-1) a = e
  generalize hs : gt T N 13 (-1) a = s
  by_cases hne : -1 ≤ e ∧ e < 160
  · rw [decide_eq_true hne, if_neg (by decide)]
    refine wp_if (fun q => ?_) (fun q => ?_)
    · refine wp_some ⟨?_, FrP.rf⟩
      unfold dLevel; rw [he, hs, if_neg (by omega)]; exact h
    · refine wp_if (fun q2 => ?_) (fun q2 => ?_)
      · refine wp_some ⟨?_, FrP.rf⟩
        unfold dLevel; rw [he, hs, if_neg (by omega)]; exact h
      · refine wp_ra (by omega) (by omega) (wp_ck (by omega) (by omega) (wp_b1e (q_valueOf ht a) (wp_wr (by omega) (by omega) (wp_some ?_))))
        rw [show p + 13 + s.toNat = p + (13 + s.toNat) by omega]
        refine ⟨?_, FrP.rf.upd (by omega)⟩
        unfold dLevel; rw [he, hs, if_pos ⟨hne, by omega, by omega⟩]
        exact h.upd (by omega) (by omega)
  · rw [decide_eq_false hne, if_pos (by decide)]
    refine wp_some ⟨?_, FrP.rf⟩
    unfold dLevel; rw [he, if_neg (fun q => hne q.1)]; exact h
theorem a_one (h : isP σ p D) (ht : TT T σ N) (hp : 17 ≤ p) (hn : 162 ≤ n) (ha : 0 ≤ a ∧ a < (N : Int)) (hr : rowOK D) (hso : SO T N D) (hlen : D.1.length < 160) (hv : 0 ≤ gt T N 14 0 a ∧ gt T N 14 0 a ≤ 65535) : wp (fX3_perform n σ p a) (fun σ2 => isP σ2 p (dOne T N D a) ∧ FrP p σ σ2) := by
  have w1 : ∀ {m : Option St} {E : Dc}, wp m (fun σ2 => isP σ2 p E ∧ FrP p σ σ2) → dOne T N D a = E → wp (b1 m (fun σ3 => some σ3)) (fun σ2 => isP σ2 p (dOne T N D a) ∧ FrP p σ σ2) := fun hm he => by
    rw [he]; exact wp_b1 hm (fun v hv => wp_some hv)
  unfold fX3_perform
  refine wp_b1e (q_kindOfA ht a) (wp_b1e (q_wasUndone h a) ?_)
  have go : (gt T N 11 (-1) a = 0 ∨ gt T N 11 (-1) a = 1) ∨ ¬ (num a ∧ D.2 9 a.toNat ≠ 0) → wp (fX3_perform_J27 n σ p a (gt T N 11 (-1) a)) (fun σ2 => isP σ2 p (dOne T N D a) ∧ FrP p σ σ2) := by
    intro hu
    unfold fX3_perform_J27
    refine wp_if (fun q => ?_) (fun q0 => wp_if (fun q => ?_) (fun q1 => wp_if (fun q => ?_) (fun q2 => wp_if (fun q => ?_) (fun q3 => wp_if (fun q => ?_) (fun q4 => wp_if (fun q => ?_) (fun q5 => wp_if (fun q => ?_) (fun q6 => wp_if (fun q => ?_) (fun q7 => wp_if (fun q => ?_) (fun q8 => wp_if (fun q => ?_) (fun q9 => wp_if (fun q => ?_) (fun q10 => ?_)))))))))))
    · exact w1 (a_put h ht hp (by omega) ha hr hlen) (by unfold dOne; rw [if_pos (Or.inl q)])
    · exact w1 (a_put h ht hp (by omega) ha hr hlen) (by unfold dOne; rw [if_pos (Or.inr q)])
    · exact w1 (a_rem h ht hp (by omega) ha) (by unfold dOne; rw [if_neg (by omega), if_neg (hu.resolve_left (by omega)), if_pos q])
    · exact w1 (a_res h ht (by omega)) (by unfold dOne; rw [if_neg (by omega), if_neg (hu.resolve_left (by omega)), if_neg q2, if_pos q])
    · refine wp_b1e (q_valueOf ht a) (wp_vl (wp_b1e (q_flagOf ht a) ?_))
      refine w1 (a_paint h ht (by omega) hr) ?_
      unfold dOne
      rw [if_neg (by omega), if_neg (hu.resolve_left (by omega)), if_neg q2, if_neg q3, if_pos q]
      congr 1
      funext v
      by_cases hf : gt T N 15 0 a ≠ 0
      · rw [if_pos hf, decide_eq_true hf]; rfl
      · rw [if_neg hf, decide_eq_false hf]; rfl
    · exact w1 (a_kind h ht) (by unfold dOne; rw [if_neg (by omega), if_neg (hu.resolve_left (by omega)), if_neg q2, if_neg q3, if_neg q4, if_pos q])
    · exact w1 (a_nest h ht hn) (by unfold dOne; rw [if_neg (by omega), if_neg (hu.resolve_left (by omega)), if_neg q2, if_neg q3, if_neg q4, if_neg q5, if_pos q])
    · refine wp_b1e (q_valueOf ht a) ?_
      refine wp_b1e (v := bshl 1 (2 + gt T N 14 0 a)) (by unfold fX5_commentBit; rw [ck_ok (by omega) (by omega)]; rfl) ?_
      refine w1 (a_paint h ht (by omega) hr) ?_
      unfold dOne
      rw [if_neg (by omega), if_neg (hu.resolve_left (by omega)), if_neg q2, if_neg q3, if_neg q4, if_neg q5, if_neg q6, if_pos q]
      congr 1
    · refine w1 (a_set h ht (by omega) hso) ?_
      unfold dOne
      rw [if_neg (by omega), if_neg (hu.resolve_left (by omega)), if_neg q2, if_neg q3, if_neg q4, if_neg q5, if_neg q6, if_neg q7, if_pos q, decide_eq_true q]
    · refine w1 (a_set h ht (by omega) hso) ?_
      unfold dOne
      rw [if_neg (by omega), if_neg (hu.resolve_left (by omega)), if_neg q2, if_neg q3, if_neg q4, if_neg q5, if_neg q6, if_neg q7, if_neg q8, if_pos q, decide_eq_false q8]
    · exact w1 (a_level h ht) (by unfold dOne; rw [if_neg (by omega), if_neg (hu.resolve_left (by omega)), if_neg q2, if_neg q3, if_neg q4, if_neg q5, if_neg q6, if_neg q7, if_neg q8, if_neg q9, if_pos q])
    · refine wp_some ⟨?_, FrP.rf⟩
      unfold dOne
      rw [if_neg (by omega), if_neg (hu.resolve_left (by omega)), if_neg q2, if_neg q3, if_neg q4, if_neg q5, if_neg q6, if_neg q7, if_neg q8, if_neg q9, if_neg q10]
      exact h
  by_cases hu : num a ∧ D.2 9 a.toNat ≠ 0
  · rw [decide_eq_true hu, if_neg (by decide)]
    refine wp_if (fun q => go (Or.inl (Or.inl q))) (fun q0 => wp_if (fun q => go (Or.inl (Or.inr q))) (fun q1 => wp_some ⟨?_, FrP.rf⟩))
    unfold dOne
    rw [if_neg (by omega), if_pos hu]; exact h
  · rw [decide_eq_false hu, if_pos (by rfl)]
    exact go (Or.inr hu)
end DOES

