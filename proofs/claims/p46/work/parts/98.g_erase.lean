/-! ===== erase ===== -/
section ERA
variable {σ τ A : St} {N nm nv n s : Nat} {D : Dc} {k x p : Int}
def mkL (p : Int) (s : Nat) : St → Nat → List (Int × Int) → St
  | A, _, [] => A
  | A, N, q :: L => mkL p s (mkA A N s q.1 q.2 (-1) 0 p) (N + 1) L
def okL (A : St) (N s : Nat) (L : List (Int × Int)) : Prop := ∀ q, q ∈ L → (q.1 = 2 ∨ q.1 = 3) ∧ Hs A s q.2 = true ∧ mkE A N q.2 = true
theorem ok23 (hN : N < 160) (hs : s < 4) (hp : isB p) (hk : k = 2 ∨ k = 3) (hx : Hs A s x = true ∧ mkE A N x = true) : okM A N s k x (-1) 0 p := by
  refine ⟨⟨hN, hs⟩, by omega, hp, by omega, fun g => ?_, fun _ => hx, fun g => ?_, fun g => ?_, fun g => ?_, fun g => ?_, fun g => ?_, fun g => ?_, fun g => ?_⟩ <;> (exfalso; clear hx; omega)
theorem okL.step {q : Int × Int} {L : List (Int × Int)} (hI : Inv A N nm nv) (hN : N < 160) (hs : s < 4) (h : okL A N s (q :: L)) : okL (mkA A N s q.1 q.2 (-1) 0 p) (N + 1) s L := fun r hr => by
  have w := h r (List.mem_cons_of_mem _ hr)
  refine ⟨w.1, ?_, ?_⟩
  · rw [mk_Hs hI hN hs hs]; split
    · rfl
    · exact w.2.1
  · rw [mk_mE (Hs_lt hI hs w.2.1).2]; exact w.2.2
theorem mkL_inv (hs : s < 4) (hp : isB p) : ∀ (L : List (Int × Int)) (A : St) (N : Nat), Inv A N nm nv → okL A N s L → N + L.length ≤ 160 → Inv (mkL p s A N L) (N + L.length) nm nv ∧ ∀ r, 248 ≤ r → mkL p s A N L r = A r := by
  intro L
  induction L with
  | nil => intro A N hI _ _; exact ⟨hI, fun _ _ => rfl⟩
  | cons q L ih =>
    intro A N hI h hl
    have hl' : N + (L.length + 1) ≤ 160 := hl
    have w := h q List.mem_cons_self
    have := ih _ (N + 1) (hI.make (ok23 (by omega) hs hp w.1 w.2)) (h.step hI (by omega) hs) (by omega)
    refine ⟨?_, fun r hr => ?_⟩
    · show Inv (mkL p s (mkA A N s q.1 q.2 (-1) 0 p) (N + 1) L) (N + (L.length + 1)) nm nv
      rw [show N + (L.length + 1) = N + 1 + L.length by omega]; exact this.1
    · show mkL p s (mkA A N s q.1 q.2 (-1) 0 p) (N + 1) L r = A r
      rw [this.2 r hr, mk_o (by omega) (by omega)]
theorem elAt_take {i : Nat} {v : Int} (hi : D.1[i]? = some v) (hv : seenB D v = true) : elAt D (cnt (seenB D) (D.1.take i)) = v ∧ cnt (seenB D) (D.1.take i) < cnt (seenB D) D.1 := by
  have hlt : i < D.1.length := by
    by_cases q : i < D.1.length
    · exact q
    · rw [List.getElem?_eq_none (by omega)] at hi; cases hi
  have e : D.1 = D.1.take i ++ v :: D.1.drop (i + 1) := by
    have e1 : D.1.take (i + 1) = D.1.take i ++ [v] := by rw [List.take_succ, hi]; rfl
    have e2 := List.take_append_drop (i + 1) D.1
    rw [e1] at e2
    exact e2.symm.trans (by simp)
  have hc : cnt (seenB D) D.1 = cnt (seenB D) (D.1.take i) + (1 + cnt (seenB D) (D.1.drop (i + 1))) := by
    conv => lhs; rw [e]
    rw [cnt_app]
    show _ + (b2i (seenB D v) + _) = _
    rw [hv]; rfl
  have h0 := cnt_le (seenB D) (D.1.take i)
  have h1 := cnt_le (seenB D) (D.1.drop (i + 1))
  refine ⟨?_, by omega⟩
  unfold elAt
  rw [at_filter D.1 0 _ _ h0.1 (by omega), Int.sub_zero]
  have ef : D.1.filter (seenB D) = (D.1.take i).filter (seenB D) ++ v :: (D.1.drop (i + 1)).filter (seenB D) := by
    conv => lhs; rw [e]
    rw [List.filter_append, List.filter_cons_of_pos hv]
  have hl := cnt_filter (seenB D) (D.1.take i)
  rw [ef, hl, Int.toNat_natCast, List.getD_eq_getElem?_getD, List.getElem?_append_right (Nat.le_refl _), Nat.sub_self]; rfl
theorem c_pick {q0 : Nat} {lo hi : Int} (h : isP σ q0 D) (hq0 : 8 ≤ q0) (h1 : 0 ≤ lo ∧ lo ≤ hi) (h2 : hi ≤ cnt (seenB D) D.1) (hn : 200 ≤ n) : wp (fX3_pickSeen n σ q0 lo hi 4) (fun r => r.1 = hi - lo ∧ (∀ a, a ≠ 4 → r.2 a = σ a) ∧ ∀ i : Nat, (i : Int) < hi - lo → r.2 4 i = elAt D (lo + i)) := by
  have hl := h.2.1
  have hcl := (cnt_le (seenB D) D.1).2
  have key1 : ∀ (q k i : Nat) (τ : St) (x4 x5 : Int), i + q = D.1.length → q < k → (∀ a, a ≠ 4 → τ a = σ a) → x5 = cnt (seenB D) (D.1.take i) → x4 = (if x5 ≤ lo then 0 else if x5 ≤ hi then x5 - lo else hi - lo) → (∀ j : Nat, (j : Int) < x4 → τ 4 j = elAt D (lo + j)) → wp (fX3_pickSeen_L9 n q0 4 lo hi k τ x4 x5 (i : Int)) (fun r => r.1 = hi - lo ∧ (∀ a, a ≠ 4 → r.2 a = σ a) ∧ ∀ i : Nat, (i : Int) < hi - lo → r.2 4 i = elAt D (lo + i)) := by
    intro q
    induction q with
    | zero =>
      intro k i τ x4 x5 e hk f e5 e4 g
      obtain ⟨k, rfl⟩ : ∃ q, k = q + 1 := ⟨k - 1, by omega⟩
      have e5' : x5 = cnt (seenB D) D.1 := by rw [e5, List.take_of_length_le (by omega)]
      have e6 : x4 = hi - lo := by
        rw [e4]
        by_cases z : x5 ≤ lo
        · rw [if_pos z]; omega
        · rw [if_neg z]
          by_cases z2 : x5 ≤ hi
          · rw [if_pos z2]; omega
          · rw [if_neg z2]
      unfold fX3_pickSeen_L9
      rw [lpR_s]
      unfold fX3_pickSeen_L9s
      rw [f q0 (by omega), h.1, if_pos (by omega)]
      exact wp_some ⟨e6, f, fun j hj => g j (by rw [e6]; exact hj)⟩
    | succ q ih =>
      intro k i τ x4 x5 e hk f e5 e4 g
      obtain ⟨k, rfl⟩ : ∃ q, k = q + 1 := ⟨k - 1, by omega⟩
      have ih2 := fun τ2 x4 x5 => ih k (i + 1) τ2 x4 x5 (by omega) (by omega)
      unfold fX3_pickSeen_L9 at ih2 ⊢
      rw [lpR_s]
      generalize lpR (fun _ _ _ _ => none) (fX3_pickSeen_L9s n q0 4 lo hi) k = lp at ih2
      have hi' : i < D.1.length := by omega
      have gi := h.get hi'
      have et : D.1.take (i + 1) = D.1.take i ++ [σ (q0 + 2) i] := by rw [List.take_succ, gi]; rfl
      have ec : cnt (seenB D) (D.1.take (i + 1)) = cnt (seenB D) (D.1.take i) + b2i (seenB D (σ (q0 + 2) i)) := by
        rw [et, cnt_app]; show _ + (b2i _ + 0) = _; omega
      have hc0 := cnt_le (seenB D) (D.1.take i)
      have hc1 : ((D.1.take i).length : Int) ≤ 160 := by rw [List.length_take]; omega
      have pτ : isP τ q0 D := by
        refine ⟨?_, h.2.1, ?_, fun k k1 k2 i => ?_⟩
        · rw [f q0 (by omega)]; exact h.1
        · rw [f _ (by omega)]; exact h.2.2.1
        · rw [f _ (by omega)]; exact h.2.2.2 k k1 k2 i
      unfold fX3_pickSeen_L9s
      rw [f q0 (by omega), h.1, if_neg (by omega)]
      have eR := q_inRow pτ hi'
      rw [f (q0 + 2) (by omega)] at eR
      refine wp_b1e eR ?_
      refine wp_b1e (q_isSeen pτ _) ?_
      cases hs : seenB D (σ (q0 + 2) i) with
      | false =>
        rw [hs] at ec
        have ec' : cnt (seenB D) (D.1.take (i + 1)) = cnt (seenB D) (D.1.take i) + 0 := ec
        rw [if_pos (by rfl)]
        exact wp_ck (by omega) (by omega) (ih2 τ x4 x5 f (by omega) e4 g)
      | true =>
        rw [hs] at ec
        have ec' : cnt (seenB D) (D.1.take (i + 1)) = cnt (seenB D) (D.1.take i) + 1 := ec
        have el := elAt_take gi hs
        rw [if_neg (by decide)]
        by_cases z1 : x5 < lo
        · rw [if_pos z1]
          refine wp_ck (by omega) (by omega) (wp_ck (by omega) (by omega) (ih2 τ x4 (x5 + 1) f (by omega) ?_ g))
          rw [e4, if_pos (by omega), if_pos (by omega)]
        · rw [if_neg z1]
          by_cases z2 : hi ≤ x5
          · rw [if_pos z2]
            refine wp_ck (by omega) (by omega) (wp_ck (by omega) (by omega) (ih2 τ x4 (x5 + 1) f (by omega) ?_ g))
            rw [e4, if_neg (show ¬ x5 + 1 ≤ lo by omega), if_neg (show ¬ x5 + 1 ≤ hi by omega)]
            by_cases z3 : x5 ≤ lo
            · rw [if_pos z3]; omega
            · rw [if_neg z3]
              by_cases z4 : x5 ≤ hi
              · rw [if_pos z4]; omega
              · rw [if_neg z4]
          · rw [if_neg z2]
            have e4' : x4 = x5 - lo := by
              rw [e4]
              by_cases z3 : x5 ≤ lo
              · rw [if_pos z3]; omega
              · rw [if_neg z3, if_pos (by omega)]
            rw [show ((ln 4 : Nat) : Int) = 160 from rfl, if_neg (by omega)]
            refine wp_b1e eR (wp_wr (by omega) (by show x4 < 160; omega) (wp_ck (by omega) (by omega) (wp_ck (by omega) (by omega) (wp_ck (by omega) (by omega) ?_))))
            refine ih2 _ (x4 + 1) (x5 + 1) (fun a ha => by rw [st_fn ha]; exact f a ha) (by omega) ?_ (fun j hj => ?_)
            · rw [if_neg (by omega), if_pos (by omega)]; omega
            · rw [st_row]
              by_cases z5 : j = x4.toNat
              · rw [if_pos z5, show lo + (j : Int) = cnt (seenB D) (D.1.take i) by omega]; exact el.1.symm
              · rw [if_neg z5]; exact g j (by omega)
  unfold fX3_pickSeen
  exact key1 D.1.length n 0 σ 0 0 (by omega) (by omega) (fun _ _ => rfl) (by rw [List.take_zero]; rfl) (by rw [if_pos h1.1]) (fun j hj => by omega)
theorem c_eraseL {Q : Nat × Int × St → Prop} {y cv tv : Int} {c : Nat} (hs : s < 4) (hn : 200 ≤ n) : ∀ (L : List Int) (A : St) (N : Nat) (σ : St) (i m : Nat), Inv A N nm nv → Cl σ A N nm nv → okL A N s (L.map (fun x => (2, x))) → i + L.length = c → c ≤ 160 → N + L.length ≤ 160 → L.length < m → seg (σ 4) i L.length = L → (∀ σ2, Cl σ2 (mkL (A 250 s) s A N (L.map (fun x => (2, x)))) (N + L.length) nm nv → FrC σ σ2 → wp (fX5_erase_J146 n σ2 y (20 + 40 * s) cv tv (c : Int)) Q) → wp (fX5_erase_L103 n y (20 + 40 * s) cv tv (c : Int) m σ (i : Int)) Q := by
  intro L
  induction L with
  | nil =>
    intro A N σ i m hI hC _ e _ _ hm _ hQ
    obtain ⟨m, rfl⟩ : ∃ q, m = q + 1 := ⟨m - 1, by omega⟩
    have e' : i + 0 = c := e
    unfold fX5_erase_L103
    rw [lpR_s]
    unfold fX5_erase_L103s
    rw [if_pos (by omega)]
    exact hQ σ hC FrC.rf
  | cons x L ih =>
    intro A N σ i m hI hC ok e hc hN hm hsg hQ
    obtain ⟨m, rfl⟩ : ∃ q, m = q + 1 := ⟨m - 1, by omega⟩
    have e' : i + (L.length + 1) = c := e
    have hN' : N + (L.length + 1) ≤ 160 := hN
    have hm' : L.length + 1 < m + 1 := hm
    have hsg' : σ 4 i :: seg (σ 4) (i + 1) L.length = x :: L := hsg
    injection hsg' with h4 h5
    have w := ok (2, x) List.mem_cons_self
    have hb := (hI.2.1 s hs).1
    have hm2 := ok23 (k := 2) (x := x) (p := A 250 s) (by omega) hs hb (Or.inl rfl) w.2
    have iv := hI.make hm2
    have ih2 := fun σ2 => ih (mkA A N s 2 x (-1) 0 (A 250 s)) (N + 1) σ2 (i + 1) m iv
    unfold fX5_erase_L103 at ih2 ⊢
    rw [lpR_s]
    generalize lpR (fun _ _ => none) (fX5_erase_L103s n y (20 + 40 * s) cv tv (c : Int)) m = lp at ih2
    unfold fX5_erase_L103s
    rw [if_neg (by omega), if_neg (by omega)]
    refine wp_rd (by omega) (by omega) ?_
    rw [Int.toNat_natCast, h4, (hC.site hs).2.2.1]
    refine wp_b2 (c_make hI hC hm2 hn) (fun v σ5 q => wp_ck (by omega) (by omega) ?_)
    obtain ⟨_, q2, q3, q4, _⟩ := q
    have q4' : σ5 4 = σ 4 := q4
    have := ih2 σ5 q2 (okL.step (q := (2, x)) hI (by omega) hs ok) (by omega) hc (by omega) (by omega) (by rw [q4']; exact h5) (fun σ2 c2 f2 => hQ σ2 (by
      have e250 : mkA A N s 2 x (-1) 0 (A 250 s) 250 s = A 250 s := by rw [mk_o (by decide) (by decide)]
      rw [e250] at c2
      show Cl σ2 (mkL (A 250 s) s (mkA A N s 2 x (-1) 0 (A 250 s)) (N + 1) (L.map (fun x => (2, x)))) (N + (L.length + 1)) nm nv
      rw [show N + (L.length + 1) = N + 1 + L.length by omega]; exact c2) (FrC.tr q3 f2))
    exact this
def eLo (A : St) (N s : Nat) : Int := if selLo A N s = selHi A N s then selLo A N s - 1 else selLo A N s
def eCn (A : St) (N s : Nat) : Nat := (selHi A N s - eLo A N s).toNat
def eEl (A : St) (N s : Nat) : List Int := seg (fun j => elAt (docOf A N (Hs A s)) (eLo A N s + j)) 0 (eCn A N s)
def okE (A : St) (N s : Nat) : Prop := 0 ≤ eLo A N s ∧ eCn A N s + N ≤ 160
def eC (A : St) (N s : Nat) : Int := if thr (docOf A N (Hs A s)) (A 248 s) ≤ thr (docOf A N (Hs A s)) (A 249 s) then A 248 s else A 249 s
def eD (A : St) (N s : Nat) : Int := if thr (docOf A N (Hs A s)) (A 248 s) < thr (docOf A N (Hs A s)) (A 249 s) then A 248 s else A 249 s
theorem eEl_ok (hI : Inv A N nm nv) (hs : s < 4) (h : okE A N s) : okL A N s ((eEl A N s).map (fun x => (2, x))) ∧ (eEl A N s).length = eCn A N s ∧ (eCn A N s : Int) = selHi A N s - eLo A N s := by
  have hr := sel_r hI hs
  have h0 := h.1
  have hle : eLo A N s ≤ selHi A N s := by unfold eLo; split <;> omega
  refine ⟨fun q hq => ?_, seg_len _ _ _, by unfold eCn; omega⟩
  obtain ⟨x, hx, rfl⟩ := List.mem_map.mp hq
  obtain ⟨j, j1, j2, rfl⟩ := seg_mem.mp hx
  refine ⟨Or.inl rfl, el_ok hI hs ⟨by omega, ?_⟩⟩
  unfold eCn at j2
  omega
end ERA

