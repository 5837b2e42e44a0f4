/-! ===== erase ===== -/
section ERA
variable {σ τ A : St} {N nm nv n s : Nat} {D : Dc} {k x p : Int}
def mkL (p : Int) (s : Nat) : St → Nat → List (Int × Int) → St
  | A, _, [] => A
  | A, N, q :: L => mkL p s (mkA A N s q.1 q.2 (-1) 0 p) (N + 1) L
def okL (A : St) (N s : Nat) (L : List (Int × Int)) : Prop := ∀ q, q ∈ L → (q.1 = 2 ∨ q.1 = 3) ∧ Hs A s q.2 = true ∧ mkE A N q.2 = true
theorem ok23 (hN : N < 160) (hs : s < 4) (hp : isB p) (hk : k = 2 ∨ k = 3) (hx : Hs A s x = true ∧ mkE A N x = true) : okM A N s k x (-1) 0 p := by
  refine ⟨⟨hN, hs⟩, by omega, hp, by omega, fun g => ?_, fun _ => hx, fun g => ?_, fun g => ?_, fun g => ?_, fun g => ?_, fun g => ?_, fun g => ?_, fun g => ?_⟩ <;> (exfalso; clear hx; omega)
theorem okL.step {q : Int × Int} {L : List (Int × Int)} (hI : Inv A N nm nv) (hN : N < 160) (hs : s < 4) (h : okL A N s (q :: L)) : okL (mkA A N s q.1 q.2 (-1) 0 p) (N + 1) s L := fun r hr => by
  have w := h r (List.mem_cons_of_mem _ hr)
  refine ⟨w.1, ?_, ?_⟩
  · rw [mk_Hs hI hN hs hs]; split
    · rfl
    · exact w.2.1
  · rw [mk_mE (Hs_lt hI hs w.2.1).2]; exact w.2.2
theorem mkL_inv (hs : s < 4) (hp : isB p) : ∀ (L : List (Int × Int)) (A : St) (N : Nat), Inv A N nm nv → okL A N s L → N + L.length ≤ 160 → Inv (mkL p s A N L) (N + L.length) nm nv ∧ ∀ r, 248 ≤ r → mkL p s A N L r = A r := by
  intro L
  induction L with
  | nil => intro A N hI _ _; exact ⟨hI, fun _ _ => rfl⟩
  | cons q L ih =>
    intro A N hI h hl
    have hl' : N + (L.length + 1) ≤ 160 := hl
    have w := h q List.mem_cons_self
    have := ih _ (N + 1) (hI.make (ok23 (by omega) hs hp w.1 w.2)) (h.step hI (by omega) hs) (by omega)
    refine ⟨?_, fun r hr => ?_⟩
    · show Inv (mkL p s (mkA A N s q.1 q.2 (-1) 0 p) (N + 1) L) (N + (L.length + 1)) nm nv
      rw [show N + (L.length + 1) = N + 1 + L.length by omega]; exact this.1
    · show mkL p s (mkA A N s q.1 q.2 (-1) 0 p) (N + 1) L r = A r
      rw [this.2 r hr, mk_o (by omega) (by omega)]
theorem elAt_take {i : Nat} {v : Int} (hi : D.1[i]? = some v) (hv : seenB D v = true) : elAt D (cnt (seenB D) (D.1.take i)) = v ∧ cnt (seenB D) (D.1.take i) < cnt (seenB D) D.1 := by
  have hlt : i < D.1.length := by
    by_cases q : i < D.1.length
    · exact q
    · rw [List.getElem?_eq_none (by omega)] at hi; cases hi
  have e : D.1 = D.1.take i ++ v :: D.1.drop (i + 1) := by
    have e1 : D.1.take (i + 1) = D.1.take i ++ [v] := by rw [List.take_succ, hi]; rfl
    have e2 := List.take_append_drop (i + 1) D.1
    rw [e1] at e2
    exact e2.symm.trans (by simp)
  have hc : cnt (seenB D) D.1 = cnt (seenB D) (D.1.take i) + (1 + cnt (seenB D) (D.1.drop (i + 1))) := by
    conv => lhs; rw [e]
    rw [cnt_app]
    show _ + (b2i (seenB D v) + _) = _
    rw [hv]; rfl
  have h0 := cnt_le (seenB D) (D.1.take i)
  have h1 := cnt_le (seenB D) (D.1.drop (i + 1))
  refine ⟨?_, by omega⟩
  unfold elAt
  rw [at_filter D.1 0 _ _ h0.1 (by omega), Int.sub_zero]
  have ef : D.1.filter (seenB D) = (D.1.take i).filter (seenB D) ++ v :: (D.1.drop (i + 1)).filter (seenB D) := by
    conv => lhs; rw [e]
    rw [List.filter_append, List.filter_cons_of_pos hv]
  have hl := cnt_filter (seenB D) (D.1.take i)
  rw [ef, hl, Int.toNat_natCast, List.getD_eq_getElem?_getD, List.getElem?_append_right (Nat.le_refl _), Nat.sub_self]; rfl
theorem c_pick {q0 : Nat} {lo hi : Int} (h : isP σ q0 D) (hq0 : 8 ≤ q0) (h1 : 0 ≤ lo ∧ lo ≤ hi) (h2 : hi ≤ cnt (seenB D) D.1) (hn : 200 ≤ n) : wp (fX3_pickSeen n σ q0 lo hi 4) (fun r => r.1 = hi - lo ∧ (∀ a, a ≠ 4 → r.2 a = σ a) ∧ ∀ i : Nat, (i : Int) < hi - lo → r.2 4 i = elAt D (lo + i)) := by
  have hl := h.2.1
  have hcl := (cnt_le (seenB D) D.1).2
  have key1 : ∀ (q k i : Nat) (τ : St) (x4 x5 : Int), i + q = D.1.length → q < k → (∀ a, a ≠ 4 → τ a = σ a) → x5 = cnt (seenB D) (D.1.take i) → x4 = (if x5 ≤ lo then 0 else if x5 ≤ hi then x5 - lo else hi - lo) → (∀ j : Nat, (j : Int) < x4 → τ 4 j = elAt D (lo + j)) → wp (fX3_pickSeen_L9 n q0 4 lo hi k τ x4 x5 (i : Int)) (fun r => r.1 = hi - lo ∧ (∀ a, a ≠ 4 → r.2 a = σ a) ∧ ∀ i : Nat, (i : Int) < hi - lo → r.2 4 i = elAt D (lo + i)) := by
    intro q
    induction q with
    | zero =>
      intro k i τ x4 x5 e hk f e5 e4 g
      obtain ⟨k, rfl⟩ : ∃ q, k = q + 1 := ⟨k - 1, by omega⟩
      have e5' : x5 = cnt (seenB D) D.1 := by rw [e5, List.take_of_length_le (by omega)]
      have e6 : x4 = hi - lo := by
        rw [e4]
        by_cases z : x5 ≤ lo
        · rw [if_pos z]; omega
        · rw [if_neg z]
          by_cases z2 : x5 ≤ hi
          · rw [if_pos z2]; omega
          · rw [if_neg z2]
      unfold fX3_pickSeen_L9
      rw [lpR_s]
      unfold fX3_pickSeen_L9s
      rw [f q0 (by omega), h.1, if_pos (by omega)]
      exact wp_some ⟨e6, f, fun j hj => g j (by rw [e6]; exact hj)⟩
    | succ q ih =>
      intro k i τ x4 x5 e hk f e5 e4 g
      obtain ⟨k, rfl⟩ : ∃ q, k = q + 1 := ⟨k - 1, by omega⟩
      have ih2 := fun τ2 x4 x5 => ih k (i + 1) τ2 x4 x5 (by omega) (by omega)
      unfold fX3_pickSeen_L9 at ih2 ⊢
      rw [lpR_s]
      generalize lpR (fun _ _ _ _ => none) (fX3_pickSeen_L9s n q0 4 lo hi) k = lp at ih2
      have hi' : i < D.1.length := by omega
      have gi := h.get hi'
      have et : D.1.take (i + 1) = D.1.take i ++ [σ (q0 + 2) i] := by rw [List.take_succ, gi]; rfl
      have ec : cnt (seenB D) (D.1.take (i + 1)) = cnt (seenB D) (D.1.take i) + b2i (seenB D (σ (q0 + 2) i)) := by
        rw [et, cnt_app]; show _ + (b2i _ + 0) = _; omega
      have hc0 := cnt_le (seenB D) (D.1.take i)
      have hc1 : ((D.1.take i).length : Int) ≤ 160 := by rw [List.length_take]; omega
      have pτ : isP τ q0 D := by
        refine ⟨?_, h.2.1, ?_, fun k k1 k2 i => ?_⟩
        · rw [f q0 (by omega)]; exact h.1
        · rw [f _ (by omega)]; exact h.2.2.1
        · rw [f _ (by omega)]; exact h.2.2.2 k k1 k2 i
      unfold fX3_pickSeen_L9s
      rw [f q0 (by omega), h.1, if_neg (by omega)]
      have eR := q_inRow pτ hi'
      rw [f (q0 + 2) (by omega)] at eR
      refine wp_b1e eR ?_
      refine wp_b1e (q_isSeen pτ _) ?_
      cases hs : seenB D (σ (q0 + 2) i) with
      | false =>
        rw [hs] at ec
        have ec' : cnt (seenB D) (D.1.take (i + 1)) = cnt (seenB D) (D.1.take i) + 0 := ec
        rw [if_pos (by rfl)]
        exact wp_ck (by omega) (by omega) (ih2 τ x4 x5 f (by omega) e4 g)
      | true =>
        rw [hs] at ec
        have ec' : cnt (seenB D) (D.1.take (i + 1)) = cnt (seenB D) (D.1.take i) + 1 := ec
        have el := elAt_take gi hs
        rw [if_neg (by decide)]
        by_cases z1 : x5 < lo
        · rw [if_pos z1]
          refine wp_ck (by omega) (by omega) (wp_ck (by omega) (by omega) (ih2 τ x4 (x5 + 1) f (by omega) ?_ g))
          rw [e4, if_pos (by omega), if_pos (by omega)]
        · rw [if_neg z1]
          by_cases z2 : hi ≤ x5
          · rw [if_pos z2]
            refine wp_ck (by omega) (by omega) (wp_ck (by omega) (by omega) (ih2 τ x4 (x5 + 1) f (by omega) ?_ g))
            rw [e4, if_neg (show ¬ x5 + 1 ≤ lo by omega), if_neg (show ¬ x5 + 1 ≤ hi by omega)]
            by_cases z3 : x5 ≤ lo
            · rw [if_pos z3]; omega
            · rw [if_neg z3]
              by_cases z4 : x5 ≤ hi
              · rw [if_pos z4]; omega
              · rw [if_neg z4]
          · rw [if_neg z2]
            have e4' : x4 = x5 - lo := by
              rw [e4]
              by_cases z3 : x5 ≤ lo
              · rw [if_pos z3]; omega
              · rw [if_neg z3, if_pos (by omega)]
            rw [show ((ln 4 : Nat) : Int) = 160 from rfl, if_neg (by omega)]
            refine wp_b1e eR (wp_wr (by omega) (by show x4 < 160; omega) (wp_ck (by omega) (by omega) (wp_ck (by omega) (by omega) (wp_ck (by omega) (by omega) ?_))))
            refine ih2 _ (x4 + 1) (x5 + 1) (fun a ha => by rw [st_fn ha]; exact f a ha) (by omega) ?_ (fun j hj => ?_)
            · rw [if_neg (by omega), if_pos (by omega)]; omega
            · rw [st_row]
              by_cases z5 : j = x4.toNat
              · rw [if_pos z5, show lo + (j : Int) = cnt (seenB D) (D.1.take i) by omega]; exact el.1.symm
              · rw [if_neg z5]; exact g j (by omega)
  unfold fX3_pickSeen
  exact key1 D.1.length n 0 σ 0 0 (by omega) (by omega) (fun _ _ => rfl) (by rw [List.take_zero]; rfl) (by rw [if_pos h1.1]) (fun j hj => by omega)
theorem c_eraseL {Q : Nat × Int × St → Prop} {y cv tv : Int} {c : Nat} (hs : s < 4) (hn : 200 ≤ n) : ∀ (L : List Int) (A : St) (N : Nat) (σ : St) (i m : Nat), Inv A N nm nv → Cl σ A N nm nv → okL A N s (L.map (fun x => (2, x))) → i + L.length = c → c ≤ 160 → N + L.length ≤ 160 → L.length < m → seg (σ 4) i L.length = L → (∀ σ2, Cl σ2 (mkL (A 250 s) s A N (L.map (fun x => (2, x)))) (N + L.length) nm nv → FrC σ σ2 → wp (fX5_erase_J146 n σ2 y (20 + 40 * s) cv tv (c : Int)) Q) → wp (fX5_erase_L103 n y (20 + 40 * s) cv tv (c : Int) m σ (i : Int)) Q := by
  intro L
  induction L with
  | nil =>
    intro A N σ i m hI hC _ e _ _ hm _ hQ
    obtain ⟨m, rfl⟩ : ∃ q, m = q + 1 := ⟨m - 1, by omega⟩
    have e' : i + 0 = c := e
    unfold fX5_erase_L103
    rw [lpR_s]
    unfold fX5_erase_L103s
    rw [if_pos (by omega)]
    exact hQ σ hC FrC.rf
  | cons x L ih =>
    intro A N σ i m hI hC ok e hc hN hm hsg hQ
    obtain ⟨m, rfl⟩ : ∃ q, m = q + 1 := ⟨m - 1, by omega⟩
    have e' : i + (L.length + 1) = c := e
    have hN' : N + (L.length + 1) ≤ 160 := hN
    have hm' : L.length + 1 < m + 1 := hm
    have hsg' : σ 4 i :: seg (σ 4) (i + 1) L.length = x :: L := hsg
    injection hsg' with h4 h5
    have w := ok (2, x) List.mem_cons_self
    have hb := (hI.2.1 s hs).1
    have hm2 := ok23 (k := 2) (x := x) (p := A 250 s) (by omega) hs hb (Or.inl rfl) w.2
    have iv := hI.make hm2
    have ih2 := fun σ2 => ih (mkA A N s 2 x (-1) 0 (A 250 s)) (N + 1) σ2 (i + 1) m iv
    unfold fX5_erase_L103 at ih2 ⊢
    rw [lpR_s]
    generalize lpR (fun _ _ => none) (fX5_erase_L103s n y (20 + 40 * s) cv tv (c : Int)) m = lp at ih2
    unfold fX5_erase_L103s
    rw [if_neg (by omega), if_neg (by omega)]
    refine wp_rd (by omega) (by omega) ?_
    rw [Int.toNat_natCast, h4, (hC.site hs).2.2.1]
    refine wp_b2 (c_make hI hC hm2 hn) (fun v σ5 q => wp_ck (by omega) (by omega) ?_)
    obtain ⟨_, q2, q3, q4, _⟩ := q
    have q4' : σ5 4 = σ 4 := q4
    have := ih2 σ5 q2 (okL.step (q := (2, x)) hI (by omega) hs ok) (by omega) hc (by omega) (by omega) (by rw [q4']; exact h5) (fun σ2 c2 f2 => hQ σ2 (by
      have e250 : mkA A N s 2 x (-1) 0 (A 250 s) 250 s = A 250 s := by rw [mk_o (by decide) (by decide)]
      rw [e250] at c2
      show Cl σ2 (mkL (A 250 s) s (mkA A N s 2 x (-1) 0 (A 250 s)) (N + 1) (L.map (fun x => (2, x)))) (N + (L.length + 1)) nm nv
      rw [show N + (L.length + 1) = N + 1 + L.length by omega]; exact c2) (FrC.tr q3 f2))
    exact this
theorem r_eraseL {Q : Int × St → Prop} {x2 x5 : Int} {c : Nat} (hs : s < 4) (σ0 : St) (hQ : ∀ (B : St) (M : Nat) (σ2 : St), Re σ2 B M nm nv → σ2 230 0 = σ0 230 0 → FrR σ0 σ2 → True) : ∀ (L : List Int) (A : St) (N : Nat) (σ : St) (i m : Nat), Inv A N nm nv → Re σ A N nm nv → okL A N s (L.map (fun x => (2, x))) → i + L.length = c → c ≤ 160 → N + L.length ≤ 160 → L.length < m → seg (σ 274) i L.length = L → σ 230 0 = σ0 230 0 → FrR σ0 σ → (∀ σ2, Re σ2 (mkL (A 250 s) s A N (L.map (fun x => (2, x)))) (N + L.length) nm nv → σ2 230 0 = σ0 230 0 → FrR σ0 σ2 → wp (if x2 ≤ 0 then (some ((c : Int), σ2)) else (if x5 = 0 then (rd σ2 248 4 (s : Int) (fun v20 => fX6_erase_J224 n σ2 (s : Int) (c : Int) v20 (s : Int))) else (rd σ2 249 4 (s : Int) (fun v21 => fX6_erase_J224 n σ2 (s : Int) (c : Int) v21 (s : Int))))) Q) → wp (fX6_erase_L159 n (s : Int) x2 (c : Int) x5 m σ (i : Int)) Q := by
  intro L
  induction L with
  | nil =>
    intro A N σ i m hI hR _ e _ _ hm _ e0 f0 hF
    obtain ⟨m, rfl⟩ : ∃ q, m = q + 1 := ⟨m - 1, by omega⟩
    have e' : i + 0 = c := e
    unfold fX6_erase_L159
    rw [lpR_s]
    unfold fX6_erase_L159s
    rw [if_pos (by omega)]
    exact hF σ hR e0 f0
  | cons x L ih =>
    intro A N σ i m hI hR ok e hc hN hm hsg e0 f0 hF
    obtain ⟨m, rfl⟩ : ∃ q, m = q + 1 := ⟨m - 1, by omega⟩
    have e' : i + (L.length + 1) = c := e
    have hN' : N + (L.length + 1) ≤ 160 := hN
    have hm' : L.length + 1 < m + 1 := hm
    have hsg' : σ 274 i :: seg (σ 274) (i + 1) L.length = x :: L := hsg
    injection hsg' with h4 h5
    have w := ok (2, x) List.mem_cons_self
    have hb := (hI.2.1 s hs).1
    have hm2 := ok23 (k := 2) (x := x) (p := A 250 s) (by omega) hs hb (Or.inl rfl) w.2
    have iv := hI.make hm2
    have ih2 := fun σ2 => ih (mkA A N s 2 x (-1) 0 (A 250 s)) (N + 1) σ2 (i + 1) m iv
    unfold fX6_erase_L159 at ih2 ⊢
    rw [lpR_s]
    generalize lpR (fun _ _ => none) (fX6_erase_L159s n (s : Int) x2 (c : Int) x5) m = lp at ih2
    unfold fX6_erase_L159s
    rw [if_neg (by omega)]
    refine wp_rd (by omega) (by omega) (wp_rd (by omega) (by omega) ?_)
    rw [Int.toNat_natCast, Int.toNat_natCast, h4, hR.atS hs (by decide) (by decide)]
    refine wp_b2 (r_make' (σ := σ) hI hm2 hR (by decide) hb ⟨fun _ => rfl, fun g => absurd g (by decide), fun g => absurd g (by omega), fun _ => rfl, fun g => absurd g (by decide), fun g => absurd g (by decide), fun g => absurd g (by decide), fun g => absurd g (by decide)⟩) (fun v σ5 q => wp_ck (by omega) (by omega) ?_)
    obtain ⟨_, q2, q3⟩ := q
    have q3' : FrM σ σ5 := q3
    have e274 : σ5 274 = σ 274 := funext fun b => q3' 274 b (by omega) (by omega)
    exact ih2 σ5 q2 (okL.step (q := (2, x)) hI (by omega) hs ok) (by omega) hc (by omega) (by omega) (by rw [e274]; exact h5) (by rw [q3' 230 0 (by omega) (by omega)]; exact e0) (f0.tr q3'.R) (fun σ2 c2 e2 f2 => hF σ2 (by
      have e250 : mkA A N s 2 x (-1) 0 (A 250 s) 250 s = A 250 s := by rw [mk_o (by decide) (by decide)]
      rw [e250] at c2
      show Re σ2 (mkL (A 250 s) s (mkA A N s 2 x (-1) 0 (A 250 s)) (N + 1) (L.map (fun x => (2, x)))) (N + (L.length + 1)) nm nv
      rw [show N + (L.length + 1) = N + 1 + L.length by omega]; exact c2) e2 f2)
theorem r_pickL {Q : Int × St → Prop} {x1 x2 x5 lo : Int} {c : Nat} (h : isR σ N D) (hd : DI A N D) (hN : N ≤ 160) (hc : c ≤ 160) (hlo : 0 ≤ lo ∧ lo ≤ 160) (hn : 200 ≤ n) (hK : ∀ σ2, (∀ a, a ≠ 274 → σ2 a = σ a) → (∀ j : Nat, j < c → σ2 274 j = elAt D (lo + j)) → wp (fX6_erase_L159 n x1 x2 (c : Int) x5 n σ2 0) Q) : ∀ (q k i : Nat) (τ : St), i + q = c → q < k → (∀ a, a ≠ 274 → τ a = σ a) → (∀ j : Nat, j < i → τ 274 j = elAt D (lo + j)) → wp (fX6_erase_L128 n x1 x2 lo (c : Int) x5 k τ (i : Int)) Q := by
  intro q
  induction q with
  | zero =>
    intro k i τ e hk f g
    obtain ⟨k, rfl⟩ : ∃ q, k = q + 1 := ⟨k - 1, by omega⟩
    unfold fX6_erase_L128
    rw [lpR_s]
    unfold fX6_erase_L128s
    rw [if_pos (by omega)]
    exact hK τ f (fun j hj => g j (by omega))
  | succ q ih =>
    intro k i τ e hk f g
    obtain ⟨k, rfl⟩ : ∃ q, k = q + 1 := ⟨k - 1, by omega⟩
    have ih2 := fun τ2 => ih k (i + 1) τ2 (by omega) (by omega)
    unfold fX6_erase_L128 at ih2 ⊢
    rw [lpR_s]
    generalize lpR (fun _ _ => none) (fX6_erase_L128s n x1 x2 lo (c : Int) x5) k = lp at ih2
    have r1 : isR τ N D := h.fr2 (fun a b hab => by rw [f a (by omega)])
    unfold fX6_erase_L128s
    rw [if_neg (by omega)]
    refine wp_ck (by omega) (by omega) (wp_b1e (r_seenAt r1 hd hN (by omega) _) (wp_wr (by omega) (by omega) (wp_ck (by omega) (by omega) ?_)))
    rw [Int.toNat_natCast]
    refine ih2 _ (fun a ha => by rw [st_fn ha]; exact f a ha) (fun j hj => ?_)
    rw [st_row]
    by_cases z : j = i
    · rw [if_pos z, z]; rfl
    · rw [if_neg z]; exact g j (by omega)
def eLo (A : St) (N s : Nat) : Int := if selLo A N s = selHi A N s then selLo A N s - 1 else selLo A N s
def eCn (A : St) (N s : Nat) : Nat := (selHi A N s - eLo A N s).toNat
def eEl (A : St) (N s : Nat) : List Int := seg (fun j => elAt (docOf A N (Hs A s)) (eLo A N s + j)) 0 (eCn A N s)
def okE (A : St) (N s : Nat) : Prop := 0 ≤ eLo A N s ∧ eCn A N s + N ≤ 160
def eC (A : St) (N s : Nat) : Int := if thr (docOf A N (Hs A s)) (A 248 s) ≤ thr (docOf A N (Hs A s)) (A 249 s) then A 248 s else A 249 s
def eD (A : St) (N s : Nat) : Int := if thr (docOf A N (Hs A s)) (A 248 s) < thr (docOf A N (Hs A s)) (A 249 s) then A 248 s else A 249 s
theorem eEl_ok (hI : Inv A N nm nv) (hs : s < 4) (h : okE A N s) : okL A N s ((eEl A N s).map (fun x => (2, x))) ∧ (eEl A N s).length = eCn A N s ∧ (eCn A N s : Int) = selHi A N s - eLo A N s := by
  have hr := sel_r hI hs
  have h0 := h.1
  have hle : eLo A N s ≤ selHi A N s := by unfold eLo; split <;> omega
  refine ⟨fun q hq => ?_, seg_len _ _ _, by unfold eCn; omega⟩
  obtain ⟨x, hx, rfl⟩ := List.mem_map.mp hq
  obtain ⟨j, j1, j2, rfl⟩ := seg_mem.mp hx
  refine ⟨Or.inl rfl, el_ok hI hs ⟨by omega, ?_⟩⟩
  unfold eCn at j2
  omega
theorem so_erase : So_erase Rel := by
  intro nm nv σ y1 y2 y3 ⟨A, N, hI, hC, hR⟩ _ _ _ _
  have hN := hI.1.2.1
  refine ⟨1000, ?_⟩
  by_cases hx : 0 ≤ y1 ∧ y1 < 4
  · obtain ⟨s, rfl⟩ : ∃ s : Nat, y1 = (s : Int) := ⟨y1.toNat, by omega⟩
    have hs : s < 4 := by omega
    have dk := hI.dk hs
    have hr := sel_r hI hs
    have hcr := thr_r (D := docOf A N (Hs A s)) (e := A 248 s)
    have htr := thr_r (D := docOf A N (Hs A s)) (e := A 249 s)
    have hlen := dk.2.2.2.2
    have hle : eLo A N s ≤ selHi A N s := by unfold eLo; split <;> omega
    have hm1 : -1 ≤ eLo A N s := by unfold eLo; split <;> omega
    have cls : ∀ {Q : Nat × Int × St → Prop}, (∀ σ3, isP σ3 (20 + 40 * s + 10) (docOf A N (Hs A s)) → Cl σ3 A N nm nv → FrC σ σ3 → wp (fX5_erase_J62 1000 σ3 (s : Int) (20 + 40 * s) (20 + 40 * s + 10) (thr (docOf A N (Hs A s)) (A 248 s)) (thr (docOf A N (Hs A s)) (A 249 s)) (eLo A N s) (selHi A N s)) Q) → wp (fX5_erase 1000 σ (s : Int)) Q := by
      intro Q hK
      unfold fX5_erase
      refine c_open hI.1 hC hx (by decide) (fun σ3 p1 p2 p3 => ?_)
      rw [Int.toNat_natCast] at p1 ⊢
      have w := p2.site hs
      rw [w.2.2.2.2.1, w.2.2.2.2.2.1]
      refine wp_b1e (q_seenThrough p1 (by decide) _) (wp_b1e (q_seenThrough p1 (by decide) _) (wp_vl (wp_vl ?_)))
      have go := hK σ3 p1 p2 p3
      show wp (if selLo A N s ≠ selHi A N s then (fX5_erase_J62 1000 σ3 (s : Int) (20 + 40 * s) (20 + 40 * s + 10) (thr (docOf A N (Hs A s)) (A 248 s)) (thr (docOf A N (Hs A s)) (A 249 s)) (selLo A N s) (selHi A N s)) else (ck (thr (docOf A N (Hs A s)) (A 248 s) - 1) (fun v9 => fX5_erase_J62 1000 σ3 (s : Int) (20 + 40 * s) (20 + 40 * s + 10) (thr (docOf A N (Hs A s)) (A 248 s)) (thr (docOf A N (Hs A s)) (A 249 s)) v9 (selHi A N s)))) Q
      by_cases g : selLo A N s = selHi A N s
      · have e : eLo A N s = thr (docOf A N (Hs A s)) (A 248 s) - 1 := by
          have g2 := hr.2.2.2.2.mp g
          unfold eLo
          rw [if_pos g]
          unfold selLo imin
          rw [if_neg (by omega)]
        rw [if_neg (fun w => w g)]
        refine wp_ck (by omega) (by omega) ?_
        rw [← e]; exact go
      · have e : eLo A N s = selLo A N s := by unfold eLo; rw [if_neg g]
        rw [if_pos g, ← e]; exact go
    have rfe : ∀ {Q : Int × St → Prop} (σ1 : St), Re σ1 A N nm nv → (∀ σ3, isD σ3 A N (Hs A s) → Re σ3 A N nm nv → FrR σ1 σ3 → wp (fX6_erase_J58 1000 σ3 (s : Int) (selHi A N s - selLo A N s) (eLo A N s) (eCn A N s : Int)) Q) → wp (fX6_erase 1000 σ1 (s : Int)) Q := by
      intro Q σ1 hr1 hK
      unfold fX6_erase
      refine wp_b1e (r_isSite _) ?_
      rw [decide_eq_true hx, if_pos (by decide)]
      refine wp_b1 (r_site hI.1 (hI.2.1 s hs) hr1 hs (by decide)) (fun σ3 q => ?_)
      obtain ⟨q1, q2, q3⟩ := q
      have go := hK σ3 q1 q2 (FrR.ofF q3)
      have e8 := q2.atS hs (r := 248) (by decide) (by decide)
      have e9 := q2.atS hs (r := 249) (by decide) (by decide)
      have hse := r_sel (n := 1000) q1.r hI hs (by decide) e8 e9
      refine wp_b1e hse.1 ?_
      by_cases g : selLo A N s = selHi A N s
      · have g2 := hr.2.2.2.2.mp g
        have e : eLo A N s = thr (docOf A N (Hs A s)) (A 248 s) - 1 := by
          unfold eLo
          rw [if_pos g]
          unfold selLo imin
          rw [if_neg (by omega)]
        have ec : (eCn A N s : Int) = 1 := by
          unfold eCn eLo
          rw [if_pos g]; omega
        rw [if_pos (by omega)]
        refine wp_rd (by omega) (by omega) ?_
        rw [Int.toNat_natCast, e8]
        refine wp_b1e (r_placeOf q1.r q1.d hN (by decide) (hI.e8 hs)) ?_
        show wp (ck (thr (docOf A N (Hs A s)) (A 248 s) - 1) _) _
        refine wp_ck (by omega) (by omega) ?_
        unfold fX6_erase_J48
        rw [if_pos (by omega), ← e]
        rw [ec] at go; exact go
      · have e : eLo A N s = selLo A N s := by unfold eLo; rw [if_neg g]
        have ec : (eCn A N s : Int) = selHi A N s - selLo A N s := by
          unfold eCn
          rw [e]; omega
        rw [if_neg (by omega)]
        refine wp_b1e hse.2 ?_
        unfold fX6_erase_J48
        rw [if_neg (by omega), ← e]
        rw [ec, ← e] at go; exact go
    by_cases ok : okE A N s
    · obtain ⟨oL, oLen, oC⟩ := eEl_ok hI hs ok
      have hb := (hI.2.1 s hs).1
      have oN : N + (eEl A N s).length ≤ 160 := by rw [oLen]; have := ok.2; omega
      have iv := mkL_inv (nm := nm) (nv := nv) hs hb _ A N hI oL (by rw [List.length_map]; exact oN)
      rw [List.length_map] at iv
      have e48 : mkL (A 250 s) s A N ((eEl A N s).map (fun x => (2, x))) 248 s = A 248 s := by rw [iv.2 248 (by decide)]
      have e49 : mkL (A 250 s) s A N ((eEl A N s).map (fun x => (2, x))) 249 s = A 249 s := by rw [iv.2 249 (by decide)]
      have c8 := iv.1.c8 hs
      have c9 := iv.1.c9 hs
      rw [e48] at c8
      rw [e49] at c9
      have iv2 : Inv (cuA (mkL (A 250 s) s A N ((eEl A N s).map (fun x => (2, x)))) s (eC A N s) (eD A N s)) (N + (eEl A N s).length) nm nv := by
        refine iv.1.cu hs ?_ ?_
        · unfold eC; split
          · exact c8
          · exact c9
        · unfold eD; split
          · exact c8
          · exact c9
      have hc160 : eCn A N s ≤ 160 := by have := ok.2; omega
      refine So_fin (A' := cuA (mkL (A 250 s) s A N ((eEl A N s).map (fun x => (2, x)))) s (eC A N s) (eD A N s)) (F := fun σ1 => fX6_erase 1000 σ1 (s : Int)) (g := fun v => v) (k := 0) (kk := 0) (v := (eCn A N s : Int)) rfl (fun _ => rfl) hR iv2 (cls (fun σ3 p1 p2 p3 => ?_)) (fun σ1 hr1 => rfe σ1 hr1 (fun σ3 q1 q2 f3 => ?_))
      · unfold fX5_erase_J62
        rw [if_pos ok.1]
        refine wp_ck (by omega) (by omega) ?_
        rw [xw_ok (by rw [c_room p2, if_pos (by have := ok.2; omega)])]
        refine wp_b2 (c_pick p1 (by omega) ⟨ok.1, hle⟩ hr.2.2.1 (by decide)) (fun v σ4 q => ?_)
        obtain ⟨q1, q2, q3⟩ := q
        have q1' : v = selHi A N s - eLo A N s := q1
        have q2' : ∀ a, a ≠ 4 → σ4 a = σ3 a := q2
        have q3' : ∀ i : Nat, (i : Int) < selHi A N s - eLo A N s → σ4 4 i = elAt (docOf A N (Hs A s)) (eLo A N s + i) := q3
        have c4 : Cl σ4 A N nm nv := p2.r4 (fun a ha => q2' a (by omega))
        rw [q1', ← oC]
        refine c_eraseL (n := 1000) (y := (s : Int)) hs (by decide) (eEl A N s) A N σ4 0 1000 hI c4 oL (by omega) hc160 oN (by omega) (by
          rw [oLen]
          unfold eEl
          exact seg_congr (fun j _ hj => q3' j (by omega))) (fun σ5 c5 f5 => ?_)
        have f6 : FrC σ σ5 := p3.tr (FrC.tr (fun a b h1 h2 => by rw [q2' a (by omega)]) f5)
        have w8 : σ5 (20 + 40 * s) 8 = A 248 s := (c5.site hs).2.2.2.2.1.trans e48
        have w9 : σ5 (20 + 40 * s) 9 = A 249 s := (c5.site hs).2.2.2.2.2.1.trans e49
        unfold fX5_erase_J146
        by_cases g : thr (docOf A N (Hs A s)) (A 248 s) ≤ thr (docOf A N (Hs A s)) (A 249 s)
        · rw [if_pos g]
          have ec : eC A N s = A 248 s := if_pos g
          by_cases g2 : thr (docOf A N (Hs A s)) (A 249 s) ≤ thr (docOf A N (Hs A s)) (A 248 s)
          · rw [if_pos g2]
            have ed : eD A N s = A 249 s := if_neg (by omega)
            refine wp_some ⟨rfl, fun _ => rfl, ?_, f6⟩
            exact c5.cu iv.1.1 hs (fun a b _ => rfl) (w8.trans ec.symm) (w9.trans ed.symm)
          · rw [if_neg g2]
            have ed : eD A N s = A 248 s := if_pos (by omega)
            refine wp_pf (wp_some ⟨rfl, fun _ => rfl, ?_, f6.upd (by omega)⟩)
            rw [w8]
            refine c5.cu iv.1.1 hs (fun a b hab => ?_) ?_ ?_
            · show st σ5 (20 + 40 * s) 9 (A 248 s) a b = σ5 a b
              by_cases q : a = 20 + 40 * s
              · rw [q, st_row, if_neg (by omega)]
              · rw [st_ne q]
            · show st σ5 (20 + 40 * s) 9 (A 248 s) (20 + 40 * s) 8 = _
              rw [st_row, if_neg (by decide), w8, ec]
            · show st σ5 (20 + 40 * s) 9 (A 248 s) (20 + 40 * s) 9 = _
              rw [st_row, if_pos rfl, ed]
        · rw [if_neg g]
          have ec : eC A N s = A 249 s := if_neg g
          have ed : eD A N s = A 249 s := if_neg (by omega)
          refine wp_pf (wp_some ⟨rfl, fun _ => rfl, ?_, f6.upd (by omega)⟩)
          rw [w9]
          refine c5.cu iv.1.1 hs (fun a b hab => ?_) ?_ ?_
          · show st σ5 (20 + 40 * s) 8 (A 249 s) a b = σ5 a b
            by_cases q : a = 20 + 40 * s
            · rw [q, st_row, if_neg (by omega)]
            · rw [st_ne q]
          · show st σ5 (20 + 40 * s) 8 (A 249 s) (20 + 40 * s) 8 = _
            rw [st_row, if_pos rfl, ec]
          · show st σ5 (20 + 40 * s) 8 (A 249 s) (20 + 40 * s) 9 = _
            rw [st_row, if_neg (by decide), w9, ed]
      · unfold fX6_erase_J58
        rw [if_neg (by have := ok.1; omega), q2.1.1]
        refine wp_ck (by omega) (by omega) ?_
        rw [if_pos (by have := ok.2; omega)]
        unfold fX6_erase_J83
        refine wp_pf ?_
        have q5 : Re (st σ3 230 0 0) A N nm nv := q2.fr (FrS.up0 FrS.rf)
        have q4 := q1.fr0 (v := 0)
        have f4 : FrR σ1 (st σ3 230 0 0) := f3.upd (by decide)
        have e0 : st σ3 230 0 0 230 0 = 0 := by rw [st_row, if_pos rfl]
        generalize st σ3 230 0 0 = σ4 at q5 q4 f4 e0
        rw [if_pos (by omega)]
        refine wp_rd (by omega) (by omega) ?_
        rw [Int.toNat_natCast, q5.atS hs (by decide) (by decide)]
        refine wp_b1e (r_placeOf q4.r q4.d hN (by decide) (hI.e8 hs)) (wp_rd (by omega) (by omega) ?_)
        rw [Int.toNat_natCast, q5.atS hs (by decide) (by decide)]
        refine wp_b1e (r_placeOf q4.r q4.d hN (by decide) (hI.e9 hs)) ?_
        show wp (if thr (docOf A N (Hs A s)) (A 248 s) ≤ thr (docOf A N (Hs A s)) (A 249 s) then _ else _) _
        have fin : ∀ x5 : Int, (x5 = 0 ↔ thr (docOf A N (Hs A s)) (A 248 s) ≤ thr (docOf A N (Hs A s)) (A 249 s)) → wp (fX6_erase_L128 1000 (s : Int) (selHi A N s - selLo A N s) (eLo A N s) (eCn A N s : Int) x5 1000 σ4 ((0 : Nat) : Int)) (OkR σ1 (cuA (mkL (A 250 s) s A N ((eEl A N s).map (fun x => (2, x)))) s (eC A N s) (eD A N s)) (N + (eEl A N s).length) nm nv 0 (eCn A N s : Int)) := by
          intro x5 h5
          refine r_pickL (n := 1000) q4.r q4.d hN hc160 ⟨ok.1, by omega⟩ (by decide) (fun σ5 g1 g2 => ?_) (eCn A N s) 1000 0 σ4 (by omega) (by omega) (fun _ _ => rfl) (fun j hj => by omega)
          have r5 : Re σ5 A N nm nv := q5.fr (fun a b h1 h2 => by rw [g1 a (by omega)])
          refine r_eraseL (n := 1000) hs σ4 (fun _ _ _ _ _ _ => trivial) (eEl A N s) A N σ5 0 1000 hI r5 oL (by omega) hc160 oN (by omega) (by
            rw [oLen]
            unfold eEl
            exact seg_congr (fun j _ hj => g2 j (by omega))) (by rw [g1 230 (by decide)]) (fun a b hab => by rw [g1 a (by omega)]) (fun σ6 r6 e6 f6 => ?_)
          have f7 : FrR σ1 σ6 := f4.tr f6
          have w8 : σ6 248 s = A 248 s := (r6.atS hs (by decide) (by decide)).trans e48
          have w9 : σ6 249 s = A 249 s := (r6.atS hs (by decide) (by decide)).trans e49
          have j224 : ∀ c : Int, c = eC A N s → c = eD A N s → wp (fX6_erase_J224 1000 σ6 (s : Int) (eCn A N s : Int) c (s : Int)) (OkR σ1 (cuA (mkL (A 250 s) s A N ((eEl A N s).map (fun x => (2, x)))) s (eC A N s) (eD A N s)) (N + (eEl A N s).length) nm nv 0 (eCn A N s : Int)) := by
            intro c hc hd
            unfold fX6_erase_J224
            refine wp_wr (by omega) (by omega) (wp_rd (by omega) (by omega) ?_)
            rw [Int.toNat_natCast, st_row, if_pos rfl]
            refine wp_wr (by omega) (by omega) (wp_some ⟨?_, fun _ => rfl, ?_, (f7.upd (by decide)).upd (by decide)⟩)
            · show st (st σ6 248 s c) 249 s c 230 0 = 0
              rw [st_ne (by decide), st_ne (by decide), e6]; exact e0
            · refine r6.cu hs (fun a b hab => ?_) ?_ ?_
              · show st (st σ6 248 s c) 249 s c a b = σ6 a b
                by_cases g1 : a = 249
                · rw [g1, st_row, if_neg (by omega), st_ne (by decide)]
                · rw [st_ne g1]
                  by_cases g2 : a = 248
                  · rw [g2, st_row, if_neg (by omega)]
                  · rw [st_ne g2]
              · show st (st σ6 248 s c) 249 s c 248 s = _
                rw [st_ne (by decide), st_row, if_pos rfl]; exact hc
              · show st (st σ6 248 s c) 249 s c 249 s = _
                rw [st_row, if_pos rfl]; exact hd
          by_cases g : selLo A N s = selHi A N s
          · have g2' := hr.2.2.2.2.mp g
            rw [if_pos (by omega)]
            refine wp_some ⟨e6.trans e0, fun _ => rfl, ?_, f7⟩
            refine r6.cu hs (fun a b _ => rfl) ?_ ?_
            · show σ6 248 s = eC A N s
              unfold eC; rw [if_pos (by omega)]; exact w8
            · show σ6 249 s = eD A N s
              unfold eD; rw [if_neg (by omega)]; exact w9
          · have g3 : thr (docOf A N (Hs A s)) (A 248 s) ≠ thr (docOf A N (Hs A s)) (A 249 s) := fun w => g (hr.2.2.2.2.mpr w)
            rw [if_neg (by omega)]
            by_cases z : x5 = 0
            · have z2 := h5.mp z
              rw [if_pos z]
              refine wp_rd (by omega) (by omega) ?_
              rw [Int.toNat_natCast, w8]
              exact j224 _ (by unfold eC; rw [if_pos z2]) (by unfold eD; rw [if_pos (by omega)])
            · have z2 : ¬ thr (docOf A N (Hs A s)) (A 248 s) ≤ thr (docOf A N (Hs A s)) (A 249 s) := fun w => z (h5.mpr w)
              rw [if_neg z]
              refine wp_rd (by omega) (by omega) ?_
              rw [Int.toNat_natCast, w9]
              exact j224 _ (by unfold eC; rw [if_neg z2]) (by unfold eD; rw [if_neg (by omega)])
        by_cases g : thr (docOf A N (Hs A s)) (A 248 s) ≤ thr (docOf A N (Hs A s)) (A 249 s)
        · rw [if_pos g]; exact fin 0 ⟨fun _ => g, fun _ => rfl⟩
        · rw [if_neg g]; exact fin 1 ⟨fun w => absurd w (by decide), fun w => absurd w g⟩
    · refine So_fin (F := fun σ1 => fX6_erase 1000 σ1 (s : Int)) (g := fun v => v) (k := 3) (kk := 2) (v := 0) rfl (fun q => (by cases q)) hR hI (cls (fun σ3 p1 p2 p3 => ?_)) (fun σ1 hr1 => rfe σ1 hr1 (fun σ3 q1 q2 f3 => ?_))
      · unfold fX5_erase_J62
        by_cases g : 0 ≤ eLo A N s
        · have h2 : ¬ eCn A N s + N ≤ 160 := fun w => ok ⟨g, w⟩
          rw [if_pos g]
          refine wp_ck (by omega) (by omega) ?_
          rw [xw_x (c := 2) (by rw [c_room p2, if_neg (by unfold eCn at h2; omega)])]
          exact wp_some ⟨rfl, fun q => (by cases q), p2, p3⟩
        · rw [if_neg g]
          exact wp_some ⟨rfl, fun q => (by cases q), p2, p3⟩
      · have bad : wp (fX6_erase_J78 1000 σ3 (s : Int) (selHi A N s - selLo A N s) (eLo A N s) (eCn A N s : Int)) (OkR σ1 A N nm nv 2 0) := by
          unfold fX6_erase_J78 fX6_erase_J83
          exact r_bad (by decide) (r_badR (by decide) q2 f3)
        unfold fX6_erase_J58
        by_cases g : 0 ≤ eLo A N s
        · have h2 : ¬ eCn A N s + N ≤ 160 := fun w => ok ⟨g, w⟩
          rw [if_neg (by omega), q2.1.1]
          have h3 : (eCn A N s : Int) ≤ 161 := by unfold eCn; omega
          refine wp_ck (by omega) (by omega) ?_
          rw [if_neg (by omega)]; exact bad
        · rw [if_pos (by omega)]; exact bad
  · refine So_fin (F := fun σ1 => fX6_erase 1000 σ1 y1) (g := fun v => v) (k := 1) (kk := 1) (v := 0) rfl (fun q => (by cases q)) hR hI (by unfold fX5_erase; exact c_no hC hx) (fun σ1 hr1 => ?_)
    unfold fX6_erase
    refine wp_b1e (r_isSite y1) ?_
    rw [decide_eq_false hx, if_neg (by decide)]
    exact wp_b2e (r_fails 1) (wp_some (r_no hr1 (by decide)))
end ERA
