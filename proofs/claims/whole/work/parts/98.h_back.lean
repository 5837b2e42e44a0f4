/-! ===== bringBack ===== -/
section BACK
variable {σ τ A T : St} {N nm nv n s v : Nat} {D V : Dc} {k x y p a : Int}
theorem dOne_sh (hk : gt T N 11 (-1) a = 2 ∨ gt T N 11 (-1) a = 3) (hy : y ≠ gt T N 12 (-1) a) : shownB (dOne T N D a) y = shownB D y := by
  have key1 : ∀ (i : Nat) (w : Int), (num (gt T N 12 (-1) a) → i = (gt T N 12 (-1) a).toNat) → num (gt T N 12 (-1) a) → shownB (D.1, st D.2 6 i w) y = shownB D y := by
    intro i w hi hn
    unfold shownB
    refine decide_eq_decide.mpr ?_
    show (num y ∧ st D.2 6 i w 4 y.toNat = 1 ∧ st D.2 6 i w 6 y.toNat = 0) ↔ _
    rw [st_ne (by decide), st_row]
    by_cases q : y.toNat = i
    · have hn' : 0 ≤ gt T N 12 (-1) a ∧ gt T N 12 (-1) a < 160 := hn
      have hi' := hi hn
      constructor
      · rintro ⟨h1, _⟩
        have h1' : 0 ≤ y ∧ y < 160 := h1
        omega
      · rintro ⟨h1, _⟩
        have h1' : 0 ≤ y ∧ y < 160 := h1
        omega
    · rw [if_neg q]
  have key8 : ∀ (i : Nat) (w : Int), shownB (D.1, st D.2 8 i w) y = shownB D y := by
    intro i w
    unfold shownB
    refine decide_eq_decide.mpr ?_
    show (num y ∧ st D.2 8 i w 4 y.toNat = 1 ∧ st D.2 8 i w 6 y.toNat = 0) ↔ _
    rw [st_ne (by decide), st_ne (by decide)]
  unfold dOne
  rw [if_neg (by omega)]
  by_cases z0 : num a ∧ D.2 9 a.toNat ≠ 0
  · rw [if_pos z0]
  rw [if_neg z0]
  by_cases z2 : gt T N 11 (-1) a = 2
  · rw [if_pos z2]
    unfold dRem
    split
    · rename_i h
      split
      · exact key1 _ _ (fun _ => rfl) h.1
      · exact key8 _ _
    · rfl
  · rw [if_neg z2, if_pos (by omega)]
    unfold dRes
    split
    · rename_i h; exact key1 _ _ (fun _ => rfl) h.1
    · rfl
def subV (A : St) (s v : Nat) : Prop := ∀ a, a < 160 → A 258 (160 * v + a) ≠ 0 → A 243 (160 * s + a) ≠ 0
theorem c_all (hI : Inv A N nm nv) (hC : Cl σ A N nm nv) (hs : s < 4) (hv : v < nv) (hn : 200 ≤ n) : ∃ w, fX0_containsAll n σ (20 + 40 * s + 1) (700 + 2 * v) = some w ∧ (w ≠ 0 ↔ subV A s v) := by
  have hcl := hC.2.2.2.2.2.2.2 v hv
  have hh := (hC.g hs).2.2.2.2.2.2.1
  have key1 : ∀ (q k i : Nat), i + q = 160 → q < k → ∃ w, fX0_containsAll_L2 n σ (20 + 40 * s + 1) (700 + 2 * v) k (i : Int) = some w ∧ (w ≠ 0 ↔ ∀ a, i ≤ a → a < 160 → A 258 (160 * v + a) ≠ 0 → A 243 (160 * s + a) ≠ 0) := by
    intro q
    induction q with
    | zero =>
      intro k i e hk
      obtain ⟨k, rfl⟩ : ∃ q, k = q + 1 := ⟨k - 1, by omega⟩
      unfold fX0_containsAll_L2
      rw [lpR_s]
      unfold fX0_containsAll_L2s
      rw [if_pos (by omega)]
      exact ⟨1, rfl, fun _ a h1 h2 => by omega, fun _ => by decide⟩
    | succ q ih =>
      intro k i e hk
      obtain ⟨k, rfl⟩ : ∃ q, k = q + 1 := ⟨k - 1, by omega⟩
      obtain ⟨w, w1, w2⟩ := ih k (i + 1) (by omega) (by omega)
      unfold fX0_containsAll_L2 at w1 ⊢
      rw [lpR_s]
      generalize lpR (fun _ => none) (fX0_containsAll_L2s n σ (20 + 40 * s + 1) (700 + 2 * v)) k = lp at w1
      have w1' : lp ((i : Int) + 1) = some w := w1
      have ei : inS σ (700 + 2 * v) (i : Int) = decide (A 258 (160 * v + i) ≠ 0) := by
        unfold inS
        rw [Int.toNat_natCast, hcl i (by omega)]
        exact decide_eq_decide.mpr ⟨fun z => z.2, fun z => ⟨show 0 ≤ (i : Int) ∧ (i : Int) < 160 by omega, z⟩⟩
      unfold fX0_containsAll_L2s
      rw [if_neg (by omega), b1_ok (q_contains _ _ _), ei, ck_ok (by omega) (by omega)]
      by_cases z : A 258 (160 * v + i) = 0
      · rw [decide_eq_false (fun g => g z), if_pos (by rfl)]
        refine ⟨w, w1', w2.trans ⟨fun h a h1 h2 h3 => ?_, fun h a h1 h2 => h a (by omega) h2⟩⟩
        by_cases g : a = i
        · rw [g] at h3; exact absurd z h3
        · exact h a (by omega) h2 h3
      · rw [decide_eq_true z, if_neg (by decide), rd_ok (by omega) (by omega), Int.toNat_natCast, show 20 + 40 * s + 1 + 1 = 20 + 40 * s + 2 from rfl, hh i (by omega)]
        by_cases z2 : A 243 (160 * s + i) = 0
        · rw [if_neg (fun g => g z2)]
          exact ⟨0, rfl, fun h => absurd rfl h, fun h => absurd z2 (h i (Nat.le_refl _) (by omega) z)⟩
        · rw [if_pos z2]
          refine ⟨w, w1', w2.trans ⟨fun h a h1 h2 h3 => ?_, fun h a h1 h2 => h a (by omega) h2⟩⟩
          by_cases g : a = i
          · rw [g]; exact z2
          · exact h a (by omega) h2 h3
  obtain ⟨w, w1, w2⟩ := key1 160 n 0 (by decide) (by omega)
  exact ⟨w, w1, w2.trans ⟨fun h a ha => h a (by omega) ha, fun h a _ ha => h a ha⟩⟩
theorem r_all {Q : Int × St → Prop} (hI : Inv A N nm nv) (h : Re σ A N nm nv) (hs : s < 4) (hv : v < nv) (K : Int → Option (Int × St)) (hK : ∀ lp x3 x4, σ 230 1 ≤ x4 → fX6_bringBack_L38s n σ (s : Int) (v : Int) lp x3 x4 = K x3) (hQ : ∀ f : Int, (f = 0 ∨ f = 1) → (f ≠ 0 ↔ subV A s v) → wp (K f) Q) (hn : 200 ≤ n) : wp (fX6_bringBack_L38 n σ (s : Int) (v : Int) n 1 0) Q := by
  have hN := hI.1.2.1
  have hv10 := hI.2.2.2.2.1
  have h58 := h.2.2.2.2.2.2
  have h43 := (h.2.2.1 s hs).2.1
  have z5 := hI.2.2.2.2.2 v hv
  have key1 : ∀ (q k i : Nat) (f : Int), i + q = N → q < k → (f = 0 ∨ f = 1) → (f ≠ 0 ↔ ∀ a, a < i → A 258 (160 * v + a) ≠ 0 → A 243 (160 * s + a) ≠ 0) → wp (fX6_bringBack_L38 n σ (s : Int) (v : Int) k f (i : Int)) Q := by
    intro q
    induction q with
    | zero =>
      intro k i f e hk hf g
      obtain ⟨k, rfl⟩ : ∃ q, k = q + 1 := ⟨k - 1, by omega⟩
      unfold fX6_bringBack_L38
      rw [lpR_s, hK _ _ _ (by rw [h.1.1]; omega)]
      refine hQ f hf (g.trans ⟨fun w a ha h3 => ?_, fun w a ha => w a (by omega)⟩)
      have := (z5.2 a ha).2 h3
      exact w a (by omega) h3
    | succ q ih =>
      intro k i f e hk hf g
      obtain ⟨k, rfl⟩ : ∃ q, k = q + 1 := ⟨k - 1, by omega⟩
      have ih2 := fun f => ih k (i + 1) f (by omega) (by omega)
      unfold fX6_bringBack_L38 at ih2 ⊢
      rw [lpR_s]
      generalize lpR (fun _ _ => none) (fX6_bringBack_L38s n σ (s : Int) (v : Int)) k = lp at ih2
      have ih3 : ∀ f : Int, (f = 0 ∨ f = 1) → (f ≠ 0 ↔ ∀ a, a < i + 1 → A 258 (160 * v + a) ≠ 0 → A 243 (160 * s + a) ≠ 0) → wp (lp f ((i : Int) + 1)) Q := ih2
      unfold fX6_bringBack_L38s
      rw [h.1.1, if_neg (by omega)]
      by_cases z : f = 0
      · rw [if_pos z]
        refine wp_ck (by omega) (by omega) (ih3 0 (Or.inl rfl) ⟨fun w => absurd rfl w, fun w => absurd z (g.mpr (fun a ha => w a (by omega)))⟩)
      · have g' := g.mp z
        rw [if_neg z]
        refine wp_ck (by omega) (by omega) (wp_ck (by omega) (by omega) (wp_rd (by omega) (by omega) ?_))
        rw [show (160 * (v : Int) + (i : Int)).toNat = 160 * v + i by omega, h58 v i hv (by omega)]
        by_cases z1 : A 258 (160 * v + i) = 0
        · rw [if_pos z1]
          refine wp_ck (by omega) (by omega) (ih3 1 (Or.inr rfl) ⟨fun _ a ha h3 => ?_, fun _ => by decide⟩)
          by_cases g2 : a = i
          · rw [g2] at h3; exact absurd z1 h3
          · exact g' a (by omega) h3
        · rw [if_neg z1]
          refine wp_ck (by omega) (by omega) (wp_ck (by omega) (by omega) (wp_rd (by omega) (by omega) ?_))
          rw [show (160 * (s : Int) + (i : Int)).toNat = 160 * s + i by omega, h43 i (by omega)]
          by_cases z2 : A 243 (160 * s + i) = 0
          · rw [if_pos z2]
            exact wp_ck (by omega) (by omega) (ih3 0 (Or.inl rfl) ⟨fun w => absurd rfl w, fun w => absurd z2 (w i (by omega) z1)⟩)
          · rw [if_neg z2]
            refine wp_ck (by omega) (by omega) (ih3 1 (Or.inr rfl) ⟨fun _ a ha h3 => ?_, fun _ => by decide⟩)
            by_cases g2 : a = i
            · rw [g2]; exact z2
            · exact g' a (by omega) h3
  exact key1 N n 0 1 (by omega) (by omega) (Or.inr rfl) ⟨fun _ a ha => by omega, fun _ => by decide⟩
/-- what differs, in the order of the document -/
def dfL (D V : Dc) : List Int := D.1.filter (fun x => shownB D x != shownB V x)
def dfK (D V : Dc) : List (Int × Int) := (dfL D V).map (fun x => (if shownB D x = true then 2 else 3, x))
theorem df_take {i : Nat} (hi : D.1[i]? = some x) : (D.1.take (i + 1)).filter (fun x => shownB D x != shownB V x) = (D.1.take i).filter (fun x => shownB D x != shownB V x) ++ (if (shownB D x != shownB V x) = true then [x] else []) := by
  rw [List.take_succ, hi, List.filter_append]
  congr 1
  by_cases q : (shownB D x != shownB V x) = true
  · rw [if_pos q]; exact List.filter_cons_of_pos q
  · rw [if_neg q]; exact List.filter_cons_of_neg q
theorem c_diff {q0 o : Nat} (h : isP σ q0 D) (hV : isP σ o V) (hq0 : 8 ≤ q0) (ho : 8 ≤ o) (hn : 200 ≤ n) : wp (fX3_pickDifferent n σ q0 o 4) (fun r => r.1 = ((dfL D V).length : Int) ∧ (∀ a, a ≠ 4 → r.2 a = σ a) ∧ seg (r.2 4) 0 (dfL D V).length = dfL D V) := by
  have hl := h.2.1
  have key1 : ∀ (q k i : Nat) (τ : St) (x3 : Int), i + q = D.1.length → q < k → (∀ a, a ≠ 4 → τ a = σ a) → x3 = (((D.1.take i).filter (fun x => shownB D x != shownB V x)).length : Int) → seg (τ 4) 0 ((D.1.take i).filter (fun x => shownB D x != shownB V x)).length = (D.1.take i).filter (fun x => shownB D x != shownB V x) → wp (fX3_pickDifferent_L5 n q0 o 4 k τ x3 (i : Int)) (fun r => r.1 = ((dfL D V).length : Int) ∧ (∀ a, a ≠ 4 → r.2 a = σ a) ∧ seg (r.2 4) 0 (dfL D V).length = dfL D V) := by
    intro q
    induction q with
    | zero =>
      intro k i τ x3 e hk f e3 g
      obtain ⟨k, rfl⟩ : ∃ q, k = q + 1 := ⟨k - 1, by omega⟩
      have et : D.1.take i = D.1 := List.take_of_length_le (by omega)
      rw [et] at e3 g
      unfold fX3_pickDifferent_L5
      rw [lpR_s]
      unfold fX3_pickDifferent_L5s
      rw [f q0 (by omega), h.1, if_pos (by omega)]
      exact wp_some ⟨e3, f, g⟩
    | succ q ih =>
      intro k i τ x3 e hk f e3 g
      obtain ⟨k, rfl⟩ : ∃ q, k = q + 1 := ⟨k - 1, by omega⟩
      have ih2 := fun τ2 x3 => ih k (i + 1) τ2 x3 (by omega) (by omega)
      have gi := h.get (show i < D.1.length by omega)
      have hdt := df_take (V := V) gi
      rw [hdt] at ih2
      unfold fX3_pickDifferent_L5 at ih2 ⊢
      rw [lpR_s]
      generalize lpR (fun _ _ _ => none) (fX3_pickDifferent_L5s n q0 o 4) k = lp at ih2
      have hlen : ((D.1.take i).filter (fun x => shownB D x != shownB V x)).length ≤ i := by
        have h1 := List.length_filter_le (fun x => shownB D x != shownB V x) (D.1.take i)
        have h2 := List.length_take_le i D.1
        omega
      generalize (D.1.take i).filter (fun x => shownB D x != shownB V x) = M at e3 g ih2 hlen
      have pτ : ∀ (q1 : Nat) (E : Dc), 8 ≤ q1 → isP σ q1 E → isP τ q1 E := fun q1 E h8 w => by
        refine ⟨?_, w.2.1, ?_, fun k k1 k2 i => ?_⟩
        · rw [f q1 (by omega)]; exact w.1
        · rw [f _ (by omega)]; exact w.2.2.1
        · rw [f _ (by omega)]; exact w.2.2.2 k k1 k2 i
      unfold fX3_pickDifferent_L5s
      rw [f q0 (by omega), h.1, if_neg (by omega)]
      have eR := q_inRow (pτ q0 D hq0 h) (show i < D.1.length by omega)
      rw [f (q0 + 2) (by omega)] at eR
      refine wp_b1e eR ?_
      generalize σ (q0 + 2) i = x at gi ih2
      refine wp_b1e (q_isShown (pτ q0 D hq0 h) _) (wp_b1e (q_isShown (pτ o V ho hV) _) ?_)
      have no : (shownB D x != shownB V x) = false → wp (ck ((i : Int) + 1) (fun v4 => lp τ x3 v4)) (fun r => r.1 = ((dfL D V).length : Int) ∧ (∀ a, a ≠ 4 → r.2 a = σ a) ∧ seg (r.2 4) 0 (dfL D V).length = dfL D V) := fun hb => by
        rw [hb, if_neg (by decide), List.append_nil] at ih2
        exact wp_ck (by omega) (by omega) (ih2 τ x3 f e3 g)
      have yes : (shownB D x != shownB V x) = true → wp (if ((ln 4 : Nat) : Int) ≤ x3 then (ck ((i : Int) + 1) (fun v5 => lp τ x3 v5)) else (wr τ 4 (ln 4) x3 x (fun σ6 => ck (x3 + 1) (fun v7 => ck ((i : Int) + 1) (fun v8 => lp σ6 v7 v8))))) (fun r => r.1 = ((dfL D V).length : Int) ∧ (∀ a, a ≠ 4 → r.2 a = σ a) ∧ seg (r.2 4) 0 (dfL D V).length = dfL D V) := fun hb => by
        rw [hb, if_pos rfl] at ih2
        rw [show ((ln 4 : Nat) : Int) = 160 from rfl, if_neg (by omega)]
        refine wp_wr (by omega) (by show x3 < 160; omega) (wp_ck (by omega) (by omega) (wp_ck (by omega) (by omega) ?_))
        rw [show x3.toNat = M.length by omega]
        refine ih2 _ (x3 + 1) (fun a ha => by rw [st_fn ha]; exact f a ha) (by rw [List.length_append]; show _ = ((M.length + 1 : Nat) : Int); omega) ?_
        rw [List.length_append]
        show seg _ 0 (M.length + 1) = _
        rw [seg_one, Nat.zero_add, st_row, if_pos rfl]
        congr 1
        refine Eq.trans ?_ g
        exact seg_congr (fun j _ hj => by rw [st_row, if_neg (by omega)])
      cases hd : shownB D x <;> cases hv : shownB V x
      · rw [if_pos rfl]; exact no (by rw [hd, hv]; rfl)
      · rw [if_neg (by decide)]; exact yes (by rw [hd, hv]; rfl)
      · rw [if_neg (by decide)]; exact yes (by rw [hd, hv]; rfl)
      · rw [if_pos rfl]; exact no (by rw [hd, hv]; rfl)
  unfold fX3_pickDifferent
  exact key1 D.1.length n 0 σ 0 (by omega) (by omega) (fun _ _ => rfl) (by rw [List.take_zero]; rfl) (by rw [List.take_zero]; rfl)
theorem r_diff {Q : Int × St → Prop} {x1 x2 x3 : Int} (h : isR σ N D) (hd : DI A N D) (hN : N ≤ 160) (h273 : ∀ i : Nat, i < 160 → σ 273 i = b2i (shownB V (i : Int))) (hn : 200 ≤ n) (hK : ∀ lp τ, (∀ a, a ≠ 274 → τ a = σ a) → seg (τ 274) 0 (dfL D V).length = dfL D V → wp (fX6_bringBack_L111s n x1 x2 x3 lp τ ((dfL D V).length : Int) (D.1.length : Int)) Q) : wp (fX6_bringBack_L111 n x1 x2 x3 n σ 0 0) Q := by
  have hl := h.2.1
  have key1 : ∀ (q k i : Nat) (τ : St) (x4 : Int), i + q = D.1.length → q < k → (∀ a, a ≠ 274 → τ a = σ a) → x4 = (((D.1.take i).filter (fun x => shownB D x != shownB V x)).length : Int) → seg (τ 274) 0 ((D.1.take i).filter (fun x => shownB D x != shownB V x)).length = (D.1.take i).filter (fun x => shownB D x != shownB V x) → wp (fX6_bringBack_L111 n x1 x2 x3 k τ x4 (i : Int)) Q := by
    intro q
    induction q with
    | zero =>
      intro k i τ x4 e hk f e3 g
      obtain ⟨k, rfl⟩ : ∃ q, k = q + 1 := ⟨k - 1, by omega⟩
      have et : D.1.take i = D.1 := List.take_of_length_le (by omega)
      rw [et] at e3 g
      unfold fX6_bringBack_L111
      rw [lpR_s, e3, show (i : Int) = (D.1.length : Int) by omega]
      exact hK _ τ f g
    | succ q ih =>
      intro k i τ x4 e hk f e3 g
      obtain ⟨k, rfl⟩ : ∃ q, k = q + 1 := ⟨k - 1, by omega⟩
      have ih2 := fun τ2 x4 => ih k (i + 1) τ2 x4 (by omega) (by omega)
      have hi : i < D.1.length := by omega
      have gi := h.get hi
      have hm := h.mem hi
      have hr := hd.row hN hm
      have hr' : 0 ≤ σ 264 i ∧ σ 264 i < 160 := hr.1
      have hdt := df_take (V := V) gi
      rw [hdt] at ih2
      unfold fX6_bringBack_L111 at ih2 ⊢
      rw [lpR_s]
      generalize lpR (fun _ _ _ => none) (fX6_bringBack_L111s n x1 x2 x3) k = lp at ih2
      have hlen : ((D.1.take i).filter (fun x => shownB D x != shownB V x)).length ≤ i := by
        have h1 := List.length_filter_le (fun x => shownB D x != shownB V x) (D.1.take i)
        have h2 := List.length_take_le i D.1
        omega
      generalize (D.1.take i).filter (fun x => shownB D x != shownB V x) = M at e3 g ih2 hlen
      have r1 : isR τ N D := h.fr2 (fun a b hab => by rw [f a (by omega)])
      have e273 : τ 273 (σ 264 i).toNat = b2i (shownB V (σ 264 i)) := by
        rw [f 273 (by decide), h273 _ (by omega), Int.toNat_of_nonneg hr'.1]
      unfold fX6_bringBack_L111s
      rw [f 230 (by decide), h.1, if_neg (by omega)]
      refine wp_rd (by omega) (by omega) ?_
      rw [Int.toNat_natCast, f 264 (by decide)]
      refine wp_b1e (r_isShown r1 hd hN hm) (wp_rd (by omega) (by omega) ?_)
      rw [Int.toNat_natCast, f 264 (by decide)]
      refine wp_rd hr'.1 (by omega) ?_
      rw [e273]
      have j151 : ∀ b : Bool, b = (shownB D (σ 264 i) != shownB V (σ 264 i)) → wp (fX6_bringBack_J151 n lp τ x1 x2 x3 x4 (i : Int) (b2i b)) Q := by
        intro b hb
        unfold fX6_bringBack_J151
        refine wp_rd (by omega) (by omega) ?_
        rw [Int.toNat_natCast, f 264 (by decide)]
        refine wp_wr (by omega) (by omega) ?_
        rw [show x4.toNat = M.length by omega]
        rw [← hb] at ih2
        cases b with
        | false =>
          rw [if_neg (by decide), List.append_nil] at ih2
          rw [if_pos (by rfl)]
          refine wp_ck (by omega) (by omega) (wp_ck (by omega) (by omega) (ih2 _ (x4 + 0) (fun a ha => by rw [st_fn ha]; exact f a ha) (by omega) ?_))
          refine Eq.trans ?_ g
          exact seg_congr (fun j _ hj => by rw [st_row, if_neg (by omega)])
        | true =>
          rw [if_pos rfl] at ih2
          rw [if_neg (by decide)]
          refine wp_ck (by omega) (by omega) (wp_ck (by omega) (by omega) (ih2 _ (x4 + 1) (fun a ha => by rw [st_fn ha]; exact f a ha) (by rw [List.length_append]; show _ = ((M.length + 1 : Nat) : Int); omega) ?_))
          rw [List.length_append]
          show seg _ 0 (M.length + 1) = _
          rw [seg_one, Nat.zero_add, st_row, if_pos rfl]
          congr 1
          refine Eq.trans ?_ g
          exact seg_congr (fun j _ hj => by rw [st_row, if_neg (by omega)])
      cases hb : shownB D (σ 264 i) <;> cases hc : shownB V (σ 264 i)
      · rw [if_pos rfl]; exact j151 false (by rw [hb, hc]; rfl)
      · rw [if_neg (by decide)]; exact j151 true (by rw [hb, hc]; rfl)
      · rw [if_neg (by decide)]; exact j151 true (by rw [hb, hc]; rfl)
      · rw [if_pos rfl]; exact j151 false (by rw [hb, hc]; rfl)
  exact key1 D.1.length n 0 σ 0 (by omega) (by omega) (fun _ _ => rfl) (by rw [List.take_zero]; rfl) (by rw [List.take_zero]; rfl)
theorem c_backL {Q : Nat × Int × St → Prop} {y1 y2 : Int} {c : Nat} {F : Int → Int} (hs : s < 4) (hn : 200 ≤ n) : ∀ (L : List Int) (A : St) (N : Nat) (σ : St) (i m : Nat), Inv A N nm nv → Cl σ A N nm nv → σ (20 + 40 * s) 5 ≠ 0 → (∀ x, x ∈ L → F x = (if shownB (docOf A N (Hs A s)) x = true then 2 else 3)) → L.Nodup → okL A N s (L.map (fun x => (F x, x))) → i + L.length = c → c ≤ 160 → N + L.length ≤ 160 → L.length < m → seg (σ 4) i L.length = L → (∀ σ2, Cl σ2 (mkL 0 s A N (L.map (fun x => (F x, x)))) (N + L.length) nm nv → FrC σ σ2 → Q (0, (c : Int), σ2)) → wp (fX5_bringBack_L75 n y1 y2 (20 + 40 * s) (20 + 40 * s + 10) (c : Int) m σ (i : Int)) Q := by
  intro L
  induction L with
  | nil =>
    intro A N σ i m hI hC _ _ _ _ e _ _ hm _ hQ
    obtain ⟨m, rfl⟩ : ∃ q, m = q + 1 := ⟨m - 1, by omega⟩
    have e' : i + 0 = c := e
    unfold fX5_bringBack_L75
    rw [lpR_s]
    unfold fX5_bringBack_L75s
    rw [if_pos (by omega)]
    exact wp_some (hQ σ hC FrC.rf)
  | cons x L ih =>
    intro A N σ i m hI hC hfr hF nd ok e hc hN hm hsg hQ
    obtain ⟨m, rfl⟩ : ∃ q, m = q + 1 := ⟨m - 1, by omega⟩
    have e' : i + (L.length + 1) = c := e
    have hN' : N + (L.length + 1) ≤ 160 := hN
    have hm' : L.length + 1 < m + 1 := hm
    have hsg' : σ 4 i :: seg (σ 4) (i + 1) L.length = x :: L := hsg
    injection hsg' with h4 h5
    rw [List.nodup_cons] at nd
    have w := ok (F x, x) List.mem_cons_self
    have hFx := hF x List.mem_cons_self
    have hm2 := ok23 (k := F x) (x := x) (p := 0) (by omega) hs (Or.inl rfl) w.1 w.2
    have iv := hI.make hm2
    have ih2 := fun σ2 => ih (mkA A N s (F x) x (-1) 0 0) (N + 1) σ2 (i + 1) m iv
    unfold fX5_bringBack_L75 at ih2 ⊢
    rw [lpR_s]
    generalize lpR (fun _ _ => none) (fX5_bringBack_L75s n y1 y2 (20 + 40 * s) (20 + 40 * s + 10) (c : Int)) m = lp at ih2
    have hP := (hC.site hs).doc hfr
    have j112 : wp (fX5_bringBack_J112 n lp σ y1 y2 (20 + 40 * s) (20 + 40 * s + 10) (c : Int) (i : Int) (F x)) Q := by
      unfold fX5_bringBack_J112
      refine wp_rd (by omega) (by omega) ?_
      rw [Int.toNat_natCast, h4]
      refine wp_b2 (c_make hI hC hm2 hn) (fun v σ5 q => wp_ck (by omega) (by omega) ?_)
      obtain ⟨_, q2, q3, q4, q5⟩ := q
      have q4' : σ5 4 = σ 4 := q4
      have k23 : F x = 2 ∨ F x = 3 := w.1
      have sh : ∀ y, y ∈ L → shownB (docOf (mkA A N s (F x) x (-1) 0 0) (N + 1) (Hs (mkA A N s (F x) x (-1) 0 0) s)) y = shownB (docOf A N (Hs A s)) y := fun y hy => by
        rw [mk_docS hI hm2 (by omega)]
        refine dOne_sh ?_ ?_
        · rw [gt_i (by omega), Int.toNat_natCast, mk_tN (by decide) (by decide)]; exact k23
        · rw [gt_i (by omega), Int.toNat_natCast, mk_tN (by decide) (by decide)]
          show y ≠ x
          intro e2; rw [e2] at hy; exact nd.1 hy
      exact ih2 σ5 q2 (q5 hfr (by omega)) (fun y hy => by rw [sh y hy]; exact hF y (List.mem_cons_of_mem _ hy)) nd.2 (okL.step (q := (F x, x)) hI (by omega) hs ok) (by omega) hc (by omega) (by omega) (by rw [q4']; exact h5) (fun σ2 c2 f2 => hQ σ2 (by
        show Cl σ2 (mkL 0 s (mkA A N s (F x) x (-1) 0 0) (N + 1) (L.map (fun x => (F x, x)))) (N + (L.length + 1)) nm nv
        rw [show N + (L.length + 1) = N + 1 + L.length by omega]; exact c2) (FrC.tr q3 f2))
    unfold fX5_bringBack_L75s
    rw [if_neg (by omega), if_neg (by omega)]
    refine wp_rd (by omega) (by omega) ?_
    rw [Int.toNat_natCast, h4]
    refine wp_b1e (q_isShown hP x) ?_
    cases hb : shownB (docOf A N (Hs A s)) x with
    | false =>
      rw [hb, if_neg (by decide)] at hFx
      rw [if_pos (by rfl)]
      rw [hFx] at j112; exact j112
    | true =>
      rw [hb, if_pos rfl] at hFx
      rw [if_neg (by decide)]
      rw [hFx] at j112; exact j112
theorem r_backL {Q : Int × St → Prop} {x2 : Int} {c : Nat} {F : Int → Int} (hs : s < 4) (σ0 : St) (h00 : σ0 230 0 = 0) : ∀ (L : List Int) (A : St) (N : Nat) (σ : St) (i m : Nat), Inv A N nm nv → Re σ A N nm nv → (∀ x, x ∈ L → (0 ≤ x ∧ x < 160) ∧ F x = (if σ0 273 x.toNat = 0 then 2 else 3)) → okL A N s (L.map (fun x => (F x, x))) → i + L.length = c → c ≤ 160 → N + L.length ≤ 160 → L.length < m → seg (σ 274) i L.length = L → σ 230 0 = 0 → σ 273 = σ0 273 → FrR σ0 σ → (∀ σ2, Re σ2 (mkL 0 s A N (L.map (fun x => (F x, x)))) (N + L.length) nm nv → σ2 230 0 = 0 → FrR σ0 σ2 → Q ((c : Int), σ2)) → wp (fX6_bringBack_L217 n (s : Int) x2 (c : Int) m σ (i : Int)) Q := by
  intro L
  induction L with
  | nil =>
    intro A N σ i m hI hR _ _ e _ _ hm _ e0 _ f0 hQ
    obtain ⟨m, rfl⟩ : ∃ q, m = q + 1 := ⟨m - 1, by omega⟩
    have e' : i + 0 = c := e
    unfold fX6_bringBack_L217
    rw [lpR_s]
    unfold fX6_bringBack_L217s
    rw [if_pos (by omega)]
    unfold fX6_bringBack_J274
    rw [if_pos (by omega)]
    exact wp_some (hQ σ hR e0 f0)
  | cons x L ih =>
    intro A N σ i m hI hR hF ok e hc hN hm hsg e0 e273 f0 hQ
    obtain ⟨m, rfl⟩ : ∃ q, m = q + 1 := ⟨m - 1, by omega⟩
    have e' : i + (L.length + 1) = c := e
    have hN' : N + (L.length + 1) ≤ 160 := hN
    have hm' : L.length + 1 < m + 1 := hm
    have hsg' : σ 274 i :: seg (σ 274) (i + 1) L.length = x :: L := hsg
    injection hsg' with h4 h5
    have w := ok (F x, x) List.mem_cons_self
    have hFx := hF x List.mem_cons_self
    have hm2 := ok23 (k := F x) (x := x) (p := 0) (by omega) hs (Or.inl rfl) w.1 w.2
    have iv := hI.make hm2
    have ih2 := fun σ2 => ih (mkA A N s (F x) x (-1) 0 0) (N + 1) σ2 (i + 1) m iv
    unfold fX6_bringBack_L217 at ih2 ⊢
    rw [lpR_s]
    generalize lpR (fun _ _ => none) (fX6_bringBack_L217s n (s : Int) x2 (c : Int)) m = lp at ih2
    have k23 : F x = 2 ∨ F x = 3 := w.1
    have j253 : wp (fX6_bringBack_J253 n lp σ (s : Int) x2 (c : Int) (i : Int) (F x) (s : Int)) Q := by
      unfold fX6_bringBack_J253
      refine wp_rd (by omega) (by omega) ?_
      rw [Int.toNat_natCast, h4]
      refine wp_b2 (r_make' (σ := σ) hI hm2 hR (by omega) (Or.inl rfl) ⟨fun _ => rfl, fun g => by omega, fun g => by omega, fun _ => rfl, fun g => by omega, fun g => by omega, fun g => by omega, fun g => by omega⟩) (fun v σ5 q => wp_ck (by omega) (by omega) ?_)
      obtain ⟨_, q2, q3⟩ := q
      have q3' : FrM σ σ5 := q3
      have e274 : σ5 274 = σ 274 := funext fun b => q3' 274 b (by omega) (by omega)
      have e273' : σ5 273 = σ0 273 := (funext fun b => q3' 273 b (by omega) (by omega)).trans e273
      exact ih2 σ5 q2 (fun y hy => hF y (List.mem_cons_of_mem _ hy)) (okL.step (q := (F x, x)) hI (by omega) hs ok) (by omega) hc (by omega) (by omega) (by rw [e274]; exact h5) (by rw [q3' 230 0 (by omega) (by omega)]; exact e0) e273' (f0.tr q3'.R) (fun σ2 c2 z2 f2 => hQ σ2 (by
        show Re σ2 (mkL 0 s (mkA A N s (F x) x (-1) 0 0) (N + 1) (L.map (fun x => (F x, x)))) (N + (L.length + 1)) nm nv
        rw [show N + (L.length + 1) = N + 1 + L.length by omega]; exact c2) z2 f2)
    unfold fX6_bringBack_L217s
    rw [if_neg (by omega), if_neg (fun g => g e0)]
    refine wp_rd (by omega) (by omega) ?_
    rw [Int.toNat_natCast, h4]
    refine wp_rd hFx.1.1 (by omega) ?_
    rw [e273]
    by_cases z : σ0 273 x.toNat = 0
    · rw [if_pos z]
      rw [if_pos z] at hFx
      rw [hFx.2] at j253; exact j253
    · rw [if_neg z]
      rw [if_neg z] at hFx
      rw [hFx.2] at j253; exact j253
theorem df_ok (hI : Inv A N nm nv) (hs : s < 4) (V : Dc) : okL A N s (dfK (docOf A N (Hs A s)) V) ∧ (dfL (docOf A N (Hs A s)) V).Nodup ∧ (dfL (docOf A N (Hs A s)) V).length ≤ N ∧ ∀ x, x ∈ dfL (docOf A N (Hs A s)) V → (0 ≤ x ∧ x < 160) ∧ (shownB (docOf A N (Hs A s)) x != shownB V x) = true := by
  have dk := hI.dk hs
  have hN := hI.1.2.1
  have hm : ∀ x, x ∈ dfL (docOf A N (Hs A s)) V → x ∈ (docOf A N (Hs A s)).1 ∧ (shownB (docOf A N (Hs A s)) x != shownB V x) = true := fun x hx => List.mem_filter.mp hx
  refine ⟨fun q hq => ?_, List.Pairwise.filter _ dk.1.1, ?_, fun x hx => ⟨(dk.1.row hN (hm x hx).1).1, (hm x hx).2⟩⟩
  · obtain ⟨x, hx, rfl⟩ := List.mem_map.mp hq
    have := (dk.2.1 x).mp (hm x hx).1
    refine ⟨?_, (List.mem_filter.mp this.1).2, this.2⟩
    show (if shownB (docOf A N (Hs A s)) x = true then (2 : Int) else 3) = 2 ∨ (if shownB (docOf A N (Hs A s)) x = true then (2 : Int) else 3) = 3
    split
    · exact Or.inl rfl
    · exact Or.inr rfl
  · have h1 := List.length_filter_le (fun x => shownB (docOf A N (Hs A s)) x != shownB V x) (docOf A N (Hs A s)).1
    have h2 := dk.2.2.2.2
    have h3 : (dfL (docOf A N (Hs A s)) V).length ≤ (docOf A N (Hs A s)).1.length := h1
    omega
theorem so_bringBack : So_bringBack Rel := by
  intro nm nv σ y1 y2 y3 ⟨A, N, hI, hC, hR⟩ _ _ _ _
  have hN := hI.1.2.1
  have hv10 := hI.2.2.2.2.1
  refine ⟨1000, ?_⟩
  have bad : ∀ σ1, Re σ1 A N nm nv → wp (fX6_bringBack_J20 1000 σ1 y1 y2) (OkR σ1 A N nm nv 1 0) := fun σ1 hr1 => by
    unfold fX6_bringBack_J20 fX6_bringBack_J21
    exact r_bad (by decide) (r_badR (by decide) hr1 FrR.rf)
  by_cases hx : 0 ≤ y1 ∧ y1 < 4
  · by_cases hy : 0 ≤ y2 ∧ y2 < (nv : Int)
    · obtain ⟨s, rfl⟩ : ∃ s : Nat, y1 = (s : Int) := ⟨y1.toNat, by omega⟩
      obtain ⟨v, rfl⟩ : ∃ v : Nat, y2 = (v : Int) := ⟨y2.toNat, by omega⟩
      have hs : s < 4 := by omega
      have hv : v < nv := by omega
      have dk := hI.dk hs
      obtain ⟨oL, oNd, oLen, oX⟩ := df_ok hI hs (docOf A N (Vs A v))
      have ref : ∀ σ1, Re σ1 A N nm nv → ∀ (Q : Int × St → Prop), (∀ (f : Int) (σ4 : St), (f = 0 ∨ f = 1) → (f ≠ 0 ↔ subV A s v) → Re σ4 A N nm nv → FrR σ1 σ4 → (∀ i : Nat, i < 160 → σ4 273 i = b2i (shownB (docOf A N (Vs A v)) (i : Int))) → seg (σ4 274) 0 (dfL (docOf A N (Hs A s)) (docOf A N (Vs A v))).length = dfL (docOf A N (Hs A s)) (docOf A N (Vs A v)) → wp (if f = 0 then (pf σ4 230 0 2 (fun σ16 => fX6_bringBack_L217 1000 (s : Int) (v : Int) ((dfL (docOf A N (Hs A s)) (docOf A N (Vs A v))).length : Int) 1000 σ16 0)) else (ck ((N : Int) + ((dfL (docOf A N (Hs A s)) (docOf A N (Vs A v))).length : Int)) (fun v17 => if 160 < v17 then (pf σ4 230 0 2 (fun σ18 => fX6_bringBack_L217 1000 (s : Int) (v : Int) ((dfL (docOf A N (Hs A s)) (docOf A N (Vs A v))).length : Int) 1000 σ18 0)) else (pf σ4 230 0 0 (fun σ19 => fX6_bringBack_L217 1000 (s : Int) (v : Int) ((dfL (docOf A N (Hs A s)) (docOf A N (Vs A v))).length : Int) 1000 σ19 0))))) Q) → wp (fX6_bringBack 1000 σ1 (s : Int) (v : Int)) Q := by
        intro σ1 hr1 Q hK
        unfold fX6_bringBack
        refine wp_b1e (r_isSite _) ?_
        rw [decide_eq_true hx, if_neg (by decide)]
        refine wp_b1e (r_isVer hr1 hv10 _) ?_
        rw [decide_eq_true hy, if_neg (by decide)]
        unfold fX6_bringBack_J21
        refine wp_pf ?_
        have hr2 := hr1.fr (FrS.up0 (v := 0) FrS.rf)
        have fr := (FrS.up0 (v := 0) (FrS.rf (σ := σ1))).R
        have e0 : st σ1 230 0 0 230 0 = 0 := by rw [st_row, if_pos rfl]
        generalize st σ1 230 0 0 = σ2 at hr2 fr e0
        rw [if_pos (by omega)]
        refine r_all (n := 1000) hI hr2 hs hv (fun x3 => b1 (fX6_keeps 1000 σ2 (v : Int)) (fun σ4 => b1 (fX6_findsSite 1000 σ4 (s : Int)) (fun σ5 => fX6_bringBack_L111 1000 (s : Int) (v : Int) x3 1000 σ5 0 0))) (fun lp x3 x4 h => by unfold fX6_bringBack_L38s; rw [if_pos h]) (fun f hf hfs => ?_) (by decide)
        refine wp_b1 (r_keeps hI hr2 hv (by decide)) (fun σ3 q => ?_)
        obtain ⟨k1, k2, k3, k4⟩ := q
        refine wp_b1 (r_site hI.1 (hI.2.1 s hs) k2 hs (by decide)) (fun σ4 q => ?_)
        obtain ⟨q1, q2, q3⟩ := q
        refine r_diff (n := 1000) (V := docOf A N (Vs A v)) q1.r dk.1 hN (fun i hi => by rw [q3 273 i (by decide) (by omega)]; exact k1 i hi) (by decide) (fun lp τ g1 g2 => ?_)
        unfold fX6_bringBack_L111s
        rw [g1 230 (by decide), q1.r.1, if_pos (Int.le_refl _), q2.1.1]
        exact hK f τ hf hfs (q2.fr (fun a b h1 h2 => by rw [g1 a (by omega)])) (fun a b hab => by rw [g1 a (by omega), q3 a b (by omega) (by omega), k3 a b hab]; exact fr a b hab) (fun i hi => by rw [g1 273 (by decide), q3 273 i (by decide) (by omega)]; exact k1 i hi) g2
      have fail : ∀ σ1 σ4, Re σ4 A N nm nv → FrR σ1 σ4 → wp (pf σ4 230 0 2 (fun σ16 => fX6_bringBack_L217 1000 (s : Int) (v : Int) ((dfL (docOf A N (Hs A s)) (docOf A N (Vs A v))).length : Int) 1000 σ16 0)) (OkR σ1 A N nm nv 2 0) := by
        intro σ1 σ4 r4 f4
        refine wp_pf ?_
        have e2 : st σ4 230 0 2 230 0 = 2 := by rw [st_row, if_pos rfl]
        have r5 : Re (st σ4 230 0 2) A N nm nv := r4.fr (FrS.up0 FrS.rf)
        have f5 : FrR σ1 (st σ4 230 0 2) := f4.upd (by decide)
        generalize st σ4 230 0 2 = σ5 at e2 r5 f5
        have j : wp (fX6_bringBack_J274 1000 σ5 (s : Int) (v : Int) ((dfL (docOf A N (Hs A s)) (docOf A N (Vs A v))).length : Int)) (OkR σ1 A N nm nv 2 0) := by
          unfold fX6_bringBack_J274
          rw [if_neg (by omega)]
          exact wp_some ⟨e2, fun q => (by cases q), r5, f5⟩
        unfold fX6_bringBack_L217
        rw [show (1000 : Nat) = 999 + 1 from rfl, lpR_s]
        unfold fX6_bringBack_L217s
        by_cases g : ((dfL (docOf A N (Hs A s)) (docOf A N (Vs A v))).length : Int) ≤ 0
        · rw [if_pos g]; exact j
        · rw [if_neg g, if_pos (by omega)]; exact j
      obtain ⟨w0, hw, hws⟩ := c_all (n := 1000) hI hC hs hv (by decide)
      by_cases sub : subV A s v
      · have hw0 : w0 ≠ 0 := hws.mpr sub
        have cls : ∀ {Q : Nat × Int × St → Prop}, (∀ σ3, Cl σ3 A N nm nv → σ3 (20 + 40 * s) 5 ≠ 0 → FrC σ σ3 → seg (σ3 4) 0 (dfL (docOf A N (Hs A s)) (docOf A N (Vs A v))).length = dfL (docOf A N (Hs A s)) (docOf A N (Vs A v)) → wp (xw 0 (fX5_checkRoomFor σ3 ((dfL (docOf A N (Hs A s)) (docOf A N (Vs A v))).length : Int)) (fun v12 σ11 => fX5_bringBack_L75 1000 (s : Int) (v : Int) (20 + 40 * s) (20 + 40 * s + 10) ((dfL (docOf A N (Hs A s)) (docOf A N (Vs A v))).length : Int) 1000 σ11 0)) Q) → wp (fX5_bringBack 1000 σ (s : Int) (v : Int)) Q := by
          intro Q hK
          unfold fX5_bringBack
          rw [xw_ok (c_siteAt hx), xw_ok (c_verAt hC hv10 hy), Int.toNat_natCast, Int.toNat_natCast, b1_ok hw, if_pos hw0]
          refine wp_b2 (c_paperX hI.1 hC hs (by decide)) (fun o σ5 q => ?_)
          obtain ⟨⟨r1, r2, r3, r4⟩, _, r6⟩ := q
          have r1' : o = 20 + 40 * s + 10 := r1
          subst r1'
          have r2' : isP σ5 (20 + 40 * s + 10) (docOf A N (Hs A s)) := r2
          have r3' : Cl σ5 A N nm nv := r3
          have r6' : σ5 (20 + 40 * s) 5 ≠ 0 := r6
          have r4' : FrC σ σ5 := r4
          refine wp_b1 (c_scr (o := 700 + 2 * v) hI.1 r3' (Or.inl rfl) (by decide) (by omega)) (fun σ8 q => ?_)
          obtain ⟨q1, q2, q3, q4⟩ := q
          rw [c_inV r3' hv] at q1
          have p8 := r2'.fr q3 (by omega)
          refine wp_b2 (c_diff p8 q1 (by omega) (by decide) (by decide)) (fun x σ9 q => ?_)
          obtain ⟨d1, d2, d3⟩ := q
          have d1' : x = ((dfL (docOf A N (Hs A s)) (docOf A N (Vs A v))).length : Int) := d1
          have d2' : ∀ a, a ≠ 4 → σ9 a = σ8 a := d2
          rw [d1']
          refine hK σ9 (q2.r4 (fun a ha => d2' a (by omega))) ?_ (fun a b h1 h2 => ?_) d3
          · rw [d2' _ (by omega), q4 s hs]; exact r6'
          · rw [d2' a (by omega), q3 a (by omega)]; exact r4' a b h1 h2
        by_cases room : (dfL (docOf A N (Hs A s)) (docOf A N (Vs A v))).length + N ≤ 160
        · have iv := mkL_inv (p := 0) (nm := nm) (nv := nv) hs (Or.inl rfl) _ A N hI oL (by unfold dfK; rw [List.length_map]; omega)
          have iv1 := iv.1
          unfold dfK at iv1
          rw [List.length_map] at iv1
          refine So_fin (A' := mkL 0 s A N ((dfL (docOf A N (Hs A s)) (docOf A N (Vs A v))).map (fun x => (if shownB (docOf A N (Hs A s)) x = true then 2 else 3, x)))) (F := fun σ1 => fX6_bringBack 1000 σ1 (s : Int) (v : Int)) (g := fun v => v) (k := 0) (kk := 0) (v := ((dfL (docOf A N (Hs A s)) (docOf A N (Vs A v))).length : Int)) rfl (fun _ => rfl) hR iv1 (cls (fun σ3 c3 fr3 f3 g3 => ?_)) (fun σ1 hr1 => ref σ1 hr1 _ (fun f σ4 hf hfs r4 f4 g4 s4 => ?_))
          · rw [xw_ok (by rw [c_room c3, if_pos (by omega)])]
            refine c_backL (n := 1000) (y1 := (s : Int)) (y2 := (v : Int)) (F := fun x => if shownB (docOf A N (Hs A s)) x = true then 2 else 3) hs (by decide) (dfL (docOf A N (Hs A s)) (docOf A N (Vs A v))) A N σ3 0 1000 hI c3 fr3 (fun x _ => rfl) oNd oL (by omega) (by omega) (by omega) (by omega) g3 (fun σ5 c5 f5 => ⟨rfl, fun _ => rfl, c5, f3.tr f5⟩)
          · have f1 : f ≠ 0 := hfs.mpr sub
            rw [if_neg f1]
            refine wp_ck (by omega) (by omega) ?_
            rw [if_neg (by omega)]
            refine wp_pf ?_
            have e0 : st σ4 230 0 0 230 0 = 0 := by rw [st_row, if_pos rfl]
            have r5 : Re (st σ4 230 0 0) A N nm nv := r4.fr (FrS.up0 FrS.rf)
            have f5 : FrR σ1 (st σ4 230 0 0) := f4.upd (by decide)
            have e273 : st σ4 230 0 0 273 = σ4 273 := st_fn (by decide)
            have e274 : st σ4 230 0 0 274 = σ4 274 := st_fn (by decide)
            generalize st σ4 230 0 0 = σ5 at e0 r5 f5 e273 e274
            refine r_backL (n := 1000) (x2 := (v : Int)) (F := fun x => if shownB (docOf A N (Hs A s)) x = true then 2 else 3) hs σ5 e0 (dfL (docOf A N (Hs A s)) (docOf A N (Vs A v))) A N σ5 0 1000 hI r5 (fun x hx2 => ?_) oL (by omega) (by omega) (by omega) (by omega) (by rw [e274]; exact s4) e0 rfl FrR.rf (fun σ6 r6 e6 f6 => ⟨e6, fun _ => rfl, r6, f5.tr f6⟩)
            have ox := oX x hx2
            refine ⟨ox.1, ?_⟩
            rw [e273, g4 _ (by omega), Int.toNat_of_nonneg ox.1.1]
            have o2 := ox.2
            show (if shownB (docOf A N (Hs A s)) x = true then (2 : Int) else 3) = _
            cases h1 : shownB (docOf A N (Hs A s)) x <;> cases h2 : shownB (docOf A N (Vs A v)) x
            · rw [h1, h2] at o2; cases o2
            · rfl
            · rfl
            · rw [h1, h2] at o2; cases o2
        · refine So_fin (F := fun σ1 => fX6_bringBack 1000 σ1 (s : Int) (v : Int)) (g := fun v => v) (k := 3) (kk := 2) (v := 0) rfl (fun q => (by cases q)) hR hI (cls (fun σ3 c3 fr3 f3 g3 => ?_)) (fun σ1 hr1 => ref σ1 hr1 _ (fun f σ4 hf hfs r4 f4 g4 s4 => ?_))
          · rw [xw_x (c := 2) (by rw [c_room c3, if_neg (by omega)])]
            exact wp_some ⟨rfl, fun q => (by cases q), c3, f3⟩
          · have f1 : f ≠ 0 := hfs.mpr sub
            rw [if_neg f1]
            refine wp_ck (by omega) (by omega) ?_
            rw [if_pos (by omega)]
            exact fail σ1 σ4 r4 f4
      · have hw0 : w0 = 0 := by
          by_cases q : w0 = 0
          · exact q
          · exact absurd (hws.mp q) sub
        refine So_fin (F := fun σ1 => fX6_bringBack 1000 σ1 (s : Int) (v : Int)) (g := fun v => v) (k := 3) (kk := 2) (v := 0) rfl (fun q => (by cases q)) hR hI ?_ (fun σ1 hr1 => ref σ1 hr1 _ (fun f σ4 hf hfs r4 f4 g4 s4 => ?_))
        · unfold fX5_bringBack
          rw [xw_ok (c_siteAt hx), xw_ok (c_verAt hC hv10 hy), Int.toNat_natCast, Int.toNat_natCast, b1_ok hw, if_neg (fun g => g hw0)]
          exact wp_some ⟨rfl, fun q => (by cases q), hC, FrC.rf⟩
        · have f1 : f = 0 := by
            by_cases q : f = 0
            · exact q
            · exact absurd (hfs.mp q) sub
          rw [if_pos f1]
          exact fail σ1 σ4 r4 f4
    · refine So_fin (F := fun σ1 => fX6_bringBack 1000 σ1 y1 y2) (g := fun v => v) (k := 1) (kk := 1) (v := 0) rfl (fun q => (by cases q)) hR hI ?_ (fun σ1 hr1 => ?_)
      · unfold fX5_bringBack
        rw [xw_ok (c_siteAt hx), xw_x (c_verNo hC hy)]
        exact wp_some ⟨rfl, fun q => (by cases q), hC, FrC.rf⟩
      · unfold fX6_bringBack
        refine wp_b1e (r_isSite _) ?_
        rw [decide_eq_true hx, if_neg (by decide)]
        refine wp_b1e (r_isVer hr1 hv10 _) ?_
        rw [decide_eq_false hy, if_pos (by rfl)]
        exact bad σ1 hr1
  · refine So_fin (F := fun σ1 => fX6_bringBack 1000 σ1 y1 y2) (g := fun v => v) (k := 1) (kk := 1) (v := 0) rfl (fun q => (by cases q)) hR hI (by unfold fX5_bringBack; exact c_no hC hx) (fun σ1 hr1 => ?_)
    unfold fX6_bringBack
    refine wp_b1e (r_isSite _) ?_
    rw [decide_eq_false hx, if_pos (by rfl)]
    exact bad σ1 hr1
end BACK
