/-! ===== whose acts are not undone; what the law's runs keep of the acts ===== -/
section OWN
variable {A B : St} {N nm nv s t : Nat} {k x y z p : Int}
theorem ids_succ : ids (N + 1) = ids N ++ [(N : Int)] := by
  unfold ids
  rw [seg_one, Nat.zero_add]
def ownB (A : St) (N s : Nat) (a : Int) : Bool := decide (A 9 a.toNat = (s : Int) ∧ A 11 a.toNat ≤ 7 ∧ (docOf A N (Hs A s)).2 9 a.toNat = 0)
def ownC (A : St) (N s : Nat) : Int := cnt (ownB A N s) (ids N)
theorem cnt_one (P : Int → Bool) (a : Int) : cnt P [a] = b2i (P a) := Int.add_zero _
theorem cnt_rm {P : Int → Bool} {u : Int} : ∀ {L : List Int}, L.Nodup → u ∈ L → P u = true → cnt (fun a => P a && decide (a ≠ u)) L = cnt P L - 1 := by
  intro L
  induction L with
  | nil => intro _ h; cases h
  | cons a L ih =>
    intro hnd hu hp
    have hnd := List.nodup_cons.mp hnd
    show b2i (P a && decide (a ≠ u)) + cnt (fun a => P a && decide (a ≠ u)) L = b2i (P a) + cnt P L - 1
    by_cases e : a = u
    · rw [cnt_congr (P := fun a => P a && decide (a ≠ u)) (R := P) (fun b hb => by
        have : b ≠ u := fun q => hnd.1 (by rw [e, ← q]; exact hb)
        rw [decide_eq_true this, Bool.and_true]), decide_eq_false (fun q => q e), Bool.and_false, e, hp]
      show (0 : Int) + _ = 1 + _ - 1
      omega
    · rw [decide_eq_true e, Bool.and_true, ih hnd.2 ((List.mem_cons.mp hu).resolve_left (fun q => e q.symm)) hp]
      omega
theorem cnt_ad {P : Int → Bool} {u : Int} : ∀ {L : List Int}, L.Nodup → u ∈ L → P u = false → cnt (fun a => P a || decide (a = u)) L = cnt P L + 1 := by
  intro L
  induction L with
  | nil => intro _ h; cases h
  | cons a L ih =>
    intro hnd hu hp
    have hnd := List.nodup_cons.mp hnd
    show b2i (P a || decide (a = u)) + cnt (fun a => P a || decide (a = u)) L = b2i (P a) + cnt P L + 1
    by_cases e : a = u
    · rw [cnt_congr (P := fun a => P a || decide (a = u)) (R := P) (fun b hb => by
        have : b ≠ u := fun q => hnd.1 (by rw [e, ← q]; exact hb)
        rw [decide_eq_false this, Bool.or_false]), decide_eq_true e, Bool.or_true, e, hp]
      show (1 : Int) + _ = 0 + _ + 1
      omega
    · rw [decide_eq_false e, Bool.or_false, ih hnd.2 ((List.mem_cons.mp hu).resolve_left (fun q => e q.symm)) hp]
      omega
theorem doc9_hi (hI : Inv A N nm nv) (S : Int → Bool) {i : Nat} (hi : N ≤ i) : (docOf A N S).2 9 i = 0 := by
  have h : CD (docOf A N S).2 N := doc_pd hI.1.2.2.2.1 (OLf hI.1)
  rw [h 9 (by decide) (by decide) i (by rw [bd_lo (by decide)]; exact hi)]
  rfl
theorem own_mk (hI : Inv A N nm nv) (hm : okM A N s k x y z p) (hk : ¬ (k = 11 ∨ k = 12)) (ht : t < 4) : ownC (mkA A N s k x y z p) (N + 1) t = ownC A N t + (if t = s ∧ k ≤ 7 then 1 else 0) := by
  have e9 : ∀ i, (docOf (mkA A N s k x y z p) (N + 1) (Hs (mkA A N s k x y z p) t)).2 9 i = (docOf A N (Hs A t)).2 9 i := fun i => by
    by_cases q : t = s
    · rw [q, mk_docS hI hm hk, dOne_9]
    · rw [mk_docT hI hm ht q]
  unfold ownC
  rw [ids_succ, cnt_app, cnt_one]
  rw [cnt_congr (R := ownB A N t) (fun a ha => by
    have hr := ids_mem.mp ha
    unfold ownB
    rw [e9, mk_t (by decide) (by decide), mk_t (by decide) (by decide), if_neg (by omega), if_neg (by omega)])]
  congr 1
  unfold ownB
  rw [e9, Int.toNat_natCast, mk_tN (by decide) (by decide), mk_tN (by decide) (by decide), doc9_hi hI _ (Nat.le_refl N)]
  show b2i (decide ((s : Int) = (t : Int) ∧ k ≤ 7 ∧ (0 : Int) = 0)) = _
  by_cases q : t = s ∧ k ≤ 7
  · rw [if_pos q, decide_eq_true ⟨by omega, q.2, rfl⟩]; rfl
  · rw [if_neg q, decide_eq_false (fun w => q ⟨by omega, w.2.1⟩)]; rfl
/-- an UNDO or REDO comes last of what its site has -/
theorem doc9_mk (hI : Inv A N nm nv) (hm : okM A N s k x y z p) (hk : k = 11 ∨ k = 12) (hx : num x) (i : Nat) : (docOf (mkA A N s k x y z p) (N + 1) (Hs (mkA A N s k x y z p) s)).2 9 i = if i = x.toNat then (if k = 11 then 1 else 0) else (docOf A N (Hs A s)).2 9 i := by
  unfold docOf
  rw [filt_app (S := Hs A s) mk_ext hI.1.2.2.2.2.1 (mk_TS hI hm.1.2) (fun a _ _ => by rw [mk_Hs hI hm.1.1 hm.1.2 hm.1.2, if_neg (by omega)]) (by rw [mk_Hs hI hm.1.1 hm.1.2 hm.1.2, if_pos ⟨rfl, rfl⟩]) (fun a _ _ h => by rw [mk_key]; exact mk_ltH hI hm.1.2 h)]
  unfold docL
  rw [fold_9, fold_9, List.foldl_append]
  show uOne (mkA A N s k x y z p) (N + 1) (((OL A N).filter (Hs A s)).foldl (uOne (mkA A N s k x y z p) (N + 1)) C0) (N : Int) 9 i = _
  rw [mk_ext.ufold _ _ (OLf hI.1)]
  unfold uOne
  rw [gt_i (by omega), gt_i (by omega), Int.toNat_natCast, mk_tN (by decide) (by decide), mk_tN (by decide) (by decide)]
  show (if (k = 11 ∨ k = 12) ∧ num x then st (((OL A N).filter (Hs A s)).foldl (uOne A N) C0) 9 x.toNat (if k = 11 then 1 else 0) else ((OL A N).filter (Hs A s)).foldl (uOne A N) C0) 9 i = _
  rw [if_pos ⟨hk, hx⟩, st_row]
  rfl
theorem own_un (hI : Inv A N nm nv) (hm : okM A N s 11 x y z p) (hx : 0 ≤ x ∧ x < (N : Int)) (h : ownB A N s x = true) (ht : t < 4) : ownC (mkA A N s 11 x y z p) (N + 1) t = ownC A N t - (if t = s then 1 else 0) := by
  have hN := hI.1.2.1
  unfold ownC
  rw [ids_succ, cnt_app, cnt_one]
  have eN : ownB (mkA A N s 11 x y z p) (N + 1) t (N : Int) = false := by
    unfold ownB
    rw [Int.toNat_natCast, mk_tN (by decide) (by decide), mk_tN (by decide) (by decide)]
    exact decide_eq_false (fun w => by have : (11 : Int) ≤ 7 := w.2.1; omega)
  rw [eN]
  by_cases q : t = s
  · subst q
    rw [if_pos rfl, cnt_congr (R := fun a => ownB A N t a && decide (a ≠ x)) (fun a ha => by
      have hr := ids_mem.mp ha
      unfold ownB
      rw [doc9_mk hI hm (Or.inl rfl) ⟨hx.1, by omega⟩, mk_t (by decide) (by decide), mk_t (by decide) (by decide), if_neg (by omega), if_neg (by omega)]
      by_cases e : a = x
      · rw [if_pos (by rw [e]), if_pos rfl, decide_eq_false (fun w => by have : (1 : Int) = 0 := w.2.2; omega), decide_eq_false (show ¬ (a ≠ x) from fun w => w e), Bool.and_false]
      · rw [if_neg (by omega), decide_eq_true e, Bool.and_true]), cnt_rm ids_nd (ids_mem.mpr hx) h]
    show _ + (0 : Int) = _
    omega
  · rw [if_neg q, cnt_congr (R := ownB A N t) (fun a ha => by
      have hr := ids_mem.mp ha
      unfold ownB
      rw [mk_docT hI hm ht q, mk_t (by decide) (by decide), mk_t (by decide) (by decide), if_neg (by omega), if_neg (by omega)])]
    show _ + (0 : Int) = _
    omega
theorem own_re (hI : Inv A N nm nv) (hm : okM A N s 12 x y z p) (hx : 0 ≤ x ∧ x < (N : Int)) (h1 : A 9 x.toNat = (s : Int)) (h2 : A 11 x.toNat ≤ 7) (h3 : (docOf A N (Hs A s)).2 9 x.toNat ≠ 0) (ht : t < 4) : ownC (mkA A N s 12 x y z p) (N + 1) t = ownC A N t + (if t = s then 1 else 0) := by
  have hN := hI.1.2.1
  unfold ownC
  rw [ids_succ, cnt_app, cnt_one]
  have eN : ownB (mkA A N s 12 x y z p) (N + 1) t (N : Int) = false := by
    unfold ownB
    rw [Int.toNat_natCast, mk_tN (by decide) (by decide), mk_tN (by decide) (by decide)]
    exact decide_eq_false (fun w => by have : (12 : Int) ≤ 7 := w.2.1; omega)
  rw [eN]
  by_cases q : t = s
  · subst q
    rw [if_pos rfl, cnt_congr (R := fun a => ownB A N t a || decide (a = x)) (fun a ha => by
      have hr := ids_mem.mp ha
      unfold ownB
      rw [doc9_mk hI hm (Or.inr rfl) ⟨hx.1, by omega⟩, mk_t (by decide) (by decide), mk_t (by decide) (by decide), if_neg (by omega), if_neg (by omega)]
      by_cases e : a = x
      · rw [if_pos (by rw [e]), if_neg (by decide), decide_eq_true e, Bool.or_true, e]
        exact decide_eq_true ⟨h1, h2, rfl⟩
      · rw [if_neg (by omega), decide_eq_false e, Bool.or_false]), cnt_ad ids_nd (ids_mem.mpr hx) (decide_eq_false (fun w => h3 w.2.2))]
    show _ + (0 : Int) = _
    omega
  · rw [if_neg q, cnt_congr (R := ownB A N t) (fun a ha => by
      have hr := ids_mem.mp ha
      unfold ownB
      rw [mk_docT hI hm ht q, mk_t (by decide) (by decide), mk_t (by decide) (by decide), if_neg (by omega), if_neg (by omega)])]
    show _ + (0 : Int) = _
    omega
/-- what is kept of the acts: each site has its own; no level READ; the comments' numbers; each undoes its own -/
def JA (A : St) (N : Nat) : Prop := (∀ a, a < N → Hs A (A 9 a).toNat (a : Int) = true) ∧ (∀ a, a < N → A 11 a = 10 → A 14 a = 0 ∨ A 14 a = 1) ∧ (∀ a, a < N → A 11 a = 7 → A 14 a < A 8 9) ∧ ∀ a, a < N → (A 11 a = 11 ∨ A 11 a = 12) → A 9 (A 12 a).toNat = A 9 a
theorem JA.mk (h : JA A N) (hI : Inv A N nm nv) (hm : okM A N s k x y z p) (h1 : k = 10 → z = 0 ∨ z = 1) (h2 : k = 7 → z = A 8 9) (h3 : k = 11 ∨ k = 12 → (0 ≤ x ∧ x < (N : Int)) ∧ A 9 x.toNat = (s : Int)) : JA (mkA A N s k x y z p) (N + 1) := by
  have e : ∀ r a, 9 ≤ r → r ≤ 15 → a < N → mkA A N s k x y z p r a = A r a := fun r a r1 r2 ha => by rw [mk_t r1 r2, if_neg (by omega)]
  have e8 : A 8 9 ≤ mkA A N s k x y z p 8 9 := by
    rw [mk_8]
    show A 8 9 ≤ if (9 : Nat) = 8 then (N : Int) + 1 else if (9 : Nat) = 9 ∧ k = 7 then A 8 9 + 1 else A 8 9
    rw [if_neg (by decide)]
    split <;> omega
  have e87 : k = 7 → mkA A N s k x y z p 8 9 = A 8 9 + 1 := fun hk => by
    rw [mk_8]
    show (if (9 : Nat) = 8 then (N : Int) + 1 else if (9 : Nat) = 9 ∧ k = 7 then A 8 9 + 1 else A 8 9) = _
    rw [if_neg (by decide), if_pos ⟨rfl, hk⟩]
  refine ⟨fun a ha => ?_, fun a ha => ?_, fun a ha => ?_, fun a ha => ?_⟩
  · by_cases q : a = N
    · subst q
      rw [mk_tN (by decide) (by decide)]
      show Hs (mkA A a s k x y z p) ((s : Int)).toNat (a : Int) = true
      rw [Int.toNat_natCast, mk_Hs hI hm.1.1 hm.1.2 hm.1.2, if_pos ⟨rfl, rfl⟩]
    · rw [e 9 a (by decide) (by decide) (by omega)]
      have h9 := (hI.1.2.2.2.1 a (by omega)).1
      rw [mk_Hs hI hm.1.1 hm.1.2 (by omega)]
      split
      · rfl
      · exact h.1 a (by omega)
  · by_cases q : a = N
    · subst q
      rw [mk_tN (by decide) (by decide), mk_tN (by decide) (by decide)]
      exact h1
    · rw [e 11 a (by decide) (by decide) (by omega), e 14 a (by decide) (by decide) (by omega)]
      exact h.2.1 a (by omega)
  · by_cases q : a = N
    · subst q
      rw [mk_tN (by decide) (by decide), mk_tN (by decide) (by decide)]
      intro hk
      have hk' : k = 7 := hk
      rw [e87 hk']
      show z < _
      rw [h2 hk']; omega
    · rw [e 11 a (by decide) (by decide) (by omega), e 14 a (by decide) (by decide) (by omega)]
      intro hk
      have := h.2.2.1 a (by omega) hk
      omega
  · by_cases q : a = N
    · subst q
      rw [mk_tN (by decide) (by decide), mk_tN (by decide) (by decide), mk_tN (by decide) (by decide)]
      intro hk
      have w := h3 hk
      show mkA A a s k x y z p 9 x.toNat = (s : Int)
      rw [e 9 x.toNat (by decide) (by decide) (by omega)]
      exact w.2
    · rw [e 11 a (by decide) (by decide) (by omega), e 12 a (by decide) (by decide) (by omega), e 9 a (by decide) (by decide) (by omega)]
      intro hk
      have v := (hI.1.2.2.2.1 a (by omega)).2.2.2.2.2.2.2.2.2.2.2.2.2 (by omega)
      rw [e 9 _ (by decide) (by decide) (by omega)]
      exact h.2.2.2 a (by omega) hk
/-- the same tables, and nobody has less -/
theorem JA.more (h : JA A N) (hI : Inv A N nm nv) (e : SaT A B) (hs : ∀ r a, r < 4 → Hs A r a = true → Hs B r a = true) : JA B N := by
  refine ⟨fun a ha => ?_, fun a ha => ?_, fun a ha => ?_, fun a ha => ?_⟩
  · rw [e 9 (by decide) (by decide)]
    have h9 := (hI.1.2.2.2.1 a ha).1
    exact hs _ _ (by omega) (h.1 a ha)
  · rw [e 11 (by decide) (by decide), e 14 (by decide) (by decide)]; exact h.2.1 a ha
  · rw [e 11 (by decide) (by decide), e 14 (by decide) (by decide), e 8 (by decide) (by decide)]; exact h.2.2.1 a ha
  · rw [e 11 (by decide) (by decide), e 12 (by decide) (by decide), e 9 (by decide) (by decide)]; exact h.2.2.2 a ha
theorem undo_same {S R : Int → Bool} {i : Nat} (L : List Int) : ∀ C C' : St, (∀ a, a ∈ L → (S a = true → R a = true) ∧ (R a = true → S a = false → (gt A N 11 (-1) a = 11 ∨ gt A N 11 (-1) a = 12) → (gt A N 12 (-1) a).toNat ≠ i)) → C 9 i = C' 9 i → (L.filter S).foldl (uOne A N) C 9 i = (L.filter R).foldl (uOne A N) C' 9 i := by
  induction L with
  | nil => intro C C' _ h; exact h
  | cons a L ih =>
    intro C C' hL hC
    have h0 := hL a List.mem_cons_self
    have hL' : ∀ b, b ∈ L → _ := fun b hb => hL b (List.mem_cons_of_mem _ hb)
    have one : uOne A N C a 9 i = uOne A N C' a 9 i := by
      unfold uOne
      split
      · rw [st_row, st_row, hC]
      · exact hC
    cases hS : S a with
    | true =>
      rw [List.filter_cons_of_pos hS, List.filter_cons_of_pos (h0.1 hS), List.foldl_cons, List.foldl_cons]
      exact ih _ _ hL' one
    | false =>
      rw [List.filter_cons_of_neg (by rw [hS]; decide)]
      cases hR : R a with
      | false =>
        rw [List.filter_cons_of_neg (by rw [hR]; decide)]
        exact ih _ _ hL' hC
      | true =>
        rw [List.filter_cons_of_pos hR, List.foldl_cons]
        refine ih _ _ hL' ?_
        rw [hC]
        unfold uOne
        split
        · rename_i q
          rw [st_row, if_neg (fun e => h0.2 hR hS q.1 e.symm)]
        · rfl
theorem own_more (h : JA A N) (hI : Inv A N nm nv) (e : SaT A B) (ht : t < 4) (hs : ∀ a, Hs A t a = true → Hs B t a = true) : ownC B N t = ownC A N t := by
  unfold ownC
  refine cnt_congr (fun a ha => ?_)
  have hr := ids_mem.mp ha
  unfold ownB
  rw [e 9 (by decide) (by decide), e 11 (by decide) (by decide), e.doc hI.1]
  by_cases q : A 9 a.toNat = (t : Int)
  · have e9 : (docOf A N (Hs B t)).2 9 a.toNat = (docOf A N (Hs A t)).2 9 a.toNat := by
      unfold docOf docL
      rw [fold_9, fold_9]
      refine (undo_same (OL A N) C0 C0 (fun b hb => ⟨hs b, fun hR hS hk ec => ?_⟩) rfl).symm
      have hb2 := (hI.1.2.2.2.2.1.2 b).mp hb
      rw [gt_i hb2] at hk ec
      have h4 := h.2.2.2 b.toNat (by omega) hk
      have h1 := h.1 b.toNat (by omega)
      rw [ec] at h4
      rw [← h4, q, Int.toNat_natCast, Int.toNat_of_nonneg hb2.1, hS] at h1
      cases h1
    rw [e9]
  · rw [decide_eq_false (fun w => q w.1), decide_eq_false (fun w => q w.1)]
/-- the last one that is not undone -/
theorem uS_fold {D : Dc} (L : List Int) : ∀ acc : Int, (L.foldl (uS A s D) acc = acc ∧ ∀ a, a ∈ L → ¬ (A 9 a.toNat = (s : Int) ∧ A 11 a.toNat ≤ 7 ∧ D.2 9 a.toNat = 0)) ∨ (L.foldl (uS A s D) acc ∈ L ∧ (A 9 (L.foldl (uS A s D) acc).toNat = (s : Int) ∧ A 11 (L.foldl (uS A s D) acc).toNat ≤ 7 ∧ D.2 9 (L.foldl (uS A s D) acc).toNat = 0)) := by
  induction L with
  | nil => intro acc; exact Or.inl ⟨rfl, fun a h => by cases h⟩
  | cons a L ih =>
    intro acc
    rw [List.foldl_cons]
    by_cases q : A 9 a.toNat = (s : Int) ∧ A 11 a.toNat ≤ 7 ∧ D.2 9 a.toNat = 0
    · have e : uS A s D acc a = a := if_pos q
      rw [e]
      rcases ih a with w | w
      · rw [w.1]; exact Or.inr ⟨List.mem_cons_self, q⟩
      · exact Or.inr ⟨List.mem_cons_of_mem _ w.1, w.2⟩
    · have e : uS A s D acc a = acc := if_neg q
      rw [e]
      rcases ih acc with w | w
      · refine Or.inl ⟨w.1, fun b hb => ?_⟩
        rcases List.mem_cons.mp hb with rfl | hb
        · exact q
        · exact w.2 b hb
      · exact Or.inr ⟨List.mem_cons_of_mem _ w.1, w.2⟩
theorem cnt_pos {P : Int → Bool} {L : List Int} (h : 0 < cnt P L) : ∃ a, a ∈ L ∧ P a = true := by
  refine Decidable.byContradiction (fun q => ?_)
  rw [cnt_zero (fun a ha => Bool.eq_false_iff.mpr (fun w => q ⟨a, ha, w⟩))] at h
  omega
theorem own_last (h : JA A N) (hI : Inv A N nm nv) (hs : s < 4) (hp : 0 < ownC A N s) : (0 ≤ lastU A N s ∧ lastU A N s < (N : Int)) ∧ Hs A s (lastU A N s) = true ∧ ownB A N s (lastU A N s) = true := by
  obtain ⟨a, ha, hb⟩ := cnt_pos hp
  have hr := ids_mem.mp ha
  have hb' := of_decide_eq_true hb
  have hin : a ∈ (OL A N).filter (Hs A s) := by
    rw [List.mem_filter, hI.1.2.2.2.2.1.2]
    refine ⟨hr, ?_⟩
    have := h.1 a.toNat (by omega)
    rw [hb'.1, Int.toNat_natCast, Int.toNat_of_nonneg hr.1] at this
    exact this
  rcases uS_fold (A := A) (s := s) (D := docOf A N (Hs A s)) ((OL A N).filter (Hs A s)) (-1) with w | w
  · exact absurd hb' (w.2 a hin)
  · have w1 := List.mem_filter.mp w.1
    have w2 := (hI.1.2.2.2.2.1.2 _).mp w1.1
    exact ⟨w2, w1.2, decide_eq_true w.2⟩
theorem own_cur (hI : In1 A N) (e : SaC A B) (t : Nat) : ownC B N t = ownC A N t := by
  unfold ownC
  refine cnt_congr (fun a _ => ?_)
  unfold ownB
  rw [e.hs, e.t.doc hI, e 9 (by omega), e 11 (by omega)]
theorem JA.cur (h : JA A N) (hI : Inv A N nm nv) (e : SaC A B) : JA B N := h.more hI e.t (fun r a _ w => by rw [e.hs]; exact w)
end OWN
