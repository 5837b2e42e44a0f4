/-! ===== what a document made anew holds ===== -/
section DOCS
variable {T : St} {N : Nat}
theorem dOne_9 (D : Dc) (a : Int) : (dOne T N D a).2 9 = D.2 9 := by
  unfold dOne
  by_cases k01 : gt T N 11 (-1) a = 0 ∨ gt T N 11 (-1) a = 1
  · rw [if_pos k01]
    unfold dPut
    exact (pst (by decide)).trans ((st_fn (by decide)).trans (st_fn (by decide)))
  rw [if_neg k01]
  by_cases z0 : num a ∧ D.2 9 a.toNat ≠ 0
  · rw [if_pos z0]
  rw [if_neg z0]
  by_cases z2 : gt T N 11 (-1) a = 2
  · rw [if_pos z2]; unfold dRem
    split
    · split
      · exact pst (by decide)
      · exact pst (by decide)
    · rfl
  rw [if_neg z2]
  by_cases z3 : gt T N 11 (-1) a = 3
  · rw [if_pos z3]; unfold dRes
    split
    · exact pst (by decide)
    · rfl
  rw [if_neg z3]
  by_cases z4 : gt T N 11 (-1) a = 4
  · rw [if_pos z4]; exact dPnt_ne _ _ _ _ _ _ _ _ _ _ (by decide)
  rw [if_neg z4]
  by_cases z5 : gt T N 11 (-1) a = 5
  · rw [if_pos z5]; unfold dKind
    split
    · exact pst (by decide)
    · rfl
  rw [if_neg z5]
  by_cases z6 : gt T N 11 (-1) a = 6
  · rw [if_pos z6]; unfold dNest
    split
    · exact pst (by decide)
    · rfl
  rw [if_neg z6]
  by_cases z7 : gt T N 11 (-1) a = 7
  · rw [if_pos z7]; exact dPnt_ne _ _ _ _ _ _ _ _ _ _ (by decide)
  rw [if_neg z7]
  have hs : ∀ ok, (dSet T N D a ok).2 9 = D.2 9 := by
    intro ok
    unfold dSet
    split
    · split
      · exact pst (by decide)
      · exact (pst (by decide)).trans (st_fn (by decide))
    · rfl
  by_cases z8 : gt T N 11 (-1) a = 8
  · rw [if_pos z8]; exact hs true
  rw [if_neg z8]
  by_cases z9 : gt T N 11 (-1) a = 9
  · rw [if_pos z9]; exact hs false
  rw [if_neg z9]
  by_cases z10 : gt T N 11 (-1) a = 10
  · rw [if_pos z10]; unfold dLevel
    split
    · exact pst (by omega)
    · rfl
  rw [if_neg z10]
theorem dOne_8 (D : Dc) {a : Int} (ha : 0 ≤ a) (i : Nat) (h : (dOne T N D a).2 8 i ≠ 0) : D.2 8 i ≠ 0 ∨ (i : Int) = a := by
  have same : (dOne T N D a).2 8 i = D.2 8 i → D.2 8 i ≠ 0 ∨ (i : Int) = a := fun q => Or.inl (by rw [← q]; exact h)
  revert same h
  unfold dOne
  by_cases k01 : gt T N 11 (-1) a = 0 ∨ gt T N 11 (-1) a = 1
  · rw [if_pos k01]; intro h same
    refine same ?_
    unfold dPut
    exact congrFun ((pst (by decide)).trans ((st_fn (by decide)).trans (st_fn (by decide)))) i
  rw [if_neg k01]
  by_cases z0 : num a ∧ D.2 9 a.toNat ≠ 0
  · rw [if_pos z0]; intro h same; exact same rfl
  rw [if_neg z0]
  by_cases z2 : gt T N 11 (-1) a = 2
  · rw [if_pos z2]; unfold dRem
    split
    · split
      · intro h same; exact same (congrFun (pst (by decide)) i)
      · intro h same
        have h' : st D.2 8 a.toNat 1 8 i ≠ 0 := h
        rw [st_row] at h'
        by_cases q : i = a.toNat
        · exact Or.inr (by omega)
        · rw [if_neg q] at h'; exact Or.inl h'
    · intro h same; exact same rfl
  rw [if_neg z2]
  by_cases z3 : gt T N 11 (-1) a = 3
  · rw [if_pos z3]; unfold dRes
    split
    · intro h same; exact same (congrFun (pst (by decide)) i)
    · intro h same; exact same rfl
  rw [if_neg z3]
  by_cases z4 : gt T N 11 (-1) a = 4
  · rw [if_pos z4]; intro h same; exact same (congrFun (dPnt_ne _ _ _ _ _ _ _ _ _ _ (by decide)) i)
  rw [if_neg z4]
  by_cases z5 : gt T N 11 (-1) a = 5
  · rw [if_pos z5]; unfold dKind
    split
    · intro h same; exact same (congrFun (pst (by decide)) i)
    · intro h same; exact same rfl
  rw [if_neg z5]
  by_cases z6 : gt T N 11 (-1) a = 6
  · rw [if_pos z6]; unfold dNest
    split
    · intro h same; exact same (congrFun (pst (by decide)) i)
    · intro h same; exact same rfl
  rw [if_neg z6]
  by_cases z7 : gt T N 11 (-1) a = 7
  · rw [if_pos z7]; intro h same; exact same (congrFun (dPnt_ne _ _ _ _ _ _ _ _ _ _ (by decide)) i)
  rw [if_neg z7]
  have hs : ∀ ok, (dSet T N D a ok).2 8 i ≠ 0 → D.2 8 i ≠ 0 ∨ (i : Int) = a := by
    intro ok
    unfold dSet
    split
    · split
      · intro h
        have h' : st D.2 4 (gt T N 12 (-1) a).toNat (if ok = true then 1 else 3) 8 i ≠ 0 := h
        rw [st_ne (by decide)] at h'; exact Or.inl h'
      · intro h
        have h' : st (st D.2 8 (gt T N 12 (-1) a).toNat 0) 6 (elemOf T N (gt T N 12 (-1) a)).toNat (if D.2 6 (elemOf T N (gt T N 12 (-1) a)).toNat ≠ 0 ∨ ok = true then 1 else 0) 8 i ≠ 0 := h
        rw [st_ne (by decide), st_row] at h'
        by_cases q : i = (gt T N 12 (-1) a).toNat
        · rw [if_pos q] at h'; exact absurd rfl h'
        · rw [if_neg q] at h'; exact Or.inl h'
    · intro h; exact Or.inl h
  by_cases z8 : gt T N 11 (-1) a = 8
  · rw [if_pos z8]; intro h _; exact hs true h
  rw [if_neg z8]
  by_cases z9 : gt T N 11 (-1) a = 9
  · rw [if_pos z9]; intro h _; exact hs false h
  rw [if_neg z9]
  by_cases z10 : gt T N 11 (-1) a = 10
  · rw [if_pos z10]; unfold dLevel
    split
    · intro h same; exact same (congrFun (pst (by omega)) i)
    · intro h same; exact same rfl
  rw [if_neg z10]
  intro h same; exact same rfl
theorem fold_9 (L : List Int) : ∀ D : Dc, (L.foldl (dOne T N) D).2 9 = D.2 9 := by
  induction L with
  | nil => intro D; rfl
  | cons x L ih => intro D; rw [List.foldl_cons, ih, dOne_9]
theorem fold_8 (L : List Int) : ∀ (D : Dc) (i : Nat), (∀ x, x ∈ L → 0 ≤ x) → (L.foldl (dOne T N) D).2 8 i ≠ 0 → D.2 8 i ≠ 0 ∨ (i : Int) ∈ L := by
  induction L with
  | nil => intro D i _ h; exact Or.inl h
  | cons x L ih =>
    intro D i hx h
    rw [List.foldl_cons] at h
    rcases ih _ i (fun y hy => hx y (List.mem_cons_of_mem _ hy)) h with q | q
    · rcases dOne_8 D (hx x List.mem_cons_self) i q with q2 | q2
      · exact Or.inl q2
      · exact Or.inr (by rw [q2]; exact List.mem_cons_self)
    · exact Or.inr (List.mem_cons_of_mem _ q)
/-- what is known of the document of a closed set -/
def DK (T : St) (N : Nat) (S : Int → Bool) (D : Dc) : Prop := DI T N D ∧ (∀ x, x ∈ D.1 ↔ x ∈ (OL T N).filter S ∧ mkE T N x = true) ∧ (∀ i, D.2 8 i ≠ 0 → (i : Int) ∈ (OL T N).filter S) ∧ (∀ i, D.2 9 i = ((OL T N).filter S).foldl (uOne T N) C0 9 i) ∧ D.1.length ≤ N
theorem doc_ok {S : Int → Bool} (hv : TV T N) (hs : TS T N) (hk : TK T N) (hc : clo T N S) (hN : N ≤ 160) : DK T N S (docOf T N S) := by
  have hUne : ∀ q, q ≠ 9 → ((OL T N).filter S).foldl (uOne T N) C0 q = C0 q := fun q hq => uFold_ne hq _ C0
  have hUb := uFold_b (T := T) (N := N) ((OL T N).filter S) C0 (fun i => Or.inl rfl)
  have wk := walk hv hs hk hc hN _ hUne hUb ((OL T N).filter S) [] (List.append_nil _).symm
  refine ⟨wk.1, wk.2.1, fun i hi => ?_, fun i => congrFun (fold_9 _ _) i, ?_⟩
  · rcases fold_8 _ _ i (fun x hx => by rw [List.mem_filter, hs.2] at hx; exact hx.1.1) hi with q | q
    · exfalso
      have q' : ((OL T N).filter S).foldl (uOne T N) C0 8 i ≠ 0 := q
      rw [hUne 8 (by decide)] at q'
      exact q' rfl
    · exact q
  · have h1 := wk.2.2.1
    have h2 : ((OL T N).filter S).length ≤ (OL T N).length := List.length_filter_le _ _
    have h3 : (OL T N).length = N := seg_len _ _ _
    show (((OL T N).filter S).foldl (dOne T N) ([], ((OL T N).filter S).foldl (uOne T N) C0)).1.length ≤ N
    omega
end DOCS
/-! ===== as the book grows ===== -/
section EXT
variable {T U : St} {N M : Nat}
def ExT (T U : St) (N M : Nat) : Prop := N ≤ M ∧ ∀ k, 9 ≤ k → k ≤ 15 → ∀ i, i < N → U k i = T k i
theorem ExT.g (h : ExT T U N M) {r : Nat} {d x : Int} (h1 : 9 ≤ r) (h2 : r ≤ 15) (hx : x < (N : Int)) : gt U M r d x = gt T N r d x := by
  unfold gt
  by_cases q : 0 ≤ x
  · rw [if_pos ⟨q, by have := h.1; omega⟩, if_pos ⟨q, hx⟩, h.2 r h1 h2 _ (by omega)]
  · rw [if_neg (by omega), if_neg (by omega)]
theorem ExT.m (h : ExT T U N M) {x : Int} (hx : x < (N : Int)) : mkE U M x = mkE T N x := by
  unfold mkE
  by_cases q : 0 ≤ x
  · rw [h.2 11 (by decide) (by decide) _ (by omega)]
    have e : ((0 ≤ x ∧ x < (M : Int)) ∧ (T 11 x.toNat = 0 ∨ T 11 x.toNat = 1)) = ((0 ≤ x ∧ x < (N : Int)) ∧ (T 11 x.toNat = 0 ∨ T 11 x.toNat = 1)) := propext ⟨fun z => ⟨⟨q, hx⟩, z.2⟩, fun z => ⟨⟨q, by have := h.1; omega⟩, z.2⟩⟩
    exact decide_eq_decide.mpr (iff_of_eq e)
  · exact decide_eq_decide.mpr ⟨fun z => absurd z.1.1 q, fun z => absurd z.1.1 q⟩
theorem ExT.one (h : ExT T U N M) (hv : TV T N) {a : Int} (ha : 0 ≤ a ∧ a < (N : Int)) (D : Dc) : dOne U M D a = dOne T N D a := by
  have e9 := h.g (r := 9) (d := -1) (by decide) (by decide) ha.2
  have e11 := h.g (r := 11) (d := -1) (by decide) (by decide) ha.2
  have e12 := h.g (r := 12) (d := -1) (by decide) (by decide) ha.2
  have e13 := h.g (r := 13) (d := -1) (by decide) (by decide) ha.2
  have e14 := h.g (r := 14) (d := 0) (by decide) (by decide) ha.2
  have e15 := h.g (r := 15) (d := 0) (by decide) (by decide) ha.2
  have eL : ∀ e, dLv U M D a e = dLv T N D a e := fun e => by unfold dLv; rw [e9]
  have hva := hv a.toNat (by omega)
  unfold dOne
  rw [e11]
  by_cases k01 : gt T N 11 (-1) a = 0 ∨ gt T N 11 (-1) a = 1
  · rw [if_pos k01, if_pos k01]
    unfold dPut dAt dSt
    rw [e12, e11, e15, eL]
  rw [if_neg k01, if_neg k01]
  by_cases z0 : num a ∧ D.2 9 a.toNat ≠ 0
  · rw [if_pos z0, if_pos z0]
  rw [if_neg z0, if_neg z0]
  by_cases z2 : gt T N 11 (-1) a = 2
  · rw [if_pos z2, if_pos z2]
    have hf : gt T N 12 (-1) a < (N : Int) := by
      rw [gt_i ha] at z2 ⊢
      have := (hva.2.2.2.2.2.2.1 (Or.inl z2)).2.1
      omega
    have ef := h.g (r := 9) (d := -1) (by decide) (by decide) hf
    unfold dRem
    rw [e12, e9, e15, ef, eL]
  rw [if_neg z2, if_neg z2]
  by_cases z3 : gt T N 11 (-1) a = 3
  · rw [if_pos z3, if_pos z3]; unfold dRes; rw [e12, eL]
  rw [if_neg z3, if_neg z3]
  by_cases z4 : gt T N 11 (-1) a = 4
  · rw [if_pos z4, if_pos z4]; unfold dPaint; rw [e9, e11, e12, e13, e14, e15]
  rw [if_neg z4, if_neg z4]
  by_cases z5 : gt T N 11 (-1) a = 5
  · rw [if_pos z5, if_pos z5]; unfold dKind; rw [e9, e12, e14]
  rw [if_neg z5, if_neg z5]
  by_cases z6 : gt T N 11 (-1) a = 6
  · rw [if_pos z6, if_pos z6]; unfold dNest; rw [e9, e12, e13]
  rw [if_neg z6, if_neg z6]
  by_cases z7 : gt T N 11 (-1) a = 7
  · rw [if_pos z7, if_pos z7]; unfold dPaint; rw [e9, e11, e12, e13, e14]
  rw [if_neg z7, if_neg z7]
  have hs : gt T N 11 (-1) a = 8 ∨ gt T N 11 (-1) a = 9 → ∀ ok, dSet U M D a ok = dSet T N D a ok := by
    intro hk ok
    have hf : gt T N 12 (-1) a < (N : Int) := by
      rw [gt_i ha] at hk ⊢
      have := hva.2.2.2.2.2.2.2.2.2.2.2.2.2 (by omega)
      omega
    have ef := h.g (r := 12) (d := -1) (by decide) (by decide) hf
    have em := h.m hf
    have eE : elemOf U M (gt T N 12 (-1) a) = elemOf T N (gt T N 12 (-1) a) := by unfold elemOf; rw [em, ef]
    have eO : openB U M D (gt T N 12 (-1) a) = openB T N D (gt T N 12 (-1) a) := by unfold openB; rw [ef]
    unfold dSet
    rw [e12, eE, eO, eL]
  by_cases z8 : gt T N 11 (-1) a = 8
  · rw [if_pos z8, if_pos z8]; exact hs (Or.inl z8) true
  rw [if_neg z8, if_neg z8]
  by_cases z9 : gt T N 11 (-1) a = 9
  · rw [if_pos z9, if_pos z9]; exact hs (Or.inr z9) false
  rw [if_neg z9, if_neg z9]
  by_cases z10 : gt T N 11 (-1) a = 10
  · rw [if_pos z10, if_pos z10]; unfold dLevel; rw [e12, e13, e14]
  rw [if_neg z10, if_neg z10]
theorem ExT.u (h : ExT T U N M) {a : Int} (ha : a < (N : Int)) (C : St) : uOne U M C a = uOne T N C a := by
  unfold uOne
  rw [h.g (r := 11) (d := -1) (by decide) (by decide) ha, h.g (r := 12) (d := -1) (by decide) (by decide) ha]
theorem ExT.fold (h : ExT T U N M) (hv : TV T N) (L : List Int) : ∀ D, (∀ x, x ∈ L → 0 ≤ x ∧ x < (N : Int)) → L.foldl (dOne U M) D = L.foldl (dOne T N) D := by
  induction L with
  | nil => intro D _; rfl
  | cons x L ih => intro D hx; rw [List.foldl_cons, List.foldl_cons, h.one hv (hx x List.mem_cons_self), ih _ (fun y hy => hx y (List.mem_cons_of_mem _ hy))]
theorem ExT.ufold (h : ExT T U N M) (L : List Int) : ∀ C, (∀ x, x ∈ L → 0 ≤ x ∧ x < (N : Int)) → L.foldl (uOne U M) C = L.foldl (uOne T N) C := by
  induction L with
  | nil => intro D _; rfl
  | cons x L ih => intro D hx; rw [List.foldl_cons, List.foldl_cons, h.u (hx x List.mem_cons_self).2, ih _ (fun y hy => hx y (List.mem_cons_of_mem _ hy))]
theorem ExT.doc (h : ExT T U N M) (hv : TV T N) {L : List Int} (hx : ∀ x, x ∈ L → 0 ≤ x ∧ x < (N : Int)) : docL U M L = docL T N L := by
  unfold docL
  rw [h.ufold L _ hx, h.fold hv L _ hx]
theorem ExT.docA (h : ExT T U N M) (hv : TV T N) {L : List Int} (hx : ∀ x, x ∈ L → 0 ≤ x ∧ x < (N : Int)) {a : Int} (hk : ¬ (gt U M 11 (-1) a = 11 ∨ gt U M 11 (-1) a = 12)) : docL U M (L ++ [a]) = dOne U M (docL T N L) a := by
  rw [← h.doc hv hx]
  unfold docL
  rw [List.foldl_append, List.foldl_append]
  show dOne U M (L.foldl (dOne U M) ([], uOne U M (L.foldl (uOne U M) C0) a)) a = _
  have : uOne U M (L.foldl (uOne U M) C0) a = L.foldl (uOne U M) C0 := if_neg (fun z => hk z.1)
  rw [this]
/-- the order of the acts of a set -/
theorem ExT.k (h : ExT T U N M) {x : Int} (hx : 0 ≤ x ∧ x < (N : Int)) : key U x = key T x := by
  unfold key
  rw [h.2 10 (by decide) (by decide) _ (by omega), h.2 9 (by decide) (by decide) _ (by omega)]
theorem filt_eq (h : ExT T U N M) (hs : TS T N) (hu : TS U M) {S R : Int → Bool} (h1 : ∀ x, 0 ≤ x → x < (N : Int) → R x = S x) (h2 : ∀ x, (N : Int) ≤ x → x < (M : Int) → R x = false) : (OL U M).filter R = (OL T N).filter S := by
  refine sorted_unique (k := key U) _ _ (List.Pairwise.filter _ hu.1) ?_ (fun x => ?_)
  · refine List.Pairwise.imp_of_mem ?_ (List.Pairwise.filter S hs.1)
    intro x y hx hy hxy
    rw [List.mem_filter, hs.2] at hx hy
    rw [h.k hx.1, h.k hy.1]; exact hxy
  · rw [List.mem_filter, List.mem_filter, hu.2, hs.2]
    have := h.1
    constructor
    · rintro ⟨⟨q1, q2⟩, q3⟩
      by_cases q : x < (N : Int)
      · exact ⟨⟨q1, q⟩, by rw [← h1 x q1 q]; exact q3⟩
      · rw [h2 x (by omega) q2] at q3; cases q3
    · rintro ⟨⟨q1, q2⟩, q3⟩
      exact ⟨⟨q1, by omega⟩, by rw [h1 x q1 q2]; exact q3⟩
theorem filt_app (h : ExT T U N (N + 1)) (hs : TS T N) (hu : TS U (N + 1)) {S R : Int → Bool} (h1 : ∀ x, 0 ≤ x → x < (N : Int) → R x = S x) (h2 : R (N : Int) = true) (h3 : ∀ x, 0 ≤ x → x < (N : Int) → S x = true → key T x < key U (N : Int)) : (OL U (N + 1)).filter R = (OL T N).filter S ++ [(N : Int)] := by
  refine sorted_unique (k := key U) _ _ (List.Pairwise.filter _ hu.1) ?_ (fun x => ?_)
  · rw [List.pairwise_append]
    refine ⟨?_, List.pairwise_cons.mpr ⟨fun _ z => (nomatch z), List.Pairwise.nil⟩, fun x hx y hy => ?_⟩
    · refine List.Pairwise.imp_of_mem ?_ (List.Pairwise.filter S hs.1)
      intro x y hx hy hxy
      rw [List.mem_filter, hs.2] at hx hy
      rw [h.k hx.1, h.k hy.1]; exact hxy
    · rw [List.mem_filter, hs.2] at hx
      rcases List.mem_cons.mp hy with q | q
      · rw [q, h.k hx.1]; exact h3 x hx.1.1 hx.1.2 hx.2
      · cases q
  · rw [List.mem_append, List.mem_filter, List.mem_filter, hu.2, hs.2, List.mem_singleton]
    constructor
    · rintro ⟨⟨q1, q2⟩, q3⟩
      by_cases q : x < (N : Int)
      · exact Or.inl ⟨⟨q1, q⟩, by rw [← h1 x q1 q]; exact q3⟩
      · exact Or.inr (by omega)
    · rintro (⟨⟨q1, q2⟩, q3⟩ | q)
      · exact ⟨⟨q1, by omega⟩, by rw [h1 x q1 q2]; exact q3⟩
      · rw [q]; exact ⟨⟨by omega, by omega⟩, h2⟩
end EXT

