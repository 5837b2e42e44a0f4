/-! ===== the reference's document of a set ===== -/
/-- each act's named acts are there, and come ahead of it -/
def clo (T : St) (N : Nat) (S : Int → Bool) : Prop := ∀ a, a < N → S (a : Int) = true → ((T 11 a = 0 ∨ T 11 a = 1) → 0 ≤ T 12 a → S (T 12 a) = true) ∧ ((T 11 a = 2 ∨ T 11 a = 3 ∨ T 11 a = 4 ∨ T 11 a = 7 ∨ T 11 a = 8 ∨ T 11 a = 9 ∨ T 11 a = 11 ∨ T 11 a = 12) → S (T 12 a) = true) ∧ ((T 11 a = 4 ∨ T 11 a = 7) → S (T 13 a) = true)
def TK (T : St) (N : Nat) : Prop := ∀ a, a < N → ((T 11 a = 0 ∨ T 11 a = 1) → 0 ≤ T 12 a → key T (T 12 a) < key T (a : Int)) ∧ ((T 11 a = 2 ∨ T 11 a = 3 ∨ T 11 a = 4 ∨ T 11 a = 7 ∨ T 11 a = 8 ∨ T 11 a = 9 ∨ T 11 a = 11 ∨ T 11 a = 12) → key T (T 12 a) < key T (a : Int)) ∧ ((T 11 a = 4 ∨ T 11 a = 7) → key T (T 13 a) < key T (a : Int))
theorem dOne_mem {T : St} {N a : Nat} {D : Dc} (ha : a < N) (x : Int) : x ∈ (dOne T N D (a : Int)).1 ↔ x ∈ D.1 ∨ (x = (a : Int) ∧ mkE T N (a : Int) = true) := by
  by_cases k01 : T 11 a = 0 ∨ T 11 a = 1
  · have hm : mkE T N (a : Int) = true := decide_eq_true ⟨by omega, by rw [Int.toNat_natCast]; exact k01⟩
    unfold dOne
    rw [gt_n ha, if_pos k01]
    unfold dPut
    rw [insA_mem]
    constructor
    · rintro (q | q)
      · exact Or.inr ⟨q, hm⟩
      · exact Or.inl q
    · rintro (q | q)
      · exact Or.inr q
      · exact Or.inl q.1
  · have hm : mkE T N (a : Int) = false := decide_eq_false (fun z => k01 (by have := z.2; rw [Int.toNat_natCast] at this; exact this))
    have e : (dOne T N D (a : Int)).1 = D.1 := by
      rcases dOne_row T N D (a : Int) with q | q
      · exact q
      · exfalso
        have hlen : (dOne T N D (a : Int)).1.length = D.1.length := by
          unfold dOne
          rw [gt_n ha, if_neg k01]
          unfold dRem dRes dKind dNest dSet dLevel dPaint
          by_cases z0 : num (a : Int) ∧ D.2 9 (a : Int).toNat ≠ 0
          · rw [if_pos z0]
          rw [if_neg z0]
          by_cases z2 : T 11 a = 2
          · rw [if_pos z2]
            split
            · split <;> rfl
            · rfl
          rw [if_neg z2]
          by_cases z3 : T 11 a = 3
          · rw [if_pos z3]; split <;> rfl
          rw [if_neg z3]
          by_cases z4 : T 11 a = 4
          · rw [if_pos z4]
          rw [if_neg z4]
          by_cases z5 : T 11 a = 5
          · rw [if_pos z5]; split <;> rfl
          rw [if_neg z5]
          by_cases z6 : T 11 a = 6
          · rw [if_pos z6]; split <;> rfl
          rw [if_neg z6]
          by_cases z7 : T 11 a = 7
          · rw [if_pos z7]
          rw [if_neg z7]
          by_cases z8 : T 11 a = 8
          · rw [if_pos z8]
            split
            · split <;> rfl
            · rfl
          rw [if_neg z8]
          by_cases z9 : T 11 a = 9
          · rw [if_pos z9]
            split
            · split <;> rfl
            · rfl
          rw [if_neg z9]
          by_cases z10 : T 11 a = 10
          · rw [if_pos z10]; split <;> rfl
          rw [if_neg z10]
        rw [q, insA_len (dAt_le T N D (a : Int))] at hlen
        omega
    rw [e, hm]
    exact ⟨Or.inl, fun z => z.elim id (fun y => by exact Bool.noConfusion y.2)⟩
section FIND
variable {T : St} {N : Nat}
theorem AC0 : AC (C0 11) := ⟨fun _ => 0, fun b h1 h2 h3 h4 => by
  exfalso
  have e : C0 11 (b + 1).toNat = -2 := by
    show (if 11 = 11 then (if (b + 1).toNat < 161 then -2 else 0) else 0) = (-2 : Int)
    rw [if_pos rfl, if_pos (by omega)]
  omega⟩
theorem C0_z {k : Nat} (h : k ≠ 11) (i : Nat) : C0 k i = 0 := if_neg h
theorem DI0 (U : St) (hU : ∀ q, q ≠ 9 → U q = C0 q) (hb : ∀ i, isB (U 9 i)) : DI T N ([], U) := by
  refine ⟨List.nodup_nil, fun x hx => (by cases hx), fun x hx => (by cases hx), fun i _ => ?_, fun i => ?_, fun i => ?_, hb, fun b hbb => ?_, ?_⟩
  · show U 4 i = 0 ∧ U 5 i = 0
    rw [hU 4 (by decide), hU 5 (by decide)]; exact ⟨rfl, rfl⟩
  · show isB (U 8 i) ∧ (U 8 i ≠ 0 → _)
    rw [hU 8 (by decide)]; exact ⟨Or.inl rfl, fun z => absurd rfl z⟩
  · show isB (U 6 i)
    rw [hU 6 (by decide)]; exact Or.inl rfl
  · refine Or.inl ?_
    show U 11 b = -2
    rw [hU 11 (by decide)]
    show (if 11 = 11 then (if b < 161 then -2 else 0) else 0) = (-2 : Int)
    rw [if_pos rfl, if_pos hbb]
  · show AC (U 11)
    rw [hU 11 (by decide)]; exact AC0
/-- along the order, every act is as it must be -/
theorem walk {S : Int → Bool} (hv : TV T N) (hs : TS T N) (hk : TK T N) (hc : clo T N S) (hN : N ≤ 160) (U : St) (hU : ∀ q, q ≠ 9 → U q = C0 q) (hb : ∀ i, isB (U 9 i)) :
    ∀ (L1 L2 : List Int), (OL T N).filter S = L1 ++ L2 → DI T N (L1.foldl (dOne T N) ([], U)) ∧ (∀ x, x ∈ (L1.foldl (dOne T N) ([], U)).1 ↔ x ∈ L1 ∧ mkE T N x = true) ∧ (L1.foldl (dOne T N) ([], U)).1.length ≤ L1.length ∧ (∀ x L3, L2 = x :: L3 → (0 ≤ x ∧ x < (N : Int)) ∧ pre T N (L1.foldl (dOne T N) ([], U)) x.toNat) := by
  intro L1
  -- what comes ahead
  have ahead : ∀ (L1 : List Int) (x : Int) (L3 : List Int), (OL T N).filter S = L1 ++ x :: L3 → (0 ≤ x ∧ x < (N : Int)) ∧ S x = true ∧ x ∉ L1 ∧ (∀ y, 0 ≤ y → y < (N : Int) → S y = true → key T y < key T x → y ∈ L1) ∧ L1.length < N := by
    intro L1 x L3 he
    have hx : x ∈ (OL T N).filter S := by rw [he, List.mem_append]; exact Or.inr List.mem_cons_self
    rw [List.mem_filter, hs.2] at hx
    have hp : (L1 ++ x :: L3).Pairwise (fun x y => key T x < key T y) := by rw [← he]; exact List.Pairwise.filter _ hs.1
    rw [List.pairwise_append, List.pairwise_cons] at hp
    refine ⟨hx.1, hx.2, fun z => ?_, fun y h1 h2 h3 h4 => ?_, ?_⟩
    · have := hp.2.2 x z x List.mem_cons_self; omega
    · have hy : y ∈ (OL T N).filter S := by rw [List.mem_filter, hs.2]; exact ⟨⟨h1, h2⟩, h3⟩
      rw [he, List.mem_append, List.mem_cons] at hy
      rcases hy with q | q | q
      · exact q
      · subst q; omega
      · have := hp.2.1.1 y q; omega
    · have hl : ((OL T N).filter S).length ≤ (OL T N).length := List.length_filter_le _ _
      rw [he, List.length_append, List.length_cons] at hl
      have : (OL T N).length = N := seg_len _ _ _
      omega
  have prex : ∀ (L1 : List Int) (D : Dc), (∀ x, x ∈ D.1 ↔ x ∈ L1 ∧ mkE T N x = true) → D.1.length ≤ L1.length → ∀ x L3, (OL T N).filter S = L1 ++ x :: L3 → pre T N D x.toNat := by
    intro L1 D hm hl x L3 he
    obtain ⟨h1, h2, h3, h4, h5⟩ := ahead L1 x L3 he
    have hxx : ((x.toNat : Nat) : Int) = x := Int.toNat_of_nonneg h1.1
    have hvx := hv x.toNat (by omega)
    have hkx := hk x.toNat (by omega)
    have hcx := hc x.toNat (by omega) (by rw [hxx]; exact h2)
    rw [hxx] at hkx
    refine ⟨fun k01 => ⟨?_, ?_, by omega⟩, fun k23 => ?_, fun k47 => ⟨?_, ?_⟩, fun k89 => ⟨fun hmk => ?_, fun k2 => ?_⟩⟩
    · have v := hvx.2.2.2.2.2.1 k01
      by_cases q : T 12 x.toNat = -1
      · exact Or.inl q
      · have q0 : 0 ≤ T 12 x.toNat := by omega
        exact Or.inr ((hm _).mpr ⟨h4 _ q0 (by omega) (hcx.1 k01 q0) (hkx.1 k01 q0), v.2.2 q0⟩)
    · rw [hxx]; exact fun z => h3 ((hm x).mp z).1
    · have v := hvx.2.2.2.2.2.2.1 k23
      exact (hm _).mpr ⟨h4 _ v.1 (by omega) (hcx.2.1 (by omega)) (hkx.2.1 (by omega)), v.2.2⟩
    · have v := hvx.2.2.2.2.2.2.2.1 k47
      exact (hm _).mpr ⟨h4 _ v.1 (by omega) (hcx.2.1 (by omega)) (hkx.2.1 (by omega)), v.2.2.1⟩
    · have v := hvx.2.2.2.2.2.2.2.1 k47
      exact (hm _).mpr ⟨h4 _ v.2.2.2.1 (by omega) (hcx.2.2 k47) (hkx.2.2 k47), v.2.2.2.2.2⟩
    · have v := hvx.2.2.2.2.2.2.2.2.2.2.2.2.2 (by omega)
      exact (hm _).mpr ⟨h4 _ v.1 (by omega) (hcx.2.1 (by omega)) (hkx.2.1 (by omega)), hmk⟩
    · have v := hvx.2.2.2.2.2.2.2.2.2.2.2.2.2 (by omega)
      have hS := hcx.2.1 (by omega)
      have hK := hkx.2.1 (by omega)
      have hpp : (((T 12 x.toNat).toNat : Nat) : Int) = T 12 x.toNat := Int.toNat_of_nonneg v.1
      have v2 := (hv (T 12 x.toNat).toNat (by omega)).2.2.2.2.2.2.1 (Or.inl k2)
      have c2 := (hc (T 12 x.toNat).toNat (by omega) (by rw [hpp]; exact hS)).2.1 (by omega)
      have k2' := (hk (T 12 x.toNat).toNat (by omega)).2.1 (by omega)
      rw [hpp] at k2'
      exact (hm _).mpr ⟨h4 _ v2.1 (by omega) c2 (by omega), v2.2.2⟩
  -- along the list
  have main : ∀ (R L0 : List Int), (∀ L2, (OL T N).filter S = L0 ++ (R ++ L2) → DI T N (L0.foldl (dOne T N) ([], U)) → (∀ x, x ∈ (L0.foldl (dOne T N) ([], U)).1 ↔ x ∈ L0 ∧ mkE T N x = true) → (L0.foldl (dOne T N) ([], U)).1.length ≤ L0.length →
      DI T N ((L0 ++ R).foldl (dOne T N) ([], U)) ∧ (∀ x, x ∈ ((L0 ++ R).foldl (dOne T N) ([], U)).1 ↔ x ∈ L0 ++ R ∧ mkE T N x = true) ∧ ((L0 ++ R).foldl (dOne T N) ([], U)).1.length ≤ (L0 ++ R).length) := by
    intro R
    induction R with
    | nil => intro L0 L2 _ h1 h2 h3; rw [List.append_nil]; exact ⟨h1, h2, h3⟩
    | cons x R ih =>
      intro L0 L2 he h1 h2 h3
      have hp := prex L0 _ h2 h3 x (R ++ L2) he
      have hx := (ahead L0 x (R ++ L2) he).1
      have hxx : ((x.toNat : Nat) : Int) = x := Int.toNat_of_nonneg hx.1
      have e : (L0 ++ [x]).foldl (dOne T N) ([], U) = dOne T N (L0.foldl (dOne T N) ([], U)) x := by rw [List.foldl_append]; rfl
      have h1' : DI T N (dOne T N (L0.foldl (dOne T N) ([], U)) x) := by
        have := h1.one hv hN (a := x.toNat) (by omega) hp
        rw [hxx] at this; exact this
      have h2' : ∀ y, y ∈ (dOne T N (L0.foldl (dOne T N) ([], U)) x).1 ↔ y ∈ L0 ++ [x] ∧ mkE T N y = true := by
        intro y
        have := dOne_mem (T := T) (D := L0.foldl (dOne T N) ([], U)) (a := x.toNat) (N := N) (by omega) y
        rw [hxx] at this
        rw [this, h2, List.mem_append]
        constructor
        · rintro (z | z)
          · exact ⟨Or.inl z.1, z.2⟩
          · rw [z.1]; exact ⟨Or.inr List.mem_cons_self, z.2⟩
        · rintro ⟨z | z, w⟩
          · exact Or.inl ⟨z, w⟩
          · rcases List.mem_cons.mp z with q | q
            · rw [q] at w ⊢; exact Or.inr ⟨rfl, w⟩
            · cases q
      have h3' : (dOne T N (L0.foldl (dOne T N) ([], U)) x).1.length ≤ (L0 ++ [x]).length := by
        have := (dOne_ok (T := T) (N := N) (D := L0.foldl (dOne T N) ([], U)) (a := x) (fun y hy => (h1.row hN hy).1) ⟨hx.1, by omega⟩).2
        rw [List.length_append]
        show _ ≤ L0.length + 1
        omega
      rw [← e] at h1' h2' h3'
      have := ih (L0 ++ [x]) L2 (by rw [he, List.append_assoc]; rfl) h1' h2' h3'
      rw [List.append_assoc] at this
      exact this
  intro L2 he
  have h0 := main L1 [] L2 he (DI0 U hU hb) (fun x => ⟨fun z => (nomatch z), fun z => (nomatch z.1)⟩) (Nat.le_refl _)
  rw [List.nil_append] at h0
  refine ⟨h0.1, h0.2.1, h0.2.2, fun x L3 hL => ?_⟩
  rw [hL] at he
  exact ⟨(ahead L1 x L3 he).1, prex L1 _ h0.2.1 h0.2.2 x L3 he⟩
def FrF (σ σ2 : St) : Prop := ∀ a b, (a < 259 ∨ 272 < a) → (a ≠ 230 ∨ (b ≠ 29 ∧ b ≠ 32)) → σ2 a b = σ a b
theorem FrF.ofO {σ σ2 : St} (h : FrO σ σ2) : FrF σ σ2 := fun a b h1 h2 => h a b (by omega) (by omega)
theorem FrF.ofD {σ σ2 : St} (h : FrD σ σ2) : FrF σ σ2 := fun a b h1 h2 => h a b (by omega) (by omega)
theorem FrF.tr {σ σ2 σ3 : St} (h : FrF σ σ2) (h2 : FrF σ2 σ3) : FrF σ σ3 := fun a b h3 h4 => (h2 a b h3 h4).trans (h a b h3 h4)
variable {σ : St} {n o fr : Nat}
theorem r_finds (hr : RT T σ N) (hv : TV T N) (hs : TS T N) (hk : TK T N) (hN : N ≤ 160) (hn : 700 ≤ n) (ho : o < 259 ∨ 272 < o) (ho2 : o ≠ 230) (hln : fr + N ≤ ln o) (hB : ∀ a, a < N → isB (σ o (fr + a))) (S : Int → Bool) (hS : ∀ a : Nat, a < N → (S (a : Int) = true ↔ σ o (fr + a) ≠ 0)) (hc : clo T N S) :
    wp (fX6_finds n σ o (fr : Int)) (fun σ2 => isR σ2 N (docOf T N S) ∧ DI T N (docOf T N S) ∧ (∀ x, x ∈ (docOf T N S).1 ↔ x ∈ (OL T N).filter S ∧ mkE T N x = true) ∧ seg (σ2 261) 0 ((OL T N).filter S).length = (OL T N).filter S ∧ σ2 230 29 = (((OL T N).filter S).length : Int) ∧ FrF σ σ2) := by
  unfold fX6_finds
  refine wp_b1 (r_orders hr hv hs hN (by omega) (by omega) ho2 hln hB S hS) (fun σ1 h1 => ?_)
  obtain ⟨o1, o2, o3, o4⟩ := h1
  generalize hL : (OL T N).filter S = L at o1 o2 o3
  have hLl : L.length ≤ N := by
    rw [← hL]
    have : (OL T N).length = N := seg_len _ _ _
    have := List.length_filter_le S (OL T N)
    omega
  have hUne : ∀ q, q ≠ 9 → L.foldl (uOne T N) C0 q = C0 q := fun q hq => uFold_ne hq L C0
  have hUb := uFold_b (T := T) (N := N) L C0 (fun i => Or.inl rfl)
  have wk := walk hv hs hk hc hN (L.foldl (uOne T N) C0) hUne hUb
  rw [hL] at wk
  refine wp_pf ?_
  have f1 : FrF σ (st σ1 230 32 0) := fun a b h1 h2 => by
    by_cases q : a = 230
    · subst q; rw [st_row, if_neg (by omega)]; exact o4 230 b (by omega) (by omega)
    · rw [st_ne q]; exact o4 a b (by omega) (by omega)
  have p1 : seg (st σ1 230 32 0 261) 0 L.length = L := by rw [st_fn (by decide)]; exact o1
  have p2 : st σ1 230 32 0 230 29 = (L.length : Int) := by rw [st_row, if_neg (by decide)]; exact o2
  have p3 : ∀ i, i < N → st σ1 230 32 0 262 i = (L.foldl (uOne T N) C0) 9 i := fun i hi => by rw [st_ne (by decide)]; exact o3 i hi
  have p4 : st σ1 230 32 0 230 32 = 0 := by rw [st_row, if_pos rfl]
  generalize st σ1 230 32 0 = σ2 at f1 p1 p2 p3 p4
  -- the acts, one after another
  have l108 : ∀ (k m i : Nat) (σ3 : St), i + k = L.length → k < m → isR σ3 N ((L.take i).foldl (dOne T N) ([], L.foldl (uOne T N) C0)) → seg (σ3 261) 0 L.length = L → σ3 230 29 = (L.length : Int) → FrF σ σ3 →
      wp (fX6_finds_L108 n o (fr : Int) m σ3 (i : Int)) (fun σ2 => isR σ2 N (L.foldl (dOne T N) ([], L.foldl (uOne T N) C0)) ∧ seg (σ2 261) 0 L.length = L ∧ σ2 230 29 = (L.length : Int) ∧ FrF σ σ2) := by
    intro k
    induction k with
    | zero =>
      intro m i σ3 h1 h2 h3 h4 h5 h6
      obtain ⟨m, rfl⟩ : ∃ q, m = q + 1 := ⟨m - 1, by omega⟩
      show wp (fX6_finds_L108s n o (fr : Int) _ σ3 (i : Int)) _
      unfold fX6_finds_L108s
      rw [if_pos (by rw [h5]; omega)]
      rw [List.take_of_length_le (by omega)] at h3
      exact wp_some ⟨h3, h4, h5, h6⟩
    | succ k ih =>
      intro m i σ3 h1 h2 h3 h4 h5 h6
      obtain ⟨m, rfl⟩ : ∃ q, m = q + 1 := ⟨m - 1, by omega⟩
      show wp (fX6_finds_L108s n o (fr : Int) (fX6_finds_L108 n o (fr : Int) m) σ3 (i : Int)) _
      have hi : i < L.length := by omega
      have hg : σ3 261 i = L.getD i 0 := by
        have := seg_get (σ3 261) L.length 0 i
        rw [h4, if_pos hi, Nat.zero_add] at this
        rw [List.getD_eq_getElem?_getD, this]; rfl
      have hw := wk (L.take i) (L.drop i) (List.take_append_drop i L).symm
      have hx := hw.2.2.2 (L.getD i 0) (L.drop (i + 1)) (drop_cons hi)
      have htk : L.take (i + 1) = L.take i ++ [L.getD i 0] := by
        rw [List.take_succ, List.getElem?_eq_getElem hi, List.getD_eq_getElem?_getD, List.getElem?_eq_getElem hi]; rfl
      have hxx : (((L.getD i 0).toNat : Nat) : Int) = L.getD i 0 := Int.toNat_of_nonneg hx.1.1
      unfold fX6_finds_L108s
      rw [if_neg (by rw [h5]; omega)]
      refine wp_rd (by omega) (by omega) ?_
      rw [Int.toNat_natCast, hg]
      have hr3 : RT T σ3 N := by
        refine ⟨by rw [h6 230 1 (by decide) (by decide)]; exact hr.1, fun a ha => ?_⟩
        rw [h6 233 a (by omega) (by omega), h6 234 a (by omega) (by omega), h6 235 a (by omega) (by omega), h6 236 a (by omega) (by omega), h6 237 a (by omega) (by omega), h6 238 a (by omega) (by omega), h6 239 a (by omega) (by omega), h6 240 a (by omega) (by omega), h6 242 a (by omega) (by omega)]
        exact hr.2 a ha
      have hone := r_one h3 hr3 hv hw.1 hN (n := n) (by omega) (a := (L.getD i 0).toNat) (by omega) hx.2
      rw [hxx] at hone
      refine wp_b1 hone (fun σ4 h7 => ?_)
      refine wp_ck (by omega) (by omega) (ih m (i + 1) σ4 (by omega) (by omega) ?_ ?_ ?_ (h6.tr (FrF.ofD h7.2)))
      · rw [htk, List.foldl_append]; exact h7.1
      · have : σ4 261 = σ3 261 := funext fun b => h7.2 261 b (by decide) (Or.inl (by decide))
        rw [this]; exact h4
      · rw [h7.2 230 29 (by decide) (by decide)]; exact h5
  -- all cleared
  have inv : ∀ (σ1 : St) (Z : Nat → Nat → Prop) (k0 j0 : Nat) (v : Int), (∀ k j, Z k j → σ1 k j = if k = 271 then -2 else 0) → v = (if k0 = 271 then -2 else 0) → ∀ k j, (Z k j ∨ (k = k0 ∧ j = j0)) → st σ1 k0 j0 v k j = if k = 271 then -2 else 0 := by
    intro σ1 Z k0 j0 v h hv k j hj
    by_cases hk : k = k0
    · subst hk
      rw [st_row]
      by_cases hj0 : j = j0
      · subst hj0; rw [if_pos rfl, hv]
      · rw [if_neg hj0]; exact h k j (hj.resolve_right (fun q => hj0 q.2))
    · rw [st_ne hk]; exact h k j (hj.resolve_right (fun q => hk q.1))
  have keep : ∀ (σ3 : St) (r i : Nat) (v : Int), 264 ≤ r → r ≤ 272 → (seg (σ3 261) 0 L.length = L ∧ σ3 230 29 = (L.length : Int) ∧ (∀ i, i < N → σ3 262 i = (L.foldl (uOne T N) C0) 9 i) ∧ σ3 230 32 = 0 ∧ FrF σ σ3) → (seg (st σ3 r i v 261) 0 L.length = L ∧ st σ3 r i v 230 29 = (L.length : Int) ∧ (∀ j, j < N → st σ3 r i v 262 j = (L.foldl (uOne T N) C0) 9 j) ∧ st σ3 r i v 230 32 = 0 ∧ FrF σ (st σ3 r i v)) := by
    intro σ3 r i v h1 h2 h
    refine ⟨by rw [st_fn (by omega)]; exact h.1, by rw [st_ne (by omega)]; exact h.2.1, fun j hj => by rw [st_ne (by omega)]; exact h.2.2.1 j hj, by rw [st_ne (by omega)]; exact h.2.2.2.1, fun a b h3 h4 => by rw [st_ne (by omega)]; exact h.2.2.2.2 a b h3 h4⟩
  have l65 : ∀ (c m i : Nat) (σ3 : St), i + c = 160 → c < m → (∀ k j, ((k = 270 ∨ k = 271) ∧ j < 161) ∨ (k = 272 ∧ j < 644) ∨ ((k = 266 ∨ k = 267 ∨ k = 268 ∨ k = 269) ∧ j < i) → σ3 k j = if k = 271 then -2 else 0) → (seg (σ3 261) 0 L.length = L ∧ σ3 230 29 = (L.length : Int) ∧ (∀ i, i < N → σ3 262 i = (L.foldl (uOne T N) C0) 9 i) ∧ σ3 230 32 = 0 ∧ FrF σ σ3) →
      wp (fX6_finds_L65 n o (fr : Int) m σ3 (i : Int)) (fun σ2 => isR σ2 N (L.foldl (dOne T N) ([], L.foldl (uOne T N) C0)) ∧ seg (σ2 261) 0 L.length = L ∧ σ2 230 29 = (L.length : Int) ∧ FrF σ σ2) := by
    intro c
    induction c with
    | zero =>
      intro m i σ3 h1 h2 h3 h4
      obtain ⟨m, rfl⟩ : ∃ q, m = q + 1 := ⟨m - 1, by omega⟩
      show wp (fX6_finds_L65s n o (fr : Int) _ σ3 (i : Int)) _
      unfold fX6_finds_L65s
      rw [if_pos (by omega)]
      refine l108 L.length n 0 σ3 (Nat.zero_add _) (by omega) ?_ h4.1 h4.2.1 h4.2.2.2.2
      rw [List.take_zero]
      refine ⟨h4.2.2.2.1, Nat.zero_le _, rfl, fun x hx => (by cases hx), fun j hj => ?_, fun j hj => ?_, fun j hj => ?_, h4.2.2.1, fun b hb => ?_, fun s b q1 q2 q3 => ?_⟩
      · show σ3 266 j = L.foldl (uOne T N) C0 6 j
        rw [hUne 6 (by decide), h3 266 j (by omega)]; rfl
      · show BR (L.foldl (uOne T N) C0 7 j) (σ3 267 j) (σ3 268 j)
        rw [hUne 7 (by decide), h3 267 j (by omega), h3 268 j (by omega)]; exact BR_0
      · show σ3 269 j = L.foldl (uOne T N) C0 8 j
        rw [hUne 8 (by decide), h3 269 j (by omega)]; rfl
      · show σ3 270 b = L.foldl (uOne T N) C0 10 b ∧ σ3 271 b = L.foldl (uOne T N) C0 11 b
        rw [hUne 10 (by decide), hUne 11 (by decide), h3 270 b (by omega), h3 271 b (by omega)]
        refine ⟨rfl, ?_⟩
        show -2 = if 11 = 11 then (if b < 161 then -2 else 0) else 0
        rw [if_pos rfl, if_pos hb]
      · show σ3 272 (161 * s + b) = L.foldl (uOne T N) C0 (13 + s) b
        rw [hUne (13 + s) (by omega), h3 272 (161 * s + b) (by omega), C0_z (by omega)]; rfl
    | succ c ih =>
      intro m i σ3 h1 h2 h3 h4
      obtain ⟨m, rfl⟩ : ∃ q, m = q + 1 := ⟨m - 1, by omega⟩
      show wp (fX6_finds_L65s n o (fr : Int) (fX6_finds_L65 n o (fr : Int) m) σ3 (i : Int)) _
      unfold fX6_finds_L65s
      rw [if_neg (by omega)]
      refine wp_wrb (by omega) (by omega) (Or.inl rfl) (wp_wr (by omega) (by omega) (wp_wr (by omega) (by omega) (wp_wrb (by omega) (by omega) (Or.inl rfl) (wp_ck (by omega) (by omega) ?_))))
      rw [Int.toNat_natCast]
      have i1 := inv _ _ 269 i 0 (inv _ _ 268 i 0 (inv _ _ 267 i 0 (inv σ3 _ 266 i 0 h3 rfl) rfl) rfl) rfl
      refine ih m (i + 1) _ (by omega) (by omega) (fun k j hkj => i1 k j ?_) (keep _ 269 i 0 (by decide) (by decide) (keep _ 268 i 0 (by decide) (by decide) (keep _ 267 i 0 (by decide) (by decide) (keep _ 266 i 0 (by decide) (by decide) h4))))
      by_cases hji : j = i ∧ (k = 266 ∨ k = 267 ∨ k = 268 ∨ k = 269)
      · rcases hji.2 with e | e | e | e
        · exact Or.inl (Or.inl (Or.inl (Or.inr ⟨e, hji.1⟩)))
        · exact Or.inl (Or.inl (Or.inr ⟨e, hji.1⟩))
        · exact Or.inl (Or.inr ⟨e, hji.1⟩)
        · exact Or.inr ⟨e, hji.1⟩
      · exact Or.inl (Or.inl (Or.inl (Or.inl (by omega))))
  have l43 : ∀ (c m i : Nat) (σ3 : St), i + c = 644 → c < m → (∀ k j, ((k = 270 ∨ k = 271) ∧ j < 161) ∨ (k = 272 ∧ j < i) → σ3 k j = if k = 271 then -2 else 0) → (seg (σ3 261) 0 L.length = L ∧ σ3 230 29 = (L.length : Int) ∧ (∀ i, i < N → σ3 262 i = (L.foldl (uOne T N) C0) 9 i) ∧ σ3 230 32 = 0 ∧ FrF σ σ3) →
      wp (fX6_finds_L43 n o (fr : Int) m σ3 (i : Int)) (fun σ2 => isR σ2 N (L.foldl (dOne T N) ([], L.foldl (uOne T N) C0)) ∧ seg (σ2 261) 0 L.length = L ∧ σ2 230 29 = (L.length : Int) ∧ FrF σ σ2) := by
    intro c
    induction c with
    | zero =>
      intro m i σ3 h1 h2 h3 h4
      obtain ⟨m, rfl⟩ : ∃ q, m = q + 1 := ⟨m - 1, by omega⟩
      show wp (fX6_finds_L43s n o (fr : Int) _ σ3 (i : Int)) _
      unfold fX6_finds_L43s
      rw [if_pos (by omega)]
      exact l65 160 n 0 σ3 (Nat.zero_add _) (by omega) (fun k j hkj => h3 k j (by omega)) h4
    | succ c ih =>
      intro m i σ3 h1 h2 h3 h4
      obtain ⟨m, rfl⟩ : ∃ q, m = q + 1 := ⟨m - 1, by omega⟩
      show wp (fX6_finds_L43s n o (fr : Int) (fX6_finds_L43 n o (fr : Int) m) σ3 (i : Int)) _
      unfold fX6_finds_L43s
      rw [if_neg (by omega)]
      refine wp_wr (by omega) (by omega) (wp_ck (by omega) (by omega) ?_)
      rw [Int.toNat_natCast]
      have i1 := inv σ3 _ 272 i 0 h3 rfl
      refine ih m (i + 1) _ (by omega) (by omega) (fun k j hkj => i1 k j ?_) (keep _ 272 i 0 (by decide) (by decide) h4)
      by_cases hji : j = i ∧ k = 272
      · exact Or.inr ⟨hji.2, hji.1⟩
      · exact Or.inl (by omega)
  have l13 : ∀ (c m i : Nat) (σ3 : St), i + c = 161 → c < m → (∀ k j, ((k = 270 ∨ k = 271) ∧ j < i) → σ3 k j = if k = 271 then -2 else 0) → (seg (σ3 261) 0 L.length = L ∧ σ3 230 29 = (L.length : Int) ∧ (∀ i, i < N → σ3 262 i = (L.foldl (uOne T N) C0) 9 i) ∧ σ3 230 32 = 0 ∧ FrF σ σ3) →
      wp (fX6_finds_L13 n o (fr : Int) m σ3 (i : Int)) (fun σ2 => isR σ2 N (L.foldl (dOne T N) ([], L.foldl (uOne T N) C0)) ∧ seg (σ2 261) 0 L.length = L ∧ σ2 230 29 = (L.length : Int) ∧ FrF σ σ2) := by
    intro c
    induction c with
    | zero =>
      intro m i σ3 h1 h2 h3 h4
      obtain ⟨m, rfl⟩ : ∃ q, m = q + 1 := ⟨m - 1, by omega⟩
      show wp (fX6_finds_L13s n o (fr : Int) _ σ3 (i : Int)) _
      unfold fX6_finds_L13s
      rw [if_pos (by omega)]
      exact l43 644 n 0 σ3 (Nat.zero_add _) (by omega) (fun k j hkj => h3 k j (by omega)) h4
    | succ c ih =>
      intro m i σ3 h1 h2 h3 h4
      obtain ⟨m, rfl⟩ : ∃ q, m = q + 1 := ⟨m - 1, by omega⟩
      show wp (fX6_finds_L13s n o (fr : Int) (fX6_finds_L13 n o (fr : Int) m) σ3 (i : Int)) _
      unfold fX6_finds_L13s
      rw [if_neg (by omega)]
      refine wp_wr (by omega) (by omega) (wp_wr (by omega) (by omega) (wp_ck (by omega) (by omega) ?_))
      rw [Int.toNat_natCast]
      have i1 := inv _ _ 271 i (-2) (inv σ3 _ 270 i 0 h3 rfl) rfl
      refine ih m (i + 1) _ (by omega) (by omega) (fun k j hkj => i1 k j ?_) (keep _ 271 i (-2) (by decide) (by decide) (keep _ 270 i 0 (by decide) (by decide) h4))
      by_cases hji : j = i
      · rcases hkj.1 with e | e
        · exact Or.inl (Or.inr ⟨e, hji⟩)
        · exact Or.inr ⟨e, hji⟩
      · exact Or.inl (Or.inl (by omega))
  have hwk := wk L [] (List.append_nil L).symm
  refine wp_mono (l13 161 n 0 σ2 (Nat.zero_add _) (by omega) (fun k j hkj => by omega) ⟨p1, p2, p3, p4, f1⟩) (fun σ3 q => ?_)
  have ed : docOf T N S = L.foldl (dOne T N) ([], L.foldl (uOne T N) C0) := by unfold docOf docL; rw [hL]
  rw [ed]
  exact ⟨q.1, hwk.1, hwk.2.1, q.2⟩
end FIND
