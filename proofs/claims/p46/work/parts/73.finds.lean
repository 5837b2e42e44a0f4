/-! ===== the reference's document of a set ===== -/
/-- each act's named acts are there, and come ahead of it -/
def clo (T : St) (N : Nat) (S : Int → Bool) : Prop := ∀ a, a < N → S (a : Int) = true → ((T 11 a = 0 ∨ T 11 a = 1) → 0 ≤ T 12 a → S (T 12 a) = true) ∧ ((T 11 a = 2 ∨ T 11 a = 3 ∨ T 11 a = 4 ∨ T 11 a = 7 ∨ T 11 a = 8 ∨ T 11 a = 9 ∨ T 11 a = 11 ∨ T 11 a = 12) → S (T 12 a) = true) ∧ ((T 11 a = 4 ∨ T 11 a = 7) → S (T 13 a) = true)
def TK (T : St) (N : Nat) : Prop := ∀ a, a < N → ((T 11 a = 0 ∨ T 11 a = 1) → 0 ≤ T 12 a → key T (T 12 a) < key T (a : Int)) ∧ ((T 11 a = 2 ∨ T 11 a = 3 ∨ T 11 a = 4 ∨ T 11 a = 7 ∨ T 11 a = 8 ∨ T 11 a = 9 ∨ T 11 a = 11 ∨ T 11 a = 12) → key T (T 12 a) < key T (a : Int)) ∧ ((T 11 a = 4 ∨ T 11 a = 7) → key T (T 13 a) < key T (a : Int))
theorem dOne_mem {T : St} {N a : Nat} {D : Dc} (ha : a < N) (x : Int) : x ∈ (dOne T N D (a : Int)).1 ↔ x ∈ D.1 ∨ (x = (a : Int) ∧ mkE T N (a : Int) = true) := by
  by_cases k01 : T 11 a = 0 ∨ T 11 a = 1
  · have hm : mkE T N (a : Int) = true := decide_eq_true ⟨by omega, by rw [Int.toNat_natCast]; exact k01⟩
    unfold dOne
    rw [gt_n ha, if_pos k01]
    unfold dPut
    rw [insA_mem]
    constructor
    · rintro (q | q)
      · exact Or.inr ⟨q, hm⟩
      · exact Or.inl q
    · rintro (q | q)
      · exact Or.inr q
      · exact Or.inl q.1
  · have hm : mkE T N (a : Int) = false := decide_eq_false (fun z => k01 (by have := z.2; rw [Int.toNat_natCast] at this; exact this))
    have e : (dOne T N D (a : Int)).1 = D.1 := by
      rcases dOne_row T N D (a : Int) with q | q
      · exact q
      · exfalso
        have hlen : (dOne T N D (a : Int)).1.length = D.1.length := by
          unfold dOne
          rw [gt_n ha, if_neg k01]
          unfold dRem dRes dKind dNest dSet dLevel dPaint
          by_cases z0 : num (a : Int) ∧ D.2 9 (a : Int).toNat ≠ 0
          · rw [if_pos z0]
          rw [if_neg z0]
          by_cases z2 : T 11 a = 2
          · rw [if_pos z2]
            split
            · split <;> rfl
            · rfl
          rw [if_neg z2]
          by_cases z3 : T 11 a = 3
          · rw [if_pos z3]; split <;> rfl
          rw [if_neg z3]
          by_cases z4 : T 11 a = 4
          · rw [if_pos z4]
          rw [if_neg z4]
          by_cases z5 : T 11 a = 5
          · rw [if_pos z5]; split <;> rfl
          rw [if_neg z5]
          by_cases z6 : T 11 a = 6
          · rw [if_pos z6]; split <;> rfl
          rw [if_neg z6]
          by_cases z7 : T 11 a = 7
          · rw [if_pos z7]
          rw [if_neg z7]
          by_cases z8 : T 11 a = 8
          · rw [if_pos z8]
            split
            · split <;> rfl
            · rfl
          rw [if_neg z8]
          by_cases z9 : T 11 a = 9
          · rw [if_pos z9]
            split
            · split <;> rfl
            · rfl
          rw [if_neg z9]
          by_cases z10 : T 11 a = 10
          · rw [if_pos z10]; split <;> rfl
          rw [if_neg z10]
        rw [q, insA_len (dAt_le T N D (a : Int))] at hlen
        omega
    rw [e, hm]
    exact ⟨Or.inl, fun z => z.elim id (fun y => by exact Bool.noConfusion y.2)⟩
section FIND
variable {T : St} {N : Nat}
theorem AC0 : AC (C0 11) := ⟨fun _ => 0, fun b h1 h2 h3 h4 => by
  exfalso
  have e : C0 11 (b + 1).toNat = -2 := by
    show (if 11 = 11 then (if (b + 1).toNat < 161 then -2 else 0) else 0) = (-2 : Int)
    rw [if_pos rfl, if_pos (by omega)]
  omega⟩
theorem C0_z {k : Nat} (h : k ≠ 11) (i : Nat) : C0 k i = 0 := if_neg h
theorem DI0 (U : St) (hU : ∀ q, q ≠ 9 → U q = C0 q) (hb : ∀ i, isB (U 9 i)) : DI T N ([], U) := by
  refine ⟨List.nodup_nil, fun x hx => (by cases hx), fun x hx => (by cases hx), fun i _ => ?_, fun i => ?_, fun i => ?_, hb, fun b hbb => ?_, ?_⟩
  · show U 4 i = 0 ∧ U 5 i = 0
    rw [hU 4 (by decide), hU 5 (by decide)]; exact ⟨rfl, rfl⟩
  · show isB (U 8 i) ∧ (U 8 i ≠ 0 → _)
    rw [hU 8 (by decide)]; exact ⟨Or.inl rfl, fun z => absurd rfl z⟩
  · show isB (U 6 i)
    rw [hU 6 (by decide)]; exact Or.inl rfl
  · refine Or.inl ?_
    show U 11 b = -2
    rw [hU 11 (by decide)]
    show (if 11 = 11 then (if b < 161 then -2 else 0) else 0) = (-2 : Int)
    rw [if_pos rfl, if_pos hbb]
  · show AC (U 11)
    rw [hU 11 (by decide)]; exact AC0
/-- along the order, every act is as it must be -/
theorem walk {S : Int → Bool} (hv : TV T N) (hs : TS T N) (hk : TK T N) (hc : clo T N S) (hN : N ≤ 160) (U : St) (hU : ∀ q, q ≠ 9 → U q = C0 q) (hb : ∀ i, isB (U 9 i)) :
    ∀ (L1 L2 : List Int), (OL T N).filter S = L1 ++ L2 → DI T N (L1.foldl (dOne T N) ([], U)) ∧ (∀ x, x ∈ (L1.foldl (dOne T N) ([], U)).1 ↔ x ∈ L1 ∧ mkE T N x = true) ∧ (L1.foldl (dOne T N) ([], U)).1.length ≤ L1.length ∧ (∀ x L3, L2 = x :: L3 → (0 ≤ x ∧ x < (N : Int)) ∧ pre T N (L1.foldl (dOne T N) ([], U)) x.toNat) := by
  intro L1
  -- what comes ahead
  have ahead : ∀ (L1 : List Int) (x : Int) (L3 : List Int), (OL T N).filter S = L1 ++ x :: L3 → (0 ≤ x ∧ x < (N : Int)) ∧ S x = true ∧ x ∉ L1 ∧ (∀ y, 0 ≤ y → y < (N : Int) → S y = true → key T y < key T x → y ∈ L1) ∧ L1.length < N := by
    intro L1 x L3 he
    have hx : x ∈ (OL T N).filter S := by rw [he, List.mem_append]; exact Or.inr List.mem_cons_self
    rw [List.mem_filter, hs.2] at hx
    have hp : (L1 ++ x :: L3).Pairwise (fun x y => key T x < key T y) := by rw [← he]; exact List.Pairwise.filter _ hs.1
    rw [List.pairwise_append, List.pairwise_cons] at hp
    refine ⟨hx.1, hx.2, fun z => ?_, fun y h1 h2 h3 h4 => ?_, ?_⟩
    · have := hp.2.2 x z x List.mem_cons_self; omega
    · have hy : y ∈ (OL T N).filter S := by rw [List.mem_filter, hs.2]; exact ⟨⟨h1, h2⟩, h3⟩
      rw [he, List.mem_append, List.mem_cons] at hy
      rcases hy with q | q | q
      · exact q
      · subst q; omega
      · have := hp.2.1.1 y q; omega
    · have hl : ((OL T N).filter S).length ≤ (OL T N).length := List.length_filter_le _ _
      rw [he, List.length_append, List.length_cons] at hl
      have : (OL T N).length = N := seg_len _ _ _
      omega
  have prex : ∀ (L1 : List Int) (D : Dc), (∀ x, x ∈ D.1 ↔ x ∈ L1 ∧ mkE T N x = true) → D.1.length ≤ L1.length → ∀ x L3, (OL T N).filter S = L1 ++ x :: L3 → pre T N D x.toNat := by
    intro L1 D hm hl x L3 he
    obtain ⟨h1, h2, h3, h4, h5⟩ := ahead L1 x L3 he
    have hxx : ((x.toNat : Nat) : Int) = x := Int.toNat_of_nonneg h1.1
    have hvx := hv x.toNat (by omega)
    have hkx := hk x.toNat (by omega)
    have hcx := hc x.toNat (by omega) (by rw [hxx]; exact h2)
    rw [hxx] at hkx
    refine ⟨fun k01 => ⟨?_, ?_, by omega⟩, fun k23 => ?_, fun k47 => ⟨?_, ?_⟩, fun k89 => ⟨fun hmk => ?_, fun k2 => ?_⟩⟩
    · have v := hvx.2.2.2.2.2.1 k01
      by_cases q : T 12 x.toNat = -1
      · exact Or.inl q
      · have q0 : 0 ≤ T 12 x.toNat := by omega
        exact Or.inr ((hm _).mpr ⟨h4 _ q0 (by omega) (hcx.1 k01 q0) (hkx.1 k01 q0), v.2.2 q0⟩)
    · rw [hxx]; exact fun z => h3 ((hm x).mp z).1
    · have v := hvx.2.2.2.2.2.2.1 k23
      exact (hm _).mpr ⟨h4 _ v.1 (by omega) (hcx.2.1 (by omega)) (hkx.2.1 (by omega)), v.2.2⟩
    · have v := hvx.2.2.2.2.2.2.2.1 k47
      exact (hm _).mpr ⟨h4 _ v.1 (by omega) (hcx.2.1 (by omega)) (hkx.2.1 (by omega)), v.2.2.1⟩
    · have v := hvx.2.2.2.2.2.2.2.1 k47
      exact (hm _).mpr ⟨h4 _ v.2.2.2.1 (by omega) (hcx.2.2 k47) (hkx.2.2 k47), v.2.2.2.2.2⟩
    · have v := hvx.2.2.2.2.2.2.2.2.2.2.2.2.2 (by omega)
      exact (hm _).mpr ⟨h4 _ v.1 (by omega) (hcx.2.1 (by omega)) (hkx.2.1 (by omega)), hmk⟩
    · have v := hvx.2.2.2.2.2.2.2.2.2.2.2.2.2 (by omega)
      have hS := hcx.2.1 (by omega)
      have hK := hkx.2.1 (by omega)
      have hpp : (((T 12 x.toNat).toNat : Nat) : Int) = T 12 x.toNat := Int.toNat_of_nonneg v.1
      have v2 := (hv (T 12 x.toNat).toNat (by omega)).2.2.2.2.2.2.1 (Or.inl k2)
      have c2 := (hc (T 12 x.toNat).toNat (by omega) (by rw [hpp]; exact hS)).2.1 (by omega)
      have k2' := (hk (T 12 x.toNat).toNat (by omega)).2.1 (by omega)
      rw [hpp] at k2'
      exact (hm _).mpr ⟨h4 _ v2.1 (by omega) c2 (by omega), v2.2.2⟩
  -- along the list
  have main : ∀ (R L0 : List Int), (∀ L2, (OL T N).filter S = L0 ++ (R ++ L2) → DI T N (L0.foldl (dOne T N) ([], U)) → (∀ x, x ∈ (L0.foldl (dOne T N) ([], U)).1 ↔ x ∈ L0 ∧ mkE T N x = true) → (L0.foldl (dOne T N) ([], U)).1.length ≤ L0.length →
      DI T N ((L0 ++ R).foldl (dOne T N) ([], U)) ∧ (∀ x, x ∈ ((L0 ++ R).foldl (dOne T N) ([], U)).1 ↔ x ∈ L0 ++ R ∧ mkE T N x = true) ∧ ((L0 ++ R).foldl (dOne T N) ([], U)).1.length ≤ (L0 ++ R).length) := by
    intro R
    induction R with
    | nil => intro L0 L2 _ h1 h2 h3; rw [List.append_nil]; exact ⟨h1, h2, h3⟩
    | cons x R ih =>
      intro L0 L2 he h1 h2 h3
      have hp := prex L0 _ h2 h3 x (R ++ L2) he
      have hx := (ahead L0 x (R ++ L2) he).1
      have hxx : ((x.toNat : Nat) : Int) = x := Int.toNat_of_nonneg hx.1
      have e : (L0 ++ [x]).foldl (dOne T N) ([], U) = dOne T N (L0.foldl (dOne T N) ([], U)) x := by rw [List.foldl_append]; rfl
      have h1' : DI T N (dOne T N (L0.foldl (dOne T N) ([], U)) x) := by
        have := h1.one hv hN (a := x.toNat) (by omega) hp
        rw [hxx] at this; exact this
      have h2' : ∀ y, y ∈ (dOne T N (L0.foldl (dOne T N) ([], U)) x).1 ↔ y ∈ L0 ++ [x] ∧ mkE T N y = true := by
        intro y
        have := dOne_mem (T := T) (D := L0.foldl (dOne T N) ([], U)) (a := x.toNat) (N := N) (by omega) y
        rw [hxx] at this
        rw [this, h2, List.mem_append]
        constructor
        · rintro (z | z)
          · exact ⟨Or.inl z.1, z.2⟩
          · rw [z.1]; exact ⟨Or.inr List.mem_cons_self, z.2⟩
        · rintro ⟨z | z, w⟩
          · exact Or.inl ⟨z, w⟩
          · rcases List.mem_cons.mp z with q | q
            · rw [q] at w ⊢; exact Or.inr ⟨rfl, w⟩
            · cases q
      have h3' : (dOne T N (L0.foldl (dOne T N) ([], U)) x).1.length ≤ (L0 ++ [x]).length := by
        have := (dOne_ok (T := T) (N := N) (D := L0.foldl (dOne T N) ([], U)) (a := x) (fun y hy => (h1.row hN hy).1) ⟨hx.1, by omega⟩).2
        rw [List.length_append]
        show _ ≤ L0.length + 1
        omega
      rw [← e] at h1' h2' h3'
      have := ih (L0 ++ [x]) L2 (by rw [he, List.append_assoc]; rfl) h1' h2' h3'
      rw [List.append_assoc] at this
      exact this
  intro L2 he
  have h0 := main L1 [] L2 he (DI0 U hU hb) (fun x => ⟨fun z => (nomatch z), fun z => (nomatch z.1)⟩) (Nat.le_refl _)
  rw [List.nil_append] at h0
  refine ⟨h0.1, h0.2.1, h0.2.2, fun x L3 hL => ?_⟩
  rw [hL] at he
  exact ⟨(ahead L1 x L3 he).1, prex L1 _ h0.2.1 h0.2.2 x L3 he⟩
variable {σ : St} {n o fr : Nat}
end FIND

