/-! ===== crash ===== -/
section CRASH
variable {σ τ A B : St} {N nm nv n s : Nat}
def lsX (A : St) (s : Nat) : Int := A 244 (160 * s + ((A 245 s).toNat - 1))
/-- the last act of a journal is lost -/
def lsA (A : St) (s : Nat) : St := fun r b => if r = 243 then (if b = 160 * s + (lsX A s).toNat then 0 else A 243 b) else if r = 245 then (if b = s then A 245 s - 1 else A 245 b) else if r = 248 then (if b = s ∧ A 248 s = lsX A s then -1 else A 248 b) else if r = 249 then (if b = s ∧ A 249 s = lsX A s then -1 else A 249 b) else A r b
theorem ls_243 (b : Nat) : lsA A s 243 b = if b = 160 * s + (lsX A s).toNat then 0 else A 243 b := rfl
theorem ls_245 (b : Nat) : lsA A s 245 b = if b = s then A 245 s - 1 else A 245 b := rfl
theorem ls_248 (b : Nat) : lsA A s 248 b = if b = s ∧ A 248 s = lsX A s then -1 else A 248 b := rfl
theorem ls_249 (b : Nat) : lsA A s 249 b = if b = s ∧ A 249 s = lsX A s then -1 else A 249 b := rfl
theorem ls_o {r : Nat} (h : r ≠ 243 ∧ r ≠ 245 ∧ r ≠ 248 ∧ r ≠ 249) : lsA A s r = A r := by
  funext b
  unfold lsA; rw [if_neg h.1, if_neg h.2.1, if_neg h.2.2.1, if_neg h.2.2.2]
theorem ls_jl (hI : Inv A N nm nv) (hs : s < 4) (h : 0 < A 245 s) : JL A s = JL (lsA A s) s ++ [lsX A s] := by
  have e : JL (lsA A s) s = seg (fun i => A 244 (160 * s + i)) 0 ((A 245 s).toNat - 1) := by
    unfold JL
    rw [ls_245, if_pos rfl, ls_o (r := 244) (by decide), show (A 245 s - 1).toNat = (A 245 s).toNat - 1 by omega]
  rw [e]
  have := seg_one (fun i => A 244 (160 * s + i)) 0 ((A 245 s).toNat - 1)
  rw [Nat.zero_add, show (A 245 s).toNat - 1 + 1 = (A 245 s).toNat by omega] at this
  exact this
theorem ls_x (hI : Inv A N nm nv) (hs : s < 4) (h : 0 < A 245 s) : 0 ≤ lsX A s ∧ lsX A s < (N : Int) ∧ A 243 (160 * s + (lsX A s).toNat) ≠ 0 := by
  have h2 := hI.2.1 s hs
  have hm : lsX A s ∈ JL A s := by rw [ls_jl hI hs h]; exact List.mem_append_right _ List.mem_cons_self
  have hr := h2.2.2.2.2.1 _ hm
  have hN := hI.1.2.1
  refine ⟨hr.1, hr.2, (h2.2.2.2.2.2.2.1 _ (by omega)).mpr ?_⟩
  rw [Int.toNat_of_nonneg hr.1]; exact hm
theorem ls_same (hI : Inv A N nm nv) (hs : s < 4) (h : 0 < A 245 s) : SaS A (lsA A s) s := by
  have hx := ls_x hI hs h
  have hN := hI.1.2.1
  refine ⟨fun r hr => ls_o (by omega), fun t ht hne => ⟨fun a ha => ⟨?_, ?_⟩, fun r r1 r2 => ?_⟩⟩
  · rw [ls_243, if_neg (by omega)]
  · rw [ls_o (by decide)]
  · rcases (show r = 245 ∨ r = 246 ∨ r = 247 ∨ r = 248 ∨ r = 249 by omega) with rfl | rfl | rfl | rfl | rfl
    · rw [ls_245, if_neg hne]
    · rw [ls_o (by decide)]
    · rw [ls_o (by decide)]
    · rw [ls_248, if_neg (fun g => hne g.1)]
    · rw [ls_249, if_neg (fun g => hne g.1)]
theorem ls_cok (hI : Inv A N nm nv) (hs : s < 4) {c : Int} (hc : curOK A N s c) : curOK (lsA A s) N s (if c = lsX A s then -1 else c) := by
  by_cases q : c = lsX A s
  · rw [if_pos q]; exact Or.inl rfl
  · rw [if_neg q]
    rcases hc with g | g
    · exact Or.inl g
    · have w : num c ∧ A 243 (160 * s + c.toNat) ≠ 0 := of_decide_eq_true g.1
      have w1 : 0 ≤ c ∧ c < 160 := w.1
      refine Or.inr ⟨decide_eq_true ⟨w.1, ?_⟩, ?_⟩
      · rw [ls_243]
        by_cases q2 : 160 * s + c.toNat = 160 * s + (lsX A s).toNat
        · exfalso
          by_cases h0 : 0 ≤ lsX A s
          · omega
          · have hl := JL_len hI hs
            by_cases z : 0 < A 245 s
            · have := ls_x hI hs z; omega
            · have := ((hI.2.1 s hs).2.2.2.2.2.2.1 c.toNat (by omega)).mp w.2
              rw [List.eq_nil_of_length_eq_zero (show (JL A s).length = 0 by omega)] at this
              cases this
        · rw [if_neg q2]; exact w.2
      · have e : mkE (lsA A s) N c = mkE A N c := by unfold mkE; rw [ls_o (by decide)]
        rw [e]; exact g.2
theorem ls_in2 (hI : Inv A N nm nv) (hs : s < 4) (h : A 246 s < A 245 s) : In2 (lsA A s) N s := by
  have h2 := hI.2.1 s hs
  have h0 : 0 < A 245 s := by have := h2.2.2.2.2.2.2.2.2.2.2.2; omega
  have hx := ls_x hI hs h0
  have hj := ls_jl hI hs h0
  have hN := hI.1.2.1
  have c8 := ls_cok hI hs (hI.c8 hs)
  have c9 := ls_cok hI hs (hI.c9 hs)
  obtain ⟨g1, g2, g3, g4, g5, g6, g7, g8, g9, g10, g11, g12⟩ := h2
  rw [hj] at g4 g5 g8
  rw [List.nodup_append] at g4
  refine ⟨?_, ?_, ?_, g4.1, fun x hx => g5 x (List.mem_append_left _ hx), fun a ha => ?_, fun a ha => ?_, fun L1 x L2 q => ?_, fun a ha hc => ?_, ?_, ?_, ?_⟩
  · rw [ls_o (by decide)]; exact g1
  · rw [ls_o (by decide)]; exact g2
  · rw [ls_245, if_pos rfl]; omega
  · rw [ls_243]; split
    · exact Or.inl rfl
    · exact g6 a ha
  · rw [ls_243]
    by_cases q : a = (lsX A s).toNat
    · rw [if_pos (by omega)]
      refine ⟨fun w => absurd rfl w, fun w => ?_⟩
      exact absurd (show (a : Int) = lsX A s by omega) (g4.2.2 _ w _ List.mem_cons_self)
    · rw [if_neg (by omega), g7 a ha, hj, List.mem_append]
      refine ⟨fun w => ?_, fun w => Or.inl w⟩
      rcases w with w | w
      · exact w
      · rcases List.mem_cons.mp w with w | w
        · omega
        · cases w
  · have := g8 L1 x (L2 ++ [lsX A s]) (by rw [q]; simp)
    unfold nmd at this ⊢
    rw [ls_o (r := 11) (by decide), ls_o (r := 12) (by decide), ls_o (r := 13) (by decide)]; exact this
  · rw [ls_o (r := 9) (by decide), ls_243] at hc
    rw [ls_o (r := 10) (by decide), ls_o (r := 247) (by decide)]
    refine g9 a ha ?_
    rcases hc with hc | hc
    · exact Or.inl hc
    · right
      by_cases q : 160 * s + a = 160 * s + (lsX A s).toNat
      · rw [if_pos q] at hc; exact absurd rfl hc
      · rw [if_neg q] at hc; exact hc
  · rw [ls_248]
    by_cases q : A 248 s = lsX A s
    · rw [if_pos ⟨rfl, q⟩]; exact Or.inl rfl
    · rw [if_neg (fun g => q g.2)]
      rw [if_neg q] at c8; exact c8
  · rw [ls_249]
    by_cases q : A 249 s = lsX A s
    · rw [if_pos ⟨rfl, q⟩]; exact Or.inl rfl
    · rw [if_neg (fun g => q g.2)]
      rw [if_neg q] at c9; exact c9
  · rw [ls_o (r := 246) (by decide), ls_245, if_pos rfl]; omega
def lsQ : Nat → St → Nat → St
  | 0, A, _ => A
  | q + 1, A, s => lsQ q (lsA A s) s
theorem lsQ_inv (hs : s < 4) : ∀ (q : Nat) (A : St), Inv A N nm nv → A 246 s + q ≤ A 245 s → Inv (lsQ q A s) N nm nv ∧ lsQ q A s 245 s = A 245 s - q := by
  intro q
  induction q with
  | zero => intro A hI _; exact ⟨hI, by show A 245 s = _; omega⟩
  | succ q ih =>
    intro A hI h
    have h2 := (hI.2.1 s hs).2.2.2.2.2.2.2.2.2.2.2
    have := ih (lsA A s) (hI.site (ls_same hI hs (by omega)) (ls_in2 hI hs (by omega))) (by rw [ls_o (r := 246) (by decide), ls_245, if_pos rfl]; omega)
    refine ⟨this.1, this.2.trans ?_⟩
    rw [ls_245, if_pos rfl]; omega
end CRASH

