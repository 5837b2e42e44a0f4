/-! ===== crash ===== -/
section CRASH
variable {σ τ A B : St} {N nm nv n s : Nat}
def lsX (A : St) (s : Nat) : Int := A 244 (160 * s + ((A 245 s).toNat - 1))
/-- the last act of a journal is lost -/
def lsA (A : St) (s : Nat) : St := fun r b => if r = 243 then (if b = 160 * s + (lsX A s).toNat then 0 else A 243 b) else if r = 245 then (if b = s then A 245 s - 1 else A 245 b) else if r = 248 then (if b = s ∧ A 248 s = lsX A s then -1 else A 248 b) else if r = 249 then (if b = s ∧ A 249 s = lsX A s then -1 else A 249 b) else A r b
theorem ls_243 (b : Nat) : lsA A s 243 b = if b = 160 * s + (lsX A s).toNat then 0 else A 243 b := rfl
theorem ls_245 (b : Nat) : lsA A s 245 b = if b = s then A 245 s - 1 else A 245 b := rfl
theorem ls_248 (b : Nat) : lsA A s 248 b = if b = s ∧ A 248 s = lsX A s then -1 else A 248 b := rfl
theorem ls_249 (b : Nat) : lsA A s 249 b = if b = s ∧ A 249 s = lsX A s then -1 else A 249 b := rfl
theorem ls_o {r : Nat} (h : r ≠ 243 ∧ r ≠ 245 ∧ r ≠ 248 ∧ r ≠ 249) : lsA A s r = A r := by
  funext b
  unfold lsA; rw [if_neg h.1, if_neg h.2.1, if_neg h.2.2.1, if_neg h.2.2.2]
theorem ls_jl (hI : Inv A N nm nv) (hs : s < 4) (h : 0 < A 245 s) : JL A s = JL (lsA A s) s ++ [lsX A s] := by
  have e : JL (lsA A s) s = seg (fun i => A 244 (160 * s + i)) 0 ((A 245 s).toNat - 1) := by
    unfold JL
    rw [ls_245, if_pos rfl, ls_o (r := 244) (by decide), show (A 245 s - 1).toNat = (A 245 s).toNat - 1 by omega]
  rw [e]
  have := seg_one (fun i => A 244 (160 * s + i)) 0 ((A 245 s).toNat - 1)
  rw [Nat.zero_add, show (A 245 s).toNat - 1 + 1 = (A 245 s).toNat by omega] at this
  exact this
theorem ls_x (hI : Inv A N nm nv) (hs : s < 4) (h : 0 < A 245 s) : 0 ≤ lsX A s ∧ lsX A s < (N : Int) ∧ A 243 (160 * s + (lsX A s).toNat) ≠ 0 := by
  have h2 := hI.2.1 s hs
  have hm : lsX A s ∈ JL A s := by rw [ls_jl hI hs h]; exact List.mem_append_right _ List.mem_cons_self
  have hr := h2.2.2.2.2.1 _ hm
  have hN := hI.1.2.1
  refine ⟨hr.1, hr.2, (h2.2.2.2.2.2.2.1 _ (by omega)).mpr ?_⟩
  rw [Int.toNat_of_nonneg hr.1]; exact hm
theorem ls_same (hI : Inv A N nm nv) (hs : s < 4) (h : 0 < A 245 s) : SaS A (lsA A s) s := by
  have hx := ls_x hI hs h
  have hN := hI.1.2.1
  refine ⟨fun r hr => ls_o (by omega), fun t ht hne => ⟨fun a ha => ⟨?_, ?_⟩, fun r r1 r2 => ?_⟩⟩
  · rw [ls_243, if_neg (by omega)]
  · rw [ls_o (by decide)]
  · rcases (show r = 245 ∨ r = 246 ∨ r = 247 ∨ r = 248 ∨ r = 249 by omega) with rfl | rfl | rfl | rfl | rfl
    · rw [ls_245, if_neg hne]
    · rw [ls_o (by decide)]
    · rw [ls_o (by decide)]
    · rw [ls_248, if_neg (fun g => hne g.1)]
    · rw [ls_249, if_neg (fun g => hne g.1)]
theorem ls_cok (hI : Inv A N nm nv) (hs : s < 4) {c : Int} (hc : curOK A N s c) : curOK (lsA A s) N s (if c = lsX A s then -1 else c) := by
  by_cases q : c = lsX A s
  · rw [if_pos q]; exact Or.inl rfl
  · rw [if_neg q]
    rcases hc with g | g
    · exact Or.inl g
    · have w : num c ∧ A 243 (160 * s + c.toNat) ≠ 0 := of_decide_eq_true g.1
      have w1 : 0 ≤ c ∧ c < 160 := w.1
      refine Or.inr ⟨decide_eq_true ⟨w.1, ?_⟩, ?_⟩
      · rw [ls_243]
        by_cases q2 : 160 * s + c.toNat = 160 * s + (lsX A s).toNat
        · exfalso
          by_cases h0 : 0 ≤ lsX A s
          · omega
          · have hl := JL_len hI hs
            by_cases z : 0 < A 245 s
            · have := ls_x hI hs z; omega
            · have := ((hI.2.1 s hs).2.2.2.2.2.2.1 c.toNat (by omega)).mp w.2
              rw [List.eq_nil_of_length_eq_zero (show (JL A s).length = 0 by omega)] at this
              cases this
        · rw [if_neg q2]; exact w.2
      · have e : mkE (lsA A s) N c = mkE A N c := by unfold mkE; rw [ls_o (by decide)]
        rw [e]; exact g.2
theorem ls_in2 (hI : Inv A N nm nv) (hs : s < 4) (h : A 246 s < A 245 s) : In2 (lsA A s) N s := by
  have h2 := hI.2.1 s hs
  have h0 : 0 < A 245 s := by have := h2.2.2.2.2.2.2.2.2.2.2.2; omega
  have hx := ls_x hI hs h0
  have hj := ls_jl hI hs h0
  have hN := hI.1.2.1
  have c8 := ls_cok hI hs (hI.c8 hs)
  have c9 := ls_cok hI hs (hI.c9 hs)
  obtain ⟨g1, g2, g3, g4, g5, g6, g7, g8, g9, g10, g11, g12⟩ := h2
  rw [hj] at g4 g5 g8
  rw [List.nodup_append] at g4
  refine ⟨?_, ?_, ?_, g4.1, fun x hx => g5 x (List.mem_append_left _ hx), fun a ha => ?_, fun a ha => ?_, fun L1 x L2 q => ?_, fun a ha hc => ?_, ?_, ?_, ?_⟩
  · rw [ls_o (by decide)]; exact g1
  · rw [ls_o (by decide)]; exact g2
  · rw [ls_245, if_pos rfl]; omega
  · rw [ls_243]; split
    · exact Or.inl rfl
    · exact g6 a ha
  · rw [ls_243]
    by_cases q : a = (lsX A s).toNat
    · rw [if_pos (by omega)]
      refine ⟨fun w => absurd rfl w, fun w => ?_⟩
      exact absurd (show (a : Int) = lsX A s by omega) (g4.2.2 _ w _ List.mem_cons_self)
    · rw [if_neg (by omega), g7 a ha, hj, List.mem_append]
      refine ⟨fun w => ?_, fun w => Or.inl w⟩
      rcases w with w | w
      · exact w
      · rcases List.mem_cons.mp w with w | w
        · omega
        · cases w
  · have := g8 L1 x (L2 ++ [lsX A s]) (by rw [q]; simp)
    unfold nmd at this ⊢
    rw [ls_o (r := 11) (by decide), ls_o (r := 12) (by decide), ls_o (r := 13) (by decide)]; exact this
  · rw [ls_o (r := 9) (by decide), ls_243] at hc
    rw [ls_o (r := 10) (by decide), ls_o (r := 247) (by decide)]
    refine g9 a ha ?_
    rcases hc with hc | hc
    · exact Or.inl hc
    · right
      by_cases q : 160 * s + a = 160 * s + (lsX A s).toNat
      · rw [if_pos q] at hc; exact absurd rfl hc
      · rw [if_neg q] at hc; exact hc
  · rw [ls_248]
    by_cases q : A 248 s = lsX A s
    · rw [if_pos ⟨rfl, q⟩]; exact Or.inl rfl
    · rw [if_neg (fun g => q g.2)]
      rw [if_neg q] at c8; exact c8
  · rw [ls_249]
    by_cases q : A 249 s = lsX A s
    · rw [if_pos ⟨rfl, q⟩]; exact Or.inl rfl
    · rw [if_neg (fun g => q g.2)]
      rw [if_neg q] at c9; exact c9
  · rw [ls_o (r := 246) (by decide), ls_245, if_pos rfl]; omega
theorem c_lose (hI : Inv A N nm nv) (h : ClW σ A N nm nv s) (hs : s < 4) (hl : 0 < A 245 s) : wp (fX4_loseLast σ (20 + 40 * s)) (fun σ2 => ClW σ2 (lsA A s) N nm nv s ∧ FrC σ σ2) := by
  have g := h.g hs
  have hx := ls_x hI hs hl
  have hl2 := JL_len hI hs
  have hN := hI.1.2.1
  obtain ⟨g0, g6, g7, g8, g9, g1, g2, g3⟩ := g
  have hin : inS σ (20 + 40 * s + 1) (lsX A s) = true := by
    refine decide_eq_true ⟨show 0 ≤ lsX A s ∧ lsX A s < 160 by omega, ?_⟩
    show σ (20 + 40 * s + 2) (lsX A s).toNat ≠ 0
    rw [g2 _ (by omega)]; exact hx.2.2
  unfold fX4_loseLast
  rw [g1]
  refine wp_ck (by omega) (by omega) ?_
  rw [if_neg (by omega), if_pos (by omega)]
  refine wp_rd (by omega) (by omega) ?_
  rw [show (A 245 s - 1).toNat = (A 245 s).toNat - 1 by omega, g3 _ (by omega), show A 244 (160 * s + ((A 245 s).toNat - 1)) = lsX A s from rfl]
  show wp (b1 (fX0_drop σ (20 + 40 * s + 1) (lsX A s)) _) _
  refine wp_b1 (P := fun σ3 => σ3 = st (st σ (20 + 40 * s + 2) (lsX A s).toNat 0) (20 + 40 * s + 1) 1 (A 245 s - 1)) ?_ (fun σ3 e => ?_)
  · unfold fX0_drop
    refine wp_b1e (q_contains _ _ _) ?_
    rw [hin, if_neg (by decide)]
    refine wp_wrb (by omega) (by omega) (Or.inl rfl) ?_
    rw [st_ne (by omega), g1]
    exact wp_ck (by omega) (by omega) (wp_pf (wp_some rfl))
  · subst e
    have main : ∀ σ4 : St, (∀ a, a ≠ 20 + 40 * s → σ4 a = st (st σ (20 + 40 * s + 2) (lsX A s).toNat 0) (20 + 40 * s + 1) 1 (A 245 s - 1) a) → (∀ b, b ≠ 8 → b ≠ 9 → σ4 (20 + 40 * s) b = σ (20 + 40 * s) b) → σ4 (20 + 40 * s) 8 = lsA A s 248 s → σ4 (20 + 40 * s) 9 = lsA A s 249 s → ClW σ4 (lsA A s) N nm nv s ∧ FrC σ σ4 := by
      intro σ4 k1 k2 k8 k9
      refine ⟨Cl.site' hI h hs (ls_same hI hs hl) (fun a ha => ?_) ⟨?_, ?_, ?_, k8, k9, ?_, fun a ha => ?_, fun i hi => ?_⟩, fun a b h1 h2 => ?_⟩
      · rw [k1 a (by omega), st_fn (by omega), st_fn (by omega)]
      · rw [k2 0 (by decide) (by decide)]; exact g0
      · rw [k2 6 (by decide) (by decide), ls_o (by decide)]; exact g6
      · rw [k2 7 (by decide) (by decide), ls_o (by decide)]; exact g7
      · rw [k1 _ (by omega), st_row, if_pos rfl, ls_245, if_pos rfl]
      · rw [k1 _ (by omega), st_ne (by omega), st_row, ls_243]
        by_cases q : a = (lsX A s).toNat
        · rw [if_pos q, if_pos (by omega)]
        · rw [if_neg q, if_neg (by omega)]; exact g2 a ha
      · rw [ls_245, if_pos rfl] at hi
        rw [k1 _ (by omega), st_ne (by omega), st_ne (by omega), ls_o (by decide)]
        exact g3 i (by omega)
      · rw [k1 a (by omega), st_ne (by omega), st_ne (by omega)]
    have e8 : st (st σ (20 + 40 * s + 2) (lsX A s).toNat 0) (20 + 40 * s + 1) 1 (A 245 s - 1) (20 + 40 * s) = σ (20 + 40 * s) := by rw [st_fn (by omega), st_fn (by omega)]
    generalize st (st σ (20 + 40 * s + 2) (lsX A s).toNat 0) (20 + 40 * s + 1) 1 (A 245 s - 1) = σ3 at main e8
    have fin : ∀ σ4 : St, (∀ a, a ≠ 20 + 40 * s → σ4 a = σ3 a) → (∀ b, b ≠ 8 → σ4 (20 + 40 * s) b = σ (20 + 40 * s) b) → σ4 (20 + 40 * s) 8 = lsA A s 248 s → wp (fX4_loseLast_J52 σ4 (20 + 40 * s) (lsX A s)) (fun σ2 => ClW σ2 (lsA A s) N nm nv s ∧ FrC σ σ2) := by
      intro σ4 k1 k2 k8
      unfold fX4_loseLast_J52
      have k9 := k2 9 (by decide)
      rw [k9, g9]
      by_cases q : A 249 s = lsX A s
      · rw [if_neg (fun w => w q)]
        refine wp_pf (wp_some (main _ (fun a ha => by rw [st_fn ha]; exact k1 a ha) (fun b h8 h9 => by rw [st_row, if_neg h9]; exact k2 b h8) (by rw [st_row, if_neg (by decide)]; exact k8) ?_))
        rw [st_row, if_pos rfl, ls_249, if_pos ⟨rfl, q⟩]
      · rw [if_pos q]
        refine wp_some (main _ k1 (fun b h8 _ => k2 b h8) k8 ?_)
        rw [k9, g9, ls_249, if_neg (fun w => q w.2)]
    rw [e8, g8]
    by_cases q : A 248 s = lsX A s
    · rw [if_neg (fun w => w q)]
      refine wp_pf (fin _ (fun a ha => st_fn ha) (fun b hb => by rw [st_row, if_neg hb, e8]) ?_)
      rw [st_row, if_pos rfl, ls_248, if_pos ⟨rfl, q⟩]
    · rw [if_pos q]
      refine fin _ (fun a _ => rfl) (fun b _ => by rw [e8]) ?_
      rw [e8, g8, ls_248, if_neg (fun w => q w.2)]
def lsQ : Nat → St → Nat → St
  | 0, A, _ => A
  | q + 1, A, s => lsQ q (lsA A s) s
theorem lsQ_inv (hs : s < 4) : ∀ (q : Nat) (A : St), Inv A N nm nv → A 246 s + q ≤ A 245 s → Inv (lsQ q A s) N nm nv ∧ lsQ q A s 245 s = A 245 s - q := by
  intro q
  induction q with
  | zero => intro A hI _; exact ⟨hI, by show A 245 s = _; omega⟩
  | succ q ih =>
    intro A hI h
    have h2 := (hI.2.1 s hs).2.2.2.2.2.2.2.2.2.2.2
    have := ih (lsA A s) (hI.site (ls_same hI hs (by omega)) (ls_in2 hI hs (by omega))) (by rw [ls_o (r := 246) (by decide), ls_245, if_pos rfl]; omega)
    refine ⟨this.1, this.2.trans ?_⟩
    rw [ls_245, if_pos rfl]; omega
theorem c_crashL (hs : s < 4) {y x : Int} (hx : 0 < x) : ∀ (q m : Nat) (A σ : St), Inv A N nm nv → ClW σ A N nm nv s → A 246 s + q ≤ A 245 s → q < m → (q : Int) ≤ x → x ≤ 160 → wp (fX5_crash_L31 n y x (20 + 40 * s) m σ (x - q)) (fun r => r.1 = 0 ∧ r.2.1 = A 245 s - q ∧ Cl r.2.2 (lsQ q A s) N nm nv ∧ FrC σ r.2.2) := by
  intro q
  induction q with
  | zero =>
    intro m A σ hI h _ hm _ _
    obtain ⟨m, rfl⟩ : ∃ q, m = q + 1 := ⟨m - 1, by omega⟩
    unfold fX5_crash_L31
    rw [lpR_s]
    unfold fX5_crash_L31s
    rw [if_pos (by omega), if_neg (by omega)]
    refine wp_pfb (Or.inl rfl) (wp_some ⟨rfl, ?_, h, FrC.rf.upd (by omega)⟩)
    show st σ (20 + 40 * s) 5 0 (20 + 40 * s + 1) 1 = _
    rw [st_ne (by omega)]
    have := (h.g hs).2.2.2.2.2.1
    rw [this]; omega
  | succ q ih =>
    intro m A σ hI h hle hm hq h160
    obtain ⟨m, rfl⟩ : ∃ q, m = q + 1 := ⟨m - 1, by omega⟩
    have h2 := (hI.2.1 s hs).2.2.2.2.2.2.2.2.2.2.2
    have hI2 := hI.site (ls_same hI hs (by omega)) (ls_in2 hI hs (by omega))
    have ih2 := fun σ2 hc => ih m (lsA A s) σ2 hI2 hc (by rw [ls_o (r := 246) (by decide), ls_245, if_pos rfl]; omega) (by omega) (by omega) h160
    unfold fX5_crash_L31 at ih2 ⊢
    rw [lpR_s]
    generalize lpR (fun _ _ => none) (fX5_crash_L31s n y x (20 + 40 * s)) m = lp at ih2
    unfold fX5_crash_L31s
    rw [if_neg (by omega)]
    refine wp_b1 (c_lose hI h hs (by omega)) (fun σ2 g => wp_ck (by omega) (by omega) ?_)
    rw [show x - ((q + 1 : Nat) : Int) + 1 = x - (q : Int) by omega]
    refine wp_mono (ih2 σ2 g.1) (fun r w => ⟨w.1, ?_, w.2.2.1, g.2.tr w.2.2.2⟩)
    rw [w.2.1, ls_245, if_pos rfl]; omega
theorem r_crashL (hs : s < 4) {x : Int} : ∀ (q m : Nat) (A σ : St), Inv A N nm nv → Re σ A N nm nv → A 246 s + q ≤ A 245 s → q < m → (q : Int) ≤ x → x ≤ 160 → wp (fX6_crash_L52 n (s : Int) x m σ (x - q)) (fun r => r.1 = A 245 s - q ∧ Re r.2 (lsQ q A s) N nm nv ∧ r.2 230 0 = σ 230 0 ∧ FrR σ r.2) := by
  intro q
  induction q with
  | zero =>
    intro m A σ hI h _ hm _ _
    obtain ⟨m, rfl⟩ : ∃ q, m = q + 1 := ⟨m - 1, by omega⟩
    unfold fX6_crash_L52
    rw [lpR_s]
    unfold fX6_crash_L52s
    rw [if_pos (by omega)]
    refine wp_rd (by omega) (by omega) (wp_some ⟨?_, h, rfl, FrR.rf⟩)
    show σ 245 (s : Int).toNat = _
    rw [Int.toNat_natCast, h.atS hs (by decide) (by decide)]; omega
  | succ q ih =>
    intro m A σ hI h hle hm hq h160
    obtain ⟨m, rfl⟩ : ∃ q, m = q + 1 := ⟨m - 1, by omega⟩
    have h2 := (hI.2.1 s hs).2.2.2.2.2.2.2.2.2.2.2
    have hl : 0 < A 245 s := by omega
    have hx := ls_x hI hs hl
    have hl2 := JL_len hI hs
    have hN := hI.1.2.1
    have sa := ls_same hI hs hl
    have hI2 := hI.site sa (ls_in2 hI hs (by omega))
    have ih2 := fun σ2 hc => ih m (lsA A s) σ2 hI2 hc (by rw [ls_o (r := 246) (by decide), ls_245, if_pos rfl]; omega) (by omega) (by omega) h160
    unfold fX6_crash_L52 at ih2 ⊢
    rw [lpR_s]
    generalize lpR (fun _ _ => none) (fX6_crash_L52s n (s : Int) x) m = lp at ih2
    have e245 := h.atS hs (r := 245) (by decide) (by decide)
    have e248 := h.atS hs (r := 248) (by decide) (by decide)
    have e249 := h.atS hs (r := 249) (by decide) (by decide)
    have e244 : σ 244 (160 * s + ((A 245 s).toNat - 1)) = lsX A s := (h.2.2.1 s hs).2.2 _ (by omega)
    unfold fX6_crash_L52s
    rw [if_neg (by omega)]
    refine wp_rd (by omega) (by omega) ?_
    rw [Int.toNat_natCast, e245]
    refine wp_ck (by omega) (by omega) (wp_wr (by omega) (by omega) (wp_ck (by omega) (by omega) (wp_rd (by omega) (by omega) ?_)))
    rw [Int.toNat_natCast, st_row, if_pos rfl]
    refine wp_ck (by omega) (by omega) (wp_rd (by omega) (by omega) ?_)
    rw [show ((160 : Int) * (s : Int) + (A 245 s - 1)).toNat = 160 * s + ((A 245 s).toNat - 1) by omega, st_ne (by decide), e244]
    refine wp_ck (by omega) (by omega) (wp_ck (by omega) (by omega) (wp_wrb (by omega) (by omega) (Or.inl rfl) (wp_rd (by omega) (by omega) ?_)))
    rw [show ((160 : Int) * (s : Int) + lsX A s).toNat = 160 * s + (lsX A s).toNat by omega, Int.toNat_natCast, st_ne (by decide), st_ne (by decide), e248]
    have main : ∀ c8 : Int, c8 = lsA A s 248 s → wp (fX6_crash_J126 n lp (st (st σ 245 s (A 245 s - 1)) 243 (160 * s + (lsX A s).toNat) 0) (s : Int) x (x - ((q + 1 : Nat) : Int)) (lsX A s) c8 (s : Int)) (fun r => r.1 = A 245 s - ((q + 1 : Nat) : Int) ∧ Re r.2 (lsQ (q + 1) A s) N nm nv ∧ r.2 230 0 = σ 230 0 ∧ FrR σ r.2) := by
      intro c8 hc8
      unfold fX6_crash_J126
      refine wp_wr (by omega) (by omega) (wp_rd (by omega) (by omega) ?_)
      rw [Int.toNat_natCast, st_ne (by decide), st_ne (by decide), st_ne (by decide), e249]
      have fin : ∀ c9 : Int, c9 = lsA A s 249 s → wp (lp (st (st (st (st σ 245 s (A 245 s - 1)) 243 (160 * s + (lsX A s).toNat) 0) 248 s c8) 249 s c9) (x - (q : Int))) (fun r => r.1 = A 245 s - ((q + 1 : Nat) : Int) ∧ Re r.2 (lsQ (q + 1) A s) N nm nv ∧ r.2 230 0 = σ 230 0 ∧ FrR σ r.2) := by
        intro c9 hc9
        have G : ∀ a, (a ≠ 243 ∧ a ≠ 245 ∧ a ≠ 248 ∧ a ≠ 249) → st (st (st (st σ 245 s (A 245 s - 1)) 243 (160 * s + (lsX A s).toNat) 0) 248 s c8) 249 s c9 a = σ a := fun a ha => by
          rw [st_fn (by omega), st_fn (by omega), st_fn (by omega), st_fn (by omega)]
        have G3 : ∀ b, st (st (st (st σ 245 s (A 245 s - 1)) 243 (160 * s + (lsX A s).toNat) 0) 248 s c8) 249 s c9 243 b = if b = 160 * s + (lsX A s).toNat then 0 else σ 243 b := fun b => by
          rw [st_ne (by decide), st_ne (by decide), st_row, st_ne (by decide)]
        have G5 : ∀ b, st (st (st (st σ 245 s (A 245 s - 1)) 243 (160 * s + (lsX A s).toNat) 0) 248 s c8) 249 s c9 245 b = if b = s then A 245 s - 1 else σ 245 b := fun b => by
          rw [st_ne (by decide), st_ne (by decide), st_ne (by decide), st_row]
        have G8 : ∀ b, st (st (st (st σ 245 s (A 245 s - 1)) 243 (160 * s + (lsX A s).toNat) 0) 248 s c8) 249 s c9 248 b = if b = s then c8 else σ 248 b := fun b => by
          rw [st_ne (by decide), st_row, st_ne (by decide), st_ne (by decide)]
        have G9 : ∀ b, st (st (st (st σ 245 s (A 245 s - 1)) 243 (160 * s + (lsX A s).toNat) 0) 248 s c8) 249 s c9 249 b = if b = s then c9 else σ 249 b := fun b => by
          rw [st_row, st_ne (by decide), st_ne (by decide), st_ne (by decide)]
        generalize st (st (st (st σ 245 s (A 245 s - 1)) 243 (160 * s + (lsX A s).toNat) 0) 248 s c8) 249 s c9 = σ2 at G G3 G5 G8 G9
        have hS := h.2.2.1 s hs
        have re2 : Re σ2 (lsA A s) N nm nv := by
          refine h.site hI hs sa (fun a ha => G a (by omega)) (fun t ht hne => ⟨fun a ha => ⟨?_, by rw [G 244 (by decide)]⟩, fun r r1 r2 => ?_⟩) ⟨fun r r1 r2 => ?_, fun a ha => ?_, fun a ha => ?_⟩ (fun w hw => ?_)
          · rw [G3, if_neg (by omega)]
          · rcases (show r = 245 ∨ r = 246 ∨ r = 247 ∨ r = 248 ∨ r = 249 by omega) with rfl | rfl | rfl | rfl | rfl
            · rw [G5, if_neg hne]
            · rw [G 246 (by decide)]
            · rw [G 247 (by decide)]
            · rw [G8, if_neg hne]
            · rw [G9, if_neg hne]
          · rcases (show r = 245 ∨ r = 246 ∨ r = 247 ∨ r = 248 ∨ r = 249 ∨ r = 250 by omega) with rfl | rfl | rfl | rfl | rfl | rfl
            · rw [G5, if_pos rfl, ls_245, if_pos rfl]
            · rw [G 246 (by decide), ls_o (by decide)]; exact hS.1 246 (by decide) (by decide)
            · rw [G 247 (by decide), ls_o (by decide)]; exact hS.1 247 (by decide) (by decide)
            · rw [G8, if_pos rfl]; exact hc8
            · rw [G9, if_pos rfl]; exact hc9
            · rw [G 250 (by decide), ls_o (by decide)]; exact hS.1 250 (by decide) (by decide)
          · rw [G3, ls_243]
            by_cases q : a = (lsX A s).toNat
            · rw [if_pos (by omega), if_pos (by omega)]
            · rw [if_neg (by omega), if_neg (by omega)]; exact hS.2.1 a ha
          · rw [G 244 (by decide), ls_o (by decide)]; exact hS.2.2 a ha
          · have hj := ls_jl hI hs hl
            have hjl : (JL (lsA A s) s).length = (A 245 s).toNat - 1 := by
              have : (JL (lsA A s) s).length = (lsA A s 245 s).toNat := seg_len _ _ _
              rw [this, ls_245, if_pos rfl]; omega
            rw [hj, List.take_append_of_le_length (by omega)]
        refine wp_mono (ih2 σ2 re2) (fun r w => ⟨?_, w.2.1, ?_, fun a b hab => ?_⟩)
        · rw [w.1, ls_245, if_pos rfl]; omega
        · rw [w.2.2.1, G 230 (by decide)]
        · rw [w.2.2.2 a b hab, G a (by omega)]
      by_cases q9 : A 249 s = lsX A s
      · rw [if_neg (fun w => w q9)]
        refine wp_wr (by omega) (by omega) (wp_ck (by omega) (by omega) ?_)
        rw [Int.toNat_natCast, show x - ((q + 1 : Nat) : Int) + 1 = x - (q : Int) by omega]
        exact fin (-1) (by rw [ls_249, if_pos ⟨rfl, q9⟩])
      · rw [if_pos q9]
        refine wp_rd (by omega) (by omega) (wp_wr (by omega) (by omega) (wp_ck (by omega) (by omega) ?_))
        rw [Int.toNat_natCast, show x - ((q + 1 : Nat) : Int) + 1 = x - (q : Int) by omega, st_ne (by decide), st_ne (by decide), st_ne (by decide), e249]
        exact fin _ (by rw [ls_249, if_neg (fun w => q9 w.2)])
    by_cases q8 : A 248 s = lsX A s
    · rw [if_neg (fun w => w q8)]
      exact main (-1) (by rw [ls_248, if_pos ⟨rfl, q8⟩])
    · rw [if_pos q8]
      refine wp_rd (by omega) (by omega) ?_
      rw [Int.toNat_natCast, st_ne (by decide), st_ne (by decide), e248]
      exact main _ (by rw [ls_248, if_neg (fun w => q8 w.2)])
theorem c_unsafe (hI : Inv A N nm nv) (h : Cl σ A N nm nv) (hs : s < 4) : fX4_unsafeCount σ (20 + 40 * s) = some (A 245 s - A 246 s) := by
  have w := h.site hs
  have hl := JL_len hI hs
  have h2 := (hI.2.1 s hs).2.2.2.2.2.2.2.2.2.2.2
  have hN := hI.1.2.1
  have e : fX4_knownOf σ (20 + 40 * s) (σ (20 + 40 * s) 0) = some (A 246 s) := by
    unfold fX4_knownOf
    rw [w.1, if_neg (by omega), if_neg (by omega), rd_ok (by omega) (by omega), Int.toNat_natCast, w.2.2.2.2.2.2.2.2.2.1 s hs, (hI.2.2.1 s s hs hs).2]
  unfold fX4_unsafeCount
  rw [b1_ok e, w.2.2.2.2.2.2.1, ck_ok (by omega) (by omega)]
theorem so_crash : So_crash Rel := by
  intro nm nv σ y1 y2 y3 ⟨A, N, hI, hC, hR⟩ _ _ _ _
  have hN := hI.1.2.1
  refine ⟨1000, ?_⟩
  by_cases hx : 0 ≤ y1 ∧ y1 < 4
  · have hs : y1.toNat < 4 := by omega
    have h2 := (hI.2.1 y1.toNat hs).2.2.2.2.2.2.2.2.2.2.2
    have hl := JL_len hI hs
    by_cases hy : 0 ≤ y2 ∧ y2 ≤ A 245 y1.toNat - A 246 y1.toNat
    · have hiv := lsQ_inv (N := N) (nm := nm) (nv := nv) hs y2.toNat A hI (by omega)
      refine So_fin (A' := lsQ y2.toNat A y1.toNat) (F := fun σ1 => fX6_crash 1000 σ1 y1 y2) (g := fun v => v) (k := 0) (kk := 0) (v := A 245 y1.toNat - (y2.toNat : Int)) rfl (fun _ => rfl) hR hiv.1 ?_ (fun σ1 hr1 => ?_)
      · unfold fX5_crash
        rw [xw_ok (c_siteAt hx), if_neg (by omega)]
        refine wp_b1e (c_unsafe hI hC hs) ?_
        rw [if_pos hy.2]
        by_cases z : y2 = 0
        · subst z
          unfold fX5_crash_L31
          rw [show (1000 : Nat) = 999 + 1 from rfl, lpR_s]
          unfold fX5_crash_L31s
          rw [if_pos (by decide), if_pos (by decide)]
          refine wp_some ⟨rfl, fun _ => ?_, hC, FrC.rf⟩
          show σ (20 + 40 * y1.toNat + 1) 1 = A 245 y1.toNat - ((0 : Int).toNat : Int)
          rw [(hC.g hs).2.2.2.2.2.1]
          show _ = A 245 y1.toNat - 0
          omega
        · have := c_crashL (n := 1000) hs (y := y1) (x := y2) (by omega) y2.toNat 1000 A σ hI (hC.w hs) (by omega) (by omega) (by omega) (by omega)
          rw [show y2 - (y2.toNat : Int) = 0 by omega] at this
          exact wp_mono this (fun r w => ⟨w.1, fun _ => w.2.1, w.2.2.1, w.2.2.2⟩)
      · unfold fX6_crash
        refine wp_b1e (r_isSite y1) ?_
        rw [decide_eq_true hx, if_pos (by decide)]
        refine wp_rd hx.1 (by omega) (wp_rd hx.1 (by omega) ?_)
        rw [hr1.atS hs (by decide) (by decide), hr1.atS hs (by decide) (by decide)]
        refine wp_ck (by omega) (by omega) (wp_b1e (r_isIn _ _ _) ?_)
        rw [decide_eq_true hy, if_neg (by decide)]
        unfold fX6_crash_J38
        refine wp_pf ?_
        have hr2 := hr1.fr (FrS.up0 (v := 0) FrS.rf)
        have fr := (FrS.up0 (v := 0) (FrS.rf (σ := σ1))).R
        have e0 : st σ1 230 0 0 230 0 = 0 := by rw [st_row, if_pos rfl]
        generalize st σ1 230 0 0 = σ2 at hr2 fr e0
        rw [if_pos (by omega)]
        have := r_crashL (n := 1000) hs (x := y2) y2.toNat 1000 A σ2 hI hr2 (by omega) (by omega) (by omega) (by omega)
        rw [show y2 - (y2.toNat : Int) = 0 by omega, Int.toNat_of_nonneg hx.1] at this
        exact wp_mono this (fun r w => ⟨w.2.2.1.trans e0, fun _ => w.1, w.2.1, fr.tr w.2.2.2⟩)
    · refine So_fin (F := fun σ1 => fX6_crash 1000 σ1 y1 y2) (g := fun v => v) (k := 2) (kk := 2) (v := 0) rfl (fun q => (by cases q)) hR hI ?_ (fun σ1 hr1 => ?_)
      · unfold fX5_crash
        have bad : wp (fX5_crash_J18 1000 σ y1 y2) (OkC σ A N nm nv 2 0) := wp_some ⟨rfl, fun q => (by cases q), hC, FrC.rf⟩
        rw [xw_ok (c_siteAt hx)]
        by_cases g : y2 < 0
        · rw [if_pos g]; exact bad
        · rw [if_neg g]
          refine wp_b1e (c_unsafe hI hC hs) ?_
          rw [if_neg (by omega)]; exact bad
      · unfold fX6_crash
        refine wp_b1e (r_isSite y1) ?_
        rw [decide_eq_true hx, if_pos (by decide)]
        refine wp_rd hx.1 (by omega) (wp_rd hx.1 (by omega) ?_)
        rw [hr1.atS hs (by decide) (by decide), hr1.atS hs (by decide) (by decide)]
        refine wp_ck (by omega) (by omega) (wp_b1e (r_isIn _ _ _) ?_)
        rw [decide_eq_false hy, if_pos (by rfl)]
        unfold fX6_crash_J38
        exact r_bad (by decide) (r_badR (by decide) hr1 FrR.rf)
  · refine So_fin (F := fun σ1 => fX6_crash 1000 σ1 y1 y2) (g := fun v => v) (k := 1) (kk := 1) (v := 0) rfl (fun q => (by cases q)) hR hI (by unfold fX5_crash; exact c_no hC hx) (fun σ1 hr1 => ?_)
    unfold fX6_crash
    refine wp_b1e (r_isSite y1) ?_
    rw [decide_eq_false hx, if_neg (by decide)]
    unfold fX6_crash_J38
    exact r_bad (by decide) (r_badR (by decide) hr1 FrR.rf)
end CRASH
