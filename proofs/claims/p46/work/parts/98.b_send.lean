/-! ===== save, name, send ===== -/
section SEND
variable {σ τ A B : St} {N nm nv nm' nv' n s : Nat}
def SaG (A B : St) : Prop := ∀ r, (r < 246 ∨ (246 < r ∧ r < 252) ∨ r = 253 ∨ r = 256 ∨ 258 < r) → B r = A r
theorem SaG.t (e : SaG A B) : SaT A B := fun k _ k2 => e k (by omega)
theorem SaG.hs (e : SaG A B) (t : Nat) : Hs B t = Hs A t := by funext x; unfold Hs; rw [e 243 (by decide)]
theorem SaG.jl (e : SaG A B) (t : Nat) : JL B t = JL A t := by unfold JL; rw [e 244 (by decide), e 245 (by decide)]
theorem SaG.ok (e : SaG A B) {t : Nat} {c : Int} (h : curOK A N t c) : curOK B N t c := by
  unfold curOK at h ⊢
  rw [e.hs, e.t.m]; exact h
theorem Inv.gen (hI : Inv A N nm nv) (e : SaG A B) (hm : ∀ t, t < 4 → 0 ≤ B 246 t ∧ B 246 t ≤ A 245 t) (h3 : In3 B) (h4 : In4 B N nm') (h5 : In5 B N nv') : Inv B N nm' nv' := by
  obtain ⟨q1, q2, _, _, _⟩ := hI
  refine ⟨e.t.in1 q1, fun t ht => ?_, h3, h4, h5⟩
  obtain ⟨g1, g2, g3, g4, g5, g6, g7, g8, g9, g10, g11, g12⟩ := q2 t ht
  unfold In2
  rw [e.jl, e 250 (by decide), e 247 (by decide), e 245 (by decide), e 248 (by decide), e 249 (by decide), e 243 (by decide), e.t 9 (by decide) (by decide), e.t 10 (by decide) (by decide)]
  exact ⟨g1, g2, g3, g4, g5, g6, g7, e.t.cj g8, g9, e.ok g10, e.ok g11, hm t ht⟩
theorem Cl.gen (hI : Inv A N nm nv) (h : Cl σ A N nm nv) (e : SaG A B) (hτ : ∀ a, 3 < a → a < 300 → (∀ t, t < 4 → a ≠ 20 + 40 * t + 4) → τ a = σ a) (hk : ∀ s t, s < 4 → t < 4 → τ (20 + 40 * s + 4) t = B 252 (4 * s + t)) (hM : τ 0 9 = (nm' : Int) ∧ τ 2 0 = (nm' : Int) ∧ ∀ m, m < nm' → ClM τ B m) (hV : τ 0 10 = (nv' : Int) ∧ τ 3 0 = (nv' : Int) ∧ ∀ v, v < nv' → ClV τ B v) : Cl τ B N nm' nv' := by
  have pd : ∀ q, 4 < q → q ≤ 213 → (∀ t, t < 4 → q + 16 < 20 + 40 * t + 4 ∨ 20 + 40 * t + 4 < q) → PD σ q N → PD τ q N := fun q q0 q1 hq z k k1 k2 i hi => by
    rw [hτ _ (by omega) (by omega) (fun t ht => by have := hq t ht; omega)]; exact z k k1 k2 i hi
  obtain ⟨h1, h2, h3, h4, _, _⟩ := h
  refine ⟨e.t.tt ⟨fun q q1 q2 i => ?_, h1.2⟩, fun t ht => ?_, pd 180 (by decide) (by decide) (fun t ht => by omega) h3, pd 200 (by decide) (by decide) (fun t ht => by omega) h4, hM, hV⟩
  · rw [hτ q (by omega) (by omega) (fun t ht => by omega)]; exact h1.1 q q1 q2 i
  · have q := h2 t ht
    unfold ClS at q ⊢
    rw [hτ (20 + 40 * t) (by omega) (by omega) (fun t ht => by omega), hτ (20 + 40 * t + 1) (by omega) (by omega) (fun t ht => by omega), hτ (20 + 40 * t + 2) (by omega) (by omega) (fun t ht => by omega), hτ (20 + 40 * t + 3) (by omega) (by omega) (fun t ht => by omega), e 250 (by decide), e 247 (by decide), e 248 (by decide), e 249 (by decide), e 245 (by decide), e 243 (by decide), e 244 (by decide), e.hs, e.t.doc hI.1]
    refine ⟨q.1, q.2.1, q.2.2.1, q.2.2.2.1, q.2.2.2.2.1, q.2.2.2.2.2.1, q.2.2.2.2.2.2.1, q.2.2.2.2.2.2.2.1, q.2.2.2.2.2.2.2.2.1, fun u hu => hk t u ht hu, pd _ (by omega) (by omega) (fun t ht => by omega) q.2.2.2.2.2.2.2.2.2.2.1, fun w => ?_⟩
    have pp := q.2.2.2.2.2.2.2.2.2.2.2 w
    refine ⟨?_, pp.2.1, ?_, fun k k1 k2 i => ?_⟩
    · rw [hτ _ (by omega) (by omega) (fun t ht => by omega)]; exact pp.1
    · rw [hτ _ (by omega) (by omega) (fun t ht => by omega)]; exact pp.2.2.1
    · rw [hτ _ (by omega) (by omega) (fun t ht => by omega)]; exact pp.2.2.2 k k1 k2 i
theorem ClM.fr {m : Nat} (h : ClM σ A m) (h0 : τ (300 + 4 * m) = σ (300 + 4 * m)) (h2 : τ (300 + 4 * m + 2) = σ (300 + 4 * m + 2)) (h3 : τ (300 + 4 * m + 3) = σ (300 + 4 * m + 3)) (e0 : B 254 m = A 254 m) (e2 : ∀ a, a < 160 → B 255 (160 * m + a) = A 255 (160 * m + a)) (e3 : ∀ t, t < 4 → B 257 (4 * m + t) = A 257 (4 * m + t)) : ClM τ B m := by
  unfold ClM at h ⊢
  rw [h0, h2, h3, e0]
  exact ⟨h.1, fun a ha => by rw [e2 a ha]; exact h.2.1 a ha, fun t ht => by rw [e3 t ht]; exact h.2.2 t ht⟩
/-- what is saved -/
def svA (A : St) (s : Nat) : St := fun r b => if r = 246 then (if b = s then A 245 s else A 246 b) else if r = 252 then (if b = 4 * s + s then A 245 s else A 252 b) else A r b
theorem sv_246 (b : Nat) : svA A s 246 b = if b = s then A 245 s else A 246 b := rfl
theorem sv_252 (b : Nat) : svA A s 252 b = if b = 4 * s + s then A 245 s else A 252 b := rfl
theorem sv_o {r : Nat} (h : r ≠ 246 ∧ r ≠ 252) : svA A s r = A r := by
  funext b; unfold svA; rw [if_neg h.1, if_neg h.2]
theorem sv_g : SaG A (svA A s) := fun r hr => sv_o (by omega)
theorem Inv.sv (hI : Inv A N nm nv) (hs : s < 4) : Inv (svA A s) N nm nv := by
  obtain ⟨q1, q2, q3, q4, q5⟩ := id hI
  have hb : ∀ t, t < 4 → 0 ≤ A 246 t ∧ A 246 t ≤ A 245 t := fun t ht => (q2 t ht).2.2.2.2.2.2.2.2.2.2.2
  have up : ∀ t, t < 4 → A 246 t ≤ svA A s 246 t := fun t ht => by
    rw [sv_246]; split
    · rename_i e; rw [e]; exact (hb s hs).2
    · omega
  refine hI.gen sv_g (fun t ht => ?_) (fun s1 t h1 h2 => ⟨⟨?_, ?_⟩, ?_⟩) ?_ ?_
  · rw [sv_246]
    have := hb t ht
    split
    · rename_i e; rw [e]; have := hb s hs; omega
    · exact this
  · rw [sv_252]
    have := (q3 s1 t h1 h2).1.1
    have := hb s hs
    split <;> omega
  · rw [sv_252]
    have h4 := (q3 s1 t h1 h2).1.2
    have h5 := up t h2
    split
    · rename_i e
      have et : t = s := by omega
      rw [sv_246, if_pos et]; omega
    · omega
  · rw [sv_252, sv_246]
    by_cases q : s1 = s
    · rw [if_pos (by omega), if_pos q]
    · rw [if_neg (by omega), if_neg q]; exact (q3 s1 t h1 h2).2
  · obtain ⟨g1, g2, g3⟩ := q4
    refine ⟨g1, fun m hm => ?_, ?_⟩
    · have z := g2 m hm
      refine ⟨by rw [sv_o (by decide)]; exact z.1, ?_, fun t ht => ?_⟩
      · have : Ms (svA A s) m = Ms A m := by funext x; unfold Ms; rw [sv_o (by decide)]
        rw [this]; exact sv_g.t.cl z.2.1
      · rw [sv_o (r := 257) (by decide)]
        have := z.2.2 t ht
        have := up t ht
        omega
    · rw [sv_o (by decide)]; exact g3
  · obtain ⟨g1, g2⟩ := q5
    refine ⟨g1, fun v hv => ?_⟩
    have z := g2 v hv
    have : Vs (svA A s) v = Vs A v := by funext x; unfold Vs; rw [sv_o (by decide)]
    rw [this, sv_o (r := 258) (by decide)]
    exact ⟨sv_g.t.cl z.1, z.2⟩
theorem mem_take_mono {L : List Int} {p q : Nat} (h : p ≤ q) {x : Int} (hx : x ∈ L.take p) : x ∈ L.take q := by
  have : L.take p = (L.take q).take p := by rw [List.take_take, Nat.min_eq_left h]
  rw [this] at hx
  exact List.mem_of_mem_take hx
/-- a set is copied -/
theorem c_copy {a0 o1 : Nat} (h1 : o1 ≠ a0) (h2 : o1 + 1 ≠ a0) (h3 : o1 ≠ a0 + 1) (hn : 200 ≤ n) : wp (fX0_copyFrom n σ a0 o1) (fun σ2 => (∀ a, a ≠ a0 → a ≠ a0 + 1 → σ2 a = σ a) ∧ ∀ i : Nat, i < 160 → σ2 (a0 + 1) i = b2i (inS σ o1 (i : Int))) := by
  have key1 : ∀ (q m i : Nat) (σ1 : St), i + q = 160 → q < m → (∀ a, a ≠ a0 + 1 → σ1 a = σ a) → (∀ j : Nat, j < i → σ1 (a0 + 1) j = b2i (inS σ o1 (j : Int))) → wp (fX0_copyFrom_L2 n a0 o1 m σ1 (i : Int)) (fun σ2 => (∀ a, a ≠ a0 → a ≠ a0 + 1 → σ2 a = σ a) ∧ ∀ i : Nat, i < 160 → σ2 (a0 + 1) i = b2i (inS σ o1 (i : Int))) := by
    intro q
    induction q with
    | zero =>
      intro m i σ1 e hm f g
      obtain ⟨m, rfl⟩ : ∃ q, m = q + 1 := ⟨m - 1, by omega⟩
      unfold fX0_copyFrom_L2
      rw [lpR_s]
      unfold fX0_copyFrom_L2s
      rw [if_pos (by omega)]
      refine wp_pf (wp_some ⟨fun a q1 q2 => by rw [st_fn q1]; exact f a q2, fun j hj => ?_⟩)
      rw [st_ne (by omega)]; exact g j (by omega)
    | succ q ih =>
      intro m i σ1 e hm f g
      obtain ⟨m, rfl⟩ : ∃ q, m = q + 1 := ⟨m - 1, by omega⟩
      have ih2 := fun σ2 => ih m (i + 1) σ2 (by omega) (by omega)
      unfold fX0_copyFrom_L2 at ih2 ⊢
      rw [lpR_s]
      generalize lpR (fun _ _ => none) (fX0_copyFrom_L2s n a0 o1) m = lp at ih2
      unfold fX0_copyFrom_L2s
      rw [if_neg (by omega)]
      have ei : inS σ1 o1 (i : Int) = inS σ o1 (i : Int) := by unfold inS; rw [f (o1 + 1) (by omega)]
      refine wp_b1e (q_contains σ1 o1 _) ?_
      rw [ei]
      refine wp_wrb (by omega) (by omega) (b2i_b _) (wp_ck (by omega) (by omega) ?_)
      rw [Int.toNat_natCast]
      refine ih2 _ (fun a ha => by rw [st_fn ha]; exact f a ha) (fun j hj => ?_)
      rw [st_row]
      split
      · rename_i e2; rw [e2]
      · exact g j (by omega)
  unfold fX0_copyFrom
  exact key1 160 n 0 σ (by decide) (by omega) (fun _ _ => rfl) (fun j hj => by omega)
theorem c_has (hI : Inv A N nm nv) (h : ClG σ A s) (hs : s < 4) {i : Nat} (hi : i < 160) : b2i (inS σ (20 + 40 * s + 1) (i : Int)) = A 243 (160 * s + i) := by
  have e := h.2.2.2.2.2.2.1 i hi
  have hb := (hI.2.1 s hs).2.2.2.2.2.1 i hi
  unfold inS
  rw [show 20 + 40 * s + 1 + 1 = 20 + 40 * s + 2 from rfl, Int.toNat_natCast, e]
  rcases hb with q | q
  · rw [q, decide_eq_false (fun w => w.2 rfl)]; rfl
  · rw [q, decide_eq_true ⟨show 0 ≤ (i : Int) ∧ (i : Int) < 160 by omega, by decide⟩]; rfl
/-- a version is named -/
def nmA (A : St) (s nv : Nat) : St := fun r b => if r = 258 then (if 160 * nv ≤ b then (if b < 160 * nv + 160 then A 243 (160 * s + (b - 160 * nv)) else A 258 b) else A 258 b) else A r b
theorem nm_258 (v a : Nat) (ha : a < 160) : nmA A s nv 258 (160 * v + a) = if v = nv then A 243 (160 * s + a) else A 258 (160 * v + a) := by
  show (if 160 * nv ≤ 160 * v + a then (if 160 * v + a < 160 * nv + 160 then A 243 (160 * s + (160 * v + a - 160 * nv)) else A 258 (160 * v + a)) else A 258 (160 * v + a)) = _
  by_cases q : v = nv
  · rw [if_pos q, if_pos (by omega), if_pos (by omega), q, show 160 * nv + a - 160 * nv = a by omega]
  · rw [if_neg q]
    by_cases q2 : 160 * nv ≤ 160 * v + a
    · rw [if_pos q2, if_neg (by omega)]
    · rw [if_neg q2]
theorem nm_o {r : Nat} (h : r ≠ 258) : nmA A s nv r = A r := by
  funext b; unfold nmA; rw [if_neg h]
theorem nm_g : SaG A (nmA A s nv) := fun r hr => nm_o (by omega)
theorem Inv.vers (hI : Inv A N nm nv) (hs : s < 4) (hv : nv < 10) : Inv (nmA A s nv) N nm (nv + 1) := by
  obtain ⟨q1, q2, q3, q4, q5⟩ := id hI
  refine hI.gen nm_g (fun t ht => ?_) ?_ ?_ ?_
  · rw [nm_o (by decide)]; exact (q2 t ht).2.2.2.2.2.2.2.2.2.2.2
  · unfold In3 at q3 ⊢
    rw [nm_o (by decide), nm_o (by decide)]; exact q3
  · obtain ⟨g1, g2, g3⟩ := q4
    refine ⟨g1, fun m hm => ?_, by rw [nm_o (by decide)]; exact g3⟩
    have z := g2 m hm
    rw [nm_o (r := 254) (by decide), nm_o (r := 257) (by decide), nm_o (r := 246) (by decide)]
    refine ⟨z.1, ?_, z.2.2⟩
    have : Ms (nmA A s nv) m = Ms A m := by funext x; unfold Ms; rw [nm_o (by decide)]
    rw [this]; exact nm_g.t.cl z.2.1
  · obtain ⟨g1, g2⟩ := q5
    refine ⟨by omega, fun v hv2 => ?_⟩
    by_cases q : v = nv
    · subst q
      have hh : Vs (nmA A s v) v = Hs A s := by
        funext x
        unfold Vs Hs
        refine decide_eq_decide.mpr ⟨fun w => ⟨w.1, ?_⟩, fun w => ⟨w.1, ?_⟩⟩
        · have w1 : 0 ≤ x ∧ x < 160 := w.1
          have := w.2
          rw [nm_258 _ _ (by omega), if_pos rfl] at this; exact this
        · have w1 : 0 ≤ x ∧ x < 160 := w.1
          rw [nm_258 _ _ (by omega), if_pos rfl]; exact w.2
      rw [hh]
      refine ⟨nm_g.t.cl ((q2 s hs).cl q1.2.1), fun a ha => ?_⟩
      rw [nm_258 _ _ ha, if_pos rfl]
      have g := q2 s hs
      refine ⟨g.2.2.2.2.2.1 a ha, fun w => ?_⟩
      have := g.2.2.2.2.1 _ ((g.2.2.2.2.2.2.1 a ha).mp w)
      omega
    · have z := g2 v (by omega)
      have hh : Vs (nmA A s nv) v = Vs A v := by
        funext x
        unfold Vs
        refine decide_eq_decide.mpr ⟨fun w => ⟨w.1, ?_⟩, fun w => ⟨w.1, ?_⟩⟩
        · have w1 : 0 ≤ x ∧ x < 160 := w.1
          have := w.2
          rw [nm_258 _ _ (by omega), if_neg q] at this; exact this
        · have w1 : 0 ≤ x ∧ x < 160 := w.1
          rw [nm_258 _ _ (by omega), if_neg q]; exact w.2
      rw [hh]
      refine ⟨nm_g.t.cl z.1, fun a ha => ?_⟩
      rw [nm_258 _ _ ha, if_neg q]; exact z.2 a ha
end SEND

