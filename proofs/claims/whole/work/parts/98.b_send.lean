/-! ===== save, name, send ===== -/
section SEND
variable {σ τ A B : St} {N nm nv nm' nv' n s : Nat}
def SaG (A B : St) : Prop := ∀ r, (r < 246 ∨ (246 < r ∧ r < 252) ∨ r = 253 ∨ r = 256 ∨ 258 < r) → B r = A r
theorem SaG.t (e : SaG A B) : SaT A B := fun k _ k2 => e k (by omega)
theorem SaG.hs (e : SaG A B) (t : Nat) : Hs B t = Hs A t := by funext x; unfold Hs; rw [e 243 (by decide)]
theorem SaG.jl (e : SaG A B) (t : Nat) : JL B t = JL A t := by unfold JL; rw [e 244 (by decide), e 245 (by decide)]
theorem SaG.ok (e : SaG A B) {t : Nat} {c : Int} (h : curOK A N t c) : curOK B N t c := by
  unfold curOK at h ⊢
  rw [e.hs, e.t.m]; exact h
theorem Inv.gen (hI : Inv A N nm nv) (e : SaG A B) (hm : ∀ t, t < 4 → 0 ≤ B 246 t ∧ B 246 t ≤ A 245 t) (h3 : In3 B) (h4 : In4 B N nm') (h5 : In5 B N nv') : Inv B N nm' nv' := by
  obtain ⟨q1, q2, _, _, _⟩ := hI
  refine ⟨e.t.in1 q1, fun t ht => ?_, h3, h4, h5⟩
  obtain ⟨g1, g2, g3, g4, g5, g6, g7, g8, g9, g10, g11, g12⟩ := q2 t ht
  unfold In2
  rw [e.jl, e 250 (by decide), e 247 (by decide), e 245 (by decide), e 248 (by decide), e 249 (by decide), e 243 (by decide), e.t 9 (by decide) (by decide), e.t 10 (by decide) (by decide)]
  exact ⟨g1, g2, g3, g4, g5, g6, g7, e.t.cj g8, g9, e.ok g10, e.ok g11, hm t ht⟩
theorem Cl.gen (hI : Inv A N nm nv) (h : Cl σ A N nm nv) (e : SaG A B) (hτ : ∀ a, 3 < a → a < 300 → (∀ t, t < 4 → a ≠ 20 + 40 * t + 4) → τ a = σ a) (hk : ∀ s t, s < 4 → t < 4 → τ (20 + 40 * s + 4) t = B 252 (4 * s + t)) (hM : τ 0 9 = (nm' : Int) ∧ τ 2 0 = (nm' : Int) ∧ ∀ m, m < nm' → ClM τ B m) (hV : τ 0 10 = (nv' : Int) ∧ τ 3 0 = (nv' : Int) ∧ ∀ v, v < nv' → ClV τ B v) : Cl τ B N nm' nv' := by
  have pd : ∀ q, 4 < q → q ≤ 213 → (∀ t, t < 4 → q + 16 < 20 + 40 * t + 4 ∨ 20 + 40 * t + 4 < q) → PD σ q N → PD τ q N := fun q q0 q1 hq z k k1 k2 i hi => by
    rw [hτ _ (by omega) (by omega) (fun t ht => by have := hq t ht; omega)]; exact z k k1 k2 i hi
  obtain ⟨h1, h2, h3, h4, _, _⟩ := h
  refine ⟨e.t.tt ⟨fun q q1 q2 i => ?_, h1.2⟩, fun t ht => ?_, pd 180 (by decide) (by decide) (fun t ht => by omega) h3, pd 200 (by decide) (by decide) (fun t ht => by omega) h4, hM, hV⟩
  · rw [hτ q (by omega) (by omega) (fun t ht => by omega)]; exact h1.1 q q1 q2 i
  · have q := h2 t ht
    unfold ClS at q ⊢
    rw [hτ (20 + 40 * t) (by omega) (by omega) (fun t ht => by omega), hτ (20 + 40 * t + 1) (by omega) (by omega) (fun t ht => by omega), hτ (20 + 40 * t + 2) (by omega) (by omega) (fun t ht => by omega), hτ (20 + 40 * t + 3) (by omega) (by omega) (fun t ht => by omega), e 250 (by decide), e 247 (by decide), e 248 (by decide), e 249 (by decide), e 245 (by decide), e 243 (by decide), e 244 (by decide), e.hs, e.t.doc hI.1]
    refine ⟨q.1, q.2.1, q.2.2.1, q.2.2.2.1, q.2.2.2.2.1, q.2.2.2.2.2.1, q.2.2.2.2.2.2.1, q.2.2.2.2.2.2.2.1, q.2.2.2.2.2.2.2.2.1, fun u hu => hk t u ht hu, pd _ (by omega) (by omega) (fun t ht => by omega) q.2.2.2.2.2.2.2.2.2.2.1, fun w => ?_⟩
    have pp := q.2.2.2.2.2.2.2.2.2.2.2 w
    refine ⟨?_, pp.2.1, ?_, fun k k1 k2 i => ?_⟩
    · rw [hτ _ (by omega) (by omega) (fun t ht => by omega)]; exact pp.1
    · rw [hτ _ (by omega) (by omega) (fun t ht => by omega)]; exact pp.2.2.1
    · rw [hτ _ (by omega) (by omega) (fun t ht => by omega)]; exact pp.2.2.2 k k1 k2 i
theorem Re.gen (h : Re σ A N nm nv) (e : SaG A B) (hτ : ∀ a b, (231 ≤ a ∧ a < 246) ∨ (247 ≤ a ∧ a ≤ 250) ∨ (a = 230 ∧ (b = 1 ∨ b = 10)) → τ a b = σ a b) (h246 : ∀ t, t < 4 → τ 246 t = B 246 t) (hK : ReK τ B) (hM : τ 230 21 = (nm' : Int) ∧ ReM τ B nm') (hV : τ 230 26 = (nv' : Int) ∧ ∀ v a, v < nv' → a < 160 → τ 258 (160 * v + a) = B 258 (160 * v + a)) : Re τ B N nm' nv' := by
  obtain ⟨h1, h2, h3, _, _, _⟩ := h
  refine ⟨e.t.rt ⟨?_, fun a ha => ?_⟩, ?_, fun t ht => ?_, hK, hM, hV⟩
  · rw [hτ 230 1 (by omega)]; exact h1.1
  · rw [hτ 233 a (by omega), hτ 234 a (by omega), hτ 235 a (by omega), hτ 236 a (by omega), hτ 237 a (by omega), hτ 238 a (by omega), hτ 239 a (by omega), hτ 240 a (by omega), hτ 242 a (by omega)]
    exact h1.2 a ha
  · rw [hτ 230 10 (by omega), e.t 8 (by decide) (by decide)]; exact h2
  · obtain ⟨q1, q2, q3⟩ := h3 t ht
    refine ⟨fun r r1 r2 => ?_, fun a ha => ?_, fun a ha => ?_⟩
    · by_cases q : r = 246
      · rw [q]; exact h246 t ht
      · rw [hτ r t (by omega), e r (by omega)]; exact q1 r r1 r2
    · rw [hτ 243 _ (by omega), e 243 (by decide)]; exact q2 a ha
    · rw [hτ 244 _ (by omega), e 244 (by decide)]; exact q3 a ha
theorem ClM.fr {m : Nat} (h : ClM σ A m) (h0 : τ (300 + 4 * m) = σ (300 + 4 * m)) (h2 : τ (300 + 4 * m + 2) = σ (300 + 4 * m + 2)) (h3 : τ (300 + 4 * m + 3) = σ (300 + 4 * m + 3)) (e0 : B 254 m = A 254 m) (e2 : ∀ a, a < 160 → B 255 (160 * m + a) = A 255 (160 * m + a)) (e3 : ∀ t, t < 4 → B 257 (4 * m + t) = A 257 (4 * m + t)) : ClM τ B m := by
  unfold ClM at h ⊢
  rw [h0, h2, h3, e0]
  exact ⟨h.1, fun a ha => by rw [e2 a ha]; exact h.2.1 a ha, fun t ht => by rw [e3 t ht]; exact h.2.2 t ht⟩
/-- what is saved -/
def svA (A : St) (s : Nat) : St := fun r b => if r = 246 then (if b = s then A 245 s else A 246 b) else if r = 252 then (if b = 4 * s + s then A 245 s else A 252 b) else A r b
theorem sv_246 (b : Nat) : svA A s 246 b = if b = s then A 245 s else A 246 b := rfl
theorem sv_252 (b : Nat) : svA A s 252 b = if b = 4 * s + s then A 245 s else A 252 b := rfl
theorem sv_o {r : Nat} (h : r ≠ 246 ∧ r ≠ 252) : svA A s r = A r := by
  funext b; unfold svA; rw [if_neg h.1, if_neg h.2]
theorem sv_g : SaG A (svA A s) := fun r hr => sv_o (by omega)
theorem Inv.sv (hI : Inv A N nm nv) (hs : s < 4) : Inv (svA A s) N nm nv := by
  obtain ⟨q1, q2, q3, q4, q5⟩ := id hI
  have hb : ∀ t, t < 4 → 0 ≤ A 246 t ∧ A 246 t ≤ A 245 t := fun t ht => (q2 t ht).2.2.2.2.2.2.2.2.2.2.2
  have up : ∀ t, t < 4 → A 246 t ≤ svA A s 246 t := fun t ht => by
    rw [sv_246]; split
    · rename_i e; rw [e]; exact (hb s hs).2
    · omega
  refine hI.gen sv_g (fun t ht => ?_) (fun s1 t h1 h2 => ⟨⟨?_, ?_⟩, ?_⟩) ?_ ?_
  · rw [sv_246]
    have := hb t ht
    split
    · rename_i e; rw [e]; have := hb s hs; omega
    · exact this
  · rw [sv_252]
    have := (q3 s1 t h1 h2).1.1
    have := hb s hs
    split <;> omega
  · rw [sv_252]
    have h4 := (q3 s1 t h1 h2).1.2
    have h5 := up t h2
    split
    · rename_i e
      have et : t = s := by omega
      rw [sv_246, if_pos et]; omega
    · omega
  · rw [sv_252, sv_246]
    by_cases q : s1 = s
    · rw [if_pos (by omega), if_pos q]
    · rw [if_neg (by omega), if_neg q]; exact (q3 s1 t h1 h2).2
  · obtain ⟨g1, g2, g3⟩ := q4
    refine ⟨g1, fun m hm => ?_, ?_⟩
    · have z := g2 m hm
      refine ⟨by rw [sv_o (by decide)]; exact z.1, ?_, fun t ht => ?_⟩
      · have : Ms (svA A s) m = Ms A m := by funext x; unfold Ms; rw [sv_o (by decide)]
        rw [this]; exact sv_g.t.cl z.2.1
      · rw [sv_o (r := 257) (by decide)]
        have := z.2.2 t ht
        have := up t ht
        omega
    · rw [sv_o (by decide)]; exact g3
  · obtain ⟨g1, g2⟩ := q5
    refine ⟨g1, fun v hv => ?_⟩
    have z := g2 v hv
    have : Vs (svA A s) v = Vs A v := by funext x; unfold Vs; rw [sv_o (by decide)]
    rw [this, sv_o (r := 258) (by decide)]
    exact ⟨sv_g.t.cl z.1, z.2⟩
theorem mem_take_mono {L : List Int} {p q : Nat} (h : p ≤ q) {x : Int} (hx : x ∈ L.take p) : x ∈ L.take q := by
  have : L.take p = (L.take q).take p := by rw [List.take_take, Nat.min_eq_left h]
  rw [this] at hx
  exact List.mem_of_mem_take hx
theorem so_save : So_save Rel := by
  intro nm nv σ y1 y2 y3 ⟨A, N, hI, hC, hR⟩ _ _ _ _
  have hN := hI.1.2.1
  by_cases hx : 0 ≤ y1 ∧ y1 < 4
  · have hs : y1.toNat < 4 := by omega
    have hl := JL_len hI hs
    have hb : ∀ t, t < 4 → 0 ≤ A 246 t ∧ A 246 t ≤ A 245 t := fun t ht => (hI.2.1 t ht).2.2.2.2.2.2.2.2.2.2.2
    have h2 := hb _ hs
    refine So_fin (A' := svA A y1.toNat) (F := fun σ1 => fX6_save σ1 y1) (g := fun v => v) (k := 0) (kk := 0) (v := A 245 y1.toNat - A 246 y1.toNat) rfl (fun _ => rfl) hR (hI.sv hs) ?_ (fun σ1 hr1 => ?_)
    · have w := hC.site hs
      unfold fX5_save
      rw [xw_ok (c_siteAt hx)]
      refine wp_b1e (c_unsafe hI hC hs) ?_
      refine wp_b1e (v := st σ (20 + 40 * y1.toNat + 4) y1.toNat (A 245 y1.toNat)) ?_ (wp_some ⟨rfl, fun _ => rfl, ?_, FrC.rf.upd (by omega)⟩)
      · unfold fX4_makeAllSafe
        rw [w.1, if_neg (by omega), if_neg (by omega), wr_ok (by omega) (by omega), Int.toNat_natCast, w.2.2.2.2.2.2.1]
      have row : ∀ a, a ≠ 20 + 40 * y1.toNat + 4 → st σ (20 + 40 * y1.toNat + 4) y1.toNat (A 245 y1.toNat) a = σ a := fun a ha => st_fn ha
      refine Cl.gen (τ := st σ (20 + 40 * y1.toNat + 4) y1.toNat (A 245 y1.toNat)) hI hC sv_g (fun a _ _ ha => row a (ha _ hs)) (fun t u ht hu => ?_) ⟨?_, ?_, fun m hm => ?_⟩ ⟨?_, ?_, fun v hv a ha => ?_⟩
      · rw [sv_252]
        by_cases q : t = y1.toNat
        · subst q
          rw [st_row]
          by_cases q2 : u = y1.toNat
          · rw [if_pos q2, if_pos (by omega)]
          · rw [if_neg q2, if_neg (by omega)]; exact (hC.site hs).2.2.2.2.2.2.2.2.2.1 u hu
        · rw [st_ne (by omega), if_neg (by omega)]; exact (hC.site ht).2.2.2.2.2.2.2.2.2.1 u hu
      · rw [row 0 (by omega)]; exact hC.2.2.2.2.1.1
      · rw [row 2 (by omega)]; exact hC.2.2.2.2.1.2.1
      · exact (hC.2.2.2.2.1.2.2 m hm).fr (row _ (by omega)) (row _ (by omega)) (row _ (by omega)) (by rw [sv_o (by decide)]) (fun a _ => by rw [sv_o (by decide)]) (fun t _ => by rw [sv_o (by decide)])
      · rw [row 0 (by omega)]; exact hC.2.2.2.2.2.1
      · rw [row 3 (by omega)]; exact hC.2.2.2.2.2.2.1
      · rw [row _ (by omega), sv_o (by decide)]; exact hC.2.2.2.2.2.2.2 v hv a ha
    · unfold fX6_save
      refine wp_b1e (r_isSite y1) ?_
      rw [decide_eq_true hx, if_pos (by decide)]
      refine wp_pf ?_
      have hr2 := hr1.fr (FrS.up0 (v := 0) FrS.rf)
      have fr := (FrS.up0 (v := 0) (FrS.rf (σ := σ1))).R
      have e0 : st σ1 230 0 0 230 0 = 0 := by rw [st_row, if_pos rfl]
      generalize st σ1 230 0 0 = σ2 at hr2 fr e0
      refine wp_rd hx.1 (by omega) (wp_rd hx.1 (by omega) ?_)
      rw [hr2.atS hs (by decide) (by decide), hr2.atS hs (by decide) (by decide)]
      refine wp_ck (by omega) (by omega) (wp_rd hx.1 (by omega) (wp_wr hx.1 (by omega) ?_))
      rw [hr2.atS hs (by decide) (by decide)]
      have G : ∀ a b, (a ≠ 246 ∨ b ≠ y1.toNat) → st σ2 246 y1.toNat (A 245 y1.toNat) a b = σ2 a b := fun a b hab => by
        by_cases q : a = 246
        · rw [q, st_row, if_neg (by omega)]
        · rw [st_ne q]
      have G2 : st σ2 246 y1.toNat (A 245 y1.toNat) 246 y1.toNat = A 245 y1.toNat := by rw [st_row, if_pos rfl]
      have fr3 : FrR σ1 (st σ2 246 y1.toNat (A 245 y1.toNat)) := fr.upd (by decide)
      generalize st σ2 246 y1.toNat (A 245 y1.toNat) = σ3 at G G2 fr3
      refine wp_some ⟨(G 230 0 (by omega)).trans e0, fun _ => rfl, ?_, fr3⟩
      refine hr2.gen (τ := σ3) sv_g (fun a b hab => G a b (by omega)) (fun t ht => ?_) (fun s1 t a q1 q2 q3 => ?_) ⟨by rw [G 230 21 (by omega)]; exact hr2.2.2.2.2.1.1, ⟨fun m hm => ?_, fun m a h1 h2 => ?_, fun m t a h1 h2 h3 => ?_⟩⟩ ⟨by rw [G 230 26 (by omega)]; exact hr2.2.2.2.2.2.1, fun v a hv ha => ?_⟩
      · rw [sv_246]
        by_cases q : t = y1.toNat
        · rw [if_pos q, q]; exact G2
        · rw [if_neg q, G 246 t (by omega)]; exact hr2.atS ht (by decide) (by decide)
      · have old := hr2.2.2.2.1 s1 t a q1 q2 q3
        rw [G 251 _ (by omega), sv_g.jl, sv_g.jl, sv_246, sv_252]
        refine ⟨old.1, ?_⟩
        by_cases e1 : s1 = y1.toNat
        · by_cases e2 : t = y1.toNat
          · rw [if_pos e1, if_pos (by omega), e1, e2]
            rw [e1, e2] at old
            have h252 := (hI.2.2.1 _ _ hs hs)
            constructor
            · rintro (w | w)
              · exact mem_take_mono (by omega) (old.2.mp (Or.inl w))
              · exact w.2
            · exact fun w => Or.inr ⟨rfl, w⟩
          · rw [if_neg (by omega : ¬ 4 * s1 + t = 4 * y1.toNat + y1.toNat)]
            have ne : s1 ≠ t := by omega
            constructor
            · rintro (w | w)
              · exact old.2.mp (Or.inl w)
              · exact absurd w.1 ne
            · intro w
              rcases old.2.mpr w with z | z
              · exact Or.inl z
              · exact absurd z.1 ne
        · rw [if_neg e1, if_neg (by omega)]; exact old.2
      · rw [G 254 m (by omega), sv_o (by decide)]; exact hr2.2.2.2.2.1.2.1 m hm
      · rw [G 255 _ (by omega), sv_o (by decide)]; exact hr2.2.2.2.2.1.2.2.1 m a h1 h2
      · rw [G 256 _ (by omega), sv_g.jl, sv_o (by decide)]; exact hr2.2.2.2.2.1.2.2.2 m t a h1 h2 h3
      · rw [G 258 _ (by omega), sv_o (by decide)]; exact hr2.2.2.2.2.2.2 v a hv ha
  · refine So_fin (F := fun σ1 => fX6_save σ1 y1) (g := fun v => v) (k := 1) (kk := 1) (v := 0) rfl (fun q => (by cases q)) hR hI (by unfold fX5_save; exact c_no hC hx) (fun σ1 hr1 => ?_)
    unfold fX6_save
    refine wp_b1e (r_isSite y1) ?_
    rw [decide_eq_false hx, if_neg (by decide)]
    exact wp_b2e (r_fails 1) (wp_some (r_no hr1 (by decide)))
/-- a set is copied -/
theorem c_copy {a0 o1 : Nat} (h1 : o1 ≠ a0) (h2 : o1 + 1 ≠ a0) (h3 : o1 ≠ a0 + 1) (hn : 200 ≤ n) : wp (fX0_copyFrom n σ a0 o1) (fun σ2 => (∀ a, a ≠ a0 → a ≠ a0 + 1 → σ2 a = σ a) ∧ ∀ i : Nat, i < 160 → σ2 (a0 + 1) i = b2i (inS σ o1 (i : Int))) := by
  have key1 : ∀ (q m i : Nat) (σ1 : St), i + q = 160 → q < m → (∀ a, a ≠ a0 + 1 → σ1 a = σ a) → (∀ j : Nat, j < i → σ1 (a0 + 1) j = b2i (inS σ o1 (j : Int))) → wp (fX0_copyFrom_L2 n a0 o1 m σ1 (i : Int)) (fun σ2 => (∀ a, a ≠ a0 → a ≠ a0 + 1 → σ2 a = σ a) ∧ ∀ i : Nat, i < 160 → σ2 (a0 + 1) i = b2i (inS σ o1 (i : Int))) := by
    intro q
    induction q with
    | zero =>
      intro m i σ1 e hm f g
      obtain ⟨m, rfl⟩ : ∃ q, m = q + 1 := ⟨m - 1, by omega⟩
      unfold fX0_copyFrom_L2
      rw [lpR_s]
      unfold fX0_copyFrom_L2s
      rw [if_pos (by omega)]
      refine wp_pf (wp_some ⟨fun a q1 q2 => by rw [st_fn q1]; exact f a q2, fun j hj => ?_⟩)
      rw [st_ne (by omega)]; exact g j (by omega)
    | succ q ih =>
      intro m i σ1 e hm f g
      obtain ⟨m, rfl⟩ : ∃ q, m = q + 1 := ⟨m - 1, by omega⟩
      have ih2 := fun σ2 => ih m (i + 1) σ2 (by omega) (by omega)
      unfold fX0_copyFrom_L2 at ih2 ⊢
      rw [lpR_s]
      generalize lpR (fun _ _ => none) (fX0_copyFrom_L2s n a0 o1) m = lp at ih2
      unfold fX0_copyFrom_L2s
      rw [if_neg (by omega)]
      have ei : inS σ1 o1 (i : Int) = inS σ o1 (i : Int) := by unfold inS; rw [f (o1 + 1) (by omega)]
      refine wp_b1e (q_contains σ1 o1 _) ?_
      rw [ei]
      refine wp_wrb (by omega) (by omega) (b2i_b _) (wp_ck (by omega) (by omega) ?_)
      rw [Int.toNat_natCast]
      refine ih2 _ (fun a ha => by rw [st_fn ha]; exact f a ha) (fun j hj => ?_)
      rw [st_row]
      split
      · rename_i e2; rw [e2]
      · exact g j (by omega)
  unfold fX0_copyFrom
  exact key1 160 n 0 σ (by decide) (by omega) (fun _ _ => rfl) (fun j hj => by omega)
theorem c_has (hI : Inv A N nm nv) (h : ClG σ A s) (hs : s < 4) {i : Nat} (hi : i < 160) : b2i (inS σ (20 + 40 * s + 1) (i : Int)) = A 243 (160 * s + i) := by
  have e := h.2.2.2.2.2.2.1 i hi
  have hb := (hI.2.1 s hs).2.2.2.2.2.1 i hi
  unfold inS
  rw [show 20 + 40 * s + 1 + 1 = 20 + 40 * s + 2 from rfl, Int.toNat_natCast, e]
  rcases hb with q | q
  · rw [q, decide_eq_false (fun w => w.2 rfl)]; rfl
  · rw [q, decide_eq_true ⟨show 0 ≤ (i : Int) ∧ (i : Int) < 160 by omega, by decide⟩]; rfl
/-- a version is named -/
def nmA (A : St) (s nv : Nat) : St := fun r b => if r = 258 then (if 160 * nv ≤ b then (if b < 160 * nv + 160 then A 243 (160 * s + (b - 160 * nv)) else A 258 b) else A 258 b) else A r b
theorem nm_258 (v a : Nat) (ha : a < 160) : nmA A s nv 258 (160 * v + a) = if v = nv then A 243 (160 * s + a) else A 258 (160 * v + a) := by
  show (if 160 * nv ≤ 160 * v + a then (if 160 * v + a < 160 * nv + 160 then A 243 (160 * s + (160 * v + a - 160 * nv)) else A 258 (160 * v + a)) else A 258 (160 * v + a)) = _
  by_cases q : v = nv
  · rw [if_pos q, if_pos (by omega), if_pos (by omega), q, show 160 * nv + a - 160 * nv = a by omega]
  · rw [if_neg q]
    by_cases q2 : 160 * nv ≤ 160 * v + a
    · rw [if_pos q2, if_neg (by omega)]
    · rw [if_neg q2]
theorem nm_o {r : Nat} (h : r ≠ 258) : nmA A s nv r = A r := by
  funext b; unfold nmA; rw [if_neg h]
theorem nm_g : SaG A (nmA A s nv) := fun r hr => nm_o (by omega)
theorem Inv.vers (hI : Inv A N nm nv) (hs : s < 4) (hv : nv < 10) : Inv (nmA A s nv) N nm (nv + 1) := by
  obtain ⟨q1, q2, q3, q4, q5⟩ := id hI
  refine hI.gen nm_g (fun t ht => ?_) ?_ ?_ ?_
  · rw [nm_o (by decide)]; exact (q2 t ht).2.2.2.2.2.2.2.2.2.2.2
  · unfold In3 at q3 ⊢
    rw [nm_o (by decide), nm_o (by decide)]; exact q3
  · obtain ⟨g1, g2, g3⟩ := q4
    refine ⟨g1, fun m hm => ?_, by rw [nm_o (by decide)]; exact g3⟩
    have z := g2 m hm
    rw [nm_o (r := 254) (by decide), nm_o (r := 257) (by decide), nm_o (r := 246) (by decide)]
    refine ⟨z.1, ?_, z.2.2⟩
    have : Ms (nmA A s nv) m = Ms A m := by funext x; unfold Ms; rw [nm_o (by decide)]
    rw [this]; exact nm_g.t.cl z.2.1
  · obtain ⟨g1, g2⟩ := q5
    refine ⟨by omega, fun v hv2 => ?_⟩
    by_cases q : v = nv
    · subst q
      have hh : Vs (nmA A s v) v = Hs A s := by
        funext x
        unfold Vs Hs
        refine decide_eq_decide.mpr ⟨fun w => ⟨w.1, ?_⟩, fun w => ⟨w.1, ?_⟩⟩
        · have w1 : 0 ≤ x ∧ x < 160 := w.1
          have := w.2
          rw [nm_258 _ _ (by omega), if_pos rfl] at this; exact this
        · have w1 : 0 ≤ x ∧ x < 160 := w.1
          rw [nm_258 _ _ (by omega), if_pos rfl]; exact w.2
      rw [hh]
      refine ⟨nm_g.t.cl ((q2 s hs).cl q1.2.1), fun a ha => ?_⟩
      rw [nm_258 _ _ ha, if_pos rfl]
      have g := q2 s hs
      refine ⟨g.2.2.2.2.2.1 a ha, fun w => ?_⟩
      have := g.2.2.2.2.1 _ ((g.2.2.2.2.2.2.1 a ha).mp w)
      omega
    · have z := g2 v (by omega)
      have hh : Vs (nmA A s nv) v = Vs A v := by
        funext x
        unfold Vs
        refine decide_eq_decide.mpr ⟨fun w => ⟨w.1, ?_⟩, fun w => ⟨w.1, ?_⟩⟩
        · have w1 : 0 ≤ x ∧ x < 160 := w.1
          have := w.2
          rw [nm_258 _ _ (by omega), if_neg q] at this; exact this
        · have w1 : 0 ≤ x ∧ x < 160 := w.1
          rw [nm_258 _ _ (by omega), if_neg q]; exact w.2
      rw [hh]
      refine ⟨nm_g.t.cl z.1, fun a ha => ?_⟩
      rw [nm_258 _ _ ha, if_neg q]; exact z.2 a ha
theorem so_name : So_name Rel := by
  intro nm nv σ y1 y2 y3 ⟨A, N, hI, hC, hR⟩ _ _ _ _
  have hN := hI.1.2.1
  have hv10 := hI.2.2.2.2.1
  have hm80 := hI.2.2.2.1.1
  have e010 : σ 0 10 = (nv : Int) := hC.2.2.2.2.2.1
  have e30 : σ 3 0 = (nv : Int) := hC.2.2.2.2.2.2.1
  refine ⟨1000, ?_⟩
  have ref1 : ∀ σ1 (t : Int), 0 < t → Re σ1 A N nm nv → wp (fX6_name_J26 1000 σ1 y1 t) (OkR σ1 A N nm nv t 0) := fun σ1 t ht hr1 => by
    unfold fX6_name_J26
    exact r_bad ht (r_badR ht hr1 FrR.rf)
  by_cases hx : 0 ≤ y1 ∧ y1 < 4
  · have hs : y1.toNat < 4 := by omega
    by_cases hv : nv < 10
    · obtain ⟨k, v, σ1, σ2, h1, h2, h3, h4, h5, h6⟩ : ∃ (k v : Int) (σ1 σ2 : St), hw (some 1) none (some 2) (fun v => v) (fX5_name 1000 nm nv σ y1) = some (k, σ1) ∧ fX6_name 1000 σ1 y1 = some (v, σ2) ∧ fX6_thrown σ2 = some k ∧ (k = 0 → σ2 290 0 = v) ∧ Rel nm (nv + 1) σ2 ∧ k = 0 := by
        have main : ∀ (m : Option (Nat × Int × St)), wp m (OkC σ (nmA A y1.toNat nv) N nm (nv + 1) 0 (nv : Int)) → ∃ (k v : Int) (σ1 σ2 : St), hw (some 1) none (some 2) (fun v => v) m = some (k, σ1) ∧ fX6_name 1000 σ1 y1 = some (v, σ2) ∧ fX6_thrown σ2 = some k ∧ (k = 0 → σ2 290 0 = v) ∧ Rel nm (nv + 1) σ2 ∧ k = 0 := by
          intro m hm
          obtain ⟨k, v, σ1, σ2, g1, g2, g3, g4, g5⟩ := So_fin (A' := nmA A y1.toNat nv) (h1 := some 1) (h2 := none) (h3 := some 2) (F := fun σ1 => fX6_name 1000 σ1 y1) (g := fun v => v) (k := 0) (kk := 0) (v := (nv : Int)) (m := m) rfl (fun _ => rfl) hR (hI.vers hs hv) hm (fun σ1 hr1 => by
            unfold fX6_name
            refine wp_b1e (r_isSite y1) ?_
            rw [decide_eq_true hx, if_pos (by decide), hr1.2.2.2.2.2.1, if_pos (by omega)]
            unfold fX6_name_J26
            refine wp_pf ?_
            have hr2 := hr1.fr (FrS.up0 (v := 0) FrS.rf)
            have fr := (FrS.up0 (v := 0) (FrS.rf (σ := σ1))).R
            have e0 : st σ1 230 0 0 230 0 = 0 := by rw [st_row, if_pos rfl]
            generalize st σ1 230 0 0 = σ2 at hr2 fr e0
            rw [if_pos (by omega)]
            have hs243 := (hr2.2.2.1 y1.toNat hs).2.1
            have hb243 := (hI.2.1 y1.toNat hs).2.2.2.2.2.1
            have key1 : ∀ (q m i : Nat) (σ3 : St), i + q = 160 → q < m → (∀ a b, a ≠ 258 → σ3 a b = σ2 a b) → (∀ v a, a < 160 → σ3 258 (160 * v + a) = if v = nv ∧ a < i then A 243 (160 * y1.toNat + a) else σ2 258 (160 * v + a)) → wp (fX6_name_L40 1000 y1 m σ3 (i : Int)) (OkR σ1 (nmA A y1.toNat nv) N nm (nv + 1) 0 (nv : Int)) := by
              intro q
              induction q with
              | zero =>
                intro m i σ3 e hm f g
                obtain ⟨m, rfl⟩ : ∃ q, m = q + 1 := ⟨m - 1, by omega⟩
                have e26 : σ3 230 26 = (nv : Int) := by rw [f 230 26 (by decide)]; exact hr2.2.2.2.2.2.1
                unfold fX6_name_L40
                rw [lpR_s]
                unfold fX6_name_L40s
                rw [if_pos (by omega), e26]
                refine wp_ck (by omega) (by omega) (wp_pf (wp_ck (by rw [st_row, if_pos rfl]; omega) (by rw [st_row, if_pos rfl]; omega) ?_))
                have G : ∀ a b, a ≠ 258 → (a ≠ 230 ∨ b ≠ 26) → st σ3 230 26 ((nv : Int) + 1) a b = σ2 a b := fun a b h1 h2 => by
                  by_cases q : a = 230
                  · rw [q, st_row, if_neg (by omega)]; exact f 230 b (by decide)
                  · rw [st_ne q]; exact f a b h1
                have G26 : st σ3 230 26 ((nv : Int) + 1) 230 26 = (nv : Int) + 1 := by rw [st_row, if_pos rfl]
                have G58 : ∀ b, st σ3 230 26 ((nv : Int) + 1) 258 b = σ3 258 b := fun b => by rw [st_ne (by decide)]
                generalize st σ3 230 26 ((nv : Int) + 1) = σ4 at G G26 G58
                refine wp_some ⟨?_, fun _ => ?_, ?_, fun a b hab => ?_⟩
                · exact (G 230 0 (by decide) (by decide)).trans e0
                · show σ4 230 26 - 1 = _
                  rw [G26]; omega
                · refine hr2.gen (τ := σ4) nm_g (fun a b hab => G a b (by omega) (by omega)) (fun t ht => ?_) (fun s1 t a q1 q2 q3 => ?_) ⟨by rw [G 230 21 (by decide) (by decide)]; exact hr2.2.2.2.2.1.1, ⟨fun m hm => ?_, fun m a h1 h2 => ?_, fun m t a h1 h2 h3 => ?_⟩⟩ ⟨by rw [G26]; omega, fun v a hv ha => ?_⟩
                  · rw [G 246 t (by decide) (by omega), nm_o (by decide)]; exact hr2.atS ht (by decide) (by decide)
                  · rw [G 251 _ (by decide) (by omega), nm_g.jl, nm_g.jl, nm_o (by decide), nm_o (by decide)]; exact hr2.2.2.2.1 s1 t a q1 q2 q3
                  · rw [G 254 m (by decide) (by omega), nm_o (by decide)]; exact hr2.2.2.2.2.1.2.1 m hm
                  · rw [G 255 _ (by decide) (by omega), nm_o (by decide)]; exact hr2.2.2.2.2.1.2.2.1 m a h1 h2
                  · rw [G 256 _ (by decide) (by omega), nm_g.jl, nm_o (by decide)]; exact hr2.2.2.2.2.1.2.2.2 m t a h1 h2 h3
                  · rw [G58, g v a ha, nm_258 v a ha]
                    by_cases qv : v = nv
                    · rw [if_pos ⟨qv, by omega⟩, if_pos qv]
                    · rw [if_neg (fun w => qv w.1), if_neg qv]; exact hr2.2.2.2.2.2.2 v a (by omega) ha
                · show σ4 a b = σ1 a b
                  rw [G a b (by omega) (by omega)]; exact fr a b hab
              | succ q ih =>
                intro m i σ3 e hm f g
                obtain ⟨m, rfl⟩ : ∃ q, m = q + 1 := ⟨m - 1, by omega⟩
                have ih2 := fun σ4 => ih m (i + 1) σ4 (by omega) (by omega)
                unfold fX6_name_L40 at ih2 ⊢
                rw [lpR_s]
                generalize lpR (fun _ _ => none) (fX6_name_L40s 1000 y1) m = lp at ih2
                have e26 : σ3 230 26 = (nv : Int) := by rw [f 230 26 (by decide)]; exact hr2.2.2.2.2.2.1
                unfold fX6_name_L40s
                rw [if_neg (by omega), e26]
                refine wp_ck (by omega) (by omega) (wp_ck (by omega) (by omega) (wp_ck (by omega) (by omega) (wp_ck (by omega) (by omega) (wp_rd (by omega) (by omega) ?_))))
                have e243 : σ3 243 (160 * y1 + (i : Int)).toNat = A 243 (160 * y1.toNat + i) := by
                  rw [f 243 _ (by decide), show (160 * y1 + (i : Int)).toNat = 160 * y1.toNat + i by omega]; exact hs243 i (by omega)
                rw [e243]
                refine wp_wrb (by omega) (by omega) (hb243 i (by omega)) (wp_ck (by omega) (by omega) ?_)
                rw [show (160 * (nv : Int) + (i : Int)).toNat = 160 * nv + i by omega]
                refine ih2 _ (fun a b ha => by rw [st_ne ha]; exact f a b ha) (fun v a ha => ?_)
                rw [st_row]
                by_cases q1 : 160 * v + a = 160 * nv + i
                · rw [if_pos q1, if_pos (by omega), show a = i by omega]
                · rw [if_neg q1, g v a ha]
                  by_cases q2 : v = nv ∧ a < i
                  · rw [if_pos q2, if_pos (by omega)]
                  · rw [if_neg q2, if_neg (by omega)]
            exact key1 160 1000 0 σ2 (by decide) (by decide) (fun _ _ _ => rfl) (fun v a ha => by rw [if_neg (by omega)]))
          obtain ⟨⟨c, w, s2⟩, em, em1, em2, _, _⟩ := hm
          have em1' : c = 0 := em1
          subst em1'
          refine ⟨k, v, σ1, σ2, g1, g2, g3, g4, g5, ?_⟩
          rw [em] at g1
          have : some ((0 : Int), st s2 290 0 w) = some (k, σ1) := g1
          injection this with this
          injection this with this _
          exact this.symm
        refine main _ ?_
        unfold fX5_name
        rw [xw_ok (c_siteAt hx), e010, if_pos (by omega)]
        unfold nameK
        rw [if_pos ⟨⟨by rw [e010, e30], e30⟩, hv, hm80⟩]
        have R : ∀ a, a ≠ 3 → a ≠ 700 + 2 * nv → a ≠ 701 + 2 * nv → st (stV nv σ) 3 0 ((nv + 1 : Nat) : Int) a = σ a := fun a h1 h2 h3 => by
          rw [st_fn h1]
          funext b
          unfold stV; rw [if_neg (by omega)]
        have R30 : st (stV nv σ) 3 0 ((nv + 1 : Nat) : Int) 3 0 = ((nv + 1 : Nat) : Int) := by rw [st_row, if_pos rfl]
        generalize st (stV nv σ) 3 0 ((nv + 1 : Nat) : Int) = σ3 at R R30
        have e3 : σ3 0 10 = (nv : Int) := by rw [R 0 (by decide) (by omega) (by omega)]; exact e010
        show wp (rn (σ3 0 10) 10 (σ3 3 0) (fun j => 700 + 2 * j) none fun o4 => b1 (fX0_copyFrom 1000 σ3 o4 (20 + 40 * y1.toNat + 1)) fun σ5 => ck (σ5 0 10 + 1) fun v6 => pf σ5 0 10 v6 fun σ7 => ck (σ7 0 10 - 1) fun v8 => some (0, v8, σ7)) _
        rw [e3, R30, rn_in (by omega) (by omega) (by omega), Int.toNat_natCast]
        refine wp_b1 (c_copy (a0 := 700 + 2 * nv) (o1 := 20 + 40 * y1.toNat + 1) (by omega) (by omega) (by omega) (by decide)) (fun σ5 g => ?_)
        obtain ⟨g1, g2⟩ := g
        have e5 : σ5 0 10 = (nv : Int) := by rw [g1 0 (by omega) (by omega)]; exact e3
        rw [e5]
        refine wp_ck (by omega) (by omega) (wp_pf (wp_ck (by rw [st_row, if_pos rfl]; omega) (by rw [st_row, if_pos rfl]; omega) ?_))
        have G : ∀ a, a ≠ 0 → a ≠ 3 → a ≠ 700 + 2 * nv → a ≠ 701 + 2 * nv → st σ5 0 10 ((nv : Int) + 1) a = σ a := fun a h0 h1 h2 h3 => by
          rw [st_fn h0, g1 a h2 (by omega), R a h1 h2 h3]
        have G0 : ∀ b, st σ5 0 10 ((nv : Int) + 1) 0 b = if b = 10 then (nv : Int) + 1 else σ 0 b := fun b => by
          rw [st_row, g1 0 (by omega) (by omega), R 0 (by decide) (by omega) (by omega)]
        have G3 : st σ5 0 10 ((nv : Int) + 1) 3 0 = ((nv + 1 : Nat) : Int) := by
          rw [st_ne (by decide), g1 3 (by omega) (by omega)]; exact R30
        have GV : ∀ a, a < 160 → st σ5 0 10 ((nv : Int) + 1) (700 + 2 * nv + 1) a = A 243 (160 * y1.toNat + a) := fun a ha => by
          rw [st_ne (by omega), g2 a ha]
          have : inS σ3 (20 + 40 * y1.toNat + 1) (a : Int) = inS σ (20 + 40 * y1.toNat + 1) (a : Int) := by unfold inS; rw [R _ (by omega) (by omega) (by omega)]
          rw [this]; exact c_has hI (hC.g hs) hs ha
        generalize st σ5 0 10 ((nv : Int) + 1) = σ6 at G G0 G3 GV
        refine wp_some ⟨rfl, fun _ => ?_, ?_, fun a b h1 h2 => by show σ6 a b = σ a b; rw [G a (by omega) (by omega) (by omega) (by omega)]⟩
        · show σ6 0 10 - 1 = _
          rw [G0, if_pos rfl]; omega
        · refine Cl.gen (τ := σ6) hI hC nm_g (fun a h1 h2 _ => G a (by omega) (by omega) (by omega) (by omega)) (fun t u ht hu => ?_) ⟨?_, ?_, fun m hm => ?_⟩ ⟨?_, ?_, fun v hv2 a ha => ?_⟩
          · rw [G _ (by omega) (by omega) (by omega) (by omega), nm_o (by decide)]; exact (hC.site ht).2.2.2.2.2.2.2.2.2.1 u hu
          · rw [G0, if_neg (by decide)]; exact hC.2.2.2.2.1.1
          · rw [G 2 (by decide) (by decide) (by omega) (by omega)]; exact hC.2.2.2.2.1.2.1
          · exact (hC.2.2.2.2.1.2.2 m hm).fr (G _ (by omega) (by omega) (by omega) (by omega)) (G _ (by omega) (by omega) (by omega) (by omega)) (G _ (by omega) (by omega) (by omega) (by omega)) (by rw [nm_o (by decide)]) (fun a _ => by rw [nm_o (by decide)]) (fun t _ => by rw [nm_o (by decide)])
          · rw [G0, if_pos rfl]; omega
          · exact G3
          · rw [nm_258 v a ha]
            by_cases q : v = nv
            · rw [if_pos q, q]; exact GV a ha
            · rw [if_neg q, G _ (by omega) (by omega) (by omega) (by omega)]; exact hC.2.2.2.2.2.2.2 v (by omega) a ha
      subst h6
      exact ⟨0, v, σ1, σ2, h1, h2, h3, h4, by rw [if_pos rfl]; exact h5⟩
    · have := So_fin (h1 := some 1) (h2 := none) (h3 := some 2) (F := fun σ1 => fX6_name 1000 σ1 y1) (g := fun v => v) (k := 3) (kk := 2) (v := 0) (m := fX5_name 1000 nm nv σ y1) rfl (fun q => (by cases q)) hR hI (by
        unfold fX5_name
        rw [xw_ok (c_siteAt hx), e010, if_neg (by omega)]
        exact wp_some ⟨rfl, fun q => (by cases q), hC, FrC.rf⟩) (fun σ1 hr1 => by
        unfold fX6_name
        refine wp_b1e (r_isSite y1) ?_
        rw [decide_eq_true hx, if_pos (by decide), hr1.2.2.2.2.2.1, if_neg (by omega)]
        exact ref1 σ1 2 (by decide) hr1)
      obtain ⟨k, v, σ1, σ2, g1, g2, g3, g4, g5⟩ := this
      have hk : k = 2 := by
        have e : fX5_name 1000 nm nv σ y1 = some (3, 0, σ) := by
          unfold fX5_name
          rw [xw_ok (c_siteAt hx), e010, if_neg (by omega)]
        rw [e] at g1
        have : some ((2 : Int), σ) = some (k, σ1) := g1
        injection this with this
        injection this with this _
        exact this.symm
      exact ⟨k, v, σ1, σ2, g1, g2, g3, g4, by rw [if_neg (by omega)]; exact g5⟩
  · have := So_fin (h1 := some 1) (h2 := none) (h3 := some 2) (F := fun σ1 => fX6_name 1000 σ1 y1) (g := fun v => v) (k := 1) (kk := 1) (v := 0) (m := fX5_name 1000 nm nv σ y1) rfl (fun q => (by cases q)) hR hI (by unfold fX5_name; exact c_no hC hx) (fun σ1 hr1 => by
      unfold fX6_name
      refine wp_b1e (r_isSite y1) ?_
      rw [decide_eq_false hx, if_neg (by decide)]
      exact ref1 σ1 1 (by decide) hr1)
    obtain ⟨k, v, σ1, σ2, g1, g2, g3, g4, g5⟩ := this
    have hk : k = 1 := by
      have e : fX5_name 1000 nm nv σ y1 = some (1, 0, σ) := by
        unfold fX5_name
        rw [xw_x (c_siteNo hx)]
      rw [e] at g1
      have : some ((1 : Int), σ) = some (k, σ1) := g1
      injection this with this
      injection this with this _
      exact this.symm
    exact ⟨k, v, σ1, σ2, g1, g2, g3, g4, by rw [if_neg (by omega)]; exact g5⟩
end SEND
