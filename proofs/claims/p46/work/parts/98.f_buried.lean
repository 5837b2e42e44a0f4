/-! ===== buried ===== -/
theorem wp_and {α : Type} {m : Option α} {P Q : α → Prop} (h1 : wp m P) (h2 : wp m Q) : wp m (fun r => P r ∧ Q r) := by
  obtain ⟨r, e1, p⟩ := h1
  obtain ⟨q, e2, p2⟩ := h2
  rw [e1] at e2
  injection e2 with e2
  subst e2
  exact ⟨r, e1, p, p2⟩
section BUR
variable {σ τ A : St} {N nm nv n s t c : Nat} {D : Dc} {S : Int → Bool}
theorem c_paperX (hI : In1 A N) (h : Cl σ A N nm nv) (hs : s < 4) (hn : 200 ≤ n) : wp (fX5_paperOf n σ (20 + 40 * s)) (fun r => (r.1 = 20 + 40 * s + 10 ∧ isP r.2 (20 + 40 * s + 10) (docOf A N (Hs A s)) ∧ Cl r.2 A N nm nv ∧ FrC σ r.2) ∧ (∀ a, (a < 20 + 40 * s ∨ 20 + 40 * s + 26 < a) → r.2 a = σ a) ∧ r.2 (20 + 40 * s) 5 ≠ 0) := by
  refine wp_and (c_paperOf hI h hs hn) ?_
  have w := h.site hs
  unfold fX5_paperOf
  refine wp_if (fun q => wp_some ⟨fun _ _ => rfl, q⟩) (fun q => ?_)
  refine wp_b1 (a_doAll hI.to h.1 (by omega) hn (by omega) w.pd) (fun σ1 q1 => ?_)
  refine wp_pfb (Or.inr rfl) (wp_some ⟨fun a ha => ?_, ?_⟩)
  · show st σ1 (20 + 40 * s) 5 1 a = σ a
    rw [st_fn (by omega)]
    funext b; exact q1.2 a (by omega) b
  · show st σ1 (20 + 40 * s) 5 1 (20 + 40 * s) 5 ≠ 0
    rw [st_row, if_pos rfl]; decide
theorem Cl.r4 (h : Cl σ A N nm nv) (hf : ∀ a, (a < 4 ∨ 7 < a) → τ a = σ a) : Cl τ A N nm nv := by
  have pd : ∀ q, 8 ≤ q → PD σ q N → PD τ q N := fun q hq z k k1 k2 i hi => by rw [hf _ (by omega)]; exact z k k1 k2 i hi
  refine h.mk' ⟨fun k k1 k2 => hf k (by omega), fun s b hs hb => by rw [hf _ (by omega)], fun s k hs k1 k2 => hf _ (by omega), ⟨hf 0 (by omega), hf 2 (by omega), hf 3 (by omega)⟩, fun r hr => hf r (by omega)⟩ (fun t ht => ?_) (pd _ (by decide) h.2.2.1) (pd _ (by decide) h.2.2.2.1)
  have w := h.site ht
  rw [hf (20 + 40 * t) (by omega)]
  refine ⟨w.fresh, pd _ (by omega) w.pd, fun q => ?_⟩
  have pp := w.doc q
  refine ⟨?_, pp.2.1, ?_, fun k k1 k2 i => ?_⟩
  · rw [hf _ (by omega)]; exact pp.1
  · rw [hf _ (by omega)]; exact pp.2.2.1
  · rw [hf _ (by omega)]; exact pp.2.2.2 k k1 k2 i
def preL (A : St) (s t : Nat) : List Int := (JL A t).take (A 252 (4 * s + t)).toNat
def hadF (A : St) (s : Nat) : Nat → Int → Bool
  | 0, _ => true
  | c + 1, x => hadF A s c x && decide (x ∈ preL A s c)
def hcF (A : St) (s : Nat) : Nat → Int → Int
  | 0, _ => 0
  | c + 1, x => hcF A s c x + (if x ∈ preL A s c then 1 else 0)
theorem hc_r (x : Int) : ∀ c : Nat, 0 ≤ hcF A s c x ∧ hcF A s c x ≤ (c : Int) ∧ (hcF A s c x = (c : Int) ↔ hadF A s c x = true) := by
  intro c
  induction c with
  | zero => exact ⟨Int.le_refl _, Int.le_refl _, fun _ => rfl, fun _ => rfl⟩
  | succ c ih =>
    show 0 ≤ hcF A s c x + (if x ∈ preL A s c then 1 else 0) ∧ hcF A s c x + (if x ∈ preL A s c then 1 else 0) ≤ ((c + 1 : Nat) : Int) ∧ (hcF A s c x + (if x ∈ preL A s c then 1 else 0) = ((c + 1 : Nat) : Int) ↔ (hadF A s c x && decide (x ∈ preL A s c)) = true)
    rw [Bool.and_eq_true, decide_eq_true_iff, ← ih.2.2]
    by_cases q : x ∈ preL A s c
    · rw [if_pos q]
      exact ⟨by omega, by omega, fun h => ⟨by omega, q⟩, fun h => by have := h.1; omega⟩
    · rw [if_neg q]
      exact ⟨by omega, by omega, fun h => by omega, fun h => absurd h.2 q⟩
theorem pre_mem (hI : Inv A N nm nv) (ht : t < 4) {x : Int} (h : x ∈ preL A s t) : 0 ≤ x ∧ x < (N : Int) := (hI.2.1 t ht).2.2.2.2.1 x (List.mem_of_mem_take h)
theorem had_cl (hI : Inv A N nm nv) : ∀ c : Nat, c ≤ 4 → clo A N (hadF A s c) := by
  intro c
  induction c with
  | zero => intro _ a _ _; exact ⟨fun _ _ => rfl, fun _ => rfl, fun _ => rfl⟩
  | succ c ih =>
    intro hc a ha h
    have h' : (hadF A s c (a : Int) && decide ((a : Int) ∈ preL A s c)) = true := h
    rw [Bool.and_eq_true, decide_eq_true_iff] at h'
    have w1 := ih (by omega) a ha h'.1
    have hj := (hI.2.1 c (by omega)).2.2.2.2.2.2.2.1
    have cj : clJ A (preL A s c) := fun L1 x L2 q => hj L1 x (L2 ++ (JL A c).drop (A 252 (4 * s + c)).toNat) (by
      have e := List.take_append_drop (A 252 (4 * s + c)).toNat (JL A c)
      unfold preL at q
      rw [q] at e
      exact e.symm.trans (by simp))
    have w2 := cj.cl (N := N) (S := fun x => decide (x ∈ preL A s c)) (fun x => decide_eq_true_iff) a ha (decide_eq_true h'.2)
    have both : ∀ x, hadF A s c x = true → decide (x ∈ preL A s c) = true → hadF A s (c + 1) x = true := fun x a b => by
      show (hadF A s c x && decide (x ∈ preL A s c)) = true
      rw [a, b]; rfl
    exact ⟨fun k k0 => both _ (w1.1 k k0) (w2.1 k k0), fun k => both _ (w1.2.1 k) (w2.2.1 k), fun k => both _ (w1.2.2 k) (w2.2.2 k)⟩
theorem JL_get (hI : Inv A N nm nv) (ht : t < 4) {i : Nat} (hi : (i : Int) < A 245 t) : (JL A t)[i]? = some (A 244 (160 * t + i)) := by
  have := seg_get (fun i => A 244 (160 * t + i)) (A 245 t).toNat 0 i
  rw [if_pos (by omega), Nat.zero_add] at this
  exact this
theorem c_countF (hI : Inv A N nm nv) (h : ∀ i : Nat, (i : Int) < A 245 t → σ (20 + 40 * t + 3) i = A 244 (160 * t + i)) (ht : t < 4) {q0 : Int} (hq : 0 ≤ q0 ∧ q0 ≤ A 245 t) (hn : 200 ≤ n) (h5 : ∀ j, j < 160 → 0 ≤ σ 5 j ∧ σ 5 j ≤ 10) : wp (fX4_countFirst n σ (20 + 40 * t) q0 5) (fun σ2 => (∀ a, a ≠ 5 → σ2 a = σ a) ∧ ∀ j : Nat, j < 160 → σ2 5 j = σ 5 j + (if (j : Int) ∈ (JL A t).take q0.toNat then 1 else 0)) := by
  have hl := JL_len hI ht
  have hN := hI.1.2.1
  have nd := (hI.2.1 t ht).2.2.2.1
  have hr := (hI.2.1 t ht).2.2.2.2.1
  have key1 : ∀ (q k i : Nat) (τ : St), (i : Int) + q = q0 → q < k → (∀ a, a ≠ 5 → τ a = σ a) → (∀ j : Nat, j < 160 → τ 5 j = σ 5 j + (if (j : Int) ∈ (JL A t).take i then 1 else 0)) → wp (fX4_countFirst_L2 n (20 + 40 * t) 5 q0 k τ (i : Int)) (fun σ2 => (∀ a, a ≠ 5 → σ2 a = σ a) ∧ ∀ j : Nat, j < 160 → σ2 5 j = σ 5 j + (if (j : Int) ∈ (JL A t).take q0.toNat then 1 else 0)) := by
    intro q
    induction q with
    | zero =>
      intro k i τ e hk f g
      obtain ⟨k, rfl⟩ : ∃ q, k = q + 1 := ⟨k - 1, by omega⟩
      unfold fX4_countFirst_L2
      rw [lpR_s]
      unfold fX4_countFirst_L2s
      rw [if_pos (by omega)]
      refine wp_some ⟨f, ?_⟩
      rw [show q0.toNat = i by omega]; exact g
    | succ q ih =>
      intro k i τ e hk f g
      obtain ⟨k, rfl⟩ : ∃ q, k = q + 1 := ⟨k - 1, by omega⟩
      have ih2 := fun τ2 => ih k (i + 1) τ2 (by omega) (by omega)
      have gi := JL_get hI ht (show (i : Int) < A 245 t by omega)
      have hm : A 244 (160 * t + i) ∈ JL A t := List.mem_of_getElem? gi
      have hx := hr _ hm
      have et : (JL A t).take (i + 1) = (JL A t).take i ++ [A 244 (160 * t + i)] := by rw [List.take_succ, gi]; rfl
      have nin : A 244 (160 * t + i) ∉ (JL A t).take i := fun w => by
        have e2 : JL A t = ((JL A t).take i ++ [A 244 (160 * t + i)]) ++ (JL A t).drop (i + 1) := by rw [← et, List.take_append_drop]
        rw [e2, List.nodup_append, List.nodup_append] at nd
        exact nd.1.2.2 _ w _ List.mem_cons_self rfl
      have e3 := h i (by omega)
      generalize A 244 (160 * t + i) = x at gi hm hx et nin e3
      rw [et] at ih2
      unfold fX4_countFirst_L2 at ih2 ⊢
      rw [lpR_s]
      generalize lpR (fun _ _ => none) (fX4_countFirst_L2s n (20 + 40 * t) 5 q0) k = lp at ih2
      unfold fX4_countFirst_L2s
      rw [if_neg (by omega), if_neg (by omega)]
      refine wp_rd (by omega) (by omega) ?_
      rw [Int.toNat_natCast, f _ (by omega), e3, if_neg (by omega), show ((ln 5 : Nat) : Int) = 160 from rfl, if_neg (by omega)]
      have h5x := h5 x.toNat (by omega)
      have gx := g x.toNat (by omega)
      rw [Int.toNat_of_nonneg hx.1, if_neg nin] at gx
      refine wp_rd hx.1 (by show x < 160; omega) ?_
      rw [gx]
      refine wp_ck (by omega) (by omega) (wp_wr hx.1 (by show x < 160; omega) (wp_ck (by omega) (by omega) ?_))
      refine ih2 _ (fun a ha => by rw [st_fn ha]; exact f a ha) (fun j hj => ?_)
      rw [st_row]
      by_cases z : j = x.toNat
      · have ez : (j : Int) = x := by omega
        rw [if_pos z, if_pos (by rw [ez]; exact List.mem_append_right _ List.mem_cons_self), z]; omega
      · rw [if_neg z, g j hj]
        by_cases z2 : (j : Int) ∈ (JL A t).take i
        · rw [if_pos z2, if_pos (List.mem_append_left _ z2)]
        · rw [if_neg z2, if_neg (fun w => by
            rcases List.mem_append.mp w with w | w
            · exact z2 w
            · rcases List.mem_cons.mp w with w | w
              · omega
              · cases w)]
  unfold fX4_countFirst
  exact key1 q0.toNat n 0 σ (by omega) (by omega) (fun _ _ => rfl) (fun j hj => by rw [List.take_zero, if_neg List.not_mem_nil]; omega)
theorem c_clr (hn : 200 ≤ n) : wp (fX0_clear n σ 6) (fun σ2 => (∀ a, a ≠ 6 → a ≠ 7 → σ2 a = σ a) ∧ σ2 6 1 = 0 ∧ ∀ j, j < 160 → σ2 7 j = 0) := by
  have key1 : ∀ (q k i : Nat) (τ : St), i + q = 160 → q < k → (∀ a, a ≠ 7 → τ a = σ a) → (∀ j, j < i → τ 7 j = 0) → wp (fX0_clear_L2 n 6 k τ (i : Int)) (fun σ2 => (∀ a, a ≠ 6 → a ≠ 7 → σ2 a = σ a) ∧ σ2 6 1 = 0 ∧ ∀ j, j < 160 → σ2 7 j = 0) := by
    intro q
    induction q with
    | zero =>
      intro k i τ e hk f g
      obtain ⟨k, rfl⟩ : ∃ q, k = q + 1 := ⟨k - 1, by omega⟩
      unfold fX0_clear_L2
      rw [lpR_s]
      unfold fX0_clear_L2s
      rw [if_pos (by omega)]
      refine wp_pf (wp_some ⟨fun a h6 h7 => by rw [st_fn h6]; exact f a h7, by rw [st_row, if_pos rfl], fun j hj => ?_⟩)
      rw [st_ne (by decide)]; exact g j (by omega)
    | succ q ih =>
      intro k i τ e hk f g
      obtain ⟨k, rfl⟩ : ∃ q, k = q + 1 := ⟨k - 1, by omega⟩
      have ih2 := fun τ2 => ih k (i + 1) τ2 (by omega) (by omega)
      unfold fX0_clear_L2 at ih2 ⊢
      rw [lpR_s]
      generalize lpR (fun _ _ => none) (fX0_clear_L2s n 6) k = lp at ih2
      unfold fX0_clear_L2s
      rw [if_neg (by omega)]
      refine wp_wrb (by omega) (by omega) (Or.inl rfl) (wp_ck (by omega) (by omega) ?_)
      rw [Int.toNat_natCast]
      refine ih2 _ (fun a ha => by rw [st_fn ha]; exact f a ha) (fun j hj => ?_)
      rw [st_row]; split
      · rfl
      · exact g j (by omega)
  unfold fX0_clear
  exact key1 160 n 0 σ (by decide) (by omega) (fun _ _ => rfl) (fun j hj => by omega)
theorem c_collect (hI : Inv A N nm nv) (hC : Cl σ A N nm nv) (hs : s < 4) (hn : 200 ≤ n) : wp (fX5_collectHadByAll n σ (20 + 40 * s)) (fun σ2 => (∀ a, (a < 5 ∨ 7 < a) → σ2 a = σ a) ∧ inS σ2 6 = hadF A s 4) := by
  have hN := hI.1.2.1
  have l64 : ∀ (q k i : Nat) (τ : St), i + q = 160 → q < k → (∀ a, (a < 5 ∨ 7 < a) → τ a = σ a) → (∀ j : Nat, j < 160 → τ 5 j = hcF A s 4 (j : Int)) → (0 ≤ τ 6 1 ∧ τ 6 1 ≤ (i : Int)) → (∀ j : Nat, j < 160 → τ 7 j = if j < i ∧ hadF A s 4 (j : Int) = true then 1 else 0) → wp (fX5_collectHadByAll_L63 n (20 + 40 * s) k τ (i : Int)) (fun σ2 => (∀ a, (a < 5 ∨ 7 < a) → σ2 a = σ a) ∧ inS σ2 6 = hadF A s 4) := by
    intro q
    induction q with
    | zero =>
      intro k i τ e hk f g5 g6 g7
      obtain ⟨k, rfl⟩ : ∃ q, k = q + 1 := ⟨k - 1, by omega⟩
      unfold fX5_collectHadByAll_L63
      rw [lpR_s]
      unfold fX5_collectHadByAll_L63s
      rw [if_pos (by omega)]
      refine wp_some ⟨f, funext fun x => ?_⟩
      unfold inS
      by_cases hx : num x
      · have hx' : 0 ≤ x ∧ x < 160 := hx
        have := g7 x.toNat (by omega)
        rw [Int.toNat_of_nonneg hx'.1] at this
        show decide (num x ∧ τ 7 x.toNat ≠ 0) = _
        rw [this]
        cases hh : hadF A s 4 x with
        | true => rw [if_pos ⟨by omega, rfl⟩]; exact decide_eq_true ⟨hx, by decide⟩
        | false => rw [if_neg (fun w => by cases w.2)]; exact decide_eq_false (fun w => w.2 rfl)
      · rw [decide_eq_false (fun w => hx w.1)]
        symm
        rw [Bool.eq_false_iff]
        intro w
        have w' : (hadF A s 3 x && decide (x ∈ preL A s 3)) = true := w
        rw [Bool.and_eq_true, decide_eq_true_iff] at w'
        have := pre_mem hI (by decide) w'.2
        exact hx ⟨this.1, by omega⟩
    | succ q ih =>
      intro k i τ e hk f g5 g6 g7
      obtain ⟨k, rfl⟩ : ∃ q, k = q + 1 := ⟨k - 1, by omega⟩
      have ih2 := fun τ2 => ih k (i + 1) τ2 (by omega) (by omega)
      unfold fX5_collectHadByAll_L63 at ih2 ⊢
      rw [lpR_s]
      generalize lpR (fun _ _ => none) (fX5_collectHadByAll_L63s n (20 + 40 * s)) k = lp at ih2
      have hcr := hc_r (A := A) (s := s) (i : Int) 4
      unfold fX5_collectHadByAll_L63s
      rw [if_neg (by omega)]
      refine wp_rd (by omega) (by omega) ?_
      rw [Int.toNat_natCast, g5 i (by omega)]
      cases hh : hadF A s 4 (i : Int) with
      | false =>
        rw [if_pos (fun w => by rw [hcr.2.2.mp w] at hh; cases hh)]
        refine wp_ck (by omega) (by omega) (ih2 τ f g5 ⟨g6.1, by omega⟩ (fun j hj => ?_))
        rw [g7 j hj]
        by_cases z : j = i
        · rw [z, if_neg (fun w => by have := w.1; omega), if_neg (fun w => by rw [hh] at w; cases w.2)]
        · by_cases z2 : j < i ∧ hadF A s 4 (j : Int) = true
          · rw [if_pos z2, if_pos ⟨by omega, z2.2⟩]
          · rw [if_neg z2, if_neg (fun w => z2 ⟨by omega, w.2⟩)]
      | true =>
        have e4 := hcr.2.2.mpr hh
        rw [if_neg (fun w => w e4)]
        have h70 : τ 7 i = 0 := by rw [g7 i (by omega), if_neg (fun w => by have := w.1; omega)]
        refine wp_b1 (P := fun σ3 => σ3 = st (st τ 7 i 1) 6 1 (τ 6 1 + 1)) ?_ (fun σ3 e3 => ?_)
        · unfold fX0_add
          rw [if_neg (by omega), if_neg (by omega)]
          refine wp_rd (by omega) (by omega) ?_
          rw [Int.toNat_natCast, h70, if_neg (by decide)]
          refine wp_wrb (by omega) (by omega) (Or.inr rfl) ?_
          rw [Int.toNat_natCast, st_ne (by decide)]
          exact wp_ck (by omega) (by omega) (wp_pf (wp_some rfl))
        · subst e3
          refine wp_ck (by omega) (by omega) (ih2 _ (fun a ha => by rw [st_fn (by omega), st_fn (by omega)]; exact f a ha) (fun j hj => by rw [st_ne (by decide), st_ne (by decide)]; exact g5 j hj) ⟨?_, ?_⟩ (fun j hj => ?_))
          · rw [st_row, if_pos rfl]; omega
          · rw [st_row, if_pos rfl]; omega
          · rw [st_ne (by decide), st_row]
            by_cases z : j = i
            · rw [if_pos z, if_pos ⟨by omega, by rw [z]; exact hh⟩]
            · rw [if_neg z, g7 j hj]
              by_cases z2 : j < i ∧ hadF A s 4 (j : Int) = true
              · rw [if_pos z2, if_pos ⟨by omega, z2.2⟩]
              · rw [if_neg z2, if_neg (fun w => z2 ⟨by omega, w.2⟩)]
  have l26 : ∀ (q k i : Nat) (τ : St), i + q = 4 → q < k → (∀ a, (a < 5 ∨ 7 < a) → τ a = σ a) → (∀ j : Nat, j < 160 → τ 5 j = hcF A s i (j : Int)) → wp (fX5_collectHadByAll_L26 n (20 + 40 * s) k τ (i : Int)) (fun σ2 => (∀ a, (a < 5 ∨ 7 < a) → σ2 a = σ a) ∧ inS σ2 6 = hadF A s 4) := by
    intro q
    induction q with
    | zero =>
      intro k i τ e hk f g5
      obtain ⟨k, rfl⟩ : ∃ q, k = q + 1 := ⟨k - 1, by omega⟩
      have : i = 4 := by omega
      subst this
      unfold fX5_collectHadByAll_L26
      rw [lpR_s]
      unfold fX5_collectHadByAll_L26s
      rw [if_pos (by decide)]
      refine wp_b1 (c_clr hn) (fun σ3 w => ?_)
      refine l64 160 n 0 σ3 (by decide) (by omega) (fun a ha => by rw [w.1 a (by omega) (by omega)]; exact f a ha) (fun j hj => by rw [w.1 5 (by decide) (by decide)]; exact g5 j hj) ⟨by rw [w.2.1]; exact Int.le_refl _, by rw [w.2.1]; exact Int.le_refl _⟩ (fun j hj => by rw [w.2.2 j hj, if_neg (fun w => by have := w.1; omega)])
    | succ q ih =>
      intro k i τ e hk f g5
      obtain ⟨k, rfl⟩ : ∃ q, k = q + 1 := ⟨k - 1, by omega⟩
      have hi : i < 4 := by omega
      have ih2 := fun τ2 => ih k (i + 1) τ2 (by omega) (by omega)
      unfold fX5_collectHadByAll_L26 at ih2 ⊢
      rw [lpR_s]
      generalize lpR (fun _ _ => none) (fX5_collectHadByAll_L26s n (20 + 40 * s)) k = lp at ih2
      have hl := JL_len hI hi
      have i3 := hI.2.2.1 s i hs hi
      have i2 := (hI.2.1 i hi).2.2.2.2.2.2.2.2.2.2.2
      unfold fX5_collectHadByAll_L26s
      rw [if_neg (by omega)]
      have ez : zw (fX5_siteAt τ (i : Int)) = some (20 + 40 * i, τ) := by
        rw [c_siteAt ⟨by omega, by omega⟩, Int.toNat_natCast]; rfl
      have ek : fX4_knownOf τ (20 + 40 * s) (i : Int) = some (A 252 (4 * s + i)) := by
        unfold fX4_knownOf
        rw [if_neg (by omega), if_neg (by omega), rd_ok (by omega) (by omega), Int.toNat_natCast, f (20 + 40 * s + 4) (by omega), (hC.site hs).2.2.2.2.2.2.2.2.2.1 i hi]
      refine wp_b2e ez (wp_b1e ek ?_)
      refine wp_b1 (c_countF (σ := τ) hI (fun j hj => by rw [f _ (by omega)]; exact (hC.site hi).2.2.2.2.2.2.2.2.1 j hj) hi (q0 := A 252 (4 * s + i)) (by omega) hn (fun j hj => by
        rw [g5 j hj]
        have := hc_r (A := A) (s := s) (j : Int) i
        omega)) (fun σ7 w => wp_ck (by omega) (by omega) ?_)
      exact ih2 σ7 (fun a ha => by rw [w.1 a (by omega)]; exact f a ha) (fun j hj => by rw [w.2 j hj, g5 j hj]; rfl)
  have l2 : ∀ (q k i : Nat) (τ : St), i + q = 160 → q < k → (∀ a, (a < 5 ∨ 7 < a) → τ a = σ a) → (∀ j : Nat, j < i → τ 5 j = 0) → wp (fX5_collectHadByAll_L2 n (20 + 40 * s) k τ (i : Int)) (fun σ2 => (∀ a, (a < 5 ∨ 7 < a) → σ2 a = σ a) ∧ inS σ2 6 = hadF A s 4) := by
    intro q
    induction q with
    | zero =>
      intro k i τ e hk f g
      obtain ⟨k, rfl⟩ : ∃ q, k = q + 1 := ⟨k - 1, by omega⟩
      unfold fX5_collectHadByAll_L2
      rw [lpR_s]
      unfold fX5_collectHadByAll_L2s
      rw [if_pos (by omega)]
      exact l26 4 n 0 τ (by decide) (by omega) f (fun j hj => g j (by omega))
    | succ q ih =>
      intro k i τ e hk f g
      obtain ⟨k, rfl⟩ : ∃ q, k = q + 1 := ⟨k - 1, by omega⟩
      have ih2 := fun τ2 => ih k (i + 1) τ2 (by omega) (by omega)
      unfold fX5_collectHadByAll_L2 at ih2 ⊢
      rw [lpR_s]
      generalize lpR (fun _ _ => none) (fX5_collectHadByAll_L2s n (20 + 40 * s)) k = lp at ih2
      unfold fX5_collectHadByAll_L2s
      rw [if_neg (by omega)]
      refine wp_wr (by omega) (by omega) (wp_ck (by omega) (by omega) ?_)
      rw [Int.toNat_natCast]
      refine ih2 _ (fun a ha => by rw [st_fn (by omega)]; exact f a ha) (fun j hj => ?_)
      rw [st_row]; split
      · rfl
      · exact g j (by omega)
  unfold fX5_collectHadByAll
  exact l2 160 n 0 σ (by decide) (by omega) (fun _ _ => rfl) (fun j hj => by omega)
theorem grave_eq (hd : DI A N D) {x : Int} (hx : num x) : graveB D x = (decide (x ∈ D.1) && !seenB D x) := by
  have hx' : 0 ≤ x ∧ x < 160 := hx
  have e : ((x.toNat : Nat) : Int) = x := Int.toNat_of_nonneg hx'.1
  unfold graveB
  congr 1
  refine decide_eq_decide.mpr ⟨fun w => ?_, fun w => ⟨hx, ?_⟩⟩
  · by_cases q : x ∈ D.1
    · exact q
    · exact absurd (hd.2.2.2.1 x.toNat (by rw [e]; exact q)).1 w.2
  · have := (hd.2.2.1 x w).1; omega
end BUR

