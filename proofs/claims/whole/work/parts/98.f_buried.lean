/-! ===== buried ===== -/
theorem wp_and {α : Type} {m : Option α} {P Q : α → Prop} (h1 : wp m P) (h2 : wp m Q) : wp m (fun r => P r ∧ Q r) := by
  obtain ⟨r, e1, p⟩ := h1
  obtain ⟨q, e2, p2⟩ := h2
  rw [e1] at e2
  injection e2 with e2
  subst e2
  exact ⟨r, e1, p, p2⟩
section BUR
variable {σ τ A : St} {N nm nv n s t c : Nat} {D : Dc} {S : Int → Bool}
theorem c_paperX (hI : In1 A N) (h : Cl σ A N nm nv) (hs : s < 4) (hn : 200 ≤ n) : wp (fX5_paperOf n σ (20 + 40 * s)) (fun r => (r.1 = 20 + 40 * s + 10 ∧ isP r.2 (20 + 40 * s + 10) (docOf A N (Hs A s)) ∧ Cl r.2 A N nm nv ∧ FrC σ r.2) ∧ (∀ a, (a < 20 + 40 * s ∨ 20 + 40 * s + 26 < a) → r.2 a = σ a) ∧ r.2 (20 + 40 * s) 5 ≠ 0) := by
  refine wp_and (c_paperOf hI h hs hn) ?_
  have w := h.site hs
  unfold fX5_paperOf
  refine wp_if (fun q => wp_some ⟨fun _ _ => rfl, q⟩) (fun q => ?_)
  refine wp_b1 (a_doAll hI.to h.1 (by omega) hn (by omega) w.pd) (fun σ1 q1 => ?_)
  refine wp_pfb (Or.inr rfl) (wp_some ⟨fun a ha => ?_, ?_⟩)
  · show st σ1 (20 + 40 * s) 5 1 a = σ a
    rw [st_fn (by omega)]
    funext b; exact q1.2 a (by omega) b
  · show st σ1 (20 + 40 * s) 5 1 (20 + 40 * s) 5 ≠ 0
    rw [st_row, if_pos rfl]; decide
theorem Cl.r4 (h : Cl σ A N nm nv) (hf : ∀ a, (a < 4 ∨ 7 < a) → τ a = σ a) : Cl τ A N nm nv := by
  have pd : ∀ q, 8 ≤ q → PD σ q N → PD τ q N := fun q hq z k k1 k2 i hi => by rw [hf _ (by omega)]; exact z k k1 k2 i hi
  refine h.mk' ⟨fun k k1 k2 => hf k (by omega), fun s b hs hb => by rw [hf _ (by omega)], fun s k hs k1 k2 => hf _ (by omega), ⟨hf 0 (by omega), hf 2 (by omega), hf 3 (by omega)⟩, fun r hr => hf r (by omega)⟩ (fun t ht => ?_) (pd _ (by decide) h.2.2.1) (pd _ (by decide) h.2.2.2.1)
  have w := h.site ht
  rw [hf (20 + 40 * t) (by omega)]
  refine ⟨w.fresh, pd _ (by omega) w.pd, fun q => ?_⟩
  have pp := w.doc q
  refine ⟨?_, pp.2.1, ?_, fun k k1 k2 i => ?_⟩
  · rw [hf _ (by omega)]; exact pp.1
  · rw [hf _ (by omega)]; exact pp.2.2.1
  · rw [hf _ (by omega)]; exact pp.2.2.2 k k1 k2 i
def preL (A : St) (s t : Nat) : List Int := (JL A t).take (A 252 (4 * s + t)).toNat
def hadF (A : St) (s : Nat) : Nat → Int → Bool
  | 0, _ => true
  | c + 1, x => hadF A s c x && decide (x ∈ preL A s c)
def hcF (A : St) (s : Nat) : Nat → Int → Int
  | 0, _ => 0
  | c + 1, x => hcF A s c x + (if x ∈ preL A s c then 1 else 0)
theorem hc_r (x : Int) : ∀ c : Nat, 0 ≤ hcF A s c x ∧ hcF A s c x ≤ (c : Int) ∧ (hcF A s c x = (c : Int) ↔ hadF A s c x = true) := by
  intro c
  induction c with
  | zero => exact ⟨Int.le_refl _, Int.le_refl _, fun _ => rfl, fun _ => rfl⟩
  | succ c ih =>
    show 0 ≤ hcF A s c x + (if x ∈ preL A s c then 1 else 0) ∧ hcF A s c x + (if x ∈ preL A s c then 1 else 0) ≤ ((c + 1 : Nat) : Int) ∧ (hcF A s c x + (if x ∈ preL A s c then 1 else 0) = ((c + 1 : Nat) : Int) ↔ (hadF A s c x && decide (x ∈ preL A s c)) = true)
    rw [Bool.and_eq_true, decide_eq_true_iff, ← ih.2.2]
    by_cases q : x ∈ preL A s c
    · rw [if_pos q]
      exact ⟨by omega, by omega, fun h => ⟨by omega, q⟩, fun h => by have := h.1; omega⟩
    · rw [if_neg q]
      exact ⟨by omega, by omega, fun h => by omega, fun h => absurd h.2 q⟩
theorem pre_mem (hI : Inv A N nm nv) (ht : t < 4) {x : Int} (h : x ∈ preL A s t) : 0 ≤ x ∧ x < (N : Int) := (hI.2.1 t ht).2.2.2.2.1 x (List.mem_of_mem_take h)
theorem had_cl (hI : Inv A N nm nv) : ∀ c : Nat, c ≤ 4 → clo A N (hadF A s c) := by
  intro c
  induction c with
  | zero => intro _ a _ _; exact ⟨fun _ _ => rfl, fun _ => rfl, fun _ => rfl⟩
  | succ c ih =>
    intro hc a ha h
    have h' : (hadF A s c (a : Int) && decide ((a : Int) ∈ preL A s c)) = true := h
    rw [Bool.and_eq_true, decide_eq_true_iff] at h'
    have w1 := ih (by omega) a ha h'.1
    have hj := (hI.2.1 c (by omega)).2.2.2.2.2.2.2.1
    have cj : clJ A (preL A s c) := fun L1 x L2 q => hj L1 x (L2 ++ (JL A c).drop (A 252 (4 * s + c)).toNat) (by
      have e := List.take_append_drop (A 252 (4 * s + c)).toNat (JL A c)
      unfold preL at q
      rw [q] at e
      exact e.symm.trans (by simp))
    have w2 := cj.cl (N := N) (S := fun x => decide (x ∈ preL A s c)) (fun x => decide_eq_true_iff) a ha (decide_eq_true h'.2)
    have both : ∀ x, hadF A s c x = true → decide (x ∈ preL A s c) = true → hadF A s (c + 1) x = true := fun x a b => by
      show (hadF A s c x && decide (x ∈ preL A s c)) = true
      rw [a, b]; rfl
    exact ⟨fun k k0 => both _ (w1.1 k k0) (w2.1 k k0), fun k => both _ (w1.2.1 k) (w2.2.1 k), fun k => both _ (w1.2.2 k) (w2.2.2 k)⟩
theorem JL_get (hI : Inv A N nm nv) (ht : t < 4) {i : Nat} (hi : (i : Int) < A 245 t) : (JL A t)[i]? = some (A 244 (160 * t + i)) := by
  have := seg_get (fun i => A 244 (160 * t + i)) (A 245 t).toNat 0 i
  rw [if_pos (by omega), Nat.zero_add] at this
  exact this
theorem c_countF (hI : Inv A N nm nv) (h : ∀ i : Nat, (i : Int) < A 245 t → σ (20 + 40 * t + 3) i = A 244 (160 * t + i)) (ht : t < 4) {q0 : Int} (hq : 0 ≤ q0 ∧ q0 ≤ A 245 t) (hn : 200 ≤ n) (h5 : ∀ j, j < 160 → 0 ≤ σ 5 j ∧ σ 5 j ≤ 10) : wp (fX4_countFirst n σ (20 + 40 * t) q0 5) (fun σ2 => (∀ a, a ≠ 5 → σ2 a = σ a) ∧ ∀ j : Nat, j < 160 → σ2 5 j = σ 5 j + (if (j : Int) ∈ (JL A t).take q0.toNat then 1 else 0)) := by
  have hl := JL_len hI ht
  have hN := hI.1.2.1
  have nd := (hI.2.1 t ht).2.2.2.1
  have hr := (hI.2.1 t ht).2.2.2.2.1
  have key1 : ∀ (q k i : Nat) (τ : St), (i : Int) + q = q0 → q < k → (∀ a, a ≠ 5 → τ a = σ a) → (∀ j : Nat, j < 160 → τ 5 j = σ 5 j + (if (j : Int) ∈ (JL A t).take i then 1 else 0)) → wp (fX4_countFirst_L2 n (20 + 40 * t) 5 q0 k τ (i : Int)) (fun σ2 => (∀ a, a ≠ 5 → σ2 a = σ a) ∧ ∀ j : Nat, j < 160 → σ2 5 j = σ 5 j + (if (j : Int) ∈ (JL A t).take q0.toNat then 1 else 0)) := by
    intro q
    induction q with
    | zero =>
      intro k i τ e hk f g
      obtain ⟨k, rfl⟩ : ∃ q, k = q + 1 := ⟨k - 1, by omega⟩
      unfold fX4_countFirst_L2
      rw [lpR_s]
      unfold fX4_countFirst_L2s
      rw [if_pos (by omega)]
      refine wp_some ⟨f, ?_⟩
      rw [show q0.toNat = i by omega]; exact g
    | succ q ih =>
      intro k i τ e hk f g
      obtain ⟨k, rfl⟩ : ∃ q, k = q + 1 := ⟨k - 1, by omega⟩
      have ih2 := fun τ2 => ih k (i + 1) τ2 (by omega) (by omega)
      have gi := JL_get hI ht (show (i : Int) < A 245 t by omega)
      have hm : A 244 (160 * t + i) ∈ JL A t := List.mem_of_getElem? gi
      have hx := hr _ hm
      have et : (JL A t).take (i + 1) = (JL A t).take i ++ [A 244 (160 * t + i)] := by rw [List.take_succ, gi]; rfl
      have nin : A 244 (160 * t + i) ∉ (JL A t).take i := fun w => by
        have e2 : JL A t = ((JL A t).take i ++ [A 244 (160 * t + i)]) ++ (JL A t).drop (i + 1) := by rw [← et, List.take_append_drop]
        rw [e2, List.nodup_append, List.nodup_append] at nd
        exact nd.1.2.2 _ w _ List.mem_cons_self rfl
      have e3 := h i (by omega)
      generalize A 244 (160 * t + i) = x at gi hm hx et nin e3
      rw [et] at ih2
      unfold fX4_countFirst_L2 at ih2 ⊢
      rw [lpR_s]
      generalize lpR (fun _ _ => none) (fX4_countFirst_L2s n (20 + 40 * t) 5 q0) k = lp at ih2
      unfold fX4_countFirst_L2s
      rw [if_neg (by omega), if_neg (by omega)]
      refine wp_rd (by omega) (by omega) ?_
      rw [Int.toNat_natCast, f _ (by omega), e3, if_neg (by omega), show ((ln 5 : Nat) : Int) = 160 from rfl, if_neg (by omega)]
      have h5x := h5 x.toNat (by omega)
      have gx := g x.toNat (by omega)
      rw [Int.toNat_of_nonneg hx.1, if_neg nin] at gx
      refine wp_rd hx.1 (by show x < 160; omega) ?_
      rw [gx]
      refine wp_ck (by omega) (by omega) (wp_wr hx.1 (by show x < 160; omega) (wp_ck (by omega) (by omega) ?_))
      refine ih2 _ (fun a ha => by rw [st_fn ha]; exact f a ha) (fun j hj => ?_)
      rw [st_row]
      by_cases z : j = x.toNat
      · have ez : (j : Int) = x := by omega
        rw [if_pos z, if_pos (by rw [ez]; exact List.mem_append_right _ List.mem_cons_self), z]; omega
      · rw [if_neg z, g j hj]
        by_cases z2 : (j : Int) ∈ (JL A t).take i
        · rw [if_pos z2, if_pos (List.mem_append_left _ z2)]
        · rw [if_neg z2, if_neg (fun w => by
            rcases List.mem_append.mp w with w | w
            · exact z2 w
            · rcases List.mem_cons.mp w with w | w
              · omega
              · cases w)]
  unfold fX4_countFirst
  exact key1 q0.toNat n 0 σ (by omega) (by omega) (fun _ _ => rfl) (fun j hj => by rw [List.take_zero, if_neg List.not_mem_nil]; omega)
theorem c_clr (hn : 200 ≤ n) : wp (fX0_clear n σ 6) (fun σ2 => (∀ a, a ≠ 6 → a ≠ 7 → σ2 a = σ a) ∧ σ2 6 1 = 0 ∧ ∀ j, j < 160 → σ2 7 j = 0) := by
  have key1 : ∀ (q k i : Nat) (τ : St), i + q = 160 → q < k → (∀ a, a ≠ 7 → τ a = σ a) → (∀ j, j < i → τ 7 j = 0) → wp (fX0_clear_L2 n 6 k τ (i : Int)) (fun σ2 => (∀ a, a ≠ 6 → a ≠ 7 → σ2 a = σ a) ∧ σ2 6 1 = 0 ∧ ∀ j, j < 160 → σ2 7 j = 0) := by
    intro q
    induction q with
    | zero =>
      intro k i τ e hk f g
      obtain ⟨k, rfl⟩ : ∃ q, k = q + 1 := ⟨k - 1, by omega⟩
      unfold fX0_clear_L2
      rw [lpR_s]
      unfold fX0_clear_L2s
      rw [if_pos (by omega)]
      refine wp_pf (wp_some ⟨fun a h6 h7 => by rw [st_fn h6]; exact f a h7, by rw [st_row, if_pos rfl], fun j hj => ?_⟩)
      rw [st_ne (by decide)]; exact g j (by omega)
    | succ q ih =>
      intro k i τ e hk f g
      obtain ⟨k, rfl⟩ : ∃ q, k = q + 1 := ⟨k - 1, by omega⟩
      have ih2 := fun τ2 => ih k (i + 1) τ2 (by omega) (by omega)
      unfold fX0_clear_L2 at ih2 ⊢
      rw [lpR_s]
      generalize lpR (fun _ _ => none) (fX0_clear_L2s n 6) k = lp at ih2
      unfold fX0_clear_L2s
      rw [if_neg (by omega)]
      refine wp_wrb (by omega) (by omega) (Or.inl rfl) (wp_ck (by omega) (by omega) ?_)
      rw [Int.toNat_natCast]
      refine ih2 _ (fun a ha => by rw [st_fn ha]; exact f a ha) (fun j hj => ?_)
      rw [st_row]; split
      · rfl
      · exact g j (by omega)
  unfold fX0_clear
  exact key1 160 n 0 σ (by decide) (by omega) (fun _ _ => rfl) (fun j hj => by omega)
theorem c_collect (hI : Inv A N nm nv) (hC : Cl σ A N nm nv) (hs : s < 4) (hn : 200 ≤ n) : wp (fX5_collectHadByAll n σ (20 + 40 * s)) (fun σ2 => (∀ a, (a < 5 ∨ 7 < a) → σ2 a = σ a) ∧ inS σ2 6 = hadF A s 4) := by
  have hN := hI.1.2.1
  have l64 : ∀ (q k i : Nat) (τ : St), i + q = 160 → q < k → (∀ a, (a < 5 ∨ 7 < a) → τ a = σ a) → (∀ j : Nat, j < 160 → τ 5 j = hcF A s 4 (j : Int)) → (0 ≤ τ 6 1 ∧ τ 6 1 ≤ (i : Int)) → (∀ j : Nat, j < 160 → τ 7 j = if j < i ∧ hadF A s 4 (j : Int) = true then 1 else 0) → wp (fX5_collectHadByAll_L63 n (20 + 40 * s) k τ (i : Int)) (fun σ2 => (∀ a, (a < 5 ∨ 7 < a) → σ2 a = σ a) ∧ inS σ2 6 = hadF A s 4) := by
    intro q
    induction q with
    | zero =>
      intro k i τ e hk f g5 g6 g7
      obtain ⟨k, rfl⟩ : ∃ q, k = q + 1 := ⟨k - 1, by omega⟩
      unfold fX5_collectHadByAll_L63
      rw [lpR_s]
      unfold fX5_collectHadByAll_L63s
      rw [if_pos (by omega)]
      refine wp_some ⟨f, funext fun x => ?_⟩
      unfold inS
      by_cases hx : num x
      · have hx' : 0 ≤ x ∧ x < 160 := hx
        have := g7 x.toNat (by omega)
        rw [Int.toNat_of_nonneg hx'.1] at this
        show decide (num x ∧ τ 7 x.toNat ≠ 0) = _
        rw [this]
        cases hh : hadF A s 4 x with
        | true => rw [if_pos ⟨by omega, rfl⟩]; exact decide_eq_true ⟨hx, by decide⟩
        | false => rw [if_neg (fun w => by cases w.2)]; exact decide_eq_false (fun w => w.2 rfl)
      · rw [decide_eq_false (fun w => hx w.1)]
        symm
        rw [Bool.eq_false_iff]
        intro w
        have w' : (hadF A s 3 x && decide (x ∈ preL A s 3)) = true := w
        rw [Bool.and_eq_true, decide_eq_true_iff] at w'
        have := pre_mem hI (by decide) w'.2
        exact hx ⟨this.1, by omega⟩
    | succ q ih =>
      intro k i τ e hk f g5 g6 g7
      obtain ⟨k, rfl⟩ : ∃ q, k = q + 1 := ⟨k - 1, by omega⟩
      have ih2 := fun τ2 => ih k (i + 1) τ2 (by omega) (by omega)
      unfold fX5_collectHadByAll_L63 at ih2 ⊢
      rw [lpR_s]
      generalize lpR (fun _ _ => none) (fX5_collectHadByAll_L63s n (20 + 40 * s)) k = lp at ih2
      have hcr := hc_r (A := A) (s := s) (i : Int) 4
      unfold fX5_collectHadByAll_L63s
      rw [if_neg (by omega)]
      refine wp_rd (by omega) (by omega) ?_
      rw [Int.toNat_natCast, g5 i (by omega)]
      cases hh : hadF A s 4 (i : Int) with
      | false =>
        rw [if_pos (fun w => by rw [hcr.2.2.mp w] at hh; cases hh)]
        refine wp_ck (by omega) (by omega) (ih2 τ f g5 ⟨g6.1, by omega⟩ (fun j hj => ?_))
        rw [g7 j hj]
        by_cases z : j = i
        · rw [z, if_neg (fun w => by have := w.1; omega), if_neg (fun w => by rw [hh] at w; cases w.2)]
        · by_cases z2 : j < i ∧ hadF A s 4 (j : Int) = true
          · rw [if_pos z2, if_pos ⟨by omega, z2.2⟩]
          · rw [if_neg z2, if_neg (fun w => z2 ⟨by omega, w.2⟩)]
      | true =>
        have e4 := hcr.2.2.mpr hh
        rw [if_neg (fun w => w e4)]
        have h70 : τ 7 i = 0 := by rw [g7 i (by omega), if_neg (fun w => by have := w.1; omega)]
        refine wp_b1 (P := fun σ3 => σ3 = st (st τ 7 i 1) 6 1 (τ 6 1 + 1)) ?_ (fun σ3 e3 => ?_)
        · unfold fX0_add
          rw [if_neg (by omega), if_neg (by omega)]
          refine wp_rd (by omega) (by omega) ?_
          rw [Int.toNat_natCast, h70, if_neg (by decide)]
          refine wp_wrb (by omega) (by omega) (Or.inr rfl) ?_
          rw [Int.toNat_natCast, st_ne (by decide)]
          exact wp_ck (by omega) (by omega) (wp_pf (wp_some rfl))
        · subst e3
          refine wp_ck (by omega) (by omega) (ih2 _ (fun a ha => by rw [st_fn (by omega), st_fn (by omega)]; exact f a ha) (fun j hj => by rw [st_ne (by decide), st_ne (by decide)]; exact g5 j hj) ⟨?_, ?_⟩ (fun j hj => ?_))
          · rw [st_row, if_pos rfl]; omega
          · rw [st_row, if_pos rfl]; omega
          · rw [st_ne (by decide), st_row]
            by_cases z : j = i
            · rw [if_pos z, if_pos ⟨by omega, by rw [z]; exact hh⟩]
            · rw [if_neg z, g7 j hj]
              by_cases z2 : j < i ∧ hadF A s 4 (j : Int) = true
              · rw [if_pos z2, if_pos ⟨by omega, z2.2⟩]
              · rw [if_neg z2, if_neg (fun w => z2 ⟨by omega, w.2⟩)]
  have l26 : ∀ (q k i : Nat) (τ : St), i + q = 4 → q < k → (∀ a, (a < 5 ∨ 7 < a) → τ a = σ a) → (∀ j : Nat, j < 160 → τ 5 j = hcF A s i (j : Int)) → wp (fX5_collectHadByAll_L26 n (20 + 40 * s) k τ (i : Int)) (fun σ2 => (∀ a, (a < 5 ∨ 7 < a) → σ2 a = σ a) ∧ inS σ2 6 = hadF A s 4) := by
    intro q
    induction q with
    | zero =>
      intro k i τ e hk f g5
      obtain ⟨k, rfl⟩ : ∃ q, k = q + 1 := ⟨k - 1, by omega⟩
      have : i = 4 := by omega
      subst this
      unfold fX5_collectHadByAll_L26
      rw [lpR_s]
      unfold fX5_collectHadByAll_L26s
      rw [if_pos (by decide)]
      refine wp_b1 (c_clr hn) (fun σ3 w => ?_)
      refine l64 160 n 0 σ3 (by decide) (by omega) (fun a ha => by rw [w.1 a (by omega) (by omega)]; exact f a ha) (fun j hj => by rw [w.1 5 (by decide) (by decide)]; exact g5 j hj) ⟨by rw [w.2.1]; exact Int.le_refl _, by rw [w.2.1]; exact Int.le_refl _⟩ (fun j hj => by rw [w.2.2 j hj, if_neg (fun w => by have := w.1; omega)])
    | succ q ih =>
      intro k i τ e hk f g5
      obtain ⟨k, rfl⟩ : ∃ q, k = q + 1 := ⟨k - 1, by omega⟩
      have hi : i < 4 := by omega
      have ih2 := fun τ2 => ih k (i + 1) τ2 (by omega) (by omega)
      unfold fX5_collectHadByAll_L26 at ih2 ⊢
      rw [lpR_s]
      generalize lpR (fun _ _ => none) (fX5_collectHadByAll_L26s n (20 + 40 * s)) k = lp at ih2
      have hl := JL_len hI hi
      have i3 := hI.2.2.1 s i hs hi
      have i2 := (hI.2.1 i hi).2.2.2.2.2.2.2.2.2.2.2
      unfold fX5_collectHadByAll_L26s
      rw [if_neg (by omega)]
      have ez : zw (fX5_siteAt τ (i : Int)) = some (20 + 40 * i, τ) := by
        rw [c_siteAt ⟨by omega, by omega⟩, Int.toNat_natCast]; rfl
      have ek : fX4_knownOf τ (20 + 40 * s) (i : Int) = some (A 252 (4 * s + i)) := by
        unfold fX4_knownOf
        rw [if_neg (by omega), if_neg (by omega), rd_ok (by omega) (by omega), Int.toNat_natCast, f (20 + 40 * s + 4) (by omega), (hC.site hs).2.2.2.2.2.2.2.2.2.1 i hi]
      refine wp_b2e ez (wp_b1e ek ?_)
      refine wp_b1 (c_countF (σ := τ) hI (fun j hj => by rw [f _ (by omega)]; exact (hC.site hi).2.2.2.2.2.2.2.2.1 j hj) hi (q0 := A 252 (4 * s + i)) (by omega) hn (fun j hj => by
        rw [g5 j hj]
        have := hc_r (A := A) (s := s) (j : Int) i
        omega)) (fun σ7 w => wp_ck (by omega) (by omega) ?_)
      exact ih2 σ7 (fun a ha => by rw [w.1 a (by omega)]; exact f a ha) (fun j hj => by rw [w.2 j hj, g5 j hj]; rfl)
  have l2 : ∀ (q k i : Nat) (τ : St), i + q = 160 → q < k → (∀ a, (a < 5 ∨ 7 < a) → τ a = σ a) → (∀ j : Nat, j < i → τ 5 j = 0) → wp (fX5_collectHadByAll_L2 n (20 + 40 * s) k τ (i : Int)) (fun σ2 => (∀ a, (a < 5 ∨ 7 < a) → σ2 a = σ a) ∧ inS σ2 6 = hadF A s 4) := by
    intro q
    induction q with
    | zero =>
      intro k i τ e hk f g
      obtain ⟨k, rfl⟩ : ∃ q, k = q + 1 := ⟨k - 1, by omega⟩
      unfold fX5_collectHadByAll_L2
      rw [lpR_s]
      unfold fX5_collectHadByAll_L2s
      rw [if_pos (by omega)]
      exact l26 4 n 0 τ (by decide) (by omega) f (fun j hj => g j (by omega))
    | succ q ih =>
      intro k i τ e hk f g
      obtain ⟨k, rfl⟩ : ∃ q, k = q + 1 := ⟨k - 1, by omega⟩
      have ih2 := fun τ2 => ih k (i + 1) τ2 (by omega) (by omega)
      unfold fX5_collectHadByAll_L2 at ih2 ⊢
      rw [lpR_s]
      generalize lpR (fun _ _ => none) (fX5_collectHadByAll_L2s n (20 + 40 * s)) k = lp at ih2
      unfold fX5_collectHadByAll_L2s
      rw [if_neg (by omega)]
      refine wp_wr (by omega) (by omega) (wp_ck (by omega) (by omega) ?_)
      rw [Int.toNat_natCast]
      refine ih2 _ (fun a ha => by rw [st_fn (by omega)]; exact f a ha) (fun j hj => ?_)
      rw [st_row]; split
      · rfl
      · exact g j (by omega)
  unfold fX5_collectHadByAll
  exact l2 160 n 0 σ (by decide) (by omega) (fun _ _ => rfl) (fun j hj => by omega)
theorem grave_eq (hd : DI A N D) {x : Int} (hx : num x) : graveB D x = (decide (x ∈ D.1) && !seenB D x) := by
  have hx' : 0 ≤ x ∧ x < 160 := hx
  have e : ((x.toNat : Nat) : Int) = x := Int.toNat_of_nonneg hx'.1
  unfold graveB
  congr 1
  refine decide_eq_decide.mpr ⟨fun w => ?_, fun w => ⟨hx, ?_⟩⟩
  · by_cases q : x ∈ D.1
    · exact q
    · exact absurd (hd.2.2.2.1 x.toNat (by rw [e]; exact q)).1 w.2
  · have := (hd.2.2.1 x w).1; omega
def F3 (σ τ A : St) (N s : Nat) (D : Dc) (i : Nat) : Prop := (∀ a, a ≠ 273 → a ≠ 275 → τ a = σ a) ∧ (∀ j : Nat, j < i → τ 273 j = b2i (decide ((j : Int) ∈ D.1) && !seenB D (j : Int))) ∧ ∀ j : Nat, j < i → τ 275 j = b2i (decide (j < N) && hadF A s 4 (j : Int))
theorem r_bur92 {Q : Int × St → Prop} (hI : Inv A N nm nv) (hR : Re σ A N nm nv) (hs : s < 4) (hn : 200 ≤ n) (i : Nat) (hi : i < 160) (lp : St → Int → Option (Int × St)) (hlp : ∀ σ4, F3 σ σ4 A N s D (i + 1) → wp (lp σ4 ((i : Int) + 1)) Q) : ∀ (q k c : Nat) (τ : St), c + q = 4 → q < k → (∀ a, a ≠ 273 → a ≠ 275 → τ a = σ a) → (∀ j : Nat, j < i + 1 → τ 273 j = b2i (decide ((j : Int) ∈ D.1) && !seenB D (j : Int))) → (∀ j : Nat, j < i → τ 275 j = b2i (decide (j < N) && hadF A s 4 (j : Int))) → (τ 275 i = b2i (decide (i < N) && hadF A s c (i : Int))) → wp (fX6_buried_L92 n lp (s : Int) (i : Int) k τ (c : Int)) Q := by
  have hN := hI.1.2.1
  intro q
  induction q with
  | zero =>
    intro k c τ e hk f g3 g5 g
    obtain ⟨k, rfl⟩ : ∃ q, k = q + 1 := ⟨k - 1, by omega⟩
    have : c = 4 := by omega
    subst this
    unfold fX6_buried_L92
    rw [lpR_s]
    unfold fX6_buried_L92s
    rw [if_pos (by decide)]
    refine wp_ck (by omega) (by omega) (hlp τ ⟨f, g3, fun j hj => ?_⟩)
    by_cases z : j = i
    · rw [z]; exact g
    · exact g5 j (by omega)
  | succ q ih =>
    intro k c τ e hk f g3 g5 g
    obtain ⟨k, rfl⟩ : ∃ q, k = q + 1 := ⟨k - 1, by omega⟩
    have hc : c < 4 := by omega
    have ih2 := fun τ2 => ih k (c + 1) τ2 (by omega) (by omega)
    unfold fX6_buried_L92 at ih2 ⊢
    rw [lpR_s]
    generalize lpR (fun _ _ => none) (fX6_buried_L92s n lp (s : Int) (i : Int)) k = lp2 at ih2
    unfold fX6_buried_L92s
    rw [if_neg (by omega)]
    refine wp_rd (by omega) (by omega) ?_
    rw [Int.toNat_natCast, g]
    cases hh : (decide (i < N) && hadF A s c (i : Int)) with
    | false =>
      rw [if_pos (by rfl)]
      have h4 : ∀ d : Nat, (decide (i < N) && hadF A s (c + d) (i : Int)) = false := by
        intro d
        induction d with
        | zero => exact hh
        | succ d ih3 =>
          show (decide (i < N) && (hadF A s (c + d) (i : Int) && decide ((i : Int) ∈ preL A s (c + d)))) = false
          rw [← Bool.and_assoc, ih3, Bool.false_and]
      refine wp_ck (by omega) (by omega) (hlp τ ⟨f, g3, fun j hj => ?_⟩)
      by_cases z : j = i
      · have := h4 (4 - c)
        rw [show c + (4 - c) = 4 by omega] at this
        rw [z, g, hh, this]
      · exact g5 j (by omega)
    | true =>
      rw [if_neg (by decide)]
      have hK : ReK τ A := by
        have := hR.2.2.2.1
        unfold ReK at this ⊢
        rw [f 251 (by decide) (by decide)]; exact this
      have kn := r_knows (n := n) (t := c) (a := i) hI hK hs hc hi (by rw [f 246 (by decide) (by decide)]; exact hR.atS hs (by decide) (by decide)) (fun b hb => by rw [f 244 (by decide) (by decide)]; exact (hR.2.2.1 s hs).2.2 b hb) hn
      refine wp_b1e kn (wp_wrb (by omega) (by omega) (b2i_b _) (wp_ck (by omega) (by omega) ?_))
      rw [Int.toNat_natCast]
      refine ih2 _ (fun a h1 h2 => by rw [st_fn h2]; exact f a h1 h2) (fun j hj => by rw [st_ne (by decide)]; exact g3 j hj) (fun j hj => by rw [st_row, if_neg (by omega)]; exact g5 j hj) ?_
      rw [st_row, if_pos rfl]
      show b2i (decide ((i : Int) ∈ preL A s c)) = b2i (decide (i < N) && (hadF A s c (i : Int) && decide ((i : Int) ∈ preL A s c)))
      rw [← Bool.and_assoc, hh, Bool.true_and]
theorem so_buried : So_buried Rel := by
  intro nm nv σ y1 y2 y3 ⟨A, N, hI, hC, hR⟩ _ _ _ _
  have hN := hI.1.2.1
  refine ⟨1000, ?_⟩
  by_cases hx : 0 ≤ y1 ∧ y1 < 4
  · obtain ⟨s, rfl⟩ : ∃ s : Nat, y1 = (s : Int) := ⟨y1.toNat, by omega⟩
    have hs : s < 4 := by omega
    have dk := hI.dk hs
    have hcl := had_cl (s := s) hI 4 (Nat.le_refl _)
    have d2 : DK A N (hadF A s 4) (docOf A N (hadF A s 4)) := doc_ok hI.1.2.2.2.1 hI.1.2.2.2.2.1 hI.1.2.2.2.2.2.1 hcl hN
    refine So_fin (F := fun σ1 => fX6_buried 1000 σ1 (s : Int)) (g := fun v => v) (k := 0) (kk := 0) (v := cnt (fun x => graveB (docOf A N (Hs A s)) x && graveB (docOf A N (hadF A s 4)) x) (ids N)) rfl (fun _ => rfl) hR hI ?_ (fun σ1 hr1 => ?_)
    · unfold fX5_buried
      rw [xw_ok (c_siteAt hx), Int.toNat_natCast]
      refine wp_b1 (c_collect hI hC hs (by decide)) (fun σ3 q => ?_)
      obtain ⟨f3, i3⟩ := q
      have c3 : Cl σ3 A N nm nv := hC.r4 (fun a ha => f3 a (by omega))
      refine wp_b1 (c_scr (o := 6) hI.1 c3 (Or.inl rfl) (by decide) (by omega)) (fun σ4 q => ?_)
      obtain ⟨q1, q2, q3, _⟩ := q
      rw [i3] at q1
      refine wp_b2 (c_paperX hI.1 q2 hs (by decide)) (fun o σ5 q => ?_)
      obtain ⟨⟨r1, r2, r3, r4⟩, r5, _⟩ := q
      have r1' : o = 20 + 40 * s + 10 := r1
      subst r1'
      have r2' : isP σ5 (20 + 40 * s + 10) (docOf A N (Hs A s)) := r2
      have r3' : Cl σ5 A N nm nv := r3
      have r5' : ∀ a, (a < 20 + 40 * s ∨ 20 + 40 * s + 26 < a) → σ5 a = σ4 a := r5
      have q4 : isP σ5 180 (docOf A N (hadF A s 4)) := by
        refine ⟨?_, q1.2.1, ?_, fun k k1 k2 i => ?_⟩
        · rw [r5' 180 (by omega)]; exact q1.1
        · rw [r5' (180 + 2) (by omega)]; exact q1.2.2.1
        · rw [r5' (180 + k) (by omega)]; exact q1.2.2.2 k k1 k2 i
      have run := r_cnt (n := 1000) (bot := fun _ _ => none) (F := fX5_buried_L33s 1000 σ5 (s : Int) (20 + 40 * s + 10)) (fun x => graveB (docOf A N (Hs A s)) x && graveB (docOf A N (hadF A s 4)) x) (fun a => (0, a, σ5)) (fun i => (i : Int)) N 0 (by decide) (by omega)
        (fun lp s => by unfold fX5_buried_L33s; rw [r3'.1.made, if_pos (Int.le_refl _)])
        (fun lp s2 i hi h1 h2 => by
          unfold fX5_buried_L33s
          rw [r3'.1.made, if_neg (by omega), b1_ok (q_isGrave r2' _), b1_ok (q_isGrave q4 _)]
          show _ = lp (s2 + b2i (graveB (docOf A N (Hs A s)) (i : Int) && graveB (docOf A N (hadF A s 4)) (i : Int))) ((i : Int) + 1)
          cases graveB (docOf A N (Hs A s)) (i : Int)
          · rw [if_pos (by rfl), ck_ok (by omega) (by omega)]; show _ = lp (s2 + 0) _; rw [Int.add_zero]
          · rw [if_neg (by decide), Bool.true_and]
            cases graveB (docOf A N (hadF A s 4)) (i : Int)
            · rw [if_pos (by rfl), ck_ok (by omega) (by omega)]; show _ = lp (s2 + 0) _; rw [Int.add_zero]
            · rw [if_neg (by decide), ck_ok (by omega) (by omega), ck_ok (by omega) (by omega)]; rfl)
      rw [Int.zero_add] at run
      refine ⟨_, run, rfl, fun _ => rfl, r3', fun a b h1 h2 => ?_⟩
      show σ5 a b = σ a b
      rw [r5' a (by omega), q3 a (by omega), f3 a (by omega)]
    · unfold fX6_buried
      refine wp_b1e (r_isSite _) ?_
      rw [decide_eq_true hx, if_pos (by decide)]
      refine wp_pf ?_
      have hr2 := hr1.fr (FrS.up0 (v := 0) FrS.rf)
      have fr := (FrS.up0 (v := 0) (FrS.rf (σ := σ1))).R
      have e0 : st σ1 230 0 0 230 0 = 0 := by rw [st_row, if_pos rfl]
      generalize st σ1 230 0 0 = σ2 at hr2 fr e0
      refine wp_b1 (r_site hI.1 (hI.2.1 s hs) hr2 hs (by decide)) (fun σ3 q => ?_)
      obtain ⟨q1, q2, q3⟩ := q
      have f3 : FrR σ1 σ3 := fr.tr (FrR.ofF q3)
      have e3 : σ3 230 0 = 0 := (q3 230 0 (by decide) (by decide)).trans e0
      have l25 : ∀ (q k i : Nat) (τ : St), i + q = 160 → q < k → F3 σ3 τ A N s (docOf A N (Hs A s)) i → wp (fX6_buried_L25 1000 (s : Int) k τ (i : Int)) (OkR σ1 A N nm nv 0 (cnt (fun x => graveB (docOf A N (Hs A s)) x && graveB (docOf A N (hadF A s 4)) x) (ids N))) := by
        intro q
        induction q with
        | zero =>
          intro k i τ e hk f
          obtain ⟨k, rfl⟩ : ∃ q, k = q + 1 := ⟨k - 1, by omega⟩
          have : i = 160 := by omega
          subst this
          unfold fX6_buried_L25
          rw [lpR_s]
          unfold fX6_buried_L25s
          rw [if_pos (by decide)]
          have rτ : Re τ A N nm nv := q2.fr (fun a b h1 h2 => by rw [f.1 a (by omega) (by omega)])
          have had1 : ∀ a : Nat, a < N → τ 275 (0 + a) = b2i (hadF A s 4 (a : Int)) := fun a ha => by
            rw [Nat.zero_add, f.2.2 a (by omega), decide_eq_true ha, Bool.true_and]
          refine wp_b1 (r_findsG (o := 275) (fr := 0) hI.1 rτ (by decide) (by decide) (by decide) (by show 0 + N ≤ 160; omega) (fun a ha => by rw [had1 a ha]; exact b2i_b _) (hadF A s 4) (fun a ha => by rw [had1 a ha, b2i_ne]) hcl) (fun σ6 w => ?_)
          obtain ⟨w1, w2, w3⟩ := w
          have h273 : ∀ j : Nat, j < 160 → σ6 273 j = b2i (decide ((j : Int) ∈ (docOf A N (Hs A s)).1) && !seenB (docOf A N (Hs A s)) (j : Int)) := fun j hj => by
            rw [w3 273 j (by decide) (by omega)]; exact f.2.1 j hj
          have hl := w1.r.2.1
          have run := r_cnt (n := 1000) (bot := fun _ _ => none) (F := fX6_buried_L144s 1000 σ6 (s : Int)) (fun x => graveB (docOf A N (Hs A s)) x && graveB (docOf A N (hadF A s 4)) x) (fun a => (a, σ6)) (σ6 264) (docOf A N (hadF A s 4)).1.length 0 (by decide) (by omega)
            (fun lp s => by unfold fX6_buried_L144s; rw [w1.r.1, if_pos (Int.le_refl _)])
            (fun lp s2 i hi h1 h2 => by
              have hm := w1.r.mem hi
              have hr := d2.1.row hN hm
              have hr' : 0 ≤ σ6 264 i ∧ σ6 264 i < 160 := hr.1
              have e9 : σ6 273 (σ6 264 i).toNat = b2i (graveB (docOf A N (Hs A s)) (σ6 264 i)) := by
                rw [h273 _ (by omega), Int.toNat_of_nonneg hr'.1, grave_eq dk.1 hr.1]
              have e10 : graveB (docOf A N (hadF A s 4)) (σ6 264 i) = !seenB (docOf A N (hadF A s 4)) (σ6 264 i) := by
                rw [grave_eq d2.1 hr.1, decide_eq_true hm, Bool.true_and]
              unfold fX6_buried_L144s
              rw [w1.r.1, if_neg (by omega), rd_ok (by omega) (by omega), Int.toNat_natCast, rd_ok hr'.1 (by omega), e9, rd_ok (by omega) (by omega), Int.toNat_natCast, b1_ok (r_isSeen w1.r d2.1 hN hm)]
              show _ = lp (s2 + b2i (graveB (docOf A N (Hs A s)) (σ6 264 i) && graveB (docOf A N (hadF A s 4)) (σ6 264 i))) ((i : Int) + 1)
              rw [e10]
              cases graveB (docOf A N (Hs A s)) (σ6 264 i)
              · rw [if_pos (by rfl), ck_ok (by omega) (by omega), ck_ok (by omega) (by omega)]; rfl
              · rw [if_neg (by decide), Bool.true_and]
                cases seenB (docOf A N (hadF A s 4)) (σ6 264 i)
                · rw [if_neg (by decide), ck_ok (by omega) (by omega), ck_ok (by omega) (by omega)]; rfl
                · rw [if_pos (by decide), ck_ok (by omega) (by omega), ck_ok (by omega) (by omega)]; rfl)
          rw [Int.zero_add, w1.r.2.2.1] at run
          refine ⟨_, run, ?_, fun _ => ?_, w2, fun a b hab => ?_⟩
          · show σ6 230 0 = 0
            rw [w3 230 0 (by decide) (by decide), f.1 230 (by decide) (by decide)]; exact e3
          · refine cnt_same d2.1.1 ids_nd (fun x hx2 => ⟨fun z => ?_, fun z => ?_⟩)
            · rw [ids_mem]; exact (mkE_num (d2.1.2.1 x z)).1
            · rw [ids_mem] at z
              rw [Bool.and_eq_true, grave_eq d2.1 (show 0 ≤ x ∧ x < 160 by omega), Bool.and_eq_true, decide_eq_true_iff] at hx2
              exact hx2.2.1
          · show σ6 a b = σ1 a b
            rw [w3 a b (by omega) (by omega), f.1 a (by omega) (by omega)]; exact f3 a b hab
        | succ q ih =>
          intro k i τ e hk f
          obtain ⟨k, rfl⟩ : ∃ q, k = q + 1 := ⟨k - 1, by omega⟩
          have ih2 := fun τ2 => ih k (i + 1) τ2 (by omega) (by omega)
          unfold fX6_buried_L25 at ih2 ⊢
          rw [lpR_s]
          generalize lpR (fun _ _ => none) (fX6_buried_L25s 1000 (s : Int)) k = lp at ih2
          have e1 : τ 230 1 = (N : Int) := by rw [f.1 230 (by decide) (by decide)]; exact q2.1.1
          have r1 : isR τ N (docOf A N (Hs A s)) := q1.r.fr2 (fun a b hab => by rw [f.1 a (by omega) (by omega)])
          have j70 : ∀ b : Bool, b = (decide ((i : Int) ∈ (docOf A N (Hs A s)).1) && !seenB (docOf A N (Hs A s)) (i : Int)) → wp (fX6_buried_J70 1000 lp τ (s : Int) (i : Int) (b2i b) (i : Int)) (OkR σ1 A N nm nv 0 (cnt (fun x => graveB (docOf A N (Hs A s)) x && graveB (docOf A N (hadF A s 4)) x) (ids N))) := by
            intro b hb
            unfold fX6_buried_J70
            refine wp_wrb (by omega) (by omega) (b2i_b _) ?_
            rw [Int.toNat_natCast, st_ne (by decide), e1]
            have go : ∀ w : Bool, w = decide (i < N) → wp (fX6_buried_L92 1000 lp (s : Int) (i : Int) 1000 (st (st τ 273 i (b2i b)) 275 i (b2i w)) ((0 : Nat) : Int)) (OkR σ1 A N nm nv 0 (cnt (fun x => graveB (docOf A N (Hs A s)) x && graveB (docOf A N (hadF A s 4)) x) (ids N))) := by
              intro w hw
              refine r_bur92 (σ := σ3) (D := docOf A N (Hs A s)) hI q2 hs (by decide) i (by omega) lp (fun σ4 g => ?_) 4 1000 0 _ (by decide) (by decide) (fun a h1 h2 => by rw [st_fn h2, st_fn h1]; exact f.1 a h1 h2) (fun j hj => ?_) (fun j hj => ?_) ?_
              · have := ih2 σ4 g
                rw [show ((i + 1 : Nat) : Int) = (i : Int) + 1 by omega] at this; exact this
              · rw [st_ne (by decide), st_row]
                by_cases z : j = i
                · rw [if_pos z, hb, z]
                · rw [if_neg z]; exact f.2.1 j (by omega)
              · rw [st_row, if_neg (by omega), st_ne (by decide)]; exact f.2.2 j hj
              · rw [st_row, if_pos rfl, hw]
                show _ = b2i (decide (i < N) && true)
                rw [Bool.and_true]
            by_cases z : i < N
            · rw [if_neg (by omega)]
              refine wp_wrb (by omega) (by omega) (Or.inr rfl) ?_
              rw [Int.toNat_natCast]
              exact go true (by rw [decide_eq_true z])
            · rw [if_pos (by omega)]
              refine wp_wrb (by omega) (by omega) (Or.inl rfl) ?_
              rw [Int.toNat_natCast]
              exact go false (by rw [decide_eq_false z])
          unfold fX6_buried_L25s
          rw [if_neg (by omega), e1]
          have j69 : (decide ((i : Int) ∈ (docOf A N (Hs A s)).1) && !seenB (docOf A N (Hs A s)) (i : Int)) = false → wp (fX6_buried_J69 1000 lp τ (s : Int) (i : Int) (i : Int)) (OkR σ1 A N nm nv 0 (cnt (fun x => graveB (docOf A N (Hs A s)) x && graveB (docOf A N (hadF A s 4)) x) (ids N))) := by
            intro h
            unfold fX6_buried_J69
            exact j70 false h.symm
          by_cases z : i < N
          · rw [if_neg (by omega)]
            refine wp_b1e (r_spot r1 (by decide) _) ?_
            rw [r1.1]
            by_cases z2 : (i : Int) ∈ (docOf A N (Hs A s)).1
            · have := ix_lt z2
              rw [if_neg (by omega)]
              refine wp_b1e (r_isSeen r1 dk.1 hN z2) ?_
              rw [decide_eq_true z2, Bool.true_and] at j69 j70
              cases hb : seenB (docOf A N (Hs A s)) (i : Int) with
              | true => rw [if_pos (by decide)]; exact j69 (by rw [hb]; rfl)
              | false => rw [if_neg (by decide)]; exact j70 true (by rw [hb]; rfl)
            · have := ix_not z2
              rw [if_pos (by omega)]
              exact j69 (by rw [decide_eq_false z2, Bool.false_and])
          · rw [if_pos (by omega)]
            refine j69 ?_
            rw [decide_eq_false (fun w => by have := (mkE_num (dk.1.2.1 _ w)).1; omega), Bool.false_and]
      exact l25 160 1000 0 σ3 (by decide) (by decide) ⟨fun _ _ _ => rfl, fun j hj => by omega, fun j hj => by omega⟩
  · refine So_fin (F := fun σ1 => fX6_buried 1000 σ1 y1) (g := fun v => v) (k := 1) (kk := 1) (v := 0) rfl (fun q => (by cases q)) hR hI (by unfold fX5_buried; exact c_no hC hx) (fun σ1 hr1 => ?_)
    unfold fX6_buried
    refine wp_b1e (r_isSite y1) ?_
    rw [decide_eq_false hx, if_neg (by decide)]
    exact wp_b2e (r_fails 1) (wp_some (r_no hr1 (by decide)))
end BUR
