/-! ===== lists of cells as sets: other orders, more ids ===== -/
theorem nd_iff : ∀ {L : List Nat}, L.Nodup ↔ ∀ (i j a : Nat), L[i]? = some a → L[j]? = some a → i = j := by
  intro L
  induction L with
  | nil => exact ⟨fun _ i j a h => by simp at h, fun _ => List.nodup_nil⟩
  | cons x L ih =>
    rw [List.nodup_cons, ih]
    constructor
    · rintro ⟨hx, h⟩ i j a hi hj
      cases i with
      | zero =>
        cases j with
        | zero => rfl
        | succ j =>
          rw [List.getElem?_cons_zero] at hi
          rw [List.getElem?_cons_succ] at hj
          cases hi
          exact absurd (List.mem_of_getElem? hj) hx
      | succ i =>
        rw [List.getElem?_cons_succ] at hi
        cases j with
        | zero =>
          rw [List.getElem?_cons_zero] at hj
          cases hj
          exact absurd (List.mem_of_getElem? hi) hx
        | succ j =>
          rw [List.getElem?_cons_succ] at hj
          rw [h i j a hi hj]
    · intro h
      refine ⟨fun hx => ?_, fun i j a hi hj => ?_⟩
      · obtain ⟨k, hk⟩ := List.getElem?_of_mem hx
        have := h 0 (k + 1) x (List.getElem?_cons_zero) (by rw [List.getElem?_cons_succ]; exact hk)
        omega
      · have := h (i + 1) (j + 1) a (by rw [List.getElem?_cons_succ]; exact hi) (by rw [List.getElem?_cons_succ]; exact hj)
        omega
theorem vaD_iff {A : Nat → Prop} {ws : va_W} : va_D A ws ↔ (ws.map Prod.fst).Nodup ∧ ∀ q ∈ ws, A q.1 := by
  constructor
  · intro h
    refine ⟨nd_iff.mpr (fun i j a hi hj => ?_), fun q hq => ?_⟩
    · rw [List.getElem?_map] at hi hj
      cases hi2 : ws[i]? with
      | none => rw [hi2] at hi; cases hi
      | some p =>
        cases hj2 : ws[j]? with
        | none => rw [hj2] at hj; cases hj
        | some q =>
          rw [hi2] at hi; rw [hj2] at hj
          cases hi
          exact h.1 i j p q hi2 hj2 (Option.some.inj hj).symm
    · obtain ⟨k, hk⟩ := List.getElem?_of_mem hq
      exact h.2 k q hk
  · rintro ⟨h1, h2⟩
    refine ⟨fun i j p q hi hj he => ?_, fun k q hk => h2 q (List.mem_of_getElem? hk)⟩
    refine nd_iff.mp h1 i j p.1 ?_ ?_
    · rw [List.getElem?_map, hi]; rfl
    · rw [List.getElem?_map, hj, he]; rfl
theorem vaP_iff {D : va_G} {cl : List vw_C} {ws : va_W} {H : Heap} : va_P D cl ws H ↔ ∀ q ∈ ws, va_at D cl q H := by
  constructor
  · intro h q hq
    obtain ⟨k, hk⟩ := List.getElem?_of_mem hq
    exact h k q hk
  · intro h k q hk
    exact h q (List.mem_of_getElem? hk)
theorem re_P {D : va_G} {cl : List vw_C} {L T : va_W} {H : Heap} (hm : ∀ q ∈ T, q ∈ L) (h : va_P D cl L H) : va_P D cl T H := vaP_iff.mpr (fun q hq => vaP_iff.mp h q (hm q hq))
theorem re_D {A : Nat → Prop} {L T : va_W} (hp : (T.map Prod.fst).Perm (L.map Prod.fst)) (hm : ∀ q ∈ T, q ∈ L) (h : va_D A L) : va_D A T := by
  rw [vaD_iff] at h ⊢
  exact ⟨hp.nodup_iff.mpr h.1, fun q hq => h.2 q (hm q hq)⟩
theorem wl_fst {cy : Nat → ClassId} {ad : Nat → Nat} {nm nv : Nat} {σ : St} : (wl cy ad nm nv σ).map Prod.fst = (idl nm nv).map ad := by
  unfold wl; rw [List.map_map]; rfl
theorem Dd.of {A : Nat → Prop} {cy : Nat → ClassId} {ad : Nat → Nat} {nm nv : Nat} {σ : St} (h : va_D A (wl cy ad nm nv σ)) : Dd A ad nm nv :=
  ⟨fun i j a b ha hb he => h.1 i j _ _ (wl_at (cy := cy) (ad := ad) (σ := σ) ha) (wl_at hb) he, fun a ha => by
    obtain ⟨k, hk⟩ := List.getElem?_of_mem ha
    exact h.2 k _ (wl_at (cy := cy) (ad := ad) (σ := σ) hk)⟩
theorem wl_mem {cy : Nat → ClassId} {ad : Nat → Nat} {nm nv : Nat} {σ : St} {q : Nat × va_E} : q ∈ wl cy ad nm nv σ ↔ ∃ id, id ∈ idl nm nv ∧ q = (ad id, ent cy ad σ id) := by
  unfold wl
  rw [List.mem_map]
  exact ⟨fun ⟨a, h1, h2⟩ => ⟨a, h1, h2.symm⟩, fun ⟨a, h1, h2⟩ => ⟨a, h1, h2.symm⟩⟩
theorem idl_mem {nm nv x : Nat} : x ∈ idl nm nv ↔ x ∈ idl0 ∨ (∃ j, j < 4 * nm ∧ x = 300 + j) ∨ ∃ j, j < 2 * nv ∧ x = 700 + j := by
  unfold idl
  rw [List.mem_append, List.mem_append, List.mem_map, List.mem_map]
  constructor
  · rintro (h | ⟨j, h1, rfl⟩ | ⟨j, h1, rfl⟩)
    · exact Or.inl h
    · exact Or.inr (Or.inl ⟨j, List.mem_range.mp h1, rfl⟩)
    · exact Or.inr (Or.inr ⟨j, List.mem_range.mp h1, rfl⟩)
  · rintro (h | ⟨j, h1, rfl⟩ | ⟨j, h1, rfl⟩)
    · exact Or.inl h
    · exact Or.inr (Or.inl ⟨j, List.mem_range.mpr h1, rfl⟩)
    · exact Or.inr (Or.inr ⟨j, List.mem_range.mpr h1, rfl⟩)
theorem idl0_lt {x : Nat} (h : x ∈ idl0) : x < 300 := List.mem_range.mp (List.mem_filter.mp h).1
theorem idlV (nm nv : Nat) : idl nm (nv + 1) = idl nm nv ++ [700 + 2 * nv, 701 + 2 * nv] := by
  unfold idl
  rw [show 2 * (nv + 1) = 2 * nv + 1 + 1 by omega, List.range_succ, List.range_succ]
  simp only [List.map_append, List.map_cons, List.map_nil, List.append_assoc, List.cons_append, List.nil_append]
  rw [show 700 + (2 * nv + 1) = 701 + 2 * nv by omega]
theorem idlM (nm nv : Nat) : (idl (nm + 1) nv).Perm (idl nm nv ++ [300 + 4 * nm, 301 + 4 * nm, 302 + 4 * nm, 303 + 4 * nm]) := by
  unfold idl
  rw [show 4 * (nm + 1) = 4 * nm + 1 + 1 + 1 + 1 by omega, List.range_succ, List.range_succ, List.range_succ, List.range_succ]
  simp only [List.map_append, List.map_cons, List.map_nil, List.append_assoc, List.cons_append, List.nil_append]
  rw [show 300 + (4 * nm + 1) = 301 + 4 * nm by omega, show 300 + (4 * nm + 1 + 1) = 302 + 4 * nm by omega, show 300 + (4 * nm + 1 + 1 + 1) = 303 + 4 * nm by omega]
  refine List.Perm.append_left _ (List.Perm.append_left _ ?_)
  exact List.perm_append_comm (l₁ := [300 + 4 * nm, 301 + 4 * nm, 302 + 4 * nm, 303 + 4 * nm])
-- what a cell refers to

def rfs (id : Nat) : List Nat := match kd id with
  | 4 => [20 + 40 * 0, 20 + 40 * 1, 20 + 40 * 2, 20 + 40 * 3]
  | 7 => [id + 1 + 0, id + 1 + 1, id + 1 + 2, id + 1 + 3]
  | 10 => [id + 1]
  | 11 => [9, 10, 11, 12, 13, 14, 15, 16]
  | 12 => [id + 1, id + 3]
  | 13 => [8, id + 2, id + 4, id + 5, id + 6, id + 7, id + 8, id + 9, id + 10, id + 11, id + 12]
  | 14 => [id + 1, id + 3, id + 4, id + 10]
  | 15 => [8, 1, 2, 3, 180, 200, 6, 4, 5]
  | _ => []
theorem rfs0 : ∀ id ∈ idl0, ∀ x ∈ rfs id, x ∈ idl0 := by decide +kernel
theorem kd5 : ∀ id ∈ idl0, kd id = 5 → id = 2 := by decide +kernel
theorem kd6 : ∀ id ∈ idl0, kd id = 6 → id = 3 := by decide +kernel
theorem ent_ad {cy : Nat → ClassId} {ad ad2 : Nat → Nat} {σ σ2 : St} {id : Nat} (hσ : ∀ j, σ2 id j = σ id j) (hA : ∀ x ∈ rfs id, ad2 x = ad x) (h5 : kd id = 5 → ∀ j : Nat, (j : Int) < σ id 0 → ad2 (300 + 4 * j) = ad (300 + 4 * j)) (h6 : kd id = 6 → ∀ j : Nat, (j : Int) < σ id 0 → ad2 (700 + 2 * j) = ad (700 + 2 * j)) : ent cy ad2 σ2 id = ent cy ad σ id := by
  rw [ent_congr hσ]
  unfold rfs at hA
  unfold ent
  generalize hk : kd id = k at *
  split
  · rfl
  · rfl
  · rfl
  · simp only [List.mem_cons, List.not_mem_nil, or_false, forall_eq_or_imp, forall_eq] at hA
    congr 7
    funext j
    by_cases h : j < 4
    · rw [if_pos h, if_pos h]
      rcases (show j = 0 ∨ j = 1 ∨ j = 2 ∨ j = 3 by omega) with rfl | rfl | rfl | rfl
      · rw [hA.1]
      · rw [hA.2.1]
      · rw [hA.2.2.1]
      · rw [hA.2.2.2]
    · rw [if_neg h, if_neg h]
  · congr 7
    funext j
    by_cases h : (j : Int) < σ id 0
    · rw [if_pos h, if_pos h, h5 rfl j h]
    · rw [if_neg h, if_neg h]
  · congr 7
    funext j
    by_cases h : (j : Int) < σ id 0
    · rw [if_pos h, if_pos h, h6 rfl j h]
    · rw [if_neg h, if_neg h]
  · simp only [List.mem_cons, List.not_mem_nil, or_false, forall_eq_or_imp, forall_eq] at hA
    congr 7
    funext j
    by_cases h : j < 4
    · rw [if_pos h, if_pos h]
      rcases (show j = 0 ∨ j = 1 ∨ j = 2 ∨ j = 3 by omega) with rfl | rfl | rfl | rfl
      · rw [hA.1]
      · rw [hA.2.1]
      · rw [hA.2.2.1]
      · rw [hA.2.2.2]
    · rw [if_neg h, if_neg h]
  · simp only [List.mem_cons, List.not_mem_nil, or_false, forall_eq_or_imp, forall_eq] at hA
    simp only [hA]
  · simp only [List.mem_cons, List.not_mem_nil, or_false, forall_eq_or_imp, forall_eq] at hA
    simp only [hA]
  · simp only [List.mem_cons, List.not_mem_nil, or_false, forall_eq_or_imp, forall_eq] at hA
    simp only [hA]
  · simp only [List.mem_cons, List.not_mem_nil, or_false, forall_eq_or_imp, forall_eq] at hA
    simp only [hA]
  · simp only [List.mem_cons, List.not_mem_nil, or_false, forall_eq_or_imp, forall_eq] at hA
    simp only [hA]
  · simp only [List.mem_cons, List.not_mem_nil, or_false, forall_eq_or_imp, forall_eq] at hA
    simp only [hA]
  · rfl
theorem rfs_in {nm nv id : Nat} (hm : nm ≤ 80) (hv : nv ≤ 11) (h : id ∈ idl nm nv) : ∀ x ∈ rfs id, x ∈ idl nm nv := by
  intro x hx
  rw [idl_mem] at h ⊢
  rcases h with h | ⟨j, hj, rfl⟩ | ⟨j, hj, rfl⟩
  · exact Or.inl (rfs0 _ h x hx)
  · refine Or.inr (Or.inl ?_)
    obtain ⟨i, k, hk, rfl⟩ : ∃ i k, k < 4 ∧ j = 4 * i + k := ⟨j / 4, j % 4, by omega, by omega⟩
    have hi : i < 80 := by omega
    unfold rfs at hx
    rcases (show k = 0 ∨ k = 1 ∨ k = 2 ∨ k = 3 by omega) with rfl | rfl | rfl | rfl
    · rw [show 300 + (4 * i + 0) = 300 + 4 * i + 0 by omega, (kdM0 hi).1] at hx
      simp only [List.mem_cons, List.not_mem_nil, or_false] at hx
      rcases hx with rfl | rfl
      · exact ⟨4 * i + 1, by omega, by omega⟩
      · exact ⟨4 * i + 3, by omega, by omega⟩
    · rw [show 300 + (4 * i + 1) = 300 + 4 * i + 1 by omega, (kdM1 hi).1] at hx
      simp only [List.mem_cons, List.not_mem_nil, or_false] at hx
      subst hx
      exact ⟨4 * i + 2, by omega, by omega⟩
    · rw [show 300 + (4 * i + 2) = 300 + 4 * i + 2 by omega, (kdM2 hi).1] at hx
      cases hx
    · rw [show 300 + (4 * i + 3) = 300 + 4 * i + 3 by omega, (kdM3 hi).1] at hx
      cases hx
  · refine Or.inr (Or.inr ?_)
    obtain ⟨i, k, hk, rfl⟩ : ∃ i k, k < 2 ∧ j = 2 * i + k := ⟨j / 2, j % 2, by omega, by omega⟩
    have hi : i < 11 := by omega
    unfold rfs at hx
    rcases (show k = 0 ∨ k = 1 by omega) with rfl | rfl
    · rw [show 700 + (2 * i + 0) = 700 + 2 * i + 0 by omega, (kdV0 hi).1] at hx
      simp only [List.mem_cons, List.not_mem_nil, or_false] at hx
      subst hx
      exact ⟨2 * i + 1, by omega, by omega⟩
    · rw [show 700 + (2 * i + 1) = 700 + 2 * i + 1 by omega, (kdV1 hi).1] at hx
      cases hx
theorem kdd {nm nv id : Nat} (hm : nm ≤ 80) (hv : nv ≤ 11) (h : id ∈ idl nm nv) : (kd id = 5 → id = 2) ∧ (kd id = 6 → id = 3) := by
  rw [idl_mem] at h
  rcases h with h | ⟨j, hj, rfl⟩ | ⟨j, hj, rfl⟩
  · exact ⟨kd5 _ h, kd6 _ h⟩
  · obtain ⟨i, k, hk, rfl⟩ : ∃ i k, k < 4 ∧ j = 4 * i + k := ⟨j / 4, j % 4, by omega, by omega⟩
    have hi : i < 80 := by omega
    rcases (show k = 0 ∨ k = 1 ∨ k = 2 ∨ k = 3 by omega) with rfl | rfl | rfl | rfl
    · rw [show 300 + (4 * i + 0) = 300 + 4 * i + 0 by omega, (kdM0 hi).1]; exact ⟨fun h => (by cases h), fun h => (by cases h)⟩
    · rw [show 300 + (4 * i + 1) = 300 + 4 * i + 1 by omega, (kdM1 hi).1]; exact ⟨fun h => (by cases h), fun h => (by cases h)⟩
    · rw [show 300 + (4 * i + 2) = 300 + 4 * i + 2 by omega, (kdM2 hi).1]; exact ⟨fun h => (by cases h), fun h => (by cases h)⟩
    · rw [show 300 + (4 * i + 3) = 300 + 4 * i + 3 by omega, (kdM3 hi).1]; exact ⟨fun h => (by cases h), fun h => (by cases h)⟩
  · obtain ⟨i, k, hk, rfl⟩ : ∃ i k, k < 2 ∧ j = 2 * i + k := ⟨j / 2, j % 2, by omega, by omega⟩
    have hi : i < 11 := by omega
    rcases (show k = 0 ∨ k = 1 by omega) with rfl | rfl
    · rw [show 700 + (2 * i + 0) = 700 + 2 * i + 0 by omega, (kdV0 hi).1]; exact ⟨fun h => (by cases h), fun h => (by cases h)⟩
    · rw [show 700 + (2 * i + 1) = 700 + 2 * i + 1 by omega, (kdV1 hi).1]; exact ⟨fun h => (by cases h), fun h => (by cases h)⟩
/-- the same cells by another table of addresses -/
theorem ent_same {cy : Nat → ClassId} {ad ad2 : Nat → Nat} {σ σ2 : St} {nm nv id : Nat} (hm : nm ≤ 80) (hv : nv ≤ 11) (h : id ∈ idl nm nv) (g2 : σ 2 0 ≤ (nm : Int)) (g3 : σ 3 0 ≤ (nv : Int)) (hσ : ∀ j, σ2 id j = σ id j) (hA : ∀ x ∈ idl nm nv, ad2 x = ad x) : ent cy ad2 σ2 id = ent cy ad σ id := by
  refine ent_ad hσ (fun x hx => hA x (rfs_in hm hv h x hx)) (fun hk j hj => ?_) (fun hk j hj => ?_)
  · rw [(kdd hm hv h).1 hk] at hj
    exact hA _ (memM (k := 0) (by omega) (by omega))
  · rw [(kdd hm hv h).2 hk] at hj
    exact hA _ (memV (k := 0) (by omega) (by omega))
-- a set that nobody knows yet, as one more version
def adV (ad : Nat → Nat) (nv a b : Nat) : Nat → Nat := fun id => if id = 700 + 2 * nv then a else if id = 701 + 2 * nv then b else ad id
def stV (nv : Nat) (σ : St) : St := fun a b => if a = 700 + 2 * nv ∨ a = 701 + 2 * nv then 0 else σ a b
theorem adV_old {ad : Nat → Nat} {nm nv a b x : Nat} (hm : nm ≤ 80) (h : x ∈ idl nm nv) : adV ad nv a b x = ad x := by
  have : x ≠ 700 + 2 * nv ∧ x ≠ 701 + 2 * nv := by
    rcases idl_mem.mp h with h | ⟨j, hj, rfl⟩ | ⟨j, hj, rfl⟩
    · have := idl0_lt h; omega
    · omega
    · omega
  unfold adV; rw [if_neg this.1, if_neg this.2]
theorem stV_old {σ : St} {nm nv x : Nat} (hm : nm ≤ 80) (h : x ∈ idl nm nv) (j : Nat) : stV nv σ x j = σ x j := by
  have : x ≠ 700 + 2 * nv ∧ x ≠ 701 + 2 * nv := by
    rcases idl_mem.mp h with h | ⟨j, hj, rfl⟩ | ⟨j, hj, rfl⟩
    · have := idl0_lt h; omega
    · omega
    · omega
  unfold stV; rw [if_neg (by omega)]
theorem stV_inR {σ : St} {nv : Nat} (h : ∀ a b, inR (σ a b)) : ∀ a b, inR (stV nv σ a b) := by
  intro a b; unfold stV; split
  · decide
  · exact h a b
theorem stV_gh {σ : St} {nv g : Nat} (hg : g = 2 ∨ g = 3) : stV nv σ g 0 = σ g 0 := by
  unfold stV; rw [if_neg (by omega)]
theorem wlV {cy : Nat → ClassId} {ad : Nat → Nat} {nm nv : Nat} {σ : St} {r : Nat → Nat} (hm : nm ≤ 80) (hv : nv ≤ 10) (g2 : σ 2 0 ≤ (nm : Int)) (g3 : σ 3 0 ≤ (nv : Int)) : wl cy ad nm nv σ ++ gX0 cy r = wl cy (adV ad nv (r 0) (r 1)) nm (nv + 1) (stV nv σ) := by
  unfold wl
  rw [idlV, List.map_append]
  have e0 : adV ad nv (r 0) (r 1) (700 + 2 * nv) = r 0 := if_pos rfl
  have e1 : adV ad nv (r 0) (r 1) (701 + 2 * nv) = r 1 := by unfold adV; rw [if_neg (by omega), if_pos rfl]
  have z0 : ∀ j, stV nv σ (700 + 2 * nv) j = 0 := fun j => if_pos (Or.inl rfl)
  have z1 : ∀ j, stV nv σ (701 + 2 * nv) j = 0 := fun j => if_pos (Or.inr rfl)
  congr 1
  · refine List.map_congr_left (fun id hid => ?_)
    rw [adV_old hm hid, ent_same hm (by omega) hid g2 g3 (stV_old hm hid) (fun x hx => adV_old hm hx)]
  · show gX0 cy r = [(adV ad nv (r 0) (r 1) (700 + 2 * nv), ent cy (adV ad nv (r 0) (r 1)) (stV nv σ) (700 + 2 * nv)), (adV ad nv (r 0) (r 1) (701 + 2 * nv), ent cy (adV ad nv (r 0) (r 1)) (stV nv σ) (701 + 2 * nv))]
    have k0 := kdV0 (i := nv) (by omega)
    have k1 := kdV1 (i := nv) (by omega)
    rw [show 700 + 2 * nv + 0 = 700 + 2 * nv by omega] at k0
    rw [show 700 + 2 * nv + 1 = 701 + 2 * nv by omega] at k1
    rw [ent_X0 k0.1, ent_2 k1.1 k1.2, e0, e1, show 700 + 2 * nv + 1 = 701 + 2 * nv by omega, e1, z0 1]
    have : (fun j => i32 (stV nv σ (701 + 2 * nv) j)) = fun _ => 0 := by
      funext j; rw [z1 j]; rfl
    rw [this]
    rfl
-- one more message
def adM (ad : Nat → Nat) (nm a b c d : Nat) : Nat → Nat := fun id => if id = 300 + 4 * nm then a else if id = 301 + 4 * nm then b else if id = 302 + 4 * nm then c else if id = 303 + 4 * nm then d else ad id
def stM (nm nv s : Nat) (rc : Int) (σ : St) : St := fun a b => if a = 300 + 4 * nm then (if b = 0 then rc else 0) else if a = 301 + 4 * nm then σ (700 + 2 * nv) b else if a = 302 + 4 * nm then σ (701 + 2 * nv) b else if a = 303 + 4 * nm then σ (s + 4) b else σ a b
theorem newM {nm nv x : Nat} (hm : nm < 80) (h : x ∈ idl nm nv) : x ≠ 300 + 4 * nm ∧ x ≠ 301 + 4 * nm ∧ x ≠ 302 + 4 * nm ∧ x ≠ 303 + 4 * nm := by
  rcases idl_mem.mp h with h | ⟨j, hj, rfl⟩ | ⟨j, hj, rfl⟩
  · have := idl0_lt h; omega
  · omega
  · omega
theorem adM_old {ad : Nat → Nat} {nm nv a b c d x : Nat} (hm : nm < 80) (h : x ∈ idl nm nv) : adM ad nm a b c d x = ad x := by
  have := newM hm h
  unfold adM; rw [if_neg this.1, if_neg this.2.1, if_neg this.2.2.1, if_neg this.2.2.2]
theorem stM_old {σ : St} {nm nv nv2 s x : Nat} {rc : Int} (hm : nm < 80) (h : x ∈ idl nm nv) (j : Nat) : stM nm nv2 s rc σ x j = σ x j := by
  have := newM hm h
  unfold stM; rw [if_neg this.1, if_neg this.2.1, if_neg this.2.2.1, if_neg this.2.2.2]
theorem stM_inR {σ : St} {nm nv s : Nat} {rc : Int} (hr : inR rc) (h : ∀ a b, inR (σ a b)) : ∀ a b, inR (stM nm nv s rc σ a b) := by
  intro a b; unfold stM
  repeat' split
  all_goals first | exact hr | exact h _ _ | decide
theorem idlM_mem {nm nv x : Nat} (h : x ∈ idl (nm + 1) nv) : x ∈ idl nm nv ∨ x = 300 + 4 * nm ∨ x = 301 + 4 * nm ∨ x = 302 + 4 * nm ∨ x = 303 + 4 * nm := by
  have := (idlM nm nv).mem_iff.mp h
  rw [List.mem_append] at this
  rcases this with h | h
  · exact Or.inl h
  · simp only [List.mem_cons, List.not_mem_nil, or_false] at h
    exact Or.inr h
def gM (cy : Nat → ClassId) (ad : Nat → Nat) (nm nv s : Nat) (rc : Int) (σ : St) (r : Nat → Nat) : va_W := (r 0, .inr (2, [.int (i32 rc), .ref (r 1), .ref (r 3)])) :: (wl cy (adV ad nv (r 1) (r 2)) nm (nv + 1) σ ++ [(r 3, .inl (cy 1, 4, .inl (fun j => i32 (σ (s + 4) j))))])
theorem gM_at {nm : Nat} (hm : nm < 80) : (kd (300 + 4 * nm) = 12) ∧ (kd (301 + 4 * nm) = 10) ∧ (kd (302 + 4 * nm) = 2 ∧ ln (302 + 4 * nm) = 160) ∧ (kd (303 + 4 * nm) = 1 ∧ ln (303 + 4 * nm) = 4) := by
  have k0 := kdM0 hm
  have k1 := kdM1 hm
  have k2 := kdM2 hm
  have k3 := kdM3 hm
  rw [show 300 + 4 * nm + 0 = 300 + 4 * nm by omega] at k0
  rw [show 300 + 4 * nm + 1 = 301 + 4 * nm by omega] at k1
  rw [show 300 + 4 * nm + 2 = 302 + 4 * nm by omega] at k2
  rw [show 300 + 4 * nm + 3 = 303 + 4 * nm by omega] at k3
  exact ⟨k0.1, k1.1, k2, k3⟩
theorem gM_mem {cy : Nat → ClassId} {ad : Nat → Nat} {nm nv s : Nat} {rc : Int} {σ : St} {r : Nat → Nat} (hm : nm < 80) (hv : nv ≤ 10) (g2 : σ 2 0 ≤ (nm : Int)) (g3 : σ 3 0 ≤ (nv : Int)) : ∀ q ∈ wl cy (adM ad nm (r 0) (r 1) (r 2) (r 3)) (nm + 1) nv (stM nm nv s rc σ), q ∈ gM cy ad nm nv s rc σ r := by
  intro q hq
  obtain ⟨id, hid, rfl⟩ := wl_mem.mp hq
  unfold gM
  rw [List.mem_cons, List.mem_append]
  have a0 : adM ad nm (r 0) (r 1) (r 2) (r 3) (300 + 4 * nm) = r 0 := if_pos rfl
  have a1 : adM ad nm (r 0) (r 1) (r 2) (r 3) (301 + 4 * nm) = r 1 := by unfold adM; rw [if_neg (by omega), if_pos rfl]
  have a2 : adM ad nm (r 0) (r 1) (r 2) (r 3) (302 + 4 * nm) = r 2 := by unfold adM; rw [if_neg (by omega), if_neg (by omega), if_pos rfl]
  have a3 : adM ad nm (r 0) (r 1) (r 2) (r 3) (303 + 4 * nm) = r 3 := by unfold adM; rw [if_neg (by omega), if_neg (by omega), if_neg (by omega), if_pos rfl]
  have b0 : adV ad nv (r 1) (r 2) (700 + 2 * nv) = r 1 := if_pos rfl
  have b1 : adV ad nv (r 1) (r 2) (701 + 2 * nv) = r 2 := by unfold adV; rw [if_neg (by omega), if_pos rfl]
  have s0 : stM nm nv s rc σ (300 + 4 * nm) 0 = rc := by unfold stM; rw [if_pos rfl, if_pos rfl]
  have s1 : ∀ j, stM nm nv s rc σ (301 + 4 * nm) j = σ (700 + 2 * nv) j := fun j => by unfold stM; rw [if_neg (by omega), if_pos rfl]
  have s2 : ∀ j, stM nm nv s rc σ (302 + 4 * nm) j = σ (701 + 2 * nv) j := fun j => by unfold stM; rw [if_neg (by omega), if_neg (by omega), if_pos rfl]
  have s3 : ∀ j, stM nm nv s rc σ (303 + 4 * nm) j = σ (s + 4) j := fun j => by unfold stM; rw [if_neg (by omega), if_neg (by omega), if_neg (by omega), if_pos rfl]
  obtain ⟨k0, k1, k2, k3⟩ := gM_at hm
  have v0 := kdV0 (i := nv) (by omega)
  have v1 := kdV1 (i := nv) (by omega)
  rw [show 700 + 2 * nv + 0 = 700 + 2 * nv by omega] at v0
  rw [show 700 + 2 * nv + 1 = 701 + 2 * nv by omega] at v1
  have mV : 700 + 2 * nv ∈ idl nm (nv + 1) := by rw [idlV, List.mem_append]; exact Or.inr List.mem_cons_self
  have mW : 701 + 2 * nv ∈ idl nm (nv + 1) := by rw [idlV, List.mem_append]; exact Or.inr (List.mem_cons_of_mem _ List.mem_cons_self)
  rcases idlM_mem hid with hid | rfl | rfl | rfl | rfl
  · refine Or.inr (Or.inl (wl_mem.mpr ⟨id, by rw [idlV, List.mem_append]; exact Or.inl hid, ?_⟩))
    rw [adM_old hm hid, adV_old (by omega) hid, ent_same (by omega) (by omega) hid g2 g3 (stM_old hm hid) (fun x hx => (adM_old hm hx)), ent_same (by omega) (by omega) hid g2 g3 (fun _ => rfl) (fun x hx => adV_old (by omega) hx)]
  · refine Or.inl ?_
    rw [ent_X2 k0, a0, s0, show 300 + 4 * nm + 1 = 301 + 4 * nm by omega, a1, show 300 + 4 * nm + 3 = 303 + 4 * nm by omega, a3]
  · refine Or.inr (Or.inl (wl_mem.mpr ⟨700 + 2 * nv, mV, ?_⟩))
    rw [ent_X0 k1, ent_X0 v0.1, a1, b0, s1, show 301 + 4 * nm + 1 = 302 + 4 * nm by omega, a2, show 700 + 2 * nv + 1 = 701 + 2 * nv by omega, b1]
  · refine Or.inr (Or.inl (wl_mem.mpr ⟨701 + 2 * nv, mW, ?_⟩))
    rw [ent_2 k2.1 k2.2, ent_2 v1.1 v1.2, a2, b1]
    simp only [s2]
  · refine Or.inr (Or.inr ?_)
    rw [ent_1 k3.1 k3.2, a3]
    simp only [s3, List.mem_cons, List.not_mem_nil, or_false]
theorem gM_perm {cy : Nat → ClassId} {ad : Nat → Nat} {nm nv s : Nat} {rc : Int} {σ : St} {r : Nat → Nat} (hm : nm < 80) : ((wl cy (adM ad nm (r 0) (r 1) (r 2) (r 3)) (nm + 1) nv (stM nm nv s rc σ)).map Prod.fst).Perm ((gM cy ad nm nv s rc σ r).map Prod.fst) := by
  have e : (gM cy ad nm nv s rc σ r).map Prod.fst = r 0 :: ((idl nm nv).map ad ++ [r 1, r 2, r 3]) := by
    unfold gM
    rw [List.map_cons, List.map_append, wl_fst, idlV, List.map_append, List.append_assoc]
    have h1 : (idl nm nv).map (adV ad nv (r 1) (r 2)) = (idl nm nv).map ad := List.map_congr_left (fun x hx => adV_old (by omega) hx)
    have b0 : adV ad nv (r 1) (r 2) (700 + 2 * nv) = r 1 := if_pos rfl
    have b1 : adV ad nv (r 1) (r 2) (701 + 2 * nv) = r 2 := by unfold adV; rw [if_neg (by omega), if_pos rfl]
    rw [h1, List.map_cons, List.map_cons, List.map_nil, b0, b1]
    rfl
  rw [e, wl_fst]
  refine ((idlM nm nv).map _).trans ?_
  rw [List.map_append]
  have h1 : (idl nm nv).map (adM ad nm (r 0) (r 1) (r 2) (r 3)) = (idl nm nv).map ad := List.map_congr_left (fun x hx => adM_old hm hx)
  have a0 : adM ad nm (r 0) (r 1) (r 2) (r 3) (300 + 4 * nm) = r 0 := if_pos rfl
  have a1 : adM ad nm (r 0) (r 1) (r 2) (r 3) (301 + 4 * nm) = r 1 := by unfold adM; rw [if_neg (by omega), if_pos rfl]
  have a2 : adM ad nm (r 0) (r 1) (r 2) (r 3) (302 + 4 * nm) = r 2 := by unfold adM; rw [if_neg (by omega), if_neg (by omega), if_pos rfl]
  have a3 : adM ad nm (r 0) (r 1) (r 2) (r 3) (303 + 4 * nm) = r 3 := by unfold adM; rw [if_neg (by omega), if_neg (by omega), if_neg (by omega), if_pos rfl]
  rw [h1, List.map_cons, List.map_cons, List.map_cons, List.map_cons, List.map_nil, a0, a1, a2, a3]
  exact List.perm_middle
