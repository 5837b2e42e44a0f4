/-! ===== one act more, in the abstract ===== -/
section MK
variable {A : St} {N nm nv s : Nat} {k x y z p : Int}
/-- the order with one act more -/
def oIns (A : St) (N s : Nat) : List Int := (OL A N).filter (fun a => decide (key A a < 4 * (A 247 s + 1) + s)) ++ (N : Int) :: (OL A N).filter (fun a => !decide (key A a < 4 * (A 247 s + 1) + s))
def mkRow (A : St) (N s : Nat) (k x y z p : Int) (r : Nat) : Int := if r = 9 then (s : Int) else if r = 10 then A 247 s + 1 else if r = 11 then k else if r = 12 then x else if r = 13 then y else if r = 14 then z else p
def mkA (A : St) (N s : Nat) (k x y z p : Int) : St := fun a b =>
  if a = 8 then (if b = 8 then (N : Int) + 1 else if b = 9 ∧ k = 7 then A 8 9 + 1 else A 8 b)
  else if 9 ≤ a ∧ a ≤ 15 then (if b = N then mkRow A N s k x y z p a else A a b)
  else if a = 16 then (if b ≤ N then (oIns A N s).getD b 0 else A 16 b)
  else if a = 243 then (if b = 160 * s + N then 1 else A 243 b)
  else if a = 244 then (if b = 160 * s + (A 245 s).toNat then (N : Int) else A 244 b)
  else if a = 245 then (if b = s then A 245 s + 1 else A 245 b)
  else if a = 247 then (if b = s then A 247 s + 1 else A 247 b)
  else A a b
theorem mk_8 : mkA A N s k x y z p 8 = fun b => if b = 8 then (N : Int) + 1 else if b = 9 ∧ k = 7 then A 8 9 + 1 else A 8 b := rfl
theorem mk_t {r : Nat} (h1 : 9 ≤ r) (h2 : r ≤ 15) (b : Nat) : mkA A N s k x y z p r b = if b = N then mkRow A N s k x y z p r else A r b := by
  unfold mkA; rw [if_neg (by omega), if_pos ⟨h1, h2⟩]
theorem mk_16 (b : Nat) : mkA A N s k x y z p 16 b = if b ≤ N then (oIns A N s).getD b 0 else A 16 b := rfl
theorem mk_243 (b : Nat) : mkA A N s k x y z p 243 b = if b = 160 * s + N then 1 else A 243 b := rfl
theorem mk_244 (b : Nat) : mkA A N s k x y z p 244 b = if b = 160 * s + (A 245 s).toNat then (N : Int) else A 244 b := rfl
theorem mk_245 (b : Nat) : mkA A N s k x y z p 245 b = if b = s then A 245 s + 1 else A 245 b := rfl
theorem mk_247 (b : Nat) : mkA A N s k x y z p 247 b = if b = s then A 247 s + 1 else A 247 b := rfl
theorem mk_o {a : Nat} (h1 : a < 8 ∨ 16 < a) (h2 : a < 243 ∨ 247 < a ∨ a = 246) : mkA A N s k x y z p a = A a := by
  funext b
  unfold mkA; rw [if_neg (by omega), if_neg (by omega), if_neg (by omega), if_neg (by omega), if_neg (by omega), if_neg (by omega), if_neg (by omega)]
/-- what an act of a site may say -/
def okM (A : St) (N s : Nat) (k x y z p : Int) : Prop := (N < 160 ∧ s < 4) ∧ (0 ≤ k ∧ k ≤ 12) ∧ isB p ∧ (0 ≤ z ∧ z ≤ 65535) ∧
  ((k = 0 ∨ k = 1) → x = -1 ∨ (Hs A s x = true ∧ mkE A N x = true)) ∧
  ((k = 2 ∨ k = 3) → Hs A s x = true ∧ mkE A N x = true) ∧
  ((k = 4 ∨ k = 7) → (Hs A s x = true ∧ mkE A N x = true) ∧ Hs A s y = true ∧ mkE A N y = true) ∧
  (k = 4 → 0 ≤ z ∧ z < 2) ∧ (k = 7 → (0 ≤ z ∧ z < 20) ∧ A 8 9 < 20) ∧
  ((k = 5 ∨ k = 6 ∨ k = 10) → -1 ≤ x ∧ x < (N : Int) ∧ (0 ≤ x → A 11 x.toNat = 1)) ∧
  (k = 6 → y = -2 ∨ (-1 ≤ y ∧ y < (N : Int) ∧ (0 ≤ y → A 11 y.toNat = 1))) ∧
  (k = 10 → 0 < y ∧ y < 4 ∧ 0 ≤ z ∧ z ≤ 2) ∧
  ((k = 8 ∨ k = 9 ∨ k = 11 ∨ k = 12) → Hs A s x = true)
theorem mk_ext : ExT A (mkA A N s k x y z p) N (N + 1) := ⟨by omega, fun r h1 h2 i hi => by rw [mk_t h1 h2, if_neg (by omega)]⟩
theorem mk_tN {r : Nat} (h1 : 9 ≤ r) (h2 : r ≤ 15) : mkA A N s k x y z p r N = mkRow A N s k x y z p r := by
  rw [mk_t h1 h2, if_pos rfl]
theorem mk_key : key (mkA A N s k x y z p) (N : Int) = 4 * (A 247 s + 1) + s := by
  unfold key
  rw [Int.toNat_natCast, mk_tN (by decide) (by decide), mk_tN (by decide) (by decide)]; rfl
theorem mk_mE {x' : Int} (h : x' < (N : Int)) : mkE (mkA A N s k x y z p) (N + 1) x' = mkE A N x' := mk_ext.m h
theorem Hs_N {t : Nat} (hI : Inv A N nm nv) (ht : t < 4) : Hs A t (N : Int) = false := by
  cases h : Hs A t (N : Int) with
  | false => rfl
  | true => have := Hs_lt hI ht h; omega
theorem JL_len (hI : Inv A N nm nv) {t : Nat} (ht : t < 4) : 0 ≤ A 245 t ∧ A 245 t ≤ (N : Int) ∧ (JL A t).length = (A 245 t).toNat := by
  have h1 := Hs_size hI ht
  have h2 : ((OL A N).filter (Hs A t)).length ≤ N := by
    have := List.length_filter_le (Hs A t) (OL A N)
    have e : (OL A N).length = N := seg_len _ _ _
    omega
  exact ⟨(hI.2.1 t ht).2.2.1, by omega, seg_len _ _ _⟩
/-- a number that the site holds comes before the new act -/
theorem mk_lt (hI : Inv A N nm nv) (hs : s < 4) {a : Int} (ha : 0 ≤ a ∧ a < (N : Int)) (h : A 9 a.toNat = (s : Int) ∨ A 243 (160 * s + a.toNat) ≠ 0) : key A a < 4 * (A 247 s + 1) + s := by
  have h2 := (hI.2.1 s hs).2.2.2.2.2.2.2.2.1 a.toNat (by omega) h
  have h3 := (hI.1.2.2.2.1 a.toNat (by omega)).1
  unfold key; omega
theorem mk_ltH (hI : Inv A N nm nv) (hs : s < 4) {a : Int} (h : Hs A s a = true) : key A a < 4 * (A 247 s + 1) + s :=
  mk_lt hI hs (Hs_lt hI hs h) (Or.inr (of_decide_eq_true h).2)
theorem mk_ne (hI : Inv A N nm nv) (hs : s < 4) {a : Int} (ha : 0 ≤ a ∧ a < (N : Int)) : key A a ≠ 4 * (A 247 s + 1) + s := by
  intro e
  have h3 := (hI.1.2.2.2.1 a.toNat (by omega)).1
  by_cases q : A 9 a.toNat = (s : Int)
  · have := mk_lt hI hs ha (Or.inl q); omega
  · unfold key at e; omega
theorem oIns_mem (hI : Inv A N nm nv) (a : Int) : a ∈ oIns A N s ↔ 0 ≤ a ∧ a < ((N + 1 : Nat) : Int) := by
  unfold oIns
  rw [List.mem_append, List.mem_cons, List.mem_filter, List.mem_filter, hI.1.2.2.2.2.1.2]
  by_cases q : key A a < 4 * (A 247 s + 1) + s
  · rw [decide_eq_true q]; simp; omega
  · rw [decide_eq_false q]; simp; omega
theorem oIns_sorted (hI : Inv A N nm nv) (hs : s < 4) : (oIns A N s).Pairwise (fun a b => key (mkA A N s k x y z p) a < key (mkA A N s k x y z p) b) := by
  have hts := hI.1.2.2.2.2.1
  have up : ∀ P : Int → Bool, ((OL A N).filter P).Pairwise (fun a b => key (mkA A N s k x y z p) a < key (mkA A N s k x y z p) b) := fun P => by
    refine List.Pairwise.imp_of_mem ?_ (List.Pairwise.filter P hts.1)
    intro a b ha hb hab
    rw [List.mem_filter, hts.2] at ha hb
    rw [mk_ext.k ha.1, mk_ext.k hb.1]; exact hab
  unfold oIns
  rw [List.pairwise_append, List.pairwise_cons]
  refine ⟨up _, ⟨fun b hb => ?_, up _⟩, fun a ha b hb => ?_⟩
  · rw [List.mem_filter, hts.2] at hb
    have h1 := mk_ne hI hs hb.1
    have h2 : ¬ key A b < 4 * (A 247 s + 1) + s := by
      have := hb.2; simp at this; omega
    rw [mk_key, mk_ext.k hb.1]; omega
  · rw [List.mem_filter, hts.2] at ha
    have h2 := of_decide_eq_true ha.2
    rw [mk_ext.k ha.1]
    rcases List.mem_cons.mp hb with q | q
    · rw [q, mk_key]; exact h2
    · rw [List.mem_filter, hts.2] at q
      have h3 : ¬ key A b < 4 * (A 247 s + 1) + s := by
        have := q.2; simp at this; omega
      rw [mk_ext.k q.1]; omega
theorem oIns_len (hI : Inv A N nm nv) (hs : s < 4) : (oIns A N s).length = N + 1 := by
  have h1 : (oIns A N s).Nodup := List.Pairwise.imp (fun {a b} q => by intro e; subst e; omega) (oIns_sorted (k := 0) (x := 0) (y := 0) (z := 0) (p := 0) hI hs)
  have h2 := cnt_same (P := fun _ => true) h1 (ids_nd (N := N + 1)) (fun a _ => by rw [oIns_mem hI, ids_mem])
  rw [cnt_all, cnt_all] at h2
  have : (ids (N + 1)).length = N + 1 := seg_len _ _ _
  omega
theorem mk_OL (hI : Inv A N nm nv) (hs : s < 4) : OL (mkA A N s k x y z p) (N + 1) = oIns A N s := by
  refine seg_of_get (oIns_len hI hs) (fun j hj => ?_)
  rw [mk_16, if_pos (by omega), List.getD_eq_getElem?_getD, List.getElem?_eq_getElem (by rw [oIns_len hI hs]; exact hj)]; rfl
theorem mk_TS (hI : Inv A N nm nv) (hs : s < 4) : TS (mkA A N s k x y z p) (N + 1) := by
  refine ⟨?_, fun a => ?_⟩
  · rw [mk_OL hI hs]; exact oIns_sorted hI hs
  · rw [mk_OL hI hs]; exact oIns_mem hI a
theorem mk_TV (hI : Inv A N nm nv) (h : okM A N s k x y z p) : TV (mkA A N s k x y z p) (N + 1) := by
  intro a ha
  by_cases q : a < N
  · have v := hI.1.2.2.2.1 a q
    have e : ∀ r, 9 ≤ r → r ≤ 15 → mkA A N s k x y z p r a = A r a := fun r h1 h2 => mk_ext.2 r h1 h2 a q
    have e2 : ∀ w : Int, w < (a : Int) → mkE (mkA A N s k x y z p) (N + 1) w = mkE A N w := fun w hw => mk_mE (by omega)
    have e3 : ∀ w : Int, w < (a : Int) → mkA A N s k x y z p 11 w.toNat = A 11 w.toNat := fun w hw => by
      by_cases q2 : w.toNat = N
      · omega
      · rw [mk_t (by decide) (by decide), if_neg q2]
    rw [e 9 (by decide) (by decide), e 10 (by decide) (by decide), e 11 (by decide) (by decide), e 12 (by decide) (by decide), e 13 (by decide) (by decide), e 14 (by decide) (by decide), e 15 (by decide) (by decide)]
    obtain ⟨v1, v2, v3, v4, v5, v6, v7, v8, v9, v10, v11, v12, v13, v14⟩ := v
    refine ⟨v1, v2, v3, v4, v5, fun g => ?_, fun g => ?_, fun g => ?_, v9, v10, fun g => ?_, fun g => ?_, v13, v14⟩
    · have := v6 g; exact ⟨this.1, this.2.1, fun g2 => by rw [e2 _ this.2.1]; exact this.2.2 g2⟩
    · have := v7 g; exact ⟨this.1, this.2.1, by rw [e2 _ this.2.1]; exact this.2.2⟩
    · have := v8 g; exact ⟨this.1, this.2.1, by rw [e2 _ this.2.1]; exact this.2.2.1, this.2.2.2.1, this.2.2.2.2.1, by rw [e2 _ this.2.2.2.2.1]; exact this.2.2.2.2.2⟩
    · have := v11 g; exact ⟨this.1, this.2.1, fun g2 => by rw [e3 _ this.2.1]; exact this.2.2 g2⟩
    · rcases v12 g with w | w
      · exact Or.inl w
      · exact Or.inr ⟨w.1, w.2.1, fun g2 => by rw [e3 _ w.2.1]; exact w.2.2 g2⟩
  · have qa : a = N := by omega
    subst qa
    obtain ⟨⟨hN, hs⟩, o1, o2, o3, o4, o5, o6, o7, o8, o9, o10, o11, o12⟩ := h
    have h247 := (hI.2.1 s hs).2.1
    rw [mk_tN (by decide) (by decide), mk_tN (by decide) (by decide), mk_tN (by decide) (by decide), mk_tN (by decide) (by decide), mk_tN (by decide) (by decide), mk_tN (by decide) (by decide), mk_tN (by decide) (by decide)]
    show (0 ≤ (s : Int) ∧ (s : Int) < 4) ∧ (1 ≤ A 247 s + 1 ∧ A 247 s + 1 ≤ 160) ∧ (0 ≤ k ∧ k ≤ 12) ∧ isB p ∧ (0 ≤ z ∧ z ≤ 65535) ∧
      ((k = 0 ∨ k = 1) → -1 ≤ x ∧ x < (a : Int) ∧ (0 ≤ x → mkE (mkA A a s k x y z p) (a + 1) x = true)) ∧
      ((k = 2 ∨ k = 3) → 0 ≤ x ∧ x < (a : Int) ∧ mkE (mkA A a s k x y z p) (a + 1) x = true) ∧
      ((k = 4 ∨ k = 7) → 0 ≤ x ∧ x < (a : Int) ∧ mkE (mkA A a s k x y z p) (a + 1) x = true ∧ 0 ≤ y ∧ y < (a : Int) ∧ mkE (mkA A a s k x y z p) (a + 1) y = true) ∧
      (k = 4 → 0 ≤ z ∧ z < 2) ∧ (k = 7 → 0 ≤ z ∧ z < 20) ∧
      ((k = 5 ∨ k = 6 ∨ k = 10) → -1 ≤ x ∧ x < (a : Int) ∧ (0 ≤ x → mkA A a s k x y z p 11 x.toNat = 1)) ∧
      (k = 6 → y = -2 ∨ (-1 ≤ y ∧ y < (a : Int) ∧ (0 ≤ y → mkA A a s k x y z p 11 y.toNat = 1))) ∧
      (k = 10 → 0 < y ∧ y < 4 ∧ 0 ≤ z ∧ z ≤ 2) ∧
      ((k = 8 ∨ k = 9 ∨ k = 11 ∨ k = 12) → 0 ≤ x ∧ x < (a : Int))
    have hm : ∀ w : Int, Hs A s w = true → mkE A a w = true → 0 ≤ w ∧ w < (a : Int) ∧ mkE (mkA A a s k x y z p) (a + 1) w = true := fun w w1 w2 => by
      have := Hs_lt hI hs w1
      exact ⟨this.1, this.2, by rw [mk_mE this.2]; exact w2⟩
    have e3 : ∀ w : Int, 0 ≤ w → w < (a : Int) → mkA A a s k x y z p 11 w.toNat = A 11 w.toNat := fun w h0 hw => by
      rw [mk_t (by decide) (by decide), if_neg (by omega)]
    refine ⟨by omega, by omega, o1, o2, o3, fun g => ?_, fun g => ?_, fun g => ?_, o7, fun g => (o8 g).1, fun g => ?_, fun g => ?_, o11, fun g => ?_⟩
    · rcases o4 g with w | w
      · rw [w]; exact ⟨by omega, by omega, fun h => absurd h (by decide)⟩
      · have := hm x w.1 w.2; exact ⟨by omega, this.2.1, fun _ => this.2.2⟩
    · exact hm x (o5 g).1 (o5 g).2
    · have w := o6 g
      have w1 := hm x w.1.1 w.1.2
      have w2 := hm y w.2.1 w.2.2
      exact ⟨w1.1, w1.2.1, w1.2.2, w2⟩
    · have w := o9 g
      exact ⟨w.1, w.2.1, fun h0 => by rw [e3 x h0 w.2.1]; exact w.2.2 h0⟩
    · rcases o10 g with w | w
      · exact Or.inl w
      · exact Or.inr ⟨w.1, w.2.1, fun h0 => by rw [e3 y h0 w.2.1]; exact w.2.2 h0⟩
    · exact Hs_lt hI hs (o12 g)
theorem mk_TK (hI : Inv A N nm nv) (h : okM A N s k x y z p) : TK (mkA A N s k x y z p) (N + 1) := by
  intro a ha
  by_cases q : a < N
  · have v := hI.1.2.2.2.1 a q
    have w := hI.1.2.2.2.2.2.1 a q
    have e : ∀ r, 9 ≤ r → r ≤ 15 → mkA A N s k x y z p r a = A r a := fun r h1 h2 => mk_ext.2 r h1 h2 a q
    have ek : ∀ b : Int, 0 ≤ b → b < (a : Int) → key (mkA A N s k x y z p) b = key A b := fun b h0 h1 => mk_ext.k ⟨h0, by omega⟩
    rw [e 11 (by decide) (by decide), e 12 (by decide) (by decide), e 13 (by decide) (by decide), mk_ext.k (x := (a : Int)) ⟨by omega, by omega⟩]
    obtain ⟨v1, v2, v3, v4, v5, v6, v7, v8, v9, v10, v11, v12, v13, v14⟩ := v
    refine ⟨fun g g2 => ?_, fun g => ?_, fun g => ?_⟩
    · rw [ek _ g2 (v6 g).2.1]; exact w.1 g g2
    · have : 0 ≤ A 12 a ∧ A 12 a < (a : Int) := by
        rcases g with g | g | g | g | g | g | g | g
        · exact ⟨(v7 (Or.inl g)).1, (v7 (Or.inl g)).2.1⟩
        · exact ⟨(v7 (Or.inr g)).1, (v7 (Or.inr g)).2.1⟩
        · exact ⟨(v8 (Or.inl g)).1, (v8 (Or.inl g)).2.1⟩
        · exact ⟨(v8 (Or.inr g)).1, (v8 (Or.inr g)).2.1⟩
        · exact v14 (Or.inl g)
        · exact v14 (Or.inr (Or.inl g))
        · exact v14 (Or.inr (Or.inr (Or.inl g)))
        · exact v14 (Or.inr (Or.inr (Or.inr g)))
      rw [ek _ this.1 this.2]; exact w.2.1 g
    · rw [ek _ (v8 g).2.2.2.1 (v8 g).2.2.2.2.1]; exact w.2.2 g
  · have qa : a = N := by omega
    subst qa
    obtain ⟨⟨hN, hs⟩, o1, o2, o3, o4, o5, o6, o7, o8, o9, o10, o11, o12⟩ := h
    rw [mk_tN (by decide) (by decide), mk_tN (by decide) (by decide), mk_tN (by decide) (by decide), mk_key]
    show ((k = 0 ∨ k = 1) → 0 ≤ x → key (mkA A a s k x y z p) x < _) ∧ ((k = 2 ∨ k = 3 ∨ k = 4 ∨ k = 7 ∨ k = 8 ∨ k = 9 ∨ k = 11 ∨ k = 12) → key (mkA A a s k x y z p) x < _) ∧ ((k = 4 ∨ k = 7) → key (mkA A a s k x y z p) y < _)
    have lt : ∀ w : Int, Hs A s w = true → key (mkA A a s k x y z p) w < 4 * (A 247 s + 1) + s := fun w hw => by
      rw [mk_ext.k (Hs_lt hI hs hw)]; exact mk_ltH hI hs hw
    refine ⟨fun g g2 => ?_, fun g => ?_, fun g => lt _ (o6 g).2.1⟩
    · rcases o4 g with w | w
      · omega
      · exact lt _ w.1
    · rcases g with g | g | g | g | g | g | g | g
      · exact lt _ (o5 (Or.inl g)).1
      · exact lt _ (o5 (Or.inr g)).1
      · exact lt _ (o6 (Or.inl g)).1.1
      · exact lt _ (o6 (Or.inr g)).1.1
      · exact lt _ (o12 (Or.inl g))
      · exact lt _ (o12 (Or.inr (Or.inl g)))
      · exact lt _ (o12 (Or.inr (Or.inr (Or.inl g))))
      · exact lt _ (o12 (Or.inr (Or.inr (Or.inr g))))
theorem clo.ext {U : St} {S : Int → Bool} (hc : clo A N S) (hS : S (N : Int) = false) (e : ExT A U N (N + 1)) : clo U (N + 1) S := by
  intro a ha hSa
  have q : a < N := by
    by_cases q : a < N
    · exact q
    · rw [show a = N by omega, hS] at hSa; cases hSa
  rw [e.2 11 (by decide) (by decide) a q, e.2 12 (by decide) (by decide) a q, e.2 13 (by decide) (by decide) a q]
  exact hc a q hSa
theorem mk_Hs (hI : Inv A N nm nv) (hN : N < 160) (hs : s < 4) {t : Nat} (ht : t < 4) (a : Int) : Hs (mkA A N s k x y z p) t a = if t = s ∧ a = (N : Int) then true else Hs A t a := by
  unfold Hs
  rw [mk_243]
  by_cases q : t = s ∧ a = (N : Int)
  · rw [if_pos q, q.1, q.2]
    refine decide_eq_true ⟨show 0 ≤ (N : Int) ∧ (N : Int) < 160 by omega, ?_⟩
    rw [Int.toNat_natCast, if_pos rfl]; decide
  · rw [if_neg q]
    refine decide_eq_decide.mpr ⟨fun w => ⟨w.1, ?_⟩, fun w => ⟨w.1, ?_⟩⟩
    · have w1 : 0 ≤ a ∧ a < 160 := w.1
      have w2 := w.2
      rw [if_neg (by omega)] at w2; exact w2
    · have w1 : 0 ≤ a ∧ a < 160 := w.1
      rw [if_neg (by omega)]; exact w.2
theorem mk_JLs (hI : Inv A N nm nv) (hs : s < 4) : JL (mkA A N s k x y z p) s = JL A s ++ [(N : Int)] := by
  have hl := JL_len hI hs
  unfold JL
  rw [mk_245, if_pos rfl, show (A 245 s + 1).toNat = (A 245 s).toNat + 1 by omega, seg_one, Nat.zero_add, mk_244, if_pos rfl]
  congr 1
  exact seg_congr (fun j _ hj => by rw [mk_244, if_neg (by omega)])
theorem mk_JLt (hI : Inv A N nm nv) (hN : N < 160) {t : Nat} (hs : s < 4) (ht : t < 4) (hne : t ≠ s) : JL (mkA A N s k x y z p) t = JL A t := by
  have hl := JL_len hI hs
  have hl2 := JL_len hI ht
  unfold JL
  rw [mk_245, if_neg hne]
  exact seg_congr (fun j _ hj => by rw [mk_244, if_neg (by omega)])
theorem mk_pre (hI : Inv A N nm nv) (hN : N < 160) {t : Nat} (hs : s < 4) (ht : t < 4) {q : Nat} (hq : q ≤ (A 245 t).toNat) : (JL (mkA A N s k x y z p) t).take q = (JL A t).take q := by
  by_cases e : t = s
  · subst e
    rw [mk_JLs hI hs, List.take_append_of_le_length (by rw [(JL_len hI hs).2.2]; exact hq)]
  · rw [mk_JLt hI hN hs ht e]
theorem nmd.ext {U : St} {L : List Int} {w : Int} (h : nmd A w L) (e : ∀ r, 11 ≤ r → r ≤ 13 → U r w.toNat = A r w.toNat) : nmd U w L := by
  unfold nmd at h ⊢
  rw [e 11 (by decide) (by decide), e 12 (by decide) (by decide), e 13 (by decide) (by decide)]; exact h
theorem mk_cj (hI : Inv A N nm nv) {L : List Int} (hL : ∀ w, w ∈ L → 0 ≤ w ∧ w < (N : Int)) (h : clJ A L) : clJ (mkA A N s k x y z p) L := fun L1 w L2 q => by
  have := hL w (by rw [q]; exact List.mem_append_right _ List.mem_cons_self)
  exact (h L1 w L2 q).ext (fun r h1 h2 => mk_ext.2 r (by omega) (by omega) _ (by omega))
theorem mk_nmd (hI : Inv A N nm nv) (h : okM A N s k x y z p) : nmd (mkA A N s k x y z p) (N : Int) (JL A s) := by
  obtain ⟨⟨hN, hs⟩, o1, o2, o3, o4, o5, o6, o7, o8, o9, o10, o11, o12⟩ := h
  unfold nmd
  rw [Int.toNat_natCast, mk_tN (by decide) (by decide), mk_tN (by decide) (by decide), mk_tN (by decide) (by decide)]
  show ((k = 0 ∨ k = 1) → 0 ≤ x → x ∈ JL A s) ∧ ((k = 2 ∨ k = 3 ∨ k = 4 ∨ k = 7 ∨ k = 8 ∨ k = 9 ∨ k = 11 ∨ k = 12) → x ∈ JL A s) ∧ ((k = 4 ∨ k = 7) → y ∈ JL A s)
  have lt : ∀ w : Int, Hs A s w = true → w ∈ JL A s := fun w hw => (Hs_iff (hI.2.1 s hs) hI.1.2.1 w).mp hw
  refine ⟨fun g g2 => ?_, fun g => ?_, fun g => lt _ (o6 g).2.1⟩
  · rcases o4 g with w | w
    · omega
    · exact lt _ w.1
  · rcases g with g | g | g | g | g | g | g | g
    · exact lt _ (o5 (Or.inl g)).1
    · exact lt _ (o5 (Or.inr g)).1
    · exact lt _ (o6 (Or.inl g)).1.1
    · exact lt _ (o6 (Or.inr g)).1.1
    · exact lt _ (o12 (Or.inl g))
    · exact lt _ (o12 (Or.inr (Or.inl g)))
    · exact lt _ (o12 (Or.inr (Or.inr (Or.inl g))))
    · exact lt _ (o12 (Or.inr (Or.inr (Or.inr g))))
theorem clJ.snoc {U : St} {L : List Int} {w : Int} (h : clJ U L) (hw : nmd U w L) : clJ U (L ++ [w]) := by
  intro L1 v L2 q
  rcases List.eq_nil_or_concat L2 with e | ⟨L3, u, e⟩
  · subst e
    have := List.append_inj' q rfl
    rw [← this.1]
    have e2 : w = v := by have := this.2; injection this
    rw [← e2]; exact hw
  · subst e
    rw [List.concat_eq_append] at q
    have : L = L1 ++ v :: L3 := by
      have q2 : L ++ [w] = (L1 ++ v :: L3) ++ [u] := by rw [q]; simp
      exact (List.append_inj' q2 rfl).1
    exact h L1 v L3 this
theorem mk_ok {t : Nat} {c : Int} (hI : Inv A N nm nv) (hN : N < 160) (hs : s < 4) (ht : t < 4) (h : curOK A N t c) : curOK (mkA A N s k x y z p) (N + 1) t c := by
  rcases h with q | q
  · exact Or.inl q
  · refine Or.inr ⟨?_, ?_⟩
    · rw [mk_Hs hI hN hs ht]; split
      · rfl
      · exact q.1
    · rw [mk_mE (Hs_lt hI ht q.1).2]; exact q.2
theorem Inv.make (hI : Inv A N nm nv) (h : okM A N s k x y z p) : Inv (mkA A N s k x y z p) (N + 1) nm nv := by
  have hN := h.1.1
  have hs := h.1.2
  have tv := mk_TV hI h
  have tk := mk_TK hI h
  have ts := mk_TS (k := k) (x := x) (y := y) (z := z) (p := p) hI hs
  have nn := mk_nmd hI h
  have hl := JL_len hI hs
  obtain ⟨h1, h2, h3, h4, h5⟩ := id hI
  refine ⟨⟨?_, by omega, ?_, tv, ts, tk, fun a ha => ?_⟩, fun t ht => ?_, ?_, ?_, ?_⟩
  · rw [mk_8]; exact if_pos rfl
  · have o8 := h.2.2.2.2.2.2.2.2.1
    have := h1.2.2.1
    rw [mk_8]
    show 0 ≤ (if (9 : Nat) = 8 then (N : Int) + 1 else if (9 : Nat) = 9 ∧ k = 7 then A 8 9 + 1 else A 8 9) ∧ (if (9 : Nat) = 8 then (N : Int) + 1 else if (9 : Nat) = 9 ∧ k = 7 then A 8 9 + 1 else A 8 9) ≤ 20
    rw [if_neg (by decide)]
    by_cases q : k = 7
    · have := (o8 q).2
      rw [if_pos ⟨rfl, q⟩]; clear o8; omega
    · rw [if_neg (fun g => q g.2)]; exact this
  · rw [mk_t (by decide) (by decide)]
    split
    · have := (h2 s hs).2.1
      show A 247 s + 1 ≤ _
      omega
    · have := h1.2.2.2.2.2.2 a (by omega); omega
  · obtain ⟨q1, q2, q3, q4, q5, q6, q7, q8, q9, q10, q11, q12⟩ := h2 t ht
    refine ⟨?_, ?_, ?_, ?_, ?_, fun a ha => ?_, fun a ha => ?_, ?_, fun a ha hc => ?_, ?_, ?_, ?_⟩
    · rw [mk_o (by decide) (by decide)]; exact q1
    · rw [mk_247]; split
      · have := (h2 s hs).2.1; omega
      · omega
    · rw [mk_245]; split
      · omega
      · exact q3
    · by_cases e : t = s
      · subst e
        rw [mk_JLs hI hs]
        refine List.nodup_append.mpr ⟨q4, List.pairwise_cons.mpr ⟨fun _ w => (nomatch w), List.Pairwise.nil⟩, fun a ha b hb => ?_⟩
        rcases List.mem_cons.mp hb with w | w
        · have := q5 a ha; omega
        · cases w
      · rw [mk_JLt hI hN hs ht e]; exact q4
    · intro w hw
      by_cases e : t = s
      · subst e
        rw [mk_JLs hI hs, List.mem_append] at hw
        rcases hw with hw | hw
        · have := q5 w hw; omega
        · rcases List.mem_cons.mp hw with g | g
          · omega
          · cases g
      · rw [mk_JLt hI hN hs ht e] at hw
        have := q5 w hw; omega
    · rw [mk_243]; split
      · exact Or.inr rfl
      · exact q6 a ha
    · by_cases e : t = s
      · subst e
        rw [mk_JLs hI hs, List.mem_append, mk_243]
        by_cases g : a = N
        · rw [if_pos (by omega), g]; exact ⟨fun _ => Or.inr List.mem_cons_self, fun _ => by decide⟩
        · rw [if_neg (by omega), q7 a ha]
          constructor
          · exact fun w => Or.inl w
          · rintro (w | w)
            · exact w
            · rcases List.mem_cons.mp w with w | w
              · omega
              · cases w
      · rw [mk_JLt hI hN hs ht e, mk_243, if_neg (by omega)]; exact q7 a ha
    · by_cases e : t = s
      · subst e
        rw [mk_JLs hI hs]
        exact (mk_cj hI q5 q8).snoc nn
      · rw [mk_JLt hI hN hs ht e]; exact mk_cj hI q5 q8
    · rw [mk_t (by decide) (by decide), mk_247]
      rw [mk_t (by decide) (by decide), mk_243] at hc
      by_cases g : a = N
      · rw [if_pos g]
        rw [if_pos g] at hc
        by_cases e : t = s
        · rw [if_pos e]; exact Int.le_refl _
        · exfalso
          rcases hc with hc | hc
          · have : (s : Int) = (t : Int) := hc
            omega
          · rw [if_neg (by omega), g, q7 N (by omega)] at hc
            have := q5 _ hc; omega
      · rw [if_neg g]
        rw [if_neg g, if_neg (by omega)] at hc
        have := q9 a (by omega) hc
        split
        · rename_i e; subst e; omega
        · exact this
    · rw [mk_o (by decide) (by decide)]; exact mk_ok hI hN hs ht q10
    · rw [mk_o (by decide) (by decide)]; exact mk_ok hI hN hs ht q11
    · rw [mk_o (a := 246) (by decide) (by decide), mk_245]; split
      · rename_i e; subst e; omega
      · exact q12
  · unfold In3 at h3 ⊢
    rw [mk_o (by decide) (by decide), mk_o (by decide) (by decide)]; exact h3
  · obtain ⟨g1, g2, g3⟩ := h4
    have eM : ∀ m, Ms (mkA A N s k x y z p) m = Ms A m := fun m => by funext w; unfold Ms; rw [mk_o (by decide) (by decide)]
    refine ⟨g1, fun m hm => ?_, ?_⟩
    · have w := g2 m hm
      refine ⟨by rw [mk_o (by decide) (by decide)]; exact w.1, ?_, by rw [mk_o (by decide) (by decide), mk_o (by decide) (by decide)]; exact w.2.2⟩
      rw [eM]
      refine w.2.1.ext ?_ mk_ext
      unfold Ms
      refine decide_eq_false (fun g => ?_)
      have := ((g3 m N (by omega) hN).2 (by have := g.2; rw [Int.toNat_natCast] at this; exact this)).2
      omega
    · rw [mk_o (by decide) (by decide)]
      intro m a hm ha
      have := g3 m a hm ha
      exact ⟨this.1, fun g => by have := this.2 g; omega⟩
  · obtain ⟨g1, g2⟩ := h5
    have eM : ∀ v, Vs (mkA A N s k x y z p) v = Vs A v := fun m => by funext w; unfold Vs; rw [mk_o (by decide) (by decide)]
    refine ⟨g1, fun v hv => ?_⟩
    have w := g2 v hv
    rw [eM, mk_o (by decide) (by decide)]
    refine ⟨w.1.ext ?_ mk_ext, fun a ha => ⟨(w.2 a ha).1, fun g => by have := (w.2 a ha).2 g; omega⟩⟩
    unfold Vs
    refine decide_eq_false (fun g => ?_)
    have := (w.2 N hN).2 (by have := g.2; rw [Int.toNat_natCast] at this; exact this)
    omega
end MK

