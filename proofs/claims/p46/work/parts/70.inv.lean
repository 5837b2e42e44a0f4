/-! ===== what stays true of a document ===== -/
theorem pigeon : ∀ (n : Nat) (L : List Int), L.Nodup → (∀ x, x ∈ L → -1 ≤ x ∧ x + 1 < (n : Int)) → L.length ≤ n := by
  intro n
  induction n with
  | zero =>
    intro L _ h
    cases L with
    | nil => exact Nat.le_refl 0
    | cons x L => have := h x List.mem_cons_self; omega
  | succ n ih =>
    intro L hL h
    by_cases hm : (n : Int) - 1 ∈ L
    · obtain ⟨A, B, rfl⟩ := List.append_of_mem hm
      have h2 := (List.perm_middle.nodup_iff).mp hL
      rw [List.nodup_cons] at h2
      have := ih (A ++ B) h2.2 (fun x hx => by
        have h3 := h x (by rw [List.mem_append] at hx ⊢; exact hx.elim Or.inl (fun z => Or.inr (List.mem_cons_of_mem _ z)))
        have h4 : x ≠ (n : Int) - 1 := fun q => h2.1 (by rw [← q]; exact hx)
        omega)
      rw [List.length_append, List.length_cons]
      rw [List.length_append] at this
      omega
    · have := ih L hL (fun x hx => by
        have h3 := h x hx
        have h4 : x ≠ (n : Int) - 1 := fun q => hm (by rw [← q]; exact hx)
        omega)
      omega
section CHAIN
variable {ab : Nat → Int}
theorem chn_in {k : Nat} : ∀ {f x : Int}, x ∈ chn ab k f → -1 ≤ x ∧ x < 160 := by
  induction k with
  | zero => intro f x h; cases h
  | succ k ih =>
    intro f x h
    by_cases hf : -1 ≤ f ∧ f < 160
    · rw [chn_s hf] at h
      rcases List.mem_cons.mp h with rfl | h
      · exact hf
      · exact ih h
    · rw [chn_n hf] at h; cases h
theorem chn_mono {k : Nat} : ∀ {f x : Int}, x ∈ chn ab k f → x ∈ chn ab (k + 1) f := by
  induction k with
  | zero => intro f x h; cases h
  | succ k ih =>
    intro f x h
    by_cases hf : -1 ≤ f ∧ f < 160
    · rw [chn_s hf] at h ⊢
      rcases List.mem_cons.mp h with rfl | h
      · exact List.mem_cons_self
      · exact List.mem_cons_of_mem _ (ih h)
    · rw [chn_n hf] at h; cases h
theorem chn_full {k : Nat} : ∀ {f : Int}, (chn ab (k + 1) f).length ≤ k → chn ab (k + 1) f = chn ab k f := by
  induction k with
  | zero =>
    intro f h
    by_cases hf : -1 ≤ f ∧ f < 160
    · rw [chn_s hf] at h; exact absurd h (Nat.not_succ_le_zero _)
    · rw [chn_n hf, chn_n hf]
  | succ k ih =>
    intro f h
    by_cases hf : -1 ≤ f ∧ f < 160
    · rw [chn_s hf] at h
      have h : (chn ab (k + 1) (ab (f + 1).toNat)).length + 1 ≤ k + 1 := h
      rw [chn_s hf, chn_s hf, ih (by omega)]
    · rw [chn_n hf, chn_n hf]
theorem chn_rk {rk : Int → Nat} (h : ∀ b : Int, -1 ≤ b → b < 160 → -1 ≤ ab (b + 1).toNat → ab (b + 1).toNat < 160 → rk (ab (b + 1).toNat) < rk b) (k : Nat) : ∀ {f x : Int}, x ∈ chn ab k f → rk x ≤ rk f := by
  induction k with
  | zero => intro f x h; cases h
  | succ k ih =>
    intro f x hx
    by_cases hf : -1 ≤ f ∧ f < 160
    · rw [chn_s hf] at hx
      rcases List.mem_cons.mp hx with rfl | hx
      · exact Nat.le_refl _
      · have h1 := ih hx
        by_cases hv : -1 ≤ ab (f + 1).toNat ∧ ab (f + 1).toNat < 160
        · have := h f hf.1 hf.2 hv.1 hv.2; omega
        · rw [chn_n hv] at hx; cases hx
    · rw [chn_n hf] at hx; cases hx
theorem chn_nodup {rk : Int → Nat} (h : ∀ b : Int, -1 ≤ b → b < 160 → -1 ≤ ab (b + 1).toNat → ab (b + 1).toNat < 160 → rk (ab (b + 1).toNat) < rk b) (k : Nat) : ∀ {f : Int}, (chn ab k f).Nodup := by
  induction k with
  | zero => intro f; exact List.nodup_nil
  | succ k ih =>
    intro f
    by_cases hf : -1 ≤ f ∧ f < 160
    · rw [chn_s hf, List.nodup_cons]
      refine ⟨fun hm => ?_, ih⟩
      have h1 := chn_rk h k hm
      by_cases hv : -1 ≤ ab (f + 1).toNat ∧ ab (f + 1).toNat < 160
      · have := h f hf.1 hf.2 hv.1 hv.2; omega
      · rw [chn_n hv] at hm; cases hm
    · rw [chn_n hf]; exact List.nodup_nil
theorem AC.len (h : AC ab) (k : Nat) (f : Int) : (chn ab k f).length ≤ 161 := by
  obtain ⟨rk, h⟩ := h
  exact pigeon 161 _ (chn_nodup h k) (fun x hx => by have := chn_in hx; omega)
theorem AC.upd (h : AC ab) {e t : Int} (he : -1 ≤ e ∧ e < 160) (hn : e ∉ chn ab 161 t) : AC (fun i => if i = (e + 1).toNat then t else ab i) := by
  have hlen := h.len
  obtain ⟨rk, h⟩ := h
  refine ⟨fun x => rk x + (if e ∈ chn ab 161 x then rk t + 1 else 0), fun b h1 h2 h3 h4 => ?_⟩
  dsimp only at h3 h4 ⊢
  by_cases hb : b = e
  · subst hb
    rw [if_pos rfl, if_neg hn, if_pos (by rw [chn_s he]; exact List.mem_cons_self)]
    omega
  · have hne : ¬ (b + 1).toNat = (e + 1).toNat := by omega
    rw [if_neg hne] at h3 h4 ⊢
    have := h b h1 h2 h3 h4
    by_cases hc : e ∈ chn ab 161 (ab (b + 1).toNat)
    · have hl := hlen 162 b
      rw [chn_s ⟨h1, h2⟩] at hl
      have hl : (chn ab 161 (ab (b + 1).toNat)).length + 1 ≤ 161 := hl
      have hl2 : (chn ab (160 + 1) (ab (b + 1).toNat)).length ≤ 160 := Nat.le_of_succ_le_succ hl
      have e161 : chn ab 161 (ab (b + 1).toNat) = chn ab 160 (ab (b + 1).toNat) := chn_full hl2
      rw [if_pos hc]
      rw [e161] at hc
      rw [if_pos (by rw [chn_s ⟨h1, h2⟩]; exact List.mem_cons_of_mem _ hc)]
      omega
    · rw [if_neg hc]; omega
end CHAIN
theorem dPnt_at (P : Int → Bool) (lv : Int → Bool) (f l : Int) (g : Int → Int) (L : List Int) : ∀ (b : Bool) (k : Int) (C : St) (i : Nat), (∀ x, x ∈ L → x.toNat ≠ i) → dPnt P lv f l g b k C L 7 i = C 7 i := by
  induction L with
  | nil => intro b k C i _; rfl
  | cons x L ih =>
    intro b k C i hi
    rw [dPnt_c]
    have hx := hi x List.mem_cons_self
    generalize (if P x = true then x else k) = bk
    have e : (if (b || decide (x = f)) = true ∧ lv bk = true then st C 7 x.toNat (g (C 7 x.toNat)) else C) 7 i = C 7 i := by
      split
      · rw [st_row, if_neg (fun q => hx q.symm)]
      · rfl
    split
    · exact e
    · rw [ih _ _ _ i (fun y hy => hi y (List.mem_cons_of_mem _ hy)), e]
section INV
variable {T : St} {N a : Nat} {D : Dc}
/-- rows that stay give the same -/
theorem DI.same {C : St} (h : DI T N D) (h4 : C 4 = D.2 4) (h5 : C 5 = D.2 5) (h6 : ∀ i, isB (C 6 i)) (h8 : ∀ i, isB (C 8 i) ∧ (C 8 i ≠ 0 → i < N ∧ T 11 i = 2)) (h9 : C 9 = D.2 9) (h11 : C 11 = D.2 11) : DI T N (D.1, C) := by
  obtain ⟨g1, g2, g3, g4, g5, g6, g7, g8, g9⟩ := h
  refine ⟨g1, g2, fun x hx => ?_, fun i hi => ?_, h8, h6, fun i => ?_, fun b hb => ?_, ?_⟩
  · show (C 4 _ = 1 ∨ C 4 _ = 2 ∨ C 4 _ = 3) ∧ C 5 _ = _
    rw [h4, h5]; exact g3 x hx
  · show C 4 i = 0 ∧ C 5 i = 0
    rw [h4, h5]; exact g4 i hi
  · show isB (C 9 i)
    rw [h9]; exact g7 i
  · show C 11 b = -2 ∨ (-1 ≤ C 11 b ∧ C 11 b < (N : Int) ∧ (0 ≤ C 11 b → T 11 (C 11 b).toNat = 1))
    rw [h11]; exact g8 b hb
  · show AC (C 11)
    rw [h11]; exact g9
theorem isB_st {C : St} {k i : Nat} {v : Int} (h : ∀ j, isB (C k j)) (hv : isB v) : ∀ j, isB (st C k i v k j) := fun j => by
  rw [st_row]; split; exact hv; exact h j
theorem DI.one (h : DI T N D) (hv : TV T N) (hN : N ≤ 160) (ha : a < N) (hp : pre T N D a) : DI T N (dOne T N D (a : Int)) := by
  have g5 := h.2.2.2.2.1
  have g6 := h.2.2.2.2.2.1
  unfold dOne
  rw [gt_n ha]
  by_cases k01 : T 11 a = 0 ∨ T 11 a = 1
  · rw [if_pos k01]
    obtain ⟨p1, p2, p3⟩ := hp.1 k01
    have hma : mkE T N (a : Int) = true := decide_eq_true ⟨by omega, by rw [Int.toNat_natCast]; exact k01⟩
    have hat := dAt_le T N D (a : Int)
    have hxa : ∀ x, x ∈ D.1 → x.toNat ≠ a := fun x hx q => p2 (by have := (h.row hN hx).1; rw [← q, Int.toNat_of_nonneg this.1]; exact hx)
    unfold dPut
    rw [gt_n ha, Int.toNat_natCast]
    generalize hsd : dSt T N D (a : Int) = sd
    have hsd3 : sd = 1 ∨ sd = 2 ∨ sd = 3 := by
      rw [← hsd]; unfold dSt
      split
      · exact Or.inr (Or.inr rfl)
      · split
        · exact Or.inr (Or.inl rfl)
        · exact Or.inl rfl
    generalize dAt T N D (a : Int) = k at hat
    generalize dBt D.1 D.2 k = bt
    obtain ⟨g1, g2, g3, g4, -, -, g7, g8, g9⟩ := h
    refine ⟨?_, fun x hx => ?_, fun x hx => ?_, fun i hi => ?_, fun i => ?_, fun i => ?_, fun i => ?_, fun b hb => ?_, ?_⟩
    · show (D.1.take k ++ (a : Int) :: D.1.drop k).Nodup
      rw [List.perm_middle.nodup_iff, List.nodup_cons, List.take_append_drop]
      exact ⟨p2, g1⟩
    · rcases insA_mem.mp hx with rfl | hx
      · exact hma
      · exact g2 x hx
    · show (st (st (st D.2 5 a (if T 11 a = 1 then 1 else 0)) 4 a sd) 7 a bt 4 x.toNat = 1 ∨ st (st (st D.2 5 a (if T 11 a = 1 then 1 else 0)) 4 a sd) 7 a bt 4 x.toNat = 2 ∨ st (st (st D.2 5 a (if T 11 a = 1 then 1 else 0)) 4 a sd) 7 a bt 4 x.toNat = 3) ∧ st (st (st D.2 5 a (if T 11 a = 1 then 1 else 0)) 4 a sd) 7 a bt 5 x.toNat = _
      have e4 : st (st (st D.2 5 a (if T 11 a = 1 then 1 else 0)) 4 a sd) 7 a bt 4 x.toNat = if x.toNat = a then sd else D.2 4 x.toNat := by rw [st_ne (by decide), st_row, st_ne (by decide)]
      have e5 : st (st (st D.2 5 a (if T 11 a = 1 then 1 else 0)) 4 a sd) 7 a bt 5 x.toNat = if x.toNat = a then (if T 11 a = 1 then 1 else 0) else D.2 5 x.toNat := by rw [st_ne (by decide), st_ne (by decide), st_row]
      rw [e4, e5]
      rcases insA_mem.mp hx with rfl | hx
      · rw [Int.toNat_natCast, if_pos rfl, if_pos rfl]; exact ⟨hsd3, rfl⟩
      · rw [if_neg (hxa x hx), if_neg (hxa x hx)]; exact g3 x hx
    · have hia : i ≠ a := fun q => hi (insA_mem.mpr (Or.inl (by rw [q])))
      have hid : (i : Int) ∉ D.1 := fun q => hi (insA_mem.mpr (Or.inr q))
      show st (st (st D.2 5 a (if T 11 a = 1 then 1 else 0)) 4 a sd) 7 a bt 4 i = 0 ∧ st (st (st D.2 5 a (if T 11 a = 1 then 1 else 0)) 4 a sd) 7 a bt 5 i = 0
      have e4 : st (st (st D.2 5 a (if T 11 a = 1 then 1 else 0)) 4 a sd) 7 a bt 4 i = if i = a then sd else D.2 4 i := by rw [st_ne (by decide), st_row, st_ne (by decide)]
      have e5 : st (st (st D.2 5 a (if T 11 a = 1 then 1 else 0)) 4 a sd) 7 a bt 5 i = if i = a then (if T 11 a = 1 then 1 else 0) else D.2 5 i := by rw [st_ne (by decide), st_ne (by decide), st_row]
      rw [e4, e5, if_neg hia, if_neg hia]; exact g4 i hid
    · show isB (st (st (st D.2 5 a (if T 11 a = 1 then 1 else 0)) 4 a sd) 7 a bt 8 i) ∧ (st (st (st D.2 5 a (if T 11 a = 1 then 1 else 0)) 4 a sd) 7 a bt 8 i ≠ 0 → _)
      rw [st_ne (by decide), st_ne (by decide), st_ne (by decide)]; exact g5 i
    · show isB (st (st (st D.2 5 a (if T 11 a = 1 then 1 else 0)) 4 a sd) 7 a bt 6 i)
      rw [st_ne (by decide), st_ne (by decide), st_ne (by decide)]; exact g6 i
    · show isB (st (st (st D.2 5 a (if T 11 a = 1 then 1 else 0)) 4 a sd) 7 a bt 9 i)
      rw [st_ne (by decide), st_ne (by decide), st_ne (by decide)]; exact g7 i
    · have e : ∀ b, st (st (st D.2 5 a (if T 11 a = 1 then 1 else 0)) 4 a sd) 7 a bt 11 b = D.2 11 b := fun b => by rw [st_ne (by decide), st_ne (by decide), st_ne (by decide)]
      show st (st (st D.2 5 a (if T 11 a = 1 then 1 else 0)) 4 a sd) 7 a bt 11 b = -2 ∨ (-1 ≤ st (st (st D.2 5 a (if T 11 a = 1 then 1 else 0)) 4 a sd) 7 a bt 11 b ∧ st (st (st D.2 5 a (if T 11 a = 1 then 1 else 0)) 4 a sd) 7 a bt 11 b < (N : Int) ∧ (0 ≤ st (st (st D.2 5 a (if T 11 a = 1 then 1 else 0)) 4 a sd) 7 a bt 11 b → T 11 (st (st (st D.2 5 a (if T 11 a = 1 then 1 else 0)) 4 a sd) 7 a bt 11 b).toNat = 1))
      rw [e]; exact g8 b hb
    · show AC (st (st (st D.2 5 a (if T 11 a = 1 then 1 else 0)) 4 a sd) 7 a bt 11)
      rw [st_fn (by decide), st_fn (by decide), st_fn (by decide)]; exact g9
  rw [if_neg k01]
  by_cases hu : num (a : Int) ∧ D.2 9 (a : Int).toNat ≠ 0
  · rw [if_pos hu]; exact h
  rw [if_neg hu]
  by_cases k2 : T 11 a = 2
  · rw [if_pos k2]
    unfold dRem
    split
    · split
      · exact h.same (st_fn (by decide)) (st_fn (by decide)) (isB_st g6 (Or.inr rfl)) (fun i => by rw [st_ne (by decide)]; exact g5 i) (st_fn (by decide)) (st_fn (by decide))
      · refine h.same (st_fn (by decide)) (st_fn (by decide)) (fun i => by rw [st_ne (by decide)]; exact g6 i) (fun i => ?_) (st_fn (by decide)) (st_fn (by decide))
        rw [st_row, Int.toNat_natCast]
        by_cases q : i = a
        · rw [if_pos q, q]; exact ⟨Or.inr rfl, fun _ => ⟨ha, k2⟩⟩
        · rw [if_neg q]; exact g5 i
    · exact h
  rw [if_neg k2]
  by_cases k3 : T 11 a = 3
  · rw [if_pos k3]
    unfold dRes
    split
    · exact h.same (st_fn (by decide)) (st_fn (by decide)) (isB_st g6 (Or.inl rfl)) (fun i => by rw [st_ne (by decide)]; exact g5 i) (st_fn (by decide)) (st_fn (by decide))
    · exact h
  rw [if_neg k3]
  by_cases k4 : T 11 a = 4
  · rw [if_pos k4]; exact h.congr7 (fun q hq => dPnt_ne _ _ _ _ _ _ _ _ _ q hq)
  rw [if_neg k4]
  by_cases k5 : T 11 a = 5
  · rw [if_pos k5]
    unfold dKind
    split
    · exact h.same (st_fn (by decide)) (st_fn (by decide)) (fun i => by rw [st_ne (by decide)]; exact g6 i) (fun i => by rw [st_ne (by decide)]; exact g5 i) (st_fn (by decide)) (st_fn (by decide))
    · exact h
  rw [if_neg k5]
  by_cases k6 : T 11 a = 6
  · rw [if_pos k6]
    have v6 := (hv a ha).2.2.2.2.2.2.2.2.2.2.2.1 k6
    unfold dNest
    rw [gt_n ha, gt_n ha, gt_n ha]
    by_cases hc : (-1 ≤ T 12 a ∧ T 12 a < 160) ∧ lev D (T 9 a) (T 12 a) = 0 ∧ T 12 a ∉ chn (D.2 11) 161 (T 13 a)
    · rw [if_pos hc]
      obtain ⟨g1, g2, g3, g4, -, -, g7, g8, g9⟩ := h
      refine ⟨g1, g2, fun x hx => ?_, fun i hi => ?_, fun i => ?_, fun i => ?_, fun i => ?_, fun b hb => ?_, ?_⟩
      · show (st D.2 11 (T 12 a + 1).toNat (T 13 a) 4 _ = 1 ∨ st D.2 11 (T 12 a + 1).toNat (T 13 a) 4 _ = 2 ∨ st D.2 11 (T 12 a + 1).toNat (T 13 a) 4 _ = 3) ∧ st D.2 11 (T 12 a + 1).toNat (T 13 a) 5 _ = _
        rw [st_ne (by decide), st_ne (by decide)]; exact g3 x hx
      · show st D.2 11 (T 12 a + 1).toNat (T 13 a) 4 i = 0 ∧ st D.2 11 (T 12 a + 1).toNat (T 13 a) 5 i = 0
        rw [st_ne (by decide), st_ne (by decide)]; exact g4 i hi
      · show isB (st D.2 11 (T 12 a + 1).toNat (T 13 a) 8 i) ∧ (st D.2 11 (T 12 a + 1).toNat (T 13 a) 8 i ≠ 0 → _)
        rw [st_ne (by decide)]; exact g5 i
      · show isB (st D.2 11 (T 12 a + 1).toNat (T 13 a) 6 i)
        rw [st_ne (by decide)]; exact g6 i
      · show isB (st D.2 11 (T 12 a + 1).toNat (T 13 a) 9 i)
        rw [st_ne (by decide)]; exact g7 i
      · show st D.2 11 (T 12 a + 1).toNat (T 13 a) 11 b = -2 ∨ (-1 ≤ st D.2 11 (T 12 a + 1).toNat (T 13 a) 11 b ∧ st D.2 11 (T 12 a + 1).toNat (T 13 a) 11 b < (N : Int) ∧ (0 ≤ st D.2 11 (T 12 a + 1).toNat (T 13 a) 11 b → T 11 (st D.2 11 (T 12 a + 1).toNat (T 13 a) 11 b).toNat = 1))
        rw [st_row]
        by_cases q : b = (T 12 a + 1).toNat
        · rw [if_pos q]
          exact v6.imp id (fun z => ⟨z.1, by omega, z.2.2⟩)
        · rw [if_neg q]; exact g8 b hb
      · show AC (st D.2 11 (T 12 a + 1).toNat (T 13 a) 11)
        have e : st D.2 11 (T 12 a + 1).toNat (T 13 a) 11 = fun i => if i = (T 12 a + 1).toNat then T 13 a else D.2 11 i := funext fun i => st_row i
        rw [e]
        exact g9.upd hc.1 hc.2.2
    · rw [if_neg hc]; exact h
  rw [if_neg k6]
  by_cases k7 : T 11 a = 7
  · rw [if_pos k7]; exact h.congr7 (fun q hq => dPnt_ne _ _ _ _ _ _ _ _ _ q hq)
  rw [if_neg k7]
  have hset : T 11 a = 8 ∨ T 11 a = 9 → ∀ ok, DI T N (dSet T N D (a : Int) ok) := by
    intro k89 ok
    have vp := (hv a ha).2.2.2.2.2.2.2.2.2.2.2.2.2 (by omega)
    have pp := hp.2.2.2 k89
    unfold dSet
    rw [gt_n ha]
    by_cases hc : num (elemOf T N (T 12 a)) ∧ openB T N D (T 12 a) = true ∧ dLv T N D (a : Int) (elemOf T N (T 12 a)) = 0
    · rw [if_pos hc]
      by_cases he : elemOf T N (T 12 a) = T 12 a
      · rw [if_pos he]
        have hm : mkE T N (T 12 a) = true := by
          cases hq : mkE T N (T 12 a) with
          | true => rfl
          | false =>
            exfalso
            unfold elemOf at he
            rw [hq, if_neg (by decide), gt_i ⟨vp.1, by omega⟩] at he
            have vpp := hv (T 12 a).toNat (by omega)
            have hopen := hc.2.1
            unfold openB at hopen
            rw [Bool.and_eq_true, Bool.or_eq_true] at hopen
            have hnot : T 12 a ∉ D.1 := fun z => by rw [h.2.1 _ z] at hq; exact Bool.noConfusion hq
            have h4 := (h.2.2.2.1 (T 12 a).toNat (by rw [Int.toNat_of_nonneg vp.1]; exact hnot)).1
            rcases hopen.2 with z | z
            · have := (of_decide_eq_true z).1; omega
            · rw [Bool.and_eq_true] at z
              have k2' := ((g5 (T 12 a).toNat).2 (of_decide_eq_true z.1)).2
              have := (vpp.2.2.2.2.2.2.1 (Or.inl k2')).2.1
              omega
        have hin := pp.1 hm
        obtain ⟨g1, g2, g3, g4, -, -, g7, g8, g9⟩ := h
        refine ⟨g1, g2, fun x hx => ?_, fun i hi => ?_, fun i => ?_, fun i => ?_, fun i => ?_, fun b hb => ?_, ?_⟩
        · show (st D.2 4 (T 12 a).toNat (if ok = true then 1 else 3) 4 x.toNat = 1 ∨ st D.2 4 (T 12 a).toNat (if ok = true then 1 else 3) 4 x.toNat = 2 ∨ st D.2 4 (T 12 a).toNat (if ok = true then 1 else 3) 4 x.toNat = 3) ∧ st D.2 4 (T 12 a).toNat (if ok = true then 1 else 3) 5 x.toNat = _
          rw [st_row, st_ne (by decide)]
          refine ⟨?_, (g3 x hx).2⟩
          split
          · cases ok
            · exact Or.inr (Or.inr rfl)
            · exact Or.inl rfl
          · exact (g3 x hx).1
        · show st D.2 4 (T 12 a).toNat (if ok = true then 1 else 3) 4 i = 0 ∧ st D.2 4 (T 12 a).toNat (if ok = true then 1 else 3) 5 i = 0
          rw [st_row, st_ne (by decide), if_neg (fun q => hi (by rw [q, Int.toNat_of_nonneg vp.1]; exact hin))]; exact g4 i hi
        · show isB (st D.2 4 (T 12 a).toNat (if ok = true then 1 else 3) 8 i) ∧ (st D.2 4 (T 12 a).toNat (if ok = true then 1 else 3) 8 i ≠ 0 → _)
          rw [st_ne (by decide)]; exact g5 i
        · show isB (st D.2 4 (T 12 a).toNat (if ok = true then 1 else 3) 6 i)
          rw [st_ne (by decide)]; exact g6 i
        · show isB (st D.2 4 (T 12 a).toNat (if ok = true then 1 else 3) 9 i)
          rw [st_ne (by decide)]; exact g7 i
        · have e : st D.2 4 (T 12 a).toNat (if ok = true then 1 else 3) 11 = D.2 11 := st_fn (by decide)
          show st D.2 4 (T 12 a).toNat (if ok = true then 1 else 3) 11 b = -2 ∨ (-1 ≤ st D.2 4 (T 12 a).toNat (if ok = true then 1 else 3) 11 b ∧ st D.2 4 (T 12 a).toNat (if ok = true then 1 else 3) 11 b < (N : Int) ∧ (0 ≤ st D.2 4 (T 12 a).toNat (if ok = true then 1 else 3) 11 b → T 11 (st D.2 4 (T 12 a).toNat (if ok = true then 1 else 3) 11 b).toNat = 1))
          rw [e]; exact g8 b hb
        · show AC (st D.2 4 (T 12 a).toNat (if ok = true then 1 else 3) 11)
          rw [st_fn (by decide)]; exact g9
      · rw [if_neg he]
        refine h.same ?_ ?_ (isB_st (fun j => by rw [st_ne (by decide)]; exact g6 j) ?_) (fun i => ?_) ?_ ?_
        · rw [st_fn (by decide), st_fn (by decide)]
        · rw [st_fn (by decide), st_fn (by decide)]
        · split
          · exact Or.inr rfl
          · exact Or.inl rfl
        · rw [st_ne (by decide), st_row]
          split
          · exact ⟨Or.inl rfl, fun z => absurd rfl z⟩
          · exact g5 i
        · rw [st_fn (by decide), st_fn (by decide)]
        · rw [st_fn (by decide), st_fn (by decide)]
    · rw [if_neg hc]; exact h
  by_cases k8 : T 11 a = 8
  · rw [if_pos k8]; exact hset (Or.inl k8) true
  rw [if_neg k8]
  by_cases k9 : T 11 a = 9
  · rw [if_pos k9]; exact hset (Or.inr k9) false
  rw [if_neg k9]
  by_cases k10 : T 11 a = 10
  · rw [if_pos k10]
    unfold dLevel
    split
    · exact h.same (st_fn (by omega)) (st_fn (by omega)) (fun i => by rw [st_ne (by omega)]; exact g6 i) (fun i => by rw [st_ne (by omega)]; exact g5 i) (st_fn (by omega)) (st_fn (by omega))
    · exact h
  rw [if_neg k10]; exact h
end INV

