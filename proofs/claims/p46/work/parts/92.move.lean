/-! ===== moveTo, extend ===== -/
section MOVE
variable {σ τ A : St} {N nm nv n s : Nat} {D : Dc} {S : Int → Bool}
def cuA (A : St) (s : Nat) (c d : Int) : St := st (st A 248 s c) 249 s d
theorem cu_c {c d : Int} : SaC A (cuA A s c d) := fun r hr => by unfold cuA; rw [st_fn (by omega), st_fn (by omega)]
theorem Inv.cu {c d : Int} (h : Inv A N nm nv) (hs : s < 4) (hc : curOK A N s c) (hd : curOK A N s d) : Inv (cuA A s c d) N nm nv := by
  refine h.cur cu_c (fun t ht => ?_) (fun t ht => ?_) (fun t ht => ?_)
  · unfold cuA; rw [st_ne (by decide), st_ne (by decide)]; exact (h.2.1 t ht).1
  · unfold cuA; rw [st_ne (by decide), st_row]; split
    · rename_i e; rw [e]; exact hc
    · exact (h.2.1 t ht).2.2.2.2.2.2.2.2.2.1
  · unfold cuA; rw [st_row, st_ne (by decide)]; split
    · rename_i e; rw [e]; exact hd
    · exact (h.2.1 t ht).2.2.2.2.2.2.2.2.2.2.1
theorem Cl.cu {c d : Int} (hI : In1 A N) (h : Cl σ A N nm nv) (hs : s < 4) (hτ : ∀ a b, (a ≠ 20 + 40 * s ∨ (b ≠ 8 ∧ b ≠ 9)) → τ a b = σ a b) (h8 : τ (20 + 40 * s) 8 = c) (h9 : τ (20 + 40 * s) 9 = d) : Cl τ (cuA A s c d) N nm nv := by
  refine h.cur hI cu_c (fun a b hab => hτ a b (by have := hab s hs; omega)) (fun t ht => ?_)
  have w := h.site ht
  unfold cuA
  rw [st_ne (a := 250) (by decide), st_ne (a := 250) (by decide), st_ne (a := 248) (by decide), st_row (c := 248), st_row (c := 249), st_ne (a := 249) (by decide), hτ (20 + 40 * t) 6 (by omega)]
  by_cases q : t = s
  · rw [if_pos q, if_pos q, q, h8, h9]
    rw [q] at w
    exact ⟨w.2.2.1, rfl, rfl⟩
  · rw [if_neg q, if_neg q, hτ (20 + 40 * t) 8 (by omega), hτ (20 + 40 * t) 9 (by omega)]
    exact ⟨w.2.2.1, w.2.2.2.2.1, w.2.2.2.2.2.1⟩
theorem DK.cok (dk : DK A N (Hs A s) D) {c : Int} (h : c = -1 ∨ c ∈ D.1) : curOK A N s c := by
  rcases h with h | h
  · exact Or.inl h
  · have := (dk.2.1 c).mp h
    exact Or.inr ⟨(List.mem_filter.mp this.1).2, this.2⟩
/-- a place between the seen elements -/
def isSt (D : Dc) (x : Int) : Prop := 0 ≤ x ∧ x ≤ cnt (seenB D) D.1
def stN (D : Dc) (x : Int) : Int := if x = 0 then -1 else elAt D (x - 1)
def thr (D : Dc) (e : Int) : Int := runL (thruS (seenB D) e) (fun _ => 0) 0 D.1
theorem stN_in {x : Int} (h : isSt D x) : stN D x = -1 ∨ stN D x ∈ D.1 := by
  unfold stN
  by_cases q : x = 0
  · rw [if_pos q]; exact Or.inl rfl
  · rw [if_neg q]; exact Or.inr (elAt_in (show isEl D (x - 1) from ⟨by have := h.1; omega, by have := h.2; omega⟩)).1
theorem thr_st (hd : DI A N D) {x : Int} (h : isSt D x) : thr D (stN D x) = x := by
  unfold thr stN
  by_cases q : x = 0
  · rw [if_pos q, q]
    refine thru_not D.1 0 0 (fun hm => ?_)
    have := mkE_num (hd.2.1 _ hm); omega
  · rw [if_neg q]
    have e := thru_at (P := seenB D) D.1 0 (x - 1) 0 (fun _ => -1) (fun _ => 0) hd.1 (by have := h.1; omega) (by have := h.2; omega)
    exact e.trans (by omega)
theorem thr_r {e : Int} : 0 ≤ thr D e ∧ thr D e ≤ cnt (seenB D) D.1 := by
  by_cases q : e ∈ D.1
  · unfold thr
    rw [thru_take D.1 0 _ q]
    have h1 := cnt_le (seenB D) (D.1.take (ix e D.1 + 1))
    have h2 := cnt_le (seenB D) (D.1.drop (ix e D.1 + 1))
    have h3 := cnt_app (seenB D) (D.1.take (ix e D.1 + 1)) (D.1.drop (ix e D.1 + 1))
    rw [List.take_append_drop] at h3
    omega
  · unfold thr
    rw [thru_not D.1 0 0 q]
    have := cnt_le (seenB D) D.1
    omega
theorem c_stand {q : Nat} {x : Int} (h : isP σ q D) (hd : DI A N D) (hN : N ≤ 160) (hn : 161 ≤ n) (hx : isSt D x) : fX5_standAt n σ q x = some (0, stN D x, σ) := by
  unfold fX5_standAt stN
  have h1 := (cnt_le (seenB D) D.1).2
  have h2 := h.2.1
  have hx' := hx
  unfold isSt at hx'
  by_cases e : x = 0
  · rw [if_neg (fun w => w e), if_pos e]
  · rw [if_pos e, if_neg e, vl_ok, i32_toInt ⟨by omega, by omega⟩, xw_ok (c_elementAt h hd hN hn (show isEl D (x - 1) from ⟨by omega, by omega⟩))]
theorem c_standNo {q : Nat} {x : Int} (h : isP σ q D) (hn : 161 ≤ n) (hr : inR x) (hx : ¬ isSt D x) : fX5_standAt n σ q x = some (1, 0, σ) := by
  unfold fX5_standAt
  have h1 := (cnt_le (seenB D) D.1)
  have h2 := h.2.1
  have hx' := hx
  unfold isSt at hx'
  have hr1 := hr.1
  have hr2 := hr.2
  rw [if_pos (by omega), vl_ok]
  have no : ¬ isEl D (i32 (x - 1)).toInt := by
    unfold isEl
    by_cases e : x = -2147483648
    · rw [e]
      have : (i32 (-2147483648 - 1)).toInt = 2147483647 := by decide
      rw [this]; omega
    · rw [i32_toInt ⟨by omega, by omega⟩]; omega
  rw [xw_x (c_elementNo h hn no)]
end MOVE

