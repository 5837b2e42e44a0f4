/-! ===== what an act does in the reference ===== -/
def FrD (σ σ2 : St) : Prop := ∀ a b, (a < 264 ∨ 272 < a) → (a ≠ 230 ∨ b ≠ 32) → σ2 a b = σ a b
theorem FrD.rf {σ : St} : FrD σ σ := fun _ _ _ _ => rfl
theorem FrD.tr {σ σ2 σ3 : St} (h : FrD σ σ2) (h2 : FrD σ2 σ3) : FrD σ σ3 := fun a b h3 h4 => (h2 a b h3 h4).trans (h a b h3 h4)
theorem FrD.upd {σ σ2 : St} {r i : Nat} {v : Int} (h : FrD σ σ2) (hr : 264 ≤ r ∧ r ≤ 272) : FrD σ (st σ2 r i v) := fun a b h3 h4 => by
  rw [st_ne (by omega)]; exact h a b h3 h4
theorem RT.fr {T σ σ2 : St} {N : Nat} (h : RT T σ N) (hf : FrD σ σ2) : RT T σ2 N := by
  refine ⟨by rw [hf 230 1 (by decide) (by decide)]; exact h.1, fun a ha => ?_⟩
  rw [hf 233 a (by omega) (by omega), hf 234 a (by omega) (by omega), hf 235 a (by omega) (by omega), hf 236 a (by omega) (by omega), hf 237 a (by omega) (by omega), hf 238 a (by omega) (by omega), hf 239 a (by omega) (by omega), hf 240 a (by omega) (by omega), hf 242 a (by omega) (by omega)]
  exact h.2 a ha
section RUPD
variable {σ : St} {N : Nat} {D : Dc}
theorem isR.u266 {i : Nat} {v : Int} (h : isR σ N D) : isR (st σ 266 i v) N (D.1, st D.2 6 i v) := by
  obtain ⟨h1, h2, h3, h4, h5, h6, h7, h8, h9, h10⟩ := h
  refine ⟨by rw [st_ne (by decide)]; exact h1, h2, by rw [st_fn (by decide)]; exact h3, ?_, ?_, ?_, ?_, ?_, ?_, ?_⟩
  · intro x hx; rw [st_fn (by decide)]; refine (h4 x hx).trans ?_; show D.2 4 x.toNat = st D.2 6 i v 4 x.toNat; rw [st_ne (by decide)]
  · intro j hj; show st σ 266 i v 266 j = st D.2 6 i v 6 j; rw [st_row, st_row]; split; rfl; exact h5 j hj
  · intro j hj; rw [st_fn (by decide), st_fn (by decide)]; have := h6 j hj; rw [← congrFun (st_fn (σ := D.2) (c := 6) (i := i) (v := v) (a := 7) (by decide)) j] at this; exact this
  · intro j hj; rw [st_fn (by decide)]; refine (h7 j hj).trans ?_; show D.2 8 j = st D.2 6 i v 8 j; rw [st_ne (by decide)]
  · intro j hj; rw [st_fn (by decide)]; refine (h8 j hj).trans ?_; show D.2 9 j = st D.2 6 i v 9 j; rw [st_ne (by decide)]
  · intro b hb; rw [st_fn (by decide), st_fn (by decide)]; have := h9 b hb; rw [← congrFun (st_fn (σ := D.2) (c := 6) (i := i) (v := v) (a := 10) (by decide)) b, ← congrFun (st_fn (σ := D.2) (c := 6) (i := i) (v := v) (a := 11) (by decide)) b] at this; exact this
  · intro s b hs1 hs2 hb; rw [st_fn (by decide)]; refine (h10 s b hs1 hs2 hb).trans ?_; show D.2 (13 + s) b = st D.2 6 i v (13 + s) b; rw [st_ne (by omega)]
theorem isR.u269 {i : Nat} {v : Int} (h : isR σ N D) : isR (st σ 269 i v) N (D.1, st D.2 8 i v) := by
  obtain ⟨h1, h2, h3, h4, h5, h6, h7, h8, h9, h10⟩ := h
  refine ⟨by rw [st_ne (by decide)]; exact h1, h2, by rw [st_fn (by decide)]; exact h3, ?_, ?_, ?_, ?_, ?_, ?_, ?_⟩
  · intro x hx; rw [st_fn (by decide)]; refine (h4 x hx).trans ?_; show D.2 4 x.toNat = st D.2 8 i v 4 x.toNat; rw [st_ne (by decide)]
  · intro j hj; rw [st_fn (by decide)]; refine (h5 j hj).trans ?_; show D.2 6 j = st D.2 8 i v 6 j; rw [st_ne (by decide)]
  · intro j hj; rw [st_fn (by decide), st_fn (by decide)]; have := h6 j hj; rw [← congrFun (st_fn (σ := D.2) (c := 8) (i := i) (v := v) (a := 7) (by decide)) j] at this; exact this
  · intro j hj; show st σ 269 i v 269 j = st D.2 8 i v 8 j; rw [st_row, st_row]; split; rfl; exact h7 j hj
  · intro j hj; rw [st_fn (by decide)]; refine (h8 j hj).trans ?_; show D.2 9 j = st D.2 8 i v 9 j; rw [st_ne (by decide)]
  · intro b hb; rw [st_fn (by decide), st_fn (by decide)]; have := h9 b hb; rw [← congrFun (st_fn (σ := D.2) (c := 8) (i := i) (v := v) (a := 10) (by decide)) b, ← congrFun (st_fn (σ := D.2) (c := 8) (i := i) (v := v) (a := 11) (by decide)) b] at this; exact this
  · intro s b hs1 hs2 hb; rw [st_fn (by decide)]; refine (h10 s b hs1 hs2 hb).trans ?_; show D.2 (13 + s) b = st D.2 8 i v (13 + s) b; rw [st_ne (by omega)]
theorem isR.u270 {i : Nat} {v : Int} (h : isR σ N D) : isR (st σ 270 i v) N (D.1, st D.2 10 i v) := by
  obtain ⟨h1, h2, h3, h4, h5, h6, h7, h8, h9, h10⟩ := h
  refine ⟨by rw [st_ne (by decide)]; exact h1, h2, by rw [st_fn (by decide)]; exact h3, ?_, ?_, ?_, ?_, ?_, ?_, ?_⟩
  · intro x hx; rw [st_fn (by decide)]; refine (h4 x hx).trans ?_; show D.2 4 x.toNat = st D.2 10 i v 4 x.toNat; rw [st_ne (by decide)]
  · intro j hj; rw [st_fn (by decide)]; refine (h5 j hj).trans ?_; show D.2 6 j = st D.2 10 i v 6 j; rw [st_ne (by decide)]
  · intro j hj; rw [st_fn (by decide), st_fn (by decide)]; have := h6 j hj; rw [← congrFun (st_fn (σ := D.2) (c := 10) (i := i) (v := v) (a := 7) (by decide)) j] at this; exact this
  · intro j hj; rw [st_fn (by decide)]; refine (h7 j hj).trans ?_; show D.2 8 j = st D.2 10 i v 8 j; rw [st_ne (by decide)]
  · intro j hj; rw [st_fn (by decide)]; refine (h8 j hj).trans ?_; show D.2 9 j = st D.2 10 i v 9 j; rw [st_ne (by decide)]
  · intro b hb; refine ⟨?_, ?_⟩; · show st σ 270 i v 270 b = st D.2 10 i v 10 b; rw [st_row, st_row]; split; rfl; exact (h9 b hb).1
    · show st σ 270 i v 271 b = st D.2 10 i v 11 b; rw [st_ne (by decide), st_ne (by decide)]; exact (h9 b hb).2
  · intro s b hs1 hs2 hb; rw [st_fn (by decide)]; refine (h10 s b hs1 hs2 hb).trans ?_; show D.2 (13 + s) b = st D.2 10 i v (13 + s) b; rw [st_ne (by omega)]
theorem isR.u271 {i : Nat} {v : Int} (h : isR σ N D) : isR (st σ 271 i v) N (D.1, st D.2 11 i v) := by
  obtain ⟨h1, h2, h3, h4, h5, h6, h7, h8, h9, h10⟩ := h
  refine ⟨by rw [st_ne (by decide)]; exact h1, h2, by rw [st_fn (by decide)]; exact h3, ?_, ?_, ?_, ?_, ?_, ?_, ?_⟩
  · intro x hx; rw [st_fn (by decide)]; refine (h4 x hx).trans ?_; show D.2 4 x.toNat = st D.2 11 i v 4 x.toNat; rw [st_ne (by decide)]
  · intro j hj; rw [st_fn (by decide)]; refine (h5 j hj).trans ?_; show D.2 6 j = st D.2 11 i v 6 j; rw [st_ne (by decide)]
  · intro j hj; rw [st_fn (by decide), st_fn (by decide)]; have := h6 j hj; rw [← congrFun (st_fn (σ := D.2) (c := 11) (i := i) (v := v) (a := 7) (by decide)) j] at this; exact this
  · intro j hj; rw [st_fn (by decide)]; refine (h7 j hj).trans ?_; show D.2 8 j = st D.2 11 i v 8 j; rw [st_ne (by decide)]
  · intro j hj; rw [st_fn (by decide)]; refine (h8 j hj).trans ?_; show D.2 9 j = st D.2 11 i v 9 j; rw [st_ne (by decide)]
  · intro b hb; refine ⟨?_, ?_⟩; · show st σ 271 i v 270 b = st D.2 11 i v 10 b; rw [st_ne (by decide), st_ne (by decide)]; exact (h9 b hb).1
    · show st σ 271 i v 271 b = st D.2 11 i v 11 b; rw [st_row, st_row]; split; rfl; exact (h9 b hb).2
  · intro s b hs1 hs2 hb; rw [st_fn (by decide)]; refine (h10 s b hs1 hs2 hb).trans ?_; show D.2 (13 + s) b = st D.2 11 i v (13 + s) b; rw [st_ne (by omega)]
theorem isR.u265 {i : Nat} {v w : Int} (h : isR σ N D) (hvw : w + 1 = v) : isR (st σ 265 i w) N (D.1, st D.2 4 i v) := by
  obtain ⟨h1, h2, h3, h4, h5, h6, h7, h8, h9, h10⟩ := h
  refine ⟨by rw [st_ne (by decide)]; exact h1, h2, by rw [st_fn (by decide)]; exact h3, ?_, ?_, ?_, ?_, ?_, ?_, ?_⟩
  · intro x hx; show st σ 265 i w 265 x.toNat + 1 = st D.2 4 i v 4 x.toNat; rw [st_row, st_row]; split; exact hvw; exact h4 x hx
  · intro j hj; rw [st_fn (by decide)]; refine (h5 j hj).trans ?_; show D.2 6 j = st D.2 4 i v 6 j; rw [st_ne (by decide)]
  · intro j hj; rw [st_fn (by decide), st_fn (by decide)]; have := h6 j hj; rw [← congrFun (st_fn (σ := D.2) (c := 4) (i := i) (v := v) (a := 7) (by decide)) j] at this; exact this
  · intro j hj; rw [st_fn (by decide)]; refine (h7 j hj).trans ?_; show D.2 8 j = st D.2 4 i v 8 j; rw [st_ne (by decide)]
  · intro j hj; rw [st_fn (by decide)]; refine (h8 j hj).trans ?_; show D.2 9 j = st D.2 4 i v 9 j; rw [st_ne (by decide)]
  · intro b hb; rw [st_fn (by decide), st_fn (by decide)]; have := h9 b hb; rw [← congrFun (st_fn (σ := D.2) (c := 4) (i := i) (v := v) (a := 10) (by decide)) b, ← congrFun (st_fn (σ := D.2) (c := 4) (i := i) (v := v) (a := 11) (by decide)) b] at this; exact this
  · intro s b hs1 hs2 hb; rw [st_fn (by decide)]; refine (h10 s b hs1 hs2 hb).trans ?_; show D.2 (13 + s) b = st D.2 4 i v (13 + s) b; rw [st_ne (by omega)]
theorem isR.u267 {i : Nat} {v w : Int} (h : isR σ N D) (hb : BR v w (σ 268 i)) : isR (st σ 267 i w) N (D.1, st D.2 7 i v) := by
  obtain ⟨h1, h2, h3, h4, h5, h6, h7, h8, h9, h10⟩ := h
  refine ⟨by rw [st_ne (by decide)]; exact h1, h2, by rw [st_fn (by decide)]; exact h3, ?_, ?_, ?_, ?_, ?_, ?_, ?_⟩
  · intro x hx; rw [st_fn (by decide)]; refine (h4 x hx).trans ?_; show D.2 4 x.toNat = st D.2 7 i v 4 x.toNat; rw [st_ne (by decide)]
  · intro j hj; rw [st_fn (by decide)]; refine (h5 j hj).trans ?_; show D.2 6 j = st D.2 7 i v 6 j; rw [st_ne (by decide)]
  · intro j hj; show BR (st D.2 7 i v 7 j) (st σ 267 i w 267 j) (st σ 267 i w 268 j); rw [st_row, st_row, st_ne (by decide)]; by_cases e : j = i; · rw [if_pos e, if_pos e, e]; exact hb
    · rw [if_neg e, if_neg e]; exact h6 j hj
  · intro j hj; rw [st_fn (by decide)]; refine (h7 j hj).trans ?_; show D.2 8 j = st D.2 7 i v 8 j; rw [st_ne (by decide)]
  · intro j hj; rw [st_fn (by decide)]; refine (h8 j hj).trans ?_; show D.2 9 j = st D.2 7 i v 9 j; rw [st_ne (by decide)]
  · intro b hb; rw [st_fn (by decide), st_fn (by decide)]; have := h9 b hb; rw [← congrFun (st_fn (σ := D.2) (c := 7) (i := i) (v := v) (a := 10) (by decide)) b, ← congrFun (st_fn (σ := D.2) (c := 7) (i := i) (v := v) (a := 11) (by decide)) b] at this; exact this
  · intro s b hs1 hs2 hb; rw [st_fn (by decide)]; refine (h10 s b hs1 hs2 hb).trans ?_; show D.2 (13 + s) b = st D.2 7 i v (13 + s) b; rw [st_ne (by omega)]
theorem isR.u268 {i : Nat} {v w : Int} (h : isR σ N D) (hb : BR v (σ 267 i) w) : isR (st σ 268 i w) N (D.1, st D.2 7 i v) := by
  obtain ⟨h1, h2, h3, h4, h5, h6, h7, h8, h9, h10⟩ := h
  refine ⟨by rw [st_ne (by decide)]; exact h1, h2, by rw [st_fn (by decide)]; exact h3, ?_, ?_, ?_, ?_, ?_, ?_, ?_⟩
  · intro x hx; rw [st_fn (by decide)]; refine (h4 x hx).trans ?_; show D.2 4 x.toNat = st D.2 7 i v 4 x.toNat; rw [st_ne (by decide)]
  · intro j hj; rw [st_fn (by decide)]; refine (h5 j hj).trans ?_; show D.2 6 j = st D.2 7 i v 6 j; rw [st_ne (by decide)]
  · intro j hj; show BR (st D.2 7 i v 7 j) (st σ 268 i w 267 j) (st σ 268 i w 268 j); rw [st_row, st_row, st_ne (by decide)]; by_cases e : j = i; · rw [if_pos e, if_pos e, e]; exact hb
    · rw [if_neg e, if_neg e]; exact h6 j hj
  · intro j hj; rw [st_fn (by decide)]; refine (h7 j hj).trans ?_; show D.2 8 j = st D.2 7 i v 8 j; rw [st_ne (by decide)]
  · intro j hj; rw [st_fn (by decide)]; refine (h8 j hj).trans ?_; show D.2 9 j = st D.2 7 i v 9 j; rw [st_ne (by decide)]
  · intro b hb; rw [st_fn (by decide), st_fn (by decide)]; have := h9 b hb; rw [← congrFun (st_fn (σ := D.2) (c := 7) (i := i) (v := v) (a := 10) (by decide)) b, ← congrFun (st_fn (σ := D.2) (c := 7) (i := i) (v := v) (a := 11) (by decide)) b] at this; exact this
  · intro s b hs1 hs2 hb; rw [st_fn (by decide)]; refine (h10 s b hs1 hs2 hb).trans ?_; show D.2 (13 + s) b = st D.2 7 i v (13 + s) b; rw [st_ne (by omega)]
theorem isR.u272 {s0 i : Nat} {v : Int} (h : isR σ N D) (hs : 1 ≤ s0 ∧ s0 < 4) (hi : i < 161) : isR (st σ 272 (161 * s0 + i) v) N (D.1, st D.2 (13 + s0) i v) := by
  obtain ⟨h1, h2, h3, h4, h5, h6, h7, h8, h9, h10⟩ := h
  refine ⟨by rw [st_ne (by decide)]; exact h1, h2, by rw [st_fn (by decide)]; exact h3, ?_, ?_, ?_, ?_, ?_, ?_, ?_⟩
  · intro x hx; rw [st_fn (by decide)]; refine (h4 x hx).trans ?_; show D.2 4 x.toNat = st D.2 (13 + s0) i v 4 x.toNat; rw [st_ne (by omega)]
  · intro j hj; rw [st_fn (by decide)]; refine (h5 j hj).trans ?_; show D.2 6 j = st D.2 (13 + s0) i v 6 j; rw [st_ne (by omega)]
  · intro j hj; rw [st_fn (by decide), st_fn (by decide)]; have := h6 j hj; rw [← congrFun (st_fn (σ := D.2) (c := 13 + s0) (i := i) (v := v) (a := 7) (by omega)) j] at this; exact this
  · intro j hj; rw [st_fn (by decide)]; refine (h7 j hj).trans ?_; show D.2 8 j = st D.2 (13 + s0) i v 8 j; rw [st_ne (by omega)]
  · intro j hj; rw [st_fn (by decide)]; refine (h8 j hj).trans ?_; show D.2 9 j = st D.2 (13 + s0) i v 9 j; rw [st_ne (by omega)]
  · intro b hb; rw [st_fn (by decide), st_fn (by decide)]; have := h9 b hb; rw [← congrFun (st_fn (σ := D.2) (c := 13 + s0) (i := i) (v := v) (a := 10) (by omega)) b, ← congrFun (st_fn (σ := D.2) (c := 13 + s0) (i := i) (v := v) (a := 11) (by omega)) b] at this; exact this
  · intro s b hs1 hs2 hb
    show st σ 272 (161 * s0 + i) v 272 (161 * s + b) = st D.2 (13 + s0) i v (13 + s) b
    rw [st_row]
    by_cases e : s = s0
    · subst e
      rw [st_row]
      by_cases e2 : b = i
      · rw [if_pos (by omega), if_pos e2]
      · rw [if_neg (by omega), if_neg e2]; exact h10 s b hs1 hs2 hb
    · rw [if_neg (by omega), st_ne (by omega)]; exact h10 s b hs1 hs2 hb
end RUPD
