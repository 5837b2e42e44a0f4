/-! ===== send ===== -/
section SND
variable {σ τ A B : St} {N nm nv n s : Nat}
/-- a message is sent -/
def sdA (A : St) (s : Nat) (rc : Int) (nm : Nat) : St := fun r b => if r = 254 then (if b = nm then rc else A 254 b) else if r = 255 then (if 160 * nm ≤ b then (if b < 160 * nm + 160 then A 243 (160 * s + (b - 160 * nm)) else A 255 b) else A 255 b) else if r = 257 then (if 4 * nm ≤ b then (if b < 4 * nm + 4 then A 252 (4 * s + (b - 4 * nm)) else A 257 b) else A 257 b) else A r b
variable {rc : Int}
theorem sd_254 (b : Nat) : sdA A s rc nm 254 b = if b = nm then rc else A 254 b := rfl
theorem sd_255 (m a : Nat) (ha : a < 160) : sdA A s rc nm 255 (160 * m + a) = if m = nm then A 243 (160 * s + a) else A 255 (160 * m + a) := by
  show (if 160 * nm ≤ 160 * m + a then (if 160 * m + a < 160 * nm + 160 then A 243 (160 * s + (160 * m + a - 160 * nm)) else A 255 (160 * m + a)) else A 255 (160 * m + a)) = _
  by_cases q : m = nm
  · rw [if_pos q, if_pos (by omega), if_pos (by omega), q, show 160 * nm + a - 160 * nm = a by omega]
  · rw [if_neg q]
    by_cases q2 : 160 * nm ≤ 160 * m + a
    · rw [if_pos q2, if_neg (by omega)]
    · rw [if_neg q2]
theorem sd_257 (m t : Nat) (ht : t < 4) : sdA A s rc nm 257 (4 * m + t) = if m = nm then A 252 (4 * s + t) else A 257 (4 * m + t) := by
  show (if 4 * nm ≤ 4 * m + t then (if 4 * m + t < 4 * nm + 4 then A 252 (4 * s + (4 * m + t - 4 * nm)) else A 257 (4 * m + t)) else A 257 (4 * m + t)) = _
  by_cases q : m = nm
  · rw [if_pos q, if_pos (by omega), if_pos (by omega), q, show 4 * nm + t - 4 * nm = t by omega]
  · rw [if_neg q]
    by_cases q2 : 4 * nm ≤ 4 * m + t
    · rw [if_pos q2, if_neg (by omega)]
    · rw [if_neg q2]
theorem sd_o {r : Nat} (h : r ≠ 254 ∧ r ≠ 255 ∧ r ≠ 257) : sdA A s rc nm r = A r := by
  funext b; unfold sdA; rw [if_neg h.1, if_neg h.2.1, if_neg h.2.2]
theorem sd_g : SaG A (sdA A s rc nm) := fun r hr => sd_o (by omega)
theorem Inv.snd' (hI : Inv A N nm nv) (hs : s < 4) (hm : nm < 80) (hrc : 0 ≤ rc ∧ rc < 4) : Inv (sdA A s rc nm) N (nm + 1) nv := by
  obtain ⟨q1, q2, q3, q4, q5⟩ := id hI
  refine hI.gen sd_g (fun t ht => ?_) ?_ ?_ ?_
  · rw [sd_o (by decide)]; exact (q2 t ht).2.2.2.2.2.2.2.2.2.2.2
  · unfold In3 at q3 ⊢
    rw [sd_o (by decide), sd_o (by decide)]; exact q3
  · obtain ⟨g1, g2, g3⟩ := q4
    refine ⟨by omega, fun m hm2 => ?_, fun m a h1 h2 => ?_⟩
    · by_cases q : m = nm
      · subst q
        have hh : Ms (sdA A s rc m) m = Hs A s := by
          funext x
          unfold Ms Hs
          refine decide_eq_decide.mpr ⟨fun w => ⟨w.1, ?_⟩, fun w => ⟨w.1, ?_⟩⟩
          · have w1 : 0 ≤ x ∧ x < 160 := w.1
            have := w.2
            rw [sd_255 _ _ (by omega), if_pos rfl] at this; exact this
          · have w1 : 0 ≤ x ∧ x < 160 := w.1
            rw [sd_255 _ _ (by omega), if_pos rfl]; exact w.2
        rw [hh, sd_254, if_pos rfl]
        refine ⟨hrc, sd_g.t.cl ((q2 s hs).cl q1.2.1), fun t ht => ?_⟩
        rw [sd_257 _ _ ht, if_pos rfl, sd_o (by decide)]
        exact (q3 s t hs ht).1
      · have z := g2 m (by omega)
        have hh : Ms (sdA A s rc nm) m = Ms A m := by
          funext x
          unfold Ms
          refine decide_eq_decide.mpr ⟨fun w => ⟨w.1, ?_⟩, fun w => ⟨w.1, ?_⟩⟩
          · have w1 : 0 ≤ x ∧ x < 160 := w.1
            have := w.2
            rw [sd_255 _ _ (by omega), if_neg q] at this; exact this
          · have w1 : 0 ≤ x ∧ x < 160 := w.1
            rw [sd_255 _ _ (by omega), if_neg q]; exact w.2
        rw [hh, sd_254, if_neg q]
        refine ⟨z.1, sd_g.t.cl z.2.1, fun t ht => ?_⟩
        rw [sd_257 _ _ ht, if_neg q, sd_o (by decide)]; exact z.2.2 t ht
    · rw [sd_255 _ _ h2]
      by_cases q : m = nm
      · rw [if_pos q]
        have g := q2 s hs
        refine ⟨g.2.2.2.2.2.1 a h2, fun w => ?_⟩
        have := g.2.2.2.2.1 _ ((g.2.2.2.2.2.2.1 a h2).mp w)
        omega
      · rw [if_neg q]
        exact ⟨(g3 m a h1 h2).1, fun w => by have := (g3 m a h1 h2).2 w; omega⟩
  · obtain ⟨g1, g2⟩ := q5
    refine ⟨g1, fun v hv => ?_⟩
    have z := g2 v hv
    have : Vs (sdA A s rc nm) v = Vs A v := by funext x; unfold Vs; rw [sd_o (by decide)]
    rw [this, sd_o (r := 258) (by decide)]
    exact ⟨sd_g.t.cl z.1, z.2⟩
def kvA (A : St) (s t a : Nat) : Int := b2i (decide ((a : Int) ∈ (JL A t).take (A 252 (4 * s + t)).toNat))
def F2 (σ σ3 A : St) (s nm j c : Nat) : Prop := (∀ a, a ≠ 255 → a ≠ 256 → σ3 a = σ a) ∧ (∀ m a, a < 160 → σ3 255 (160 * m + a) = if m = nm ∧ a ≤ j then A 243 (160 * s + a) else σ 255 (160 * m + a)) ∧ ∀ m t a, t < 4 → a < 160 → σ3 256 (640 * m + 160 * t + a) = if m = nm ∧ (a < j ∨ (a = j ∧ t < c)) then kvA A s t a else σ 256 (640 * m + 160 * t + a)
def F1 (σ σ3 A : St) (s nm j : Nat) : Prop := (∀ a, a ≠ 255 → a ≠ 256 → σ3 a = σ a) ∧ (∀ m a, a < 160 → σ3 255 (160 * m + a) = if m = nm ∧ a < j then A 243 (160 * s + a) else σ 255 (160 * m + a)) ∧ ∀ m t a, t < 4 → a < 160 → σ3 256 (640 * m + 160 * t + a) = if m = nm ∧ a < j then kvA A s t a else σ 256 (640 * m + 160 * t + a)
end SND

