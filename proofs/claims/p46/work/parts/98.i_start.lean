/-! ===== the start ===== -/
theorem s0 {a : Nat} (h : ((a ≠ 41 ∧ a ≠ 81) ∧ (a ≠ 121 ∧ a ≠ 161) ∧ a ≠ 191 ∧ a ≠ 211) ∧ (a ≠ 248 ∧ a ≠ 249) ∧ (a ≠ 20 ∧ a ≠ 60) ∧ a ≠ 100 ∧ a ≠ 140) (j : Nat) : sSt a j = 0 := by
  unfold sSt
  rw [if_neg (by omega), if_neg (by omega), if_neg (by omega)]
theorem sBk {p k i : Nat} (hp : p = 30 ∨ p = 70 ∨ p = 110 ∨ p = 150 ∨ p = 180 ∨ p = 200) (h1 : 4 ≤ k) (h2 : k ≤ 16) : sSt (p + k) i = C0 k i := by
  unfold C0
  by_cases q : k = 11
  · rw [if_pos q]
    unfold sSt
    rw [if_pos (by omega)]
  · rw [if_neg q]
    exact s0 (by omega) i
theorem sJL (s : Nat) : JL sSt s = [] := by
  unfold JL
  rw [s0 (by decide)]; rfl
theorem sDoc (S : Int → Bool) : docOf sSt 0 S = ([], C0) := rfl
theorem sCur {r s : Nat} (hr : r = 248 ∨ r = 249) (hs : s < 4) : sSt r s = -1 := by
  unfold sSt
  rw [if_neg (by omega), if_pos (by omega), if_pos hs]
theorem sInv : Inv sSt 0 0 0 := by
  refine ⟨⟨s0 (by decide) 8, by decide, ?_, fun a ha => by omega, ⟨List.Pairwise.nil, fun x => ⟨fun h => (nomatch h), fun h => by omega⟩⟩, fun a ha => by omega, fun a ha => by omega⟩, fun s hs => ?_, fun s t hs ht => ?_, ⟨by decide, fun m hm => by omega, fun m a hm ha => ?_⟩, ⟨by decide, fun v hv => by omega⟩⟩
  · rw [s0 (by decide)]; decide
  · refine ⟨by rw [s0 (by decide)]; exact Or.inl rfl, by rw [s0 (by decide)]; decide, by rw [s0 (by decide)]; decide, by rw [sJL]; exact List.Pairwise.nil, fun x hx => (by rw [sJL] at hx; cases hx), fun a _ => by rw [s0 (by decide)]; exact Or.inl rfl, fun a _ => ?_, fun L1 x L2 q => ?_, fun a ha => by omega, Or.inl (sCur (Or.inl rfl) hs), Or.inl (sCur (Or.inr rfl) hs), ?_⟩
    · rw [s0 (by decide), sJL]
      exact ⟨fun h => absurd rfl h, fun h => (nomatch h)⟩
    · rw [sJL] at q
      have := congrArg List.length q
      rw [List.length_append, List.length_cons, List.length_nil] at this
      omega
    · rw [s0 (a := 246) (by decide), s0 (a := 245) (by decide)]; decide
  · rw [s0 (a := 252) (by decide), s0 (a := 252) (by decide), s0 (a := 246) (by decide), s0 (a := 246) (by decide)]; decide
  · rw [s0 (by decide)]
    exact ⟨Or.inl rfl, fun h => absurd rfl h⟩
theorem sPD {p : Nat} (hp : p = 30 ∨ p = 70 ∨ p = 110 ∨ p = 150 ∨ p = 180 ∨ p = 200) : PD sSt p 0 := fun k h1 h2 i _ => sBk hp h1 h2
theorem sCl : Cl sSt sSt 0 0 0 := by
  refine ⟨⟨fun _ _ _ _ => rfl, s0 (by decide) 8, by decide⟩, fun s hs => ?_, sPD (by decide), sPD (by decide), ⟨s0 (by decide) 9, s0 (by decide) 0, fun m hm => by omega⟩, s0 (by decide) 10, s0 (by decide) 0, fun v hv => by omega⟩
  have hb : ∀ b, sSt (20 + 40 * s) b = if b = 0 then (s : Int) else if b = 5 then 1 else if b = 8 ∨ b = 9 then -1 else 0 := by
    intro b
    rcases (show s = 0 ∨ s = 1 ∨ s = 2 ∨ s = 3 by omega) with rfl | rfl | rfl | rfl <;> rfl
  have hp : 20 + 40 * s + 10 = 30 ∨ 20 + 40 * s + 10 = 70 ∨ 20 + 40 * s + 10 = 110 ∨ 20 + 40 * s + 10 = 150 ∨ 20 + 40 * s + 10 = 180 ∨ 20 + 40 * s + 10 = 200 := by omega
  refine ⟨by rw [hb]; rfl, by rw [hb]; exact Or.inr rfl, by rw [hb, s0 (by decide)]; rfl, by rw [hb, s0 (by decide)]; rfl, by rw [hb, sCur (Or.inl rfl) hs]; rfl, by rw [hb, sCur (Or.inr rfl) hs]; rfl, by rw [s0 (by omega), s0 (by decide)], fun a _ => by rw [s0 (by omega), s0 (by decide)], fun i hi => ?_, fun t _ => by rw [s0 (by omega), s0 (by decide)], sPD hp, fun _ => ?_⟩
  · rw [s0 (by decide)] at hi; omega
  · rw [sDoc]
    refine ⟨by rw [s0 (by omega)]; rfl, by decide, rfl, fun k h1 h2 i => sBk hp h1 h2⟩
