theorem law_ok : ∃ I : Nat → Int → Int → Int → St → Prop, TurnOK I ∧ (∀ nm x3 x4 x5 σ, I nm x3 x4 x5 σ → inR x3 ∧ inR x4 ∧ inR x5) ∧ I 0 0 0 0 sSt := by
  sorry
