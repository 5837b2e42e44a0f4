/-! ===== every turn of the law ===== -/
section ZL
variable {σ A : St} {N nm s t : Nat} {x6 x7 x8 : Int}
theorem t_114 {wh : Int} (h : ST σ A N nm) (hs : s < 4) (ht : t < 4) (hne : s ≠ t) : wp (fL_law_J114 1000 nm 0 σ x6 x7 x8 (N : Int) (nm : Int) (A 8 9) wh (s : Int) (t : Int) (lenA A N s) (if thr (docOf A N (Hs A s)) (A 248 s) = thr (docOf A N (Hs A s)) (A 249 s) then 0 else 1)) Fin := by
  have sel : ¬ ((if thr (docOf A N (Hs A s)) (A 248 s) = thr (docOf A N (Hs A s)) (A 249 s) then (0 : Int) else 1) = 0) → thr (docOf A N (Hs A s)) (A 248 s) ≠ thr (docOf A N (Hs A s)) (A 249 s) := fun q w => q (if_pos w)
  unfold fL_law_J114
  refine wp_if (fun _ => t_type h hs rfl) (fun h90 => wp_if (fun _ => ?_) (fun _ => t_type h hs rfl))
  refine wp_if (fun _ => ?_) (fun _ => t_split h hs (by omega))
  refine wp_if (fun _ => ?_) (fun _ => t_er291 h hs)
  refine wp_if (fun _ => ?_) (fun _ => t_move h hs rfl)
  refine wp_if (fun _ => ?_) (fun _ => wp_if (fun _ => t_end h rfl rfl rfl) (fun q => ?_))
  · refine wp_if (fun _ => ?_) (fun _ => wp_if (fun _ => t_end h rfl rfl rfl) (fun q => wp_if (fun _ => t_end h rfl rfl rfl) (fun q2 => t_comment h hs (by omega) (sel q) (by omega))))
    refine wp_if (fun _ => ?_) (fun _ => wp_if (fun _ => t_end h rfl rfl rfl) (fun q => t_send h hs ht hne (by omega)))
    refine wp_if (fun _ => ?_) (fun _ => t_undo h hs (by omega))
    refine wp_if (fun _ => ?_) (fun _ => wp_vl (wp_low (by decide) (fun r _ _ => wp_if (fun _ => t_prop h hs (by omega) (Or.inl rfl)) (fun _ => t_prop h hs (by omega) (Or.inr rfl)))))
    refine wp_if (fun _ => t_kind h hs (by omega)) (fun _ => ?_)
    have l0 := len_r (s := 0) h.1 (by decide)
    refine wp_z (co_length (s := 0) h.1 h.2.1 (by decide)) FrC.rf (fun τ1 d1 g1 => wp_if (fun q => wp_vl ?_) (fun q => t_decide (h.fr d1 g1) (by omega) (Or.inl rfl)))
    refine wp_z (co_length (s := 0) h.1 d1 (by decide)) g1 (fun τ2 d2 g2 => wp_low ⟨by omega, by omega⟩ (fun pl p1 p2 => t_decide (h.fr d2 g2) (by omega) (Or.inr ⟨p1, p2⟩)))
  · refine wp_vl (wp_low (by decide) (fun m m1 m2 => wp_vl (wp_low (by decide) (fun r _ _ => wp_if (fun _ => t_mark h hs (by omega) (sel q) ⟨m1, m2⟩ (Or.inl rfl)) (fun _ => t_mark h hs (by omega) (sel q) ⟨m1, m2⟩ (Or.inr rfl))))))
theorem turn_ok : TurnOK JS := by
  intro nm x3 x4 x5 σ x6 x7 x8 ⟨A, N, h, e3, e4, e5⟩ _ _ _
  subst e3
  subst e4
  subst e5
  have main : wp (fL_law 1000 nm 0 σ x6 x7 x8 (N : Int) (nm : Int) (A 8 9)) Fin := by
    unfold fL_law
    refine wp_low (by decide) (fun wh w1 w2 => wp_low (by decide) (fun si s1 s2 => ?_))
    obtain ⟨s, rfl⟩ : ∃ s : Nat, si = (s : Int) := ⟨si.toNat, by omega⟩
    refine wp_ck (by omega) (by omega) (wp_vl (wp_low (by decide) (fun r r1 r2 => wp_ck (by omega) (by omega) ?_)))
    rw [irm_ok ⟨by omega, by omega⟩ (by decide)]
    obtain ⟨t, ht⟩ : ∃ t : Nat, ((s : Int) + 1 + r) % 4 = (t : Int) := ⟨(((s : Int) + 1 + r) % 4).toNat, by omega⟩
    have hs : s < 4 := by omega
    have ht4 : t < 4 := by omega
    have hne : s ≠ t := by omega
    rw [ht]
    refine wp_z (co_length h.1 h.2.1 hs) FrC.rf (fun σ1 c1 f1 => ?_)
    refine wp_z (co_cursor h.1 c1 hs) f1 (fun σ2 c2 f2 => ?_)
    refine wp_z (co_tail h.1 c2 hs) f2 (fun σ3 c3 f3 => ?_)
    have h3 := h.fr c3 f3
    have m := t_114 (wh := wh) (x6 := x6) (x7 := x7) (x8 := x8) h3 hs ht4 hne
    refine wp_if (fun q => ?_) (fun q => ?_)
    · rw [if_pos q] at m; exact m
    · rw [if_neg q] at m; exact m
  obtain ⟨⟨y3, y4, y5, nm2, σ2⟩, e, hf⟩ := main
  exact ⟨1000, nm2, y3, y4, y5, σ2, e, hf⟩
theorem start_ok : JS 0 0 0 0 sSt := by
  refine ⟨sSt, 0, ⟨sInv, sCl, ⟨fun a q => absurd q (Nat.not_lt_zero a), fun a q => absurd q (Nat.not_lt_zero a), fun a q => absurd q (Nat.not_lt_zero a), fun a q => absurd q (Nat.not_lt_zero a)⟩, fun t _ => ?_⟩, rfl, rfl, (s0 (by decide) 9).symm⟩
  exact s0 (by decide) t
end ZL
theorem law_ok : ∃ I : Nat → Int → Int → Int → St → Prop, TurnOK I ∧ (∀ nm x3 x4 x5 σ, I nm x3 x4 x5 σ → inR x3 ∧ inR x4 ∧ inR x5) ∧ I 0 0 0 0 sSt := by
  refine ⟨JS, turn_ok, fun nm x3 x4 x5 σ h => ?_, start_ok⟩
  obtain ⟨A, N, h, e3, e4, e5⟩ := h
  have h1 := h.1.1.2.1
  have h2 := h.1.2.2.2.1.1
  have h3 := h.1.1.2.2.1
  exact ⟨⟨by omega, by omega⟩, ⟨by omega, by omega⟩, ⟨by omega, by omega⟩⟩
