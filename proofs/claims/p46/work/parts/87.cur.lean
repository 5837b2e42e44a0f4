/-! ===== cursors, tails, proposing ===== -/
section CUR
variable {σ τ A B : St} {N nm nv : Nat}
def SaC (A B : St) : Prop := ∀ r, (r < 248 ∨ 250 < r) → B r = A r
theorem SaC.t (e : SaC A B) : SaT A B := fun k _ k2 => e k (by omega)
theorem SaC.hs (e : SaC A B) (s : Nat) : Hs B s = Hs A s := by
  funext x; unfold Hs; rw [e 243 (by decide)]
theorem SaC.jl (e : SaC A B) (s : Nat) : JL B s = JL A s := by
  unfold JL; rw [e 244 (by decide), e 245 (by decide)]
theorem SaC.ok (e : SaC A B) {s : Nat} {c : Int} (h : curOK A N s c) : curOK B N s c := by
  unfold curOK at h ⊢
  rw [e.hs, e.t.m]; exact h
theorem Inv.cur (h : Inv A N nm nv) (e : SaC A B) (hb : ∀ s, s < 4 → isB (B 250 s)) (hc : ∀ s, s < 4 → curOK A N s (B 248 s)) (ht : ∀ s, s < 4 → curOK A N s (B 249 s)) : Inv B N nm nv := by
  obtain ⟨h1, h2, h3, h4, h5⟩ := h
  refine ⟨e.t.in1 h1, fun s hs => ?_, ?_, ?_, ?_⟩
  · obtain ⟨_, q2, q3, q4, q5, q6, q7, q8, q9, _, _, q12⟩ := h2 s hs
    refine ⟨hb s hs, ?_, ?_, ?_, ?_, ?_, ?_, ?_, ?_, e.ok (hc s hs), e.ok (ht s hs), ?_⟩
    · rw [e 247 (by decide)]; exact q2
    · rw [e 245 (by decide)]; exact q3
    · rw [e.jl]; exact q4
    · rw [e.jl]; exact q5
    · rw [e 243 (by decide)]; exact q6
    · rw [e 243 (by decide), e.jl]; exact q7
    · rw [e.jl]; exact e.t.cj q8
    · rw [e 9 (by decide), e 10 (by decide), e 243 (by decide), e 247 (by decide)]; exact q9
    · rw [e 246 (by decide), e 245 (by decide)]; exact q12
  · unfold In3 at h3 ⊢
    rw [e 252 (by decide), e 246 (by decide)]; exact h3
  · obtain ⟨q1, q2, q3⟩ := h4
    refine ⟨q1, fun m hm => ?_, ?_⟩
    · have z := q2 m hm
      refine ⟨by rw [e 254 (by decide)]; exact z.1, ?_, by rw [e 257 (by decide), e 246 (by decide)]; exact z.2.2⟩
      have : Ms B m = Ms A m := by funext x; unfold Ms; rw [e 255 (by decide)]
      rw [this]; exact e.t.cl z.2.1
    · rw [e 255 (by decide)]; exact q3
  · obtain ⟨q1, q2⟩ := h5
    refine ⟨q1, fun v hv => ?_⟩
    have z := q2 v hv
    have : Vs B v = Vs A v := by funext x; unfold Vs; rw [e 258 (by decide)]
    rw [this, e 258 (by decide)]
    exact ⟨e.t.cl z.1, z.2⟩
theorem Cl.cur (hI : In1 A N) (h : Cl σ A N nm nv) (e : SaC A B) (hτ : ∀ a b, (∀ s, s < 4 → a ≠ 20 + 40 * s ∨ (b ≠ 6 ∧ b ≠ 8 ∧ b ≠ 9)) → τ a b = σ a b) (hs : ∀ s, s < 4 → τ (20 + 40 * s) 6 = B 250 s ∧ τ (20 + 40 * s) 8 = B 248 s ∧ τ (20 + 40 * s) 9 = B 249 s) : Cl τ B N nm nv := by
  have row : ∀ a, (∀ s, s < 4 → a ≠ 20 + 40 * s) → τ a = σ a := fun a ha => funext fun b => hτ a b (fun s hs => Or.inl (ha s hs))
  have pd : ∀ p, (∀ s, s < 4 → ∀ k, k ≤ 16 → p + k ≠ 20 + 40 * s) → PD σ p N → PD τ p N := fun p hp q k k1 k2 i hi => by
    rw [row _ (fun s hs => hp s hs k k2)]; exact q k k1 k2 i hi
  obtain ⟨h1, h2, h3, h4, ⟨h5, h6, h7⟩, h8, h9, h10⟩ := h
  refine ⟨e.t.tt ⟨fun k k1 k2 i => ?_, h1.2⟩, fun s hs4 => ?_, pd _ (fun s _ k _ => by omega) h3, pd _ (fun s _ k _ => by omega) h4, ⟨?_, ?_, fun m hm => ?_⟩, ?_, ?_, fun v hv a ha => ?_⟩
  · rw [row k (fun s _ => by omega)]; exact h1.1 k k1 k2 i
  · have q := h2 s hs4
    have z := hs s hs4
    unfold ClS at q ⊢
    rw [row (20 + 40 * s + 1) (fun s _ => by omega), row (20 + 40 * s + 2) (fun s _ => by omega), row (20 + 40 * s + 3) (fun s _ => by omega), row (20 + 40 * s + 4) (fun s _ => by omega), hτ (20 + 40 * s) 0 (fun _ _ => Or.inr (by decide)), hτ (20 + 40 * s) 5 (fun _ _ => Or.inr (by decide)), hτ (20 + 40 * s) 7 (fun _ _ => Or.inr (by decide)), e 247 (by decide), e 245 (by decide), e 243 (by decide), e 244 (by decide), e 252 (by decide), e.hs, e.t.doc hI]
    refine ⟨q.1, q.2.1, z.1, q.2.2.2.1, z.2.1, z.2.2, q.2.2.2.2.2.2.1, q.2.2.2.2.2.2.2.1, q.2.2.2.2.2.2.2.2.1, q.2.2.2.2.2.2.2.2.2.1, pd _ (fun s _ k _ => by omega) q.2.2.2.2.2.2.2.2.2.2.1, fun y => ?_⟩
    have p := q.2.2.2.2.2.2.2.2.2.2.2 y
    refine ⟨?_, p.2.1, ?_, fun k k1 k2 i => ?_⟩
    · rw [row _ (fun s _ => by omega)]; exact p.1
    · rw [row _ (fun s _ => by omega)]; exact p.2.2.1
    · rw [row _ (fun s _ => by omega)]; exact p.2.2.2 k k1 k2 i
  · rw [row 0 (fun s _ => by omega)]; exact h5
  · rw [row 2 (fun s _ => by omega)]; exact h6
  · have q := h7 m hm
    unfold ClM at q ⊢
    rw [row (300 + 4 * m) (fun s _ => by omega), row (300 + 4 * m + 2) (fun s _ => by omega), row (300 + 4 * m + 3) (fun s _ => by omega), e 254 (by decide), e 255 (by decide), e 257 (by decide)]
    exact q
  · rw [row 0 (fun s _ => by omega)]; exact h8
  · rw [row 3 (fun s _ => by omega)]; exact h9
  · rw [row _ (fun s _ => by omega), e 258 (by decide)]; exact h10 v hv a ha
end CUR
