/-! ===== what hangs on the tables alone ===== -/
def SaT (A B : St) : Prop := ∀ k, 8 ≤ k → k ≤ 16 → B k = A k
section SAME
variable {A B : St} {N : Nat}
theorem SaT.m (e : SaT A B) (x : Int) : mkE B N x = mkE A N x := by
  unfold mkE; rw [e 11 (by decide) (by decide)]
theorem SaT.tv (e : SaT A B) (h : TV A N) : TV B N := by
  unfold TV at h ⊢
  simp only [e.m]
  rw [e 9 (by decide) (by decide), e 10 (by decide) (by decide), e 11 (by decide) (by decide), e 12 (by decide) (by decide), e 13 (by decide) (by decide), e 14 (by decide) (by decide), e 15 (by decide) (by decide)]
  exact h
theorem SaT.ol (e : SaT A B) : OL B N = OL A N := by
  unfold OL; rw [e 16 (by decide) (by decide)]
theorem SaT.k (e : SaT A B) : key B = key A := by
  funext x
  unfold key; rw [e 9 (by decide) (by decide), e 10 (by decide) (by decide)]
theorem SaT.ts (e : SaT A B) (h : TS A N) : TS B N := by
  unfold TS at h ⊢
  rw [e.ol, e.k]; exact h
theorem SaT.tk (e : SaT A B) (h : TK A N) : TK B N := by
  unfold TK at h ⊢
  rw [e.k, e 11 (by decide) (by decide), e 12 (by decide) (by decide), e 13 (by decide) (by decide)]
  exact h
theorem SaT.in1 (e : SaT A B) (h : In1 A N) : In1 B N := by
  obtain ⟨h1, h2, h3, h4, h5, h6, h7⟩ := h
  refine ⟨by rw [e 8 (by decide) (by decide)]; exact h1, h2, by rw [e 8 (by decide) (by decide)]; exact h3, e.tv h4, e.ts h5, e.tk h6, by rw [e 10 (by decide) (by decide)]; exact h7⟩
theorem SaT.cl (e : SaT A B) {S : Int → Bool} (h : clo A N S) : clo B N S := by
  unfold clo at h ⊢
  rw [e 11 (by decide) (by decide), e 12 (by decide) (by decide), e 13 (by decide) (by decide)]; exact h
theorem SaT.nm (e : SaT A B) {x : Int} {L : List Int} (h : nmd A x L) : nmd B x L := by
  unfold nmd at h ⊢
  rw [e 11 (by decide) (by decide), e 12 (by decide) (by decide), e 13 (by decide) (by decide)]; exact h
theorem SaT.cj (e : SaT A B) {L : List Int} (h : clJ A L) : clJ B L := fun L1 x L2 q => e.nm (h L1 x L2 q)
theorem SaT.ext (e : SaT A B) : ExT A B N N := ⟨Nat.le_refl _, fun k k1 k2 i _ => by rw [e k (by omega) (by omega)]⟩
theorem SaT.doc (e : SaT A B) (h : In1 A N) (S : Int → Bool) : docOf B N S = docOf A N S := by
  unfold docOf
  rw [e.ol]
  exact e.ext.doc h.2.2.2.1 (OLf h)
theorem SaT.tt {σ : St} (e : SaT A B) (h : TT A σ N) : TT B σ N := ⟨fun k k1 k2 i => by rw [e k k1 k2]; exact h.1 k k1 k2 i, by rw [e 8 (by decide) (by decide)]; exact h.2⟩
end SAME

