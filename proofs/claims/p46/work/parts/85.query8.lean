/-! ===== actAt ===== -/
def mapS {S R U : Type} (mk : R → U) (step : S → Int → R ⊕ S) : S → Int → U ⊕ S := fun s x => match step s x with
  | .inl r => .inl (mk r)
  | .inr t => .inr t
theorem mapS_l {S R U : Type} {mk : R → U} {step : S → Int → R ⊕ S} {s : S} {x : Int} {r : R} (h : step s x = .inl r) : mapS mk step s x = .inl (mk r) := by unfold mapS; rw [h]
theorem mapS_r {S R U : Type} {mk : R → U} {step : S → Int → R ⊕ S} {s t : S} {x : Int} (h : step s x = .inr t) : mapS mk step s x = .inr t := by unfold mapS; rw [h]
theorem runL_map {S R U : Type} (mk : R → U) (step : S → Int → R ⊕ S) (fin : S → R) (L : List Int) : ∀ s, runL (mapS mk step) (fun s => mk (fin s)) s L = mk (runL step fin s L) := by
  induction L with
  | nil => intro s; rfl
  | cons x L ih =>
    intro s
    cases h : step s x with
    | inl r => rw [runL_in (mapS_l h), runL_in h]
    | inr t => rw [runL_go (mapS_r h), runL_go h, ih]
