/-! ===== the two halves and what they stand for ===== -/
/-- the acts that x names are in L -/
def nmd (A : St) (x : Int) (L : List Int) : Prop := ((A 11 x.toNat = 0 ∨ A 11 x.toNat = 1) → 0 ≤ A 12 x.toNat → A 12 x.toNat ∈ L) ∧ ((A 11 x.toNat = 2 ∨ A 11 x.toNat = 3 ∨ A 11 x.toNat = 4 ∨ A 11 x.toNat = 7 ∨ A 11 x.toNat = 8 ∨ A 11 x.toNat = 9 ∨ A 11 x.toNat = 11 ∨ A 11 x.toNat = 12) → A 12 x.toNat ∈ L) ∧ ((A 11 x.toNat = 4 ∨ A 11 x.toNat = 7) → A 13 x.toNat ∈ L)
def clJ (A : St) (L : List Int) : Prop := ∀ L1 x L2, L = L1 ++ x :: L2 → nmd A x L1
def Hs (A : St) (s : Nat) (x : Int) : Bool := decide (num x ∧ A 243 (160 * s + x.toNat) ≠ 0)
def Ms (A : St) (m : Nat) (x : Int) : Bool := decide (num x ∧ A 255 (160 * m + x.toNat) ≠ 0)
def Vs (A : St) (v : Nat) (x : Int) : Bool := decide (num x ∧ A 258 (160 * v + x.toNat) ≠ 0)
def JL (A : St) (s : Nat) : List Int := seg (fun i => A 244 (160 * s + i)) 0 (A 245 s).toNat
def curOK (A : St) (N s : Nat) (c : Int) : Prop := c = -1 ∨ (Hs A s c = true ∧ mkE A N c = true)
def In1 (A : St) (N : Nat) : Prop := A 8 8 = (N : Int) ∧ N ≤ 160 ∧ (0 ≤ A 8 9 ∧ A 8 9 ≤ 20) ∧ TV A N ∧ TS A N ∧ TK A N ∧ ∀ a, a < N → A 10 a ≤ (N : Int)
def In2 (A : St) (N s : Nat) : Prop := isB (A 250 s) ∧ (0 ≤ A 247 s ∧ A 247 s ≤ (N : Int)) ∧ 0 ≤ A 245 s ∧ (JL A s).Nodup ∧ (∀ x, x ∈ JL A s → 0 ≤ x ∧ x < (N : Int)) ∧ (∀ a, a < 160 → isB (A 243 (160 * s + a))) ∧ (∀ a : Nat, a < 160 → (A 243 (160 * s + a) ≠ 0 ↔ (a : Int) ∈ JL A s)) ∧ clJ A (JL A s) ∧ (∀ a : Nat, a < N → (A 9 a = (s : Int) ∨ A 243 (160 * s + a) ≠ 0) → A 10 a ≤ A 247 s) ∧ curOK A N s (A 248 s) ∧ curOK A N s (A 249 s) ∧ (0 ≤ A 246 s ∧ A 246 s ≤ A 245 s)
def In3 (A : St) : Prop := ∀ s t, s < 4 → t < 4 → (0 ≤ A 252 (4 * s + t) ∧ A 252 (4 * s + t) ≤ A 246 t) ∧ A 252 (4 * s + s) = A 246 s
def In4 (A : St) (N nm : Nat) : Prop := nm ≤ 80 ∧ (∀ m, m < nm → (0 ≤ A 254 m ∧ A 254 m < 4) ∧ clo A N (Ms A m) ∧ ∀ t, t < 4 → 0 ≤ A 257 (4 * m + t) ∧ A 257 (4 * m + t) ≤ A 246 t) ∧ ∀ m a, m < 80 → a < 160 → isB (A 255 (160 * m + a)) ∧ (A 255 (160 * m + a) ≠ 0 → m < nm ∧ a < N)
def In5 (A : St) (N nv : Nat) : Prop := nv ≤ 10 ∧ ∀ v, v < nv → clo A N (Vs A v) ∧ ∀ a, a < 160 → isB (A 258 (160 * v + a)) ∧ (A 258 (160 * v + a) ≠ 0 → a < N)
def Inv (A : St) (N nm nv : Nat) : Prop := In1 A N ∧ (∀ s, s < 4 → In2 A N s) ∧ In3 A ∧ In4 A N nm ∧ In5 A N nv
/-- a site of the class -/
def ClS (σ A : St) (N s : Nat) : Prop := σ (20 + 40 * s) 0 = (s : Int) ∧ isB (σ (20 + 40 * s) 5) ∧ σ (20 + 40 * s) 6 = A 250 s ∧ σ (20 + 40 * s) 7 = A 247 s ∧ σ (20 + 40 * s) 8 = A 248 s ∧ σ (20 + 40 * s) 9 = A 249 s ∧ σ (20 + 40 * s + 1) 1 = A 245 s ∧ (∀ a, a < 160 → σ (20 + 40 * s + 2) a = A 243 (160 * s + a)) ∧ (∀ i : Nat, (i : Int) < A 245 s → σ (20 + 40 * s + 3) i = A 244 (160 * s + i)) ∧ (∀ t, t < 4 → σ (20 + 40 * s + 4) t = A 252 (4 * s + t)) ∧ PD σ (20 + 40 * s + 10) N ∧ (σ (20 + 40 * s) 5 ≠ 0 → isP σ (20 + 40 * s + 10) (docOf A N (Hs A s)))
def ClM (σ A : St) (m : Nat) : Prop := σ (300 + 4 * m) 0 = A 254 m ∧ (∀ a, a < 160 → σ (300 + 4 * m + 2) a = A 255 (160 * m + a)) ∧ ∀ t, t < 4 → σ (300 + 4 * m + 3) t = A 257 (4 * m + t)
def ClV (σ A : St) (v : Nat) : Prop := ∀ a, a < 160 → σ (700 + 2 * v + 1) a = A 258 (160 * v + a)
def Cl (σ A : St) (N nm nv : Nat) : Prop := TT A σ N ∧ (∀ s, s < 4 → ClS σ A N s) ∧ PD σ 180 N ∧ PD σ 200 N ∧ (σ 0 9 = (nm : Int) ∧ σ 2 0 = (nm : Int) ∧ ∀ m, m < nm → ClM σ A m) ∧ (σ 0 10 = (nv : Int) ∧ σ 3 0 = (nv : Int) ∧ ∀ v, v < nv → ClV σ A v)
/-- the rows that an operation leaves -/
def FrC (σ σ2 : St) : Prop := ∀ a b, 230 ≤ a → a < 300 → σ2 a b = σ a b
theorem FrC.rf {σ : St} : FrC σ σ := fun _ _ _ _ => rfl
theorem FrC.tr {σ σ2 σ3 : St} (h : FrC σ σ2) (h2 : FrC σ2 σ3) : FrC σ σ3 := fun a b h3 h4 => (h2 a b h3 h4).trans (h a b h3 h4)
theorem FrC.upd {σ σ2 : St} {r i : Nat} {v : Int} (h : FrC σ σ2) (hr : r < 230 ∨ 300 ≤ r) : FrC σ (st σ2 r i v) := fun a b h3 h4 => by
  rw [st_ne (by omega)]; exact h a b h3 h4
theorem FrC.ofP {σ σ2 : St} {p : Nat} (h : FrP p σ σ2) (hp : p ≤ 213) : FrC σ σ2 := fun a b h3 h4 => h a (by omega) b
