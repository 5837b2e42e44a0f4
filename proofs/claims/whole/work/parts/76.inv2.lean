/-! ===== the two halves and what they stand for ===== -/
/-- the acts that x names are in L -/
def nmd (A : St) (x : Int) (L : List Int) : Prop := ((A 11 x.toNat = 0 ∨ A 11 x.toNat = 1) → 0 ≤ A 12 x.toNat → A 12 x.toNat ∈ L) ∧ ((A 11 x.toNat = 2 ∨ A 11 x.toNat = 3 ∨ A 11 x.toNat = 4 ∨ A 11 x.toNat = 7 ∨ A 11 x.toNat = 8 ∨ A 11 x.toNat = 9 ∨ A 11 x.toNat = 11 ∨ A 11 x.toNat = 12) → A 12 x.toNat ∈ L) ∧ ((A 11 x.toNat = 4 ∨ A 11 x.toNat = 7) → A 13 x.toNat ∈ L)
def clJ (A : St) (L : List Int) : Prop := ∀ L1 x L2, L = L1 ++ x :: L2 → nmd A x L1
def Hs (A : St) (s : Nat) (x : Int) : Bool := decide (num x ∧ A 243 (160 * s + x.toNat) ≠ 0)
def Ms (A : St) (m : Nat) (x : Int) : Bool := decide (num x ∧ A 255 (160 * m + x.toNat) ≠ 0)
def Vs (A : St) (v : Nat) (x : Int) : Bool := decide (num x ∧ A 258 (160 * v + x.toNat) ≠ 0)
def JL (A : St) (s : Nat) : List Int := seg (fun i => A 244 (160 * s + i)) 0 (A 245 s).toNat
def curOK (A : St) (N s : Nat) (c : Int) : Prop := c = -1 ∨ (Hs A s c = true ∧ mkE A N c = true)
def In1 (A : St) (N : Nat) : Prop := A 8 8 = (N : Int) ∧ N ≤ 160 ∧ (0 ≤ A 8 9 ∧ A 8 9 ≤ 20) ∧ TV A N ∧ TS A N ∧ TK A N ∧ ∀ a, a < N → A 10 a ≤ (N : Int)
def In2 (A : St) (N s : Nat) : Prop := isB (A 250 s) ∧ (0 ≤ A 247 s ∧ A 247 s ≤ (N : Int)) ∧ 0 ≤ A 245 s ∧ (JL A s).Nodup ∧ (∀ x, x ∈ JL A s → 0 ≤ x ∧ x < (N : Int)) ∧ (∀ a, a < 160 → isB (A 243 (160 * s + a))) ∧ (∀ a : Nat, a < 160 → (A 243 (160 * s + a) ≠ 0 ↔ (a : Int) ∈ JL A s)) ∧ clJ A (JL A s) ∧ (∀ a : Nat, a < N → (A 9 a = (s : Int) ∨ A 243 (160 * s + a) ≠ 0) → A 10 a ≤ A 247 s) ∧ curOK A N s (A 248 s) ∧ curOK A N s (A 249 s) ∧ (0 ≤ A 246 s ∧ A 246 s ≤ A 245 s)
def In3 (A : St) : Prop := ∀ s t, s < 4 → t < 4 → (0 ≤ A 252 (4 * s + t) ∧ A 252 (4 * s + t) ≤ A 246 t) ∧ A 252 (4 * s + s) = A 246 s
def In4 (A : St) (N nm : Nat) : Prop := nm ≤ 80 ∧ (∀ m, m < nm → (0 ≤ A 254 m ∧ A 254 m < 4) ∧ clo A N (Ms A m) ∧ ∀ t, t < 4 → 0 ≤ A 257 (4 * m + t) ∧ A 257 (4 * m + t) ≤ A 246 t) ∧ ∀ m a, m < 80 → a < 160 → isB (A 255 (160 * m + a)) ∧ (A 255 (160 * m + a) ≠ 0 → m < nm ∧ a < N)
def In5 (A : St) (N nv : Nat) : Prop := nv ≤ 10 ∧ ∀ v, v < nv → clo A N (Vs A v) ∧ ∀ a, a < 160 → isB (A 258 (160 * v + a)) ∧ (A 258 (160 * v + a) ≠ 0 → a < N)
def Inv (A : St) (N nm nv : Nat) : Prop := In1 A N ∧ (∀ s, s < 4 → In2 A N s) ∧ In3 A ∧ In4 A N nm ∧ In5 A N nv
/-- a site of the class -/
def ClS (σ A : St) (N s : Nat) : Prop := σ (20 + 40 * s) 0 = (s : Int) ∧ isB (σ (20 + 40 * s) 5) ∧ σ (20 + 40 * s) 6 = A 250 s ∧ σ (20 + 40 * s) 7 = A 247 s ∧ σ (20 + 40 * s) 8 = A 248 s ∧ σ (20 + 40 * s) 9 = A 249 s ∧ σ (20 + 40 * s + 1) 1 = A 245 s ∧ (∀ a, a < 160 → σ (20 + 40 * s + 2) a = A 243 (160 * s + a)) ∧ (∀ i : Nat, (i : Int) < A 245 s → σ (20 + 40 * s + 3) i = A 244 (160 * s + i)) ∧ (∀ t, t < 4 → σ (20 + 40 * s + 4) t = A 252 (4 * s + t)) ∧ PD σ (20 + 40 * s + 10) N ∧ (σ (20 + 40 * s) 5 ≠ 0 → isP σ (20 + 40 * s + 10) (docOf A N (Hs A s)))
def ClM (σ A : St) (m : Nat) : Prop := σ (300 + 4 * m) 0 = A 254 m ∧ (∀ a, a < 160 → σ (300 + 4 * m + 2) a = A 255 (160 * m + a)) ∧ ∀ t, t < 4 → σ (300 + 4 * m + 3) t = A 257 (4 * m + t)
def ClV (σ A : St) (v : Nat) : Prop := ∀ a, a < 160 → σ (700 + 2 * v + 1) a = A 258 (160 * v + a)
def Cl (σ A : St) (N nm nv : Nat) : Prop := TT A σ N ∧ (∀ s, s < 4 → ClS σ A N s) ∧ PD σ 180 N ∧ PD σ 200 N ∧ (σ 0 9 = (nm : Int) ∧ σ 2 0 = (nm : Int) ∧ ∀ m, m < nm → ClM σ A m) ∧ (σ 0 10 = (nv : Int) ∧ σ 3 0 = (nv : Int) ∧ ∀ v, v < nv → ClV σ A v)
/-- the reference -/
def ReK (σ A : St) : Prop := ∀ s t a, s < 4 → t < 4 → a < 160 → isB (σ 251 (640 * s + 160 * t + a)) ∧ ((σ 251 (640 * s + 160 * t + a) ≠ 0 ∨ (s = t ∧ (a : Int) ∈ (JL A s).take (A 246 s).toNat)) ↔ (a : Int) ∈ (JL A t).take (A 252 (4 * s + t)).toNat)
def ReM (σ A : St) (nm : Nat) : Prop := (∀ m, m < nm → σ 254 m = A 254 m) ∧ (∀ m a, m < 80 → a < 160 → σ 255 (160 * m + a) = A 255 (160 * m + a)) ∧ ∀ m t a, m < 80 → t < 4 → a < 160 → isB (σ 256 (640 * m + 160 * t + a)) ∧ (σ 256 (640 * m + 160 * t + a) ≠ 0 ↔ m < nm ∧ (a : Int) ∈ (JL A t).take (A 257 (4 * m + t)).toNat)
def ReS (σ A : St) (s : Nat) : Prop := (∀ r, 245 ≤ r → r ≤ 250 → σ r s = A r s) ∧ (∀ a, a < 160 → σ 243 (160 * s + a) = A 243 (160 * s + a)) ∧ ∀ a, a < 160 → σ 244 (160 * s + a) = A 244 (160 * s + a)
def Re (σ A : St) (N nm nv : Nat) : Prop := RT A σ N ∧ σ 230 10 = A 8 9 ∧ (∀ s, s < 4 → ReS σ A s) ∧ ReK σ A ∧ (σ 230 21 = (nm : Int) ∧ ReM σ A nm) ∧ (σ 230 26 = (nv : Int) ∧ ∀ v a, v < nv → a < 160 → σ 258 (160 * v + a) = A 258 (160 * v + a))
/-- the rows that an operation leaves -/
def FrC (σ σ2 : St) : Prop := ∀ a b, 230 ≤ a → a < 290 → σ2 a b = σ a b
def FrR (σ σ2 : St) : Prop := ∀ a b, (a < 230 ∨ 276 ≤ a) → σ2 a b = σ a b
def Rel (nm nv : Nat) (σ : St) : Prop := ∃ A N, Inv A N nm nv ∧ Cl σ A N nm nv ∧ Re σ A N nm nv
theorem FrC.rf {σ : St} : FrC σ σ := fun _ _ _ _ => rfl
theorem FrC.tr {σ σ2 σ3 : St} (h : FrC σ σ2) (h2 : FrC σ2 σ3) : FrC σ σ3 := fun a b h3 h4 => (h2 a b h3 h4).trans (h a b h3 h4)
theorem FrC.upd {σ σ2 : St} {r i : Nat} {v : Int} (h : FrC σ σ2) (hr : r < 230 ∨ 290 ≤ r) : FrC σ (st σ2 r i v) := fun a b h3 h4 => by
  rw [st_ne (by omega)]; exact h a b h3 h4
theorem FrC.ofP {σ σ2 : St} {p : Nat} (h : FrP p σ σ2) (hp : p ≤ 213) : FrC σ σ2 := fun a b h3 h4 => h a (by omega) b
theorem FrR.rf {σ : St} : FrR σ σ := fun _ _ _ => rfl
theorem FrR.tr {σ σ2 σ3 : St} (h : FrR σ σ2) (h2 : FrR σ2 σ3) : FrR σ σ3 := fun a b h3 => (h2 a b h3).trans (h a b h3)
theorem FrR.upd {σ σ2 : St} {r i : Nat} {v : Int} (h : FrR σ σ2) (hr : 230 ≤ r ∧ r < 276) : FrR σ (st σ2 r i v) := fun a b h3 => by
  rw [st_ne (by omega)]; exact h a b h3
theorem FrR.ofF {σ σ2 : St} (h : FrF σ σ2) : FrR σ σ2 := fun a b h3 => h a b (by omega) (by omega)
theorem FrR.ofO {σ σ2 : St} (h : FrO σ σ2) : FrR σ σ2 := fun a b h3 => h a b (by omega) (by omega)
/-- what the reference's scratch rows hold is no part of it -/
def FrS (σ σ2 : St) : Prop := ∀ a b, (a < 259 ∨ 276 ≤ a) → (a ≠ 230 ∨ (b ≠ 0 ∧ b ≠ 29 ∧ b ≠ 32)) → σ2 a b = σ a b
theorem FrS.ofF {σ σ2 : St} (h : FrF σ σ2) : FrS σ σ2 := fun a b h3 h4 => h a b (by omega) (by omega)
theorem FrS.ofO {σ σ2 : St} (h : FrO σ σ2) : FrS σ σ2 := fun a b h3 h4 => h a b (by omega) (by omega)
theorem FrS.rf {σ : St} : FrS σ σ := fun _ _ _ _ => rfl
theorem FrS.tr {σ σ2 σ3 : St} (h : FrS σ σ2) (h2 : FrS σ2 σ3) : FrS σ σ3 := fun a b h3 h4 => (h2 a b h3 h4).trans (h a b h3 h4)
theorem FrS.upd {σ σ2 : St} {r i : Nat} {v : Int} (h : FrS σ σ2) (hr : 259 ≤ r ∧ r < 276) : FrS σ (st σ2 r i v) := fun a b h3 h4 => by
  rw [st_ne (by omega)]; exact h a b h3 h4
theorem FrS.up0 {σ σ2 : St} {v : Int} (h : FrS σ σ2) : FrS σ (st σ2 230 0 v) := fun a b h3 h4 => by
  by_cases q : a = 230
  · subst q; rw [st_row, if_neg (by omega)]; exact h 230 b h3 h4
  · rw [st_ne q]; exact h a b h3 h4
theorem FrS.R {σ σ2 : St} (h : FrS σ σ2) : FrR σ σ2 := fun a b h3 => h a b (by omega) (by omega)
theorem RT.frs {T σ σ2 : St} {N : Nat} (h : RT T σ N) (hf : FrS σ σ2) : RT T σ2 N := by
  refine ⟨by rw [hf 230 1 (by decide) (by decide)]; exact h.1, fun a ha => ?_⟩
  rw [hf 233 a (by omega) (by omega), hf 234 a (by omega) (by omega), hf 235 a (by omega) (by omega), hf 236 a (by omega) (by omega), hf 237 a (by omega) (by omega), hf 238 a (by omega) (by omega), hf 239 a (by omega) (by omega), hf 240 a (by omega) (by omega), hf 242 a (by omega) (by omega)]
  exact h.2 a ha
theorem Re.fr {σ σ2 A : St} {N nm nv : Nat} (h : Re σ A N nm nv) (hf : FrS σ σ2) : Re σ2 A N nm nv := by
  obtain ⟨h1, h2, h3, h4, ⟨h5, h6, h7, h8⟩, h9, h10⟩ := h
  refine ⟨h1.frs hf, ?_, fun s hs => ?_, fun s t a hs ht ha => ?_, ⟨?_, fun m hm => ?_, fun m a hm ha => ?_, fun m t a hm ht ha => ?_⟩, ?_, fun v a hv ha => ?_⟩
  · rw [hf 230 10 (by decide) (by decide)]; exact h2
  · obtain ⟨q1, q2, q3⟩ := h3 s hs
    refine ⟨fun r r1 r2 => ?_, fun a ha => ?_, fun a ha => ?_⟩
    · rw [hf r s (by omega) (by omega)]; exact q1 r r1 r2
    · rw [hf 243 _ (by omega) (by omega)]; exact q2 a ha
    · rw [hf 244 _ (by omega) (by omega)]; exact q3 a ha
  · rw [hf 251 _ (by omega) (by omega)]; exact h4 s t a hs ht ha
  · rw [hf 230 21 (by decide) (by decide)]; exact h5
  · rw [hf 254 _ (by omega) (by omega)]; exact h6 m hm
  · rw [hf 255 _ (by omega) (by omega)]; exact h7 m a hm ha
  · rw [hf 256 _ (by omega) (by omega)]; exact h8 m t a hm ht ha
  · rw [hf 230 26 (by decide) (by decide)]; exact h9
  · rw [hf 258 _ (by omega) (by omega)]; exact h10 v a hv ha
/-- the class's operations leave the reference as it is -/
theorem Re.frC {σ σ2 A : St} {N nm nv : Nat} (h : Re σ A N nm nv) (hf : FrC σ σ2) : Re σ2 A N nm nv := by
  obtain ⟨h1, h2, h3, h4, ⟨h5, h6, h7, h8⟩, h9, h10⟩ := h
  refine ⟨⟨?_, fun a ha => ?_⟩, ?_, fun s hs => ?_, fun s t a hs ht ha => ?_, ⟨?_, fun m hm => ?_, fun m a hm ha => ?_, fun m t a hm ht ha => ?_⟩, ?_, fun v a hv ha => ?_⟩
  · rw [hf 230 1 (by decide) (by decide)]; exact h1.1
  · rw [hf 233 a (by omega) (by omega), hf 234 a (by omega) (by omega), hf 235 a (by omega) (by omega), hf 236 a (by omega) (by omega), hf 237 a (by omega) (by omega), hf 238 a (by omega) (by omega), hf 239 a (by omega) (by omega), hf 240 a (by omega) (by omega), hf 242 a (by omega) (by omega)]
    exact h1.2 a ha
  · rw [hf 230 10 (by decide) (by decide)]; exact h2
  · obtain ⟨q1, q2, q3⟩ := h3 s hs
    refine ⟨fun r r1 r2 => ?_, fun a ha => ?_, fun a ha => ?_⟩
    · rw [hf r s (by omega) (by omega)]; exact q1 r r1 r2
    · rw [hf 243 _ (by omega) (by omega)]; exact q2 a ha
    · rw [hf 244 _ (by omega) (by omega)]; exact q3 a ha
  · rw [hf 251 _ (by omega) (by omega)]; exact h4 s t a hs ht ha
  · rw [hf 230 21 (by decide) (by decide)]; exact h5
  · rw [hf 254 _ (by omega) (by omega)]; exact h6 m hm
  · rw [hf 255 _ (by omega) (by omega)]; exact h7 m a hm ha
  · rw [hf 256 _ (by omega) (by omega)]; exact h8 m t a hm ht ha
  · rw [hf 230 26 (by decide) (by decide)]; exact h9
  · rw [hf 258 _ (by omega) (by omega)]; exact h10 v a hv ha
/-- the reference's operations leave the class as it is -/
theorem Cl.frR {σ σ2 A : St} {N nm nv : Nat} (h : Cl σ A N nm nv) (hf : FrR σ σ2) (hm : nm ≤ 80) (hv : nv ≤ 10) : Cl σ2 A N nm nv := by
  have e : ∀ a, (a < 230 ∨ 276 ≤ a) → σ2 a = σ a := fun a ha => funext fun b => hf a b ha
  have pd : ∀ p, p ≤ 213 → PD σ p N → PD σ2 p N := fun p hp q k k1 k2 i hi => by rw [e _ (by omega)]; exact q k k1 k2 i hi
  obtain ⟨h1, h2, h3, h4, ⟨h5, h6, h7⟩, h8, h9, h10⟩ := h
  refine ⟨⟨fun k k1 k2 i => ?_, h1.2⟩, fun s hs => ?_, pd _ (by decide) h3, pd _ (by decide) h4, ⟨?_, ?_, fun m hm => ?_⟩, ?_, ?_, fun v hv a ha => ?_⟩
  · rw [e k (by omega)]; exact h1.1 k k1 k2 i
  · have := h2 s hs
    unfold ClS at this ⊢
    rw [e (20 + 40 * s) (by omega), e (20 + 40 * s + 1) (by omega), e (20 + 40 * s + 2) (by omega), e (20 + 40 * s + 3) (by omega), e (20 + 40 * s + 4) (by omega)]
    refine ⟨this.1, this.2.1, this.2.2.1, this.2.2.2.1, this.2.2.2.2.1, this.2.2.2.2.2.1, this.2.2.2.2.2.2.1, this.2.2.2.2.2.2.2.1, this.2.2.2.2.2.2.2.2.1, this.2.2.2.2.2.2.2.2.2.1, pd _ (by omega) this.2.2.2.2.2.2.2.2.2.2.1, fun q => ?_⟩
    have p := this.2.2.2.2.2.2.2.2.2.2.2 q
    refine ⟨?_, p.2.1, ?_, fun k k1 k2 i => ?_⟩
    · rw [e _ (by omega)]; exact p.1
    · rw [e _ (by omega)]; exact p.2.2.1
    · rw [e _ (by omega)]; exact p.2.2.2 k k1 k2 i
  · rw [e 0 (by decide)]; exact h5
  · rw [e 2 (by decide)]; exact h6
  · have := h7 m hm
    unfold ClM at this ⊢
    rw [e (300 + 4 * m) (by omega), e (300 + 4 * m + 2) (by omega), e (300 + 4 * m + 3) (by omega)]
    exact this
  · rw [e 0 (by decide)]; exact h8
  · rw [e 3 (by decide)]; exact h9
  · rw [e _ (by omega)]; exact h10 v hv a ha
