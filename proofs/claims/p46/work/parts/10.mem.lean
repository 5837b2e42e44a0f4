/-! ===== the memory by ids: numbers as integers, arrays and objects by number ===== -/
abbrev St : Type := Nat → Nat → Int
abbrev inR (x : Int) : Prop := -2147483648 ≤ x ∧ x ≤ 2147483647
abbrev isB (x : Int) : Prop := x = 0 ∨ x = 1
def i32 (x : Int) : Int32 := Int32.ofInt x
theorem i32_toInt {x : Int} (h : inR x) : (i32 x).toInt = x := Int32.toInt_ofInt_of_le (by have := h.1; omega) (by have := h.2; omega)
theorem i32_of (x : Int32) : i32 x.toInt = x := Int32.ofInt_toInt x
theorem i32_inR (x : Int32) : inR x.toInt := ⟨by have := Int32.le_toInt x; omega, by have := Int32.toInt_lt x; omega⟩
theorem i32_lt {x y : Int} (hx : inR x) (hy : inR y) : i32 x < i32 y ↔ x < y := by rw [Int32.lt_iff_toInt_lt, i32_toInt hx, i32_toInt hy]
theorem i32_le {x y : Int} (hx : inR x) (hy : inR y) : i32 x ≤ i32 y ↔ x ≤ y := by rw [Int32.le_iff_toInt_le, i32_toInt hx, i32_toInt hy]
theorem i32_eq {x y : Int} (hx : inR x) (hy : inR y) : i32 x = i32 y ↔ x = y := by
  rw [← Int32.toInt_inj, i32_toInt hx, i32_toInt hy]
theorem i32_add (x y : Int) : i32 x + i32 y = i32 (x + y) := (Int32.ofInt_add x y).symm
theorem i32_sub (x y : Int) : i32 x - i32 y = i32 (x - y) := (Int32.ofInt_sub x y).symm
theorem i32_mul (x y : Int) : i32 x * i32 y = i32 (x * y) := (Int32.ofInt_mul x y).symm
theorem i32_neg (x : Int) : -(i32 x) = i32 (-x) := (Int32.ofInt_neg x).symm
theorem i32_clamp {x : Int} (h : inR x) : (i32 x).toNatClampNeg = x.toNat := by
  show (i32 x).toInt.toNat = x.toNat
  rw [i32_toInt h]
theorem i32_in {x : Int} {n : Nat} (h : inR x) : vp_in (i32 x) n ↔ 0 ≤ x ∧ x < n := by rw [vp_in_iff, i32_toInt h]
def band (x y : Int) : Int := (i32 x &&& i32 y).toInt
def bor (x y : Int) : Int := (i32 x ||| i32 y).toInt
def bxor (x y : Int) : Int := (i32 x ^^^ i32 y).toInt
def bshl (x y : Int) : Int := (i32 x <<< (i32 y &&& 31)).toInt
def bshr (x y : Int) : Int := (i32 x >>> (i32 y &&& 31)).toInt
def st (σ : St) (c i : Nat) (v : Int) : St := fun a b => if a = c then (if b = i then v else σ a b) else σ a b
theorem st_ne {σ : St} {c i : Nat} {v : Int} {a b : Nat} (h : a ≠ c) : st σ c i v a b = σ a b := if_neg h
theorem st_row {σ : St} {c i : Nat} {v : Int} (b : Nat) : st σ c i v c b = if b = i then v else σ c b := if_pos rfl
/-- a copied stretch within one row -/
def cpy (σ : St) (c sp dp n : Nat) : St := fun a b => if a = c then (if dp ≤ b ∧ b < dp + n then σ c (sp + (b - dp)) else σ a b) else σ a b
-- the steps of the pure programs: what is not safe is none
def rd {β : Type} (σ : St) (a n : Nat) (i : Int) (k : Int → Option β) : Option β := if 0 ≤ i ∧ i < (n : Int) then k (σ a i.toNat) else none
def wr {β : Type} (σ : St) (a n : Nat) (i v : Int) (k : St → Option β) : Option β := if 0 ≤ i ∧ i < (n : Int) then k (st σ a i.toNat v) else none
def wrb {β : Type} (σ : St) (a n : Nat) (i v : Int) (k : St → Option β) : Option β := if (0 ≤ i ∧ i < (n : Int)) ∧ isB v then k (st σ a i.toNat v) else none
def pf {β : Type} (σ : St) (a i : Nat) (v : Int) (k : St → Option β) : Option β := k (st σ a i v)
def pfb {β : Type} (σ : St) (a i : Nat) (v : Int) (k : St → Option β) : Option β := if isB v then k (st σ a i v) else none
def ck {β : Type} (v : Int) (k : Int → Option β) : Option β := if inR v then k v else none
def vl {β : Type} (v : Int) (k : Int → Option β) : Option β := k v
def rb {β : Type} (v : Int) (k : Option β) : Option β := if isB v then k else none
def rc {β : Type} (v : Int) (k : Option β) : Option β := if 0 ≤ v ∧ v < 65536 then k else none
def cp {β : Type} (σ : St) (a n : Nat) (sp dp len : Int) (k : St → Option β) : Option β := if 0 ≤ sp ∧ 0 ≤ dp ∧ 0 ≤ len ∧ sp + len ≤ (n : Int) ∧ dp + len ≤ (n : Int) then k (cpy σ a sp.toNat dp.toNat len.toNat) else none
def b1 {α β : Type} (m : Option α) (k : α → Option β) : Option β := match m with | none => none | some v => k v
def b2 {α β : Type} (m : Option (α × St)) (k : α → St → Option β) : Option β := match m with | none => none | some v => k v.1 v.2
def x1 {α β : Type} (m : Option (Nat × α)) (e : Nat → Option β) (k : α → Option β) : Option β := match m with | none => none | some (0, v) => k v | some (c + 1, _) => e (c + 1)
def x2 {α β : Type} (m : Option (Nat × α × St)) (e : Nat → St → Option β) (k : α → St → Option β) : Option β := match m with | none => none | some (0, v, s) => k v s | some (c + 1, _, s) => e (c + 1) s
def ra {β : Type} (i : Int) (n : Nat) (f : Nat → Nat) (k : Nat → Option β) : Option β := if 0 ≤ i ∧ i < (n : Int) then k (f i.toNat) else none
def rn {β : Type} (i : Int) (n : Nat) (c : Int) (f : Nat → Nat) (z : Option β) (k : Nat → Option β) : Option β := if 0 ≤ i ∧ i < (n : Int) then (if i < c then k (f i.toNat) else z) else none
/-- a loop, by fuel -/
def lpR {τ : Type} (bot : τ) (F : τ → τ) : Nat → τ
  | 0 => bot
  | k + 1 => F (lpR bot F k)
def imax (x y : Int) : Int := if x < y then y else x
def imin (x y : Int) : Int := if y < x then y else x
def zw {α : Type} (m : Option (Nat × α × St)) : Option (α × St) := match m with | some (0, v, s) => some (v, s) | _ => none
/-- a call that may throw: what it throws goes on -/
def xw {α β : Type} (d : β) (m : Option (Nat × α × St)) (k : α → St → Option (Nat × β × St)) : Option (Nat × β × St) := match m with | none => none | some (0, v, s) => k v s | some (c + 1, _, s) => some (c + 1, d, s)
-- where the cells lie: kinds and lengths of the ids (1 int[], 2 boolean[], 3 long[], 4 to 7 arrays of references, 10 + class for objects)
def kdT : List Nat := [15, 4, 5, 6, 1, 1, 10, 2, 11, 1, 1, 1, 1, 1, 1, 2, 1, 0, 0, 0, 14, 10, 2, 1, 1, 0, 0, 0, 0, 0, 13, 0, 1, 0, 1, 2, 2, 1, 2, 2, 1, 1, 7, 1, 1, 1, 1, 0, 0, 0, 0, 0, 0, 0, 0, 0, 0, 0, 0, 0, 14, 10, 2, 1, 1, 0, 0, 0, 0, 0, 13, 0, 1, 0, 1, 2, 2, 1, 2, 2, 1, 1, 7, 1, 1, 1, 1, 0, 0, 0, 0, 0, 0, 0, 0, 0, 0, 0, 0, 0, 14, 10, 2, 1, 1, 0, 0, 0, 0, 0, 13, 0, 1, 0, 1, 2, 2, 1, 2, 2, 1, 1, 7, 1, 1, 1, 1, 0, 0, 0, 0, 0, 0, 0, 0, 0, 0, 0, 0, 0, 14, 10, 2, 1, 1, 0, 0, 0, 0, 0, 13, 0, 1, 0, 1, 2, 2, 1, 2, 2, 1, 1, 7, 1, 1, 1, 1, 0, 0, 0, 0, 0, 0, 0, 0, 0, 0, 0, 0, 0, 13, 0, 1, 0, 1, 2, 2, 1, 2, 2, 1, 1, 7, 1, 1, 1, 1, 0, 0, 0, 13, 0, 1, 0, 1, 2, 2, 1, 2, 2, 1, 1, 7, 1, 1, 1, 1, 0, 0, 0, 0, 0, 0, 0, 0, 0, 0, 0, 0, 0, 0, 0, 0, 0, 0, 0, 0, 0, 0, 0, 0, 0, 0, 0, 0, 0, 0, 0, 0, 0, 0, 0, 0, 0, 0, 0, 0, 0, 0, 0, 0, 0, 0, 0, 0, 0, 0, 0, 0, 0, 0, 0, 0, 0, 0, 0, 0, 0, 0, 0, 0, 0, 0, 0, 0, 0, 0, 0, 0, 0, 1, 0, 0, 0, 0, 0, 0, 0, 0, 0]
def lnT : List Nat := [0, 4, 80, 10, 160, 160, 0, 160, 0, 160, 160, 160, 160, 160, 160, 160, 160, 0, 0, 0, 0, 0, 160, 160, 4, 0, 0, 0, 0, 0, 0, 0, 160, 0, 160, 160, 160, 160, 160, 160, 161, 161, 4, 161, 161, 161, 161, 0, 0, 0, 0, 0, 0, 0, 0, 0, 0, 0, 0, 0, 0, 0, 160, 160, 4, 0, 0, 0, 0, 0, 0, 0, 160, 0, 160, 160, 160, 160, 160, 160, 161, 161, 4, 161, 161, 161, 161, 0, 0, 0, 0, 0, 0, 0, 0, 0, 0, 0, 0, 0, 0, 0, 160, 160, 4, 0, 0, 0, 0, 0, 0, 0, 160, 0, 160, 160, 160, 160, 160, 160, 161, 161, 4, 161, 161, 161, 161, 0, 0, 0, 0, 0, 0, 0, 0, 0, 0, 0, 0, 0, 0, 0, 160, 160, 4, 0, 0, 0, 0, 0, 0, 0, 160, 0, 160, 160, 160, 160, 160, 160, 161, 161, 4, 161, 161, 161, 161, 0, 0, 0, 0, 0, 0, 0, 0, 0, 0, 0, 0, 0, 0, 0, 160, 0, 160, 160, 160, 160, 160, 160, 161, 161, 4, 161, 161, 161, 161, 0, 0, 0, 0, 0, 160, 0, 160, 160, 160, 160, 160, 160, 161, 161, 4, 161, 161, 161, 161, 0, 0, 0, 0, 0, 0, 0, 0, 0, 0, 0, 0, 0, 0, 0, 0, 0, 0, 0, 0, 0, 0, 0, 0, 0, 0, 0, 0, 0, 0, 0, 0, 0, 0, 0, 0, 0, 0, 0, 0, 0, 0, 0, 0, 0, 0, 0, 0, 0, 0, 0, 0, 0, 0, 0, 0, 0, 0, 0, 0, 0, 0, 0, 0, 0, 0, 0, 0, 0, 0, 0, 0, 0, 4, 0, 0, 0, 0, 0, 0, 0, 0, 0]
def kd (i : Nat) : Nat := if i < 300 then kdT.getD i 0 else if i < 620 then (match (i - 300) % 4 with | 0 => 12 | 1 => 10 | 2 => 2 | _ => 1) else if 700 ≤ i ∧ i < 722 then (match (i - 700) % 2 with | 0 => 10 | _ => 2) else 0
def ln (i : Nat) : Nat := if i < 300 then lnT.getD i 0 else if i < 620 then (match (i - 300) % 4 with | 2 => 160 | 3 => 4 | _ => 0) else if 700 ≤ i ∧ i < 722 then (match (i - 700) % 2 with | 1 => 160 | _ => 0) else 0
theorem lnT_le : ∀ x ∈ lnT, x ≤ 51200 := by decide +kernel
theorem getD_le {L : List Nat} {b : Nat} (h : ∀ x, x ∈ L → x ≤ b) (i : Nat) : L.getD i 0 ≤ b := by
  rw [List.getD_eq_getElem?_getD]
  generalize hq : L[i]? = q
  cases q with
  | none => exact Nat.zero_le b
  | some x =>
    have hm := List.mem_of_getElem? hq
    exact h x hm
theorem lnT_getD (i : Nat) : lnT.getD i 0 ≤ 51200 := getD_le lnT_le i
theorem ln_le (i : Nat) : ln i ≤ 51200 := by
  have h := lnT_getD i
  unfold ln
  generalize lnT.getD i 0 = z at h
  repeat' (first | omega | split)
theorem ln_inR (i : Nat) : inR ((ln i : Nat) : Int) := by have := ln_le i; exact ⟨by omega, by omega⟩
def ent (cy : Nat → ClassId) (ad : Nat → Nat) (σ : St) (id : Nat) : va_E := match kd id with
  | 1 => .inl (cy 1, ln id, .inl (fun j => i32 (σ id j)))
  | 2 => .inl (cy 2, ln id, .inl (fun j => i32 (σ id j)))
  | 3 => .inl (cy 3, ln id, .inr (.inl (fun j => Int64.ofInt (σ id j))))
  | 4 => .inl (cy 4, ln id, .inr (.inr (.inr (.inr (fun j => if j < 4 then some (ad (20 + 40 * j)) else none)))))
  | 5 => .inl (cy 5, ln id, .inr (.inr (.inr (.inr (fun j => if (j : Int) < σ id 0 then some (ad (300 + 4 * j)) else none)))))
  | 6 => .inl (cy 6, ln id, .inr (.inr (.inr (.inr (fun j => if (j : Int) < σ id 0 then some (ad (700 + 2 * j)) else none)))))
  | 7 => .inl (cy 7, ln id, .inr (.inr (.inr (.inr (fun j => if j < 4 then some (ad (id + 1 + j)) else none)))))
  | 10 => .inr (0, [.ref (ad (id + 1)), .int (i32 (σ id 1))])
  | 11 => .inr (1, [.ref (ad 9), .ref (ad 10), .ref (ad 11), .ref (ad 12), .ref (ad 13), .ref (ad 14), .ref (ad 15), .ref (ad 16), .int (i32 (σ id 8)), .int (i32 (σ id 9))])
  | 12 => .inr (2, [.int (i32 (σ id 0)), .ref (ad (id + 1)), .ref (ad (id + 3))])
  | 13 => .inr (3, [.ref (ad 8), .ref (ad (id + 2)), .int (i32 (σ id 2)), .ref (ad (id + 4)), .ref (ad (id + 5)), .ref (ad (id + 6)), .ref (ad (id + 7)), .ref (ad (id + 8)), .ref (ad (id + 9)), .ref (ad (id + 10)), .ref (ad (id + 11)), .ref (ad (id + 12))])
  | 14 => .inr (4, [.int (i32 (σ id 0)), .ref (ad (id + 1)), .ref (ad (id + 3)), .ref (ad (id + 4)), .ref (ad (id + 10)), .int (i32 (σ id 5)), .int (i32 (σ id 6)), .int (i32 (σ id 7)), .int (i32 (σ id 8)), .int (i32 (σ id 9))])
  | 15 => .inr (5, [.ref (ad 8), .ref (ad 1), .ref (ad 2), .ref (ad 3), .ref (ad 180), .ref (ad 200), .ref (ad 6), .ref (ad 4), .ref (ad 5), .int (i32 (σ id 9)), .int (i32 (σ id 10))])
  | _ => .inr (99, [])
def idl0 : List Nat := (List.range 300).filter (fun i => kdT.getD i 0 != 0)
def idl (nm nv : Nat) : List Nat := idl0 ++ ((List.range (4 * nm)).map (fun j => 300 + j) ++ (List.range (2 * nv)).map (fun j => 700 + j))
theorem mem00 {id : Nat} (h : (decide (id < 300) && (kdT.getD id 0 != 0)) = true) : id ∈ idl0 := by
  rw [Bool.and_eq_true] at h
  exact List.mem_filter.mpr ⟨List.mem_range.mpr (of_decide_eq_true h.1), h.2⟩
theorem mem0 {nm nv id : Nat} (h : id ∈ idl0) : id ∈ idl nm nv := List.mem_append_left _ h
theorem memM {nm nv i k : Nat} (hi : i < nm) (hk : k < 4) : 300 + 4 * i + k ∈ idl nm nv := List.mem_append_right _ (List.mem_append_left _ (List.mem_map.mpr ⟨4 * i + k, List.mem_range.mpr (by omega), by omega⟩))
theorem memV {nm nv i k : Nat} (hi : i < nv) (hk : k < 2) : 700 + 2 * i + k ∈ idl nm nv := List.mem_append_right _ (List.mem_append_right _ (List.mem_map.mpr ⟨2 * i + k, List.mem_range.mpr (by omega), by omega⟩))
def arrOK (nm nv id k n : Nat) : Prop := id ∈ idl nm nv ∧ kd id = k ∧ ln id = n
theorem arrL {nm nv id k n : Nat} (h : arrOK nm nv id k n) : arrOK nm nv id k (ln id) := ⟨h.1, h.2.1, rfl⟩
def objOK (nm nv id k : Nat) : Prop := id ∈ idl nm nv ∧ kd id = k
abbrev isPaper (p : Nat) : Prop := p = 30 ∨ p = 70 ∨ p = 110 ∨ p = 150 ∨ p = 180 ∨ p = 200
abbrev isSite (s : Nat) : Prop := s = 20 ∨ s = 60 ∨ s = 100 ∨ s = 140
abbrev isMsg (nm w : Nat) : Prop := ∃ i, i < nm ∧ i < 80 ∧ w = 300 + 4 * i
abbrev isSet (nm nv a : Nat) : Prop := a ∈ [6, 21, 61, 101, 141] ∨ (∃ i, i < nm ∧ i < 80 ∧ a = 301 + 4 * i) ∨ ∃ i, i < nv ∧ i < 11 ∧ a = 700 + 2 * i
theorem kdM0 {i : Nat} (h : i < 80) : kd (300 + 4 * i + 0) = 12 ∧ ln (300 + 4 * i + 0) = 0 := by
  have e : (300 + 4 * i + 0 - 300) % 4 = 0 := by omega
  have h1 : ¬ (300 + 4 * i + 0 < 300) := by omega
  have h2 : 300 + 4 * i + 0 < 620 := by omega
  constructor
  · unfold kd; rw [if_neg h1, if_pos h2, e]; rfl
  · unfold ln; rw [if_neg h1, if_pos h2, e]; rfl
theorem kdM1 {i : Nat} (h : i < 80) : kd (300 + 4 * i + 1) = 10 ∧ ln (300 + 4 * i + 1) = 0 := by
  have e : (300 + 4 * i + 1 - 300) % 4 = 1 := by omega
  have h1 : ¬ (300 + 4 * i + 1 < 300) := by omega
  have h2 : 300 + 4 * i + 1 < 620 := by omega
  constructor
  · unfold kd; rw [if_neg h1, if_pos h2, e]; rfl
  · unfold ln; rw [if_neg h1, if_pos h2, e]; rfl
theorem kdM2 {i : Nat} (h : i < 80) : kd (300 + 4 * i + 2) = 2 ∧ ln (300 + 4 * i + 2) = 160 := by
  have e : (300 + 4 * i + 2 - 300) % 4 = 2 := by omega
  have h1 : ¬ (300 + 4 * i + 2 < 300) := by omega
  have h2 : 300 + 4 * i + 2 < 620 := by omega
  constructor
  · unfold kd; rw [if_neg h1, if_pos h2, e]; rfl
  · unfold ln; rw [if_neg h1, if_pos h2, e]; rfl
theorem kdM3 {i : Nat} (h : i < 80) : kd (300 + 4 * i + 3) = 1 ∧ ln (300 + 4 * i + 3) = 4 := by
  have e : (300 + 4 * i + 3 - 300) % 4 = 3 := by omega
  have h1 : ¬ (300 + 4 * i + 3 < 300) := by omega
  have h2 : 300 + 4 * i + 3 < 620 := by omega
  constructor
  · unfold kd; rw [if_neg h1, if_pos h2, e]; rfl
  · unfold ln; rw [if_neg h1, if_pos h2, e]; rfl
theorem kdV0 {i : Nat} (h : i < 11) : kd (700 + 2 * i + 0) = 10 ∧ ln (700 + 2 * i + 0) = 0 := by
  have e : (700 + 2 * i + 0 - 700) % 2 = 0 := by omega
  have h1 : ¬ (700 + 2 * i + 0 < 300) := by omega
  have h2 : ¬ (700 + 2 * i + 0 < 620) := by omega
  have h3 : 700 ≤ 700 + 2 * i + 0 ∧ 700 + 2 * i + 0 < 722 := by omega
  constructor
  · unfold kd; rw [if_neg h1, if_neg h2, if_pos h3, e]; rfl
  · unfold ln; rw [if_neg h1, if_neg h2, if_pos h3, e]; rfl
theorem kdV1 {i : Nat} (h : i < 11) : kd (700 + 2 * i + 1) = 2 ∧ ln (700 + 2 * i + 1) = 160 := by
  have e : (700 + 2 * i + 1 - 700) % 2 = 1 := by omega
  have h1 : ¬ (700 + 2 * i + 1 < 300) := by omega
  have h2 : ¬ (700 + 2 * i + 1 < 620) := by omega
  have h3 : 700 ≤ 700 + 2 * i + 1 ∧ 700 + 2 * i + 1 < 722 := by omega
  constructor
  · unfold kd; rw [if_neg h1, if_neg h2, if_pos h3, e]; rfl
  · unfold ln; rw [if_neg h1, if_neg h2, if_pos h3, e]; rfl
section
variable {nm nv : Nat}
theorem o_X5 : objOK nm nv 0 15 := ⟨mem0 (mem00 (by decide +kernel)), by decide +kernel⟩
theorem o_X1 : objOK nm nv 8 11 := ⟨mem0 (mem00 (by decide +kernel)), by decide +kernel⟩
theorem o_X3 {p : Nat} (h : isPaper p) : objOK nm nv p 13 := by rcases h with rfl | rfl | rfl | rfl | rfl | rfl <;> exact ⟨mem0 (mem00 (by decide +kernel)), by decide +kernel⟩
theorem o_X4 {s : Nat} (h : isSite s) : objOK nm nv s 14 := by rcases h with rfl | rfl | rfl | rfl <;> exact ⟨mem0 (mem00 (by decide +kernel)), by decide +kernel⟩
theorem o_X2 {w : Nat} (h : isMsg nm w) : objOK nm nv w 12 := by
  obtain ⟨i, h1, h2, rfl⟩ := h
  exact ⟨memM (k := 0) h1 (by omega), (kdM0 h2).1⟩
theorem o_X0 {a : Nat} (h : isSet nm nv a) : objOK nm nv a 10 := by
  rcases h with h | ⟨i, h1, h2, rfl⟩ | ⟨i, h1, h2, rfl⟩
  · simp only [List.mem_cons, List.not_mem_nil, or_false] at h
    rcases h with rfl | rfl | rfl | rfl | rfl <;> exact ⟨mem0 (mem00 (by decide +kernel)), by decide +kernel⟩
  · have e : 301 + 4 * i = 300 + 4 * i + 1 := by omega
    rw [e]; exact ⟨memM h1 (by omega), (kdM1 h2).1⟩
  · exact ⟨memV (k := 0) h1 (by omega), (kdV0 h2).1⟩
theorem a_X0_members {a : Nat} (h : isSet nm nv a) : arrOK nm nv (a + 1) 2 160 := by
  rcases h with h | ⟨i, h1, h2, rfl⟩ | ⟨i, h1, h2, rfl⟩
  · simp only [List.mem_cons, List.not_mem_nil, or_false] at h
    rcases h with rfl | rfl | rfl | rfl | rfl <;> exact ⟨mem0 (mem00 (by decide +kernel)), by decide +kernel, by decide +kernel⟩
  · have e : 301 + 4 * i + 1 = 300 + 4 * i + 2 := by omega
    rw [e]; exact ⟨memM h1 (by omega), (kdM2 h2).1, (kdM2 h2).2⟩
  · exact ⟨memV h1 (by omega), (kdV1 h2).1, (kdV1 h2).2⟩
theorem a_X2_known {w : Nat} (h : isMsg nm w) : arrOK nm nv (w + 3) 1 4 := by
  obtain ⟨i, h1, h2, rfl⟩ := h
  exact ⟨memM h1 (by omega), (kdM3 h2).1, (kdM3 h2).2⟩
theorem r_X2_acts {w : Nat} (h : isMsg nm w) : isSet nm nv (w + 1) := by
  obtain ⟨i, h1, h2, rfl⟩ := h
  exact Or.inr (Or.inl ⟨i, h1, h2, by omega⟩)
theorem r_X4_held {s : Nat} (h : isSite s) : isSet nm nv (s + 1) := by rcases h with rfl | rfl | rfl | rfl <;> exact Or.inl (by decide)
theorem r_X4_paper {s : Nat} (h : isSite s) : isPaper (s + 10) := by rcases h with rfl | rfl | rfl | rfl <;> decide
theorem r_X5_scratch : isPaper 180 := by decide
theorem r_X5_otherScratch : isPaper 200 := by decide
theorem r_X5_scratchSet : isSet nm nv 6 := Or.inl (by decide)
theorem a_X1_writers : arrOK nm nv 9 1 160 := ⟨mem0 (mem00 (by decide +kernel)), by decide +kernel, by decide +kernel⟩
theorem a_X1_counts : arrOK nm nv 10 1 160 := ⟨mem0 (mem00 (by decide +kernel)), by decide +kernel, by decide +kernel⟩
theorem a_X1_kinds : arrOK nm nv 11 1 160 := ⟨mem0 (mem00 (by decide +kernel)), by decide +kernel, by decide +kernel⟩
theorem a_X1_firsts : arrOK nm nv 12 1 160 := ⟨mem0 (mem00 (by decide +kernel)), by decide +kernel, by decide +kernel⟩
theorem a_X1_seconds : arrOK nm nv 13 1 160 := ⟨mem0 (mem00 (by decide +kernel)), by decide +kernel, by decide +kernel⟩
theorem a_X1_values : arrOK nm nv 14 1 160 := ⟨mem0 (mem00 (by decide +kernel)), by decide +kernel, by decide +kernel⟩
theorem a_X1_flags : arrOK nm nv 15 2 160 := ⟨mem0 (mem00 (by decide +kernel)), by decide +kernel, by decide +kernel⟩
theorem a_X1_order : arrOK nm nv 16 1 160 := ⟨mem0 (mem00 (by decide +kernel)), by decide +kernel, by decide +kernel⟩
theorem a_X5_sites : arrOK nm nv 1 4 4 := ⟨mem0 (mem00 (by decide +kernel)), by decide +kernel, by decide +kernel⟩
theorem a_X5_messages : arrOK nm nv 2 5 80 := ⟨mem0 (mem00 (by decide +kernel)), by decide +kernel, by decide +kernel⟩
theorem a_X5_versions : arrOK nm nv 3 6 10 := ⟨mem0 (mem00 (by decide +kernel)), by decide +kernel, by decide +kernel⟩
theorem a_X5_picked : arrOK nm nv 4 1 160 := ⟨mem0 (mem00 (by decide +kernel)), by decide +kernel, by decide +kernel⟩
theorem a_X5_owners : arrOK nm nv 5 1 160 := ⟨mem0 (mem00 (by decide +kernel)), by decide +kernel, by decide +kernel⟩
theorem a_X3_row {p : Nat} (h : isPaper p) : arrOK nm nv (p + 2) 1 160 := by rcases h with rfl | rfl | rfl | rfl | rfl | rfl <;> exact ⟨mem0 (mem00 (by decide +kernel)), by decide +kernel, by decide +kernel⟩
theorem a_X3_states {p : Nat} (h : isPaper p) : arrOK nm nv (p + 4) 1 160 := by rcases h with rfl | rfl | rfl | rfl | rfl | rfl <;> exact ⟨mem0 (mem00 (by decide +kernel)), by decide +kernel, by decide +kernel⟩
theorem a_X3_breaks {p : Nat} (h : isPaper p) : arrOK nm nv (p + 5) 2 160 := by rcases h with rfl | rfl | rfl | rfl | rfl | rfl <;> exact ⟨mem0 (mem00 (by decide +kernel)), by decide +kernel, by decide +kernel⟩
theorem a_X3_removed {p : Nat} (h : isPaper p) : arrOK nm nv (p + 6) 2 160 := by rcases h with rfl | rfl | rfl | rfl | rfl | rfl <;> exact ⟨mem0 (mem00 (by decide +kernel)), by decide +kernel, by decide +kernel⟩
theorem a_X3_bits {p : Nat} (h : isPaper p) : arrOK nm nv (p + 7) 1 160 := by rcases h with rfl | rfl | rfl | rfl | rfl | rfl <;> exact ⟨mem0 (mem00 (by decide +kernel)), by decide +kernel, by decide +kernel⟩
theorem a_X3_asked {p : Nat} (h : isPaper p) : arrOK nm nv (p + 8) 2 160 := by rcases h with rfl | rfl | rfl | rfl | rfl | rfl <;> exact ⟨mem0 (mem00 (by decide +kernel)), by decide +kernel, by decide +kernel⟩
theorem a_X3_undone {p : Nat} (h : isPaper p) : arrOK nm nv (p + 9) 2 160 := by rcases h with rfl | rfl | rfl | rfl | rfl | rfl <;> exact ⟨mem0 (mem00 (by decide +kernel)), by decide +kernel, by decide +kernel⟩
theorem a_X3_kinds {p : Nat} (h : isPaper p) : arrOK nm nv (p + 10) 1 161 := by rcases h with rfl | rfl | rfl | rfl | rfl | rfl <;> exact ⟨mem0 (mem00 (by decide +kernel)), by decide +kernel, by decide +kernel⟩
theorem a_X3_aboves {p : Nat} (h : isPaper p) : arrOK nm nv (p + 11) 1 161 := by rcases h with rfl | rfl | rfl | rfl | rfl | rfl <;> exact ⟨mem0 (mem00 (by decide +kernel)), by decide +kernel, by decide +kernel⟩
theorem a_X3_levels {p : Nat} (h : isPaper p) : arrOK nm nv (p + 12) 7 4 := by rcases h with rfl | rfl | rfl | rfl | rfl | rfl <;> exact ⟨mem0 (mem00 (by decide +kernel)), by decide +kernel, by decide +kernel⟩
theorem a_X4_journal {s : Nat} (h : isSite s) : arrOK nm nv (s + 3) 1 160 := by rcases h with rfl | rfl | rfl | rfl <;> exact ⟨mem0 (mem00 (by decide +kernel)), by decide +kernel, by decide +kernel⟩
theorem a_X4_known {s : Nat} (h : isSite s) : arrOK nm nv (s + 4) 1 4 := by rcases h with rfl | rfl | rfl | rfl <;> exact ⟨mem0 (mem00 (by decide +kernel)), by decide +kernel, by decide +kernel⟩
theorem a_levels {p i : Nat} (h : isPaper p) (hi : i < 4) : arrOK nm nv (p + 13 + i) 1 161 := by
  rcases (show i = 0 ∨ i = 1 ∨ i = 2 ∨ i = 3 by omega) with rfl | rfl | rfl | rfl <;> rcases h with rfl | rfl | rfl | rfl | rfl | rfl <;> exact ⟨mem0 (mem00 (by decide +kernel)), by decide +kernel, by decide +kernel⟩
theorem a_out : arrOK nm nv 290 1 4 := ⟨mem0 (mem00 (by decide +kernel)), by decide +kernel, by decide +kernel⟩
end
theorem ent_1 {cy : Nat → ClassId} {ad : Nat → Nat} {σ : St} {id n : Nat} (h : kd id = 1) (hn : ln id = n) : ent cy ad σ id = .inl (cy 1, n, .inl (fun j => i32 (σ id j))) := by unfold ent; rw [h, hn]; rfl
theorem ent_2 {cy : Nat → ClassId} {ad : Nat → Nat} {σ : St} {id n : Nat} (h : kd id = 2) (hn : ln id = n) : ent cy ad σ id = .inl (cy 2, n, .inl (fun j => i32 (σ id j))) := by unfold ent; rw [h, hn]; rfl
theorem ent_3 {cy : Nat → ClassId} {ad : Nat → Nat} {σ : St} {id n : Nat} (h : kd id = 3) (hn : ln id = n) : ent cy ad σ id = .inl (cy 3, n, .inr (.inl (fun j => Int64.ofInt (σ id j)))) := by unfold ent; rw [h, hn]; rfl
theorem ent_4 {cy : Nat → ClassId} {ad : Nat → Nat} {σ : St} {id n : Nat} (h : kd id = 4) (hn : ln id = n) : ent cy ad σ id = .inl (cy 4, n, .inr (.inr (.inr (.inr (fun j => if j < 4 then some (ad (20 + 40 * j)) else none))))) := by unfold ent; rw [h, hn]; rfl
theorem ent_5 {cy : Nat → ClassId} {ad : Nat → Nat} {σ : St} {id n : Nat} (h : kd id = 5) (hn : ln id = n) : ent cy ad σ id = .inl (cy 5, n, .inr (.inr (.inr (.inr (fun j => if (j : Int) < σ id 0 then some (ad (300 + 4 * j)) else none))))) := by unfold ent; rw [h, hn]; rfl
theorem ent_6 {cy : Nat → ClassId} {ad : Nat → Nat} {σ : St} {id n : Nat} (h : kd id = 6) (hn : ln id = n) : ent cy ad σ id = .inl (cy 6, n, .inr (.inr (.inr (.inr (fun j => if (j : Int) < σ id 0 then some (ad (700 + 2 * j)) else none))))) := by unfold ent; rw [h, hn]; rfl
theorem ent_7 {cy : Nat → ClassId} {ad : Nat → Nat} {σ : St} {id n : Nat} (h : kd id = 7) (hn : ln id = n) : ent cy ad σ id = .inl (cy 7, n, .inr (.inr (.inr (.inr (fun j => if j < 4 then some (ad (id + 1 + j)) else none))))) := by unfold ent; rw [h, hn]; rfl
theorem ent_X0 {cy : Nat → ClassId} {ad : Nat → Nat} {σ : St} {id : Nat} (h : kd id = 10) : ent cy ad σ id = .inr (0, [.ref (ad (id + 1)), .int (i32 (σ id 1))]) := by unfold ent; rw [h]; rfl
theorem ent_X1 {cy : Nat → ClassId} {ad : Nat → Nat} {σ : St} {id : Nat} (h : kd id = 11) : ent cy ad σ id = .inr (1, [.ref (ad 9), .ref (ad 10), .ref (ad 11), .ref (ad 12), .ref (ad 13), .ref (ad 14), .ref (ad 15), .ref (ad 16), .int (i32 (σ id 8)), .int (i32 (σ id 9))]) := by unfold ent; rw [h]; rfl
theorem ent_X2 {cy : Nat → ClassId} {ad : Nat → Nat} {σ : St} {id : Nat} (h : kd id = 12) : ent cy ad σ id = .inr (2, [.int (i32 (σ id 0)), .ref (ad (id + 1)), .ref (ad (id + 3))]) := by unfold ent; rw [h]; rfl
theorem ent_X3 {cy : Nat → ClassId} {ad : Nat → Nat} {σ : St} {id : Nat} (h : kd id = 13) : ent cy ad σ id = .inr (3, [.ref (ad 8), .ref (ad (id + 2)), .int (i32 (σ id 2)), .ref (ad (id + 4)), .ref (ad (id + 5)), .ref (ad (id + 6)), .ref (ad (id + 7)), .ref (ad (id + 8)), .ref (ad (id + 9)), .ref (ad (id + 10)), .ref (ad (id + 11)), .ref (ad (id + 12))]) := by unfold ent; rw [h]; rfl
theorem ent_X4 {cy : Nat → ClassId} {ad : Nat → Nat} {σ : St} {id : Nat} (h : kd id = 14) : ent cy ad σ id = .inr (4, [.int (i32 (σ id 0)), .ref (ad (id + 1)), .ref (ad (id + 3)), .ref (ad (id + 4)), .ref (ad (id + 10)), .int (i32 (σ id 5)), .int (i32 (σ id 6)), .int (i32 (σ id 7)), .int (i32 (σ id 8)), .int (i32 (σ id 9))]) := by unfold ent; rw [h]; rfl
theorem ent_X5 {cy : Nat → ClassId} {ad : Nat → Nat} {σ : St} {id : Nat} (h : kd id = 15) : ent cy ad σ id = .inr (5, [.ref (ad 8), .ref (ad 1), .ref (ad 2), .ref (ad 3), .ref (ad 180), .ref (ad 200), .ref (ad 6), .ref (ad 4), .ref (ad 5), .int (i32 (σ id 9)), .int (i32 (σ id 10))]) := by unfold ent; rw [h]; rfl
theorem ent_congr {cy : Nat → ClassId} {ad : Nat → Nat} {σ σ2 : St} {id : Nat} (h : ∀ j, σ2 id j = σ id j) : ent cy ad σ2 id = ent cy ad σ id := by
  unfold ent; simp only [h]
