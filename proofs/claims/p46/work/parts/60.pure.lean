/-! ===== the pure programs: steps, rows as lists, bits ===== -/
theorem rd_ok {β : Type} {σ : St} {a n : Nat} {i : Int} {k : Int → Option β} (h1 : 0 ≤ i) (h2 : i < (n : Int)) : rd σ a n i k = k (σ a i.toNat) := if_pos ⟨h1, h2⟩
theorem wr_ok {β : Type} {σ : St} {a n : Nat} {i v : Int} {k : St → Option β} (h1 : 0 ≤ i) (h2 : i < (n : Int)) : wr σ a n i v k = k (st σ a i.toNat v) := if_pos ⟨h1, h2⟩
theorem wrb_ok {β : Type} {σ : St} {a n : Nat} {i v : Int} {k : St → Option β} (h1 : 0 ≤ i) (h2 : i < (n : Int)) (h3 : isB v) : wrb σ a n i v k = k (st σ a i.toNat v) := if_pos ⟨⟨h1, h2⟩, h3⟩
theorem ck_ok {β : Type} {v : Int} {k : Int → Option β} (h1 : -2147483648 ≤ v) (h2 : v ≤ 2147483647) : ck v k = k v := if_pos ⟨h1, h2⟩
theorem pf_ok {β : Type} {σ : St} {a i : Nat} {v : Int} {k : St → Option β} : pf σ a i v k = k (st σ a i v) := rfl
theorem pfb_ok {β : Type} {σ : St} {a i : Nat} {v : Int} {k : St → Option β} (h : isB v) : pfb σ a i v k = k (st σ a i v) := if_pos h
theorem vl_ok {β : Type} {v : Int} {k : Int → Option β} : vl v k = k v := rfl
theorem rb_ok {β : Type} {v : Int} {k : Option β} (h : isB v) : rb v k = k := if_pos h
theorem rc_ok {β : Type} {v : Int} {k : Option β} (h1 : 0 ≤ v) (h2 : v < 65536) : rc v k = k := if_pos ⟨h1, h2⟩
theorem ra_ok {β : Type} {i : Int} {n : Nat} {f : Nat → Nat} {k : Nat → Option β} (h1 : 0 ≤ i) (h2 : i < (n : Int)) : ra i n f k = k (f i.toNat) := if_pos ⟨h1, h2⟩
theorem cp_ok {β : Type} {σ : St} {a n : Nat} {sp dp len : Int} {k : St → Option β} (h1 : 0 ≤ sp) (h2 : 0 ≤ dp) (h3 : 0 ≤ len) (h4 : sp + len ≤ (n : Int)) (h5 : dp + len ≤ (n : Int)) : cp σ a n sp dp len k = k (cpy σ a sp.toNat dp.toNat len.toNat) := if_pos ⟨h1, h2, h3, h4, h5⟩
theorem rn_in {β : Type} {i : Int} {n : Nat} {c : Int} {f : Nat → Nat} {z : Option β} {k : Nat → Option β} (h1 : 0 ≤ i) (h2 : i < (n : Int)) (h3 : i < c) : rn i n c f z k = k (f i.toNat) := by unfold rn; rw [if_pos ⟨h1, h2⟩, if_pos h3]
theorem rn_out {β : Type} {i : Int} {n : Nat} {c : Int} {f : Nat → Nat} {z : Option β} {k : Nat → Option β} (h1 : 0 ≤ i) (h2 : i < (n : Int)) (h3 : c ≤ i) : rn i n c f z k = z := by unfold rn; rw [if_pos ⟨h1, h2⟩, if_neg (by omega)]
theorem b1_ok {α β : Type} {m : Option α} {v : α} {k : α → Option β} (h : m = some v) : b1 m k = k v := by rw [h]; rfl
theorem b2_ok {α β : Type} {m : Option (α × St)} {v : α} {s : St} {k : α → St → Option β} (h : m = some (v, s)) : b2 m k = k v s := by rw [h]; rfl
theorem xw_ok {α β : Type} {d : β} {m : Option (Nat × α × St)} {v : α} {s : St} {k : α → St → Option (Nat × β × St)} (h : m = some (0, v, s)) : xw d m k = k v s := by rw [h]; rfl
theorem xw_x {α β : Type} {d : β} {m : Option (Nat × α × St)} {c : Nat} {v : α} {s : St} {k : α → St → Option (Nat × β × St)} (h : m = some (c + 1, v, s)) : xw d m k = some (c + 1, d, s) := by rw [h]; rfl
theorem lpR_s {τ : Type} {bot : τ} {F : τ → τ} {k : Nat} : lpR bot F (k + 1) = F (lpR bot F k) := rfl
/-- a program comes to its end, and then .. -/
def wp {α : Type} (m : Option α) (Q : α → Prop) : Prop := ∃ r, m = some r ∧ Q r
section WP
variable {α β : Type} {Q : β → Prop} {σ : St} {a n : Nat} {i v : Int}
theorem wp_some {r : β} (h : Q r) : wp (some r) Q := ⟨r, rfl, h⟩
theorem wp_rd {k : Int → Option β} (h1 : 0 ≤ i) (h2 : i < (n : Int)) (h : wp (k (σ a i.toNat)) Q) : wp (rd σ a n i k) Q := by rw [rd_ok h1 h2]; exact h
theorem wp_wr {k : St → Option β} (h1 : 0 ≤ i) (h2 : i < (n : Int)) (h : wp (k (st σ a i.toNat v)) Q) : wp (wr σ a n i v k) Q := by rw [wr_ok h1 h2]; exact h
theorem wp_wrb {k : St → Option β} (h1 : 0 ≤ i) (h2 : i < (n : Int)) (h3 : isB v) (h : wp (k (st σ a i.toNat v)) Q) : wp (wrb σ a n i v k) Q := by rw [wrb_ok h1 h2 h3]; exact h
theorem wp_ck {k : Int → Option β} (h1 : -2147483648 ≤ v) (h2 : v ≤ 2147483647) (h : wp (k v) Q) : wp (ck v k) Q := by rw [ck_ok h1 h2]; exact h
theorem wp_vl {k : Int → Option β} (h : wp (k v) Q) : wp (vl v k) Q := h
theorem wp_pf {j : Nat} {k : St → Option β} (h : wp (k (st σ a j v)) Q) : wp (pf σ a j v k) Q := h
theorem wp_pfb {j : Nat} {k : St → Option β} (h3 : isB v) (h : wp (k (st σ a j v)) Q) : wp (pfb σ a j v k) Q := by rw [pfb_ok h3]; exact h
theorem wp_ra {f : Nat → Nat} {k : Nat → Option β} (h1 : 0 ≤ i) (h2 : i < (n : Int)) (h : wp (k (f i.toNat)) Q) : wp (ra i n f k) Q := by rw [ra_ok h1 h2]; exact h
theorem wp_cp {sp dp len : Int} {k : St → Option β} (h1 : 0 ≤ sp) (h2 : 0 ≤ dp) (h3 : 0 ≤ len) (h4 : sp + len ≤ (n : Int)) (h5 : dp + len ≤ (n : Int)) (h : wp (k (cpy σ a sp.toNat dp.toNat len.toNat)) Q) : wp (cp σ a n sp dp len k) Q := by rw [cp_ok h1 h2 h3 h4 h5]; exact h
theorem wp_if {c : Prop} [Decidable c] {A B : Option β} (h1 : c → wp A Q) (h2 : ¬ c → wp B Q) : wp (if c then A else B) Q := by
  by_cases h : c
  · rw [if_pos h]; exact h1 h
  · rw [if_neg h]; exact h2 h
theorem wp_b1 {m : Option α} {P : α → Prop} {k : α → Option β} (h : wp m P) (h2 : ∀ v, P v → wp (k v) Q) : wp (b1 m k) Q := by
  obtain ⟨v, rfl, hv⟩ := h
  exact h2 v hv
theorem wp_b1e {m : Option α} {v : α} {k : α → Option β} (h : m = some v) (h2 : wp (k v) Q) : wp (b1 m k) Q := by rw [h]; exact h2
theorem wp_b2 {m : Option (α × St)} {P : α × St → Prop} {k : α → St → Option β} (h : wp m P) (h2 : ∀ v s, P (v, s) → wp (k v s) Q) : wp (b2 m k) Q := by
  obtain ⟨⟨v, s⟩, rfl, hv⟩ := h
  exact h2 v s hv
theorem wp_b2e {m : Option (α × St)} {v : α} {s : St} {k : α → St → Option β} (h : m = some (v, s)) (h2 : wp (k v s) Q) : wp (b2 m k) Q := by rw [h]; exact h2
theorem wp_mono {m : Option β} {P : β → Prop} (h : wp m P) (h2 : ∀ r, P r → Q r) : wp m Q := by
  obtain ⟨r, h1, hr⟩ := h
  exact ⟨r, h1, h2 r hr⟩
end WP
-- rows as lists
def seg (f : Nat → Int) : Nat → Nat → List Int
  | _, 0 => []
  | i, k + 1 => f i :: seg f (i + 1) k
theorem seg_len (f : Nat → Int) (k : Nat) : ∀ i, (seg f i k).length = k := by
  induction k with
  | zero => intro i; rfl
  | succ k ih => intro i; show (seg f (i + 1) k).length + 1 = k + 1; rw [ih]
theorem seg_get (f : Nat → Int) (k : Nat) : ∀ i j, (seg f i k)[j]? = if j < k then some (f (i + j)) else none := by
  induction k with
  | zero => intro i j; rfl
  | succ k ih =>
    intro i j
    cases j with
    | zero => rw [if_pos (Nat.succ_pos k)]; rfl
    | succ j =>
      show (seg f (i + 1) k)[j]? = _
      rw [ih]
      by_cases h : j < k
      · rw [if_pos h, if_pos (by omega), show i + 1 + j = i + (j + 1) by omega]
      · rw [if_neg h, if_neg (by omega)]
theorem seg_congr {f g : Nat → Int} {k : Nat} : ∀ {i : Nat}, (∀ j, i ≤ j → j < i + k → f j = g j) → seg f i k = seg g i k := by
  induction k with
  | zero => intro i h; rfl
  | succ k ih =>
    intro i h
    show f i :: seg f (i + 1) k = g i :: seg g (i + 1) k
    rw [h i (Nat.le_refl i) (by omega), ih (fun j h1 h2 => h j (by omega) (by omega))]
theorem seg_add (f : Nat → Int) (k l : Nat) : ∀ i, seg f i (k + l) = seg f i k ++ seg f (i + k) l := by
  induction k with
  | zero => intro i; rw [Nat.zero_add]; rfl
  | succ k ih =>
    intro i
    rw [show k + 1 + l = (k + l) + 1 by omega]
    show f i :: seg f (i + 1) (k + l) = f i :: seg f (i + 1) k ++ seg f (i + (k + 1)) l
    rw [ih, show i + 1 + k = i + (k + 1) by omega]; rfl
theorem seg_one (f : Nat → Int) (i k : Nat) : seg f i (k + 1) = seg f i k ++ [f (i + k)] := seg_add f k 1 i
theorem seg_mem {f : Nat → Int} {k : Nat} {x : Int} : ∀ {i : Nat}, x ∈ seg f i k ↔ ∃ j, i ≤ j ∧ j < i + k ∧ f j = x := by
  induction k with
  | zero => intro i; exact ⟨fun h => (nomatch h), fun ⟨j, h1, h2, _⟩ => by omega⟩
  | succ k ih =>
    intro i
    show x ∈ f i :: seg f (i + 1) k ↔ _
    rw [List.mem_cons, ih]
    constructor
    · rintro (rfl | ⟨j, h1, h2, h3⟩)
      · exact ⟨i, Nat.le_refl i, by omega, rfl⟩
      · exact ⟨j, by omega, by omega, h3⟩
    · rintro ⟨j, h1, h2, h3⟩
      by_cases h : j = i
      · subst h; exact Or.inl h3.symm
      · exact Or.inr ⟨j, by omega, by omega, h3⟩
theorem seg_of_get {f : Nat → Int} {L : List Int} {k : Nat} (hl : L.length = k) (h : ∀ j, j < k → L[j]? = some (f j)) : seg f 0 k = L := by
  apply List.ext_getElem?
  intro j
  rw [seg_get]
  by_cases hj : j < k
  · rw [if_pos hj, Nat.zero_add, h j hj]
  · rw [if_neg hj, List.getElem?_eq_none (by omega)]
-- the first place of an element; the length if there is none
def ix (e : Int) : List Int → Nat
  | [] => 0
  | x :: L => if x = e then 0 else ix e L + 1
theorem ix_le (e : Int) (L : List Int) : ix e L ≤ L.length := by
  induction L with
  | nil => exact Nat.le_refl 0
  | cons x L ih =>
    show (if x = e then 0 else ix e L + 1) ≤ L.length + 1
    split
    · omega
    · omega
theorem ix_lt {e : Int} {L : List Int} (h : e ∈ L) : ix e L < L.length := by
  induction L with
  | nil => cases h
  | cons x L ih =>
    show (if x = e then 0 else ix e L + 1) < L.length + 1
    split
    · omega
    · rename_i hx
      rcases List.mem_cons.mp h with rfl | h
      · exact absurd rfl hx
      · have := ih h; omega
theorem ix_not {e : Int} {L : List Int} (h : e ∉ L) : ix e L = L.length := by
  induction L with
  | nil => rfl
  | cons x L ih =>
    show (if x = e then 0 else ix e L + 1) = L.length + 1
    rw [if_neg (fun hx => h (by rw [hx]; exact List.mem_cons_self)), ih (fun hm => h (List.mem_cons_of_mem _ hm))]
theorem ix_get {e : Int} {L : List Int} (h : e ∈ L) : L[ix e L]? = some e := by
  induction L with
  | nil => cases h
  | cons x L ih =>
    show (x :: L)[if x = e then 0 else ix e L + 1]? = some e
    split
    · rename_i hx; rw [hx]; rfl
    · rename_i hx
      rw [List.getElem?_cons_succ]
      exact ih ((List.mem_cons.mp h).resolve_left (fun he => hx he.symm))
-- how many of a list
def b2i (b : Bool) : Int := if b then 1 else 0
def cnt (P : Int → Bool) : List Int → Int
  | [] => 0
  | x :: L => b2i (P x) + cnt P L
theorem b2i_b (b : Bool) : isB (b2i b) := by cases b; exact Or.inl rfl; exact Or.inr rfl
theorem b2i_r (b : Bool) : 0 ≤ b2i b ∧ b2i b ≤ 1 := by cases b <;> decide
theorem b2i_ne {b : Bool} : b2i b ≠ 0 ↔ b = true := by cases b <;> decide
theorem b2i_eq {b : Bool} : b2i b = 0 ↔ b = false := by cases b <;> decide
theorem cnt_le (P : Int → Bool) (L : List Int) : 0 ≤ cnt P L ∧ cnt P L ≤ (L.length : Int) := by
  induction L with
  | nil => exact ⟨Int.le_refl 0, Int.le_refl 0⟩
  | cons x L ih =>
    have h := b2i_r (P x)
    show 0 ≤ b2i (P x) + cnt P L ∧ b2i (P x) + cnt P L ≤ ((L.length + 1 : Nat) : Int)
    omega
theorem cnt_app (P : Int → Bool) (L M : List Int) : cnt P (L ++ M) = cnt P L + cnt P M := by
  induction L with
  | nil => show cnt P M = 0 + cnt P M; omega
  | cons x L ih =>
    show b2i (P x) + cnt P (L ++ M) = b2i (P x) + cnt P L + cnt P M
    rw [ih]; omega
theorem cnt_congr {P R : Int → Bool} {L : List Int} (h : ∀ x, x ∈ L → P x = R x) : cnt P L = cnt R L := by
  induction L with
  | nil => rfl
  | cons x L ih =>
    show b2i (P x) + cnt P L = b2i (R x) + cnt R L
    rw [h x List.mem_cons_self, ih (fun y hy => h y (List.mem_cons_of_mem _ hy))]
theorem cnt_zero {P : Int → Bool} {L : List Int} (h : ∀ x, x ∈ L → P x = false) : cnt P L = 0 := by
  induction L with
  | nil => rfl
  | cons x L ih =>
    show b2i (P x) + cnt P L = 0
    rw [h x List.mem_cons_self, ih (fun y hy => h y (List.mem_cons_of_mem _ hy))]; rfl
-- bits
def tb (x : Int) (j : Nat) : Bool := (i32 x).toBitVec.getLsbD j
theorem i32_id (x : Int32) : i32 x.toInt = x := i32_of x
theorem tb_or (x y : Int) (j : Nat) : tb (bor x y) j = (tb x j || tb y j) := by
  unfold tb bor
  rw [i32_id, Int32.toBitVec_or, BitVec.getLsbD_or]
theorem tb_and (x y : Int) (j : Nat) : tb (band x y) j = (tb x j && tb y j) := by
  unfold tb band
  rw [i32_id, Int32.toBitVec_and, BitVec.getLsbD_and]
theorem tb_zero (j : Nat) : tb 0 j = false := by
  unfold tb
  show (0#32 : BitVec 32).getLsbD j = false
  simp
theorem tb_not (x : Int) {j : Nat} (h : j < 32) : tb (bxor x (-1)) j = !tb x j := by
  unfold tb bxor
  rw [i32_id, Int32.toBitVec_xor, BitVec.getLsbD_xor]
  have e : (i32 (-1)).toBitVec = BitVec.allOnes 32 := by decide
  rw [e, BitVec.getLsbD_allOnes]
  simp [h]
theorem tb_ext {x y : Int} (hx : inR x) (hy : inR y) (h : ∀ j, j < 32 → tb x j = tb y j) : x = y := by
  rw [← i32_eq hx hy]
  apply Int32.toBitVec.inj
  exact BitVec.eq_of_getLsbD_eq (fun j hj => h j hj)
theorem band_inR (x y : Int) : inR (band x y) := i32_inR _
theorem bor_inR (x y : Int) : inR (bor x y) := i32_inR _
theorem bshl_inR (x y : Int) : inR (bshl x y) := i32_inR _
theorem bxor_inR (x y : Int) : inR (bxor x y) := i32_inR _
theorem tb_one : ∀ k : Fin 32, ∀ j : Fin 32, tb (bshl 1 (k.val : Int)) j.val = decide (k.val = j.val) := by decide +kernel
theorem tb_shl {k j : Nat} (hk : k < 32) (hj : j < 32) : tb (bshl 1 (k : Int)) j = decide (k = j) := tb_one ⟨k, hk⟩ ⟨j, hj⟩
theorem tb_test {x : Int} {k : Nat} (hk : k < 32) : band x (bshl 1 (k : Int)) ≠ 0 ↔ tb x k = true := by
  constructor
  · intro h
    cases hb : tb x k with
    | true => rfl
    | false =>
      exfalso
      apply h
      refine tb_ext (band_inR _ _) (by decide) (fun j hj => ?_)
      rw [tb_and, tb_shl hk hj, tb_zero]
      by_cases hkj : k = j
      · subst hkj; rw [hb]; rfl
      · rw [decide_eq_false hkj, Bool.and_false]
  · intro h he
    have := tb_and x (bshl 1 (k : Int)) k
    rw [he, tb_zero, tb_shl hk hk, h] at this
    simp at this
theorem tb_shr {x : Int} {k : Nat} (hk : k < 32) : band (bshr x (k : Int)) 1 = 1 ↔ tb x k = true := by
  have h0 : tb (bshr x (k : Int)) 0 = tb x k := by
    unfold tb bshr
    rw [i32_id, Int32.toBitVec_shiftRight]
    have e : ∀ k : Fin 32, (i32 (k.val : Int) &&& 31).toBitVec.smod 32 = BitVec.ofNat 32 k.val := by decide +kernel
    have e1 : (BitVec.smod (i32 (k : Int) &&& 31).toBitVec 32) = BitVec.ofNat 32 k := e ⟨k, hk⟩
    rw [e1, BitVec.getLsbD_sshiftRight']
    simp [hk, Nat.mod_eq_of_lt (show k < 4294967296 by omega)]
  have h1 : ∀ j, j < 32 → tb 1 j = decide (j = 0) := by
    have e : ∀ j : Fin 32, tb 1 j.val = decide (j.val = 0) := by decide +kernel
    exact fun j hj => e ⟨j, hj⟩
  constructor
  · intro h
    have := tb_and (bshr x (k : Int)) 1 0
    rw [h, h0, h1 0 (by decide)] at this
    simpa using this.symm
  · intro h
    refine tb_ext (band_inR _ _) (by decide) (fun j hj => ?_)
    rw [tb_and, h1 j hj]
    by_cases hj0 : j = 0
    · subst hj0; rw [h0, h]; rfl
    · rw [decide_eq_false hj0, Bool.and_false]

