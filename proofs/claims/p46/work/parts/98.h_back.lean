/-! ===== bringBack ===== -/
section BACK
variable {σ τ A T : St} {N nm nv n s v : Nat} {D V : Dc} {k x y p a : Int}
theorem dOne_sh (hk : gt T N 11 (-1) a = 2 ∨ gt T N 11 (-1) a = 3) (hy : y ≠ gt T N 12 (-1) a) : shownB (dOne T N D a) y = shownB D y := by
  have key1 : ∀ (i : Nat) (w : Int), (num (gt T N 12 (-1) a) → i = (gt T N 12 (-1) a).toNat) → num (gt T N 12 (-1) a) → shownB (D.1, st D.2 6 i w) y = shownB D y := by
    intro i w hi hn
    unfold shownB
    refine decide_eq_decide.mpr ?_
    show (num y ∧ st D.2 6 i w 4 y.toNat = 1 ∧ st D.2 6 i w 6 y.toNat = 0) ↔ _
    rw [st_ne (by decide), st_row]
    by_cases q : y.toNat = i
    · have hn' : 0 ≤ gt T N 12 (-1) a ∧ gt T N 12 (-1) a < 160 := hn
      have hi' := hi hn
      constructor
      · rintro ⟨h1, _⟩
        have h1' : 0 ≤ y ∧ y < 160 := h1
        omega
      · rintro ⟨h1, _⟩
        have h1' : 0 ≤ y ∧ y < 160 := h1
        omega
    · rw [if_neg q]
  have key8 : ∀ (i : Nat) (w : Int), shownB (D.1, st D.2 8 i w) y = shownB D y := by
    intro i w
    unfold shownB
    refine decide_eq_decide.mpr ?_
    show (num y ∧ st D.2 8 i w 4 y.toNat = 1 ∧ st D.2 8 i w 6 y.toNat = 0) ↔ _
    rw [st_ne (by decide), st_ne (by decide)]
  unfold dOne
  rw [if_neg (by omega)]
  by_cases z0 : num a ∧ D.2 9 a.toNat ≠ 0
  · rw [if_pos z0]
  rw [if_neg z0]
  by_cases z2 : gt T N 11 (-1) a = 2
  · rw [if_pos z2]
    unfold dRem
    split
    · rename_i h
      split
      · exact key1 _ _ (fun _ => rfl) h.1
      · exact key8 _ _
    · rfl
  · rw [if_neg z2, if_pos (by omega)]
    unfold dRes
    split
    · rename_i h; exact key1 _ _ (fun _ => rfl) h.1
    · rfl
def subV (A : St) (s v : Nat) : Prop := ∀ a, a < 160 → A 258 (160 * v + a) ≠ 0 → A 243 (160 * s + a) ≠ 0
/-- what differs, in the order of the document -/
def dfL (D V : Dc) : List Int := D.1.filter (fun x => shownB D x != shownB V x)
def dfK (D V : Dc) : List (Int × Int) := (dfL D V).map (fun x => (if shownB D x = true then 2 else 3, x))
theorem df_take {i : Nat} (hi : D.1[i]? = some x) : (D.1.take (i + 1)).filter (fun x => shownB D x != shownB V x) = (D.1.take i).filter (fun x => shownB D x != shownB V x) ++ (if (shownB D x != shownB V x) = true then [x] else []) := by
  rw [List.take_succ, hi, List.filter_append]
  congr 1
  by_cases q : (shownB D x != shownB V x) = true
  · rw [if_pos q]; exact List.filter_cons_of_pos q
  · rw [if_neg q]; exact List.filter_cons_of_neg q
theorem df_ok (hI : Inv A N nm nv) (hs : s < 4) (V : Dc) : okL A N s (dfK (docOf A N (Hs A s)) V) ∧ (dfL (docOf A N (Hs A s)) V).Nodup ∧ (dfL (docOf A N (Hs A s)) V).length ≤ N ∧ ∀ x, x ∈ dfL (docOf A N (Hs A s)) V → (0 ≤ x ∧ x < 160) ∧ (shownB (docOf A N (Hs A s)) x != shownB V x) = true := by
  have dk := hI.dk hs
  have hN := hI.1.2.1
  have hm : ∀ x, x ∈ dfL (docOf A N (Hs A s)) V → x ∈ (docOf A N (Hs A s)).1 ∧ (shownB (docOf A N (Hs A s)) x != shownB V x) = true := fun x hx => List.mem_filter.mp hx
  refine ⟨fun q hq => ?_, List.Pairwise.filter _ dk.1.1, ?_, fun x hx => ⟨(dk.1.row hN (hm x hx).1).1, (hm x hx).2⟩⟩
  · obtain ⟨x, hx, rfl⟩ := List.mem_map.mp hq
    have := (dk.2.1 x).mp (hm x hx).1
    refine ⟨?_, (List.mem_filter.mp this.1).2, this.2⟩
    show (if shownB (docOf A N (Hs A s)) x = true then (2 : Int) else 3) = 2 ∨ (if shownB (docOf A N (Hs A s)) x = true then (2 : Int) else 3) = 3
    split
    · exact Or.inl rfl
    · exact Or.inr rfl
  · have h1 := List.length_filter_le (fun x => shownB (docOf A N (Hs A s)) x != shownB V x) (docOf A N (Hs A s)).1
    have h2 := dk.2.2.2.2
    have h3 : (dfL (docOf A N (Hs A s)) V).length ≤ (docOf A N (Hs A s)).1.length := h1
    omega
end BACK

