/-! ===== questions about an element, a block ===== -/
section Q2
variable {σ A : St} {N nm nv n s : Nat} {D : Dc} {S : Int → Bool}
theorem Inv.dk (hI : Inv A N nm nv) (hs : s < 4) : DK A N (Hs A s) (docOf A N (Hs A s)) := doc_ok hI.1.2.2.2.1 hI.1.2.2.2.2.1 hI.1.2.2.2.2.2.1 ((hI.2.1 s hs).cl hI.1.2.1) hI.1.2.1
theorem TS.nd {T : St} (h : TS T N) : ((OL T N).filter S).Nodup := by
  have := List.Pairwise.filter S h.1
  exact List.Pairwise.imp (fun {a b} q => by intro e; subst e; omega) this
theorem ids_nd : (ids N).Nodup := by
  have key : ∀ k i : Nat, (seg (fun j => (j : Int)) i k).Nodup := by
    intro k
    induction k with
    | zero => intro i; exact List.Pairwise.nil
    | succ k ih =>
      intro i
      show ((i : Int) :: seg (fun j => (j : Int)) (i + 1) k).Nodup
      rw [List.nodup_cons]
      refine ⟨fun q => ?_, ih (i + 1)⟩
      obtain ⟨j, h1, h2, h3⟩ := seg_mem.mp q
      omega
  exact key N 0
theorem DK.act (h : DK A N S D) (hI : In1 A N) (hc : clo A N S) {x : Int} (hx : x ∈ (OL A N).filter S) : (0 ≤ x ∧ x < (N : Int)) ∧ (mkE A N x = true → x ∈ D.1) ∧ ((A 11 x.toNat = 2 ∨ A 11 x.toNat = 3 ∨ A 11 x.toNat = 4 ∨ A 11 x.toNat = 7) → A 12 x.toNat ∈ D.1) := by
  have hx2 := hx
  rw [List.mem_filter, hI.2.2.2.2.1.2] at hx2
  refine ⟨hx2.1, fun q => (h.2.1 x).mpr ⟨hx, q⟩, fun q => ?_⟩
  have c1 : S (A 12 x.toNat) = true := by
    have c := (hc x.toNat (by omega) (by rw [Int.toNat_of_nonneg hx2.1.1]; exact hx2.2)).2.1
    refine c ?_
    rcases q with q | q | q | q
    · exact Or.inl q
    · exact Or.inr (Or.inl q)
    · exact Or.inr (Or.inr (Or.inl q))
    · exact Or.inr (Or.inr (Or.inr (Or.inl q)))
  have v := hI.2.2.2.1 x.toNat (by omega)
  have w : 0 ≤ A 12 x.toNat ∧ A 12 x.toNat < (x.toNat : Int) ∧ mkE A N (A 12 x.toNat) = true := by
    rcases q with q | q | q | q
    · exact v.2.2.2.2.2.2.1 (Or.inl q)
    · exact v.2.2.2.2.2.2.1 (Or.inr q)
    · have := v.2.2.2.2.2.2.2.1 (Or.inl q); exact ⟨this.1, this.2.1, this.2.2.1⟩
    · have := v.2.2.2.2.2.2.2.1 (Or.inr q); exact ⟨this.1, this.2.1, this.2.2.1⟩
  refine (h.2.1 _).mpr ⟨?_, w.2.2⟩
  rw [List.mem_filter, hI.2.2.2.2.1.2]
  exact ⟨⟨w.1, by clear v; omega⟩, c1⟩
theorem DK.open_in (h : DK A N S D) {x : Int} (hx : openB A N D x = true) : x ∈ (OL A N).filter S := by
  unfold openB at hx
  rw [Bool.and_eq_true, Bool.or_eq_true, decide_eq_true_iff, decide_eq_true_iff, Bool.and_eq_true, decide_eq_true_iff] at hx
  obtain ⟨h1, h2⟩ := hx
  have h1' : 0 ≤ x ∧ x < 160 := h1
  have e : ((x.toNat : Nat) : Int) = x := Int.toNat_of_nonneg h1'.1
  rcases h2 with q | q
  · by_cases z : x ∈ D.1
    · exact ((h.2.1 x).mp z).1
    · have := (h.1.2.2.2.1 x.toNat (by rw [e]; exact z)).1
      omega
  · have := h.2.2.1 x.toNat q.1
    rw [e] at this; exact this
/-- the k-th seen element -/
def elAt (D : Dc) (w : Int) : Int := runL (atS (seenB D) w) (fun _ => -1) 0 D.1
def isEl (D : Dc) (w : Int) : Prop := 0 ≤ w ∧ w < cnt (seenB D) D.1
theorem elAt_in {w : Int} (h : isEl D w) : elAt D w ∈ D.1 ∧ seenB D (elAt D w) = true := at_in D.1 0 w (fun _ => -1) h.1 (by have := h.2; omega)
theorem elAt_no {w : Int} (h : ¬ isEl D w) : elAt D w = -1 := at_out D.1 0 w (-1) (by unfold isEl at h; omega)
theorem c_elementAt {p : Nat} {w : Int} (h : isP σ p D) (hd : DI A N D) (hN : N ≤ 160) (hn : 161 ≤ n) (hw : isEl D w) : fX5_elementAt n σ p w = some (0, elAt D w, σ) := by
  have := (hd.row hN (elAt_in hw).1).1
  have h0 : 0 ≤ elAt D w := this.1
  unfold fX5_elementAt
  rw [b1_ok (q_seenAt h hn w)]
  show (if elAt D w ≠ -1 then some (0, elAt D w, σ) else some (1, 0, σ)) = _
  rw [if_pos (by omega)]
theorem c_elementNo {p : Nat} {w : Int} (h : isP σ p D) (hn : 161 ≤ n) (hw : ¬ isEl D w) : fX5_elementAt n σ p w = some (1, 0, σ) := by
  unfold fX5_elementAt
  rw [b1_ok (q_seenAt h hn w)]
  show (if elAt D w ≠ -1 then some (0, elAt D w, σ) else some (1, 0, σ)) = _
  rw [if_neg (by rw [elAt_no hw]; exact fun q => q rfl)]
end Q2
