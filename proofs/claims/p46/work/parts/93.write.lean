/-! ===== type, split ===== -/
section WRITE
variable {σ τ A : St} {N nm nv n s : Nat} {D : Dc} {S : Int → Bool} {k x y z p : Int}
theorem c_room (hC : Cl σ A N nm nv) (w : Int) : fX5_checkRoomFor σ w = if w + N ≤ 160 then some (0, 0, σ) else some (3, 0, σ) := by
  have h8 := hC.1.made
  have hN := hC.1.2.2
  unfold fX5_checkRoomFor
  rw [h8, ck_ok (by omega) (by omega)]
  by_cases q : w + N ≤ 160
  · rw [if_pos q, if_pos (by omega)]
  · rw [if_neg q, if_neg (by omega)]
theorem mk_new (hI : Inv A N nm nv) (hN : N < 160) (hs : s < 4) (hk : k = 0 ∨ k = 1) : curOK (mkA A N s k x y z p) (N + 1) s (N : Int) := by
  refine Or.inr ⟨by rw [mk_Hs hI hN hs hs, if_pos ⟨rfl, rfl⟩], ?_⟩
  unfold mkE
  refine decide_eq_true ⟨⟨by omega, by omega⟩, ?_⟩
  rw [Int.toNat_natCast, mk_tN (by decide) (by decide)]; exact hk
theorem Inv.c8 (hI : Inv A N nm nv) (hs : s < 4) : curOK A N s (A 248 s) := (hI.2.1 s hs).2.2.2.2.2.2.2.2.2.1
theorem Inv.c9 (hI : Inv A N nm nv) (hs : s < 4) : curOK A N s (A 249 s) := (hI.2.1 s hs).2.2.2.2.2.2.2.2.2.2.1
theorem Inv.e8 (hI : Inv A N nm nv) (hs : s < 4) : A 248 s = -1 ∨ A 248 s ∈ (docOf A N (Hs A s)).1 := (hI.dk hs).el hI.1 (hI.2.1 s hs) (hI.c8 hs)
theorem Inv.e9 (hI : Inv A N nm nv) (hs : s < 4) : A 249 s = -1 ∨ A 249 s ∈ (docOf A N (Hs A s)).1 := (hI.dk hs).el hI.1 (hI.2.1 s hs) (hI.c9 hs)
def okW (A : St) (N s : Nat) : Prop := lev (docOf A N (Hs A s)) (s : Int) (blk (docOf A N (Hs A s)) (A 248 s)) ≠ 2 ∧ N < 160
theorem okW_m (hI : Inv A N nm nv) (hs : s < 4) (hN : N < 160) (hk : k = 0 ∨ k = 1) (hz : 0 ≤ z ∧ z ≤ 65535) : okM A N s k (A 248 s) (-1) z (A 250 s) := by
  have h8 := hI.c8 hs
  have hb := (hI.2.1 s hs).1
  refine ⟨⟨hN, hs⟩, by omega, hb, hz, fun _ => h8, fun g => ?_, fun g => ?_, fun g => ?_, fun g => ?_, fun g => ?_, fun g => ?_, fun g => ?_, fun g => ?_⟩ <;> (exfalso; clear h8 hb; omega)
theorem c_write (hI : Inv A N nm nv) (hC : Cl σ A N nm nv) (hP : isP σ (20 + 40 * s + 10) (docOf A N (Hs A s))) (hs : s < 4) (hn : 200 ≤ n) (hk : k = 0 ∨ k = 1) (hz : 0 ≤ z ∧ z ≤ 65535) :
    (okW A N s → wp (fX5_writeBehindCursor n σ (20 + 40 * s) (20 + 40 * s + 10) k z) (fun r => r.1 = 0 ∧ r.2.1 = (N : Int) ∧ Cl r.2.2 (cuA (mkA A N s k (A 248 s) (-1) z (A 250 s)) s (N : Int) (N : Int)) (N + 1) nm nv ∧ FrC σ r.2.2)) ∧ (¬ okW A N s → fX5_writeBehindCursor n σ (20 + 40 * s) (20 + 40 * s + 10) k z = some (3, 0, σ)) := by
  have w := hC.site hs
  have ev : fX3_blockOf n σ (20 + 40 * s + 10) (σ (20 + 40 * s) 8) = some (blk (docOf A N (Hs A s)) (A 248 s)) := by rw [w.2.2.2.2.1]; exact q_blockOf hP (by omega) _
  have el : fX3_levelIn σ (20 + 40 * s + 10) (σ (20 + 40 * s) 0) (blk (docOf A N (Hs A s)) (A 248 s)) = some (lev (docOf A N (Hs A s)) (s : Int) (blk (docOf A N (Hs A s)) (A 248 s))) := by rw [w.1]; exact q_levelIn hP _ _
  constructor
  · rintro ⟨hl, hN⟩
    unfold fX5_writeBehindCursor
    refine wp_b1e ev (wp_b1e el ?_)
    rw [if_pos hl, xw_ok (by rw [c_room hC, if_pos (by omega)])]
    rw [w.2.2.2.2.1, w.2.2.1]
    have hm := okW_m (z := z) hI hs hN hk hz
    refine wp_b2 (c_make hI hC hm hn) (fun v σ5 q => ?_)
    obtain ⟨q1, q2, q3, _, _⟩ := q
    have q1' : v = (N : Int) := q1
    subst q1'
    have iv := hI.make hm
    refine wp_pf (wp_pf (wp_some ⟨rfl, rfl, ?_, (q3.upd (by omega)).upd (by omega)⟩))
    refine q2.cu iv.1 hs (fun a b hab => ?_) ?_ ?_
    · show st (st σ5 (20 + 40 * s) 8 (N : Int)) (20 + 40 * s) 9 (N : Int) a b = σ5 a b
      by_cases q : a = 20 + 40 * s
      · rw [q, st_row, if_neg (by omega), st_row, if_neg (by omega)]
      · rw [st_ne q, st_ne q]
    · show st (st σ5 (20 + 40 * s) 8 (N : Int)) (20 + 40 * s) 9 (N : Int) (20 + 40 * s) 8 = _
      rw [st_row, if_neg (by decide), st_row, if_pos rfl]
    · show st (st σ5 (20 + 40 * s) 8 (N : Int)) (20 + 40 * s) 9 (N : Int) (20 + 40 * s) 9 = _
      rw [st_row, if_pos rfl]
  · intro hno
    unfold fX5_writeBehindCursor
    rw [b1_ok ev, b1_ok el]
    by_cases hl : lev (docOf A N (Hs A s)) (s : Int) (blk (docOf A N (Hs A s)) (A 248 s)) = 2
    · rw [if_neg (fun g => g hl)]
    · have hN : ¬ N < 160 := fun g => hno ⟨hl, g⟩
      rw [if_pos hl, xw_x (c := 2) (by rw [c_room hC, if_neg (by omega)])]
theorem mk_248 {r : Nat} (h : r = 246 ∨ 248 ≤ r) (t : Nat) : mkA A N s k x y z p r t = A r t := by rw [mk_o (by omega) (by omega)]
theorem Inv.wr (hI : Inv A N nm nv) (hs : s < 4) (hN : N < 160) (hk : k = 0 ∨ k = 1) (hz : 0 ≤ z ∧ z ≤ 65535) : Inv (cuA (mkA A N s k (A 248 s) (-1) z (A 250 s)) s (N : Int) (N : Int)) (N + 1) nm nv :=
  (hI.make (okW_m hI hs hN hk hz)).cu hs (mk_new hI hN hs hk) (mk_new hI hN hs hk)
end WRITE

