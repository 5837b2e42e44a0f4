/-! ===== a turn: to write, to move, to erase, to mark, to comment ===== -/
section RO
variable {σ τ A B : St} {N nm s t : Nat} {x6 x7 x8 : Int}
theorem t_type {x12 : Int} (h : ST σ A N nm) (hs : s < 4) (e12 : x12 = lenA A N s) : wp (fL_law_J131 1000 nm 0 σ x6 x7 x8 (N : Int) (nm : Int) (A 8 9) (s : Int) x12 1) Fin := by
  subst e12
  unfold fL_law_J131
  refine wp_if (fun _ => t_end h rfl rfl rfl) (fun h155 => ?_)
  have hl := len_r h.1 hs
  have hN : N < 160 := by omega
  refine wp_vl (wp_low (by decide) (fun r r1 r2 => wp_ck (by omega) (by omega) (wp_vl ?_)))
  rw [show (97 + r) % 65536 = 97 + r by omega]
  generalize hw : 97 + r = w
  have ok : okW A N s := ⟨no_read h _ _ _, hN⟩
  have hm := okW_m (z := w) h.1 hs hN (Or.inl rfl) (by omega)
  have hI1 := h.1.wr (k := 0) (z := w) hs hN (Or.inl rfl) (by omega)
  have hI0 := h.1.make hm
  refine wp_z (co_type h.1 h.2.1 hs ok (w := w) (by omega)) FrC.rf (fun σ1 c1 f1 => ?_)
  rw [if_neg (fun q => q rfl)]
  refine wp_z (co_length hI1 c1 hs) f1 (fun σ2 c2 f2 => ?_)
  refine wp_ck (by omega) (by omega) ?_
  rw [len_cu hI0.1 cu_c s, len_put h.1 hm (Or.inl rfl) (no_read h _ _ _), if_neg (fun q => q rfl)]
  refine wp_z (co_cursor hI1 c2 hs) f2 (fun σ3 c3 f3 => ?_)
  refine wp_z (co_tail hI1 c3 hs) f3 (fun σ4 c4 f4 => ?_)
  rw [cu_8.1, cu_8.2, if_neg (fun q => q rfl)]
  unfold fL_law_J194
  refine wp_ck (by omega) (by omega) ?_
  refine t_own (fun v => v + 1) 1 hI1 c4 ((h.2.2.1.mk h.1 hm (fun q => by omega) (fun q => by omega) (fun q => by omega)).cur hI0 cu_c) hs (fun v => rfl) (fun t ht => ?_) (fun τ hτ => t_end hτ (by omega) rfl (by rw [cu_89, mk89 (by decide)]))
  rw [f4 290 t (by decide) (by decide), own_cur hI0.1 cu_c, own_mk h.1 hm (by omega) ht, h.2.2.2 t ht]
  by_cases q : t = s
  · rw [if_pos ⟨q, by decide⟩, if_pos q]; omega
  · rw [if_neg (fun w => q w.1), if_neg q]; omega
theorem t_split (h : ST σ A N nm) (hs : s < 4) (hN : N < 160) : wp (b2 (zw (fX5_split 1000 σ (s : Int))) (fun v94 σ93 => if v94 ≠ (N : Int) then (fL_law_J231 1000 nm 0 σ93 x6 x7 x8 (N : Int) (nm : Int) (A 8 9) (s : Int) 0) else (fL_law_J231 1000 nm 0 σ93 x6 x7 x8 (N : Int) (nm : Int) (A 8 9) (s : Int) 1))) Fin := by
  have ok : okW A N s := ⟨no_read h _ _ _, hN⟩
  have hm := okW_m (z := 47) h.1 hs hN (Or.inr rfl) (by omega)
  have hI1 := h.1.wr (k := 1) (z := 47) hs hN (Or.inr rfl) (by omega)
  have hI0 := h.1.make hm
  refine wp_z (co_split h.1 h.2.1 hs ok) FrC.rf (fun σ1 c1 f1 => ?_)
  rw [if_neg (fun q => q rfl)]
  unfold fL_law_J231
  refine wp_ck (by omega) (by omega) ?_
  refine t_own (fun v => v + 1) 1 hI1 c1 ((h.2.2.1.mk h.1 hm (fun q => by omega) (fun q => by omega) (fun q => by omega)).cur hI0 cu_c) hs (fun v => rfl) (fun t ht => ?_) (fun τ hτ => t_end hτ (by omega) rfl (by rw [cu_89, mk89 (by decide)]))
  rw [f1 290 t (by decide) (by decide), own_cur hI0.1 cu_c, own_mk h.1 hm (by omega) ht, h.2.2.2 t ht]
  by_cases q : t = s
  · rw [if_pos ⟨q, by decide⟩, if_pos q]; omega
  · rw [if_neg (fun w => q w.1), if_neg q]; omega
theorem t_move {x12 : Int} (h : ST σ A N nm) (hs : s < 4) (e12 : x12 = lenA A N s) : wp (vl (bshr x8 4) (fun v75 => ck (x12 + 1) (fun v76 => b1 (fL_low v75 v76) (fun v77 => b2 (zw (fX5_moveTo 1000 σ (s : Int) v77)) (fun v79 σ78 => vl (bshr x8 9) (fun v80 => ck (x12 + 1) (fun v81 => b1 (fL_low v80 v81) (fun v82 => b2 (zw (fX5_extend 1000 σ78 (s : Int) v82)) (fun v84 σ83 => if v77 ≤ v82 then (ck (v82 - v77) (fun v85 => fL_law_J438 1000 nm 0 σ83 x6 x7 x8 (N : Int) (nm : Int) (A 8 9) (s : Int) v77 v82 v85 v84)) else (ck (v77 - v82) (fun v86 => fL_law_J438 1000 nm 0 σ83 x6 x7 x8 (N : Int) (nm : Int) (A 8 9) (s : Int) v77 v82 v86 v84))))))))))) Fin := by
  subst e12
  have hI := h.1
  have hl := len_r hI hs
  have dk := hI.dk hs
  refine wp_vl (wp_ck (by omega) (by omega) (wp_low ⟨by omega, by omega⟩ (fun a a1 a2 => ?_)))
  have sa : isSt (docOf A N (Hs A s)) a := ⟨a1, by show a ≤ lenA A N s; omega⟩
  have ka := dk.cok (stN_in sa)
  have hI1 := hI.cu hs ka ka
  refine wp_z (co_moveTo hI h.2.1 hs sa) FrC.rf (fun σ1 c1 f1 => ?_)
  refine wp_vl (wp_ck (by omega) (by omega) (wp_low ⟨by omega, by omega⟩ (fun b b1 b2 => ?_)))
  have sb : isSt (docOf A N (Hs A s)) b := ⟨b1, by show b ≤ lenA A N s; omega⟩
  have kb := dk.cok (stN_in sb)
  have ed := cu_doc (A := A) (s := s) (c := stN (docOf A N (Hs A s)) a) (d := stN (docOf A N (Hs A s)) a) hI.1 s
  have sb1 : isSt (docOf (cuA A s (stN (docOf A N (Hs A s)) a) (stN (docOf A N (Hs A s)) a)) N (Hs (cuA A s (stN (docOf A N (Hs A s)) a) (stN (docOf A N (Hs A s)) a)) s)) b := by rw [ed]; exact sb
  have x1 := co_extend hI1 c1 hs sb1
  rw [ed, cu_8.2, thr_st dk.1 sa] at x1
  have e2 : SaC A (cuA (cuA A s (stN (docOf A N (Hs A s)) a) (stN (docOf A N (Hs A s)) a)) s (stN (docOf A N (Hs A s)) b) (stN (docOf A N (Hs A s)) a)) := fun r hr => by
    rw [(cu_c (A := cuA A s (stN (docOf A N (Hs A s)) a) (stN (docOf A N (Hs A s)) a)) (s := s)) r hr, (cu_c (A := A) (s := s)) r hr]
  have hI2 : Inv (cuA (cuA A s (stN (docOf A N (Hs A s)) a) (stN (docOf A N (Hs A s)) a)) s (stN (docOf A N (Hs A s)) b) (stN (docOf A N (Hs A s)) a)) N nm 0 := hI1.cu hs ((cu_c (A := A) (s := s)).ok kb) ((cu_c (A := A) (s := s)).ok ka)
  refine wp_z x1 f1 (fun σ2 c2 f2 => ?_)
  have fin : ∀ d : Int, d = imax b a - imin b a → wp (fL_law_J438 1000 nm 0 σ2 x6 x7 x8 (N : Int) (nm : Int) (A 8 9) (s : Int) a b d (imax b a - imin b a)) Fin := by
    intro d hd
    subst hd
    unfold fL_law_J438
    rw [if_neg (fun q => q rfl)]
    refine wp_z (co_cursor hI2 c2 hs) f2 (fun σ3 c3 f3 => ?_)
    rw [e2.hs, e2.t.doc hI.1, cu_8.1, thr_st dk.1 sb, if_neg (fun q => q rfl)]
    refine wp_z (co_tail hI2 c3 hs) f3 (fun σ4 c4 f4 => ?_)
    rw [e2.hs, e2.t.doc hI.1, cu_8.2, thr_st dk.1 sa, if_neg (fun q => q rfl)]
    unfold fL_law_J468
    refine t_end (A := cuA (cuA A s (stN (docOf A N (Hs A s)) a) (stN (docOf A N (Hs A s)) a)) s (stN (docOf A N (Hs A s)) b) (stN (docOf A N (Hs A s)) a)) ⟨hI2, c4, h.2.2.1.cur hI e2, fun t ht => ?_⟩ rfl rfl (by rw [cu_89, cu_89])
    rw [f4 290 t (by decide) (by decide), own_cur hI.1 e2, h.2.2.2 t ht]
  refine wp_if (fun q => wp_ck (by omega) (by omega) (fin _ ?_)) (fun q => wp_ck (by omega) (by omega) (fin _ ?_))
  · unfold imax imin
    split <;> split <;> omega
  · unfold imax imin
    split <;> split <;> omega
theorem sel_abs (hI : Inv A N nm 0) (hs : s < 4) : selHi A N s - selLo A N s = (if 0 ≤ thr (docOf A N (Hs A s)) (A 248 s) - thr (docOf A N (Hs A s)) (A 249 s) then thr (docOf A N (Hs A s)) (A 248 s) - thr (docOf A N (Hs A s)) (A 249 s) else -(thr (docOf A N (Hs A s)) (A 248 s) - thr (docOf A N (Hs A s)) (A 249 s))) := by
  unfold selHi selLo imax imin
  split <;> split <;> split <;> omega
theorem t_mark {m f : Int} (h : ST σ A N nm) (hs : s < 4) (hN : N < 160) (hne : thr (docOf A N (Hs A s)) (A 248 s) ≠ thr (docOf A N (Hs A s)) (A 249 s)) (hm : 0 ≤ m ∧ m < 2) (hf : isB f) : wp (fL_law_J512 1000 nm 0 σ x6 x7 x8 (N : Int) (nm : Int) (A 8 9) (s : Int) f m (s : Int)) Fin := by
  have ok : okS A N s := ⟨fun q => hne ((sel_r h.1 hs).2.2.2.2.mp q), hN⟩
  have hm4 := sel_m4 h.1 hs ok hm hf
  have hI1 := h.1.make hm4
  unfold fL_law_J512
  refine wp_z (co_mark h.1 h.2.1 hs ok hm hf) FrC.rf (fun σ1 c1 f1 => ?_)
  rw [if_neg (fun q => q rfl)]
  unfold fL_law_J524
  refine wp_ck (by omega) (by omega) ?_
  refine t_own (fun v => v + 1) 1 hI1 c1 (h.2.2.1.mk h.1 hm4 (fun q => by omega) (fun q => by omega) (fun q => by omega)) hs (fun v => rfl) (fun t ht => ?_) (fun τ hτ => t_end hτ (by omega) rfl (by rw [mk89 (by decide)]))
  rw [f1 290 t (by decide) (by decide), own_mk h.1 hm4 (by omega) ht, h.2.2.2 t ht]
  by_cases q : t = s
  · rw [if_pos ⟨q, by decide⟩, if_pos q]; omega
  · rw [if_neg (fun w => q w.1), if_neg q]; omega
theorem t_comment (h : ST σ A N nm) (hs : s < 4) (hN : N < 160) (hne : thr (docOf A N (Hs A s)) (A 248 s) ≠ thr (docOf A N (Hs A s)) (A 249 s)) (h20 : A 8 9 < 20) : wp (b2 (zw (fX5_cursor 1000 σ (s : Int))) (fun v62 σ61 => b2 (zw (fX5_tail 1000 σ61 (s : Int))) (fun v64 σ63 => ck (v62 - v64) (fun v65 => b2 (zw (fX5_comment 1000 σ63 (s : Int))) (fun v67 σ66 => if v67 ≠ (N : Int) then (fL_law_J616 1000 nm 0 σ66 x6 x7 x8 (N : Int) (nm : Int) (A 8 9) (s : Int)) else (b2 (zw (fX5_covered 1000 σ66 (s : Int) v67)) (fun v69 σ68 => if 0 ≤ v65 then (fL_law_J609 1000 nm 0 σ68 x6 x7 x8 (N : Int) (nm : Int) (A 8 9) (s : Int) v65 v69) else (ck (-v65) (fun v70 => fL_law_J609 1000 nm 0 σ68 x6 x7 x8 (N : Int) (nm : Int) (A 8 9) (s : Int) v70 v69))))))))) Fin := by
  have hI := h.1
  have ok : okS A N s := ⟨fun q => hne ((sel_r hI hs).2.2.2.2.mp q), hN⟩
  have h9 := hI.1.2.2.1
  obtain ⟨j, hj⟩ : ∃ j : Nat, A 8 9 = (j : Int) := ⟨(A 8 9).toNat, by omega⟩
  have hm7 := sel_m7 hI hs ok h20
  have hI1 := hI.make hm7
  have c1r := thr_r (D := docOf A N (Hs A s)) (e := A 248 s)
  have c2r := thr_r (D := docOf A N (Hs A s)) (e := A 249 s)
  have hl : lenA A N s ≤ 160 := (len_r hI hs).2
  unfold lenA at hl
  refine wp_z (co_cursor hI h.2.1 hs) FrC.rf (fun σ1 c1 f1 => ?_)
  refine wp_z (co_tail hI c1 hs) f1 (fun σ2 c2 f2 => ?_)
  refine wp_ck (by omega) (by omega) ?_
  refine wp_z (co_comment hI c2 hs ok h20) f2 (fun σ3 c3 f3 => ?_)
  rw [if_neg (fun q => q rfl)]
  have hh : Hs (mkA A N s 7 (sx A N s) (sy A N s) (A 8 9) 0) s (N : Int) = true := by rw [mk_Hs hI hN hs hs, if_pos ⟨rfl, rfl⟩]
  have k7 : mkA A N s 7 (sx A N s) (sy A N s) (A 8 9) 0 11 (N : Int).toNat = 7 := by rw [Int.toNat_natCast, mk_tN (by decide) (by decide)]; rfl
  have z7 : mkA A N s 7 (sx A N s) (sy A N s) (A 8 9) 0 14 (N : Int).toNat = (j : Int) := by rw [Int.toNat_natCast, mk_tN (by decide) (by decide)]; exact hj
  have cv := co_covered hI1 c3 hs hh k7 z7
  rw [cov_ok hI h.2.2.1 hs ok h20 hj] at cv
  refine wp_z cv f3 (fun σ4 c4 f4 => ?_)
  have fin : ∀ d : Int, d = selHi A N s - selLo A N s → wp (fL_law_J609 1000 nm 0 σ4 x6 x7 x8 (N : Int) (nm : Int) (A 8 9) (s : Int) d (selHi A N s - selLo A N s)) Fin := by
    intro d hd
    subst hd
    unfold fL_law_J609
    rw [if_neg (fun q => q rfl)]
    unfold fL_law_J617
    refine wp_ck (by omega) (by omega) (wp_ck (by omega) (by omega) ?_)
    refine t_own (fun v => v + 1) 1 hI1 c4 (h.2.2.1.mk hI hm7 (fun q => by omega) (fun _ => rfl) (fun q => by omega)) hs (fun v => rfl) (fun t ht => ?_) (fun τ hτ => t_end hτ (by omega) rfl mk897.symm)
    rw [f4 290 t (by decide) (by decide), own_mk hI hm7 (by omega) ht, h.2.2.2 t ht]
    by_cases q : t = s
    · rw [if_pos ⟨q, by decide⟩, if_pos q]; omega
    · rw [if_neg (fun w => q w.1), if_neg q]; omega
  have sa := sel_abs hI hs
  refine wp_if (fun q => fin _ ?_) (fun q => wp_ck (by omega) (by omega) (fin _ ?_))
  · rw [sa, if_pos q]
  · rw [sa, if_neg q]
end RO
