/-! ===== a turn: to undo, to propose, to decide, to set a kind; and all of it ===== -/
section RT3
variable {σ τ A B : St} {N nm s t : Nat} {x6 x7 x8 : Int} {p : Int}
theorem num_div {c s k : Int} (hc : 0 ≤ c) (hs : 0 ≤ s ∧ s < 4) (hk : 0 ≤ k ∧ k ≤ 12) : (1000 * c + 100 * s + k) / 100 % 10 = s := by omega
theorem t_undo (h : ST σ A N nm) (hs : s < 4) (hN : N < 155) : wp (rd σ 290 4 (s : Int) (fun v43 => if v43 ≤ 0 then (fL_law_J1233 1000 nm 0 σ x6 x7 x8 (N : Int) (nm : Int) (A 8 9) 1) else (b2 (zw (fX5_undo 1000 σ (s : Int))) (fun v45 σ44 => b2 (zw (fX5_isUndone 1000 σ44 (s : Int) v45)) (fun v47 σ46 => if v47 = 0 then (fL_law_J796 1000 nm 0 σ46 x6 x7 x8 (N : Int) (nm : Int) (A 8 9) (s : Int) v45) else (b2 (zw (fX5_act σ46 v45)) (fun v49 σ48 => idv v49 100 (fun v50 => irm v50 10 (fun v51 => if v51 ≠ (s : Int) then (fL_law_J796 1000 nm 0 σ48 x6 x7 x8 (N : Int) (nm : Int) (A 8 9) (s : Int) v45) else (fL_law_J797 1000 nm 0 σ48 x6 x7 x8 (N : Int) (nm : Int) (A 8 9) (s : Int) v45 1)))))))))) Fin := by
  have hI := h.1
  refine wp_rd (by omega) (by omega) ?_
  rw [Int.toNat_natCast, h.2.2.2 s hs]
  refine wp_if (fun _ => t_end h rfl rfl rfl) (fun hp => ?_)
  obtain ⟨lr, lh, lb⟩ := own_last h.2.2.1 hI hs (by omega)
  have lb' := of_decide_eq_true lb
  have hm := okx (k := 11) (by omega : N < 160) hs (by decide) lh
  have hI1 := hI.make hm
  have hJ1 := h.2.2.1.mk hI hm (fun q => by omega) (fun q => by omega) (fun _ => ⟨lr, lb'.1⟩)
  have u9 : ∀ i, (docOf (mkA A N s 11 (lastU A N s) (-1) 0 0) (N + 1) (Hs (mkA A N s 11 (lastU A N s) (-1) 0 0) s)).2 9 i = if i = (lastU A N s).toNat then 1 else (docOf A N (Hs A s)).2 9 i := fun i => by
    rw [doc9_mk hI hm (Or.inl rfl) ⟨lr.1, by omega⟩ i]; rfl
  have hh1 : Hs (mkA A N s 11 (lastU A N s) (-1) 0 0) s (lastU A N s) = true := by
    rw [mk_Hs hI (by omega) hs hs]; split
    · rfl
    · exact lh
  refine wp_z (co_undo hI h.2.1 hs (by omega) (by omega)) FrC.rf (fun σ1 c1 f1 => ?_)
  refine wp_z (co_isUndone hI1 c1 hs hh1) f1 (fun σ2 c2 f2 => ?_)
  rw [u9, if_pos rfl, if_neg (by decide)]
  refine wp_z (co_act hI1 c2 ⟨lr.1, by omega⟩) f2 (fun σ3 c3 f3 => ?_)
  have v := hI.1.2.2.2.1 (lastU A N s).toNat (by omega)
  have v1 := v.1
  have v2 := v.2.1
  have v3 := v.2.2.1
  clear v
  rw [mk_t (by decide) (by decide), mk_t (by decide) (by decide), mk_t (by decide) (by decide), if_neg (by omega), if_neg (by omega), if_neg (by omega), lb'.1]
  rw [idv_ok ⟨by omega, by omega⟩ (by decide), irm_ok ⟨by omega, by omega⟩ (by decide)]
  rw [num_div (by omega) ⟨by omega, by omega⟩ v3, if_neg (fun q => q rfl)]
  unfold fL_law_J797
  refine wp_ck (by omega) (by omega) ?_
  refine t_own (fun v => v - 1) (-1) hI1 c3 hJ1 hs (fun v => by show v - 1 = v + -1; omega) (fun t ht => ?_) (fun τ hτ => ?_)
  · rw [f3 290 t (by decide) (by decide), own_un hI hm lr lb ht, h.2.2.2 t ht]
    split <;> omega
  refine wp_vl (wp_low (by decide) (fun r r1 r2 => wp_if (fun _ => ?_) (fun _ => ?_)))
  · unfold fL_law_J866; exact t_end hτ (by omega) rfl (by rw [mk89 (by decide)])
  rw [if_neg (by decide)]
  -- and again
  have hlast : lastR (mkA A N s 11 (lastU A N s) (-1) 0 0) (N + 1) s = ((N : Int), 0) := by
    unfold lastR
    rw [filt_app (S := Hs A s) mk_ext hI.1.2.2.2.2.1 (mk_TS hI hm.1.2) (fun a _ _ => by rw [mk_Hs hI hm.1.1 hm.1.2 hm.1.2, if_neg (by omega)]) (by rw [mk_Hs hI hm.1.1 hm.1.2 hm.1.2, if_pos ⟨rfl, rfl⟩]) (fun a _ _ h => by rw [mk_key]; exact mk_ltH hI hm.1.2 h), List.foldl_append]
    show rS (mkA A N s 11 (lastU A N s) (-1) 0 0) s _ _ (N : Int) = _
    refine rS_2 ⟨?_, ?_, ?_⟩
    · rw [Int.toNat_natCast, mk_tN (by decide) (by decide)]; rfl
    · rw [Int.toNat_natCast, mk_tN (by decide) (by decide)]; rfl
    · rw [Int.toNat_natCast, mk_tN (by decide) (by decide)]
      show (docOf (mkA A N s 11 (lastU A N s) (-1) 0 0) (N + 1) (Hs (mkA A N s 11 (lastU A N s) (-1) 0 0) s)).2 9 (lastU A N s).toNat ≠ 0
      rw [u9, if_pos rfl]; decide
  have l12 : mkA A N s 11 (lastU A N s) (-1) 0 0 12 (N : Int).toNat = lastU A N s := by rw [Int.toNat_natCast, mk_tN (by decide) (by decide)]; rfl
  have cr := co_redo hI1 hτ.2.1 hs (by rw [hlast]; show (N : Int) ≠ -1; omega) (by rw [hlast]) (by omega)
  rw [hlast] at cr
  have cr : wp (zw (fX5_redo 1000 τ (s : Int))) (OkZ τ (mkA (mkA A N s 11 (lastU A N s) (-1) 0 0) (N + 1) s 12 (mkA A N s 11 (lastU A N s) (-1) 0 0 12 (N : Int).toNat) (-1) 0 0) (N + 1 + 1) nm 0 (mkA A N s 11 (lastU A N s) (-1) 0 0 12 (N : Int).toNat)) := cr
  rw [l12] at cr
  generalize hA1 : mkA A N s 11 (lastU A N s) (-1) 0 0 = A1 at *
  have hm2 := okx (k := 12) (A := A1) (N := N + 1) (by omega) hs (by decide) hh1
  have hI2 := hI1.make hm2
  have lr1 : 0 ≤ lastU A N s ∧ lastU A N s < ((N + 1 : Nat) : Int) := ⟨lr.1, by omega⟩
  have a9 : A1 9 (lastU A N s).toNat = (s : Int) := by rw [← hA1, mk_t (by decide) (by decide), if_neg (by omega)]; exact lb'.1
  have a11 : A1 11 (lastU A N s).toNat ≤ 7 := by rw [← hA1, mk_t (by decide) (by decide), if_neg (by omega)]; exact lb'.2.1
  have hJ2 := hJ1.mk hI1 hm2 (fun q => by omega) (fun q => by omega) (fun _ => ⟨lr1, a9⟩)
  have w9 : ∀ i, (docOf (mkA A1 (N + 1) s 12 (lastU A N s) (-1) 0 0) (N + 1 + 1) (Hs (mkA A1 (N + 1) s 12 (lastU A N s) (-1) 0 0) s)).2 9 i = if i = (lastU A N s).toNat then 0 else (docOf A1 (N + 1) (Hs A1 s)).2 9 i := fun i => by
    rw [doc9_mk hI1 hm2 (Or.inr rfl) ⟨lr.1, by omega⟩ i]; rfl
  have hh2 : Hs (mkA A1 (N + 1) s 12 (lastU A N s) (-1) 0 0) s (lastU A N s) = true := by
    rw [mk_Hs hI1 (by omega) hs hs]; split
    · rfl
    · exact hh1
  refine wp_z cr FrC.rf (fun τ1 d1 g1 => ?_)
  rw [if_neg (fun q => q rfl)]
  refine wp_z (co_isUndone hI2 d1 hs hh2) g1 (fun τ2 d2 g2 => ?_)
  rw [w9, if_pos rfl, if_neg (fun q => q rfl)]
  unfold fL_law_J853
  refine wp_ck (by omega) (by omega) ?_
  refine t_own (fun v => v + 1) 1 hI2 d2 hJ2 hs (fun v => rfl) (fun t ht => ?_) (fun τ3 hτ3 => ?_)
  · rw [g2 290 t (by decide) (by decide), own_re hI1 hm2 lr1 a9 a11 (by rw [u9, if_pos rfl]; decide) ht, hτ.2.2.2 t ht]
    split <;> omega
  · unfold fL_law_J866
    exact t_end hτ3 (by omega) rfl (by rw [mk89 (by decide), ← hA1, mk89 (by decide)])
theorem bl_low (D : Dc) {u : Int} (h1 : 0 ≤ u) (h2 : u < 1 + cnt (brkB D) D.1) : isBl D u := ⟨h1, by omega⟩
theorem bl_r (hI : Inv A N nm 0) (hs : s < 4) : 0 ≤ cnt (brkB (docOf A N (Hs A s))) (docOf A N (Hs A s)).1 ∧ cnt (brkB (docOf A N (Hs A s))) (docOf A N (Hs A s)).1 ≤ 160 := by
  have h1 := cnt_le (brkB (docOf A N (Hs A s))) (docOf A N (Hs A s)).1
  have h2 := (hI.dk hs).2.2.2.2
  have h3 := hI.1.2.1
  omega
theorem t_prop {f : Int} (h : ST σ A N nm) (hs : s < 4) (hN : N < 155) (hf : isB f) : wp (fL_law_J892 1000 nm 0 σ x6 x7 x8 (N : Int) (nm : Int) (A 8 9) (s : Int) f) Fin := by
  have hI := h.1
  have hI1 : Inv (st A 250 s f) N nm 0 := hI.prop hf
  have hI2 : Inv (st (st A 250 s f) 250 s f) N nm 0 := hI1.prop hf
  have e2 : SaC A (st (st A 250 s f) 250 s f) := fun r hr => by rw [st_fn (by omega), st_fn (by omega)]
  unfold fL_law_J892
  refine wp_z (co_propose hI h.2.1 hs hf) FrC.rf (fun σ1 c1 f1 => ?_)
  refine wp_z (co_propose hI1 c1 hs hf) f1 (fun σ2 c2 f2 => ?_)
  rw [st_row, if_pos rfl, if_neg (fun q => q rfl)]
  have e89 : A 8 9 = st (st A 250 s f) 250 s f 8 9 := by rw [e2 8 (by decide)]
  have h2 : ST σ2 (st (st A 250 s f) 250 s f) N nm := ⟨hI2, c2, h.2.2.1.cur hI e2, fun t ht => by rw [f2 290 t (by decide) (by decide), own_cur hI.1 e2, h.2.2.2 t ht]⟩
  rw [e89]
  generalize st (st A 250 s f) 250 s f = B at h2
  unfold fL_law_J921
  refine wp_vl (wp_low (by decide) (fun r r1 r2 => wp_if (fun _ => ?_) (fun _ => ?_)))
  · unfold fL_law_J990; exact t_end h2 rfl rfl rfl
  rw [if_neg (by decide)]
  have br := bl_r (s := 0) h2.1 (by decide)
  refine wp_vl ?_
  refine wp_z (co_blocks (s := 0) h2.1 h2.2.1 (by decide)) FrC.rf (fun σ3 c3 f3 => ?_)
  refine wp_low ⟨by omega, by omega⟩ (fun u u1 u2 => wp_vl (wp_low (by decide) (fun a a1 a2 => wp_ck (by omega) (by omega) (wp_vl (wp_low (by decide) (fun z z1 z2 => ?_))))))
  have hb := bl_low _ u1 u2
  have bk := blN_k (h2.1.dk (s := 0) (by decide)).1 h2.1.1.2.1 hb
  have hm := ok10 (A := B) (N := N) (s := 0) (y := 1 + a) (z := z) (by omega) (by decide) bk (by omega) (by omega)
  refine wp_z (co_allow h2.1 c3 (by omega) hb (t := 1 + a) (z := z) (by omega) (by omega)) f3 (fun σ4 c4 f4 => ?_)
  rw [if_neg (fun q => q rfl)]
  unfold fL_law_J985 fL_law_J990
  refine wp_ck (by omega) (by omega) ?_
  refine t_end (A := mkA B N 0 10 (blN (docOf B N (Hs B 0)) u) (1 + a) z 0) (N := N + 1) ⟨h2.1.make hm, c4, h2.2.2.1.mk h2.1 hm (fun _ => by omega) (fun q => by omega) (fun q => by omega), fun t ht => ?_⟩ (by omega) rfl (by rw [mk89 (by decide)])
  rw [f4 290 t (by decide) (by decide), own_mk h2.1 hm (by omega) ht, h2.2.2.2 t ht, if_neg (fun w => by have := w.2; omega)]
  omega
theorem t_decide {pl : Int} (h : ST σ A N nm) (hN : N < 155) (hp : pl = -1 ∨ isEl (docOf A N (Hs A 0)) pl) : wp (fL_law_J1024 1000 nm 0 σ x6 x7 x8 (N : Int) (nm : Int) (A 8 9) 1 pl) Fin := by
  have hI := h.1
  have hs : (0 : Nat) < 4 := by decide
  unfold fL_law_J1024
  refine wp_if (fun _ => ?_) (fun h0 => ?_)
  · unfold fL_law_J1112; exact t_end h rfl rfl rfl
  have hw : isEl (docOf A N (Hs A 0)) pl := hp.resolve_left (fun q => h0 (by omega))
  have hel := elAt_in hw
  have dk := hI.dk hs
  have hrow := dk.1.row hI.1.2.1 hel.1
  refine wp_z (co_proposed (s := 0) hI h.2.1 hs hw) FrC.rf (fun σ1 c1 f1 => ?_)
  have h1 := h.fr c1 f1
  generalize hv2 : (if (ids N).any (fun a => decide ((docOf A N (Hs A 0)).2 8 a.toNat ≠ 0 ∧ gt A N 12 (-1) a = elAt (docOf A N (Hs A 0)) pl)) = true then (2 : Int) else 0) = v2
  have v2r : v2 = 0 ∨ v2 = 2 := by rw [← hv2]; split; exact Or.inr rfl; exact Or.inl rfl
  by_cases h4 : (docOf A N (Hs A 0)).2 4 (elAt (docOf A N (Hs A 0)) pl).toNat = 2
  · rw [if_pos h4, irm_ok ⟨by omega, by omega⟩ (by decide), if_neg (fun q => q (by omega))]
    refine wp_z (co_element (s := 0) hI c1 hs hw) f1 (fun σ2 c2 f2 => ?_)
    have hsn := hel.2
    have h6 : (docOf A N (Hs A 0)).2 6 (elAt (docOf A N (Hs A 0)) pl).toNat = 0 := by
      unfold seenB at hsn
      exact (of_decide_eq_true hsn).2.1
    have hh : Hs A 0 (elAt (docOf A N (Hs A 0)) pl) = true := (List.mem_filter.mp ((dk.2.1 _).mp hel.1).1).2
    have hmk := dk.1.2.1 _ hel.1
    generalize elAt (docOf A N (Hs A 0)) pl = e at hel hrow h4 hsn h6 hh hmk
    have okd : okD A N 0 e := by
      refine ⟨⟨?_, ?_⟩, by omega⟩
      · unfold openB
        rw [decide_eq_true hrow.1, decide_eq_true (show (docOf A N (Hs A 0)).2 4 e.toNat = 2 ∧ (docOf A N (Hs A 0)).2 6 e.toNat = 0 from ⟨h4, h6⟩)]
        rfl
      · exact if_neg (fun w => by have := w.1; omega)
    have fin : ∀ f : Int, wp (fL_law_J1070 1000 nm 0 σ2 x6 x7 x8 (N : Int) (nm : Int) (A 8 9) e f) Fin := by
      intro f
      have hk : (if f = 0 then (9 : Int) else 8) = 8 ∨ (if f = 0 then (9 : Int) else 8) = 9 := by split; exact Or.inr rfl; exact Or.inl rfl
      have hm := okx (A := A) (N := N) (s := 0) (k := if f = 0 then 9 else 8) (x := e) (by omega) hs (by omega) hh
      have lt := open_less hI hm hk hel.1 h4 h6
      have hI1 := hI.make hm
      unfold fL_law_J1070
      refine wp_z (co_openN (s := 0) hI c2 hs) f2 (fun σ3 c3 f3 => ?_)
      refine wp_z (co_decide (s := 0) (p := f) hI c3 hs hh okd) f3 (fun σ4 c4 f4 => ?_)
      rw [if_neg (fun q => q rfl)]
      refine wp_z (co_openN (s := 0) hI1 c4 hs) f4 (fun σ5 c5 f5 => ?_)
      rw [if_neg (by omega)]
      unfold fL_law_J1107 fL_law_J1112
      refine wp_ck (by omega) (by omega) ?_
      refine t_end (A := mkA A N 0 (if f = 0 then 9 else 8) e (-1) 0 0) (N := N + 1) ⟨hI1, c5, h.2.2.1.mk hI hm (fun q => by omega) (fun q => by omega) (fun q => by omega), fun t ht => ?_⟩ (by omega) rfl (by rw [mk89 (by omega)])
      rw [f5 290 t (by decide) (by decide), own_mk hI hm (by omega) ht, h.2.2.2 t ht, if_neg (fun w => by have := w.2; omega)]
      omega
    refine wp_vl (wp_low (by decide) (fun r r1 r2 => wp_if (fun _ => fin 0) (fun _ => fin 1)))
  · rw [if_neg h4, irm_ok ⟨by omega, by omega⟩ (by decide), if_pos (fun q => by omega)]
    unfold fL_law_J1112; exact t_end h1 rfl rfl rfl
theorem t_kind (h : ST σ A N nm) (hs : s < 4) (hN : N < 155) : wp (vl (bshr x8 4) (fun v14 => b2 (zw (fX5_blocks 1000 σ (s : Int))) (fun v16 σ15 => b1 (fL_low v14 v16) (fun v17 => vl (bshr x8 7) (fun v18 => b2 (zw (fX5_blocks 1000 σ15 (s : Int))) (fun v20 σ19 => ck (v20 + 1) (fun v21 => b1 (fL_low v18 v21) (fun v22 => ck (v22 - 1) (fun v23 => b2 (zw (fX5_level 1000 σ19 (s : Int) v17)) (fun v25 σ24 => if v25 ≠ 0 then (fL_law_J1233 1000 nm 0 σ24 x6 x7 x8 (N : Int) (nm : Int) (A 8 9) 1) else (vl (bshr x8 10) (fun v26 => b1 (fL_low v26 4) (fun v27 => b2 (zw (fX5_setKind 1000 σ24 (s : Int) v17 v27)) (fun v29 σ28 => if v29 ≠ (N : Int) then (fL_law_J1219 1000 nm 0 σ28 x6 x7 x8 (N : Int) (nm : Int) (A 8 9) (s : Int)) else (b2 (zw (fX5_kind 1000 σ28 (s : Int) v17)) (fun v31 σ30 => if v31 ≠ v27 then (fL_law_J1219 1000 nm 0 σ30 x6 x7 x8 (N : Int) (nm : Int) (A 8 9) (s : Int)) else (b2 (zw (fX5_nest 1000 σ30 (s : Int) v17 v23)) (fun v33 σ32 => ck ((N : Int) + 1) (fun v34 => if v33 ≠ v34 then (fL_law_J1219 1000 nm 0 σ32 x6 x7 x8 (N : Int) (nm : Int) (A 8 9) (s : Int)) else (fL_law_J1220 1000 nm 0 σ32 x6 x7 x8 (N : Int) (nm : Int) (A 8 9) (s : Int) 1)))))))))))))))))))) Fin := by
  have hI := h.1
  have br := bl_r hI hs
  have dk := hI.dk hs
  have hN160 := hI.1.2.1
  refine wp_vl ?_
  refine wp_z (co_blocks hI h.2.1 hs) FrC.rf (fun σ1 c1 f1 => ?_)
  refine wp_low ⟨by omega, by omega⟩ (fun b b1 b2 => wp_vl ?_)
  refine wp_z (co_blocks hI c1 hs) f1 (fun σ2 c2 f2 => ?_)
  refine wp_ck (by omega) (by omega) (wp_low ⟨by omega, by omega⟩ (fun u u1 u2 => wp_ck (by omega) (by omega) ?_))
  have hb := bl_low _ b1 b2
  have bk := blN_k dk.1 hN160 hb
  have hto : isTo (docOf A N (Hs A s)) (u - 1) := by
    by_cases q : u - 1 = -1
    · exact Or.inl q
    · exact Or.inr (bl_low _ (by omega) (by omega))
  refine wp_z (co_level hI c2 hs hb) f2 (fun σ3 c3 f3 => ?_)
  have h3 := h.fr c3 f3
  refine wp_if (fun _ => t_end h3 rfl rfl rfl) (fun hl => ?_)
  have hl0 : lev (docOf A N (Hs A s)) (s : Int) (blN (docOf A N (Hs A s)) b) = 0 := Decidable.byContradiction hl
  refine wp_vl (wp_low (by decide) (fun k k1 k2 => ?_))
  have hm := ok5 (A := A) (N := N) (z := k) (by omega) hs bk (by omega)
  have hI1 := hI.make hm
  have hJ1 := h.2.2.1.mk hI hm (fun q => by omega) (fun q => by omega) (fun q => by omega)
  refine wp_z (co_setKind hI c3 hs hb ⟨k1, k2⟩ ⟨hl0, by omega⟩) f3 (fun σ4 c4 f4 => ?_)
  rw [if_neg (fun q => q rfl)]
  have hD := kind_doc hI hm ⟨bk.1, by omega⟩ hl0
  have e89 := mk89 (A := A) (N := N) (s := s) (k := 5) (x := blN (docOf A N (Hs A s)) b) (y := -1) (z := k) (p := 0) (by decide)
  have ow := fun t (ht : t < 4) => own_mk hI hm (by omega) ht
  generalize hA1 : mkA A N s 5 (blN (docOf A N (Hs A s)) b) (-1) k 0 = A1 at *
  have hb1 : isBl (docOf A1 (N + 1) (Hs A1 s)) b := by rw [hD]; exact (kind_bl _ _ _).1.mpr hb
  have en : blN (docOf A1 (N + 1) (Hs A1 s)) b = blN (docOf A N (Hs A s)) b := by rw [hD]; exact (kind_bl _ _ _).2
  have hto1 : isTo (docOf A1 (N + 1) (Hs A1 s)) (u - 1) := by
    rcases hto with q | q
    · exact Or.inl q
    · refine Or.inr ?_
      rw [hD]; exact (kind_bl _ _ _).1.mpr q
  have hl1 : lev (docOf A1 (N + 1) (Hs A1 s)) (s : Int) (blN (docOf A1 (N + 1) (Hs A1 s)) b) = 0 := by
    rw [en, hD, kind_lev]; exact hl0
  refine wp_z (co_kind hI1 c4 hs hb1) f4 (fun σ5 c5 f5 => ?_)
  have ek : (docOf A1 (N + 1) (Hs A1 s)).2 10 (blN (docOf A1 (N + 1) (Hs A1 s)) b + 1).toNat = k := by
    rw [en, hD]
    show st (docOf A N (Hs A s)).2 10 _ k 10 _ = k
    rw [st_row, if_pos rfl]
  rw [ek, if_neg (fun q => q rfl)]
  have bk1 := blN_k (hI1.dk hs).1 hI1.1.2.1 hb1
  have hm2 := ok6 (A := A1) (N := N + 1) (by omega) hs bk1 (to_k hI1 hs hto1)
  have hI2 := hI1.make hm2
  refine wp_z (co_nest hI1 c5 hs hb1 hto1 ⟨hl1, by omega⟩) f5 (fun σ6 c6 f6 => ?_)
  refine wp_ck (by omega) (by omega) ?_
  rw [if_neg (fun q => q (by omega))]
  unfold fL_law_J1220
  refine wp_ck (by omega) (by omega) ?_
  refine t_own (fun v => v + 2) 2 hI2 c6 (hJ1.mk hI1 hm2 (fun q => by omega) (fun q => by omega) (fun q => by omega)) hs (fun v => rfl) (fun t ht => ?_) (fun τ hτ => t_end hτ (by omega) rfl (by rw [mk89 (by decide), e89]))
  rw [f6 290 t (by decide) (by decide), own_mk hI1 hm2 (by omega) ht, ow t ht, h.2.2.2 t ht]
  by_cases q : t = s
  · rw [if_pos ⟨q, by decide⟩, if_pos ⟨q, by decide⟩, if_pos q]; omega
  · rw [if_neg (fun w => q w.1), if_neg (fun w => q w.1), if_neg q]; omega
end RT3
