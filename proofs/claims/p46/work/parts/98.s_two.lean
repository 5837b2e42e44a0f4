/-! ===== a turn: to erase, to send, to undo, to propose, to decide, to set a kind ===== -/
section RT2
variable {σ τ A B : St} {N nm s t : Nat} {x6 x7 x8 : Int} {p : Int}
theorem mkL_more (hs : s < 4) (hp : isB p) : ∀ (L : List (Int × Int)) (A : St) (N : Nat), Inv A N nm 0 → JA A N → okL A N s L → N + L.length ≤ 160 → JA (mkL p s A N L) (N + L.length) ∧ (∀ t, t < 4 → ownC (mkL p s A N L) (N + L.length) t = ownC A N t + (if t = s then (L.length : Int) else 0)) ∧ mkL p s A N L 8 9 = A 8 9 := by
  intro L
  induction L with
  | nil =>
    intro A N hI hJ _ _
    refine ⟨hJ, fun t _ => ?_, rfl⟩
    show ownC A N t = ownC A N t + (if t = s then (0 : Int) else 0)
    split <;> omega
  | cons q L ih =>
    intro A N hI hJ h hl
    have hl' : N + (L.length + 1) ≤ 160 := hl
    have w := h q List.mem_cons_self
    have hm := ok23 (A := A) (N := N) (p := p) (by omega) hs hp w.1 w.2
    have w1 := w.1
    have hJ1 := hJ.mk hI hm (fun g => by omega) (fun g => by omega) (fun g => by omega)
    have r := ih _ (N + 1) (hI.make hm) hJ1 (h.step hI (by omega) hs) (by omega)
    rw [show N + (q :: L).length = N + 1 + L.length by rw [List.length_cons]; omega]
    refine ⟨r.1, fun t ht => ?_, ?_⟩
    · show ownC (mkL p s (mkA A N s q.1 q.2 (-1) 0 p) (N + 1) L) (N + 1 + L.length) t = _
      rw [r.2.1 t ht, own_mk hI hm (by omega) ht, List.length_cons]
      by_cases g : t = s
      · rw [if_pos g, if_pos g, if_pos ⟨g, by omega⟩]; omega
      · rw [if_neg g, if_neg g, if_neg (fun w => g w.1)]; omega
    · show mkL p s (mkA A N s q.1 q.2 (-1) 0 p) (N + 1) L 8 9 = _
      rw [r.2.2, mk89 (by omega)]
def erA (A : St) (N s : Nat) : St := cuA (mkL (A 250 s) s A N ((eEl A N s).map (fun x => (2, x)))) s (eC A N s) (eD A N s)
theorem er_inv (hI : Inv A N nm 0) (hs : s < 4) (ok : okE A N s) : Inv (erA A N s) (N + (eEl A N s).length) nm 0 ∧ Inv (mkL (A 250 s) s A N ((eEl A N s).map (fun x => (2, x)))) (N + (eEl A N s).length) nm 0 := by
  obtain ⟨oL, oLen, oC⟩ := eEl_ok hI hs ok
  have hb := (hI.2.1 s hs).1
  have oN : N + (eEl A N s).length ≤ 160 := by rw [oLen]; have := ok.2; omega
  have iv := mkL_inv (nm := nm) (nv := 0) hs hb _ A N hI oL (by rw [List.length_map]; exact oN)
  rw [List.length_map] at iv
  have e48 : mkL (A 250 s) s A N ((eEl A N s).map (fun x => (2, x))) 248 s = A 248 s := by rw [iv.2 248 (by decide)]
  have e49 : mkL (A 250 s) s A N ((eEl A N s).map (fun x => (2, x))) 249 s = A 249 s := by rw [iv.2 249 (by decide)]
  have c8 := iv.1.c8 hs
  have c9 := iv.1.c9 hs
  rw [e48] at c8
  rw [e49] at c9
  refine ⟨iv.1.cu hs ?_ ?_, iv.1⟩
  · unfold eC; split
    · exact c8
    · exact c9
  · unfold eD; split
    · exact c8
    · exact c9
theorem co_erase (hI : Inv A N nm 0) (hC : Cl σ A N nm 0) (hs : s < 4) (ok : okE A N s) : wp (zw (fX5_erase 1000 σ (s : Int))) (OkZ σ (erA A N s) (N + (eEl A N s).length) nm 0 (eCn A N s : Int)) := by
  have hN := hI.1.2.1
  have dk := hI.dk hs
  have hr := sel_r hI hs
  have hcr := thr_r (D := docOf A N (Hs A s)) (e := A 248 s)
  have htr := thr_r (D := docOf A N (Hs A s)) (e := A 249 s)
  have hlen := dk.2.2.2.2
  have hle : eLo A N s ≤ selHi A N s := by unfold eLo; split <;> omega
  have cls : ∀ {Q : Nat × Int × St → Prop}, (∀ σ3, isP σ3 (20 + 40 * s + 10) (docOf A N (Hs A s)) → Cl σ3 A N nm 0 → FrC σ σ3 → wp (fX5_erase_J62 1000 σ3 (s : Int) (20 + 40 * s) (20 + 40 * s + 10) (thr (docOf A N (Hs A s)) (A 248 s)) (thr (docOf A N (Hs A s)) (A 249 s)) (eLo A N s) (selHi A N s)) Q) → wp (fX5_erase 1000 σ (s : Int)) Q := by
    intro Q hK
    unfold fX5_erase
    refine c_openS hI.1 hC hs (by decide) (fun σ3 p1 p2 p3 => ?_)
    have w := p2.site hs
    rw [w.2.2.2.2.1, w.2.2.2.2.2.1]
    refine wp_b1e (q_seenThrough p1 (by decide) _) (wp_b1e (q_seenThrough p1 (by decide) _) (wp_vl (wp_vl ?_)))
    have go := hK σ3 p1 p2 p3
    show wp (if selLo A N s ≠ selHi A N s then (fX5_erase_J62 1000 σ3 (s : Int) (20 + 40 * s) (20 + 40 * s + 10) (thr (docOf A N (Hs A s)) (A 248 s)) (thr (docOf A N (Hs A s)) (A 249 s)) (selLo A N s) (selHi A N s)) else (ck (thr (docOf A N (Hs A s)) (A 248 s) - 1) (fun v9 => fX5_erase_J62 1000 σ3 (s : Int) (20 + 40 * s) (20 + 40 * s + 10) (thr (docOf A N (Hs A s)) (A 248 s)) (thr (docOf A N (Hs A s)) (A 249 s)) v9 (selHi A N s)))) Q
    by_cases g : selLo A N s = selHi A N s
    · have e : eLo A N s = thr (docOf A N (Hs A s)) (A 248 s) - 1 := by
        have g2 := hr.2.2.2.2.mp g
        unfold eLo
        rw [if_pos g]
        unfold selLo imin
        rw [if_neg (by omega)]
      rw [if_neg (fun w => w g)]
      refine wp_ck (by omega) (by omega) ?_
      rw [← e]; exact go
    · have e : eLo A N s = selLo A N s := by unfold eLo; rw [if_neg g]
      rw [if_pos g, ← e]; exact go
  obtain ⟨oL, oLen, oC⟩ := eEl_ok hI hs ok
  have hb := (hI.2.1 s hs).1
  have oN : N + (eEl A N s).length ≤ 160 := by rw [oLen]; have := ok.2; omega
  have iv := mkL_inv (nm := nm) (nv := 0) hs hb _ A N hI oL (by rw [List.length_map]; exact oN)
  rw [List.length_map] at iv
  have e48 : mkL (A 250 s) s A N ((eEl A N s).map (fun x => (2, x))) 248 s = A 248 s := by rw [iv.2 248 (by decide)]
  have e49 : mkL (A 250 s) s A N ((eEl A N s).map (fun x => (2, x))) 249 s = A 249 s := by rw [iv.2 249 (by decide)]
  have hc160 : eCn A N s ≤ 160 := by have := ok.2; omega
  refine OkC.z (cls (fun σ3 p1 p2 p3 => ?_))
  unfold fX5_erase_J62
  rw [if_pos ok.1]
  refine wp_ck (by omega) (by omega) ?_
  rw [xw_ok (by rw [c_room p2, if_pos (by have := ok.2; omega)])]
  refine wp_b2 (c_pick p1 (by omega) ⟨ok.1, hle⟩ hr.2.2.1 (by decide)) (fun v σ4 q => ?_)
  obtain ⟨q1, q2, q3⟩ := q
  have q1' : v = selHi A N s - eLo A N s := q1
  have q2' : ∀ a, a ≠ 4 → σ4 a = σ3 a := q2
  have q3' : ∀ i : Nat, (i : Int) < selHi A N s - eLo A N s → σ4 4 i = elAt (docOf A N (Hs A s)) (eLo A N s + i) := q3
  have c4 : Cl σ4 A N nm 0 := p2.r4 (fun a ha => q2' a (by omega))
  rw [q1', ← oC]
  refine c_eraseL (n := 1000) (y := (s : Int)) hs (by decide) (eEl A N s) A N σ4 0 1000 hI c4 oL (by omega) hc160 oN (by omega) (by
    rw [oLen]
    unfold eEl
    exact seg_congr (fun j _ hj => q3' j (by omega))) (fun σ5 c5 f5 => ?_)
  have f6 : FrC σ σ5 := p3.tr (FrC.tr (fun a b h1 h2 => by rw [q2' a (by omega)]) f5)
  have w8 : σ5 (20 + 40 * s) 8 = A 248 s := (c5.site hs).2.2.2.2.1.trans e48
  have w9 : σ5 (20 + 40 * s) 9 = A 249 s := (c5.site hs).2.2.2.2.2.1.trans e49
  unfold fX5_erase_J146
  by_cases g : thr (docOf A N (Hs A s)) (A 248 s) ≤ thr (docOf A N (Hs A s)) (A 249 s)
  · rw [if_pos g]
    have ec : eC A N s = A 248 s := if_pos g
    by_cases g2 : thr (docOf A N (Hs A s)) (A 249 s) ≤ thr (docOf A N (Hs A s)) (A 248 s)
    · rw [if_pos g2]
      have ed : eD A N s = A 249 s := if_neg (by omega)
      refine wp_some ⟨rfl, fun _ => rfl, ?_, f6⟩
      exact c5.cu iv.1.1 hs (fun a b _ => rfl) (w8.trans ec.symm) (w9.trans ed.symm)
    · rw [if_neg g2]
      have ed : eD A N s = A 248 s := if_pos (by omega)
      refine wp_pf (wp_some ⟨rfl, fun _ => rfl, ?_, f6.upd (by omega)⟩)
      rw [w8]
      refine c5.cu iv.1.1 hs (fun a b hab => ?_) ?_ ?_
      · show st σ5 (20 + 40 * s) 9 (A 248 s) a b = σ5 a b
        by_cases q : a = 20 + 40 * s
        · rw [q, st_row, if_neg (by omega)]
        · rw [st_ne q]
      · show st σ5 (20 + 40 * s) 9 (A 248 s) (20 + 40 * s) 8 = _
        rw [st_row, if_neg (by decide), w8, ec]
      · show st σ5 (20 + 40 * s) 9 (A 248 s) (20 + 40 * s) 9 = _
        rw [st_row, if_pos rfl, ed]
  · rw [if_neg g]
    have ec : eC A N s = A 249 s := if_neg g
    have ed : eD A N s = A 249 s := if_neg (by omega)
    refine wp_pf (wp_some ⟨rfl, fun _ => rfl, ?_, f6.upd (by omega)⟩)
    rw [w9]
    refine c5.cu iv.1.1 hs (fun a b hab => ?_) ?_ ?_
    · show st σ5 (20 + 40 * s) 8 (A 249 s) a b = σ5 a b
      by_cases q : a = 20 + 40 * s
      · rw [q, st_row, if_neg (by omega)]
      · rw [st_ne q]
    · show st σ5 (20 + 40 * s) 8 (A 249 s) (20 + 40 * s) 8 = _
      rw [st_row, if_pos rfl, ec]
    · show st σ5 (20 + 40 * s) 8 (A 249 s) (20 + 40 * s) 9 = _
      rw [st_row, if_neg (by decide), w9, ed]
theorem t_er307 (h : ST σ A N nm) (hs : s < 4) (h0 : 0 ≤ eLo A N s) : wp (fL_law_J307 1000 nm 0 σ x6 x7 x8 (N : Int) (nm : Int) (A 8 9) (s : Int) 1 (eCn A N s : Int)) Fin := by
  have hr := sel_r h.1 hs
  have hN := h.1.1.2.1
  have hc : (eCn A N s : Int) ≤ 320 := by unfold eCn eLo; split <;> omega
  unfold fL_law_J307
  refine wp_ck (by omega) (by omega) (wp_if (fun _ => ?_) (fun q => ?_))
  · unfold fL_law_J364; exact t_end h rfl rfl rfl
  have ok : okE A N s := ⟨h0, by omega⟩
  obtain ⟨oL, oLen, oC⟩ := eEl_ok h.1 hs ok
  have iv := er_inv h.1 hs ok
  have mo := mkL_more (nm := nm) hs (h.1.2.1 s hs).1 _ A N h.1 h.2.2.1 oL (by rw [List.length_map, oLen]; omega)
  rw [List.length_map] at mo
  refine wp_z (co_erase h.1 h.2.1 hs ok) FrC.rf (fun σ1 c1 f1 => ?_)
  rw [if_neg (fun w => w rfl)]
  refine wp_b1e (co_acts c1) (wp_ck (by omega) (by omega) ?_)
  rw [if_neg (fun w => w (by rw [oLen]; omega))]
  unfold fL_law_J348
  refine wp_ck (by omega) (by omega) ?_
  refine t_own (fun v => v + (eCn A N s : Int)) (eCn A N s : Int) iv.1 c1 (mo.1.cur iv.2 cu_c) hs (fun v => rfl) (fun t ht => ?_) (fun τ hτ => ?_)
  · unfold erA
    rw [f1 290 t (by decide) (by decide), own_cur iv.2.1 cu_c, mo.2.1 t ht, h.2.2.2 t ht, oLen]
    split <;> omega
  · unfold fL_law_J364
    exact t_end hτ (by rw [oLen]; omega) rfl (by unfold erA; rw [cu_89, mo.2.2])
theorem t_er291 (h : ST σ A N nm) (hs : s < 4) : wp (b2 (zw (fX5_cursor 1000 σ (s : Int))) (fun v88 σ87 => b2 (zw (fX5_tail 1000 σ87 (s : Int))) (fun v90 σ89 => ck (v88 - v90) (fun v91 => if v91 ≠ 0 then (if 0 ≤ v91 then (fL_law_J291 1000 nm 0 σ89 x6 x7 x8 (N : Int) (nm : Int) (A 8 9) (s : Int) (if thr (docOf A N (Hs A s)) (A 248 s) = thr (docOf A N (Hs A s)) (A 249 s) then 0 else 1) 1 v91) else (ck (-v91) (fun v92 => fL_law_J291 1000 nm 0 σ89 x6 x7 x8 (N : Int) (nm : Int) (A 8 9) (s : Int) (if thr (docOf A N (Hs A s)) (A 248 s) = thr (docOf A N (Hs A s)) (A 249 s) then 0 else 1) 1 v92))) else (fL_law_J291 1000 nm 0 σ89 x6 x7 x8 (N : Int) (nm : Int) (A 8 9) (s : Int) (if thr (docOf A N (Hs A s)) (A 248 s) = thr (docOf A N (Hs A s)) (A 249 s) then 0 else 1) 1 1))))) Fin := by
  have hI := h.1
  have hr := sel_r hI hs
  have c1r := thr_r (D := docOf A N (Hs A s)) (e := A 248 s)
  have c2r := thr_r (D := docOf A N (Hs A s)) (e := A 249 s)
  have hl : lenA A N s ≤ 160 := (len_r hI hs).2
  unfold lenA at hl
  have sa := sel_abs hI hs
  refine wp_z (co_cursor hI h.2.1 hs) FrC.rf (fun σ1 c1 f1 => ?_)
  refine wp_z (co_tail hI c1 hs) f1 (fun σ2 c2 f2 => ?_)
  have h2 := h.fr c2 f2
  refine wp_ck (by omega) (by omega) (wp_if (fun q => ?_) (fun q => ?_))
  · have hne : thr (docOf A N (Hs A s)) (A 248 s) ≠ thr (docOf A N (Hs A s)) (A 249 s) := fun w => q (by omega)
    have ns : selLo A N s ≠ selHi A N s := fun w => hne (hr.2.2.2.2.mp w)
    have e0 : eLo A N s = selLo A N s := if_neg ns
    have ec : (eCn A N s : Int) = selHi A N s - selLo A N s := by unfold eCn; rw [e0]; omega
    rw [if_neg hne]
    have fin : ∀ d : Int, d = selHi A N s - selLo A N s → wp (fL_law_J291 1000 nm 0 σ2 x6 x7 x8 (N : Int) (nm : Int) (A 8 9) (s : Int) 1 1 d) Fin := fun d hd => by
      rw [hd, ← ec]
      unfold fL_law_J291
      rw [if_pos (by decide)]
      exact t_er307 h2 hs (by rw [e0]; exact hr.1)
    refine wp_if (fun w => fin _ ?_) (fun w => wp_ck (by omega) (by omega) (fin _ ?_))
    · rw [sa, if_pos w]
    · rw [sa, if_neg w]
  · have he : thr (docOf A N (Hs A s)) (A 248 s) = thr (docOf A N (Hs A s)) (A 249 s) := by omega
    have ns : selLo A N s = selHi A N s := hr.2.2.2.2.mpr he
    have e0 : eLo A N s = selLo A N s - 1 := if_pos ns
    have es : selLo A N s = thr (docOf A N (Hs A s)) (A 248 s) := by unfold selLo imin; split <;> omega
    rw [if_pos he]
    unfold fL_law_J291
    rw [if_neg (fun w => w rfl)]
    refine wp_z (co_cursor hI c2 hs) f2 (fun σ3 c3 f3 => ?_)
    have h3 := h.fr c3 f3
    refine wp_if (fun _ => ?_) (fun w => ?_)
    · unfold fL_law_J364; exact t_end h3 rfl rfl rfl
    · have ec : (eCn A N s : Int) = 1 := by unfold eCn; rw [e0]; omega
      have z := t_er307 (x6 := x6) (x7 := x7) (x8 := x8) h3 hs (by omega)
      rw [ec] at z
      exact z
theorem t_send (h : ST σ A N nm) (hs : s < 4) (ht : t < 4) (hne : s ≠ t) (hm : nm < 78) : wp (b2 (zw (fX5_has σ (t : Int))) (fun v53 σ52 => b2 (zw (fX5_send 1000 nm 0 σ52 (s : Int) (t : Int))) (fun v55 σ54 => b2 (zw (fX5_deliver 1000 σ54 v55)) (fun v57 σ56 => b2 (zw (fX5_has σ56 (t : Int))) (fun v59 σ58 => ck (v59 - v53) (fun v60 => if v57 ≠ v60 then (fL_law_J687 1000 (nm + 1) 0 σ58 x6 x7 x8 (N : Int) (nm : Int) (A 8 9) (s : Int) (t : Int) 0) else (fL_law_J687 1000 (nm + 1) 0 σ58 x6 x7 x8 (N : Int) (nm : Int) (A 8 9) (s : Int) (t : Int) 1))))))) Fin := by
  have hI := h.1
  have hN := hI.1.2.1
  -- there
  have hI1 : Inv (sdA A s (t : Int) nm) N (nm + 1) 0 := hI.snd' hs (by omega) ⟨by omega, by omega⟩
  have g1 : SaG A (sdA A s (t : Int) nm) := sd_g
  refine wp_z (co_has h.2.1 ht) FrC.rf (fun σ1 c1 f1 => ?_)
  refine wp_z (co_send hI c1 hs (y := (t : Int)) ⟨by omega, by omega⟩ (by omega) (by omega)) f1 (fun σ2 c2 f2 => ?_)
  have es1 : sdA A s (t : Int) nm 254 nm = (t : Int) := by rw [sd_254, if_pos rfl]
  refine wp_z (co_deliver hI1 c2 (Nat.lt_succ_self nm) ht es1) f2 (fun σ3 c3 f3 => ?_)
  obtain ⟨hI2, r2, o2, u2, z2, y2⟩ := dv_facts hI1 c2 (Nat.lt_succ_self nm) ht
  have m1 : ∀ x, Ms (sdA A s (t : Int) nm) nm x = Hs A s x := fun x => by
    unfold Ms Hs
    by_cases q : num x
    · have q' : 0 ≤ x ∧ x < 160 := q
      rw [sd_255 _ _ (by omega), if_pos rfl]
    · rw [decide_eq_false (fun w => q w.1), decide_eq_false (fun w => q w.1)]
  rw [← z2]
  generalize hA2 : dvA (sdA A s (t : Int) nm) N t nm = A2 at c3 hI2 r2 o2 u2 z2 y2 ⊢
  refine wp_z (co_has c3 ht) f3 (fun σ4 c4 f4 => ?_)
  have l1 := JL_len hI2 ht
  have l0 := JL_len hI ht
  have e245 : sdA A s (t : Int) nm 245 t = A 245 t := by rw [sd_o (by decide)]
  refine wp_ck (by omega) (by omega) ?_
  rw [if_neg (fun w => w (by rw [e245]))]
  -- and back
  unfold fL_law_J687
  have hI3 : Inv (sdA A2 t (s : Int) (nm + 1)) N (nm + 1 + 1) 0 := hI2.snd' ht (by omega) ⟨by omega, by omega⟩
  refine wp_z (co_send hI2 c4 ht (y := (s : Int)) ⟨by omega, by omega⟩ (by omega) (by omega)) f4 (fun σ5 c5 f5 => ?_)
  have es3 : sdA A2 t (s : Int) (nm + 1) 254 (nm + 1) = (s : Int) := by rw [sd_254, if_pos rfl]
  refine wp_z (co_deliver hI3 c5 (Nat.lt_succ_self _) hs es3) f5 (fun σ6 c6 f6 => ?_)
  obtain ⟨hI4, r4, o4, u4, z4, y4⟩ := dv_facts hI3 c5 (Nat.lt_succ_self _) hs
  have m3 : ∀ x, Ms (sdA A2 t (s : Int) (nm + 1)) (nm + 1) x = Hs A2 t x := fun x => by
    unfold Ms Hs
    by_cases q : num x
    · have q' : 0 ≤ x ∧ x < 160 := q
      rw [sd_255 _ _ (by omega), if_pos rfl]
    · rw [decide_eq_false (fun w => q w.1), decide_eq_false (fun w => q w.1)]
  have k3 : ∀ r, 8 ≤ r → r ≤ 16 → sdA A2 t (s : Int) (nm + 1) r = A2 r := fun r h1 h2 => sd_o (by omega)
  have hs3 : ∀ r, Hs (sdA A2 t (s : Int) (nm + 1)) r = Hs A2 r := fun r => sd_g.hs r
  have es4 : dvA (sdA A2 t (s : Int) (nm + 1)) N s (nm + 1) 254 (nm + 1) = (s : Int) := by rw [r4 254 (by decide)]; exact es3
  have m4 : Ms (dvA (sdA A2 t (s : Int) (nm + 1)) N s (nm + 1)) (nm + 1) = Ms (sdA A2 t (s : Int) (nm + 1)) (nm + 1) := by
    funext x; unfold Ms; rw [r4 255 (by decide)]
  generalize hA3 : sdA A2 t (s : Int) (nm + 1) = A3 at hI3 es3 c5 c6 hI4 r4 o4 u4 z4 y4 m3 k3 hs3 es4 m4
  generalize hA4 : dvA A3 N s (nm + 1) = A4 at c6 hI4 r4 o4 u4 z4 y4 es4 m4
  refine wp_ck (by omega) (by omega) ?_
  rw [if_neg (by decide)]
  refine wp_ck (by omega) (by omega) ?_
  rw [show (nm : Int) + 2 - 1 = ((nm + 1 : Nat) : Int) by omega]
  -- once more
  have u4' : ∀ x, Hs A4 s x = (Hs A s x || Hs A2 t x) := fun x => by
    rw [u4 x, m3 x, hs3]
    rw [o2 s hs hne, g1.hs]
  have t4 : ∀ x, Hs A4 t x = Hs A2 t x := fun x => by rw [o4 t ht (fun q => hne q.symm), hs3]
  have u2' : ∀ x, Hs A2 t x = (Hs A t x || Hs A s x) := fun x => by rw [u2 x, m1 x, g1.hs]
  have same : dlA A4 s ((OL A4 N).filter (Ms A4 (nm + 1))) = A4 := dl_id _ A4 (fun a ha => by
    have w := (List.mem_filter.mp ha).2
    rw [m4, m3] at w
    rw [u4', w, Bool.or_true])
  have d5 := co_deliver hI4 c6 (Nat.lt_succ_self (nm + 1)) hs es4
  obtain ⟨hI5, r5, o5, u5, z5, y5⟩ := dv_facts hI4 c6 (Nat.lt_succ_self (nm + 1)) hs
  have s5 : Hs (dvA A4 N s (nm + 1)) s = Hs A4 s := by
    funext x
    rw [u5 x]
    cases hx : Ms A4 (nm + 1) x with
    | false => rw [Bool.or_false]
    | true =>
      rw [m4, m3] at hx
      rw [Bool.or_true, u4', hx, Bool.or_true]
  have t5 : Hs (dvA A4 N s (nm + 1)) t = Hs A4 t := o5 t ht (fun q => hne q.symm)
  rw [same] at d5
  generalize hA5 : dvA A4 N s (nm + 1) = A5 at d5 hI5 r5 o5 u5 z5 y5 s5 t5
  refine wp_z d5 f6 (fun σ7 c7 f7 => ?_)
  rw [if_neg (fun w => w (by omega))]
  have he : Hs A5 s = Hs A5 t := by
    funext x
    rw [s5, t5, u4', t4, u2']
    cases Hs A s x <;> cases Hs A t x <;> rfl
  refine wp_b2 (alike_ok hI5 c7 hs ht he) (fun v τ q => ?_)
  obtain ⟨q1, q2, q3⟩ := q
  have q1' : v = 1 := q1
  subst q1'
  rw [if_neg (by decide)]
  unfold fL_law_J737
  have k5 : SaT A A5 := fun r h1 h2 => by
    rw [r5 r (by omega), r4 r (by omega), k3 r h1 h2, r2 r (by omega)]; exact sd_o (by omega)
  have up : ∀ r a, r < 4 → Hs A r a = true → Hs A5 r a = true := fun r a hr ha => by
    by_cases q : r = s
    · rw [q] at ha ⊢; rw [s5, u4', ha]; rfl
    · by_cases q2 : r = t
      · rw [q2] at ha ⊢; rw [t5, t4, u2', ha]; rfl
      · rw [o5 r hr q, o4 r hr q, hs3, o2 r hr q2, g1.hs]; exact ha
  refine t_end (A := A5) (N := N) (nm := nm + 1 + 1) ⟨hI5, q2, h.2.2.1.more hI k5 up, fun r hr => ?_⟩ rfl (by omega) (by rw [k5 8 (by decide) (by decide)])
  have q3' : FrC σ7 τ := q3
  rw [q3' 290 r (by decide) (by decide), f7 290 r (by decide) (by decide), own_more h.2.2.1 hI k5 hr (fun a => up r a hr), h.2.2.2 r hr]
end RT2
