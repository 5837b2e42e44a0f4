/-! ===== the law of its own: each call of the class, where it is no refusal ===== -/
section CO
variable {σ A : St} {N nm nv s : Nat}
/-- a call's answer and what it leaves -/
def OkZ (σ A : St) (N nm nv : Nat) (v : Int) (r : Int × St) : Prop := r.1 = v ∧ Cl r.2 A N nm nv ∧ FrC σ r.2
theorem OkC.z {m : Option (Nat × Int × St)} {v : Int} (h : wp m (OkC σ A N nm nv 0 v)) : wp (zw m) (OkZ σ A N nm nv v) := by
  obtain ⟨⟨c, w, τ⟩, hm, h1, h2, h3, h4⟩ := h
  have h1' : c = 0 := h1
  subst h1'
  rw [hm]
  exact ⟨_, rfl, h2 rfl, h3, h4⟩
theorem s_in (hs : s < 4) : 0 ≤ (s : Int) ∧ (s : Int) < 4 := ⟨by omega, by omega⟩
theorem c_siteS (hs : s < 4) : fX5_siteAt σ (s : Int) = some (0, 20 + 40 * s, σ) := by
  rw [c_siteAt (s_in hs), Int.toNat_natCast]
theorem c_openS {n : Nat} {Q : Nat × Int × St → Prop} {K : Nat → Nat → St → Option (Nat × Int × St)} (hI : In1 A N) (h : Cl σ A N nm nv) (hs : s < 4) (hn : 200 ≤ n)
    (hK : ∀ σ3, isP σ3 (20 + 40 * s + 10) (docOf A N (Hs A s)) → Cl σ3 A N nm nv → FrC σ σ3 → wp (K (20 + 40 * s) (20 + 40 * s + 10) σ3) Q) :
    wp (xw 0 (fX5_siteAt σ (s : Int)) (fun o2 σ1 => b2 (fX5_paperOf n σ1 o2) (fun o4 σ3 => K o2 o4 σ3))) Q := by
  rw [xw_ok (c_siteS hs)]
  refine wp_b2 (c_paperOf hI h hs hn) (fun o τ q => ?_)
  obtain ⟨q1, q2, q3, q4⟩ := q
  have q1' : o = 20 + 40 * s + 10 := q1
  subst q1'
  exact hK τ q2 q3 q4
/-- a question: one number of the site's document -/
theorem co_plain {n : Nat} {v : Int} {K : Nat → Nat → St → Option Int} (hI : Inv A N nm nv) (hC : Cl σ A N nm nv) (hs : s < 4) (hn : 200 ≤ n)
    (hK : ∀ σ3, isP σ3 (20 + 40 * s + 10) (docOf A N (Hs A s)) → Cl σ3 A N nm nv → K (20 + 40 * s) (20 + 40 * s + 10) σ3 = some v) :
    wp (zw (xw 0 (fX5_siteAt σ (s : Int)) (fun o2 σ1 => b2 (fX5_paperOf n σ1 o2) (fun o4 σ3 => b1 (K o2 o4 σ3) (fun v5 => some (0, v5, σ3)))))) (OkZ σ A N nm nv v) :=
  OkC.z (c_openS hI.1 hC hs hn (fun σ3 p1 p2 p3 => wp_b1e (hK σ3 p1 p2) (wp_some ⟨rfl, fun _ => rfl, p2, p3⟩)))
/-- how many are seen -/
def lenA (A : St) (N s : Nat) : Int := cnt (seenB (docOf A N (Hs A s))) (docOf A N (Hs A s)).1
theorem co_length (hI : Inv A N nm nv) (hC : Cl σ A N nm nv) (hs : s < 4) : wp (zw (fX5_length 1000 σ (s : Int))) (OkZ σ A N nm nv (lenA A N s)) :=
  co_plain (K := fun _ o4 σ3 => fX3_countSeen 1000 σ3 o4) hI hC hs (by decide) (fun _ p1 _ => q_countSeen p1 (by decide))
theorem co_shown (hI : Inv A N nm nv) (hC : Cl σ A N nm nv) (hs : s < 4) : wp (zw (fX5_shown 1000 σ (s : Int))) (OkZ σ A N nm nv (cnt (shownB (docOf A N (Hs A s))) (docOf A N (Hs A s)).1)) :=
  co_plain (K := fun _ o4 σ3 => fX3_countShown 1000 σ3 o4) hI hC hs (by decide) (fun _ p1 _ => q_countShown p1 (by decide))
theorem co_cursor (hI : Inv A N nm nv) (hC : Cl σ A N nm nv) (hs : s < 4) : wp (zw (fX5_cursor 1000 σ (s : Int))) (OkZ σ A N nm nv (thr (docOf A N (Hs A s)) (A 248 s))) :=
  co_plain (K := fun o2 o4 σ3 => fX3_seenThrough 1000 σ3 o4 (σ3 o2 8)) hI hC hs (by decide) (fun _ p1 p2 => by rw [(p2.site hs).2.2.2.2.1]; exact q_seenThrough p1 (by decide) _)
theorem co_tail (hI : Inv A N nm nv) (hC : Cl σ A N nm nv) (hs : s < 4) : wp (zw (fX5_tail 1000 σ (s : Int))) (OkZ σ A N nm nv (thr (docOf A N (Hs A s)) (A 249 s))) :=
  co_plain (K := fun o2 o4 σ3 => fX3_seenThrough 1000 σ3 o4 (σ3 o2 9)) hI hC hs (by decide) (fun _ p1 p2 => by rw [(p2.site hs).2.2.2.2.2.1]; exact q_seenThrough p1 (by decide) _)
theorem co_blocks (hI : Inv A N nm nv) (hC : Cl σ A N nm nv) (hs : s < 4) : wp (zw (fX5_blocks 1000 σ (s : Int))) (OkZ σ A N nm nv (1 + cnt (brkB (docOf A N (Hs A s))) (docOf A N (Hs A s)).1)) :=
  co_plain (K := fun _ o4 σ3 => fX3_countBlocks 1000 σ3 o4) hI hC hs (by decide) (fun _ p1 _ => q_countBlocks p1 (by decide))
theorem co_graves (hI : Inv A N nm nv) (hC : Cl σ A N nm nv) (hs : s < 4) : wp (zw (fX5_graves 1000 σ (s : Int))) (OkZ σ A N nm nv (((docOf A N (Hs A s)).1.length : Int) - lenA A N s)) :=
  co_plain (K := fun _ o4 σ3 => fX3_countGraves 1000 σ3 o4) hI hC hs (by decide) (fun _ p1 _ => q_countGraves p1 (by decide))
theorem co_openN (hI : Inv A N nm nv) (hC : Cl σ A N nm nv) (hs : s < 4) : wp (zw (fX5_open 1000 σ (s : Int))) (OkZ σ A N nm nv (cnt (openB A N (docOf A N (Hs A s))) (ids N))) :=
  co_plain (K := fun _ o4 σ3 => fX3_countOpen 1000 σ3 o4) hI hC hs (by decide) (fun _ p1 p2 => q_countOpen p1 p2.1 (by decide))
theorem co_acts (hC : Cl σ A N nm nv) : fX5_acts σ = some (N : Int) := by unfold fX5_acts; rw [hC.1.made]
theorem co_has (hC : Cl σ A N nm nv) (hs : s < 4) : wp (zw (fX5_has σ (s : Int))) (OkZ σ A N nm nv (A 245 s)) := by
  refine OkC.z ?_
  unfold fX5_has
  rw [xw_ok (c_siteS hs)]
  exact wp_some ⟨rfl, fun _ => (hC.site hs).2.2.2.2.2.2.1, hC, FrC.rf⟩
/-- a question about an element that is seen -/
theorem co_el {n : Nat} {w v : Int} {K : Nat → Nat → Int → St → Option (Nat × Int × St)} (hI : Inv A N nm nv) (hC : Cl σ A N nm nv) (hs : s < 4) (hn : 200 ≤ n) (hw : isEl (docOf A N (Hs A s)) w)
    (hK : ∀ σ3, isP σ3 (20 + 40 * s + 10) (docOf A N (Hs A s)) → Cl σ3 A N nm nv → K (20 + 40 * s) (20 + 40 * s + 10) (elAt (docOf A N (Hs A s)) w) σ3 = some (0, v, σ3)) :
    wp (zw (xw 0 (fX5_siteAt σ (s : Int)) (fun o2 σ1 => b2 (fX5_paperOf n σ1 o2) (fun o4 σ3 => xw 0 (fX5_elementAt n σ3 o4 w) (fun v6 σ5 => K o2 o4 v6 σ5))))) (OkZ σ A N nm nv v) :=
  OkC.z (c_openS hI.1 hC hs hn (fun σ3 p1 p2 p3 => by
    rw [xw_ok (c_elementAt p1 (hI.dk hs).1 hI.1.2.1 (by omega) hw), hK σ3 p1 p2]
    exact wp_some ⟨rfl, fun _ => rfl, p2, p3⟩))
theorem co_element {w : Int} (hI : Inv A N nm nv) (hC : Cl σ A N nm nv) (hs : s < 4) (hw : isEl (docOf A N (Hs A s)) w) : wp (zw (fX5_element 1000 σ (s : Int) w)) (OkZ σ A N nm nv (elAt (docOf A N (Hs A s)) w)) :=
  co_el (K := fun _ _ v6 σ5 => some (0, v6, σ5)) hI hC hs (by decide) hw (fun _ _ _ => rfl)
theorem co_letter {w : Int} (hI : Inv A N nm nv) (hC : Cl σ A N nm nv) (hs : s < 4) (hw : isEl (docOf A N (Hs A s)) w) : wp (zw (fX5_letter 1000 σ (s : Int) w)) (OkZ σ A N nm nv (A 14 (elAt (docOf A N (Hs A s)) w).toNat % 65536)) :=
  co_el (K := fun _ _ v6 σ5 => b1 (fX1_valueOf σ5 v6) (fun v7 => vl (v7 % 65536) (fun v8 => some (0, v8, σ5)))) hI hC hs (by decide) hw (fun σ3 p1 p2 => by
    have he := (hI.dk hs).1.row hI.1.2.1 (elAt_in hw).1
    have h0 : 0 ≤ elAt (docOf A N (Hs A s)) w := he.1.1
    rw [b1_ok (q_valueOf p2.1 _), gt_i ⟨h0, he.2⟩, vl_ok])
theorem co_proposed {w : Int} (hI : Inv A N nm nv) (hC : Cl σ A N nm nv) (hs : s < 4) (hw : isEl (docOf A N (Hs A s)) w) : wp (zw (fX5_proposed 1000 σ (s : Int) w)) (OkZ σ A N nm nv ((if (docOf A N (Hs A s)).2 4 (elAt (docOf A N (Hs A s)) w).toNat = 2 then 1 else 0) + (if (ids N).any (fun a => decide ((docOf A N (Hs A s)).2 8 a.toNat ≠ 0 ∧ gt A N 12 (-1) a = elAt (docOf A N (Hs A s)) w)) = true then 2 else 0))) :=
  co_el (K := fun _ o4 v6 σ5 => b1 (fX3_proposalsFor 1000 σ5 o4 v6) (fun v7 => some (0, v7, σ5))) hI hC hs (by decide) hw (fun σ3 p1 p2 => by
    have he := (hI.dk hs).1.row hI.1.2.1 (elAt_in hw).1
    rw [b1_ok (q_proposalsFor p1 p2.1 (by decide) he.1)])
theorem co_isMarked {w : Int} (hI : Inv A N nm nv) (hC : Cl σ A N nm nv) (hs : s < 4) (hw : isEl (docOf A N (Hs A s)) w) : wp (zw (fX5_isMarked 1000 σ (s : Int) w 0)) (OkZ σ A N nm nv (b2i (tb ((docOf A N (Hs A s)).2 7 (elAt (docOf A N (Hs A s)) w).toNat) 0))) := by
  have hd := (hI.dk hs).1
  have hN := hI.1.2.1
  have he := hd.row hN (elAt_in hw).1
  refine OkC.z ?_
  unfold fX5_isMarked
  refine c_openS hI.1 hC hs (by decide) (fun σ3 p1 p2 p3 => ?_)
  rw [xw_ok (c_elementAt p1 hd hN (by decide) hw)]
  have hcm : fX5_checkMark σ3 0 = some (0, 0, σ3) := by rw [c_mark, if_pos (Or.inl rfl)]
  rw [xw_ok hcm, vl_ok]
  exact wp_b1e (q_hasBit p1 he.1 (k := 0) (by omega)) (wp_some ⟨rfl, fun _ => rfl, p2, p3⟩)
theorem co_elementAnew {w : Int} (hI : Inv A N nm nv) (hC : Cl σ A N nm nv) (hs : s < 4) (hw : isEl (docOf A N (Hs A s)) w) : wp (zw (fX5_elementAnew 1000 σ (s : Int) w)) (OkZ σ A N nm nv (elAt (docOf A N (Hs A s)) w)) := by
  have hd := (hI.dk hs).1
  refine OkC.z ?_
  unfold fX5_elementAnew
  rw [xw_ok (c_siteS hs)]
  refine wp_b1 (c_scr hI.1 hC (Or.inl rfl) (by decide) (by omega)) (fun σ3 q => ?_)
  rw [(hC.site hs).has] at q
  rw [xw_ok (c_elementAt q.1 hd hI.1.2.1 (by decide) hw)]
  exact wp_some ⟨rfl, fun _ => rfl, q.2.1, FrC.ofP q.2.2.1 (by decide)⟩
/-- a question about a block that is shown -/
theorem co_bl {n : Nat} {w v : Int} {K : Nat → Nat → Int → St → Option (Nat × Int × St)} (hI : Inv A N nm nv) (hC : Cl σ A N nm nv) (hs : s < 4) (hn : 200 ≤ n) (hw : isBl (docOf A N (Hs A s)) w)
    (hK : ∀ σ3, isP σ3 (20 + 40 * s + 10) (docOf A N (Hs A s)) → Cl σ3 A N nm nv → K (20 + 40 * s) (20 + 40 * s + 10) (blN (docOf A N (Hs A s)) w) σ3 = some (0, v, σ3)) :
    wp (zw (xw 0 (fX5_siteAt σ (s : Int)) (fun o2 σ1 => b2 (fX5_paperOf n σ1 o2) (fun o4 σ3 => xw 0 (fX5_blockAt n σ3 o4 w) (fun v6 σ5 => K o2 o4 v6 σ5))))) (OkZ σ A N nm nv v) :=
  OkC.z (c_openS hI.1 hC hs hn (fun σ3 p1 p2 p3 => by
    rw [xw_ok (c_blockAt p1 (hI.dk hs).1 hI.1.2.1 (by omega) hw), hK σ3 p1 p2]
    exact wp_some ⟨rfl, fun _ => rfl, p2, p3⟩))
theorem co_kind {w : Int} (hI : Inv A N nm nv) (hC : Cl σ A N nm nv) (hs : s < 4) (hw : isBl (docOf A N (Hs A s)) w) : wp (zw (fX5_kind 1000 σ (s : Int) w)) (OkZ σ A N nm nv ((docOf A N (Hs A s)).2 10 (blN (docOf A N (Hs A s)) w + 1).toNat)) :=
  co_bl (K := fun _ o4 v6 σ5 => b1 (fX3_kindOf σ5 o4 v6) (fun v7 => some (0, v7, σ5))) hI hC hs (by decide) hw (fun σ3 p1 p2 => by
    have hb := blN_r (hI.dk hs).1 hI.1.2.1 hw
    have := hI.1.2.1
    rw [b1_ok (q_kindOf p1 ⟨hb.1, by omega⟩)])
theorem co_level {w : Int} (hI : Inv A N nm nv) (hC : Cl σ A N nm nv) (hs : s < 4) (hw : isBl (docOf A N (Hs A s)) w) : wp (zw (fX5_level 1000 σ (s : Int) w)) (OkZ σ A N nm nv (lev (docOf A N (Hs A s)) (s : Int) (blN (docOf A N (Hs A s)) w))) :=
  co_bl (K := fun _ o4 v6 σ5 => b1 (fX3_levelIn σ5 o4 (s : Int) v6) (fun v7 => some (0, v7, σ5))) hI hC hs (by decide) hw (fun σ3 p1 p2 => by
    rw [b1_ok (q_levelIn p1 _ _)])
theorem co_depth {w : Int} (hI : Inv A N nm nv) (hC : Cl σ A N nm nv) (hs : s < 4) (hw : isBl (docOf A N (Hs A s)) w) : wp (zw (fX5_depth 1000 σ (s : Int) w)) (OkZ σ A N nm nv (cnt (fun x => decide (x = -1) || brkB (docOf A N (Hs A s)) x) (chn ((docOf A N (Hs A s)).2 11) 161 ((docOf A N (Hs A s)).2 11 (blN (docOf A N (Hs A s)) w + 1).toNat)))) :=
  co_bl (K := fun _ o4 v6 σ5 => b1 (fX3_depthOf 1000 σ5 o4 v6) (fun v7 => some (0, v7, σ5))) hI hC hs (by decide) hw (fun σ3 p1 p2 => by
    have hb := blN_r (hI.dk hs).1 hI.1.2.1 hw
    have := hI.1.2.1
    rw [b1_ok (q_depthOf p1 (by decide) ⟨hb.1, by omega⟩)])
theorem co_act {x : Int} (hI : Inv A N nm nv) (hC : Cl σ A N nm nv) (hx : 0 ≤ x ∧ x < (N : Int)) : wp (zw (fX5_act σ x)) (OkZ σ A N nm nv (1000 * A 10 x.toNat + 100 * A 9 x.toNat + A 11 x.toNat)) := by
  have hN := hI.1.2.1
  have v := hI.1.2.2.2.1 x.toNat (by omega)
  have v1 := v.1
  have v2 := v.2.1
  have v3 := v.2.2.1
  clear v
  refine OkC.z ?_
  unfold fX5_act
  rw [hC.1.made, if_neg (by omega), if_pos hx.2]
  refine wp_b1e (q_countOf hC.1 x) ?_
  rw [gt_i hx]
  refine wp_ck (by omega) (by omega) (wp_b1e (q_siteOf hC.1 x) ?_)
  rw [gt_i hx]
  refine wp_ck (by omega) (by omega) (wp_ck (by omega) (by omega) (wp_b1e (q_kindOfA hC.1 x) ?_))
  rw [gt_i hx]
  exact wp_ck (by omega) (by omega) (wp_some ⟨rfl, fun _ => rfl, hC, FrC.rf⟩)
theorem c_paperS {n : Nat} {Q : Nat × Int × St → Prop} {K : Nat → St → Option (Nat × Int × St)} (hI : In1 A N) (h : Cl σ A N nm nv) (hs : s < 4) (hn : 200 ≤ n)
    (hK : ∀ σ3, isP σ3 (20 + 40 * s + 10) (docOf A N (Hs A s)) → Cl σ3 A N nm nv → FrC σ σ3 → wp (K (20 + 40 * s + 10) σ3) Q) : wp (b2 (fX5_paperOf n σ (20 + 40 * s)) (fun o4 σ3 => K o4 σ3)) Q := by
  refine wp_b2 (c_paperOf hI h hs hn) (fun o τ q => ?_)
  obtain ⟨q1, q2, q3, q4⟩ := q
  have q1' : o = 20 + 40 * s + 10 := q1
  subst q1'
  exact hK τ q2 q3 q4
theorem co_isUndone {x : Int} (hI : Inv A N nm nv) (hC : Cl σ A N nm nv) (hs : s < 4) (hh : Hs A s x = true) : wp (zw (fX5_isUndone 1000 σ (s : Int) x)) (OkZ σ A N nm nv ((docOf A N (Hs A s)).2 9 x.toNat)) := by
  have h2 := Hs_lt hI hs hh
  have dk := hI.dk hs
  have hb := dk.1.2.2.2.2.2.2.1 x.toNat
  have hN := hI.1.2.1
  refine OkC.z ?_
  unfold fX5_isUndone
  rw [xw_ok (c_siteS hs), xw_ok (by rw [c_held (hC.site hs), if_pos hh])]
  refine c_paperS hI.1 hC hs (by decide) (fun τ q2 q3 q4 => ?_)
  refine wp_b1e (q_wasUndone q2 x) (wp_some ⟨rfl, fun _ => ?_, q3, q4⟩)
  show b2i (decide (num x ∧ (docOf A N (Hs A s)).2 9 x.toNat ≠ 0)) = _
  have hnum : num x := ⟨h2.1, by omega⟩
  rcases hb with z | z
  · rw [decide_eq_false (fun w => w.2 z), z]; rfl
  · rw [decide_eq_true ⟨hnum, by omega⟩, z]; rfl
theorem co_covered {x : Int} {j : Nat} (hI : Inv A N nm nv) (hC : Cl σ A N nm nv) (hs : s < 4) (hh : Hs A s x = true) (k7 : A 11 x.toNat = 7) (hj : A 14 x.toNat = (j : Int)) : wp (zw (fX5_covered 1000 σ (s : Int) x)) (OkZ σ A N nm nv (cnt (fun y => seenB (docOf A N (Hs A s)) y && tb ((docOf A N (Hs A s)).2 7 y.toNat) (2 + j)) (docOf A N (Hs A s)).1)) := by
  have h2 := Hs_lt hI hs hh
  have hN := hI.1.2.1
  have dk := hI.dk hs
  have hval := (hI.1.2.2.2.1 x.toNat (by omega)).2.2.2.2.2.2.2.2.2.1 k7
  refine OkC.z ?_
  unfold fX5_covered
  rw [xw_ok (c_siteS hs), xw_ok (by rw [c_held (hC.site hs), if_pos hh])]
  refine wp_b1e (q_kindOfA hC.1 x) ?_
  rw [gt_i h2, if_pos k7]
  refine c_paperS hI.1 hC hs (by decide) (fun τ q2 q3 q4 => ?_)
  refine wp_b1e (q_valueOf q3.1 x) ?_
  rw [gt_i h2, hj]
  have hcb : fX5_commentBit (j : Int) = some (bshl 1 ((2 + j : Nat) : Int)) := by
    unfold fX5_commentBit
    rw [ck_ok (by omega) (by omega), vl_ok]
    rw [show (2 : Int) + (j : Int) = ((2 + j : Nat) : Int) by omega]
  exact wp_b1e hcb (wp_b1e (q_countSeenWith q2 (fun x hx => (dk.1.row hN hx).1) (by decide) (k := 2 + j) (by omega)) (wp_some ⟨rfl, fun _ => rfl, q3, q4⟩))
theorem co_buried (hI : Inv A N nm nv) (hC : Cl σ A N nm nv) (hs : s < 4) : wp (zw (fX5_buried 1000 σ (s : Int))) (OkZ σ A N nm nv (cnt (fun x => graveB (docOf A N (Hs A s)) x && graveB (docOf A N (hadF A s 4)) x) (ids N))) := by
  have hN := hI.1.2.1
  refine OkC.z ?_
  unfold fX5_buried
  rw [xw_ok (c_siteS hs)]
  refine wp_b1 (c_collect hI hC hs (by decide)) (fun σ3 q => ?_)
  obtain ⟨f3, i3⟩ := q
  have c3 : Cl σ3 A N nm nv := hC.r4 (fun a ha => f3 a (by omega))
  refine wp_b1 (c_scr (o := 6) hI.1 c3 (Or.inl rfl) (by decide) (by omega)) (fun σ4 q => ?_)
  obtain ⟨q1, q2, q3, _⟩ := q
  rw [i3] at q1
  refine wp_b2 (c_paperX hI.1 q2 hs (by decide)) (fun o σ5 q => ?_)
  obtain ⟨⟨r1, r2, r3, r4⟩, r5, _⟩ := q
  have r1' : o = 20 + 40 * s + 10 := r1
  subst r1'
  have r2' : isP σ5 (20 + 40 * s + 10) (docOf A N (Hs A s)) := r2
  have r3' : Cl σ5 A N nm nv := r3
  have r5' : ∀ a, (a < 20 + 40 * s ∨ 20 + 40 * s + 26 < a) → σ5 a = σ4 a := r5
  have q4 : isP σ5 180 (docOf A N (hadF A s 4)) := by
    refine ⟨?_, q1.2.1, ?_, fun k k1 k2 i => ?_⟩
    · rw [r5' 180 (by omega)]; exact q1.1
    · rw [r5' (180 + 2) (by omega)]; exact q1.2.2.1
    · rw [r5' (180 + k) (by omega)]; exact q1.2.2.2 k k1 k2 i
  have run := r_cnt (n := 1000) (bot := fun _ _ => none) (F := fX5_buried_L33s 1000 σ5 (s : Int) (20 + 40 * s + 10)) (fun x => graveB (docOf A N (Hs A s)) x && graveB (docOf A N (hadF A s 4)) x) (fun a => (0, a, σ5)) (fun i => (i : Int)) N 0 (by decide) (by omega)
    (fun lp s => by unfold fX5_buried_L33s; rw [r3'.1.made, if_pos (Int.le_refl _)])
    (fun lp s2 i hi h1 h2 => by
      unfold fX5_buried_L33s
      rw [r3'.1.made, if_neg (by omega), b1_ok (q_isGrave r2' _), b1_ok (q_isGrave q4 _)]
      show _ = lp (s2 + b2i (graveB (docOf A N (Hs A s)) (i : Int) && graveB (docOf A N (hadF A s 4)) (i : Int))) ((i : Int) + 1)
      cases graveB (docOf A N (Hs A s)) (i : Int)
      · rw [if_pos (by rfl), ck_ok (by omega) (by omega)]; show _ = lp (s2 + 0) _; rw [Int.add_zero]
      · rw [if_neg (by decide), Bool.true_and]
        cases graveB (docOf A N (hadF A s 4)) (i : Int)
        · rw [if_pos (by rfl), ck_ok (by omega) (by omega)]; show _ = lp (s2 + 0) _; rw [Int.add_zero]
        · rw [if_neg (by decide), ck_ok (by omega) (by omega), ck_ok (by omega) (by omega)]; rfl)
  rw [Int.zero_add] at run
  refine ⟨_, run, rfl, fun _ => rfl, r3', fun a b h1 h2 => ?_⟩
  show σ5 a b = σ a b
  rw [r5' a (by omega), q3 a (by omega), f3 a (by omega)]
-- ===== calls that change something =====
theorem co_write (hI : Inv A N nm nv) (hC : Cl σ A N nm nv) (hs : s < 4) (ok : okW A N s) {k z : Int} (hk : k = 0 ∨ k = 1) (hz : 0 ≤ z ∧ z ≤ 65535) {σ3 : St} (p1 : isP σ3 (20 + 40 * s + 10) (docOf A N (Hs A s))) (p2 : Cl σ3 A N nm nv) (p3 : FrC σ σ3) : wp (xw 0 (fX5_writeBehindCursor 1000 σ3 (20 + 40 * s) (20 + 40 * s + 10) k z) (fun v6 σ5 => some (0, v6, σ5))) (OkC σ (cuA (mkA A N s k (A 248 s) (-1) z (A 250 s)) s (N : Int) (N : Int)) (N + 1) nm nv 0 (N : Int)) := by
  obtain ⟨⟨c, v, τ⟩, e, e1, e2, e3, e4⟩ := (c_write (k := k) (z := z) (n := 1000) hI p2 p1 hs (by decide) hk hz).1 ok
  have e1' : c = 0 := e1
  subst e1'
  rw [xw_ok e]
  exact wp_some ⟨rfl, fun _ => e2, e3, p3.tr e4⟩
theorem co_split (hI : Inv A N nm nv) (hC : Cl σ A N nm nv) (hs : s < 4) (ok : okW A N s) : wp (zw (fX5_split 1000 σ (s : Int))) (OkZ σ (cuA (mkA A N s 1 (A 248 s) (-1) 47 (A 250 s)) s (N : Int) (N : Int)) (N + 1) nm nv (N : Int)) := by
  refine OkC.z ?_
  unfold fX5_split
  exact c_openS hI.1 hC hs (by decide) (fun σ3 p1 p2 p3 => co_write hI hC hs ok (Or.inr rfl) (by omega) p1 p2 p3)
theorem co_type {w : Int} (hI : Inv A N nm nv) (hC : Cl σ A N nm nv) (hs : s < 4) (ok : okW A N s) (hw : 97 ≤ w ∧ w ≤ 122) : wp (zw (fX5_type 1000 σ (s : Int) w)) (OkZ σ (cuA (mkA A N s 0 (A 248 s) (-1) w (A 250 s)) s (N : Int) (N : Int)) (N + 1) nm nv (N : Int)) := by
  refine OkC.z ?_
  unfold fX5_type
  rw [xw_ok (c_siteS hs), if_neg (by omega), if_neg (by omega), if_pos (by omega)]
  unfold fX5_type_J34
  exact c_paperS hI.1 hC hs (by decide) (fun σ3 p1 p2 p3 => co_write hI hC hs ok (Or.inl rfl) (by omega) p1 p2 p3)
theorem co_moveTo {x : Int} (hI : Inv A N nm nv) (hC : Cl σ A N nm nv) (hs : s < 4) (hst : isSt (docOf A N (Hs A s)) x) : wp (zw (fX5_moveTo 1000 σ (s : Int) x)) (OkZ σ (cuA A s (stN (docOf A N (Hs A s)) x) (stN (docOf A N (Hs A s)) x)) N nm nv (thr (docOf A N (Hs A s)) (A 248 s))) := by
  have dk := hI.dk hs
  have hN := hI.1.2.1
  refine OkC.z ?_
  unfold fX5_moveTo
  refine c_openS hI.1 hC hs (by decide) (fun σ3 p1 p2 p3 => ?_)
  rw [xw_ok (c_stand p1 dk.1 hN (by decide) hst)]
  refine wp_b1e (q_seenThrough p1 (by decide) _) (wp_pf (wp_pf (wp_some ⟨rfl, fun _ => ?_, ?_, (p3.upd (by omega)).upd (by omega)⟩)))
  · rw [(p2.site hs).2.2.2.2.1]; rfl
  · refine p2.cu hI.1 hs (fun a b hab => ?_) ?_ ?_
    · show st (st σ3 (20 + 40 * s) 8 (stN (docOf A N (Hs A s)) x)) (20 + 40 * s) 9 (stN (docOf A N (Hs A s)) x) a b = σ3 a b
      by_cases q : a = 20 + 40 * s
      · rw [q, st_row, if_neg (by omega), st_row, if_neg (by omega)]
      · rw [st_ne q, st_ne q]
    · show st (st σ3 (20 + 40 * s) 8 (stN (docOf A N (Hs A s)) x)) (20 + 40 * s) 9 (stN (docOf A N (Hs A s)) x) (20 + 40 * s) 8 = _
      rw [st_row, if_neg (by decide), st_row, if_pos rfl]
    · show st (st σ3 (20 + 40 * s) 8 (stN (docOf A N (Hs A s)) x)) (20 + 40 * s) 9 (stN (docOf A N (Hs A s)) x) (20 + 40 * s) 9 = _
      rw [st_row, if_pos rfl]
theorem co_extend {x : Int} (hI : Inv A N nm nv) (hC : Cl σ A N nm nv) (hs : s < 4) (hst : isSt (docOf A N (Hs A s)) x) : wp (zw (fX5_extend 1000 σ (s : Int) x)) (OkZ σ (cuA A s (stN (docOf A N (Hs A s)) x) (A 249 s)) N nm nv (imax x (thr (docOf A N (Hs A s)) (A 249 s)) - imin x (thr (docOf A N (Hs A s)) (A 249 s)))) := by
  have dk := hI.dk hs
  have hN := hI.1.2.1
  have hst' := hst
  unfold isSt at hst'
  have hth := thr_r (D := docOf A N (Hs A s)) (e := A 249 s)
  have hcl : cnt (seenB (docOf A N (Hs A s))) (docOf A N (Hs A s)).1 ≤ 160 := by
    have := (cnt_le (seenB (docOf A N (Hs A s))) (docOf A N (Hs A s)).1).2
    have := dk.2.2.2.2
    omega
  have e1 : thr (docOf A N (Hs A s)) (stN (docOf A N (Hs A s)) x) = x := thr_st dk.1 hst
  refine OkC.z ?_
  unfold fX5_extend
  refine c_openS hI.1 hC hs (by decide) (fun σ3 p1 p2 p3 => ?_)
  rw [xw_ok (c_stand p1 dk.1 hN (by decide) hst)]
  refine wp_pf ?_
  have p4 : isP (st σ3 (20 + 40 * s) 8 (stN (docOf A N (Hs A s)) x)) (20 + 40 * s + 10) (docOf A N (Hs A s)) := by
    refine ⟨?_, p1.2.1, ?_, fun k k1 k2 i => ?_⟩
    · rw [st_ne (by omega)]; exact p1.1
    · rw [st_fn (by omega)]; exact p1.2.2.1
    · rw [st_ne (by omega)]; exact p1.2.2.2 k k1 k2 i
  refine wp_b1e (q_seenThrough p4 (by decide) _) (wp_vl (wp_vl ?_))
  have e9 : st σ3 (20 + 40 * s) 8 (stN (docOf A N (Hs A s)) x) (20 + 40 * s) 9 = A 249 s := by
    rw [st_row, if_neg (by decide)]; exact (p2.site hs).2.2.2.2.2.1
  rw [e9]
  show wp (ck (imax x (thr (docOf A N (Hs A s)) (A 249 s)) - imin x (thr (docOf A N (Hs A s)) (A 249 s))) _) _
  have hb : 0 ≤ imax x (thr (docOf A N (Hs A s)) (A 249 s)) - imin x (thr (docOf A N (Hs A s)) (A 249 s)) ∧ imax x (thr (docOf A N (Hs A s)) (A 249 s)) - imin x (thr (docOf A N (Hs A s)) (A 249 s)) ≤ 160 := by
    unfold imax imin
    constructor <;> (split <;> split <;> omega)
  refine wp_ck (by omega) (by omega) (wp_some ⟨rfl, fun _ => rfl, ?_, p3.upd (by omega)⟩)
  refine p2.cu hI.1 hs (fun a b hab => ?_) ?_ e9
  · show st σ3 (20 + 40 * s) 8 (stN (docOf A N (Hs A s)) x) a b = σ3 a b
    by_cases q : a = 20 + 40 * s
    · rw [q, st_row, if_neg (by omega)]
    · rw [st_ne q]
  · show st σ3 (20 + 40 * s) 8 (stN (docOf A N (Hs A s)) x) (20 + 40 * s) 8 = _
    rw [st_row, if_pos rfl]
theorem co_mark {m p : Int} (hI : Inv A N nm nv) (hC : Cl σ A N nm nv) (hs : s < 4) (ok : okS A N s) (hm : 0 ≤ m ∧ m < 2) (hp : isB p) : wp (zw (fX5_mark 1000 σ (s : Int) m p)) (OkZ σ (mkA A N s 4 (sx A N s) (sy A N s) m p) (N + 1) nm nv (N : Int)) := by
  refine OkC.z ?_
  unfold fX5_mark
  rw [xw_ok (c_siteS hs), xw_ok (by rw [c_mark, if_pos (by omega)])]
  refine c_paperS hI.1 hC hs (by decide) (fun σ3 p1 p2 p3 => ?_)
  obtain ⟨⟨c, v, τ2⟩, e, e1, e2, e3, e4⟩ := (c_onSel (n := 1000) hI p2 p1 hs (by decide) 4 m p).1 ok (sel_m4 hI hs ok hm hp)
  have e1' : c = 0 := e1
  subst e1'
  rw [xw_ok e]
  exact wp_some ⟨rfl, fun _ => e2, e3, p3.tr e4⟩
theorem co_comment (hI : Inv A N nm nv) (hC : Cl σ A N nm nv) (hs : s < 4) (ok : okS A N s) (h9 : A 8 9 < 20) : wp (zw (fX5_comment 1000 σ (s : Int))) (OkZ σ (mkA A N s 7 (sx A N s) (sy A N s) (A 8 9) 0) (N + 1) nm nv (N : Int)) := by
  refine OkC.z ?_
  unfold fX5_comment
  have h89 : ∀ σ2, Cl σ2 A N nm nv → σ2 8 9 = A 8 9 := fun σ2 h => h.1.1 8 (by decide) (by decide) 9
  rw [xw_ok (c_siteS hs), h89 σ hC, if_pos h9]
  refine c_paperS hI.1 hC hs (by decide) (fun τ q2 q3 q4 => ?_)
  rw [h89 τ q3]
  obtain ⟨⟨c, v, τ2⟩, e, e1, e2, e3, e4⟩ := (c_onSel (n := 1000) hI q3 q2 hs (by decide) 7 (A 8 9) 0).1 ok (sel_m7 hI hs ok h9)
  have e1' : c = 0 := e1
  subst e1'
  rw [xw_ok e]
  exact wp_some ⟨rfl, fun _ => e2, e3, q4.tr e4⟩
theorem co_propose {p : Int} (hI : Inv A N nm nv) (hC : Cl σ A N nm nv) (hs : s < 4) (hp : isB p) : wp (zw (fX5_propose σ (s : Int) p)) (OkZ σ (st A 250 s p) N nm nv (A 250 s)) := by
  have w := hC.site hs
  have hold := (hI.2.1 s hs).1
  have e : SaC A (st A 250 s p) := fun r hr => st_fn (by omega)
  refine OkC.z ?_
  unfold fX5_propose
  rw [xw_ok (c_siteS hs)]
  refine wp_pfb hp ?_
  rw [rb_ok (by rw [w.2.2.1]; exact hold)]
  refine wp_some ⟨rfl, fun _ => w.2.2.1, ?_, FrC.rf.upd (by omega)⟩
  refine hC.cur hI.1 e (fun a b hab => ?_) (fun t ht => ?_)
  · show st σ (20 + 40 * s) 6 p a b = σ a b
    have := hab s hs
    by_cases q : a = 20 + 40 * s
    · subst q; rw [st_row, if_neg (by omega)]
    · exact st_ne q
  · have w2 := hC.site ht
    show st σ (20 + 40 * s) 6 p (20 + 40 * t) 6 = st A 250 s p 250 t ∧ st σ (20 + 40 * s) 6 p (20 + 40 * t) 8 = st A 250 s p 248 t ∧ st σ (20 + 40 * s) 6 p (20 + 40 * t) 9 = st A 250 s p 249 t
    rw [st_row (c := 250), st_ne (a := 248) (by decide), st_ne (a := 249) (by decide)]
    by_cases q : t = s
    · rw [q] at w2 ⊢
      rw [st_row, st_row, st_row, if_pos rfl, if_pos rfl, if_neg (by decide), if_neg (by decide)]
      exact ⟨rfl, w2.2.2.2.2.1, w2.2.2.2.2.2.1⟩
    · rw [st_ne (by omega), st_ne (by omega), st_ne (by omega), if_neg q]
      exact ⟨w2.2.2.1, w2.2.2.2.2.1, w2.2.2.2.2.2.1⟩
theorem Inv.prop {p : Int} (hI : Inv A N nm nv) (hp : isB p) : Inv (st A 250 s p) N nm nv := by
  have e : SaC A (st A 250 s p) := fun r hr => st_fn (by omega)
  refine hI.cur e (fun t ht => ?_) (fun t ht => ?_) (fun t ht => ?_)
  · rw [st_row]; split
    · exact hp
    · exact (hI.2.1 t ht).1
  · rw [st_ne (by decide)]; exact (hI.2.1 t ht).2.2.2.2.2.2.2.2.2.1
  · rw [st_ne (by decide)]; exact (hI.2.1 t ht).2.2.2.2.2.2.2.2.2.2.1
theorem co_setKind {w k : Int} (hI : Inv A N nm nv) (hC : Cl σ A N nm nv) (hs : s < 4) (hb : isBl (docOf A N (Hs A s)) w) (hk : 0 ≤ k ∧ k < 4) (ok : okB A N s (blN (docOf A N (Hs A s)) w)) : wp (zw (fX5_setKind 1000 σ (s : Int) w k)) (OkZ σ (mkA A N s 5 (blN (docOf A N (Hs A s)) w) (-1) k 0) (N + 1) nm nv (N : Int)) := by
  have dk := hI.dk hs
  have hN := hI.1.2.1
  have bk := blN_k dk.1 hN hb
  have hm := ok5 (z := k) ok.2 hs bk (by omega)
  refine OkC.z ?_
  unfold fX5_setKind
  refine c_openS hI.1 hC hs (by decide) (fun σ3 p1 p2 p3 => ?_)
  rw [xw_ok (c_blockAt p1 dk.1 hN (by decide) hb), if_neg (by omega), if_pos (by omega), xw_ok ((c_may p2 p1 hs _).1 ok)]
  exact wp_b2 (c_make hI p2 hm (by decide)) (fun v σ5 q => wp_some ⟨rfl, fun _ => q.1, q.2.1, p3.tr q.2.2.1⟩)
theorem to_k (hI : Inv A N nm nv) (hs : s < 4) {w : Int} (ht : isTo (docOf A N (Hs A s)) w) : toN (docOf A N (Hs A s)) w = -2 ∨ (-1 ≤ toN (docOf A N (Hs A s)) w ∧ toN (docOf A N (Hs A s)) w < (N : Int) ∧ (0 ≤ toN (docOf A N (Hs A s)) w → A 11 (toN (docOf A N (Hs A s)) w).toNat = 1)) := by
  unfold toN
  by_cases g : w = -1
  · rw [if_pos g]; exact Or.inl rfl
  · rw [if_neg g]; exact Or.inr (blN_k (hI.dk hs).1 hI.1.2.1 (ht.resolve_left g))
theorem co_nest {w u : Int} (hI : Inv A N nm nv) (hC : Cl σ A N nm nv) (hs : s < 4) (hb : isBl (docOf A N (Hs A s)) w) (ht : isTo (docOf A N (Hs A s)) u) (ok : okB A N s (blN (docOf A N (Hs A s)) w)) : wp (zw (fX5_nest 1000 σ (s : Int) w u)) (OkZ σ (mkA A N s 6 (blN (docOf A N (Hs A s)) w) (toN (docOf A N (Hs A s)) u) 0 0) (N + 1) nm nv (N : Int)) := by
  have dk := hI.dk hs
  have hN := hI.1.2.1
  have bk := blN_k dk.1 hN hb
  have hm := ok6 ok.2 hs bk (to_k hI hs ht)
  refine OkC.z ?_
  unfold fX5_nest
  refine c_openS hI.1 hC hs (by decide) (fun σ3 p1 p2 p3 => ?_)
  rw [xw_ok (c_blockAt p1 dk.1 hN (by decide) hb)]
  have go : wp (fX5_nest_J38 1000 σ3 (s : Int) w u (20 + 40 * s) (20 + 40 * s + 10) (blN (docOf A N (Hs A s)) w) (toN (docOf A N (Hs A s)) u)) (OkC σ (mkA A N s 6 (blN (docOf A N (Hs A s)) w) (toN (docOf A N (Hs A s)) u) 0 0) (N + 1) nm nv 0 (N : Int)) := by
    unfold fX5_nest_J38
    rw [xw_ok ((c_may p2 p1 hs _).1 ok)]
    exact wp_b2 (c_make hI p2 hm (by decide)) (fun v σ5 q => wp_some ⟨rfl, fun _ => q.1, q.2.1, p3.tr q.2.2.1⟩)
  unfold toN at go ⊢
  by_cases g : u = -1
  · rw [if_neg (fun w => w g)]
    rw [if_pos g] at go ⊢; exact go
  · rw [if_pos g, xw_ok (c_blockAt p1 dk.1 hN (by decide) (ht.resolve_left g))]
    rw [if_neg g] at go ⊢; exact go
theorem co_allow {w t z : Int} (hI : Inv A N nm nv) (hC : Cl σ A N nm nv) (hN2 : N < 160) (hb : isBl (docOf A N (Hs A 0)) w) (h2 : 1 ≤ t ∧ t < 4) (h3 : 0 ≤ z ∧ z ≤ 2) : wp (zw (fX5_allow 1000 σ w t z)) (OkZ σ (mkA A N 0 10 (blN (docOf A N (Hs A 0)) w) t z 0) (N + 1) nm nv (N : Int)) := by
  have hs0 : (0 : Nat) < 4 := by decide
  have dk := hI.dk hs0
  have hN := hI.1.2.1
  have bk := blN_k dk.1 hN hb
  have hm := ok10 (s := 0) (y := t) (z := z) hN2 hs0 bk (by omega) h3
  refine OkC.z ?_
  unfold fX5_allow
  refine c_openS (s := 0) hI.1 hC hs0 (by decide) (fun σ3 p1 p2 p3 => ?_)
  rw [xw_ok (c_blockAt p1 dk.1 hN (by decide) hb), if_neg (by omega), if_pos (by omega), if_neg (by omega), if_pos (by omega), xw_ok (by rw [c_room p2, if_pos (by omega)])]
  exact wp_b2 (c_make hI p2 hm (by decide)) (fun v σ5 q => wp_some ⟨rfl, fun _ => q.1, q.2.1, p3.tr q.2.2.1⟩)
theorem co_decide {x p : Int} (hI : Inv A N nm nv) (hC : Cl σ A N nm nv) (hs : s < 4) (hh : Hs A s x = true) (ok : okD A N s x) : wp (zw (fX5_decide 1000 σ (s : Int) x p)) (OkZ σ (mkA A N s (if p = 0 then 9 else 8) x (-1) 0 0) (N + 1) nm nv (N : Int)) := by
  have hN := hI.1.2.1
  have hk' : (if p = 0 then (9 : Int) else 8) = 8 ∨ (if p = 0 then (9 : Int) else 8) = 9 ∨ (if p = 0 then (9 : Int) else 8) = 11 ∨ (if p = 0 then (9 : Int) else 8) = 12 := by split <;> omega
  have hm := okx ok.2 hs hk' hh
  refine OkC.z ?_
  unfold fX5_decide
  rw [xw_ok (c_siteS hs), xw_ok (by rw [c_held (hC.site hs), if_pos hh])]
  refine c_paperS hI.1 hC hs (by decide) (fun σ3 q2 p2 p3 => ?_)
  have e0 : σ3 (20 + 40 * s) 0 = (s : Int) := (p2.site hs).1
  rw [e0]
  refine wp_b1e (q_mayDecide q2 p2.1 (by decide) _ _) ?_
  show wp (if b2i (openB A N (docOf A N (Hs A s)) x && decide (lev (docOf A N (Hs A s)) (s : Int) (blk (docOf A N (Hs A s)) (elemOf A N x)) = 0)) ≠ 0 then _ else _) _
  rw [ok.1.1, decide_eq_true ok.1.2, if_pos (by decide), xw_ok (by rw [c_room p2, if_pos (by have := ok.2; omega)])]
  have fin : ∀ kk : Int, kk = (if p = 0 then 9 else 8) → wp (fX5_decide_J59 1000 σ3 (s : Int) x p kk (20 + 40 * s)) (OkC σ (mkA A N s (if p = 0 then 9 else 8) x (-1) 0 0) (N + 1) nm nv 0 (N : Int)) := by
    intro kk ek
    unfold fX5_decide_J59
    rw [ek]
    exact wp_b2 (c_make hI p2 hm (by decide)) (fun v σ5 q => wp_some ⟨rfl, fun _ => q.1, q.2.1, p3.tr q.2.2.1⟩)
  by_cases gp : p = 0
  · rw [if_pos gp]; exact fin 9 (by rw [if_pos gp])
  · rw [if_neg gp]; exact fin 8 (by rw [if_neg gp])
/-- the last act of a site's own that is not undone; the one to redo -/
def lastU (A : St) (N s : Nat) : Int := ((OL A N).filter (Hs A s)).foldl (uS A s (docOf A N (Hs A s))) (-1)
def lastR (A : St) (N s : Nat) : Int × Int := ((OL A N).filter (Hs A s)).foldl (rS A s (docOf A N (Hs A s))) (-1, 0)
theorem lastU_in (hI : Inv A N nm nv) (h : lastU A N s ≠ -1) : Hs A s (lastU A N s) = true := by
  have hu := uS_in (A := A) (s := s) (D := docOf A N (Hs A s)) ((OL A N).filter (Hs A s)) (-1)
  exact (List.mem_filter.mp (hu.resolve_left h)).2
theorem co_undo (hI : Inv A N nm nv) (hC : Cl σ A N nm nv) (hs : s < 4) (ok : lastU A N s ≠ -1) (hN2 : N < 160) : wp (zw (fX5_undo 1000 σ (s : Int))) (OkZ σ (mkA A N s 11 (lastU A N s) (-1) 0 0) (N + 1) nm nv (lastU A N s)) := by
  have hN := hI.1.2.1
  have hh := lastU_in hI ok
  have hm := okx (k := 11) hN2 hs (by decide) hh
  refine OkC.z ?_
  unfold fX5_undo
  refine c_openS hI.1 hC hs (by decide) (fun σ3 p1 p2 p3 => ?_)
  refine wp_b1e (c_lastU (n := 1000) hI p2 p1 hs (by decide)) ?_
  show wp (if lastU A N s ≠ -1 then _ else _) _
  rw [if_pos ok, xw_ok (by rw [c_room p2, if_pos (by omega)])]
  exact wp_b2 (c_make hI p2 hm (by decide)) (fun v σ5 q => wp_some ⟨rfl, fun _ => rfl, q.2.1, p3.tr q.2.2.1⟩)
theorem lastR_in (hI : Inv A N nm nv) (hs : s < 4) (g : (lastR A N s).1 ≠ -1) : (0 ≤ (lastR A N s).1 ∧ (lastR A N s).1 < (N : Int)) ∧ A 11 (lastR A N s).1.toNat = 11 ∧ (0 ≤ A 12 (lastR A N s).1.toNat ∧ A 12 (lastR A N s).1.toNat < (N : Int)) ∧ Hs A s (A 12 (lastR A N s).1.toNat) = true := by
  have hN := hI.1.2.1
  have hu := rS_in (A := A) (s := s) (D := docOf A N (Hs A s)) ((OL A N).filter (Hs A s)) (-1, 0)
  have w := hu.resolve_left g
  have w1 := List.mem_filter.mp w.1
  have w2 := (hI.1.2.2.2.2.1.2 _).mp w1.1
  have v14 := (hI.1.2.2.2.1 (lastR A N s).1.toNat (by unfold lastR; omega)).2.2.2.2.2.2.2.2.2.2.2.2.2 (Or.inr (Or.inr (Or.inl w.2)))
  have cl := ((hI.2.1 s hs).cl hN (lastR A N s).1.toNat (by unfold lastR; omega) (by unfold lastR; rw [Int.toNat_of_nonneg w2.1]; exact w1.2)).2.1 (Or.inr (Or.inr (Or.inr (Or.inr (Or.inr (Or.inr (Or.inl w.2)))))))
  exact ⟨w2, w.2, by unfold lastR at *; omega, cl⟩
theorem co_redo (hI : Inv A N nm nv) (hC : Cl σ A N nm nv) (hs : s < 4) (ok : (lastR A N s).1 ≠ -1) (ok2 : (lastR A N s).2 = 0) (hN2 : N < 160) : wp (zw (fX5_redo 1000 σ (s : Int))) (OkZ σ (mkA A N s 12 (A 12 (lastR A N s).1.toNat) (-1) 0 0) (N + 1) nm nv (A 12 (lastR A N s).1.toNat)) := by
  have hN := hI.1.2.1
  obtain ⟨w1, w2, w3, w4⟩ := lastR_in hI hs ok
  have hm := okx (k := 12) hN2 hs (by decide) w4
  refine OkC.z ?_
  unfold fX5_redo
  refine c_openS hI.1 hC hs (by decide) (fun σ3 p1 p2 p3 => ?_)
  have ev : rV A (lastR A N s) = A 12 (lastR A N s).1.toNat := if_neg (fun z => z.elim ok (fun z => z ok2))
  have cr : fX5_lastToRedo 1000 σ3 (20 + 40 * s) (20 + 40 * s + 10) = some (A 12 (lastR A N s).1.toNat) := (c_lastR (n := 1000) hI p2 p1 hs (by decide)).trans (congrArg some ev)
  refine wp_b1e cr ?_
  rw [if_pos (by omega), xw_ok (by rw [c_room p2, if_pos (by omega)])]
  exact wp_b2 (c_make hI p2 hm (by decide)) (fun v σ5 q => wp_some ⟨rfl, fun _ => rfl, q.2.1, p3.tr q.2.2.1⟩)
end CO
