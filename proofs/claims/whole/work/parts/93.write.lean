/-! ===== type, split ===== -/
section WRITE
variable {σ τ A : St} {N nm nv n s : Nat} {D : Dc} {S : Int → Bool} {k x y z p : Int}
theorem c_room (hC : Cl σ A N nm nv) (w : Int) : fX5_checkRoomFor σ w = if w + N ≤ 160 then some (0, 0, σ) else some (3, 0, σ) := by
  have h8 := hC.1.made
  have hN := hC.1.2.2
  unfold fX5_checkRoomFor
  rw [h8, ck_ok (by omega) (by omega)]
  by_cases q : w + N ≤ 160
  · rw [if_pos q, if_pos (by omega)]
  · rw [if_neg q, if_neg (by omega)]
theorem mk_new (hI : Inv A N nm nv) (hN : N < 160) (hs : s < 4) (hk : k = 0 ∨ k = 1) : curOK (mkA A N s k x y z p) (N + 1) s (N : Int) := by
  refine Or.inr ⟨by rw [mk_Hs hI hN hs hs, if_pos ⟨rfl, rfl⟩], ?_⟩
  unfold mkE
  refine decide_eq_true ⟨⟨by omega, by omega⟩, ?_⟩
  rw [Int.toNat_natCast, mk_tN (by decide) (by decide)]; exact hk
theorem Re.atS (h : Re σ A N nm nv) (hs : s < 4) {r : Nat} (h1 : 245 ≤ r) (h2 : r ≤ 250) : σ r s = A r s := (h.2.2.1 s hs).1 r h1 h2
theorem Inv.c8 (hI : Inv A N nm nv) (hs : s < 4) : curOK A N s (A 248 s) := (hI.2.1 s hs).2.2.2.2.2.2.2.2.2.1
theorem Inv.c9 (hI : Inv A N nm nv) (hs : s < 4) : curOK A N s (A 249 s) := (hI.2.1 s hs).2.2.2.2.2.2.2.2.2.2.1
theorem Inv.e8 (hI : Inv A N nm nv) (hs : s < 4) : A 248 s = -1 ∨ A 248 s ∈ (docOf A N (Hs A s)).1 := (hI.dk hs).el hI.1 (hI.2.1 s hs) (hI.c8 hs)
theorem Inv.e9 (hI : Inv A N nm nv) (hs : s < 4) : A 249 s = -1 ∨ A 249 s ∈ (docOf A N (Hs A s)).1 := (hI.dk hs).el hI.1 (hI.2.1 s hs) (hI.c9 hs)
def okW (A : St) (N s : Nat) : Prop := lev (docOf A N (Hs A s)) (s : Int) (blk (docOf A N (Hs A s)) (A 248 s)) ≠ 2 ∧ N < 160
theorem okW_m (hI : Inv A N nm nv) (hs : s < 4) (hN : N < 160) (hk : k = 0 ∨ k = 1) (hz : 0 ≤ z ∧ z ≤ 65535) : okM A N s k (A 248 s) (-1) z (A 250 s) := by
  have h8 := hI.c8 hs
  have hb := (hI.2.1 s hs).1
  refine ⟨⟨hN, hs⟩, by omega, hb, hz, fun _ => h8, fun g => ?_, fun g => ?_, fun g => ?_, fun g => ?_, fun g => ?_, fun g => ?_, fun g => ?_, fun g => ?_⟩ <;> (exfalso; clear h8 hb; omega)
theorem c_write (hI : Inv A N nm nv) (hC : Cl σ A N nm nv) (hP : isP σ (20 + 40 * s + 10) (docOf A N (Hs A s))) (hs : s < 4) (hn : 200 ≤ n) (hk : k = 0 ∨ k = 1) (hz : 0 ≤ z ∧ z ≤ 65535) :
    (okW A N s → wp (fX5_writeBehindCursor n σ (20 + 40 * s) (20 + 40 * s + 10) k z) (fun r => r.1 = 0 ∧ r.2.1 = (N : Int) ∧ Cl r.2.2 (cuA (mkA A N s k (A 248 s) (-1) z (A 250 s)) s (N : Int) (N : Int)) (N + 1) nm nv ∧ FrC σ r.2.2)) ∧ (¬ okW A N s → fX5_writeBehindCursor n σ (20 + 40 * s) (20 + 40 * s + 10) k z = some (3, 0, σ)) := by
  have w := hC.site hs
  have ev : fX3_blockOf n σ (20 + 40 * s + 10) (σ (20 + 40 * s) 8) = some (blk (docOf A N (Hs A s)) (A 248 s)) := by rw [w.2.2.2.2.1]; exact q_blockOf hP (by omega) _
  have el : fX3_levelIn σ (20 + 40 * s + 10) (σ (20 + 40 * s) 0) (blk (docOf A N (Hs A s)) (A 248 s)) = some (lev (docOf A N (Hs A s)) (s : Int) (blk (docOf A N (Hs A s)) (A 248 s))) := by rw [w.1]; exact q_levelIn hP _ _
  constructor
  · rintro ⟨hl, hN⟩
    unfold fX5_writeBehindCursor
    refine wp_b1e ev (wp_b1e el ?_)
    rw [if_pos hl, xw_ok (by rw [c_room hC, if_pos (by omega)])]
    rw [w.2.2.2.2.1, w.2.2.1]
    have hm := okW_m (z := z) hI hs hN hk hz
    refine wp_b2 (c_make hI hC hm hn) (fun v σ5 q => ?_)
    obtain ⟨q1, q2, q3, _, _⟩ := q
    have q1' : v = (N : Int) := q1
    subst q1'
    have iv := hI.make hm
    refine wp_pf (wp_pf (wp_some ⟨rfl, rfl, ?_, (q3.upd (by omega)).upd (by omega)⟩))
    refine q2.cu iv.1 hs (fun a b hab => ?_) ?_ ?_
    · show st (st σ5 (20 + 40 * s) 8 (N : Int)) (20 + 40 * s) 9 (N : Int) a b = σ5 a b
      by_cases q : a = 20 + 40 * s
      · rw [q, st_row, if_neg (by omega), st_row, if_neg (by omega)]
      · rw [st_ne q, st_ne q]
    · show st (st σ5 (20 + 40 * s) 8 (N : Int)) (20 + 40 * s) 9 (N : Int) (20 + 40 * s) 8 = _
      rw [st_row, if_neg (by decide), st_row, if_pos rfl]
    · show st (st σ5 (20 + 40 * s) 8 (N : Int)) (20 + 40 * s) 9 (N : Int) (20 + 40 * s) 9 = _
      rw [st_row, if_pos rfl]
  · intro hno
    unfold fX5_writeBehindCursor
    rw [b1_ok ev, b1_ok el]
    by_cases hl : lev (docOf A N (Hs A s)) (s : Int) (blk (docOf A N (Hs A s)) (A 248 s)) = 2
    · rw [if_neg (fun g => g hl)]
    · have hN : ¬ N < 160 := fun g => hno ⟨hl, g⟩
      rw [if_pos hl, xw_x (c := 2) (by rw [c_room hC, if_neg (by omega)])]
theorem mk_248 {r : Nat} (h : r = 246 ∨ 248 ≤ r) (t : Nat) : mkA A N s k x y z p r t = A r t := by rw [mk_o (by omega) (by omega)]
theorem r_writes (hI : Inv A N nm nv) (hR : Re σ A N nm nv) (hs : s < 4) (hn : 700 ≤ n) (hk : k = 0 ∨ k = 1) (hz : 0 ≤ z ∧ z ≤ 65535) :
    wp (fX6_writes n σ (s : Int) k z) (fun r => (okW A N s → r.2 230 0 = 0 ∧ r.1 = (N : Int) ∧ Re r.2 (cuA (mkA A N s k (A 248 s) (-1) z (A 250 s)) s (N : Int) (N : Int)) (N + 1) nm nv) ∧ (¬ okW A N s → r.2 230 0 = (if k = 0 then 3 else 2) ∧ Re r.2 A N nm nv) ∧ FrR σ r.2) := by
  have dk := hI.dk hs
  have hN := hI.1.2.1
  unfold fX6_writes
  refine wp_b1 (r_site hI.1 (hI.2.1 s hs) hR hs hn) (fun σ3 q => ?_)
  obtain ⟨q1, q2, q3⟩ := q
  refine wp_rd (by omega) (by omega) ?_
  rw [Int.toNat_natCast, q2.atS hs (by decide) (by decide)]
  refine wp_b1e (r_blockOf q1.r q2.1 q1.d hN (by omega) (hI.e8 hs)) ?_
  have hb := blk_in dk.1 hN (A 248 s)
  refine wp_b1e (r_levelIn q1.r (s := (s : Int)) ⟨by omega, by omega⟩ hb) ?_
  have bad : ¬ okW A N s → wp (fX6_writes_J35 n σ3 (s : Int) k z) (fun r => (okW A N s → r.2 230 0 = 0 ∧ r.1 = (N : Int) ∧ Re r.2 (cuA (mkA A N s k (A 248 s) (-1) z (A 250 s)) s (N : Int) (N : Int)) (N + 1) nm nv) ∧ (¬ okW A N s → r.2 230 0 = (if k = 0 then 3 else 2) ∧ Re r.2 A N nm nv) ∧ FrR σ r.2) := by
    intro hno
    have one : ∀ t : Int, 0 < t → t = (if k = 0 then 3 else 2) → wp (fX6_writes_J48 n σ3 (s : Int) k z t) (fun r => (okW A N s → r.2 230 0 = 0 ∧ r.1 = (N : Int) ∧ Re r.2 (cuA (mkA A N s k (A 248 s) (-1) z (A 250 s)) s (N : Int) (N : Int)) (N + 1) nm nv) ∧ (¬ okW A N s → r.2 230 0 = (if k = 0 then 3 else 2) ∧ Re r.2 A N nm nv) ∧ FrR σ r.2) := by
      intro t ht et
      unfold fX6_writes_J48
      refine wp_pf ?_
      rw [if_neg (by rw [st_row, if_pos rfl]; omega)]
      refine wp_some ⟨fun g => absurd g hno, fun _ => ⟨?_, q2.fr (FrS.up0 FrS.rf)⟩, (FrR.ofF q3).upd (by decide)⟩
      show st σ3 230 0 t 230 0 = _
      rw [st_row, if_pos rfl]; exact et
    unfold fX6_writes_J35
    by_cases g : k = 0
    · rw [if_neg (fun w => w g)]; exact one 3 (by decide) (by rw [if_pos g])
    · rw [if_pos g]; exact one 2 (by decide) (by rw [if_neg g])
  by_cases hl : lev (docOf A N (Hs A s)) (s : Int) (blk (docOf A N (Hs A s)) (A 248 s)) = 2
  · rw [if_pos hl]; exact bad (fun g => g.1 hl)
  rw [if_neg hl, q2.1.1]
  by_cases hN2 : N = 160
  · rw [if_neg (by omega)]; exact bad (fun g => by have := g.2; omega)
  rw [if_pos (by omega)]
  unfold fX6_writes_J48
  refine wp_pf ?_
  have fr : FrR σ (st σ3 230 0 0) := (FrR.ofF q3).upd (by decide)
  have q5 : Re (st σ3 230 0 0) A N nm nv := q2.fr (FrS.up0 FrS.rf)
  have e0 : st σ3 230 0 0 230 0 = 0 := by rw [st_row, if_pos rfl]
  generalize st σ3 230 0 0 = σ4 at fr q5 e0
  rw [if_pos (by omega)]
  refine wp_rd (by omega) (by omega) (wp_rd (by omega) (by omega) ?_)
  rw [Int.toNat_natCast, q5.atS hs (by decide) (by decide), q5.atS hs (by decide) (by decide)]
  have hm := okW_m (z := z) hI hs (by omega) hk hz
  have hb := (hI.2.1 s hs).1
  refine wp_b2 (r_make' (σ := σ4) hI hm q5 (by omega) hb ⟨fun _ => rfl, fun g => absurd g (by omega), fun _ => rfl, fun _ => rfl, fun g => absurd g (by omega), fun g => absurd g (by omega), fun g => absurd g (by omega), fun g => absurd g (by omega)⟩) (fun v σ5 q => ?_)
  obtain ⟨v1, v2, v3⟩ := q
  have v1' : v = (N : Int) := v1
  subst v1'
  refine wp_wr (by omega) (by omega) (wp_wr (by omega) (by omega) (wp_some ⟨fun _ => ⟨?_, rfl, ?_⟩, fun g => absurd ⟨hl, by omega⟩ g, ?_⟩))
  · show st (st σ5 248 s (N : Int)) 249 s (N : Int) 230 0 = 0
    rw [st_ne (by decide), st_ne (by decide)]
    exact (v3 230 0 (by omega) (by omega)).trans e0
  · refine v2.cu hs (fun a b hab => ?_) ?_ ?_
    · show st (st σ5 248 s (N : Int)) 249 s (N : Int) a b = σ5 a b
      by_cases g1 : a = 249
      · rw [g1, st_row, if_neg (by omega), st_ne (by decide)]
      · rw [st_ne g1]
        by_cases g2 : a = 248
        · rw [g2, st_row, if_neg (by omega)]
        · rw [st_ne g2]
    · show st (st σ5 248 s (N : Int)) 249 s (N : Int) 248 s = _
      rw [st_ne (by decide), st_row, if_pos rfl]
    · show st (st σ5 248 s (N : Int)) 249 s (N : Int) 249 s = _
      rw [st_row, if_pos rfl]
  · have f5 : FrR σ σ5 := fr.tr v3.R
    exact (f5.upd (by decide)).upd (by decide)
theorem Inv.wr (hI : Inv A N nm nv) (hs : s < 4) (hN : N < 160) (hk : k = 0 ∨ k = 1) (hz : 0 ≤ z ∧ z ≤ 65535) : Inv (cuA (mkA A N s k (A 248 s) (-1) z (A 250 s)) s (N : Int) (N : Int)) (N + 1) nm nv :=
  (hI.make (okW_m hI hs hN hk hz)).cu hs (mk_new hI hN hs hk) (mk_new hI hN hs hk)
theorem so_split : So_split Rel := by
  intro nm nv σ y1 y2 y3 ⟨A, N, hI, hC, hR⟩ _ _ _ _
  by_cases hx : 0 ≤ y1 ∧ y1 < 4
  · have hs : y1.toNat < 4 := by omega
    have ref : ∀ σ1, Re σ1 A N nm nv → wp (fX6_split 1000 σ1 y1) (fun r => (okW A N y1.toNat → r.2 230 0 = 0 ∧ r.1 = (N : Int) ∧ Re r.2 (cuA (mkA A N y1.toNat 1 (A 248 y1.toNat) (-1) 47 (A 250 y1.toNat)) y1.toNat (N : Int) (N : Int)) (N + 1) nm nv) ∧ (¬ okW A N y1.toNat → r.2 230 0 = 2 ∧ Re r.2 A N nm nv) ∧ FrR σ1 r.2) := by
      intro σ1 hr1
      unfold fX6_split
      refine wp_b1e (r_isSite y1) ?_
      rw [decide_eq_true hx, if_neg (by decide)]
      have h := r_writes (k := 1) (z := 47) (n := 1000) hI hr1 hs (by decide) (Or.inr rfl) (by omega)
      rw [Int.toNat_of_nonneg hx.1] at h
      exact wp_b2 h (fun v s q => wp_some q)
    by_cases ok : okW A N y1.toNat
    · refine ⟨1000, So_fin (F := fun σ1 => fX6_split 1000 σ1 y1) (g := fun v => v) (k := 0) (kk := 0) (v := (N : Int)) rfl (fun _ => rfl) hR (hI.wr (k := 1) (z := 47) hs ok.2 (Or.inr rfl) (by omega)) ?_ (fun σ1 hr1 => ?_)⟩
      · unfold fX5_split
        refine c_open hI.1 hC hx (by decide) (fun σ3 p1 p2 p3 => ?_)
        obtain ⟨⟨c, v, τ⟩, e, e1, e2, e3, e4⟩ := (c_write (k := 1) (z := 47) (n := 1000) hI p2 p1 hs (by decide) (Or.inr rfl) (by omega)).1 ok
        have e1' : c = 0 := e1
        subst e1'
        rw [xw_ok e]
        exact wp_some ⟨rfl, fun _ => e2, e3, p3.tr e4⟩
      · exact wp_mono (ref σ1 hr1) (fun r q => ⟨(q.1 ok).1, fun _ => (q.1 ok).2.1, (q.1 ok).2.2, q.2.2⟩)
    · refine ⟨1000, So_fin (F := fun σ1 => fX6_split 1000 σ1 y1) (g := fun v => v) (k := 3) (kk := 2) (v := 0) rfl (fun q => (by cases q)) hR hI ?_ (fun σ1 hr1 => ?_)⟩
      · unfold fX5_split
        refine c_open hI.1 hC hx (by decide) (fun σ3 p1 p2 p3 => ?_)
        rw [xw_x (c := 2) ((c_write (k := 1) (z := 47) (n := 1000) hI p2 p1 hs (by decide) (Or.inr rfl) (by omega)).2 ok)]
        exact wp_some ⟨rfl, fun q => (by cases q), p2, p3⟩
      · exact wp_mono (ref σ1 hr1) (fun r q => ⟨(q.2.1 ok).1, fun q => (by cases q), (q.2.1 ok).2, q.2.2⟩)
  · refine ⟨1000, So_fin (F := fun σ1 => fX6_split 1000 σ1 y1) (g := fun v => v) (k := 1) (kk := 1) (v := 0) rfl (fun q => (by cases q)) hR hI (by unfold fX5_split; exact c_no hC hx) (fun σ1 hr1 => ?_)⟩
    unfold fX6_split
    refine wp_b1e (r_isSite y1) ?_
    rw [decide_eq_false hx, if_pos (by rfl)]
    exact wp_b2e (r_fails 1) (wp_some (r_no hr1 (by decide)))
theorem so_type : So_type Rel := by
  intro nm nv σ y1 y2 y3 ⟨A, N, hI, hC, hR⟩ _ _ _ _
  have hw : 0 ≤ y2 % 65536 ∧ y2 % 65536 ≤ 65535 := by omega
  generalize y2 % 65536 = w at hw
  by_cases hx : 0 ≤ y1 ∧ y1 < 4
  · have hs : y1.toNat < 4 := by omega
    by_cases hl : w = 32 ∨ (97 ≤ w ∧ w ≤ 122)
    · have cls : ∀ {Q : Nat × Int × St → Prop}, (∀ σ3, isP σ3 (20 + 40 * y1.toNat + 10) (docOf A N (Hs A y1.toNat)) → Cl σ3 A N nm nv → FrC σ σ3 → wp (xw 0 (fX5_writeBehindCursor 1000 σ3 (20 + 40 * y1.toNat) (20 + 40 * y1.toNat + 10) 0 w) (fun v6 σ5 => some (0, v6, σ5))) Q) → wp (fX5_type 1000 σ y1 w) Q := by
        intro Q hK
        unfold fX5_type
        rw [xw_ok (c_siteAt hx)]
        have go : wp (fX5_type_J34 1000 σ y1 w (20 + 40 * y1.toNat)) Q := by
          unfold fX5_type_J34
          refine wp_b2 (c_paperOf hI.1 hC hs (by decide)) (fun o s q => ?_)
          obtain ⟨q1, q2, q3, q4⟩ := q
          have q1' : o = 20 + 40 * y1.toNat + 10 := q1
          subst q1'
          exact hK s q2 q3 q4
        by_cases g : w = 32
        · rw [if_pos g]; exact go
        · rw [if_neg g, if_neg (by omega), if_pos (by omega)]; exact go
      have ref : ∀ σ1, Re σ1 A N nm nv → wp (fX6_type 1000 σ1 y1 w) (fun r => (okW A N y1.toNat → r.2 230 0 = 0 ∧ r.1 = (N : Int) ∧ Re r.2 (cuA (mkA A N y1.toNat 0 (A 248 y1.toNat) (-1) w (A 250 y1.toNat)) y1.toNat (N : Int) (N : Int)) (N + 1) nm nv) ∧ (¬ okW A N y1.toNat → r.2 230 0 = 3 ∧ Re r.2 A N nm nv) ∧ FrR σ1 r.2) := by
        intro σ1 hr1
        unfold fX6_type
        refine wp_b1e (r_isSite y1) ?_
        rw [decide_eq_true hx, if_pos (by decide)]
        refine wp_b1e (r_isIn _ _ _) ?_
        have go : wp (fX6_type_J29 1000 σ1 y1 w) (fun r => (okW A N y1.toNat → r.2 230 0 = 0 ∧ r.1 = (N : Int) ∧ Re r.2 (cuA (mkA A N y1.toNat 0 (A 248 y1.toNat) (-1) w (A 250 y1.toNat)) y1.toNat (N : Int) (N : Int)) (N + 1) nm nv) ∧ (¬ okW A N y1.toNat → r.2 230 0 = 3 ∧ Re r.2 A N nm nv) ∧ FrR σ1 r.2) := by
          unfold fX6_type_J29 fX6_type_J34
          refine wp_pf ?_
          rw [if_pos (by rw [st_row, if_pos rfl]; decide)]
          have h := r_writes (k := 0) (z := w) (n := 1000) hI (hr1.fr (FrS.up0 (v := 0) FrS.rf)) hs (by decide) (Or.inl rfl) hw
          rw [Int.toNat_of_nonneg hx.1] at h
          refine wp_b2 h (fun v s q => wp_some ⟨q.1, q.2.1, ?_⟩)
          exact (FrS.up0 (v := 0) (FrS.rf (σ := σ1))).R.tr q.2.2
        by_cases g : 97 ≤ w ∧ w ≤ 122
        · rw [decide_eq_true g, if_pos (by decide)]; exact go
        · rw [decide_eq_false g, if_neg (by decide), if_neg (by omega)]; exact go
      by_cases ok : okW A N y1.toNat
      · refine ⟨1000, So_fin (F := fun σ1 => fX6_type 1000 σ1 y1 w) (g := fun v => v) (k := 0) (kk := 0) (v := (N : Int)) rfl (fun _ => rfl) hR (hI.wr (k := 0) (z := w) hs ok.2 (Or.inl rfl) hw) (cls (fun σ3 p1 p2 p3 => ?_)) (fun σ1 hr1 => ?_)⟩
        · obtain ⟨⟨c, v, τ⟩, e, e1, e2, e3, e4⟩ := (c_write (k := 0) (z := w) (n := 1000) hI p2 p1 hs (by decide) (Or.inl rfl) hw).1 ok
          have e1' : c = 0 := e1
          subst e1'
          rw [xw_ok e]
          exact wp_some ⟨rfl, fun _ => e2, e3, p3.tr e4⟩
        · exact wp_mono (ref σ1 hr1) (fun r q => ⟨(q.1 ok).1, fun _ => (q.1 ok).2.1, (q.1 ok).2.2, q.2.2⟩)
      · refine ⟨1000, So_fin (F := fun σ1 => fX6_type 1000 σ1 y1 w) (g := fun v => v) (k := 3) (kk := 3) (v := 0) rfl (fun q => (by cases q)) hR hI (cls (fun σ3 p1 p2 p3 => ?_)) (fun σ1 hr1 => ?_)⟩
        · rw [xw_x (c := 2) ((c_write (k := 0) (z := w) (n := 1000) hI p2 p1 hs (by decide) (Or.inl rfl) hw).2 ok)]
          exact wp_some ⟨rfl, fun q => (by cases q), p2, p3⟩
        · exact wp_mono (ref σ1 hr1) (fun r q => ⟨(q.2.1 ok).1, fun q => (by cases q), (q.2.1 ok).2, q.2.2⟩)
    · refine ⟨1000, So_fin (F := fun σ1 => fX6_type 1000 σ1 y1 w) (g := fun v => v) (k := 2) (kk := 2) (v := 0) rfl (fun q => (by cases q)) hR hI ?_ (fun σ1 hr1 => ?_)⟩
      · unfold fX5_type
        rw [xw_ok (c_siteAt hx), if_neg (by omega)]
        have : wp (fX5_type_J24 1000 σ y1 w) (OkC σ A N nm nv 2 0) := wp_some ⟨rfl, fun q => (by cases q), hC, FrC.rf⟩
        by_cases g : w < 97
        · rw [if_pos g]; exact this
        · rw [if_neg g, if_neg (by omega)]; exact this
      · unfold fX6_type
        refine wp_b1e (r_isSite y1) ?_
        rw [decide_eq_true hx, if_pos (by decide)]
        refine wp_b1e (r_isIn _ _ _) ?_
        rw [decide_eq_false (by omega), if_neg (by decide), if_pos (by omega)]
        unfold fX6_type_J34
        refine wp_pf ?_
        rw [if_neg (by rw [st_row, if_pos rfl]; decide)]
        exact wp_some (r_no hr1 (by decide))
  · refine ⟨1000, So_fin (F := fun σ1 => fX6_type 1000 σ1 y1 w) (g := fun v => v) (k := 1) (kk := 1) (v := 0) rfl (fun q => (by cases q)) hR hI (by unfold fX5_type; exact c_no hC hx) (fun σ1 hr1 => ?_)⟩
    unfold fX6_type
    refine wp_b1e (r_isSite y1) ?_
    rw [decide_eq_false hx, if_neg (by decide)]
    unfold fX6_type_J34
    refine wp_pf ?_
    rw [if_neg (by rw [st_row, if_pos rfl]; decide)]
    exact wp_some (r_no hr1 (by decide))
end WRITE
