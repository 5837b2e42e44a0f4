/-! ===== deliver ===== -/
section DEL
variable {σ τ A B C : St} {N nm nv n s m : Nat} {L1 : List Int}
def tkN (A : St) (s : Nat) (a : Int) : St := fun r b => if r = 243 then (if b = 160 * s + a.toNat then 1 else A 243 b) else if r = 244 then (if b = 160 * s + (A 245 s).toNat then a else A 244 b) else if r = 245 then (if b = s then A 245 s + 1 else A 245 b) else if r = 247 then (if b = s then imax (A 247 s) (A 10 a.toNat) else A 247 b) else A r b
def tkA (A : St) (s : Nat) (a : Int) : St := if Hs A s a = true then A else tkN A s a
def dlA (A : St) (s : Nat) (L : List Int) : St := L.foldl (fun B a => tkA B s a) A
theorem tk_243 {a : Int} (b : Nat) : tkN A s a 243 b = if b = 160 * s + a.toNat then 1 else A 243 b := rfl
theorem tk_244 {a : Int} (b : Nat) : tkN A s a 244 b = if b = 160 * s + (A 245 s).toNat then a else A 244 b := rfl
theorem tk_245 {a : Int} (b : Nat) : tkN A s a 245 b = if b = s then A 245 s + 1 else A 245 b := rfl
theorem tk_247 {a : Int} (b : Nat) : tkN A s a 247 b = if b = s then imax (A 247 s) (A 10 a.toNat) else A 247 b := rfl
theorem tk_o {a : Int} {r : Nat} (h : r ≠ 243 ∧ r ≠ 244 ∧ r ≠ 245 ∧ r ≠ 247) : tkN A s a r = A r := by
  funext b; unfold tkN; rw [if_neg h.1, if_neg h.2.1, if_neg h.2.2.1, if_neg h.2.2.2]
def okT (A : St) (N s : Nat) (a : Int) : Prop := (0 ≤ a ∧ a < (N : Int)) ∧ Hs A s a = false ∧ nmd A a (JL A s)
theorem tk_size (hI : Inv A N nm nv) (hs : s < 4) {a : Int} (h : okT A N s a) : 0 ≤ A 245 s ∧ A 245 s < (N : Int) := by
  have hl := JL_len hI hs
  have h2 := hI.2.1 s hs
  have ha : a ∉ JL A s := fun w => by
    have := (Hs_iff h2 hI.1.2.1 a).mpr w
    rw [h.2.1] at this; cases this
  have nd : (JL A s ++ [a]).Nodup := by
    rw [List.nodup_append]
    refine ⟨h2.2.2.2.1, List.pairwise_cons.mpr ⟨fun _ w => (nomatch w), List.Pairwise.nil⟩, fun x hx y hy e => ?_⟩
    rcases List.mem_cons.mp hy with w | w
    · subst w; subst e; exact ha hx
    · cases w
  have := cnt_sub (P := fun _ => true) (JL A s ++ [a]) (ids N) nd (fun x hx _ => by
    rw [ids_mem]
    rcases List.mem_append.mp hx with w | w
    · exact h2.2.2.2.2.1 x w
    · rcases List.mem_cons.mp w with w | w
      · rw [w]; exact h.1
      · cases w)
  rw [cnt_all, cnt_all, List.length_append, hl.2.2] at this
  have e1 : (ids N).length = N := seg_len _ _ _
  have e2 : [a].length = 1 := rfl
  omega
theorem tk_jl (hI : Inv A N nm nv) (hs : s < 4) {a : Int} (h : okT A N s a) : JL (tkN A s a) s = JL A s ++ [a] := by
  have hz := tk_size hI hs h
  unfold JL
  rw [tk_245, if_pos rfl, show (A 245 s + 1).toNat = (A 245 s).toNat + 1 by omega, seg_one, Nat.zero_add, tk_244, if_pos rfl]
  congr 1
  exact seg_congr (fun j _ hj => by rw [tk_244, if_neg (by omega)])
theorem tk_same (hI : Inv A N nm nv) (hs : s < 4) {a : Int} (h : okT A N s a) : SaS A (tkN A s a) s := by
  have hz := tk_size hI hs h
  have hN := hI.1.2.1
  have ha := h.1
  refine ⟨fun r hr => tk_o (by omega), fun t ht hne => ⟨fun b hb => ⟨?_, ?_⟩, fun r r1 r2 => ?_⟩⟩
  · rw [tk_243, if_neg (by omega)]
  · rw [tk_244, if_neg (by omega)]
  · rcases (show r = 245 ∨ r = 246 ∨ r = 247 ∨ r = 248 ∨ r = 249 by omega) with rfl | rfl | rfl | rfl | rfl
    · rw [tk_245, if_neg hne]
    · rw [tk_o (by decide)]
    · rw [tk_247, if_neg hne]
    · rw [tk_o (by decide)]
    · rw [tk_o (by decide)]
theorem tk_Hs {a x : Int} (h : 0 ≤ a ∧ a < 160) (hx : Hs A s x = true ∨ x = a) : Hs (tkN A s a) s x = true := by
  rcases hx with hx | hx
  · have w : num x ∧ A 243 (160 * s + x.toNat) ≠ 0 := of_decide_eq_true hx
    refine decide_eq_true ⟨w.1, ?_⟩
    rw [tk_243]; split
    · decide
    · exact w.2
  · rw [hx]
    refine decide_eq_true ⟨h, ?_⟩
    rw [tk_243, if_pos rfl]; decide
theorem tk_in2 (hI : Inv A N nm nv) (hs : s < 4) {a : Int} (h : okT A N s a) : In2 (tkN A s a) N s := by
  have hz := tk_size hI hs h
  have hj := tk_jl hI hs h
  have hN := hI.1.2.1
  have sa := tk_same hI hs h
  have h10 := hI.1.2.2.2.2.2.2 a.toNat (by have := h.1; omega)
  obtain ⟨g1, g2, g3, g4, g5, g6, g7, g8, g9, g10, g11, g12⟩ := hI.2.1 s hs
  have ha : a ∉ JL A s := fun w => by
    have := (Hs_iff (hI.2.1 s hs) hI.1.2.1 a).mpr w
    rw [h.2.1] at this; cases this
  have up : ∀ c, curOK A N s c → curOK (tkN A s a) N s c := fun c hc => by
    rcases hc with w | w
    · exact Or.inl w
    · refine Or.inr ⟨tk_Hs ⟨h.1.1, by have := h.1; omega⟩ (Or.inl w.1), ?_⟩
      have e : mkE (tkN A s a) N c = mkE A N c := by unfold mkE; rw [tk_o (by decide)]
      rw [e]; exact w.2
  unfold In2
  rw [hj]
  refine ⟨?_, ?_, ?_, ?_, fun x hx => ?_, fun b hb => ?_, fun b hb => ?_, ?_, fun b hb hc => ?_, ?_, ?_, ?_⟩
  · rw [tk_o (by decide)]; exact g1
  · rw [tk_247, if_pos rfl]; unfold imax; split <;> omega
  · rw [tk_245, if_pos rfl]; omega
  · rw [List.nodup_append]
    refine ⟨g4, List.pairwise_cons.mpr ⟨fun _ w => (nomatch w), List.Pairwise.nil⟩, fun x hx y hy e => ?_⟩
    rcases List.mem_cons.mp hy with w | w
    · subst w; subst e; exact ha hx
    · cases w
  · rcases List.mem_append.mp hx with w | w
    · exact g5 x w
    · rcases List.mem_cons.mp w with w | w
      · rw [w]; exact h.1
      · cases w
  · rw [tk_243]; split
    · exact Or.inr rfl
    · exact g6 b hb
  · rw [tk_243, List.mem_append]
    by_cases q : b = a.toNat
    · rw [if_pos (by omega)]
      refine ⟨fun _ => Or.inr ?_, fun _ => by decide⟩
      rw [q, Int.toNat_of_nonneg h.1.1]; exact List.mem_cons_self
    · rw [if_neg (by omega), g7 b hb]
      refine ⟨fun w => Or.inl w, fun w => ?_⟩
      rcases w with w | w
      · exact w
      · rcases List.mem_cons.mp w with w | w
        · omega
        · cases w
  · refine (sa.t.cj g8).snoc (sa.t.nm h.2.2)
  · rw [tk_o (r := 9) (by decide), tk_243] at hc
    rw [tk_o (r := 10) (by decide), tk_247, if_pos rfl]
    by_cases q : b = a.toNat
    · rw [q]; unfold imax; split <;> omega
    · rw [if_neg (by omega)] at hc
      have := g9 b hb hc
      unfold imax; split <;> omega
  · rw [tk_o (by decide)]; exact up _ g10
  · rw [tk_o (by decide)]; exact up _ g11
  · rw [tk_o (r := 246) (by decide), tk_245, if_pos rfl]; omega
theorem SaS.rf : SaS A A s := ⟨fun _ _ => rfl, fun _ _ _ => ⟨fun _ _ => ⟨rfl, rfl⟩, fun _ _ _ => rfl⟩⟩
theorem SaS.tr (h : SaS A B s) (h2 : SaS B C s) : SaS A C s := ⟨fun r hr => (h2.1 r hr).trans (h.1 r hr), fun t ht hne => ⟨fun a ha => ⟨((h2.2 t ht hne).1 a ha).1.trans ((h.2 t ht hne).1 a ha).1, ((h2.2 t ht hne).1 a ha).2.trans ((h.2 t ht hne).1 a ha).2⟩, fun r r1 r2 => ((h2.2 t ht hne).2 r r1 r2).trans ((h.2 t ht hne).2 r r1 r2)⟩⟩
/-- what holds after a part of a message -/
def Gd (A B : St) (N nm nv s : Nat) (L : List Int) : Prop := Inv B N nm nv ∧ SaS A B s ∧ (∀ x, x ∈ L → Hs B s x = true) ∧ (∀ q, q ≤ (A 245 s).toNat → (JL B s).take q = (JL A s).take q) ∧ (B = A ∨ A 245 s < B 245 s)
theorem dlA_snoc (L : List Int) (a : Int) : dlA A s (L ++ [a]) = tkA (dlA A s L) s a := by
  unfold dlA; rw [List.foldl_append]; rfl
/-- the next act of a message: what it names is there -/
theorem dl_next (hI : Inv A N nm nv) (hm : m < nm) {L1 L2 : List Int} {a : Int} (e : (OL A N).filter (Ms A m) = L1 ++ a :: L2) (g : Gd A B N nm nv s L1) (hs : s < 4) (hno : Hs B s a = false) : okT B N s a := by
  have hN := hI.1.2.1
  have hts := hI.1.2.2.2.2.1
  have htk := hI.1.2.2.2.2.2.1
  have hmem : a ∈ (OL A N).filter (Ms A m) := by rw [e]; exact List.mem_append_right _ List.mem_cons_self
  rw [List.mem_filter, hts.2] at hmem
  have cl := (hI.2.2.2.1.2.1 m hm).2.1 a.toNat (by omega) (by rw [Int.toNat_of_nonneg hmem.1.1]; exact hmem.2)
  have tk := htk a.toNat (by omega)
  rw [Int.toNat_of_nonneg hmem.1.1] at tk
  have srt := List.Pairwise.filter (Ms A m) hts.1
  rw [e, List.pairwise_append, List.pairwise_cons] at srt
  have inJ : ∀ x : Int, Ms A m x = true → key A x < key A a → x ∈ JL B s := by
    intro x hx hk
    have hr : 0 ≤ x ∧ x < (N : Int) := by
      have w : num x ∧ A 255 (160 * m + x.toNat) ≠ 0 := of_decide_eq_true hx
      have w1 : 0 ≤ x ∧ x < 160 := w.1
      have := (hI.2.2.2.1.2.2 m x.toNat (by have := hI.2.2.2.1.1; omega) (by omega)).2 w.2
      omega
    have hin : x ∈ (OL A N).filter (Ms A m) := by rw [List.mem_filter, hts.2]; exact ⟨hr, hx⟩
    rw [e, List.mem_append] at hin
    rcases hin with w | w
    · exact (Hs_iff (g.1.2.1 s hs) hN x).mp (g.2.2.1 x w)
    · rcases List.mem_cons.mp w with w | w
      · rw [w] at hk; omega
      · have := srt.2.1.1 x w; omega
  refine ⟨hmem.1, hno, ?_⟩
  have st := g.2.1.t
  unfold nmd
  rw [st 11 (by decide) (by decide), st 12 (by decide) (by decide), st 13 (by decide) (by decide)]
  exact ⟨fun h h0 => inJ _ (cl.1 h h0) (tk.1 h h0), fun h => inJ _ (cl.2.1 h) (tk.2.1 h), fun h => inJ _ (cl.2.2 h) (tk.2.2 h)⟩
theorem Gd.no (g : Gd A B N nm nv s L1) {a : Int} (h : Hs B s a = true) : Gd A (tkA B s a) N nm nv s (L1 ++ [a]) := by
  have : tkA B s a = B := if_pos h
  rw [this]
  refine ⟨g.1, g.2.1, fun x hx => ?_, g.2.2.2⟩
  rcases List.mem_append.mp hx with w | w
  · exact g.2.2.1 x w
  · rcases List.mem_cons.mp w with w | w
    · rw [w]; exact h
    · cases w
theorem Gd.yes (g : Gd A B N nm nv s L1) (hs : s < 4) {a : Int} (h : okT B N s a) : Gd A (tkA B s a) N nm nv s (L1 ++ [a]) ∧ tkA B s a = tkN B s a := by
  have hN := g.1.1.2.1
  have ha := h.1
  have e : tkA B s a = tkN B s a := if_neg (by rw [h.2.1]; decide)
  refine ⟨?_, e⟩
  rw [e]
  have hj := tk_jl g.1 hs h
  have hl := JL_len g.1 hs
  have hle : A 245 s ≤ B 245 s := by rcases g.2.2.2.2 with w | w; rw [w]; exact Int.le_refl _; omega
  refine ⟨g.1.site (tk_same g.1 hs h) (tk_in2 g.1 hs h), g.2.1.tr (tk_same g.1 hs h), fun x hx => ?_, fun q hq => ?_, Or.inr ?_⟩
  · refine tk_Hs ⟨ha.1, by omega⟩ ?_
    rcases List.mem_append.mp hx with w | w
    · exact Or.inl (g.2.2.1 x w)
    · rcases List.mem_cons.mp w with w | w
      · exact Or.inr w
      · cases w
  · rw [hj, List.take_append_of_le_length (by omega)]; exact g.2.2.2.1 q hq
  · rw [tk_245, if_pos rfl]; omega
theorem Gd.rf (hI : Inv A N nm nv) : Gd A A N nm nv s [] := ⟨hI, SaS.rf, fun _ w => (nomatch w), fun _ _ => rfl, Or.inl rfl⟩
theorem c_take2 (hI : Inv A N nm nv) (h : ClW σ A N nm nv s) (hs : s < 4) {a : Int} (hok : okT A N s a) : wp (fX4_take σ (20 + 40 * s) a (A 10 a.toNat)) (fun σ2 => ClW σ2 (tkN A s a) N nm nv s ∧ FrC σ σ2) := by
  have g := h.g hs
  have hz := tk_size hI hs hok
  have hN := hI.1.2.1
  have ha := hok.1
  obtain ⟨g0, g6, g7, g8, g9, g1, g2, g3⟩ := g
  have h243 : A 243 (160 * s + a.toNat) = 0 := by
    have : ¬ (num a ∧ A 243 (160 * s + a.toNat) ≠ 0) := of_decide_eq_false hok.2.1
    by_cases q : A 243 (160 * s + a.toNat) = 0
    · exact q
    · exact absurd ⟨show 0 ≤ a ∧ a < 160 by omega, q⟩ this
  have h02 : σ (20 + 40 * s + 2) a.toNat = 0 := by rw [g2 _ (by omega)]; exact h243
  have hin : inS σ (20 + 40 * s + 1) a = false := decide_eq_false (fun w => w.2 h02)
  unfold fX4_take
  refine wp_b1e (q_contains _ _ _) ?_
  rw [hin, if_neg (by decide), g1, if_pos (by omega)]
  refine wp_wr (by omega) (by omega) ?_
  refine wp_b1 (P := fun σ3 => σ3 = st (st (st σ (20 + 40 * s + 3) (A 245 s).toNat a) (20 + 40 * s + 2) a.toNat 1) (20 + 40 * s + 1) 1 (A 245 s + 1)) ?_ (fun σ3 e => ?_)
  · unfold fX0_add
    rw [if_neg (by omega), if_neg (by omega)]
    refine wp_rd (by omega) (by omega) ?_
    rw [st_ne (by omega), h02, if_neg (by decide)]
    refine wp_wrb (by omega) (by omega) (Or.inr rfl) ?_
    rw [st_ne (by omega), st_ne (by omega), g1]
    exact wp_ck (by omega) (by omega) (wp_pf (wp_some rfl))
  · subst e
    refine wp_vl (wp_pf (wp_some ⟨?_, fun x y h1 h2 => ?_⟩))
    · rw [st_ne (a := 20 + 40 * s) (by omega), st_ne (a := 20 + 40 * s) (by omega), st_ne (a := 20 + 40 * s) (by omega), g7]
      refine Cl.site' hI h hs (tk_same hI hs hok) (fun x hx => ?_) ⟨?_, ?_, ?_, ?_, ?_, ?_, fun x hx => ?_, fun i hi => ?_⟩
      · rw [st_fn (by omega), st_fn (by omega), st_fn (by omega), st_fn (by omega)]
      · rw [st_row, if_neg (by decide), st_ne (by omega), st_ne (by omega), st_ne (by omega)]; exact g0
      · rw [st_row, if_neg (by decide), st_ne (by omega), st_ne (by omega), st_ne (by omega), tk_o (by decide)]; exact g6
      · rw [st_row, if_pos rfl, tk_247, if_pos rfl]
      · rw [st_row, if_neg (by decide), st_ne (by omega), st_ne (by omega), st_ne (by omega), tk_o (by decide)]; exact g8
      · rw [st_row, if_neg (by decide), st_ne (by omega), st_ne (by omega), st_ne (by omega), tk_o (by decide)]; exact g9
      · rw [st_ne (by omega), st_row, if_pos rfl, tk_245, if_pos rfl]
      · rw [st_ne (by omega), st_ne (by omega), st_row, st_ne (by omega), tk_243]
        by_cases q : x = a.toNat
        · rw [if_pos q, if_pos (by omega)]
        · rw [if_neg q, if_neg (by omega)]; exact g2 x hx
      · rw [tk_245, if_pos rfl] at hi
        rw [st_ne (by omega), st_ne (by omega), st_ne (by omega), st_row, tk_244]
        by_cases q : i = (A 245 s).toNat
        · rw [if_pos q, if_pos (by omega)]
        · rw [if_neg q, if_neg (by omega)]; exact g3 i (by omega)
    · rw [st_ne (by omega), st_ne (by omega), st_ne (by omega), st_ne (by omega)]
/-- what a site learns -/
def lrA (A : St) (s m : Nat) : St := fun r b => if r = 252 then (if 4 * s ≤ b then (if b < 4 * s + 4 then imax (A 252 b) (A 257 (4 * m + (b - 4 * s))) else A 252 b) else A 252 b) else A r b
theorem lr_252 (s1 t : Nat) (ht : t < 4) : lrA A s m 252 (4 * s1 + t) = if s1 = s then imax (A 252 (4 * s + t)) (A 257 (4 * m + t)) else A 252 (4 * s1 + t) := by
  show (if 4 * s ≤ 4 * s1 + t then (if 4 * s1 + t < 4 * s + 4 then imax (A 252 (4 * s1 + t)) (A 257 (4 * m + (4 * s1 + t - 4 * s))) else A 252 (4 * s1 + t)) else A 252 (4 * s1 + t)) = _
  by_cases q : s1 = s
  · rw [if_pos q, if_pos (by omega), if_pos (by omega), q, show 4 * s + t - 4 * s = t by omega]
  · rw [if_neg q]
    by_cases q2 : 4 * s ≤ 4 * s1 + t
    · rw [if_pos q2, if_neg (by omega)]
    · rw [if_neg q2]
theorem lr_o {r : Nat} (h : r ≠ 252) : lrA A s m r = A r := by funext b; unfold lrA; rw [if_neg h]
theorem lr_g : SaG A (lrA A s m) := fun r hr => lr_o (by omega)
theorem Inv.lr (hI : Inv A N nm nv) (hs : s < 4) (hm : m < nm) : Inv (lrA A s m) N nm nv := by
  obtain ⟨q1, q2, q3, q4, q5⟩ := id hI
  have h4 := (q4.2.1 m hm).2.2
  refine hI.gen lr_g (fun t ht => ?_) (fun s1 t h1 h2 => ⟨⟨?_, ?_⟩, ?_⟩) ?_ ?_
  · rw [lr_o (by decide)]; exact (q2 t ht).2.2.2.2.2.2.2.2.2.2.2
  · rw [lr_252 _ _ h2]
    have := (q3 s1 t h1 h2).1
    split
    · rename_i e; subst e; unfold imax; split
      · exact (h4 t h2).1
      · exact this.1
    · exact this.1
  · rw [lr_252 _ _ h2, lr_o (r := 246) (by decide)]
    have := (q3 s1 t h1 h2).1
    split
    · rename_i e; subst e; unfold imax; split
      · exact (h4 t h2).2
      · exact this.2
    · exact this.2
  · rw [lr_252 _ _ h1, lr_o (r := 246) (by decide)]
    have := (q3 s1 s1 h1 h1).2
    split
    · rename_i e; subst e
      have := h4 s1 h1
      unfold imax
      split <;> omega
    · exact this
  · obtain ⟨g1, g2, g3⟩ := q4
    refine ⟨g1, fun m2 hm2 => ?_, by rw [lr_o (by decide)]; exact g3⟩
    have z := g2 m2 hm2
    rw [lr_o (r := 254) (by decide), lr_o (r := 257) (by decide), lr_o (r := 246) (by decide)]
    refine ⟨z.1, ?_, z.2.2⟩
    have : Ms (lrA A s m) m2 = Ms A m2 := by funext x; unfold Ms; rw [lr_o (by decide)]
    rw [this]; exact lr_g.t.cl z.2.1
  · obtain ⟨g1, g2⟩ := q5
    refine ⟨g1, fun v hv => ?_⟩
    have z := g2 v hv
    have : Vs (lrA A s m) v = Vs A v := by funext x; unfold Vs; rw [lr_o (by decide)]
    rw [this, lr_o (r := 258) (by decide)]
    exact ⟨lr_g.t.cl z.1, z.2⟩
theorem ln_m (hm : m < 80) : ln (300 + 4 * m + 3) = 4 := by
  unfold ln
  rw [if_neg (by omega), if_pos (by omega), show (300 + 4 * m + 3 - 300) % 4 = 3 by omega]
  rfl
theorem c_learn (hI : Inv A N nm nv) (hs : s < 4) (hm : m < nm) (hm80 : nm ≤ 80) (h4 : ∀ t, t < 4 → σ (20 + 40 * s + 4) t = A 252 (4 * s + t)) (h3 : ∀ t, t < 4 → σ (300 + 4 * m + 3) t = A 257 (4 * m + t)) (hn : 200 ≤ n) : wp (fX4_learn n σ (20 + 40 * s) (300 + 4 * m + 3)) (fun σ2 => (∀ a, a ≠ 20 + 40 * s + 4 → σ2 a = σ a) ∧ ∀ t, t < 4 → σ2 (20 + 40 * s + 4) t = lrA A s m 252 (4 * s + t)) := by
  have key1 : ∀ (q k i : Nat) (σ1 : St), i + q = 4 → q < k → (∀ a, a ≠ 20 + 40 * s + 4 → σ1 a = σ a) → (∀ t, t < 4 → σ1 (20 + 40 * s + 4) t = if t < i then lrA A s m 252 (4 * s + t) else A 252 (4 * s + t)) → wp (fX4_learn_L2 n (20 + 40 * s) (300 + 4 * m + 3) k σ1 (i : Int)) (fun σ2 => (∀ a, a ≠ 20 + 40 * s + 4 → σ2 a = σ a) ∧ ∀ t, t < 4 → σ2 (20 + 40 * s + 4) t = lrA A s m 252 (4 * s + t)) := by
    intro q
    induction q with
    | zero =>
      intro k i σ1 e hk f g
      obtain ⟨k, rfl⟩ : ∃ q, k = q + 1 := ⟨k - 1, by omega⟩
      unfold fX4_learn_L2
      rw [lpR_s]
      unfold fX4_learn_L2s
      rw [if_pos (by omega)]
      exact wp_some ⟨f, fun t ht => by rw [g t ht, if_pos (by omega)]⟩
    | succ q ih =>
      intro k i σ1 e hk f g
      obtain ⟨k, rfl⟩ : ∃ q, k = q + 1 := ⟨k - 1, by omega⟩
      have ih2 := fun σ2 => ih k (i + 1) σ2 (by omega) (by omega)
      unfold fX4_learn_L2 at ih2 ⊢
      rw [lpR_s]
      generalize lpR (fun _ _ => none) (fX4_learn_L2s n (20 + 40 * s) (300 + 4 * m + 3)) k = lp at ih2
      unfold fX4_learn_L2s
      rw [if_neg (by omega), ln_m (by omega), if_neg (by omega)]
      refine wp_rd (by omega) (by omega) (wp_rd (by omega) (by omega) (wp_vl (wp_wr (by omega) (by omega) (wp_ck (by omega) (by omega) ?_))))
      rw [Int.toNat_natCast, g i (by omega), if_neg (by omega), f (300 + 4 * m + 3) (by omega), h3 i (by omega)]
      refine ih2 _ (fun a ha => by rw [st_fn ha]; exact f a ha) (fun t ht => ?_)
      rw [st_row]
      by_cases q : t = i
      · rw [if_pos q, if_pos (by omega), q, lr_252 _ _ (by omega), if_pos rfl]
      · rw [if_neg q, g t ht]
        by_cases q2 : t < i
        · rw [if_pos q2, if_pos (by omega)]
        · rw [if_neg q2, if_neg (by omega)]
  unfold fX4_learn
  exact key1 4 n 0 σ (by decide) (by omega) (fun _ _ => rfl) (fun t ht => by rw [if_neg (by omega)]; exact h4 t ht)
/-- the class, after a part of the message -/
def CD2 (σ τ A B : St) (N nm nv s : Nat) : Prop := (B = A ∧ τ = σ) ∨ (A 245 s < B 245 s ∧ ClW τ B N nm nv s)
theorem lr_cl (hI : Inv A N nm nv) (h : Cl σ A N nm nv) (hs : s < 4) (hf : ∀ a, a ≠ 20 + 40 * s + 4 → τ a = σ a) (h4 : ∀ t, t < 4 → τ (20 + 40 * s + 4) t = lrA A s m 252 (4 * s + t)) : Cl τ (lrA A s m) N nm nv := by
  refine Cl.gen (τ := τ) hI h lr_g (fun a h1 h2 h3 => hf a (h3 _ hs)) (fun t u ht hu => ?_) ⟨?_, ?_, fun m2 hm => ?_⟩ ⟨?_, ?_, fun v hv a ha => ?_⟩
  · by_cases q : t = s
    · subst q; exact h4 u hu
    · rw [hf _ (by omega), lr_252 _ _ hu, if_neg q]; exact (h.site ht).2.2.2.2.2.2.2.2.2.1 u hu
  · rw [hf 0 (by omega)]; exact h.2.2.2.2.1.1
  · rw [hf 2 (by omega)]; exact h.2.2.2.2.1.2.1
  · exact (h.2.2.2.2.1.2.2 m2 hm).fr (hf _ (by omega)) (hf _ (by omega)) (hf _ (by omega)) (by rw [lr_o (by decide)]) (fun a _ => by rw [lr_o (by decide)]) (fun t _ => by rw [lr_o (by decide)])
  · rw [hf 0 (by omega)]; exact h.2.2.2.2.2.1
  · rw [hf 3 (by omega)]; exact h.2.2.2.2.2.2.1
  · rw [hf _ (by omega), lr_o (by decide)]; exact h.2.2.2.2.2.2.2 v hv a ha
theorem c_delL (hI : Inv A N nm nv) (hC : Cl σ A N nm nv) (hs : s < 4) (hm : m < nm) (hn : 200 ≤ n) (y : Int) : ∀ (q k i : Nat) (τ : St), i + q = N → q < k → Gd A (dlA A s (((OL A N).take i).filter (Ms A m))) N nm nv s (((OL A N).take i).filter (Ms A m)) → CD2 σ τ A (dlA A s (((OL A N).take i).filter (Ms A m))) N nm nv s → FrC σ τ →
    wp (fX5_deliver_L27 n y (300 + 4 * m) (20 + 40 * s) (A 245 s) k τ (i : Int)) (fun r => r.1 = 0 ∧ r.2.1 = dlA A s ((OL A N).filter (Ms A m)) 245 s - A 245 s ∧ Cl r.2.2 (lrA (dlA A s ((OL A N).filter (Ms A m))) s m) N nm nv ∧ FrC σ r.2.2) ∧ Gd A (dlA A s ((OL A N).filter (Ms A m))) N nm nv s ((OL A N).filter (Ms A m)) := by
  have hN := hI.1.2.1
  have hm80 := hI.2.2.2.1.1
  have to := hI.1.to
  intro q
  induction q with
  | zero =>
    intro k i τ e hk g c f
    obtain ⟨k, rfl⟩ : ∃ q, k = q + 1 := ⟨k - 1, by omega⟩
    have eT : (OL A N).take i = OL A N := List.take_of_length_le (by rw [show (OL A N).length = N from seg_len _ _ _]; omega)
    rw [eT] at g c
    refine ⟨?_, g⟩
    generalize dlA A s ((OL A N).filter (Ms A m)) = B at g c
    have stt := g.2.1
    unfold fX5_deliver_L27
    rw [lpR_s]
    unfold fX5_deliver_L27s
    rcases c with ⟨c1, c2⟩ | ⟨c1, c2⟩
    · subst c1
      subst c2
      rw [hC.1.made, if_pos (by omega)]
      have hs1 := hC.site hs
      have hl := JL_len hI hs
      refine wp_b1 (c_learn hI hs hm hm80 (fun t ht => hs1.2.2.2.2.2.2.2.2.2.1 t ht) (fun t ht => (hC.2.2.2.2.1.2.2 m hm).2.2 t ht) hn) (fun σ5 w => ?_)
      have e1 : σ5 (20 + 40 * s + 1) 1 = B 245 s := by rw [w.1 _ (by omega)]; exact hs1.2.2.2.2.2.2.1
      rw [e1]
      refine wp_ck (by omega) (by omega) ?_
      rw [if_pos (by omega)]
      exact wp_some ⟨rfl, rfl, lr_cl hI hC hs w.1 w.2, fun a b h1 h2 => by show σ5 a b = τ a b; rw [w.1 a (by omega)]⟩
    · have hl := JL_len g.1 hs
      have hl2 := JL_len hI hs
      have hw : Cl (st τ (20 + 40 * s) 5 0) B N nm nv := c2
      have row : ∀ a, a ≠ 20 + 40 * s → st τ (20 + 40 * s) 5 0 a = τ a := fun a ha => st_fn ha
      have e8 : τ 8 8 = (N : Int) := by have := hw.1.made; rw [row 8 (by omega)] at this; exact this
      rw [e8, if_pos (by omega)]
      have hs1 := hw.site hs
      refine wp_b1 (c_learn (A := B) g.1 hs hm hm80 (fun t ht => by have := hs1.2.2.2.2.2.2.2.2.2.1 t ht; rw [row _ (by omega)] at this; exact this) (fun t ht => by have := (hw.2.2.2.2.1.2.2 m hm).2.2 t ht; rw [row _ (by omega)] at this; exact this) hn) (fun σ5 w => ?_)
      have e1 : σ5 (20 + 40 * s + 1) 1 = B 245 s := by
        rw [w.1 _ (by omega)]
        have := hs1.2.2.2.2.2.2.1
        rw [row _ (by omega)] at this; exact this
      rw [e1]
      refine wp_ck (by omega) (by omega) ?_
      rw [if_neg (by omega)]
      refine wp_pfb (Or.inl rfl) (wp_some ⟨rfl, rfl, ?_, fun a b h1 h2 => ?_⟩)
      · refine lr_cl (τ := st σ5 (20 + 40 * s) 5 0) g.1 hw hs (fun a ha => ?_) (fun t ht => ?_)
        · by_cases q : a = 20 + 40 * s
          · subst q
            funext b
            rw [st_row, st_row, w.1 _ (by omega)]
          · rw [st_fn q, st_fn q, w.1 a ha]
        · rw [st_ne (by omega)]; exact w.2 t ht
      · show st σ5 (20 + 40 * s) 5 0 a b = σ a b
        rw [st_ne (by omega), w.1 a (by omega)]; exact f a b h1 h2
  | succ q ih =>
    intro k i τ e hk g c f
    obtain ⟨k, rfl⟩ : ∃ q, k = q + 1 := ⟨k - 1, by omega⟩
    have hi : i < N := by omega
    have ih2 := fun τ2 => ih k (i + 1) τ2 (by omega) (by omega)
    have ha := to.1 i hi
    have eL : (OL A N).filter (Ms A m) = ((OL A N).take i).filter (Ms A m) ++ (if Ms A m (A 16 i) = true then [A 16 i] else []) ++ ((OL A N).drop (i + 1)).filter (Ms A m) := by
      conv => lhs; rw [← List.take_append_drop (i + 1) (OL A N), OL_take i hi]
      rw [List.filter_append, List.filter_append]
      congr 2
      by_cases q : Ms A m (A 16 i) = true
      · rw [if_pos q, List.filter_cons_of_pos q]; rfl
      · rw [if_neg q, List.filter_cons_of_neg q]; rfl
    have eN : ((OL A N).take (i + 1)).filter (Ms A m) = ((OL A N).take i).filter (Ms A m) ++ (if Ms A m (A 16 i) = true then [A 16 i] else []) := by
      rw [OL_take i hi, List.filter_append]
      congr 1
      by_cases q : Ms A m (A 16 i) = true
      · rw [if_pos q, List.filter_cons_of_pos q]; rfl
      · rw [if_neg q, List.filter_cons_of_neg q]; rfl
    rw [eN] at ih2
    unfold fX5_deliver_L27 at ih2 ⊢
    rw [lpR_s]
    generalize lpR (fun _ _ => none) (fX5_deliver_L27s n y (300 + 4 * m) (20 + 40 * s) (A 245 s)) k = lp at ih2
    have hw : ∃ τ0, Cl τ0 (dlA A s (((OL A N).take i).filter (Ms A m))) N nm nv ∧ ∀ a, a ≠ 20 + 40 * s → τ0 a = τ a := by
      rcases c with ⟨c1, c2⟩ | ⟨c1, c2⟩
      · rw [c1]; exact ⟨σ, hC, fun a _ => by rw [c2]⟩
      · exact ⟨_, c2, fun a ha => st_fn ha⟩
    obtain ⟨τ0, w0, w1⟩ := hw
    have tt : TT A τ N := by
      refine ⟨fun q q1 q2 j => ?_, hC.1.2⟩
      rw [← w1 q (by omega), w0.1.1 q q1 q2 j, g.2.1.t q q1 q2]
    have em : inS τ (300 + 4 * m + 1) (A 16 i) = Ms A m (A 16 i) := by
      have := (w0.2.2.2.2.1.2.2 m hm).2.1 (A 16 i).toNat (by omega)
      rw [w1 _ (by omega), g.2.1.1 255 (by decide)] at this
      unfold inS Ms
      rw [show 300 + 4 * m + 1 + 1 = 300 + 4 * m + 2 from rfl, this]
    have em' : fX0_contains τ (300 + 4 * m + 1) (A 16 i) = some (b2i (Ms A m (A 16 i))) := by rw [← em]; exact q_contains _ _ _
    have body : wp (if b2i (Ms A m (A 16 i)) = 0 then ck ((i : Int) + 1) (fun v10 => lp τ v10) else b1 (fX1_countOf τ (A 16 i)) (fun v11 => b1 (fX4_take τ (20 + 40 * s) (A 16 i) v11) (fun σ12 => ck ((i : Int) + 1) (fun v13 => lp σ12 v13)))) (fun r => r.1 = 0 ∧ r.2.1 = dlA A s ((OL A N).filter (Ms A m)) 245 s - A 245 s ∧ Cl r.2.2 (lrA (dlA A s ((OL A N).filter (Ms A m))) s m) N nm nv ∧ FrC σ r.2.2) ∧ Gd A (dlA A s ((OL A N).filter (Ms A m))) N nm nv s ((OL A N).filter (Ms A m)) := by
      cases hmm : Ms A m (A 16 i) with
      | false =>
        rw [if_pos (by rfl), ck_ok (by omega) (by omega)]
        rw [hmm, if_neg (by decide), List.append_nil] at ih2
        exact ih2 τ g c f
      | true =>
        rw [if_neg (by decide), b1_ok (q_countOf tt _), gt_i ha]
        rw [hmm, if_pos rfl] at ih2 eL
        rw [dlA_snoc] at ih2
        generalize hB : dlA A s (((OL A N).take i).filter (Ms A m)) = B at g c ih2 w0
        have e10 : A 10 (A 16 i).toNat = B 10 (A 16 i).toNat := by rw [g.2.1.t 10 (by decide) (by decide)]
        have eHas : inS τ (20 + 40 * s + 1) (A 16 i) = Hs B s (A 16 i) := by
          have := (w0.g hs).2.2.2.2.2.2.1 (A 16 i).toNat (by omega)
          rw [w1 _ (by omega)] at this
          unfold inS Hs
          rw [show 20 + 40 * s + 1 + 1 = 20 + 40 * s + 2 from rfl, this]
        cases hh : Hs B s (A 16 i) with
        | true =>
          have et : fX4_take τ (20 + 40 * s) (A 16 i) (A 10 (A 16 i).toNat) = some τ := by
            unfold fX4_take
            rw [b1_ok (q_contains _ _ _), eHas, hh, if_pos (by decide)]
          rw [b1_ok et, ck_ok (by omega) (by omega)]
          have g2 := g.no hh
          have eB : tkA B s (A 16 i) = B := if_pos hh
          refine ih2 τ g2 ?_ f
          rw [eB]; exact c
        | false =>
          have hok := dl_next hI hm (show (OL A N).filter (Ms A m) = ((OL A N).take i).filter (Ms A m) ++ A 16 i :: ((OL A N).drop (i + 1)).filter (Ms A m) by rw [eL]; simp) g hs hh
          obtain ⟨g2, eB⟩ := g.yes hs hok
          have hW : ClW τ B N nm nv s := by
            rcases c with ⟨c1, c2⟩ | ⟨c1, c2⟩
            · rw [c1, c2]; exact hC.w hs
            · exact c2
          rw [e10]
          obtain ⟨σ2, es, e1, e2⟩ := c_take2 g.1 hW hs hok
          rw [b1_ok es, ck_ok (by omega) (by omega)]
          refine ih2 σ2 g2 ?_ (f.tr e2)
          rw [eB]
          refine Or.inr ⟨?_, e1⟩
          have hle : A 245 s ≤ B 245 s := by rcases g.2.2.2.2 with w | w; rw [w]; exact Int.le_refl _; omega
          rw [tk_245, if_pos rfl]; omega
    unfold fX5_deliver_L27s
    rw [tt.made, if_neg (by omega), b1_ok (q_inOrder tt _), OL_in to hi, b1_ok em']
    exact body
theorem take_imax {L : List Int} {p q : Int} {x : Int} : x ∈ L.take (imax p q).toNat ↔ x ∈ L.take p.toNat ∨ x ∈ L.take q.toNat := by
  unfold imax
  by_cases h : p < q
  · rw [if_pos h]
    exact ⟨fun w => Or.inr w, fun w => w.elim (fun w => mem_take_mono (by omega) w) id⟩
  · rw [if_neg h]
    exact ⟨fun w => Or.inl w, fun w => w.elim id (fun w => mem_take_mono (by omega) w)⟩
end DEL

