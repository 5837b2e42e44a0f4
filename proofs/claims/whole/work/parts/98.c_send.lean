/-! ===== send ===== -/
theorem So_fin2 {σ A A' : St} {N nm nv N' nm' nv' k : Nat} {h1 h2 h3 : Option Int} {g : Int → Int} {m : Option (Nat × Int × St)} {F : St → Option (Int × St)} {v kk : Int} (hkk : cdk h1 h2 h3 k = some kk) (hk0 : kk = 0 → k = 0) (hR : Re σ A N nm nv) (hI : Inv A' N' nm' nv') (hm : wp m (OkC σ A' N' nm' nv' k v)) (hF : ∀ σ1, Re σ1 A N nm nv → wp (F σ1) (OkR σ1 A' N' nm' nv' kk v)) :
    ∃ (v : Int) (σ1 σ2 : St), hw h1 h2 h3 g m = some (kk, σ1) ∧ F σ1 = some (v, σ2) ∧ fX6_thrown σ2 = some kk ∧ (kk = 0 → σ2 290 0 = g v) ∧ Rel nm' nv' σ2 := by
  have hm0 := hm
  obtain ⟨⟨c, w, s⟩, em, em1, _, _, _⟩ := hm
  have em1' : c = k := em1
  subst em1'
  obtain ⟨k2, v2, σ1, σ2, g1, g2, g3, g4, g5⟩ := So_fin (h1 := h1) (h2 := h2) (h3 := h3) (g := g) hkk hk0 hR hI hm0 hF
  have hk2 : k2 = kk := by
    by_cases q : c = 0
    · subst q
      have : kk = 0 := by unfold cdk at hkk; rw [if_pos rfl] at hkk; exact (Option.some.inj hkk).symm
      rw [em] at g1
      have e : some ((0 : Int), st s 290 0 (g w)) = some (k2, σ1) := g1
      injection e with e
      injection e with e _
      omega
    · rw [em, hw_k hkk q] at g1
      injection g1 with e
      injection e with e _
      exact e.symm
  subst hk2
  exact ⟨v2, σ1, σ2, g1, g2, g3, g4, g5⟩
section SND
variable {σ τ A B : St} {N nm nv n s : Nat}
theorem r_safe {x : Int} (hs : s < 4) (hv : 0 ≤ σ 246 s ∧ σ 246 s ≤ 160) (hn : 200 ≤ n) : fX6_isSafe n σ (s : Int) x = some (b2i (decide (x ∈ seg (fun i => σ 244 (160 * s + i)) 0 (σ 246 s).toNat))) := by
  have key1 : ∀ (q m i : Nat) (f : Int), i + q = (σ 246 s).toNat → q < m → isB f → fX6_isSafe_L5 n σ (s : Int) x m f (i : Int) = some (if f = 0 then b2i (decide (x ∈ seg (fun i => σ 244 (160 * s + i)) i q)) else 1) := by
    intro q
    induction q with
    | zero =>
      intro m i f e hm hf
      obtain ⟨m, rfl⟩ : ∃ q, m = q + 1 := ⟨m - 1, by omega⟩
      unfold fX6_isSafe_L5
      rw [lpR_s]
      unfold fX6_isSafe_L5s
      rw [rd_ok (by omega) (by omega), Int.toNat_natCast, if_pos (by omega), rb_ok hf]
      rcases hf with g | g
      · rw [g, if_pos rfl]; rfl
      · rw [g, if_neg (by decide)]
    | succ q ih =>
      intro m i f e hm hf
      obtain ⟨m, rfl⟩ : ∃ q, m = q + 1 := ⟨m - 1, by omega⟩
      have ih2 := fun f => ih m (i + 1) f (by omega) (by omega)
      unfold fX6_isSafe_L5 at ih2 ⊢
      rw [lpR_s]
      generalize lpR (fun _ _ => none) (fX6_isSafe_L5s n σ (s : Int) x) m = lp at ih2
      have ih3 : ∀ f, isB f → lp f ((i : Int) + 1) = some (if f = 0 then b2i (decide (x ∈ seg (fun i => σ 244 (160 * s + i)) (i + 1) q)) else 1) := fun f hf => ih2 f hf
      unfold fX6_isSafe_L5s
      rw [rd_ok (by omega) (by omega), Int.toNat_natCast, if_neg (by omega)]
      have es : seg (fun i => σ 244 (160 * s + i)) i (q + 1) = σ 244 (160 * s + i) :: seg (fun i => σ 244 (160 * s + i)) (i + 1) q := rfl
      rcases hf with g | g
      · rw [g, if_neg (fun w => w rfl), if_pos rfl, es, ck_ok (v := 160 * (s : Int)) (by omega) (by omega), ck_ok (v := 160 * (s : Int) + (i : Int)) (by omega) (by omega), rd_ok (by omega) (by omega), show (160 * (s : Int) + (i : Int)).toNat = 160 * s + i by omega]
        by_cases z : σ 244 (160 * s + i) = x
        · rw [if_neg (fun w => w z), ck_ok (by omega) (by omega), ih3 1 (Or.inr rfl), if_neg (by decide), decide_eq_true (by rw [z]; exact List.mem_cons_self)]; rfl
        · rw [if_pos z, ck_ok (by omega) (by omega), ih3 0 (Or.inl rfl), if_pos rfl]
          congr 2
          refine decide_eq_decide.mpr ⟨fun w => List.mem_cons_of_mem _ w, fun w => ?_⟩
          rcases List.mem_cons.mp w with w | w
          · exact absurd w.symm z
          · exact w
      · rw [g, if_pos (by decide), ck_ok (by omega) (by omega), ih3 1 (Or.inr rfl), if_neg (by decide), if_neg (by decide)]
  have := key1 (σ 246 s).toNat n 0 0 (by omega) (by omega) (Or.inl rfl)
  rw [if_pos rfl] at this
  exact this
theorem r_knows (hI : Inv A N nm nv) (hK : ReK σ A) (hs : s < 4) {t a : Nat} (ht : t < 4) (ha : a < 160) (h246 : σ 246 s = A 246 s) (h244 : ∀ b, b < 160 → σ 244 (160 * s + b) = A 244 (160 * s + b)) (hn : 200 ≤ n) : fX6_knowsOf n σ (s : Int) (t : Int) (a : Int) = some (b2i (decide ((a : Int) ∈ (JL A t).take (A 252 (4 * s + t)).toNat))) := by
  have k := hK s t a hs ht ha
  have hb := (hI.2.1 s hs).2.2.2.2.2.2.2.2.2.2.2
  have hl := JL_len hI hs
  have hN := hI.1.2.1
  unfold fX6_knowsOf
  rw [ck_ok (by omega) (by omega), ck_ok (by omega) (by omega), ck_ok (by omega) (by omega), ck_ok (by omega) (by omega), rd_ok (by omega) (by omega), show (640 * (s : Int) + 160 * (t : Int) + (a : Int)).toNat = 640 * s + 160 * t + a by omega]
  by_cases q : σ 251 (640 * s + 160 * t + a) = 0
  · rw [if_neg (fun w => w q)]
    by_cases e : t = s
    · subst e
      rw [if_neg (fun w => w rfl), b1_ok (r_safe hs (by omega) hn)]
      have es : seg (fun i => σ 244 (160 * t + i)) 0 (σ 246 t).toNat = (JL A t).take (A 246 t).toNat := by
        rw [h246]
        have : JL A t = seg (fun i => A 244 (160 * t + i)) 0 ((A 246 t).toNat + ((A 245 t).toNat - (A 246 t).toNat)) := by unfold JL; congr 1; omega
        rw [this, seg_add, List.take_append_of_le_length (by rw [seg_len]; exact Nat.le_refl _), List.take_of_length_le (by rw [seg_len]; exact Nat.le_refl _)]
        exact seg_congr (fun j _ hj => h244 j (by omega))
      rw [es]
      by_cases z : (a : Int) ∈ (JL A t).take (A 246 t).toNat
      · rw [decide_eq_true z, if_neg (by decide), decide_eq_true (k.2.mp (Or.inr ⟨rfl, z⟩))]; rfl
      · rw [decide_eq_false z, if_pos (by rfl), decide_eq_false (fun w => by
          rcases k.2.mpr w with g | g
          · exact g q
          · exact z g.2)]; rfl
    · rw [if_pos (by omega), decide_eq_false (fun w => by
        rcases k.2.mpr w with g | g
        · exact g q
        · exact e g.1.symm)]; rfl
  · rw [if_pos q, decide_eq_true (k.2.mp (Or.inl q))]; rfl
/-- a message is sent -/
def sdA (A : St) (s : Nat) (rc : Int) (nm : Nat) : St := fun r b => if r = 254 then (if b = nm then rc else A 254 b) else if r = 255 then (if 160 * nm ≤ b then (if b < 160 * nm + 160 then A 243 (160 * s + (b - 160 * nm)) else A 255 b) else A 255 b) else if r = 257 then (if 4 * nm ≤ b then (if b < 4 * nm + 4 then A 252 (4 * s + (b - 4 * nm)) else A 257 b) else A 257 b) else A r b
variable {rc : Int}
theorem sd_254 (b : Nat) : sdA A s rc nm 254 b = if b = nm then rc else A 254 b := rfl
theorem sd_255 (m a : Nat) (ha : a < 160) : sdA A s rc nm 255 (160 * m + a) = if m = nm then A 243 (160 * s + a) else A 255 (160 * m + a) := by
  show (if 160 * nm ≤ 160 * m + a then (if 160 * m + a < 160 * nm + 160 then A 243 (160 * s + (160 * m + a - 160 * nm)) else A 255 (160 * m + a)) else A 255 (160 * m + a)) = _
  by_cases q : m = nm
  · rw [if_pos q, if_pos (by omega), if_pos (by omega), q, show 160 * nm + a - 160 * nm = a by omega]
  · rw [if_neg q]
    by_cases q2 : 160 * nm ≤ 160 * m + a
    · rw [if_pos q2, if_neg (by omega)]
    · rw [if_neg q2]
theorem sd_257 (m t : Nat) (ht : t < 4) : sdA A s rc nm 257 (4 * m + t) = if m = nm then A 252 (4 * s + t) else A 257 (4 * m + t) := by
  show (if 4 * nm ≤ 4 * m + t then (if 4 * m + t < 4 * nm + 4 then A 252 (4 * s + (4 * m + t - 4 * nm)) else A 257 (4 * m + t)) else A 257 (4 * m + t)) = _
  by_cases q : m = nm
  · rw [if_pos q, if_pos (by omega), if_pos (by omega), q, show 4 * nm + t - 4 * nm = t by omega]
  · rw [if_neg q]
    by_cases q2 : 4 * nm ≤ 4 * m + t
    · rw [if_pos q2, if_neg (by omega)]
    · rw [if_neg q2]
theorem sd_o {r : Nat} (h : r ≠ 254 ∧ r ≠ 255 ∧ r ≠ 257) : sdA A s rc nm r = A r := by
  funext b; unfold sdA; rw [if_neg h.1, if_neg h.2.1, if_neg h.2.2]
theorem sd_g : SaG A (sdA A s rc nm) := fun r hr => sd_o (by omega)
theorem Inv.snd' (hI : Inv A N nm nv) (hs : s < 4) (hm : nm < 80) (hrc : 0 ≤ rc ∧ rc < 4) : Inv (sdA A s rc nm) N (nm + 1) nv := by
  obtain ⟨q1, q2, q3, q4, q5⟩ := id hI
  refine hI.gen sd_g (fun t ht => ?_) ?_ ?_ ?_
  · rw [sd_o (by decide)]; exact (q2 t ht).2.2.2.2.2.2.2.2.2.2.2
  · unfold In3 at q3 ⊢
    rw [sd_o (by decide), sd_o (by decide)]; exact q3
  · obtain ⟨g1, g2, g3⟩ := q4
    refine ⟨by omega, fun m hm2 => ?_, fun m a h1 h2 => ?_⟩
    · by_cases q : m = nm
      · subst q
        have hh : Ms (sdA A s rc m) m = Hs A s := by
          funext x
          unfold Ms Hs
          refine decide_eq_decide.mpr ⟨fun w => ⟨w.1, ?_⟩, fun w => ⟨w.1, ?_⟩⟩
          · have w1 : 0 ≤ x ∧ x < 160 := w.1
            have := w.2
            rw [sd_255 _ _ (by omega), if_pos rfl] at this; exact this
          · have w1 : 0 ≤ x ∧ x < 160 := w.1
            rw [sd_255 _ _ (by omega), if_pos rfl]; exact w.2
        rw [hh, sd_254, if_pos rfl]
        refine ⟨hrc, sd_g.t.cl ((q2 s hs).cl q1.2.1), fun t ht => ?_⟩
        rw [sd_257 _ _ ht, if_pos rfl, sd_o (by decide)]
        exact (q3 s t hs ht).1
      · have z := g2 m (by omega)
        have hh : Ms (sdA A s rc nm) m = Ms A m := by
          funext x
          unfold Ms
          refine decide_eq_decide.mpr ⟨fun w => ⟨w.1, ?_⟩, fun w => ⟨w.1, ?_⟩⟩
          · have w1 : 0 ≤ x ∧ x < 160 := w.1
            have := w.2
            rw [sd_255 _ _ (by omega), if_neg q] at this; exact this
          · have w1 : 0 ≤ x ∧ x < 160 := w.1
            rw [sd_255 _ _ (by omega), if_neg q]; exact w.2
        rw [hh, sd_254, if_neg q]
        refine ⟨z.1, sd_g.t.cl z.2.1, fun t ht => ?_⟩
        rw [sd_257 _ _ ht, if_neg q, sd_o (by decide)]; exact z.2.2 t ht
    · rw [sd_255 _ _ h2]
      by_cases q : m = nm
      · rw [if_pos q]
        have g := q2 s hs
        refine ⟨g.2.2.2.2.2.1 a h2, fun w => ?_⟩
        have := g.2.2.2.2.1 _ ((g.2.2.2.2.2.2.1 a h2).mp w)
        omega
      · rw [if_neg q]
        exact ⟨(g3 m a h1 h2).1, fun w => by have := (g3 m a h1 h2).2 w; omega⟩
  · obtain ⟨g1, g2⟩ := q5
    refine ⟨g1, fun v hv => ?_⟩
    have z := g2 v hv
    have : Vs (sdA A s rc nm) v = Vs A v := by funext x; unfold Vs; rw [sd_o (by decide)]
    rw [this, sd_o (r := 258) (by decide)]
    exact ⟨sd_g.t.cl z.1, z.2⟩
def kvA (A : St) (s t a : Nat) : Int := b2i (decide ((a : Int) ∈ (JL A t).take (A 252 (4 * s + t)).toNat))
def F2 (σ σ3 A : St) (s nm j c : Nat) : Prop := (∀ a, a ≠ 255 → a ≠ 256 → σ3 a = σ a) ∧ (∀ m a, a < 160 → σ3 255 (160 * m + a) = if m = nm ∧ a ≤ j then A 243 (160 * s + a) else σ 255 (160 * m + a)) ∧ ∀ m t a, t < 4 → a < 160 → σ3 256 (640 * m + 160 * t + a) = if m = nm ∧ (a < j ∨ (a = j ∧ t < c)) then kvA A s t a else σ 256 (640 * m + 160 * t + a)
def F1 (σ σ3 A : St) (s nm j : Nat) : Prop := (∀ a, a ≠ 255 → a ≠ 256 → σ3 a = σ a) ∧ (∀ m a, a < 160 → σ3 255 (160 * m + a) = if m = nm ∧ a < j then A 243 (160 * s + a) else σ 255 (160 * m + a)) ∧ ∀ m t a, t < 4 → a < 160 → σ3 256 (640 * m + 160 * t + a) = if m = nm ∧ a < j then kvA A s t a else σ 256 (640 * m + 160 * t + a)
theorem r_sendI {Q : Int × St → Prop} (hI : Inv A N nm nv) (hR : Re σ A N nm nv) (hs : s < 4) (hm : nm < 80) (hn : 200 ≤ n) {y j : Nat} (hj : j < N) (lp : St → Int → Option (Int × St)) (hlp : ∀ σ4, F1 σ σ4 A s nm (j + 1) → wp (lp σ4 ((j : Int) + 1)) Q) : ∀ (q m c : Nat) (σ3 : St), c + q = 4 → q < m → F2 σ σ3 A s nm j c → wp (fX6_send_L114 n lp (s : Int) (y : Int) (j : Int) m σ3 (c : Int)) Q := by
  have hN := hI.1.2.1
  intro q
  induction q with
  | zero =>
    intro m c σ3 e hm2 f
    obtain ⟨m, rfl⟩ : ∃ q, m = q + 1 := ⟨m - 1, by omega⟩
    unfold fX6_send_L114
    rw [lpR_s]
    unfold fX6_send_L114s
    rw [if_pos (by omega)]
    refine wp_ck (by omega) (by omega) (hlp σ3 ⟨f.1, fun m a ha => ?_, fun m t a ht ha => ?_⟩)
    · rw [f.2.1 m a ha]
      by_cases g : m = nm ∧ a ≤ j
      · rw [if_pos g, if_pos (by omega)]
      · rw [if_neg g, if_neg (by omega)]
    · rw [f.2.2 m t a ht ha]
      by_cases g : m = nm ∧ (a < j ∨ (a = j ∧ t < c))
      · rw [if_pos g, if_pos (by omega)]
      · rw [if_neg g, if_neg (by omega)]
  | succ q ih =>
    intro m c σ3 e hm2 f
    obtain ⟨m, rfl⟩ : ∃ q, m = q + 1 := ⟨m - 1, by omega⟩
    have ih2 := fun σ4 => ih m (c + 1) σ4 (by omega) (by omega)
    unfold fX6_send_L114 at ih2 ⊢
    rw [lpR_s]
    generalize lpR (fun _ _ => none) (fX6_send_L114s n lp (s : Int) (y : Int) (j : Int)) m = lp2 at ih2
    have e21 : σ3 230 21 = (nm : Int) := by rw [f.1 230 (by decide) (by decide)]; exact hR.2.2.2.2.1.1
    have hK : ReK σ3 A := by
      have := hR.2.2.2.1
      unfold ReK at this ⊢
      rw [f.1 251 (by decide) (by decide)]; exact this
    have kn := r_knows (n := n) (t := c) (a := j) hI hK hs (by omega) (by omega) (by rw [f.1 246 (by decide) (by decide)]; exact hR.atS hs (by decide) (by decide)) (fun b hb => by rw [f.1 244 (by decide) (by decide)]; exact (hR.2.2.1 s hs).2.2 b hb) hn
    unfold fX6_send_L114s
    rw [if_neg (by omega), e21]
    refine wp_ck (by omega) (by omega) (wp_ck (by omega) (by omega) (wp_ck (by omega) (by omega) (wp_ck (by omega) (by omega) (wp_b1e kn (wp_wrb (by omega) (by omega) (b2i_b _) (wp_ck (by omega) (by omega) ?_))))))
    rw [show (640 * (nm : Int) + 160 * (c : Int) + (j : Int)).toNat = 640 * nm + 160 * c + j by omega]
    refine ih2 _ ⟨fun a h1 h2 => by rw [st_fn h2]; exact f.1 a h1 h2, fun m a ha => by rw [st_ne (by decide)]; exact f.2.1 m a ha, fun m t a ht ha => ?_⟩
    rw [st_row]
    by_cases g : 640 * m + 160 * t + a = 640 * nm + 160 * c + j
    · rw [if_pos g, if_pos (by omega)]
      have h1 : t = c := by omega
      have h2 : a = j := by omega
      rw [h1, h2]; rfl
    · rw [if_neg g, f.2.2 m t a ht ha]
      by_cases g2 : m = nm ∧ (a < j ∨ (a = j ∧ t < c))
      · rw [if_pos g2, if_pos (by omega)]
      · rw [if_neg g2, if_neg (by omega)]
theorem r_sendL {Q : Int × St → Prop} (hI : Inv A N nm nv) (hR : Re σ A N nm nv) (hs : s < 4) (hm : nm < 80) (hn : 200 ≤ n) {y : Nat} (hQ : ∀ σ4, F1 σ σ4 A s nm N → Q ((nm : Int), st σ4 230 21 ((nm : Int) + 1))) : ∀ (q m j : Nat) (σ3 : St), j + q = N → q < m → F1 σ σ3 A s nm j → wp (fX6_send_L76 n (s : Int) (y : Int) m σ3 (j : Int)) Q := by
  have hN := hI.1.2.1
  intro q
  induction q with
  | zero =>
    intro m j σ3 e hm2 f
    obtain ⟨m, rfl⟩ : ∃ q, m = q + 1 := ⟨m - 1, by omega⟩
    have e21 : σ3 230 21 = (nm : Int) := by rw [f.1 230 (by decide) (by decide)]; exact hR.2.2.2.2.1.1
    have e1 : σ3 230 1 = (N : Int) := by rw [f.1 230 (by decide) (by decide)]; exact hR.1.1
    unfold fX6_send_L76
    rw [lpR_s]
    unfold fX6_send_L76s
    rw [e1, if_pos (by omega), e21]
    refine wp_ck (by omega) (by omega) (wp_pf (wp_ck (by rw [st_row, if_pos rfl]; omega) (by rw [st_row, if_pos rfl]; omega) ?_))
    rw [st_row, if_pos rfl, show (nm : Int) + 1 - 1 = (nm : Int) by omega]
    have : j = N := by omega
    subst this
    exact wp_some (hQ σ3 f)
  | succ q ih =>
    intro m j σ3 e hm2 f
    obtain ⟨m, rfl⟩ : ∃ q, m = q + 1 := ⟨m - 1, by omega⟩
    have ih2 := fun σ4 => ih m (j + 1) σ4 (by omega) (by omega)
    unfold fX6_send_L76 at ih2 ⊢
    rw [lpR_s]
    generalize lpR (fun _ _ => none) (fX6_send_L76s n (s : Int) (y : Int)) m = lp at ih2
    have e21 : σ3 230 21 = (nm : Int) := by rw [f.1 230 (by decide) (by decide)]; exact hR.2.2.2.2.1.1
    have e1 : σ3 230 1 = (N : Int) := by rw [f.1 230 (by decide) (by decide)]; exact hR.1.1
    have e243 : σ3 243 (160 * s + j) = A 243 (160 * s + j) := by rw [f.1 243 (by decide) (by decide)]; exact (hR.2.2.1 s hs).2.1 j (by omega)
    unfold fX6_send_L76s
    rw [e1, if_neg (by omega), e21]
    refine wp_ck (by omega) (by omega) (wp_ck (by omega) (by omega) (wp_ck (by omega) (by omega) (wp_ck (by omega) (by omega) (wp_rd (by omega) (by omega) ?_))))
    rw [show (160 * (s : Int) + (j : Int)).toNat = 160 * s + j by omega, e243]
    refine wp_wrb (by omega) (by omega) ((hI.2.1 s hs).2.2.2.2.2.1 j (by omega)) ?_
    rw [show (160 * (nm : Int) + (j : Int)).toNat = 160 * nm + j by omega]
    refine r_sendI (y := y) hI hR hs hm hn (show j < N by omega) lp (fun σ4 g => ?_) 4 n 0 _ (by decide) (by omega) ⟨fun a h1 h2 => by rw [st_fn h1]; exact f.1 a h1 h2, fun m a ha => ?_, fun m t a ht ha => ?_⟩
    · have := ih2 σ4 g
      rw [show ((j + 1 : Nat) : Int) = (j : Int) + 1 by omega] at this; exact this
    · rw [st_row]
      by_cases g : 160 * m + a = 160 * nm + j
      · rw [if_pos g, if_pos (by omega), show a = j by omega]
      · rw [if_neg g, f.2.1 m a ha]
        by_cases g2 : m = nm ∧ a < j
        · rw [if_pos g2, if_pos (by omega)]
        · rw [if_neg g2, if_neg (by omega)]
    · rw [st_ne (by decide), f.2.2 m t a ht ha]
      by_cases g2 : m = nm ∧ a < j
      · rw [if_pos g2, if_pos (by omega)]
      · rw [if_neg g2, if_neg (by omega)]
theorem so_send : So_send Rel := by
  intro nm nv σ y1 y2 y3 ⟨A, N, hI, hC, hR⟩ _ _ _ _
  have hN := hI.1.2.1
  have hv10 := hI.2.2.2.2.1
  have hm80 := hI.2.2.2.1.1
  have e09 : σ 0 9 = (nm : Int) := hC.2.2.2.2.1.1
  have e20 : σ 2 0 = (nm : Int) := hC.2.2.2.2.1.2.1
  have e30 : σ 3 0 = (nv : Int) := hC.2.2.2.2.2.2.1
  refine ⟨1000, ?_⟩
  have fail : ∀ (k : Nat) (kk : Int), (kk = 1 ∨ kk = 2 ∨ kk = 3) → cdk (some 1) (some 2) (some 3) k = some kk → fX5_send 1000 nm nv σ y1 y2 = some (k, 0, σ) → (∀ σ1, Re σ1 A N nm nv → wp (fX6_send 1000 σ1 y1 y2) (OkR σ1 A N nm nv kk 0)) → ∃ (k v : Int) (σ1 σ2 : St), (fL_send 1000 nm nv σ y1 y2 = some (k, σ1)) ∧ (fX6_send 1000 σ1 y1 y2 = some (v, σ2)) ∧ (fX6_thrown σ2 = some k) ∧ (k = 0 → (σ2 290 0) = v) ∧ Rel (if k = 0 then nm + 1 else nm) nv σ2 := by
    intro k kk hkk hcd hc hr
    have hk0 : k ≠ 0 := fun g => by
      rw [g] at hcd
      have : some (0 : Int) = some kk := hcd
      injection this with this
      omega
    obtain ⟨v, σ1, σ2, g1, g2, g3, g4, g5⟩ := So_fin2 (h1 := some 1) (h2 := some 2) (h3 := some 3) (F := fun σ1 => fX6_send 1000 σ1 y1 y2) (g := fun v => v) (m := fX5_send 1000 nm nv σ y1 y2) (v := 0) hcd (fun g => by omega) hR hI ⟨_, hc, rfl, fun g => absurd g hk0, hC, FrC.rf⟩ hr
    exact ⟨kk, v, σ1, σ2, g1, g2, g3, g4, by rw [if_neg (by omega)]; exact g5⟩
  have ref : ∀ σ1 (t : Int), 0 < t → Re σ1 A N nm nv → wp (fX6_send_J42 1000 σ1 y1 y2 t) (OkR σ1 A N nm nv t 0) := fun σ1 t ht hr1 => by
    unfold fX6_send_J42
    exact r_bad ht (r_badR ht hr1 FrR.rf)
  by_cases hx : 0 ≤ y1 ∧ y1 < 4
  · by_cases hy : 0 ≤ y2 ∧ y2 < 4
    · have hs : y1.toNat < 4 := by omega
      by_cases hne : y1 = y2
      · refine fail 2 2 (by decide) rfl ?_ (fun σ1 hr1 => ?_)
        · unfold fX5_send
          rw [xw_ok (c_siteAt hx), xw_ok (c_siteAt hy), if_neg (fun g => g hne)]
        · unfold fX6_send
          refine wp_b1e (r_isSite y1) ?_
          rw [decide_eq_true hx, if_neg (by decide)]
          refine wp_b1e (r_isSite y2) ?_
          rw [decide_eq_true hy, if_pos (by decide), if_neg (fun g => g hne)]
          exact ref σ1 2 (by decide) hr1
      · by_cases hm : nm < 80
        · obtain ⟨v, σ1, σ2, g1, g2, g3, g4, g5⟩ := So_fin2 (A' := sdA A y1.toNat y2 nm) (h1 := some 1) (h2 := some 2) (h3 := some 3) (F := fun σ1 => fX6_send 1000 σ1 y1 y2) (g := fun v => v) (m := fX5_send 1000 nm nv σ y1 y2) (k := 0) (kk := 0) (v := (nm : Int)) rfl (fun _ => rfl) hR (hI.snd' hs hm hy) (by
            unfold fX5_send
            rw [xw_ok (c_siteAt hx), xw_ok (c_siteAt hy), if_pos hne, e09, if_pos (by omega)]
            have erc : σ (20 + 40 * y2.toNat) 0 = y2 := by rw [(hC.site (s := y2.toNat) (by omega)).1]; omega
            unfold sendK
            rw [if_pos ⟨⟨by rw [e09, e20], e20⟩, hm, hv10⟩, erc]
            refine wp_b1 (c_copy (a0 := 700 + 2 * nv) (o1 := 20 + 40 * y1.toNat + 1) (by omega) (by omega) (by omega) (by decide)) (fun σ3 g => ?_)
            obtain ⟨g1, g2⟩ := g
            have V : ∀ a, a ≠ 700 + 2 * nv → a ≠ 701 + 2 * nv → σ3 a = σ a := fun a h1 h2 => by
              rw [g1 a h1 (by omega)]
              funext b; unfold stV; rw [if_neg (by omega)]
            rw [if_pos ⟨by rw [V 2 (by omega) (by omega)]; exact e20, by rw [V 3 (by omega) (by omega), e30]; exact Int.le_refl _⟩]
            have M : ∀ a, (a < 300 + 4 * nm ∨ 303 + 4 * nm < a) → a ≠ 2 → a ≠ 700 + 2 * nv → a ≠ 701 + 2 * nv → st (stM nm nv (20 + 40 * y1.toNat) y2 σ3) 2 0 ((nm + 1 : Nat) : Int) a = σ a := fun a h1 h2 h3 h4 => by
              rw [st_fn h2, ← V a h3 h4]
              funext b; unfold stM; rw [if_neg (by omega), if_neg (by omega), if_neg (by omega), if_neg (by omega)]
            have M2 : st (stM nm nv (20 + 40 * y1.toNat) y2 σ3) 2 0 ((nm + 1 : Nat) : Int) 2 0 = ((nm + 1 : Nat) : Int) := by rw [st_row, if_pos rfl]
            have N0 : st (stM nm nv (20 + 40 * y1.toNat) y2 σ3) 2 0 ((nm + 1 : Nat) : Int) (300 + 4 * nm) 0 = y2 := by
              rw [st_ne (by omega)]; unfold stM; rw [if_pos rfl, if_pos rfl]
            have N2 : ∀ a, a < 160 → st (stM nm nv (20 + 40 * y1.toNat) y2 σ3) 2 0 ((nm + 1 : Nat) : Int) (300 + 4 * nm + 2) a = A 243 (160 * y1.toNat + a) := fun a ha => by
              rw [st_ne (by omega)]; unfold stM
              rw [if_neg (by omega), if_neg (by omega), if_pos (by omega), show 701 + 2 * nv = 700 + 2 * nv + 1 by omega, g2 a ha]
              have : inS (stV nv σ) (20 + 40 * y1.toNat + 1) (a : Int) = inS σ (20 + 40 * y1.toNat + 1) (a : Int) := by
                unfold inS stV; rw [if_neg (by omega)]
              rw [this]; exact c_has hI (hC.g hs) hs ha
            have N3 : ∀ t, t < 4 → st (stM nm nv (20 + 40 * y1.toNat) y2 σ3) 2 0 ((nm + 1 : Nat) : Int) (300 + 4 * nm + 3) t = A 252 (4 * y1.toNat + t) := fun t ht => by
              rw [st_ne (by omega)]; unfold stM
              rw [if_neg (by omega), if_neg (by omega), if_neg (by omega), if_pos (by omega), V _ (by omega) (by omega)]
              exact (hC.site hs).2.2.2.2.2.2.2.2.2.1 t ht
            generalize st (stM nm nv (20 + 40 * y1.toNat) y2 σ3) 2 0 ((nm + 1 : Nat) : Int) = σ5 at M M2 N0 N2 N3
            have e5 : σ5 0 9 = (nm : Int) := by rw [M 0 (by omega) (by decide) (by omega) (by omega)]; exact e09
            show wp (ck (σ5 0 9 + 1) fun v6 => pf σ5 0 9 v6 fun σ7 => ck (σ7 0 9 - 1) fun v8 => some (0, v8, σ7)) _
            rw [e5]
            refine wp_ck (by omega) (by omega) (wp_pf (wp_ck (by rw [st_row, if_pos rfl]; omega) (by rw [st_row, if_pos rfl]; omega) ?_))
            have G : ∀ a, a ≠ 0 → st σ5 0 9 ((nm : Int) + 1) a = σ5 a := fun a h0 => st_fn h0
            have G0 : ∀ b, st σ5 0 9 ((nm : Int) + 1) 0 b = if b = 9 then (nm : Int) + 1 else σ 0 b := fun b => by
              rw [st_row, M 0 (by omega) (by decide) (by omega) (by omega)]
            generalize st σ5 0 9 ((nm : Int) + 1) = σ6 at G G0
            refine wp_some ⟨rfl, fun _ => ?_, ?_, fun a b h1 h2 => by show σ6 a b = σ a b; rw [G a (by omega), M a (by omega) (by omega) (by omega) (by omega)]⟩
            · show σ6 0 9 - 1 = _
              rw [G0, if_pos rfl]; omega
            · refine Cl.gen (τ := σ6) hI hC sd_g (fun a h1 h2 _ => by rw [G a (by omega), M a (by omega) (by omega) (by omega) (by omega)]) (fun t u ht hu => ?_) ⟨?_, ?_, fun m hm2 => ?_⟩ ⟨?_, ?_, fun v hv2 a ha => ?_⟩
              · rw [G _ (by omega), M _ (by omega) (by omega) (by omega) (by omega), sd_o (by decide)]; exact (hC.site ht).2.2.2.2.2.2.2.2.2.1 u hu
              · rw [G0, if_pos rfl]; omega
              · rw [G 2 (by decide)]; exact M2
              · by_cases q : m = nm
                · subst q
                  refine ⟨?_, fun a ha => ?_, fun t ht => ?_⟩
                  · rw [G _ (by omega), N0, sd_254, if_pos rfl]
                  · rw [G _ (by omega), N2 a ha, sd_255 _ _ ha, if_pos rfl]
                  · rw [G _ (by omega), N3 t ht, sd_257 _ _ ht, if_pos rfl]
                · exact (hC.2.2.2.2.1.2.2 m (by omega)).fr (by rw [G _ (by omega), M _ (by omega) (by omega) (by omega) (by omega)]) (by rw [G _ (by omega), M _ (by omega) (by omega) (by omega) (by omega)]) (by rw [G _ (by omega), M _ (by omega) (by omega) (by omega) (by omega)]) (by rw [sd_254, if_neg q]) (fun a ha => by rw [sd_255 _ _ ha, if_neg q]) (fun t ht => by rw [sd_257 _ _ ht, if_neg q])
              · rw [G0, if_neg (by decide)]; exact hC.2.2.2.2.2.1
              · rw [G 3 (by decide), M 3 (by omega) (by decide) (by omega) (by omega)]; exact e30
              · rw [G _ (by omega), M _ (by omega) (by omega) (by omega) (by omega), sd_o (by decide)]; exact hC.2.2.2.2.2.2.2 v hv2 a ha)
            (fun σ1 hr1 => by
            unfold fX6_send
            refine wp_b1e (r_isSite y1) ?_
            rw [decide_eq_true hx, if_neg (by decide)]
            refine wp_b1e (r_isSite y2) ?_
            rw [decide_eq_true hy, if_pos (by decide), if_pos hne, hr1.2.2.2.2.1.1, if_pos (by omega)]
            unfold fX6_send_J42
            refine wp_pf ?_
            have hr2 := hr1.fr (FrS.up0 (v := 0) FrS.rf)
            have fr := (FrS.up0 (v := 0) (FrS.rf (σ := σ1))).R
            have e0 : st σ1 230 0 0 230 0 = 0 := by rw [st_row, if_pos rfl]
            generalize st σ1 230 0 0 = σ2 at hr2 fr e0
            rw [if_pos (by omega), hr2.2.2.2.2.1.1]
            refine wp_wr (by omega) (by omega) ?_
            rw [st_ne (by decide), hr2.2.2.2.2.1.1]
            refine wp_wr (by omega) (by omega) ?_
            rw [Int.toNat_natCast]
            have C : ∀ a b, (a ≠ 253 ∧ (a ≠ 254 ∨ b ≠ nm)) → st (st σ2 253 nm y1) 254 nm y2 a b = σ2 a b := fun a b h => by
              by_cases q : a = 254
              · rw [q, st_row, if_neg (by omega), st_ne (by decide)]
              · rw [st_ne q, st_ne h.1]
            have C4 : st (st σ2 253 nm y1) 254 nm y2 254 nm = y2 := by rw [st_row, if_pos rfl]
            generalize st (st σ2 253 nm y1) 254 nm y2 = σ3 at C C4
            have hr3 : Re σ3 A N nm nv := by
              refine hr2.gen (τ := σ3) (fun r _ => rfl) (fun a b hab => C a b (by omega)) (fun t ht => ?_) (fun s1 t a q1 q2 q3 => ?_) ⟨by rw [C 230 21 (by omega)]; exact hr2.2.2.2.2.1.1, ⟨fun m hm => ?_, fun m a h1 h2 => ?_, fun m t a h1 h2 h3 => ?_⟩⟩ ⟨by rw [C 230 26 (by omega)]; exact hr2.2.2.2.2.2.1, fun v a hv ha => ?_⟩
              · rw [C 246 t (by omega)]; exact hr2.atS ht (by decide) (by decide)
              · rw [C 251 _ (by omega)]; exact hr2.2.2.2.1 s1 t a q1 q2 q3
              · rw [C 254 m (by omega)]; exact hr2.2.2.2.2.1.2.1 m hm
              · rw [C 255 _ (by omega)]; exact hr2.2.2.2.2.1.2.2.1 m a h1 h2
              · rw [C 256 _ (by omega)]; exact hr2.2.2.2.2.1.2.2.2 m t a h1 h2 h3
              · rw [C 258 _ (by omega)]; exact hr2.2.2.2.2.2.2 v a hv ha
            have h0 : F1 σ3 σ3 A y1.toNat nm 0 := ⟨fun _ _ _ => rfl, fun m a ha => by rw [if_neg (by omega)], fun m t a ht ha => by rw [if_neg (by omega)]⟩
            have fin : ∀ σ4, F1 σ3 σ4 A y1.toNat nm N → OkR σ1 (sdA A y1.toNat y2 nm) N (nm + 1) nv 0 (nm : Int) ((nm : Int), st σ4 230 21 ((nm : Int) + 1)) := by
              intro σ4 f
              have G : ∀ a b, a ≠ 255 → a ≠ 256 → (a ≠ 230 ∨ b ≠ 21) → st σ4 230 21 ((nm : Int) + 1) a b = σ3 a b := fun a b h1 h2 h3 => by
                by_cases q : a = 230
                · rw [q, st_row, if_neg (by omega), f.1 230 (by decide) (by decide)]
                · rw [st_ne q, f.1 a h1 h2]
              have G21 : st σ4 230 21 ((nm : Int) + 1) 230 21 = (nm : Int) + 1 := by rw [st_row, if_pos rfl]
              have G5 : ∀ b, st σ4 230 21 ((nm : Int) + 1) 255 b = σ4 255 b := fun b => by rw [st_ne (by decide)]
              have G6 : ∀ b, st σ4 230 21 ((nm : Int) + 1) 256 b = σ4 256 b := fun b => by rw [st_ne (by decide)]
              generalize st σ4 230 21 ((nm : Int) + 1) = σ5 at G G21 G5 G6
              have no : ∀ a, a < 160 → N ≤ a → A 243 (160 * y1.toNat + a) = 0 := fun a h1 h2 => by
                have g := hI.2.1 y1.toNat hs
                by_cases q : A 243 (160 * y1.toNat + a) = 0
                · exact q
                · have := g.2.2.2.2.1 _ ((g.2.2.2.2.2.2.1 a h1).mp q); omega
              refine ⟨?_, fun _ => rfl, ?_, fun a b hab => ?_⟩
              · show σ5 230 0 = 0
                rw [G 230 0 (by decide) (by decide) (by decide), C 230 0 (by omega)]; exact e0
              · refine hr3.gen (τ := σ5) sd_g (fun a b hab => G a b (by omega) (by omega) (by omega)) (fun t ht => ?_) (fun s1 t a q1 q2 q3 => ?_) ⟨by rw [G21]; omega, ⟨fun m hm => ?_, fun m a h1 h2 => ?_, fun m t a h1 h2 h3 => ?_⟩⟩ ⟨by rw [G 230 26 (by decide) (by decide) (by decide)]; exact hr3.2.2.2.2.2.1, fun v a hv ha => ?_⟩
                · rw [G 246 t (by decide) (by decide) (by omega), sd_o (by decide)]; exact hr3.atS ht (by decide) (by decide)
                · rw [G 251 _ (by decide) (by decide) (by omega), sd_g.jl, sd_g.jl, sd_o (by decide), sd_o (by decide)]; exact hr3.2.2.2.1 s1 t a q1 q2 q3
                · rw [G 254 m (by decide) (by decide) (by omega), sd_254]
                  by_cases q : m = nm
                  · rw [if_pos q, q]; exact C4
                  · rw [if_neg q]; exact hr3.2.2.2.2.1.2.1 m (by omega)
                · rw [G5, f.2.1 m a h2, sd_255 _ _ h2]
                  by_cases q : m = nm
                  · rw [if_pos q]
                    by_cases q2 : a < N
                    · rw [if_pos ⟨q, q2⟩]
                    · rw [if_neg (fun w => q2 w.2), no a h2 (by omega), hr3.2.2.2.2.1.2.2.1 m a h1 h2]
                      have := hI.2.2.2.1.2.2 m a h1 h2
                      by_cases z : A 255 (160 * m + a) = 0
                      · exact z
                      · have := this.2 z; omega
                  · rw [if_neg (fun w => q w.1), if_neg q]; exact hr3.2.2.2.2.1.2.2.1 m a h1 h2
                · rw [G6, f.2.2 m t a h2 h3, sd_g.jl, sd_257 _ _ h2]
                  have old := hr3.2.2.2.2.1.2.2.2 m t a h1 h2 h3
                  by_cases q : m = nm
                  · rw [if_pos q]
                    by_cases q2 : a < N
                    · rw [if_pos ⟨q, q2⟩]
                      unfold kvA
                      refine ⟨b2i_b _, ?_⟩
                      rw [b2i_ne, decide_eq_true_iff]
                      exact ⟨fun w => ⟨by omega, w⟩, fun w => w.2⟩
                    · rw [if_neg (fun w => q2 w.2)]
                      refine ⟨old.1, fun w => ?_, fun w => ?_⟩
                      · have := (old.2.mp w).1; omega
                      · have := (hI.2.1 t h2).2.2.2.2.1 _ (List.mem_of_mem_take w.2); omega
                  · rw [if_neg (fun w => q w.1), if_neg q]
                    refine ⟨old.1, fun w => ?_, fun w => ?_⟩
                    · have := old.2.mp w; exact ⟨by omega, this.2⟩
                    · exact old.2.mpr ⟨by omega, w.2⟩
                · rw [G 258 _ (by decide) (by decide) (by omega), sd_o (by decide)]; exact hr3.2.2.2.2.2.2 v a hv ha
              · show σ5 a b = σ1 a b
                rw [G a b (by omega) (by omega) (by omega), C a b (by omega)]; exact fr a b hab
            have := r_sendL (n := 1000) (y := y2.toNat) hI hr3 hs hm (by decide) fin N 1000 0 σ3 (by omega) (by omega) h0
            rw [Int.toNat_of_nonneg hx.1, Int.toNat_of_nonneg hy.1] at this
            exact this)
          exact ⟨0, v, σ1, σ2, g1, g2, g3, g4, by rw [if_pos rfl]; exact g5⟩
        · refine fail 3 3 (by decide) rfl ?_ (fun σ1 hr1 => ?_)
          · unfold fX5_send
            rw [xw_ok (c_siteAt hx), xw_ok (c_siteAt hy), if_pos hne, e09, if_neg (by omega)]
          · unfold fX6_send
            refine wp_b1e (r_isSite y1) ?_
            rw [decide_eq_true hx, if_neg (by decide)]
            refine wp_b1e (r_isSite y2) ?_
            rw [decide_eq_true hy, if_pos (by decide), if_pos hne, hr1.2.2.2.2.1.1, if_neg (by omega)]
            exact ref σ1 3 (by decide) hr1
    · refine fail 1 1 (by decide) rfl ?_ (fun σ1 hr1 => ?_)
      · unfold fX5_send
        rw [xw_ok (c_siteAt hx), xw_x (c_siteNo hy)]
      · unfold fX6_send
        refine wp_b1e (r_isSite y1) ?_
        rw [decide_eq_true hx, if_neg (by decide)]
        refine wp_b1e (r_isSite y2) ?_
        rw [decide_eq_false hy, if_neg (by decide)]
        exact ref σ1 1 (by decide) hr1
  · refine fail 1 1 (by decide) rfl ?_ (fun σ1 hr1 => ?_)
    · unfold fX5_send
      rw [xw_x (c_siteNo hx)]
    · unfold fX6_send
      refine wp_b1e (r_isSite y1) ?_
      rw [decide_eq_false hx, if_pos (by rfl)]
      exact ref σ1 1 (by decide) hr1
end SND
