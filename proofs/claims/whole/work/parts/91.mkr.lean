/-! ===== one act more, in the reference ===== -/
section MKR
variable {A σ τ : St} {N nm nv s n : Nat} {k x y z p : Int}
def ReX (σ A : St) (N nm nv : Nat) : Prop := RT A σ N ∧ (∀ s, s < 4 → ReS σ A s) ∧ ReK σ A ∧ (σ 230 21 = (nm : Int) ∧ ReM σ A nm) ∧ (σ 230 26 = (nv : Int) ∧ ∀ v a, v < nv → a < 160 → σ 258 (160 * v + a) = A 258 (160 * v + a))
theorem Re.toX (h : Re σ A N nm nv) : ReX σ A N nm nv := ⟨h.1, h.2.2.1, h.2.2.2.1, h.2.2.2.2.1, h.2.2.2.2.2⟩
theorem r_gets {w g c : Int} (hs : s < 4) (hw : 0 ≤ w ∧ w < 160) (h245 : σ 245 s = g) (hg : 0 ≤ g ∧ g < 160) (h234 : σ 234 w.toNat = c) : fX6_gets σ (s : Int) w = some (st (st (st (st σ 243 (160 * s + w.toNat) 1) 244 (160 * s + g.toNat) w) 245 s (g + 1)) 247 s (imax (σ 247 s) c)) := by
  unfold fX6_gets
  rw [ck_ok (by omega) (by omega), ck_ok (by omega) (by omega), wrb_ok (by omega) (by omega) (Or.inr rfl), ck_ok (by omega) (by omega), rd_ok (by omega) (by omega), Int.toNat_natCast, st_ne (by decide), h245, ck_ok (by omega) (by omega), wr_ok (by omega) (by omega), rd_ok (by omega) (by omega), Int.toNat_natCast, st_ne (by decide), st_ne (by decide), h245, ck_ok (by omega) (by omega), wr_ok (by omega) (by omega), Int.toNat_natCast, rd_ok (by omega) (by omega), st_ne (by decide), st_ne (by decide), st_ne (by decide), h234, rd_ok (by omega) (by omega), Int.toNat_natCast, st_ne (by decide), st_ne (by decide), st_ne (by decide), show ((160 : Int) * (s : Int) + w).toNat = 160 * s + w.toNat by omega, show ((160 : Int) * (s : Int) + g).toNat = 160 * s + g.toNat by omega]
  by_cases q : c ≤ σ 247 s
  · rw [if_pos q, rd_ok (by omega) (by omega), wr_ok (by omega) (by omega), Int.toNat_natCast, st_ne (by decide), st_ne (by decide), st_ne (by decide)]
    unfold imax; rw [if_neg (by omega)]
  · rw [if_neg q, rd_ok (by omega) (by omega), wr_ok (by omega) (by omega), Int.toNat_natCast, st_ne (by decide), st_ne (by decide), st_ne (by decide), h234]
    unfold imax; rw [if_pos (by omega)]
def rmap (k x y z p x3 x4 x5 x6 x7 c : Int) : Prop := (k ≠ 10 → x3 = x) ∧ (k = 10 → x3 = y ∧ x4 = x ∧ x5 = z) ∧ ((k = 0 ∨ k = 1) → x4 = z) ∧ ((k = 0 ∨ k = 1 ∨ k = 2 ∨ k = 3) → x7 = p) ∧ (k = 4 → x4 = y ∧ x5 = z ∧ (x6 = 1 ↔ p ≠ 0)) ∧ (k = 7 → x4 = y ∧ c = z) ∧ (k = 5 → x4 = z) ∧ (k = 6 → x4 = y)
def FrM (σ τ : St) : Prop := ∀ a b, (a < 233 ∨ 247 < a ∨ a = 241 ∨ a = 242 ∨ a = 246) → (a ≠ 230 ∨ b ≠ 1) → τ a b = σ a b
theorem FrM.R (h : FrM σ τ) : ∀ a b, a < 230 ∨ 276 ≤ a → τ a b = σ a b := fun a b hab => h a b (by omega) (by omega)
theorem r_make {x3 x4 x5 x6 x7 : Int} (hI : Inv A N nm nv) (hm : okM A N s k x y z p) (h : ReX σ A N nm nv) (h10 : σ 230 10 = mkA A N s k x y z p 8 9) (hb : isB x7) (hr : rmap k x y z p x3 x4 x5 x6 x7 (σ 242 N)) : wp (fX6_makes σ (s : Int) k x3 x4 x5 x6 x7) (fun r => r.1 = (N : Int) ∧ Re r.2 (mkA A N s k x y z p) (N + 1) nm nv ∧ FrM σ r.2) := by
  have hN := hm.1.1
  have hs := hm.1.2
  have hl := JL_len hI hs
  have h2 := hI.2.1 s hs
  have h247 := h2.2.1
  obtain ⟨g1, g2, g3, ⟨g4, g5⟩, g6, g7⟩ := h
  have made : σ 230 1 = (N : Int) := g1.1
  have e245 : σ 245 s = A 245 s := (g2 s hs).1 245 (by decide) (by decide)
  have e247 : σ 247 s = A 247 s := (g2 s hs).1 247 (by decide) (by decide)
  unfold fX6_makes
  rw [made]
  refine wp_wr (by omega) (by omega) (wp_rd (by omega) (by omega) ?_)
  rw [Int.toNat_natCast, Int.toNat_natCast, st_ne (by decide), e247]
  refine wp_ck (by omega) (by omega) (wp_wr (by omega) (by omega) (wp_rd (by omega) (by omega) ?_))
  rw [Int.toNat_natCast, st_row, if_pos rfl]
  refine wp_wr (by omega) (by omega) (wp_wr (by omega) (by omega) (wp_wr (by omega) (by omega) (wp_wr (by omega) (by omega) (wp_wr (by omega) (by omega) (wp_wr (by omega) (by omega) (wp_wrb (by omega) (by omega) hb ?_))))))
  rw [Int.toNat_natCast, st_ne (by decide), st_ne (by decide), st_ne (by decide), st_ne (by decide), st_ne (by decide), st_ne (by decide), st_ne (by decide), st_ne (by decide), st_ne (by decide), made]
  refine wp_ck (by omega) (by omega) (wp_pf ?_)
  have F : ∀ a b, (a < 233 ∨ 247 < a ∨ a = 241 ∨ a = 242 ∨ a = 243 ∨ a = 244 ∨ a = 245 ∨ a = 246) → (a ≠ 230 ∨ b ≠ 1) → st (st (st (st (st (st (st (st (st (st σ 233 N (s : Int)) 247 s (A 247 s + 1)) 234 N (A 247 s + 1)) 235 N k) 236 N x3) 237 N x4) 238 N x5) 239 N x6) 240 N x7) 230 1 ((N : Int) + 1) a b = σ a b := fun a b h3 h4 => by
    by_cases q : a = 230
    · rw [q, st_row, if_neg (by omega), st_ne (by decide), st_ne (by decide), st_ne (by decide), st_ne (by decide), st_ne (by decide), st_ne (by decide), st_ne (by decide), st_ne (by decide), st_ne (by decide)]
    · rw [st_ne q, st_ne (by omega), st_ne (by omega), st_ne (by omega), st_ne (by omega), st_ne (by omega), st_ne (by omega), st_ne (by omega), st_ne (by omega), st_ne (by omega)]
  have F1 : st (st (st (st (st (st (st (st (st (st σ 233 N (s : Int)) 247 s (A 247 s + 1)) 234 N (A 247 s + 1)) 235 N k) 236 N x3) 237 N x4) 238 N x5) 239 N x6) 240 N x7) 230 1 ((N : Int) + 1) 230 1 = (N : Int) + 1 := by rw [st_row, if_pos rfl]
  have F2 : ∀ b, st (st (st (st (st (st (st (st (st (st σ 233 N (s : Int)) 247 s (A 247 s + 1)) 234 N (A 247 s + 1)) 235 N k) 236 N x3) 237 N x4) 238 N x5) 239 N x6) 240 N x7) 230 1 ((N : Int) + 1) 247 b = if b = s then A 247 s + 1 else σ 247 b := fun b => by
    rw [st_ne (by decide), st_ne (by decide), st_ne (by decide), st_ne (by decide), st_ne (by decide), st_ne (by decide), st_ne (by decide), st_ne (by decide), st_row, st_ne (by decide)]
  have F3 : ∀ r b, 233 ≤ r → r ≤ 240 → st (st (st (st (st (st (st (st (st (st σ 233 N (s : Int)) 247 s (A 247 s + 1)) 234 N (A 247 s + 1)) 235 N k) 236 N x3) 237 N x4) 238 N x5) 239 N x6) 240 N x7) 230 1 ((N : Int) + 1) r b = if b = N then (if r = 233 then (s : Int) else if r = 234 then A 247 s + 1 else if r = 235 then k else if r = 236 then x3 else if r = 237 then x4 else if r = 238 then x5 else if r = 239 then x6 else x7) else σ r b := fun r b r1 r2 => by
    rcases (show r = 233 ∨ r = 234 ∨ r = 235 ∨ r = 236 ∨ r = 237 ∨ r = 238 ∨ r = 239 ∨ r = 240 by omega) with rfl | rfl | rfl | rfl | rfl | rfl | rfl | rfl <;> (unfold st; simp)
  generalize st (st (st (st (st (st (st (st (st (st σ 233 N (s : Int)) 247 s (A 247 s + 1)) 234 N (A 247 s + 1)) 235 N k) 236 N x3) 237 N x4) 238 N x5) 239 N x6) 240 N x7) 230 1 ((N : Int) + 1) = σ1 at F F1 F2 F3
  refine wp_b1e (r_gets (σ := σ1) hs (w := (N : Int)) ⟨by omega, by omega⟩ (show σ1 245 s = A 245 s by rw [F 245 s (by omega) (by omega)]; exact e245) ⟨hl.1, by omega⟩ (show σ1 234 (N : Int).toNat = A 247 s + 1 by rw [Int.toNat_natCast, F3 234 N (by decide) (by decide), if_pos rfl]; rfl)) ?_
  rw [F2 s, if_pos rfl, show imax (A 247 s + 1) (A 247 s + 1) = A 247 s + 1 by unfold imax; rw [if_neg (by omega)], Int.toNat_natCast]
  have G : ∀ a b, (a < 243 ∨ 247 < a ∨ a = 246) → st (st (st (st σ1 243 (160 * s + N) 1) 244 (160 * s + (A 245 s).toNat) (N : Int)) 245 s (A 245 s + 1)) 247 s (A 247 s + 1) a b = σ1 a b := fun a b hab => by
    rw [st_ne (by omega), st_ne (by omega), st_ne (by omega), st_ne (by omega)]
  have G243 : ∀ b, st (st (st (st σ1 243 (160 * s + N) 1) 244 (160 * s + (A 245 s).toNat) (N : Int)) 245 s (A 245 s + 1)) 247 s (A 247 s + 1) 243 b = if b = 160 * s + N then 1 else σ 243 b := fun b => by
    rw [st_ne (by decide), st_ne (by decide), st_ne (by decide), st_row, F 243 b (by omega) (by omega)]
  have G244 : ∀ b, st (st (st (st σ1 243 (160 * s + N) 1) 244 (160 * s + (A 245 s).toNat) (N : Int)) 245 s (A 245 s + 1)) 247 s (A 247 s + 1) 244 b = if b = 160 * s + (A 245 s).toNat then (N : Int) else σ 244 b := fun b => by
    rw [st_ne (by decide), st_ne (by decide), st_row, st_ne (by decide), F 244 b (by omega) (by omega)]
  have G245 : ∀ b, st (st (st (st σ1 243 (160 * s + N) 1) 244 (160 * s + (A 245 s).toNat) (N : Int)) 245 s (A 245 s + 1)) 247 s (A 247 s + 1) 245 b = if b = s then A 245 s + 1 else σ 245 b := fun b => by
    rw [st_ne (by decide), st_row, st_ne (by decide), st_ne (by decide), F 245 b (by omega) (by omega)]
  have G247 : ∀ b, st (st (st (st σ1 243 (160 * s + N) 1) 244 (160 * s + (A 245 s).toNat) (N : Int)) 245 s (A 245 s + 1)) 247 s (A 247 s + 1) 247 b = if b = s then A 247 s + 1 else σ 247 b := fun b => by
    rw [st_row, st_ne (by decide), st_ne (by decide), st_ne (by decide), F2 b]
    split <;> rfl
  generalize st (st (st (st σ1 243 (160 * s + N) 1) 244 (160 * s + (A 245 s).toNat) (N : Int)) 245 s (A 245 s + 1)) 247 s (A 247 s + 1) = σ2 at G G243 G244 G245 G247
  have H : FrM σ σ2 := fun a b h3 h4 => by rw [G a b (by omega), F a b (by omega) h4]
  have T : ∀ r b, 233 ≤ r → r ≤ 240 → σ2 r b = if b = N then (if r = 233 then (s : Int) else if r = 234 then A 247 s + 1 else if r = 235 then k else if r = 236 then x3 else if r = 237 then x4 else if r = 238 then x5 else if r = 239 then x6 else x7) else σ r b := fun r b r1 r2 => by rw [G r b (by omega), F3 r b r1 r2]
  refine wp_some ⟨rfl, ⟨⟨?_, fun a ha => ?_⟩, ?_, fun t ht => ⟨fun r r1 r2 => ?_, fun a ha => ?_, fun a ha => ?_⟩, fun s1 t a q1 q2 q3 => ?_, ⟨?_, fun m hm2 => ?_, fun m a q1 q2 => ?_, fun m t a q1 q2 q3 => ?_⟩, ?_, fun v a hv ha => ?_⟩, H⟩
  · show σ2 230 1 = _
    rw [G 230 1 (by omega), F1]; omega
  · show σ2 233 a = mkA A N s k x y z p 9 a ∧ σ2 234 a = mkA A N s k x y z p 10 a ∧ σ2 235 a = mkA A N s k x y z p 11 a ∧ (mkA A N s k x y z p 11 a ≠ 10 → σ2 236 a = mkA A N s k x y z p 12 a) ∧ (mkA A N s k x y z p 11 a = 10 → σ2 236 a = mkA A N s k x y z p 13 a ∧ σ2 237 a = mkA A N s k x y z p 12 a ∧ σ2 238 a = mkA A N s k x y z p 14 a) ∧
      ((mkA A N s k x y z p 11 a = 0 ∨ mkA A N s k x y z p 11 a = 1) → σ2 237 a = mkA A N s k x y z p 14 a) ∧ ((mkA A N s k x y z p 11 a = 0 ∨ mkA A N s k x y z p 11 a = 1 ∨ mkA A N s k x y z p 11 a = 2 ∨ mkA A N s k x y z p 11 a = 3) → σ2 240 a = mkA A N s k x y z p 15 a) ∧ (mkA A N s k x y z p 11 a = 4 → σ2 237 a = mkA A N s k x y z p 13 a ∧ σ2 238 a = mkA A N s k x y z p 14 a ∧ (σ2 239 a = 1 ↔ mkA A N s k x y z p 15 a ≠ 0)) ∧ (mkA A N s k x y z p 11 a = 7 → σ2 237 a = mkA A N s k x y z p 13 a ∧ σ2 242 a = mkA A N s k x y z p 14 a) ∧ (mkA A N s k x y z p 11 a = 5 → σ2 237 a = mkA A N s k x y z p 14 a) ∧ (mkA A N s k x y z p 11 a = 6 → σ2 237 a = mkA A N s k x y z p 13 a)
    rw [T 233 a (by decide) (by decide), T 234 a (by decide) (by decide), T 235 a (by decide) (by decide), T 236 a (by decide) (by decide), T 237 a (by decide) (by decide), T 238 a (by decide) (by decide), T 239 a (by decide) (by decide), T 240 a (by decide) (by decide), H 242 a (by omega) (by omega), mk_t (by decide) (by decide), mk_t (by decide) (by decide), mk_t (by decide) (by decide), mk_t (by decide) (by decide), mk_t (by decide) (by decide), mk_t (by decide) (by decide), mk_t (by decide) (by decide)]
    by_cases q : a = N
    · rw [if_pos q, if_pos q, if_pos q, if_pos q, if_pos q, if_pos q, if_pos q, if_pos q, if_pos q, if_pos q, if_pos q, if_pos q, if_pos q, if_pos q, if_pos q, q]
      exact ⟨rfl, rfl, rfl, hr.1, hr.2.1, hr.2.2.1, hr.2.2.2.1, hr.2.2.2.2.1, hr.2.2.2.2.2.1, hr.2.2.2.2.2.2.1, hr.2.2.2.2.2.2.2⟩
    · rw [if_neg q, if_neg q, if_neg q, if_neg q, if_neg q, if_neg q, if_neg q, if_neg q, if_neg q, if_neg q, if_neg q, if_neg q, if_neg q, if_neg q, if_neg q]
      exact g1.2 a (by omega)
  · show σ2 230 10 = _
    rw [H 230 10 (by omega) (by omega)]; exact h10
  · show σ2 r t = _
    have q := (g2 t ht).1 r r1 r2
    rcases (show r = 245 ∨ r = 247 ∨ (r = 246 ∨ 248 ≤ r) by omega) with e | e | e
    · rw [e, G245, mk_245]
      rw [e] at q
      split
      · rfl
      · exact q
    · rw [e, G247, mk_247]
      rw [e] at q
      split
      · rfl
      · exact q
    · rw [H r t (by omega) (by omega), mk_o (by omega) (by omega)]; exact q
  · show σ2 243 _ = _
    rw [G243, mk_243, (g2 t ht).2.1 a ha]
  · show σ2 244 _ = _
    rw [G244, mk_244, (g2 t ht).2.2 a ha]
  · show isB (σ2 251 (640 * s1 + 160 * t + a)) ∧ ((σ2 251 (640 * s1 + 160 * t + a) ≠ 0 ∨ (s1 = t ∧ (a : Int) ∈ (JL (mkA A N s k x y z p) s1).take (mkA A N s k x y z p 246 s1).toNat)) ↔ (a : Int) ∈ (JL (mkA A N s k x y z p) t).take (mkA A N s k x y z p 252 (4 * s1 + t)).toNat)
    rw [H 251 _ (by omega) (by omega), mk_o (a := 246) (by decide) (by decide), mk_o (a := 252) (by decide) (by decide)]
    have i3 := hI.2.2.1 s1 t q1 q2
    have i2 := (hI.2.1 t q2).2.2.2.2.2.2.2.2.2.2.2
    have i1 := (hI.2.1 s1 q1).2.2.2.2.2.2.2.2.2.2.2
    rw [mk_pre hI hN hs q1 (by omega), mk_pre hI hN hs q2 (by omega)]
    exact g3 s1 t a q1 q2 q3
  · show σ2 230 21 = _
    rw [H 230 21 (by omega) (by omega)]; exact g4
  · show σ2 254 m = _
    rw [H 254 m (by omega) (by omega), mk_o (by decide) (by decide)]; exact g5.1 m hm2
  · show σ2 255 _ = _
    rw [H 255 _ (by omega) (by omega), mk_o (by decide) (by decide)]; exact g5.2.1 m a q1 q2
  · show isB (σ2 256 (640 * m + 160 * t + a)) ∧ (σ2 256 (640 * m + 160 * t + a) ≠ 0 ↔ m < nm ∧ (a : Int) ∈ (JL (mkA A N s k x y z p) t).take (mkA A N s k x y z p 257 (4 * m + t)).toNat)
    rw [H 256 _ (by omega) (by omega), mk_o (a := 257) (by decide) (by decide)]
    have w := g5.2.2 m t a q1 q2 q3
    refine ⟨w.1, w.2.trans ?_⟩
    by_cases e : m < nm
    · have i3 := (hI.2.2.2.1.2.1 m e).2.2 t q2
      have i2 := (hI.2.1 t q2).2.2.2.2.2.2.2.2.2.2.2
      rw [mk_pre hI hN hs q2 (by omega)]
    · exact ⟨fun w => absurd w.1 e, fun w => absurd w.1 e⟩
  · show σ2 230 26 = _
    rw [H 230 26 (by omega) (by omega)]; exact g6
  · show σ2 258 _ = _
    rw [H 258 _ (by omega) (by omega), mk_o (by decide) (by decide)]; exact g7 v a hv ha
theorem r_make' {x3 x4 x5 x6 x7 : Int} (hI : Inv A N nm nv) (hm : okM A N s k x y z p) (h : Re σ A N nm nv) (hk : k ≠ 7) (hb : isB x7) (hr : rmap k x y z p x3 x4 x5 x6 x7 (σ 242 N)) : wp (fX6_makes σ (s : Int) k x3 x4 x5 x6 x7) (fun r => r.1 = (N : Int) ∧ Re r.2 (mkA A N s k x y z p) (N + 1) nm nv ∧ FrM σ r.2) :=
  r_make hI hm h.toX (by
    rw [mk_8]
    show _ = if (9 : Nat) = 8 then (N : Int) + 1 else if (9 : Nat) = 9 ∧ k = 7 then A 8 9 + 1 else A 8 9
    rw [if_neg (by decide), if_neg (fun g => hk g.2)]; exact h.2.1) hb hr
end MKR
