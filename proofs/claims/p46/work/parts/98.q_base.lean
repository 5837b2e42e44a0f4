/-! ===== a turn of the law: what holds between two turns, and its end ===== -/
section QB
variable {σ τ A B : St} {N nm s t : Nat} {x3 x4 x5 x6 x7 x8 : Int} {k x y z p : Int}
def ST (σ A : St) (N nm : Nat) : Prop := Inv A N nm 0 ∧ Cl σ A N nm 0 ∧ JA A N ∧ ∀ t, t < 4 → σ 290 t = ownC A N t
def JS (nm : Nat) (x3 x4 x5 : Int) (σ : St) : Prop := ∃ A N, ST σ A N nm ∧ x3 = (N : Int) ∧ x4 = (nm : Int) ∧ x5 = A 8 9
def Fin (r : Int × Int × Int × Nat × St) : Prop := JS r.2.2.2.1 r.1 r.2.1 r.2.2.1 r.2.2.2.2
theorem ST.fr (h : ST σ A N nm) (c : Cl τ A N nm 0) (f : FrC σ τ) : ST τ A N nm := ⟨h.1, c, h.2.2.1, fun t ht => by rw [f 290 t (by decide) (by decide)]; exact h.2.2.2 t ht⟩
theorem Cl.own {i : Nat} {v : Int} (h : Cl σ A N nm 0) : Cl (st σ 290 i v) A N nm 0 := by
  have e : ∀ q, q ≠ 290 → st σ 290 i v q = σ q := fun q hq => st_fn hq
  have dP : ∀ (p : Nat), p ≤ 213 → PD σ p N → PD (st σ 290 i v) p N := fun p hp z k k1 k2 i hi => by rw [e _ (by omega)]; exact z k k1 k2 i hi
  refine h.mk' (σ1 := st σ 290 i v) ?_ (fun t ht => ?_) (dP _ (by decide) h.2.2.1) (dP _ (by decide) h.2.2.2.1)
  · exact ⟨fun k k1 k2 => e k (by omega), fun s b hs hb => by rw [e _ (by omega)], fun s k hs k1 k2 => e _ (by omega), ⟨e 0 (by decide), e 2 (by decide), e 3 (by decide)⟩, fun r hr => e r (by omega)⟩
  · have w := h.site ht
    rw [e (20 + 40 * t) (by omega)]
    refine ⟨w.fresh, dP _ (by omega) w.pd, fun q => ?_⟩
    have z := w.doc q
    refine ⟨?_, z.2.1, ?_, fun k k1 k2 i => ?_⟩
    · rw [e _ (by omega)]; exact z.1
    · rw [e _ (by omega)]; exact z.2.2.1
    · rw [e _ (by omega)]; exact z.2.2.2 k k1 k2 i
theorem t_end (h : ST σ A N nm) (e3 : x3 = (N : Int)) (e4 : x4 = (nm : Int)) (e5 : x5 = A 8 9) : wp (fL_law_J1233 1000 nm 0 σ x6 x7 x8 x3 x4 x5 1) Fin := by
  subst e3
  unfold fL_law_J1233
  rw [if_neg (by decide)]
  refine wp_b1e (co_acts h.2.1) ?_
  rw [if_neg (fun w => w rfl)]
  refine wp_vl (wp_low (by decide) (fun u u1 u2 => wp_vl (wp_low (by decide) (fun pl p1 p2 => ?_))))
  obtain ⟨s, rfl⟩ : ∃ s : Nat, u = (s : Int) := ⟨u.toNat, by omega⟩
  refine wp_b2 (isSite_ok h.1 h.2.1 (s := s) (by omega) ⟨p1, by omega⟩) (fun v τ q => ?_)
  obtain ⟨q1, q2, q3⟩ := q
  have q1' : v = 1 := q1
  subst q1'
  rw [if_pos (by decide)]
  exact wp_some ⟨A, N, h.fr q2 q3, rfl, e4, e5⟩
theorem own_r (A : St) (N s : Nat) (hN : N ≤ 160) : 0 ≤ ownC A N s ∧ ownC A N s ≤ 160 := by
  have h := cnt_le (ownB A N s) (ids N)
  have e : (ids N).length = N := seg_len _ _ _
  unfold ownC
  omega
theorem t_own {K : St → Option (Int × Int × Int × Nat × St)} (g : Int → Int) (d : Int) (hI : Inv A N nm 0) (hC : Cl σ A N nm 0) (hJ : JA A N) (hs : s < 4) (hg : ∀ v, g v = v + d) (hown : ∀ t, t < 4 → σ 290 t = ownC A N t - (if t = s then d else 0)) (hK : ∀ τ, ST τ A N nm → wp (K τ) Fin) : wp (rd σ 290 4 (s : Int) (fun v => ck (g v) (fun w => wr σ 290 4 (s : Int) w (fun τ => K τ)))) Fin := by
  have hr := own_r A N s hI.1.2.1
  have h0 := hown s hs
  rw [if_pos rfl] at h0
  refine wp_rd (by omega) (by omega) ?_
  rw [Int.toNat_natCast]
  refine wp_ck (by rw [hg]; omega) (by rw [hg]; omega) (wp_wr (by omega) (by omega) ?_)
  rw [Int.toNat_natCast]
  refine hK _ ⟨hI, hC.own, hJ, fun t ht => ?_⟩
  rw [st_row]
  by_cases q : t = s
  · rw [if_pos q, hg, q]; omega
  · rw [if_neg q, hown t ht, if_neg q]; omega
theorem mk89 (hk : k ≠ 7) : mkA A N s k x y z p 8 9 = A 8 9 := by
  rw [mk_8]
  show (if (9 : Nat) = 8 then (N : Int) + 1 else if (9 : Nat) = 9 ∧ k = 7 then A 8 9 + 1 else A 8 9) = _
  rw [if_neg (by decide), if_neg (fun w => hk w.2)]
theorem mk897 : mkA A N s 7 x y z p 8 9 = A 8 9 + 1 := by
  rw [mk_8]
  show (if (9 : Nat) = 8 then (N : Int) + 1 else if (9 : Nat) = 9 ∧ (7 : Int) = 7 then A 8 9 + 1 else A 8 9) = _
  rw [if_neg (by decide), if_pos ⟨rfl, rfl⟩]
theorem cu_8 {c d : Int} : cuA A s c d 248 s = c ∧ cuA A s c d 249 s = d := by
  constructor
  · show st (st A 248 s c) 249 s d 248 s = c
    rw [st_ne (by decide), st_row, if_pos rfl]
  · show st (st A 248 s c) 249 s d 249 s = d
    rw [st_row, if_pos rfl]
theorem cu_89 {c d : Int} : cuA A s c d 8 9 = A 8 9 := by rw [(cu_c (A := A) (s := s) (c := c) (d := d)) 8 (by decide)]
theorem cu_doc {c d : Int} (hI : In1 A N) (t : Nat) : docOf (cuA A s c d) N (Hs (cuA A s c d) t) = docOf A N (Hs A t) := by
  have e : SaC A (cuA A s c d) := cu_c
  rw [e.hs, e.t.doc hI]
theorem no_read (h : ST σ A N nm) (S : Int → Bool) (u b : Int) : lev (docOf A N S) u b ≠ 2 := by
  have := (doc_lv h.1.1 h.2.2.1.2.1 S).le01 u b
  omega
theorem len_r (hI : Inv A N nm 0) (hs : s < 4) : 0 ≤ lenA A N s ∧ lenA A N s ≤ 160 := by
  have h1 := cnt_le (seenB (docOf A N (Hs A s))) (docOf A N (Hs A s)).1
  have h2 := (hI.dk hs).2.2.2.2
  have h3 := hI.1.2.1
  unfold lenA
  omega
end QB
