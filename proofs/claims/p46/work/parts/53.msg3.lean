/-! ===== send and name: cells that are made in the midst of the world ===== -/
theorem inM {v : Nat} (h : v ≤ 90) : inR ((v : Nat) : Int) := ⟨by omega, by omega⟩
noncomputable def sendK {β : Type} (n nm nv : Nat) (σ : St) (sid : Nat) (rc : Int) (k : St → Option β) : Option β :=
  if (σ 0 9 = σ 2 0 ∧ σ 2 0 = (nm : Int)) ∧ nm < 80 ∧ nv ≤ 10 then b1 (fX0_copyFrom n (stV nv σ) (700 + 2 * nv) (sid + 1)) (fun σ3 => if σ3 2 0 = (nm : Int) ∧ σ3 3 0 ≤ (nv : Int) then k (st (stM nm nv sid rc σ3) 2 0 (nm + 1 : Nat)) else none) else none
theorem sendK_of {β : Type} {n nm nv sid : Nat} {σ : St} {rc : Int} {k : St → Option β} {r : β} (h : sendK n nm nv σ sid rc k = some r) : σ 0 9 = (nm : Int) ∧ σ 2 0 = (nm : Int) ∧ nm < 80 ∧ nv ≤ 10 ∧ ∃ σ3, fX0_copyFrom n (stV nv σ) (700 + 2 * nv) (sid + 1) = some σ3 ∧ σ3 2 0 = (nm : Int) ∧ σ3 3 0 ≤ (nv : Int) ∧ k (st (stM nm nv sid rc σ3) 2 0 (nm + 1 : Nat)) = some r := by
  unfold sendK at h
  split at h
  · rename_i hc
    cases hF : fX0_copyFrom n (stV nv σ) (700 + 2 * nv) (sid + 1) with
    | none => rw [hF] at h; cases h
    | some σ3 =>
      rw [hF] at h
      have h : (if σ3 2 0 = (nm : Int) ∧ σ3 3 0 ≤ (nv : Int) then k (st (stM nm nv sid rc σ3) 2 0 (nm + 1 : Nat)) else none) = some r := h
      split at h
      · rename_i hc2
        exact ⟨hc.1.1.trans hc.1.2, hc.1.2, hc.2.1, hc.2.2, σ3, rfl, hc2.1, hc2.2, h⟩
      · cases h
  · cases h
noncomputable def nameK {β : Type} (nm nv : Nat) (σ : St) (k : St → Option β) : Option β :=
  if (σ 0 10 = σ 3 0 ∧ σ 3 0 = (nv : Int)) ∧ nv < 10 ∧ nm ≤ 80 then k (st (stV nv σ) 3 0 (nv + 1 : Nat)) else none
theorem nameK_of {β : Type} {nm nv : Nat} {σ : St} {k : St → Option β} {r : β} (h : nameK nm nv σ k = some r) : σ 0 10 = (nv : Int) ∧ σ 3 0 = (nv : Int) ∧ nv < 10 ∧ nm ≤ 80 ∧ k (st (stV nv σ) 3 0 (nv + 1 : Nat)) = some r := by
  unfold nameK at h
  split at h
  · rename_i hc
    exact ⟨hc.1.1.trans hc.1.2, hc.1.2, hc.2.1, hc.2.2, h⟩
  · cases h
theorem tail_D {A : Nat → Prop} {x0 : Nat × va_E} {W : va_W} (hD : va_D A (x0 :: W)) : va_D A W := ⟨fun i j p q hi hj he => by
    have := hD.1 (i + 1) (j + 1) p q (by rw [List.getElem?_cons_succ]; exact hi) (by rw [List.getElem?_cons_succ]; exact hj) he
    omega, fun k q hk => hD.2 (k + 1) q (by rw [List.getElem?_cons_succ]; exact hk)⟩
theorem tail_P {D : va_G} {cl : List vw_C} {x0 : Nat × va_E} {W : va_W} {H : Heap} (hP : va_P D cl (x0 :: W) H) : va_P D cl W H := fun k q hk => hP (k + 1) q (by rw [List.getElem?_cons_succ]; exact hk)
theorem site_lt {x : Nat} (h : isSite x) : x < 300 := by rcases h with rfl | rfl | rfl | rfl <;> decide
section SROWS
variable {p : Program} {l : Launch} {e : Env} {R : Room} {s : State} {m : MethodId} {args : Array Value} {below : List Frame} {meth : Method} {c : Code} {H : Heap} {locs : List Loc} {cells slots : Nat} {Q : State → Prop}
variable {cc : ByteArray} {nL : Nat} {own : String} {D : va_G} {cy : Nat → ClassId} {ad : Nat → Nat} {nm nv : Nat} {A : Nat → Prop} {σ : St} {pc : Nat} {ls : Array Slot} {rest : List Value}
theorem m_aast5 {k : Nat} (X : Cx p s m args c cc nL own D cy ad nm nv A) (hW : Wd D cy ad nm nv σ H) (hS : va_S A s.heap H locs) (hk : k < nm) (hm : nm ≤ 80) (h2 : σ 2 0 = (k : Int)) (hdg : decode cc pc = .ok (.aastore, 1))
    (kk : ∀ (H1 : Heap) (locs1 : List Loc), Wd D cy ad nm nv (st σ 2 0 ((k + 1 : Nat) : Int)) H1 → va_S A s.heap H1 locs1 → W p l e R s m args below meth c H1 locs1 cells slots Q (F0 m (pc + 1) ls rest)) : W p l e R s m args below meth c H locs cells slots Q (F0 m pc ls (.ref (ad (300 + 4 * k)) :: .int (i32 (k : Int)) :: .ref (ad 2) :: rest)) := by
  obtain ⟨hx, hb, -, -, -, hK, hD, -⟩ := X
  obtain ⟨hmm, hkk, hll⟩ := a_X5_messages (nm := nm) (nv := nv)
  obtain ⟨q0, hq⟩ := List.getElem?_of_mem hmm
  have hw := wl_at (cy := cy) (ad := ad) (σ := σ) hq
  rw [ent_5 hkk hll] at hw
  have hmsg : isMsg nm (300 + 4 * k) := ⟨k, hk, by omega, rfl⟩
  obtain ⟨q1, hq1⟩ := List.getElem?_of_mem (o_X2 (nv := nv) hmsg).1
  have hw1 := wl_at (cy := cy) (ad := ad) (σ := σ) hq1
  rw [ent_X2 (o_X2 (nv := nv) hmsg).2] at hw1
  have hR : inR (k : Int) := inM (by omega)
  refine va_astq hx hb hK hW.1 hD.va hS q0 4 q1 2 hw rfl hw1 rfl ((i32_in hR).mpr ⟨by omega, by omega⟩) hdg (fun H1 locs1 hP _ hS1 => ?_)
  rw [i32_clamp hR, Int.toNat_natCast] at hP
  have he : ent cy ad (st σ 2 0 ((k + 1 : Nat) : Int)) 2 = .inl (cy 5, 80, .inr (.inr (.inr (.inr (va_up (fun j => if (j : Int) < σ 2 0 then some (ad (300 + 4 * j)) else none) k (some (ad (300 + 4 * k)))))))) := by
    rw [ent_5 hkk hll]
    congr 7
    funext j
    rw [st_row, if_pos rfl, h2]
    unfold va_up
    by_cases hj : j = k
    · rw [if_pos hj, if_pos (by omega), hj]
    · rw [if_neg hj]
      dsimp only
      by_cases hj2 : (j : Int) < (k : Int)
      · rw [if_pos hj2, if_pos (by omega)]
      · rw [if_neg hj2, if_neg (by omega)]
  rw [wl_set hD hq he st_other] at hP
  refine kk H1 locs1 ⟨hP, st_inR hW.2.1 (inM (by omega)), ?_, ?_⟩ hS1
  · rw [st_row, if_pos rfl]; omega
  · rw [st_ne (by decide)]; exact hW.2.2.2
theorem m_aast6 {k : Nat} (X : Cx p s m args c cc nL own D cy ad nm nv A) (hW : Wd D cy ad nm nv σ H) (hS : va_S A s.heap H locs) (hk : k < nv) (hm : nv ≤ 10) (h2 : σ 3 0 = (k : Int)) (hdg : decode cc pc = .ok (.aastore, 1))
    (kk : ∀ (H1 : Heap) (locs1 : List Loc), Wd D cy ad nm nv (st σ 3 0 ((k + 1 : Nat) : Int)) H1 → va_S A s.heap H1 locs1 → W p l e R s m args below meth c H1 locs1 cells slots Q (F0 m (pc + 1) ls rest)) : W p l e R s m args below meth c H locs cells slots Q (F0 m pc ls (.ref (ad (700 + 2 * k)) :: .int (i32 (k : Int)) :: .ref (ad 3) :: rest)) := by
  obtain ⟨hx, hb, -, -, -, hK, hD, -⟩ := X
  obtain ⟨hmm, hkk, hll⟩ := a_X5_versions (nm := nm) (nv := nv)
  obtain ⟨q0, hq⟩ := List.getElem?_of_mem hmm
  have hw := wl_at (cy := cy) (ad := ad) (σ := σ) hq
  rw [ent_6 hkk hll] at hw
  have hset : isSet nm nv (700 + 2 * k) := Or.inr (Or.inr ⟨k, hk, by omega, rfl⟩)
  obtain ⟨q1, hq1⟩ := List.getElem?_of_mem (o_X0 hset).1
  have hw1 := wl_at (cy := cy) (ad := ad) (σ := σ) hq1
  rw [ent_X0 (o_X0 hset).2] at hw1
  have hR : inR (k : Int) := inM (by omega)
  refine va_astq hx hb hK hW.1 hD.va hS q0 5 q1 0 hw rfl hw1 rfl ((i32_in hR).mpr ⟨by omega, by omega⟩) hdg (fun H1 locs1 hP _ hS1 => ?_)
  rw [i32_clamp hR, Int.toNat_natCast] at hP
  have he : ent cy ad (st σ 3 0 ((k + 1 : Nat) : Int)) 3 = .inl (cy 6, 10, .inr (.inr (.inr (.inr (va_up (fun j => if (j : Int) < σ 3 0 then some (ad (700 + 2 * j)) else none) k (some (ad (700 + 2 * k)))))))) := by
    rw [ent_6 hkk hll]
    congr 7
    funext j
    rw [st_row, if_pos rfl, h2]
    unfold va_up
    by_cases hj : j = k
    · rw [if_pos hj, if_pos (by omega), hj]
    · rw [if_neg hj]
      dsimp only
      by_cases hj2 : (j : Int) < (k : Int)
      · rw [if_pos hj2, if_pos (by omega)]
      · rw [if_neg hj2, if_neg (by omega)]
  rw [wl_set hD hq he st_other] at hP
  refine kk H1 locs1 ⟨hP, st_inR hW.2.1 (inM (by omega)), ?_, ?_⟩ hS1
  · rw [st_ne (by decide)]; exact hW.2.2.1
  · rw [st_row, if_pos rfl]; omega
/-- a new object ahead of the world -/
theorem m_newX {C : String} {T : u_T} {N ci index : Nat} {fs : List Value} (X : Cx p s m args c cc nL own D cy ad nm nv A) (hW : Wd D cy ad nm nv σ H) (hS : va_S A s.heap H locs) (hin : ∀ w ∈ u_ws C T N, w ∈ GW) (ty : Nat → FieldType) (hty : ∀ k, k < N → parseFieldDescriptor (T k).2.2.1 = some (ty k)) (hcl : (Cond.classLink own index C).before args s = true) (hinst : (Cond.instantiable C N).before args s = true) (hini : (Cond.initialized C).before args s = true) (hc : vwCl[ci]? = some (C, T, N)) (hfs : ∀ j, j < N → defaultValue (ty j) = vp_V fs j) (hcells : cells + 1 ≤ R.cells) (hslots : slots + N ≤ R.slots) (hdg : decode cc pc = .ok (.new index, 3))
    (kk : ∀ (q : Nat) (H1 : Heap), va_P D vwCl (wl cy ad nm nv σ ++ [(q, .inr (ci, fs))]) H1 → va_D A (wl cy ad nm nv σ ++ [(q, .inr (ci, fs))]) → va_S A s.heap H1 locs → W p l e R s m args below meth c H1 locs (cells + 1) (slots + N) Q (F0 m (pc + 3) ls (.ref q :: rest))) : W p l e R s m args below meth c H locs cells slots Q (F0 m pc ls rest) :=
  va_new X.1 X.2.1 X.2.2.2.2.1 hin ty hty X.2.2.2.1 hcl hinst hini X.2.2.2.2.2.1 hW.1 X.2.2.2.2.2.2.1.va hS X.2.2.2.2.2.2.2.1 hc hfs hcells hslots hdg kk
theorem cons_of {x0 : Nat × va_E} {W : va_W} {H : Heap} (hP : va_P D vwCl (W ++ [x0]) H) (hD : va_D A (W ++ [x0])) : va_P D vwCl (x0 :: W) H ∧ va_D A (x0 :: W) := by
  have hm : ∀ q ∈ x0 :: W, q ∈ W ++ [x0] := fun q hq => by
    rw [List.mem_append]
    rcases List.mem_cons.mp hq with rfl | h
    · exact Or.inr List.mem_cons_self
    · exact Or.inl h
  refine ⟨re_P hm hP, re_D ?_ hm hD⟩
  rw [List.map_append]
  exact (List.perm_append_comm (l₁ := W.map Prod.fst) (l₂ := [x0].map Prod.fst)).symm
set_option maxRecDepth 100000 in
set_option maxHeartbeats 8000000 in
theorem send_new {ρ : Type} {n o3 o4 : Nat} {L : List (Nat × Value)} {r : ρ} {k : St → Option ρ} (i3 i4 : Nat) (X : Cx p s m args c cX5_send 5 RX5 D cy ad nm nv A) (hW : Wd D cy ad nm nv σ H) (hS : va_S A s.heap H locs) (hl : lv_has ls 5 L) (hL3 : L[i3]? = some (3, .ref (ad o3))) (hL4 : L[i4]? = some (4, .ref (ad o4))) (h3 : isSite o3) (h4 : isSite o4) (hf : sendK n nm nv σ o3 (σ o4 0) k = some r)
    (hRc : cells + 4 ≤ R.cells) (hRs : slots + 169 ≤ R.slots) (hRf : 3 ≤ R.frames) (hRl : 65 ≤ R.locals)
    (kk : ∀ (ad1 : Nat → Nat) (σ1 : St) (H1 : Heap) (locs1 : List Loc), (∀ x, x < 300 → ad1 x = ad x) → Cx p s m args c cX5_send 5 RX5 D cy ad1 (nm + 1) nv A → Wd D cy ad1 (nm + 1) nv σ1 H1 → va_S A s.heap H1 locs1 → k σ1 = some r → W p l e R s m args below meth c H1 locs1 (cells + 4) (slots + 169) Q (F0 m 72 ls [])) :
    W p l e R s m args below meth c H locs cells slots Q (F0 m 58 ls [.int (i32 (σ 0 9)), .ref (ad 2)]) := by
  obtain ⟨e9, e2, hm, hv, σ3, hF, k2, k3, hk⟩ := sendK_of hf
  have hx := X.1
  have hb := X.2.1
  have hG := X.2.2.2.2.1
  rw [e9]
  refine m_newX (ci := 2) (fs := [.int 0, .null, .null]) X hW hS i_X2 tyX2 tyX2_ok (hG _ mw172) (hG _ mw648) (hG _ mw14) rfl (fun j hj => by rcases (show j = 0 ∨ j = 1 ∨ j = 2 by omega) with rfl | rfl | rfl <;> rfl) (by omega) (by omega) dX5_send_58 (fun q H1 hP hD hS1 => ?_)
  obtain ⟨hP, hD⟩ := cons_of hP hD
  refine lv_dup hx hb dX5_send_61 rfl ?_
  refine lv_aload_n hx hb dX5_send_62 rfl (lv_at hl i3 hL3) ?_
  refine lv_aload hx hb dX5_send_63 (lv_at hl i4 hL4) ?_
  have mS := (o_X4 (nm := nm) (nv := nv) h4).1
  obtain ⟨q0, hq⟩ := List.getElem?_of_mem mS
  have hw := wl_at (cy := cy) (ad := ad) (σ := σ) hq
  rw [ent_X4 (o_X4 (nm := nm) (nv := nv) h4).2] at hw
  refine va_getN hx hb hG i_X4 X.2.2.2.1 X.2.2.2.2.2.1 hP (q0 + 1) (by rw [List.getElem?_cons_succ]; exact hw) rfl 0 (by decide) (nf_X5_150 X.2.2.2.2.2.2.2.2) (fun x h => h) rfl dX5_send_65 ?_
  have hM := cc_X2 (l := l) (D := D) (cy := cy) (ad := ad) (sz := H1.size) (h0 := q) hm hv hW.2.1 (by rw [e2]; exact Int.le_refl _) hW.2.2.2 h3 (hW.2.1 o4 0) hF (by rw [k2]; exact Int.le_refl _) k3
  have hA1 : ∀ z, va_A (xM0 q :: wl cy ad nm nv σ) H1.size z → A z := by
    intro z hz
    rcases hz with ⟨k, e, hk⟩ | hz
    · exact hD.2 k _ hk
    · exact X.2.2.2.2.2.2.2.1 z (Nat.le_trans hS1.1 hz)
  have hpre : ∀ U : State, U.heap = H1 → s.WarmedH U.vm → va_Pc [.ref q, .ref (ad o3), .int (i32 (σ o4 0))] (PreC D cy (xM0 q :: wl cy ad nm nv σ) H1.size) [.ref q, .ref (ad o3), .int (i32 (σ o4 0))].toArray U := fun U hU hWm => ⟨rfl, by rw [hU], by rw [hU]; exact hP, va_K.moved hWm.alike X.2.2.2.2.2.1, ⟨hD.1, fun _ _ _ => trivial⟩, X.2.2.2.2.2.2.2.2.warm hWm, (X.2.2.2.2.2.2.2.2.warm hWm).2.2.2.2⟩
  refine va_callv (va_runI (rest := [.ref q, .int (i32 (nm : Int)), .ref (ad 2)]) (As := [.ref (ad o3), .int (i32 (σ o4 0))]) ⟨X.1, X.2.1, X.2.2.1, X.2.2.2.1, X.2.2.2.2.1⟩ hM (cwI 2 X.2.2.2.2.1 (cg_G mw651) rfl rfl rfl (hG _ mw14) (hG _ mw649) (hG _ mw650) rfl hdn_X2_init ⟨hRf, hRl⟩) ⟨PreC.blind, hpre⟩ rfl rfl hl.1 rfl (Nat.le_of_ble_eq_true rfl) dX5_send_68 ⟨(by omega), (by omega)⟩) hS1 (fun z _ h => hA1 z h) hA1 (fun u t H2 locs2 ht hvm hpost hB hz hk1 hS2 => ?_)
  obtain ⟨hP2, hK2, hD2, hI3⟩ := hB
  rw [ht] at hP2
  generalize hzz : adM ad nm (u 0) (u 1) (u 2) (u 3) = ad1 at hP2 hD2
  have hfix : ∀ x, x < 300 → ad1 x = ad x := fun x hx => by
    rw [← hzz]; unfold adM
    rw [if_neg (by omega), if_neg (by omega), if_neg (by omega), if_neg (by omega)]
  have hq1 : ad1 (300 + 4 * nm) = q := by
    rw [← hzz]; unfold adM; rw [if_pos rfl]; exact hpost
  have hDd : Dd A ad1 (nm + 1) nv := Dd.of (cy := cy) (σ := stM nm nv o3 (σ o4 0) σ3) ⟨hD2.1, fun k z hz => hA1 _ (hD2.2 k z hz)⟩
  have X1 : Cx p s m args c cX5_send 5 RX5 D cy ad1 (nm + 1) nv A := ⟨X.1, X.2.1, X.2.2.1, X.2.2.2.1, X.2.2.2.2.1, X.2.2.2.2.2.1, hDd, X.2.2.2.2.2.2.2.1, X.2.2.2.2.2.2.2.2⟩
  have m2 : stM nm nv o3 (σ o4 0) σ3 2 0 = (nm : Int) := by
    unfold stM; rw [if_neg (by omega), if_neg (by omega), if_neg (by omega), if_neg (by omega)]; exact k2
  have m3 : stM nm nv o3 (σ o4 0) σ3 3 0 ≤ (nv : Int) := by
    unfold stM; rw [if_neg (by omega), if_neg (by omega), if_neg (by omega), if_neg (by omega)]; exact k3
  have hW1 : Wd D cy ad1 (nm + 1) nv (stM nm nv o3 (σ o4 0) σ3) H2 := ⟨hP2, stM_inR (hW.2.1 o4 0) hI3, by rw [m2]; omega, m3⟩
  refine W.eq (g2 := F0 m 71 ls [.ref (ad1 (300 + 4 * nm)), .int (i32 (nm : Int)), .ref (ad1 2)]) (by rw [hq1, hfix 2 (by decide)]) ?_
  exact m_aast5 X1 hW1 hS2 (Nat.lt_succ_self nm) hm m2 dX5_send_71 (fun H3 locs3 hW3 hS3 => kk ad1 _ H3 locs3 hfix X1 hW3 hS3 hk)
end SROWS
/-- what a method answers that makes cells: the world by another table of addresses -/
def XQE (D : va_G) (cy : Nat → ClassId) (ad : Nat → Nat) (nm nv : Nat) (ok : Prop) (val : Option Value) (σ2 : St) (A : Nat → Prop) : Array Value → State → Outcome → State → Prop := fun _ st oc t => (oc = .returned val ∧ ok ∧ ∃ ad1 : Nat → Nat, (∀ x, x < 300 → ad1 x = ad x) ∧ Dd A ad1 nm nv ∧ PostW D cy ad1 nm nv σ2 t) ∧ va_F A st t
def CE (l : Launch) (y : MethodName) (b : ByteArray) (n : Nat) (ret : Option FieldType) (rm : Room) (av : List Value) (D : va_G) (cy : Nat → ClassId) (ad : Nat → Nat) (nm nv sz : Nat) (σ : St) (mc ms : Nat) (ok : Prop) (val : Option Value) (σ2 : St) (nm2 nv2 : Nat) : Prop :=
  vx_Met l y (wsG y b n ret) rm (va_Pc av (PreW D cy ad nm nv sz σ)) (XQE D cy ad nm2 nv2 ok val σ2 (AW ad nm nv sz)) (fun _ _ _ => False) mc ms (AW ad nm nv sz)
theorem g_entryE {l : Launch} {y : MethodName} {cc : ByteArray} {n : Nat} {ret : Option FieldType} {rm : Room} {av : List Value} {D : va_G} {cy : Nat → ClassId} {ad : Nat → Nat} {nm nv sz : Nat} {σ : St} {Qc : Array Value → State → Outcome → State → Prop} {XC : String → State → State → Prop} {mc ms : Nat} (C : String) (hC : y.cls = C)
    (hy : plainName y.cls = true) (hlen : (lg_sl av).length ≤ n)
    (body : ∀ (p : Program) (e : Env) (s : State) (m : MethodId) (args : Array Value) (below : List Frame) (meth : Method) (c : Code) (Q : State → Prop), vx_MQ below Qc XC args s mc ms (AW ad nm nv sz) = Q → meth.sig.returnType = ret → meth.locks = false → Cx p s m args c cc n C D cy ad nm nv (AW ad nm nv sz) → Wd D cy ad nm nv σ s.heap → va_S (AW ad nm nv sz) s.heap s.heap [] → ∀ ls : Array Slot, lv_has ls n (lv_args 0 av) → W p l e rm s m args below meth c s.heap [] 0 0 Q (F0 m 0 ls [])) :
    vx_Met l y (wsG y cc n ret) rm (va_Pc av (PreW D cy ad nm nv sz σ)) Qc XC mc ms (AW ad nm nv sz) := by
  refine vx_ofW (cc := cc) (maxL := n) (ret := ret) hy rfl ?_
  intro p e s m args below meth c s₁ B hml hE hv
  obtain ⟨rfl, hsz, hW, hK, hD0, hN⟩ := hv
  have hts := atoms_spec (ws := wsG y cc n ret) B.pre
  have hown : s.vm.findClass C = some m.cls := by rw [← hC]; exact findClass_of_methodNamed B.named
  have hl := lv_entry av (n := n) hlen
  rw [lg_entry_eq]
  exact body p e s m _ below meth c _ rfl B.returns B.notSynchronized ⟨B.exec, B.bytes, hml, hown, fun w hw => hts w (List.mem_cons_of_mem _ hw), hK, hD0.weaken (fun a ha => Or.inl ⟨a, ha, rfl⟩), fun q hq => Or.inr (by rw [← hsz]; exact hq), hN⟩ hW va_S.rf _ hl
theorem Cx.grow {p : Program} {s : State} {m : MethodId} {args : Array Value} {c : Code} {cc : ByteArray} {nL : Nat} {own : String} {D : va_G} {cy : Nat → ClassId} {ad ad1 : Nat → Nat} {nm nv nm2 nv2 : Nat} {A B : Nat → Prop} (X : Cx p s m args c cc nL own D cy ad nm nv A) (hD : Dd B ad1 nm2 nv2) (hB : ∀ q, B q → A q) : Cx p s m args c cc nL own D cy ad1 nm2 nv2 A := ⟨X.1, X.2.1, X.2.2.1, X.2.2.2.1, X.2.2.2.2.1, X.2.2.2.2.2.1, hD.weaken (fun a ha => hB _ (hD.2 a ha)), X.2.2.2.2.2.2.2.1, X.2.2.2.2.2.2.2.2⟩
section GROWS
variable {p : Program} {l : Launch} {e : Env} {R : Room} {s : State} {m : MethodId} {args : Array Value} {below : List Frame} {meth : Method} {c : Code} {H : Heap} {locs : List Loc} {cells slots : Nat} {Q : State → Prop}
variable {cc : ByteArray} {nL : Nat} {own : String} {D : va_G} {cy : Nat → ClassId} {ad : Nat → Nat} {nm nv : Nat} {A : Nat → Prop} {σ : St} {pc : Nat} {ls : Array Slot} {rest : List Value}
theorem g_iretE {ad0 : Nat → Nat} {mc ms : Nat} {σR : St} {v v2 : Int} {ty : FieldType} {z : Bool} (X : Cx p s m args c cc nL own D cy ad nm nv A) (hfix : ∀ x, x < 300 → ad x = ad0 x) (hr : meth.sig.returnType = some ty) (hlocks : meth.locks = false) (hn : narrow ty (.int (i32 v)) = .int (i32 v)) (hv : inR v) (hz : z = true → isB v) (hW : Wd D cy ad nm nv σ H) (hS : va_S A s.heap H locs) {XC : String → State → State → Prop} (hc : cells ≤ mc) (hs : slots ≤ ms) (e1 : v = v2) (e2 : σ = σR) (hQ : vx_MQ below (XQE D cy ad0 nm nv (inR v2 ∧ (z = true → isB v2)) (some (.int (i32 v2))) σR A) XC args s mc ms A = Q) (hdg : decode cc pc = .ok (.ireturn, 1)) : W p l e R s m args below meth c H locs cells slots Q (F0 m pc ls [.int (i32 v)]) := by
  subst e1
  subst e2
  subst hQ
  exact W.widen hc hs (vx_ret (W.zret X.1 X.2.1 hr hn (fun t ht hWm => ⟨⟨rfl, ⟨hv, hz⟩, ad, hfix, X.2.2.2.2.2.2.1, by rw [← ht] at hW; exact hW, va_K.moved hWm.alike X.2.2.2.2.2.1⟩, hS.F ht⟩) hS.2.2 hdg hlocks))
theorem g_callVE {nm2 nv2 : Nat} {C : String} {y : MethodName} {bytes : ByteArray} {maxL index nA : Nat} {ret : Option FieldType} {rm : Room} {F : Option (Int × St)} {ρ : Type} {r : ρ} {κ : Int → St → Option ρ} {mc2 ms2 : Nat} (ce sl : Nat) {As st0 : List Value} {b : Nat} (X : Cx p s m args c cc nL own D cy ad nm nv A) (hW : Wd D cy ad nm nv σ H) (hS : va_S A s.heap H locs) (hsz : ls.size = nL)
    (hg : GoodIn GW (wsV own index C y (wsG y bytes maxL ret))) (hd : y.cls = C ∧ y.cls ≠ "java/lang/invoke/MethodHandle" ∧ y.cls ≠ "java/lang/invoke/VarHandle" ∧ (parseMethodDescriptor y.desc).map (fun d => d.parameters.length) = some nA) (hR : rm.cells = mc2 ∧ rm.slots = ms2 ∧ rm.frames + 1 ≤ R.frames ∧ 8 + (maxL + 11) + rm.locals ≤ R.locals) (hrec : ∃ cell : Cell, H[b]? = some cell ∧ cell.vm.isStatics = false ∧ s.vm.findClass C = some cell.cls)
    (hM : ∀ v σ2, F = some (v, σ2) → CE l y bytes maxL ret rm (.ref b :: As) D cy ad nm nv H.size σ mc2 ms2 (inR v ∧ (false = true → isB v)) (some (.int (i32 v))) σ2 nm2 nv2) (hf : b2 F κ = some r) (hn : As.length = nA) (hst : st0 = As.reverse ++ .ref b :: rest) (hrest : (rest.map fun v => v.category).sum ≤ 8) (hdg : decode cc pc = .ok (.invokevirtual index, 3)) (hcs : cells + mc2 ≤ R.cells ∧ slots + ms2 ≤ R.slots) (hce : cells + mc2 ≤ ce) (hsl : slots + ms2 ≤ sl)
    (kk : ∀ (ad1 : Nat → Nat) (v : Int) (σ2 : St) (H1 : Heap) (locs1 : List Loc), (∀ x, x < 300 → ad1 x = ad x) → inR v → Cx p s m args c cc nL own D cy ad1 nm2 nv2 A → Wd D cy ad1 nm2 nv2 σ2 H1 → va_S A s.heap H1 locs1 → κ v σ2 = some r → W p l e R s m args below meth c H1 locs1 ce sl Q (F0 m (pc + 3) ls (.int (i32 v) :: rest))) : W p l e R s m args below meth c H locs cells slots Q (F0 m pc ls st0) := by
  cases F with
  | none => cases hf
  | some q =>
    obtain ⟨v, σ2⟩ := q
    have hr := vx_runV (l := l) (R := R) (e := e) (below := below) (meth := meth) (locs := locs) (cells := cells) (slots := slots) (g := F0 m pc ls st0) (rest := rest) (As := As) ⟨X.1, X.2.1, X.2.2.1, X.2.2.2.1, X.2.2.2.2.1⟩ (hM v σ2 rfl) (cwV nA X.2.2.2.2.1 hg rfl hR.1 hR.2.1 hd hR.2.2) ⟨PreW.blind, hrec, m_pre (y := y) X hW⟩ rfl hn hsz hst (by show 2 * 0 + _ ≤ 8; omega) hdg ⟨hcs.1, hcs.2⟩
    have hfr := m_free X hS
    intro T hT XT
    rcases hr T hT XT with ⟨v1, st₀, t, T', L, h0, X', hL, e1, e2, ⟨⟨hv, hok, ad1, hfix, hDd, hP⟩, hF2⟩, st⟩ | ⟨q, st₀, t, T', L, E, ce1, h0, X', hL, e1, e2, hfalse, hce1, hcv, hcl, st⟩
    · cases hv
      obtain ⟨k1, k2, k3⟩ := vx_keep h0 e1 hS (fun q _ h => hfr q h) hfr hL hF2
      have hW1 := hP.1
      rw [← e1] at hW1
      obtain ⟨t2, a1, b1⟩ := kk ad1 v σ2 T'.heap (locs ++ L) hfix hok.1 (X.grow hDd hfr) hW1 k3 hf T' rfl (stand_widen X' hce hsl)
      exact ⟨t2, st t2 a1, b1⟩
    · exact hfalse.elim
end GROWS
