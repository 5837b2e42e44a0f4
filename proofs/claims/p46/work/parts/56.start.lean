/-! ===== what the constructors leave, as the world at its start ===== -/
def sAd (r5 : Nat → Nat) (q : Nat) : Nat → Nat := fun x => if x < 230 then r5 x else q
def sSt : St := fun a b => if a = 41 ∨ a = 81 ∨ a = 121 ∨ a = 161 ∨ a = 191 ∨ a = 211 then (if b < 161 then -2 else 0) else if a = 248 ∨ a = 249 then (if b < 4 then -1 else 0) else if a = 20 ∨ a = 60 ∨ a = 100 ∨ a = 140 then (if b = 0 then (if a = 60 then 1 else if a = 100 then 2 else if a = 140 then 3 else 0) else if b = 5 then 1 else if b = 8 ∨ b = 9 then -1 else 0) else 0
def sL (cy : Nat → ClassId) (r5 : Nat → Nat) (q : Nat) : va_W := gX5 cy r5 ++ [(q, .inl (cy 1, 4, .inl (fun _ => 0)))]
def sI : List Nat := (0 :: (((((((((([] ++ [8, 9, 10, 11, 12, 13, 14, 15, 16]) ++ [1]) ++ (((([] ++ (((([20] ++ [21, 22]) ++ [23]) ++ [24]) ++ [30, 32, 34, 35, 36, 37, 38, 39, 40, 41, 42, 43, 44, 45, 46])) ++ (((([60] ++ [61, 62]) ++ [63]) ++ [64]) ++ [70, 72, 74, 75, 76, 77, 78, 79, 80, 81, 82, 83, 84, 85, 86])) ++ (((([100] ++ [101, 102]) ++ [103]) ++ [104]) ++ [110, 112, 114, 115, 116, 117, 118, 119, 120, 121, 122, 123, 124, 125, 126])) ++ (((([140] ++ [141, 142]) ++ [143]) ++ [144]) ++ [150, 152, 154, 155, 156, 157, 158, 159, 160, 161, 162, 163, 164, 165, 166]))) ++ [2]) ++ [3]) ++ [180, 182, 184, 185, 186, 187, 188, 189, 190, 191, 192, 193, 194, 195, 196]) ++ [200, 202, 204, 205, 206, 207, 208, 209, 210, 211, 212, 213, 214, 215, 216]) ++ [6, 7]) ++ [4]) ++ [5])) ++ [290]
theorem sI_perm : idl0.Perm sI := by decide +kernel
theorem sSt_z {a : Nat} (h : (decide (a ∈ [41, 81, 121, 161, 191, 211, 248, 249, 20, 60, 100, 140])) = false) : ∀ j, sSt a j = 0 := by
  have h := of_decide_eq_false h
  simp only [List.mem_cons, List.not_mem_nil, or_false, not_or] at h
  intro j
  unfold sSt
  rw [if_neg (by omega), if_neg (by omega), if_neg (by omega)]
theorem i32_z : i32 0 = 0 := rfl
section
variable {cy : Nat → ClassId} {r5 : Nat → Nat} {q : Nat}
theorem sf_0 {a : Nat} : (gX0 cy (fun k => r5 (a + k))).map Prod.fst = [r5 (a + 0), r5 (a + 1)] := rfl
theorem sf_1 : (gX1 cy (fun k => r5 (8 + k))).map Prod.fst = [r5 8, r5 9, r5 10, r5 11, r5 12, r5 13, r5 14, r5 15, r5 16] := rfl
theorem sf_3 {bk : Nat} {r : Nat → Nat} : (gX3 cy bk r).map Prod.fst = [r 0, r 2, r 4, r 5, r 6, r 7, r 8, r 9, r 10, r 11, r 12, r 13, r 14, r 15, r 16] := rfl
theorem sAd5 {x : Nat} (h : x < 230) : sAd r5 q x = r5 x := if_pos h
set_option maxRecDepth 100000 in
theorem sL_fst : (sL cy r5 q).map Prod.fst = sI.map (sAd r5 q) := by
  unfold sL gX5 gX4 sI
  simp only [List.map_append, List.map_cons, List.map_nil, sf_0, sf_1, sf_3]
  rfl
theorem sm_0 : (sAd r5 q 0, ent cy (sAd r5 q) sSt 0) ∈ sL cy r5 q := by
  have hz : ent cy (sAd r5 q) sSt 0 = .inr (5, [.ref (r5 8), .ref (r5 1), .ref (r5 2), .ref (r5 3), .ref (r5 180), .ref (r5 200), .ref (r5 6), .ref (r5 4), .ref (r5 5), .int 0, .int 0]) := by
    rw [ent_X5 (id := 0) (by decide +kernel), show sSt 0 9 = 0 from rfl, show sSt 0 10 = 0 from rfl]
    rfl
  rw [hz]
  exact List.mem_append_left _ List.mem_cons_self
theorem sm_8 : (sAd r5 q 8, ent cy (sAd r5 q) sSt 8) ∈ sL cy r5 q := by
  have hz : ent cy (sAd r5 q) sSt 8 = .inr (1, [.ref (r5 9), .ref (r5 10), .ref (r5 11), .ref (r5 12), .ref (r5 13), .ref (r5 14), .ref (r5 15), .ref (r5 16), .int 0, .int 0]) := by
    rw [ent_X1 (id := 8) (by decide +kernel), show sSt 8 8 = 0 from rfl, show sSt 8 9 = 0 from rfl]
    rfl
  rw [hz]
  exact List.mem_append_left _ (List.mem_cons_of_mem _ (List.mem_append_left _ (List.mem_append_left _ (List.mem_append_left _ (List.mem_append_left _ (List.mem_append_left _ (List.mem_append_left _ (List.mem_append_left _ (List.mem_append_left _ (List.mem_append_left _ (List.mem_append_right _ (List.mem_of_getElem? (i := 0) rfl))))))))))))
theorem sm_9 : (sAd r5 q 9, ent cy (sAd r5 q) sSt 9) ∈ sL cy r5 q := by
  have hz : (fun j => i32 (sSt 9 j)) = fun _ => 0 := funext (fun j => by rw [sSt_z (by decide) j]; rfl)
  rw [ent_1 (n := 160) (by decide +kernel) (by decide +kernel), hz]
  exact List.mem_append_left _ (List.mem_cons_of_mem _ (List.mem_append_left _ (List.mem_append_left _ (List.mem_append_left _ (List.mem_append_left _ (List.mem_append_left _ (List.mem_append_left _ (List.mem_append_left _ (List.mem_append_left _ (List.mem_append_left _ (List.mem_append_right _ (List.mem_of_getElem? (i := 1) rfl))))))))))))
theorem sm_10 : (sAd r5 q 10, ent cy (sAd r5 q) sSt 10) ∈ sL cy r5 q := by
  have hz : (fun j => i32 (sSt 10 j)) = fun _ => 0 := funext (fun j => by rw [sSt_z (by decide) j]; rfl)
  rw [ent_1 (n := 160) (by decide +kernel) (by decide +kernel), hz]
  exact List.mem_append_left _ (List.mem_cons_of_mem _ (List.mem_append_left _ (List.mem_append_left _ (List.mem_append_left _ (List.mem_append_left _ (List.mem_append_left _ (List.mem_append_left _ (List.mem_append_left _ (List.mem_append_left _ (List.mem_append_left _ (List.mem_append_right _ (List.mem_of_getElem? (i := 2) rfl))))))))))))
theorem sm_11 : (sAd r5 q 11, ent cy (sAd r5 q) sSt 11) ∈ sL cy r5 q := by
  have hz : (fun j => i32 (sSt 11 j)) = fun _ => 0 := funext (fun j => by rw [sSt_z (by decide) j]; rfl)
  rw [ent_1 (n := 160) (by decide +kernel) (by decide +kernel), hz]
  exact List.mem_append_left _ (List.mem_cons_of_mem _ (List.mem_append_left _ (List.mem_append_left _ (List.mem_append_left _ (List.mem_append_left _ (List.mem_append_left _ (List.mem_append_left _ (List.mem_append_left _ (List.mem_append_left _ (List.mem_append_left _ (List.mem_append_right _ (List.mem_of_getElem? (i := 3) rfl))))))))))))
theorem sm_12 : (sAd r5 q 12, ent cy (sAd r5 q) sSt 12) ∈ sL cy r5 q := by
  have hz : (fun j => i32 (sSt 12 j)) = fun _ => 0 := funext (fun j => by rw [sSt_z (by decide) j]; rfl)
  rw [ent_1 (n := 160) (by decide +kernel) (by decide +kernel), hz]
  exact List.mem_append_left _ (List.mem_cons_of_mem _ (List.mem_append_left _ (List.mem_append_left _ (List.mem_append_left _ (List.mem_append_left _ (List.mem_append_left _ (List.mem_append_left _ (List.mem_append_left _ (List.mem_append_left _ (List.mem_append_left _ (List.mem_append_right _ (List.mem_of_getElem? (i := 4) rfl))))))))))))
theorem sm_13 : (sAd r5 q 13, ent cy (sAd r5 q) sSt 13) ∈ sL cy r5 q := by
  have hz : (fun j => i32 (sSt 13 j)) = fun _ => 0 := funext (fun j => by rw [sSt_z (by decide) j]; rfl)
  rw [ent_1 (n := 160) (by decide +kernel) (by decide +kernel), hz]
  exact List.mem_append_left _ (List.mem_cons_of_mem _ (List.mem_append_left _ (List.mem_append_left _ (List.mem_append_left _ (List.mem_append_left _ (List.mem_append_left _ (List.mem_append_left _ (List.mem_append_left _ (List.mem_append_left _ (List.mem_append_left _ (List.mem_append_right _ (List.mem_of_getElem? (i := 5) rfl))))))))))))
theorem sm_14 : (sAd r5 q 14, ent cy (sAd r5 q) sSt 14) ∈ sL cy r5 q := by
  have hz : (fun j => i32 (sSt 14 j)) = fun _ => 0 := funext (fun j => by rw [sSt_z (by decide) j]; rfl)
  rw [ent_1 (n := 160) (by decide +kernel) (by decide +kernel), hz]
  exact List.mem_append_left _ (List.mem_cons_of_mem _ (List.mem_append_left _ (List.mem_append_left _ (List.mem_append_left _ (List.mem_append_left _ (List.mem_append_left _ (List.mem_append_left _ (List.mem_append_left _ (List.mem_append_left _ (List.mem_append_left _ (List.mem_append_right _ (List.mem_of_getElem? (i := 6) rfl))))))))))))
theorem sm_15 : (sAd r5 q 15, ent cy (sAd r5 q) sSt 15) ∈ sL cy r5 q := by
  have hz : (fun j => i32 (sSt 15 j)) = fun _ => 0 := funext (fun j => by rw [sSt_z (by decide) j]; rfl)
  rw [ent_2 (n := 160) (by decide +kernel) (by decide +kernel), hz]
  exact List.mem_append_left _ (List.mem_cons_of_mem _ (List.mem_append_left _ (List.mem_append_left _ (List.mem_append_left _ (List.mem_append_left _ (List.mem_append_left _ (List.mem_append_left _ (List.mem_append_left _ (List.mem_append_left _ (List.mem_append_left _ (List.mem_append_right _ (List.mem_of_getElem? (i := 7) rfl))))))))))))
theorem sm_16 : (sAd r5 q 16, ent cy (sAd r5 q) sSt 16) ∈ sL cy r5 q := by
  have hz : (fun j => i32 (sSt 16 j)) = fun _ => 0 := funext (fun j => by rw [sSt_z (by decide) j]; rfl)
  rw [ent_1 (n := 160) (by decide +kernel) (by decide +kernel), hz]
  exact List.mem_append_left _ (List.mem_cons_of_mem _ (List.mem_append_left _ (List.mem_append_left _ (List.mem_append_left _ (List.mem_append_left _ (List.mem_append_left _ (List.mem_append_left _ (List.mem_append_left _ (List.mem_append_left _ (List.mem_append_left _ (List.mem_append_right _ (List.mem_of_getElem? (i := 8) rfl))))))))))))
theorem sm_1 : (sAd r5 q 1, ent cy (sAd r5 q) sSt 1) ∈ sL cy r5 q := by
  have hz : (fun j => if j < 4 then some (sAd r5 q (20 + 40 * j)) else none) = va_up (va_up (va_up (va_up (fun _ => none) 0 (some (r5 20))) 1 (some (r5 60))) 2 (some (r5 100))) 3 (some (r5 140)) := funext (fun j => by
    unfold va_up
    by_cases h : j < 4
    · rw [if_pos h]
      rcases (show j = 0 ∨ j = 1 ∨ j = 2 ∨ j = 3 by omega) with rfl | rfl | rfl | rfl <;> rfl
    · rw [if_neg h, if_neg (by omega), if_neg (by omega), if_neg (by omega), if_neg (by omega)])
  rw [ent_4 (n := 4) (by decide +kernel) (by decide +kernel), hz]
  exact List.mem_append_left _ (List.mem_cons_of_mem _ (List.mem_append_left _ (List.mem_append_left _ (List.mem_append_left _ (List.mem_append_left _ (List.mem_append_left _ (List.mem_append_left _ (List.mem_append_left _ (List.mem_append_left _ (List.mem_append_right _ (List.mem_of_getElem? (i := 0) rfl)))))))))))
theorem sm_20 : (sAd r5 q 20, ent cy (sAd r5 q) sSt 20) ∈ sL cy r5 q := by
  have hz : ent cy (sAd r5 q) sSt 20 = .inr (4, [.int (i32 0), .ref (r5 21), .ref (r5 23), .ref (r5 24), .ref (r5 30), .int (i32 1), .int 0, .int 0, .int (i32 (-1)), .int (i32 (-1))]) := by
    rw [ent_X4 (id := 20) (by decide +kernel), show sSt 20 0 = 0 from rfl, show sSt 20 5 = 1 from rfl, show sSt 20 6 = 0 from rfl, show sSt 20 7 = 0 from rfl, show sSt 20 8 = (-1) from rfl, show sSt 20 9 = (-1) from rfl]
    rfl
  rw [hz]
  exact List.mem_append_left _ (List.mem_cons_of_mem _ (List.mem_append_left _ (List.mem_append_left _ (List.mem_append_left _ (List.mem_append_left _ (List.mem_append_left _ (List.mem_append_left _ (List.mem_append_left _ (List.mem_append_right _ (List.mem_append_left _ (List.mem_append_left _ (List.mem_append_left _ (List.mem_append_right _ (List.mem_append_left _ (List.mem_append_left _ (List.mem_append_left _ (List.mem_append_left _ (List.mem_of_getElem? (i := 0) rfl))))))))))))))))))
theorem sm_21 : (sAd r5 q 21, ent cy (sAd r5 q) sSt 21) ∈ sL cy r5 q := by
  have hz : ent cy (sAd r5 q) sSt 21 = .inr (0, [.ref (r5 22), .int 0]) := by
    rw [ent_X0 (id := 21) (by decide +kernel), show sSt 21 1 = 0 from rfl]
    rfl
  rw [hz]
  exact List.mem_append_left _ (List.mem_cons_of_mem _ (List.mem_append_left _ (List.mem_append_left _ (List.mem_append_left _ (List.mem_append_left _ (List.mem_append_left _ (List.mem_append_left _ (List.mem_append_left _ (List.mem_append_right _ (List.mem_append_left _ (List.mem_append_left _ (List.mem_append_left _ (List.mem_append_right _ (List.mem_append_left _ (List.mem_append_left _ (List.mem_append_left _ (List.mem_append_right _ (List.mem_of_getElem? (i := 0) rfl))))))))))))))))))
theorem sm_22 : (sAd r5 q 22, ent cy (sAd r5 q) sSt 22) ∈ sL cy r5 q := by
  have hz : (fun j => i32 (sSt 22 j)) = fun _ => 0 := funext (fun j => by rw [sSt_z (by decide) j]; rfl)
  rw [ent_2 (n := 160) (by decide +kernel) (by decide +kernel), hz]
  exact List.mem_append_left _ (List.mem_cons_of_mem _ (List.mem_append_left _ (List.mem_append_left _ (List.mem_append_left _ (List.mem_append_left _ (List.mem_append_left _ (List.mem_append_left _ (List.mem_append_left _ (List.mem_append_right _ (List.mem_append_left _ (List.mem_append_left _ (List.mem_append_left _ (List.mem_append_right _ (List.mem_append_left _ (List.mem_append_left _ (List.mem_append_left _ (List.mem_append_right _ (List.mem_of_getElem? (i := 1) rfl))))))))))))))))))
theorem sm_23 : (sAd r5 q 23, ent cy (sAd r5 q) sSt 23) ∈ sL cy r5 q := by
  have hz : (fun j => i32 (sSt 23 j)) = fun _ => 0 := funext (fun j => by rw [sSt_z (by decide) j]; rfl)
  rw [ent_1 (n := 160) (by decide +kernel) (by decide +kernel), hz]
  exact List.mem_append_left _ (List.mem_cons_of_mem _ (List.mem_append_left _ (List.mem_append_left _ (List.mem_append_left _ (List.mem_append_left _ (List.mem_append_left _ (List.mem_append_left _ (List.mem_append_left _ (List.mem_append_right _ (List.mem_append_left _ (List.mem_append_left _ (List.mem_append_left _ (List.mem_append_right _ (List.mem_append_left _ (List.mem_append_left _ (List.mem_append_right _ (List.mem_of_getElem? (i := 0) rfl)))))))))))))))))
theorem sm_24 : (sAd r5 q 24, ent cy (sAd r5 q) sSt 24) ∈ sL cy r5 q := by
  have hz : (fun j => i32 (sSt 24 j)) = fun _ => 0 := funext (fun j => by rw [sSt_z (by decide) j]; rfl)
  rw [ent_1 (n := 4) (by decide +kernel) (by decide +kernel), hz]
  exact List.mem_append_left _ (List.mem_cons_of_mem _ (List.mem_append_left _ (List.mem_append_left _ (List.mem_append_left _ (List.mem_append_left _ (List.mem_append_left _ (List.mem_append_left _ (List.mem_append_left _ (List.mem_append_right _ (List.mem_append_left _ (List.mem_append_left _ (List.mem_append_left _ (List.mem_append_right _ (List.mem_append_left _ (List.mem_append_right _ (List.mem_of_getElem? (i := 0) rfl))))))))))))))))
theorem sm_30 : (sAd r5 q 30, ent cy (sAd r5 q) sSt 30) ∈ sL cy r5 q := by
  have hz : ent cy (sAd r5 q) sSt 30 = .inr (3, [.ref (r5 8), .ref (r5 32), .int 0, .ref (r5 34), .ref (r5 35), .ref (r5 36), .ref (r5 37), .ref (r5 38), .ref (r5 39), .ref (r5 40), .ref (r5 41), .ref (r5 42)]) := by
    rw [ent_X3 (id := 30) (by decide +kernel), show sSt 30 2 = 0 from rfl]
    rfl
  rw [hz]
  exact List.mem_append_left _ (List.mem_cons_of_mem _ (List.mem_append_left _ (List.mem_append_left _ (List.mem_append_left _ (List.mem_append_left _ (List.mem_append_left _ (List.mem_append_left _ (List.mem_append_left _ (List.mem_append_right _ (List.mem_append_left _ (List.mem_append_left _ (List.mem_append_left _ (List.mem_append_right _ (List.mem_append_right _ (List.mem_of_getElem? (i := 0) rfl)))))))))))))))
theorem sm_32 : (sAd r5 q 32, ent cy (sAd r5 q) sSt 32) ∈ sL cy r5 q := by
  have hz : (fun j => i32 (sSt 32 j)) = fun _ => 0 := funext (fun j => by rw [sSt_z (by decide) j]; rfl)
  rw [ent_1 (n := 160) (by decide +kernel) (by decide +kernel), hz]
  exact List.mem_append_left _ (List.mem_cons_of_mem _ (List.mem_append_left _ (List.mem_append_left _ (List.mem_append_left _ (List.mem_append_left _ (List.mem_append_left _ (List.mem_append_left _ (List.mem_append_left _ (List.mem_append_right _ (List.mem_append_left _ (List.mem_append_left _ (List.mem_append_left _ (List.mem_append_right _ (List.mem_append_right _ (List.mem_of_getElem? (i := 1) rfl)))))))))))))))
theorem sm_34 : (sAd r5 q 34, ent cy (sAd r5 q) sSt 34) ∈ sL cy r5 q := by
  have hz : (fun j => i32 (sSt 34 j)) = fun _ => 0 := funext (fun j => by rw [sSt_z (by decide) j]; rfl)
  rw [ent_1 (n := 160) (by decide +kernel) (by decide +kernel), hz]
  exact List.mem_append_left _ (List.mem_cons_of_mem _ (List.mem_append_left _ (List.mem_append_left _ (List.mem_append_left _ (List.mem_append_left _ (List.mem_append_left _ (List.mem_append_left _ (List.mem_append_left _ (List.mem_append_right _ (List.mem_append_left _ (List.mem_append_left _ (List.mem_append_left _ (List.mem_append_right _ (List.mem_append_right _ (List.mem_of_getElem? (i := 2) rfl)))))))))))))))
theorem sm_35 : (sAd r5 q 35, ent cy (sAd r5 q) sSt 35) ∈ sL cy r5 q := by
  have hz : (fun j => i32 (sSt 35 j)) = fun _ => 0 := funext (fun j => by rw [sSt_z (by decide) j]; rfl)
  rw [ent_2 (n := 160) (by decide +kernel) (by decide +kernel), hz]
  exact List.mem_append_left _ (List.mem_cons_of_mem _ (List.mem_append_left _ (List.mem_append_left _ (List.mem_append_left _ (List.mem_append_left _ (List.mem_append_left _ (List.mem_append_left _ (List.mem_append_left _ (List.mem_append_right _ (List.mem_append_left _ (List.mem_append_left _ (List.mem_append_left _ (List.mem_append_right _ (List.mem_append_right _ (List.mem_of_getElem? (i := 3) rfl)))))))))))))))
theorem sm_36 : (sAd r5 q 36, ent cy (sAd r5 q) sSt 36) ∈ sL cy r5 q := by
  have hz : (fun j => i32 (sSt 36 j)) = fun _ => 0 := funext (fun j => by rw [sSt_z (by decide) j]; rfl)
  rw [ent_2 (n := 160) (by decide +kernel) (by decide +kernel), hz]
  exact List.mem_append_left _ (List.mem_cons_of_mem _ (List.mem_append_left _ (List.mem_append_left _ (List.mem_append_left _ (List.mem_append_left _ (List.mem_append_left _ (List.mem_append_left _ (List.mem_append_left _ (List.mem_append_right _ (List.mem_append_left _ (List.mem_append_left _ (List.mem_append_left _ (List.mem_append_right _ (List.mem_append_right _ (List.mem_of_getElem? (i := 4) rfl)))))))))))))))
theorem sm_37 : (sAd r5 q 37, ent cy (sAd r5 q) sSt 37) ∈ sL cy r5 q := by
  have hz : (fun j => i32 (sSt 37 j)) = fun _ => 0 := funext (fun j => by rw [sSt_z (by decide) j]; rfl)
  rw [ent_1 (n := 160) (by decide +kernel) (by decide +kernel), hz]
  exact List.mem_append_left _ (List.mem_cons_of_mem _ (List.mem_append_left _ (List.mem_append_left _ (List.mem_append_left _ (List.mem_append_left _ (List.mem_append_left _ (List.mem_append_left _ (List.mem_append_left _ (List.mem_append_right _ (List.mem_append_left _ (List.mem_append_left _ (List.mem_append_left _ (List.mem_append_right _ (List.mem_append_right _ (List.mem_of_getElem? (i := 5) rfl)))))))))))))))
theorem sm_38 : (sAd r5 q 38, ent cy (sAd r5 q) sSt 38) ∈ sL cy r5 q := by
  have hz : (fun j => i32 (sSt 38 j)) = fun _ => 0 := funext (fun j => by rw [sSt_z (by decide) j]; rfl)
  rw [ent_2 (n := 160) (by decide +kernel) (by decide +kernel), hz]
  exact List.mem_append_left _ (List.mem_cons_of_mem _ (List.mem_append_left _ (List.mem_append_left _ (List.mem_append_left _ (List.mem_append_left _ (List.mem_append_left _ (List.mem_append_left _ (List.mem_append_left _ (List.mem_append_right _ (List.mem_append_left _ (List.mem_append_left _ (List.mem_append_left _ (List.mem_append_right _ (List.mem_append_right _ (List.mem_of_getElem? (i := 6) rfl)))))))))))))))
theorem sm_39 : (sAd r5 q 39, ent cy (sAd r5 q) sSt 39) ∈ sL cy r5 q := by
  have hz : (fun j => i32 (sSt 39 j)) = fun _ => 0 := funext (fun j => by rw [sSt_z (by decide) j]; rfl)
  rw [ent_2 (n := 160) (by decide +kernel) (by decide +kernel), hz]
  exact List.mem_append_left _ (List.mem_cons_of_mem _ (List.mem_append_left _ (List.mem_append_left _ (List.mem_append_left _ (List.mem_append_left _ (List.mem_append_left _ (List.mem_append_left _ (List.mem_append_left _ (List.mem_append_right _ (List.mem_append_left _ (List.mem_append_left _ (List.mem_append_left _ (List.mem_append_right _ (List.mem_append_right _ (List.mem_of_getElem? (i := 7) rfl)))))))))))))))
theorem sm_40 : (sAd r5 q 40, ent cy (sAd r5 q) sSt 40) ∈ sL cy r5 q := by
  have hz : (fun j => i32 (sSt 40 j)) = fun _ => 0 := funext (fun j => by rw [sSt_z (by decide) j]; rfl)
  rw [ent_1 (n := 161) (by decide +kernel) (by decide +kernel), hz]
  exact List.mem_append_left _ (List.mem_cons_of_mem _ (List.mem_append_left _ (List.mem_append_left _ (List.mem_append_left _ (List.mem_append_left _ (List.mem_append_left _ (List.mem_append_left _ (List.mem_append_left _ (List.mem_append_right _ (List.mem_append_left _ (List.mem_append_left _ (List.mem_append_left _ (List.mem_append_right _ (List.mem_append_right _ (List.mem_of_getElem? (i := 8) rfl)))))))))))))))
theorem sm_41 : (sAd r5 q 41, ent cy (sAd r5 q) sSt 41) ∈ sL cy r5 q := by
  have hz : (fun j => i32 (sSt 41 j)) = fun j => if j < 161 then i32 (-2) else 0 := funext (fun j => by
    have e : sSt 41 j = if j < 161 then -2 else 0 := rfl
    rw [e]; split <;> rfl)
  rw [ent_1 (n := 161) (by decide +kernel) (by decide +kernel), hz]
  exact List.mem_append_left _ (List.mem_cons_of_mem _ (List.mem_append_left _ (List.mem_append_left _ (List.mem_append_left _ (List.mem_append_left _ (List.mem_append_left _ (List.mem_append_left _ (List.mem_append_left _ (List.mem_append_right _ (List.mem_append_left _ (List.mem_append_left _ (List.mem_append_left _ (List.mem_append_right _ (List.mem_append_right _ (List.mem_of_getElem? (i := 9) rfl)))))))))))))))
theorem sm_42 : (sAd r5 q 42, ent cy (sAd r5 q) sSt 42) ∈ sL cy r5 q := by
  have hz : (fun j => if j < 4 then some (sAd r5 q (42 + 1 + j)) else none) = fun j => if j < 4 then some (r5 (43 + j)) else none := funext (fun j => by
    by_cases h : j < 4
    · rw [if_pos h, if_pos h]
      rcases (show j = 0 ∨ j = 1 ∨ j = 2 ∨ j = 3 by omega) with rfl | rfl | rfl | rfl <;> rfl
    · rw [if_neg h, if_neg h])
  have hy : (fun j => if j < 4 then some (r5 (43 + j)) else none) = fun j => if j < 4 then some (r5 (20 + (10 + (13 + j)))) else none := funext (fun j => by
    rw [show 43 + j = 20 + (10 + (13 + j)) by omega])
  rw [ent_7 (n := 4) (by decide +kernel) (by decide +kernel), hz, hy]
  exact List.mem_append_left _ (List.mem_cons_of_mem _ (List.mem_append_left _ (List.mem_append_left _ (List.mem_append_left _ (List.mem_append_left _ (List.mem_append_left _ (List.mem_append_left _ (List.mem_append_left _ (List.mem_append_right _ (List.mem_append_left _ (List.mem_append_left _ (List.mem_append_left _ (List.mem_append_right _ (List.mem_append_right _ (List.mem_of_getElem? (i := 10) rfl)))))))))))))))
theorem sm_43 : (sAd r5 q 43, ent cy (sAd r5 q) sSt 43) ∈ sL cy r5 q := by
  have hz : (fun j => i32 (sSt 43 j)) = fun _ => 0 := funext (fun j => by rw [sSt_z (by decide) j]; rfl)
  rw [ent_1 (n := 161) (by decide +kernel) (by decide +kernel), hz]
  exact List.mem_append_left _ (List.mem_cons_of_mem _ (List.mem_append_left _ (List.mem_append_left _ (List.mem_append_left _ (List.mem_append_left _ (List.mem_append_left _ (List.mem_append_left _ (List.mem_append_left _ (List.mem_append_right _ (List.mem_append_left _ (List.mem_append_left _ (List.mem_append_left _ (List.mem_append_right _ (List.mem_append_right _ (List.mem_of_getElem? (i := 11) rfl)))))))))))))))
theorem sm_44 : (sAd r5 q 44, ent cy (sAd r5 q) sSt 44) ∈ sL cy r5 q := by
  have hz : (fun j => i32 (sSt 44 j)) = fun _ => 0 := funext (fun j => by rw [sSt_z (by decide) j]; rfl)
  rw [ent_1 (n := 161) (by decide +kernel) (by decide +kernel), hz]
  exact List.mem_append_left _ (List.mem_cons_of_mem _ (List.mem_append_left _ (List.mem_append_left _ (List.mem_append_left _ (List.mem_append_left _ (List.mem_append_left _ (List.mem_append_left _ (List.mem_append_left _ (List.mem_append_right _ (List.mem_append_left _ (List.mem_append_left _ (List.mem_append_left _ (List.mem_append_right _ (List.mem_append_right _ (List.mem_of_getElem? (i := 12) rfl)))))))))))))))
theorem sm_45 : (sAd r5 q 45, ent cy (sAd r5 q) sSt 45) ∈ sL cy r5 q := by
  have hz : (fun j => i32 (sSt 45 j)) = fun _ => 0 := funext (fun j => by rw [sSt_z (by decide) j]; rfl)
  rw [ent_1 (n := 161) (by decide +kernel) (by decide +kernel), hz]
  exact List.mem_append_left _ (List.mem_cons_of_mem _ (List.mem_append_left _ (List.mem_append_left _ (List.mem_append_left _ (List.mem_append_left _ (List.mem_append_left _ (List.mem_append_left _ (List.mem_append_left _ (List.mem_append_right _ (List.mem_append_left _ (List.mem_append_left _ (List.mem_append_left _ (List.mem_append_right _ (List.mem_append_right _ (List.mem_of_getElem? (i := 13) rfl)))))))))))))))
theorem sm_46 : (sAd r5 q 46, ent cy (sAd r5 q) sSt 46) ∈ sL cy r5 q := by
  have hz : (fun j => i32 (sSt 46 j)) = fun _ => 0 := funext (fun j => by rw [sSt_z (by decide) j]; rfl)
  rw [ent_1 (n := 161) (by decide +kernel) (by decide +kernel), hz]
  exact List.mem_append_left _ (List.mem_cons_of_mem _ (List.mem_append_left _ (List.mem_append_left _ (List.mem_append_left _ (List.mem_append_left _ (List.mem_append_left _ (List.mem_append_left _ (List.mem_append_left _ (List.mem_append_right _ (List.mem_append_left _ (List.mem_append_left _ (List.mem_append_left _ (List.mem_append_right _ (List.mem_append_right _ (List.mem_of_getElem? (i := 14) rfl)))))))))))))))
theorem sm_60 : (sAd r5 q 60, ent cy (sAd r5 q) sSt 60) ∈ sL cy r5 q := by
  have hz : ent cy (sAd r5 q) sSt 60 = .inr (4, [.int (i32 1), .ref (r5 61), .ref (r5 63), .ref (r5 64), .ref (r5 70), .int (i32 1), .int 0, .int 0, .int (i32 (-1)), .int (i32 (-1))]) := by
    rw [ent_X4 (id := 60) (by decide +kernel), show sSt 60 0 = 1 from rfl, show sSt 60 5 = 1 from rfl, show sSt 60 6 = 0 from rfl, show sSt 60 7 = 0 from rfl, show sSt 60 8 = (-1) from rfl, show sSt 60 9 = (-1) from rfl]
    rfl
  rw [hz]
  exact List.mem_append_left _ (List.mem_cons_of_mem _ (List.mem_append_left _ (List.mem_append_left _ (List.mem_append_left _ (List.mem_append_left _ (List.mem_append_left _ (List.mem_append_left _ (List.mem_append_left _ (List.mem_append_right _ (List.mem_append_left _ (List.mem_append_left _ (List.mem_append_right _ (List.mem_append_left _ (List.mem_append_left _ (List.mem_append_left _ (List.mem_append_left _ (List.mem_of_getElem? (i := 0) rfl)))))))))))))))))
theorem sm_61 : (sAd r5 q 61, ent cy (sAd r5 q) sSt 61) ∈ sL cy r5 q := by
  have hz : ent cy (sAd r5 q) sSt 61 = .inr (0, [.ref (r5 62), .int 0]) := by
    rw [ent_X0 (id := 61) (by decide +kernel), show sSt 61 1 = 0 from rfl]
    rfl
  rw [hz]
  exact List.mem_append_left _ (List.mem_cons_of_mem _ (List.mem_append_left _ (List.mem_append_left _ (List.mem_append_left _ (List.mem_append_left _ (List.mem_append_left _ (List.mem_append_left _ (List.mem_append_left _ (List.mem_append_right _ (List.mem_append_left _ (List.mem_append_left _ (List.mem_append_right _ (List.mem_append_left _ (List.mem_append_left _ (List.mem_append_left _ (List.mem_append_right _ (List.mem_of_getElem? (i := 0) rfl)))))))))))))))))
theorem sm_62 : (sAd r5 q 62, ent cy (sAd r5 q) sSt 62) ∈ sL cy r5 q := by
  have hz : (fun j => i32 (sSt 62 j)) = fun _ => 0 := funext (fun j => by rw [sSt_z (by decide) j]; rfl)
  rw [ent_2 (n := 160) (by decide +kernel) (by decide +kernel), hz]
  exact List.mem_append_left _ (List.mem_cons_of_mem _ (List.mem_append_left _ (List.mem_append_left _ (List.mem_append_left _ (List.mem_append_left _ (List.mem_append_left _ (List.mem_append_left _ (List.mem_append_left _ (List.mem_append_right _ (List.mem_append_left _ (List.mem_append_left _ (List.mem_append_right _ (List.mem_append_left _ (List.mem_append_left _ (List.mem_append_left _ (List.mem_append_right _ (List.mem_of_getElem? (i := 1) rfl)))))))))))))))))
theorem sm_63 : (sAd r5 q 63, ent cy (sAd r5 q) sSt 63) ∈ sL cy r5 q := by
  have hz : (fun j => i32 (sSt 63 j)) = fun _ => 0 := funext (fun j => by rw [sSt_z (by decide) j]; rfl)
  rw [ent_1 (n := 160) (by decide +kernel) (by decide +kernel), hz]
  exact List.mem_append_left _ (List.mem_cons_of_mem _ (List.mem_append_left _ (List.mem_append_left _ (List.mem_append_left _ (List.mem_append_left _ (List.mem_append_left _ (List.mem_append_left _ (List.mem_append_left _ (List.mem_append_right _ (List.mem_append_left _ (List.mem_append_left _ (List.mem_append_right _ (List.mem_append_left _ (List.mem_append_left _ (List.mem_append_right _ (List.mem_of_getElem? (i := 0) rfl))))))))))))))))
theorem sm_64 : (sAd r5 q 64, ent cy (sAd r5 q) sSt 64) ∈ sL cy r5 q := by
  have hz : (fun j => i32 (sSt 64 j)) = fun _ => 0 := funext (fun j => by rw [sSt_z (by decide) j]; rfl)
  rw [ent_1 (n := 4) (by decide +kernel) (by decide +kernel), hz]
  exact List.mem_append_left _ (List.mem_cons_of_mem _ (List.mem_append_left _ (List.mem_append_left _ (List.mem_append_left _ (List.mem_append_left _ (List.mem_append_left _ (List.mem_append_left _ (List.mem_append_left _ (List.mem_append_right _ (List.mem_append_left _ (List.mem_append_left _ (List.mem_append_right _ (List.mem_append_left _ (List.mem_append_right _ (List.mem_of_getElem? (i := 0) rfl)))))))))))))))
theorem sm_70 : (sAd r5 q 70, ent cy (sAd r5 q) sSt 70) ∈ sL cy r5 q := by
  have hz : ent cy (sAd r5 q) sSt 70 = .inr (3, [.ref (r5 8), .ref (r5 72), .int 0, .ref (r5 74), .ref (r5 75), .ref (r5 76), .ref (r5 77), .ref (r5 78), .ref (r5 79), .ref (r5 80), .ref (r5 81), .ref (r5 82)]) := by
    rw [ent_X3 (id := 70) (by decide +kernel), show sSt 70 2 = 0 from rfl]
    rfl
  rw [hz]
  exact List.mem_append_left _ (List.mem_cons_of_mem _ (List.mem_append_left _ (List.mem_append_left _ (List.mem_append_left _ (List.mem_append_left _ (List.mem_append_left _ (List.mem_append_left _ (List.mem_append_left _ (List.mem_append_right _ (List.mem_append_left _ (List.mem_append_left _ (List.mem_append_right _ (List.mem_append_right _ (List.mem_of_getElem? (i := 0) rfl))))))))))))))
theorem sm_72 : (sAd r5 q 72, ent cy (sAd r5 q) sSt 72) ∈ sL cy r5 q := by
  have hz : (fun j => i32 (sSt 72 j)) = fun _ => 0 := funext (fun j => by rw [sSt_z (by decide) j]; rfl)
  rw [ent_1 (n := 160) (by decide +kernel) (by decide +kernel), hz]
  exact List.mem_append_left _ (List.mem_cons_of_mem _ (List.mem_append_left _ (List.mem_append_left _ (List.mem_append_left _ (List.mem_append_left _ (List.mem_append_left _ (List.mem_append_left _ (List.mem_append_left _ (List.mem_append_right _ (List.mem_append_left _ (List.mem_append_left _ (List.mem_append_right _ (List.mem_append_right _ (List.mem_of_getElem? (i := 1) rfl))))))))))))))
theorem sm_74 : (sAd r5 q 74, ent cy (sAd r5 q) sSt 74) ∈ sL cy r5 q := by
  have hz : (fun j => i32 (sSt 74 j)) = fun _ => 0 := funext (fun j => by rw [sSt_z (by decide) j]; rfl)
  rw [ent_1 (n := 160) (by decide +kernel) (by decide +kernel), hz]
  exact List.mem_append_left _ (List.mem_cons_of_mem _ (List.mem_append_left _ (List.mem_append_left _ (List.mem_append_left _ (List.mem_append_left _ (List.mem_append_left _ (List.mem_append_left _ (List.mem_append_left _ (List.mem_append_right _ (List.mem_append_left _ (List.mem_append_left _ (List.mem_append_right _ (List.mem_append_right _ (List.mem_of_getElem? (i := 2) rfl))))))))))))))
theorem sm_75 : (sAd r5 q 75, ent cy (sAd r5 q) sSt 75) ∈ sL cy r5 q := by
  have hz : (fun j => i32 (sSt 75 j)) = fun _ => 0 := funext (fun j => by rw [sSt_z (by decide) j]; rfl)
  rw [ent_2 (n := 160) (by decide +kernel) (by decide +kernel), hz]
  exact List.mem_append_left _ (List.mem_cons_of_mem _ (List.mem_append_left _ (List.mem_append_left _ (List.mem_append_left _ (List.mem_append_left _ (List.mem_append_left _ (List.mem_append_left _ (List.mem_append_left _ (List.mem_append_right _ (List.mem_append_left _ (List.mem_append_left _ (List.mem_append_right _ (List.mem_append_right _ (List.mem_of_getElem? (i := 3) rfl))))))))))))))
theorem sm_76 : (sAd r5 q 76, ent cy (sAd r5 q) sSt 76) ∈ sL cy r5 q := by
  have hz : (fun j => i32 (sSt 76 j)) = fun _ => 0 := funext (fun j => by rw [sSt_z (by decide) j]; rfl)
  rw [ent_2 (n := 160) (by decide +kernel) (by decide +kernel), hz]
  exact List.mem_append_left _ (List.mem_cons_of_mem _ (List.mem_append_left _ (List.mem_append_left _ (List.mem_append_left _ (List.mem_append_left _ (List.mem_append_left _ (List.mem_append_left _ (List.mem_append_left _ (List.mem_append_right _ (List.mem_append_left _ (List.mem_append_left _ (List.mem_append_right _ (List.mem_append_right _ (List.mem_of_getElem? (i := 4) rfl))))))))))))))
theorem sm_77 : (sAd r5 q 77, ent cy (sAd r5 q) sSt 77) ∈ sL cy r5 q := by
  have hz : (fun j => i32 (sSt 77 j)) = fun _ => 0 := funext (fun j => by rw [sSt_z (by decide) j]; rfl)
  rw [ent_1 (n := 160) (by decide +kernel) (by decide +kernel), hz]
  exact List.mem_append_left _ (List.mem_cons_of_mem _ (List.mem_append_left _ (List.mem_append_left _ (List.mem_append_left _ (List.mem_append_left _ (List.mem_append_left _ (List.mem_append_left _ (List.mem_append_left _ (List.mem_append_right _ (List.mem_append_left _ (List.mem_append_left _ (List.mem_append_right _ (List.mem_append_right _ (List.mem_of_getElem? (i := 5) rfl))))))))))))))
theorem sm_78 : (sAd r5 q 78, ent cy (sAd r5 q) sSt 78) ∈ sL cy r5 q := by
  have hz : (fun j => i32 (sSt 78 j)) = fun _ => 0 := funext (fun j => by rw [sSt_z (by decide) j]; rfl)
  rw [ent_2 (n := 160) (by decide +kernel) (by decide +kernel), hz]
  exact List.mem_append_left _ (List.mem_cons_of_mem _ (List.mem_append_left _ (List.mem_append_left _ (List.mem_append_left _ (List.mem_append_left _ (List.mem_append_left _ (List.mem_append_left _ (List.mem_append_left _ (List.mem_append_right _ (List.mem_append_left _ (List.mem_append_left _ (List.mem_append_right _ (List.mem_append_right _ (List.mem_of_getElem? (i := 6) rfl))))))))))))))
theorem sm_79 : (sAd r5 q 79, ent cy (sAd r5 q) sSt 79) ∈ sL cy r5 q := by
  have hz : (fun j => i32 (sSt 79 j)) = fun _ => 0 := funext (fun j => by rw [sSt_z (by decide) j]; rfl)
  rw [ent_2 (n := 160) (by decide +kernel) (by decide +kernel), hz]
  exact List.mem_append_left _ (List.mem_cons_of_mem _ (List.mem_append_left _ (List.mem_append_left _ (List.mem_append_left _ (List.mem_append_left _ (List.mem_append_left _ (List.mem_append_left _ (List.mem_append_left _ (List.mem_append_right _ (List.mem_append_left _ (List.mem_append_left _ (List.mem_append_right _ (List.mem_append_right _ (List.mem_of_getElem? (i := 7) rfl))))))))))))))
theorem sm_80 : (sAd r5 q 80, ent cy (sAd r5 q) sSt 80) ∈ sL cy r5 q := by
  have hz : (fun j => i32 (sSt 80 j)) = fun _ => 0 := funext (fun j => by rw [sSt_z (by decide) j]; rfl)
  rw [ent_1 (n := 161) (by decide +kernel) (by decide +kernel), hz]
  exact List.mem_append_left _ (List.mem_cons_of_mem _ (List.mem_append_left _ (List.mem_append_left _ (List.mem_append_left _ (List.mem_append_left _ (List.mem_append_left _ (List.mem_append_left _ (List.mem_append_left _ (List.mem_append_right _ (List.mem_append_left _ (List.mem_append_left _ (List.mem_append_right _ (List.mem_append_right _ (List.mem_of_getElem? (i := 8) rfl))))))))))))))
theorem sm_81 : (sAd r5 q 81, ent cy (sAd r5 q) sSt 81) ∈ sL cy r5 q := by
  have hz : (fun j => i32 (sSt 81 j)) = fun j => if j < 161 then i32 (-2) else 0 := funext (fun j => by
    have e : sSt 81 j = if j < 161 then -2 else 0 := rfl
    rw [e]; split <;> rfl)
  rw [ent_1 (n := 161) (by decide +kernel) (by decide +kernel), hz]
  exact List.mem_append_left _ (List.mem_cons_of_mem _ (List.mem_append_left _ (List.mem_append_left _ (List.mem_append_left _ (List.mem_append_left _ (List.mem_append_left _ (List.mem_append_left _ (List.mem_append_left _ (List.mem_append_right _ (List.mem_append_left _ (List.mem_append_left _ (List.mem_append_right _ (List.mem_append_right _ (List.mem_of_getElem? (i := 9) rfl))))))))))))))
theorem sm_82 : (sAd r5 q 82, ent cy (sAd r5 q) sSt 82) ∈ sL cy r5 q := by
  have hz : (fun j => if j < 4 then some (sAd r5 q (82 + 1 + j)) else none) = fun j => if j < 4 then some (r5 (83 + j)) else none := funext (fun j => by
    by_cases h : j < 4
    · rw [if_pos h, if_pos h]
      rcases (show j = 0 ∨ j = 1 ∨ j = 2 ∨ j = 3 by omega) with rfl | rfl | rfl | rfl <;> rfl
    · rw [if_neg h, if_neg h])
  have hy : (fun j => if j < 4 then some (r5 (83 + j)) else none) = fun j => if j < 4 then some (r5 (60 + (10 + (13 + j)))) else none := funext (fun j => by
    rw [show 83 + j = 60 + (10 + (13 + j)) by omega])
  rw [ent_7 (n := 4) (by decide +kernel) (by decide +kernel), hz, hy]
  exact List.mem_append_left _ (List.mem_cons_of_mem _ (List.mem_append_left _ (List.mem_append_left _ (List.mem_append_left _ (List.mem_append_left _ (List.mem_append_left _ (List.mem_append_left _ (List.mem_append_left _ (List.mem_append_right _ (List.mem_append_left _ (List.mem_append_left _ (List.mem_append_right _ (List.mem_append_right _ (List.mem_of_getElem? (i := 10) rfl))))))))))))))
theorem sm_83 : (sAd r5 q 83, ent cy (sAd r5 q) sSt 83) ∈ sL cy r5 q := by
  have hz : (fun j => i32 (sSt 83 j)) = fun _ => 0 := funext (fun j => by rw [sSt_z (by decide) j]; rfl)
  rw [ent_1 (n := 161) (by decide +kernel) (by decide +kernel), hz]
  exact List.mem_append_left _ (List.mem_cons_of_mem _ (List.mem_append_left _ (List.mem_append_left _ (List.mem_append_left _ (List.mem_append_left _ (List.mem_append_left _ (List.mem_append_left _ (List.mem_append_left _ (List.mem_append_right _ (List.mem_append_left _ (List.mem_append_left _ (List.mem_append_right _ (List.mem_append_right _ (List.mem_of_getElem? (i := 11) rfl))))))))))))))
theorem sm_84 : (sAd r5 q 84, ent cy (sAd r5 q) sSt 84) ∈ sL cy r5 q := by
  have hz : (fun j => i32 (sSt 84 j)) = fun _ => 0 := funext (fun j => by rw [sSt_z (by decide) j]; rfl)
  rw [ent_1 (n := 161) (by decide +kernel) (by decide +kernel), hz]
  exact List.mem_append_left _ (List.mem_cons_of_mem _ (List.mem_append_left _ (List.mem_append_left _ (List.mem_append_left _ (List.mem_append_left _ (List.mem_append_left _ (List.mem_append_left _ (List.mem_append_left _ (List.mem_append_right _ (List.mem_append_left _ (List.mem_append_left _ (List.mem_append_right _ (List.mem_append_right _ (List.mem_of_getElem? (i := 12) rfl))))))))))))))
theorem sm_85 : (sAd r5 q 85, ent cy (sAd r5 q) sSt 85) ∈ sL cy r5 q := by
  have hz : (fun j => i32 (sSt 85 j)) = fun _ => 0 := funext (fun j => by rw [sSt_z (by decide) j]; rfl)
  rw [ent_1 (n := 161) (by decide +kernel) (by decide +kernel), hz]
  exact List.mem_append_left _ (List.mem_cons_of_mem _ (List.mem_append_left _ (List.mem_append_left _ (List.mem_append_left _ (List.mem_append_left _ (List.mem_append_left _ (List.mem_append_left _ (List.mem_append_left _ (List.mem_append_right _ (List.mem_append_left _ (List.mem_append_left _ (List.mem_append_right _ (List.mem_append_right _ (List.mem_of_getElem? (i := 13) rfl))))))))))))))
theorem sm_86 : (sAd r5 q 86, ent cy (sAd r5 q) sSt 86) ∈ sL cy r5 q := by
  have hz : (fun j => i32 (sSt 86 j)) = fun _ => 0 := funext (fun j => by rw [sSt_z (by decide) j]; rfl)
  rw [ent_1 (n := 161) (by decide +kernel) (by decide +kernel), hz]
  exact List.mem_append_left _ (List.mem_cons_of_mem _ (List.mem_append_left _ (List.mem_append_left _ (List.mem_append_left _ (List.mem_append_left _ (List.mem_append_left _ (List.mem_append_left _ (List.mem_append_left _ (List.mem_append_right _ (List.mem_append_left _ (List.mem_append_left _ (List.mem_append_right _ (List.mem_append_right _ (List.mem_of_getElem? (i := 14) rfl))))))))))))))
theorem sm_100 : (sAd r5 q 100, ent cy (sAd r5 q) sSt 100) ∈ sL cy r5 q := by
  have hz : ent cy (sAd r5 q) sSt 100 = .inr (4, [.int (i32 2), .ref (r5 101), .ref (r5 103), .ref (r5 104), .ref (r5 110), .int (i32 1), .int 0, .int 0, .int (i32 (-1)), .int (i32 (-1))]) := by
    rw [ent_X4 (id := 100) (by decide +kernel), show sSt 100 0 = 2 from rfl, show sSt 100 5 = 1 from rfl, show sSt 100 6 = 0 from rfl, show sSt 100 7 = 0 from rfl, show sSt 100 8 = (-1) from rfl, show sSt 100 9 = (-1) from rfl]
    rfl
  rw [hz]
  exact List.mem_append_left _ (List.mem_cons_of_mem _ (List.mem_append_left _ (List.mem_append_left _ (List.mem_append_left _ (List.mem_append_left _ (List.mem_append_left _ (List.mem_append_left _ (List.mem_append_left _ (List.mem_append_right _ (List.mem_append_left _ (List.mem_append_right _ (List.mem_append_left _ (List.mem_append_left _ (List.mem_append_left _ (List.mem_append_left _ (List.mem_of_getElem? (i := 0) rfl))))))))))))))))
theorem sm_101 : (sAd r5 q 101, ent cy (sAd r5 q) sSt 101) ∈ sL cy r5 q := by
  have hz : ent cy (sAd r5 q) sSt 101 = .inr (0, [.ref (r5 102), .int 0]) := by
    rw [ent_X0 (id := 101) (by decide +kernel), show sSt 101 1 = 0 from rfl]
    rfl
  rw [hz]
  exact List.mem_append_left _ (List.mem_cons_of_mem _ (List.mem_append_left _ (List.mem_append_left _ (List.mem_append_left _ (List.mem_append_left _ (List.mem_append_left _ (List.mem_append_left _ (List.mem_append_left _ (List.mem_append_right _ (List.mem_append_left _ (List.mem_append_right _ (List.mem_append_left _ (List.mem_append_left _ (List.mem_append_left _ (List.mem_append_right _ (List.mem_of_getElem? (i := 0) rfl))))))))))))))))
theorem sm_102 : (sAd r5 q 102, ent cy (sAd r5 q) sSt 102) ∈ sL cy r5 q := by
  have hz : (fun j => i32 (sSt 102 j)) = fun _ => 0 := funext (fun j => by rw [sSt_z (by decide) j]; rfl)
  rw [ent_2 (n := 160) (by decide +kernel) (by decide +kernel), hz]
  exact List.mem_append_left _ (List.mem_cons_of_mem _ (List.mem_append_left _ (List.mem_append_left _ (List.mem_append_left _ (List.mem_append_left _ (List.mem_append_left _ (List.mem_append_left _ (List.mem_append_left _ (List.mem_append_right _ (List.mem_append_left _ (List.mem_append_right _ (List.mem_append_left _ (List.mem_append_left _ (List.mem_append_left _ (List.mem_append_right _ (List.mem_of_getElem? (i := 1) rfl))))))))))))))))
theorem sm_103 : (sAd r5 q 103, ent cy (sAd r5 q) sSt 103) ∈ sL cy r5 q := by
  have hz : (fun j => i32 (sSt 103 j)) = fun _ => 0 := funext (fun j => by rw [sSt_z (by decide) j]; rfl)
  rw [ent_1 (n := 160) (by decide +kernel) (by decide +kernel), hz]
  exact List.mem_append_left _ (List.mem_cons_of_mem _ (List.mem_append_left _ (List.mem_append_left _ (List.mem_append_left _ (List.mem_append_left _ (List.mem_append_left _ (List.mem_append_left _ (List.mem_append_left _ (List.mem_append_right _ (List.mem_append_left _ (List.mem_append_right _ (List.mem_append_left _ (List.mem_append_left _ (List.mem_append_right _ (List.mem_of_getElem? (i := 0) rfl)))))))))))))))
theorem sm_104 : (sAd r5 q 104, ent cy (sAd r5 q) sSt 104) ∈ sL cy r5 q := by
  have hz : (fun j => i32 (sSt 104 j)) = fun _ => 0 := funext (fun j => by rw [sSt_z (by decide) j]; rfl)
  rw [ent_1 (n := 4) (by decide +kernel) (by decide +kernel), hz]
  exact List.mem_append_left _ (List.mem_cons_of_mem _ (List.mem_append_left _ (List.mem_append_left _ (List.mem_append_left _ (List.mem_append_left _ (List.mem_append_left _ (List.mem_append_left _ (List.mem_append_left _ (List.mem_append_right _ (List.mem_append_left _ (List.mem_append_right _ (List.mem_append_left _ (List.mem_append_right _ (List.mem_of_getElem? (i := 0) rfl))))))))))))))
theorem sm_110 : (sAd r5 q 110, ent cy (sAd r5 q) sSt 110) ∈ sL cy r5 q := by
  have hz : ent cy (sAd r5 q) sSt 110 = .inr (3, [.ref (r5 8), .ref (r5 112), .int 0, .ref (r5 114), .ref (r5 115), .ref (r5 116), .ref (r5 117), .ref (r5 118), .ref (r5 119), .ref (r5 120), .ref (r5 121), .ref (r5 122)]) := by
    rw [ent_X3 (id := 110) (by decide +kernel), show sSt 110 2 = 0 from rfl]
    rfl
  rw [hz]
  exact List.mem_append_left _ (List.mem_cons_of_mem _ (List.mem_append_left _ (List.mem_append_left _ (List.mem_append_left _ (List.mem_append_left _ (List.mem_append_left _ (List.mem_append_left _ (List.mem_append_left _ (List.mem_append_right _ (List.mem_append_left _ (List.mem_append_right _ (List.mem_append_right _ (List.mem_of_getElem? (i := 0) rfl)))))))))))))
theorem sm_112 : (sAd r5 q 112, ent cy (sAd r5 q) sSt 112) ∈ sL cy r5 q := by
  have hz : (fun j => i32 (sSt 112 j)) = fun _ => 0 := funext (fun j => by rw [sSt_z (by decide) j]; rfl)
  rw [ent_1 (n := 160) (by decide +kernel) (by decide +kernel), hz]
  exact List.mem_append_left _ (List.mem_cons_of_mem _ (List.mem_append_left _ (List.mem_append_left _ (List.mem_append_left _ (List.mem_append_left _ (List.mem_append_left _ (List.mem_append_left _ (List.mem_append_left _ (List.mem_append_right _ (List.mem_append_left _ (List.mem_append_right _ (List.mem_append_right _ (List.mem_of_getElem? (i := 1) rfl)))))))))))))
theorem sm_114 : (sAd r5 q 114, ent cy (sAd r5 q) sSt 114) ∈ sL cy r5 q := by
  have hz : (fun j => i32 (sSt 114 j)) = fun _ => 0 := funext (fun j => by rw [sSt_z (by decide) j]; rfl)
  rw [ent_1 (n := 160) (by decide +kernel) (by decide +kernel), hz]
  exact List.mem_append_left _ (List.mem_cons_of_mem _ (List.mem_append_left _ (List.mem_append_left _ (List.mem_append_left _ (List.mem_append_left _ (List.mem_append_left _ (List.mem_append_left _ (List.mem_append_left _ (List.mem_append_right _ (List.mem_append_left _ (List.mem_append_right _ (List.mem_append_right _ (List.mem_of_getElem? (i := 2) rfl)))))))))))))
theorem sm_115 : (sAd r5 q 115, ent cy (sAd r5 q) sSt 115) ∈ sL cy r5 q := by
  have hz : (fun j => i32 (sSt 115 j)) = fun _ => 0 := funext (fun j => by rw [sSt_z (by decide) j]; rfl)
  rw [ent_2 (n := 160) (by decide +kernel) (by decide +kernel), hz]
  exact List.mem_append_left _ (List.mem_cons_of_mem _ (List.mem_append_left _ (List.mem_append_left _ (List.mem_append_left _ (List.mem_append_left _ (List.mem_append_left _ (List.mem_append_left _ (List.mem_append_left _ (List.mem_append_right _ (List.mem_append_left _ (List.mem_append_right _ (List.mem_append_right _ (List.mem_of_getElem? (i := 3) rfl)))))))))))))
theorem sm_116 : (sAd r5 q 116, ent cy (sAd r5 q) sSt 116) ∈ sL cy r5 q := by
  have hz : (fun j => i32 (sSt 116 j)) = fun _ => 0 := funext (fun j => by rw [sSt_z (by decide) j]; rfl)
  rw [ent_2 (n := 160) (by decide +kernel) (by decide +kernel), hz]
  exact List.mem_append_left _ (List.mem_cons_of_mem _ (List.mem_append_left _ (List.mem_append_left _ (List.mem_append_left _ (List.mem_append_left _ (List.mem_append_left _ (List.mem_append_left _ (List.mem_append_left _ (List.mem_append_right _ (List.mem_append_left _ (List.mem_append_right _ (List.mem_append_right _ (List.mem_of_getElem? (i := 4) rfl)))))))))))))
theorem sm_117 : (sAd r5 q 117, ent cy (sAd r5 q) sSt 117) ∈ sL cy r5 q := by
  have hz : (fun j => i32 (sSt 117 j)) = fun _ => 0 := funext (fun j => by rw [sSt_z (by decide) j]; rfl)
  rw [ent_1 (n := 160) (by decide +kernel) (by decide +kernel), hz]
  exact List.mem_append_left _ (List.mem_cons_of_mem _ (List.mem_append_left _ (List.mem_append_left _ (List.mem_append_left _ (List.mem_append_left _ (List.mem_append_left _ (List.mem_append_left _ (List.mem_append_left _ (List.mem_append_right _ (List.mem_append_left _ (List.mem_append_right _ (List.mem_append_right _ (List.mem_of_getElem? (i := 5) rfl)))))))))))))
theorem sm_118 : (sAd r5 q 118, ent cy (sAd r5 q) sSt 118) ∈ sL cy r5 q := by
  have hz : (fun j => i32 (sSt 118 j)) = fun _ => 0 := funext (fun j => by rw [sSt_z (by decide) j]; rfl)
  rw [ent_2 (n := 160) (by decide +kernel) (by decide +kernel), hz]
  exact List.mem_append_left _ (List.mem_cons_of_mem _ (List.mem_append_left _ (List.mem_append_left _ (List.mem_append_left _ (List.mem_append_left _ (List.mem_append_left _ (List.mem_append_left _ (List.mem_append_left _ (List.mem_append_right _ (List.mem_append_left _ (List.mem_append_right _ (List.mem_append_right _ (List.mem_of_getElem? (i := 6) rfl)))))))))))))
theorem sm_119 : (sAd r5 q 119, ent cy (sAd r5 q) sSt 119) ∈ sL cy r5 q := by
  have hz : (fun j => i32 (sSt 119 j)) = fun _ => 0 := funext (fun j => by rw [sSt_z (by decide) j]; rfl)
  rw [ent_2 (n := 160) (by decide +kernel) (by decide +kernel), hz]
  exact List.mem_append_left _ (List.mem_cons_of_mem _ (List.mem_append_left _ (List.mem_append_left _ (List.mem_append_left _ (List.mem_append_left _ (List.mem_append_left _ (List.mem_append_left _ (List.mem_append_left _ (List.mem_append_right _ (List.mem_append_left _ (List.mem_append_right _ (List.mem_append_right _ (List.mem_of_getElem? (i := 7) rfl)))))))))))))
theorem sm_120 : (sAd r5 q 120, ent cy (sAd r5 q) sSt 120) ∈ sL cy r5 q := by
  have hz : (fun j => i32 (sSt 120 j)) = fun _ => 0 := funext (fun j => by rw [sSt_z (by decide) j]; rfl)
  rw [ent_1 (n := 161) (by decide +kernel) (by decide +kernel), hz]
  exact List.mem_append_left _ (List.mem_cons_of_mem _ (List.mem_append_left _ (List.mem_append_left _ (List.mem_append_left _ (List.mem_append_left _ (List.mem_append_left _ (List.mem_append_left _ (List.mem_append_left _ (List.mem_append_right _ (List.mem_append_left _ (List.mem_append_right _ (List.mem_append_right _ (List.mem_of_getElem? (i := 8) rfl)))))))))))))
theorem sm_121 : (sAd r5 q 121, ent cy (sAd r5 q) sSt 121) ∈ sL cy r5 q := by
  have hz : (fun j => i32 (sSt 121 j)) = fun j => if j < 161 then i32 (-2) else 0 := funext (fun j => by
    have e : sSt 121 j = if j < 161 then -2 else 0 := rfl
    rw [e]; split <;> rfl)
  rw [ent_1 (n := 161) (by decide +kernel) (by decide +kernel), hz]
  exact List.mem_append_left _ (List.mem_cons_of_mem _ (List.mem_append_left _ (List.mem_append_left _ (List.mem_append_left _ (List.mem_append_left _ (List.mem_append_left _ (List.mem_append_left _ (List.mem_append_left _ (List.mem_append_right _ (List.mem_append_left _ (List.mem_append_right _ (List.mem_append_right _ (List.mem_of_getElem? (i := 9) rfl)))))))))))))
theorem sm_122 : (sAd r5 q 122, ent cy (sAd r5 q) sSt 122) ∈ sL cy r5 q := by
  have hz : (fun j => if j < 4 then some (sAd r5 q (122 + 1 + j)) else none) = fun j => if j < 4 then some (r5 (123 + j)) else none := funext (fun j => by
    by_cases h : j < 4
    · rw [if_pos h, if_pos h]
      rcases (show j = 0 ∨ j = 1 ∨ j = 2 ∨ j = 3 by omega) with rfl | rfl | rfl | rfl <;> rfl
    · rw [if_neg h, if_neg h])
  have hy : (fun j => if j < 4 then some (r5 (123 + j)) else none) = fun j => if j < 4 then some (r5 (100 + (10 + (13 + j)))) else none := funext (fun j => by
    rw [show 123 + j = 100 + (10 + (13 + j)) by omega])
  rw [ent_7 (n := 4) (by decide +kernel) (by decide +kernel), hz, hy]
  exact List.mem_append_left _ (List.mem_cons_of_mem _ (List.mem_append_left _ (List.mem_append_left _ (List.mem_append_left _ (List.mem_append_left _ (List.mem_append_left _ (List.mem_append_left _ (List.mem_append_left _ (List.mem_append_right _ (List.mem_append_left _ (List.mem_append_right _ (List.mem_append_right _ (List.mem_of_getElem? (i := 10) rfl)))))))))))))
theorem sm_123 : (sAd r5 q 123, ent cy (sAd r5 q) sSt 123) ∈ sL cy r5 q := by
  have hz : (fun j => i32 (sSt 123 j)) = fun _ => 0 := funext (fun j => by rw [sSt_z (by decide) j]; rfl)
  rw [ent_1 (n := 161) (by decide +kernel) (by decide +kernel), hz]
  exact List.mem_append_left _ (List.mem_cons_of_mem _ (List.mem_append_left _ (List.mem_append_left _ (List.mem_append_left _ (List.mem_append_left _ (List.mem_append_left _ (List.mem_append_left _ (List.mem_append_left _ (List.mem_append_right _ (List.mem_append_left _ (List.mem_append_right _ (List.mem_append_right _ (List.mem_of_getElem? (i := 11) rfl)))))))))))))
theorem sm_124 : (sAd r5 q 124, ent cy (sAd r5 q) sSt 124) ∈ sL cy r5 q := by
  have hz : (fun j => i32 (sSt 124 j)) = fun _ => 0 := funext (fun j => by rw [sSt_z (by decide) j]; rfl)
  rw [ent_1 (n := 161) (by decide +kernel) (by decide +kernel), hz]
  exact List.mem_append_left _ (List.mem_cons_of_mem _ (List.mem_append_left _ (List.mem_append_left _ (List.mem_append_left _ (List.mem_append_left _ (List.mem_append_left _ (List.mem_append_left _ (List.mem_append_left _ (List.mem_append_right _ (List.mem_append_left _ (List.mem_append_right _ (List.mem_append_right _ (List.mem_of_getElem? (i := 12) rfl)))))))))))))
theorem sm_125 : (sAd r5 q 125, ent cy (sAd r5 q) sSt 125) ∈ sL cy r5 q := by
  have hz : (fun j => i32 (sSt 125 j)) = fun _ => 0 := funext (fun j => by rw [sSt_z (by decide) j]; rfl)
  rw [ent_1 (n := 161) (by decide +kernel) (by decide +kernel), hz]
  exact List.mem_append_left _ (List.mem_cons_of_mem _ (List.mem_append_left _ (List.mem_append_left _ (List.mem_append_left _ (List.mem_append_left _ (List.mem_append_left _ (List.mem_append_left _ (List.mem_append_left _ (List.mem_append_right _ (List.mem_append_left _ (List.mem_append_right _ (List.mem_append_right _ (List.mem_of_getElem? (i := 13) rfl)))))))))))))
theorem sm_126 : (sAd r5 q 126, ent cy (sAd r5 q) sSt 126) ∈ sL cy r5 q := by
  have hz : (fun j => i32 (sSt 126 j)) = fun _ => 0 := funext (fun j => by rw [sSt_z (by decide) j]; rfl)
  rw [ent_1 (n := 161) (by decide +kernel) (by decide +kernel), hz]
  exact List.mem_append_left _ (List.mem_cons_of_mem _ (List.mem_append_left _ (List.mem_append_left _ (List.mem_append_left _ (List.mem_append_left _ (List.mem_append_left _ (List.mem_append_left _ (List.mem_append_left _ (List.mem_append_right _ (List.mem_append_left _ (List.mem_append_right _ (List.mem_append_right _ (List.mem_of_getElem? (i := 14) rfl)))))))))))))
theorem sm_140 : (sAd r5 q 140, ent cy (sAd r5 q) sSt 140) ∈ sL cy r5 q := by
  have hz : ent cy (sAd r5 q) sSt 140 = .inr (4, [.int (i32 3), .ref (r5 141), .ref (r5 143), .ref (r5 144), .ref (r5 150), .int (i32 1), .int 0, .int 0, .int (i32 (-1)), .int (i32 (-1))]) := by
    rw [ent_X4 (id := 140) (by decide +kernel), show sSt 140 0 = 3 from rfl, show sSt 140 5 = 1 from rfl, show sSt 140 6 = 0 from rfl, show sSt 140 7 = 0 from rfl, show sSt 140 8 = (-1) from rfl, show sSt 140 9 = (-1) from rfl]
    rfl
  rw [hz]
  exact List.mem_append_left _ (List.mem_cons_of_mem _ (List.mem_append_left _ (List.mem_append_left _ (List.mem_append_left _ (List.mem_append_left _ (List.mem_append_left _ (List.mem_append_left _ (List.mem_append_left _ (List.mem_append_right _ (List.mem_append_right _ (List.mem_append_left _ (List.mem_append_left _ (List.mem_append_left _ (List.mem_append_left _ (List.mem_of_getElem? (i := 0) rfl)))))))))))))))
theorem sm_141 : (sAd r5 q 141, ent cy (sAd r5 q) sSt 141) ∈ sL cy r5 q := by
  have hz : ent cy (sAd r5 q) sSt 141 = .inr (0, [.ref (r5 142), .int 0]) := by
    rw [ent_X0 (id := 141) (by decide +kernel), show sSt 141 1 = 0 from rfl]
    rfl
  rw [hz]
  exact List.mem_append_left _ (List.mem_cons_of_mem _ (List.mem_append_left _ (List.mem_append_left _ (List.mem_append_left _ (List.mem_append_left _ (List.mem_append_left _ (List.mem_append_left _ (List.mem_append_left _ (List.mem_append_right _ (List.mem_append_right _ (List.mem_append_left _ (List.mem_append_left _ (List.mem_append_left _ (List.mem_append_right _ (List.mem_of_getElem? (i := 0) rfl)))))))))))))))
theorem sm_142 : (sAd r5 q 142, ent cy (sAd r5 q) sSt 142) ∈ sL cy r5 q := by
  have hz : (fun j => i32 (sSt 142 j)) = fun _ => 0 := funext (fun j => by rw [sSt_z (by decide) j]; rfl)
  rw [ent_2 (n := 160) (by decide +kernel) (by decide +kernel), hz]
  exact List.mem_append_left _ (List.mem_cons_of_mem _ (List.mem_append_left _ (List.mem_append_left _ (List.mem_append_left _ (List.mem_append_left _ (List.mem_append_left _ (List.mem_append_left _ (List.mem_append_left _ (List.mem_append_right _ (List.mem_append_right _ (List.mem_append_left _ (List.mem_append_left _ (List.mem_append_left _ (List.mem_append_right _ (List.mem_of_getElem? (i := 1) rfl)))))))))))))))
theorem sm_143 : (sAd r5 q 143, ent cy (sAd r5 q) sSt 143) ∈ sL cy r5 q := by
  have hz : (fun j => i32 (sSt 143 j)) = fun _ => 0 := funext (fun j => by rw [sSt_z (by decide) j]; rfl)
  rw [ent_1 (n := 160) (by decide +kernel) (by decide +kernel), hz]
  exact List.mem_append_left _ (List.mem_cons_of_mem _ (List.mem_append_left _ (List.mem_append_left _ (List.mem_append_left _ (List.mem_append_left _ (List.mem_append_left _ (List.mem_append_left _ (List.mem_append_left _ (List.mem_append_right _ (List.mem_append_right _ (List.mem_append_left _ (List.mem_append_left _ (List.mem_append_right _ (List.mem_of_getElem? (i := 0) rfl))))))))))))))
theorem sm_144 : (sAd r5 q 144, ent cy (sAd r5 q) sSt 144) ∈ sL cy r5 q := by
  have hz : (fun j => i32 (sSt 144 j)) = fun _ => 0 := funext (fun j => by rw [sSt_z (by decide) j]; rfl)
  rw [ent_1 (n := 4) (by decide +kernel) (by decide +kernel), hz]
  exact List.mem_append_left _ (List.mem_cons_of_mem _ (List.mem_append_left _ (List.mem_append_left _ (List.mem_append_left _ (List.mem_append_left _ (List.mem_append_left _ (List.mem_append_left _ (List.mem_append_left _ (List.mem_append_right _ (List.mem_append_right _ (List.mem_append_left _ (List.mem_append_right _ (List.mem_of_getElem? (i := 0) rfl)))))))))))))
theorem sm_150 : (sAd r5 q 150, ent cy (sAd r5 q) sSt 150) ∈ sL cy r5 q := by
  have hz : ent cy (sAd r5 q) sSt 150 = .inr (3, [.ref (r5 8), .ref (r5 152), .int 0, .ref (r5 154), .ref (r5 155), .ref (r5 156), .ref (r5 157), .ref (r5 158), .ref (r5 159), .ref (r5 160), .ref (r5 161), .ref (r5 162)]) := by
    rw [ent_X3 (id := 150) (by decide +kernel), show sSt 150 2 = 0 from rfl]
    rfl
  rw [hz]
  exact List.mem_append_left _ (List.mem_cons_of_mem _ (List.mem_append_left _ (List.mem_append_left _ (List.mem_append_left _ (List.mem_append_left _ (List.mem_append_left _ (List.mem_append_left _ (List.mem_append_left _ (List.mem_append_right _ (List.mem_append_right _ (List.mem_append_right _ (List.mem_of_getElem? (i := 0) rfl))))))))))))
theorem sm_152 : (sAd r5 q 152, ent cy (sAd r5 q) sSt 152) ∈ sL cy r5 q := by
  have hz : (fun j => i32 (sSt 152 j)) = fun _ => 0 := funext (fun j => by rw [sSt_z (by decide) j]; rfl)
  rw [ent_1 (n := 160) (by decide +kernel) (by decide +kernel), hz]
  exact List.mem_append_left _ (List.mem_cons_of_mem _ (List.mem_append_left _ (List.mem_append_left _ (List.mem_append_left _ (List.mem_append_left _ (List.mem_append_left _ (List.mem_append_left _ (List.mem_append_left _ (List.mem_append_right _ (List.mem_append_right _ (List.mem_append_right _ (List.mem_of_getElem? (i := 1) rfl))))))))))))
theorem sm_154 : (sAd r5 q 154, ent cy (sAd r5 q) sSt 154) ∈ sL cy r5 q := by
  have hz : (fun j => i32 (sSt 154 j)) = fun _ => 0 := funext (fun j => by rw [sSt_z (by decide) j]; rfl)
  rw [ent_1 (n := 160) (by decide +kernel) (by decide +kernel), hz]
  exact List.mem_append_left _ (List.mem_cons_of_mem _ (List.mem_append_left _ (List.mem_append_left _ (List.mem_append_left _ (List.mem_append_left _ (List.mem_append_left _ (List.mem_append_left _ (List.mem_append_left _ (List.mem_append_right _ (List.mem_append_right _ (List.mem_append_right _ (List.mem_of_getElem? (i := 2) rfl))))))))))))
theorem sm_155 : (sAd r5 q 155, ent cy (sAd r5 q) sSt 155) ∈ sL cy r5 q := by
  have hz : (fun j => i32 (sSt 155 j)) = fun _ => 0 := funext (fun j => by rw [sSt_z (by decide) j]; rfl)
  rw [ent_2 (n := 160) (by decide +kernel) (by decide +kernel), hz]
  exact List.mem_append_left _ (List.mem_cons_of_mem _ (List.mem_append_left _ (List.mem_append_left _ (List.mem_append_left _ (List.mem_append_left _ (List.mem_append_left _ (List.mem_append_left _ (List.mem_append_left _ (List.mem_append_right _ (List.mem_append_right _ (List.mem_append_right _ (List.mem_of_getElem? (i := 3) rfl))))))))))))
theorem sm_156 : (sAd r5 q 156, ent cy (sAd r5 q) sSt 156) ∈ sL cy r5 q := by
  have hz : (fun j => i32 (sSt 156 j)) = fun _ => 0 := funext (fun j => by rw [sSt_z (by decide) j]; rfl)
  rw [ent_2 (n := 160) (by decide +kernel) (by decide +kernel), hz]
  exact List.mem_append_left _ (List.mem_cons_of_mem _ (List.mem_append_left _ (List.mem_append_left _ (List.mem_append_left _ (List.mem_append_left _ (List.mem_append_left _ (List.mem_append_left _ (List.mem_append_left _ (List.mem_append_right _ (List.mem_append_right _ (List.mem_append_right _ (List.mem_of_getElem? (i := 4) rfl))))))))))))
theorem sm_157 : (sAd r5 q 157, ent cy (sAd r5 q) sSt 157) ∈ sL cy r5 q := by
  have hz : (fun j => i32 (sSt 157 j)) = fun _ => 0 := funext (fun j => by rw [sSt_z (by decide) j]; rfl)
  rw [ent_1 (n := 160) (by decide +kernel) (by decide +kernel), hz]
  exact List.mem_append_left _ (List.mem_cons_of_mem _ (List.mem_append_left _ (List.mem_append_left _ (List.mem_append_left _ (List.mem_append_left _ (List.mem_append_left _ (List.mem_append_left _ (List.mem_append_left _ (List.mem_append_right _ (List.mem_append_right _ (List.mem_append_right _ (List.mem_of_getElem? (i := 5) rfl))))))))))))
theorem sm_158 : (sAd r5 q 158, ent cy (sAd r5 q) sSt 158) ∈ sL cy r5 q := by
  have hz : (fun j => i32 (sSt 158 j)) = fun _ => 0 := funext (fun j => by rw [sSt_z (by decide) j]; rfl)
  rw [ent_2 (n := 160) (by decide +kernel) (by decide +kernel), hz]
  exact List.mem_append_left _ (List.mem_cons_of_mem _ (List.mem_append_left _ (List.mem_append_left _ (List.mem_append_left _ (List.mem_append_left _ (List.mem_append_left _ (List.mem_append_left _ (List.mem_append_left _ (List.mem_append_right _ (List.mem_append_right _ (List.mem_append_right _ (List.mem_of_getElem? (i := 6) rfl))))))))))))
theorem sm_159 : (sAd r5 q 159, ent cy (sAd r5 q) sSt 159) ∈ sL cy r5 q := by
  have hz : (fun j => i32 (sSt 159 j)) = fun _ => 0 := funext (fun j => by rw [sSt_z (by decide) j]; rfl)
  rw [ent_2 (n := 160) (by decide +kernel) (by decide +kernel), hz]
  exact List.mem_append_left _ (List.mem_cons_of_mem _ (List.mem_append_left _ (List.mem_append_left _ (List.mem_append_left _ (List.mem_append_left _ (List.mem_append_left _ (List.mem_append_left _ (List.mem_append_left _ (List.mem_append_right _ (List.mem_append_right _ (List.mem_append_right _ (List.mem_of_getElem? (i := 7) rfl))))))))))))
theorem sm_160 : (sAd r5 q 160, ent cy (sAd r5 q) sSt 160) ∈ sL cy r5 q := by
  have hz : (fun j => i32 (sSt 160 j)) = fun _ => 0 := funext (fun j => by rw [sSt_z (by decide) j]; rfl)
  rw [ent_1 (n := 161) (by decide +kernel) (by decide +kernel), hz]
  exact List.mem_append_left _ (List.mem_cons_of_mem _ (List.mem_append_left _ (List.mem_append_left _ (List.mem_append_left _ (List.mem_append_left _ (List.mem_append_left _ (List.mem_append_left _ (List.mem_append_left _ (List.mem_append_right _ (List.mem_append_right _ (List.mem_append_right _ (List.mem_of_getElem? (i := 8) rfl))))))))))))
theorem sm_161 : (sAd r5 q 161, ent cy (sAd r5 q) sSt 161) ∈ sL cy r5 q := by
  have hz : (fun j => i32 (sSt 161 j)) = fun j => if j < 161 then i32 (-2) else 0 := funext (fun j => by
    have e : sSt 161 j = if j < 161 then -2 else 0 := rfl
    rw [e]; split <;> rfl)
  rw [ent_1 (n := 161) (by decide +kernel) (by decide +kernel), hz]
  exact List.mem_append_left _ (List.mem_cons_of_mem _ (List.mem_append_left _ (List.mem_append_left _ (List.mem_append_left _ (List.mem_append_left _ (List.mem_append_left _ (List.mem_append_left _ (List.mem_append_left _ (List.mem_append_right _ (List.mem_append_right _ (List.mem_append_right _ (List.mem_of_getElem? (i := 9) rfl))))))))))))
theorem sm_162 : (sAd r5 q 162, ent cy (sAd r5 q) sSt 162) ∈ sL cy r5 q := by
  have hz : (fun j => if j < 4 then some (sAd r5 q (162 + 1 + j)) else none) = fun j => if j < 4 then some (r5 (163 + j)) else none := funext (fun j => by
    by_cases h : j < 4
    · rw [if_pos h, if_pos h]
      rcases (show j = 0 ∨ j = 1 ∨ j = 2 ∨ j = 3 by omega) with rfl | rfl | rfl | rfl <;> rfl
    · rw [if_neg h, if_neg h])
  have hy : (fun j => if j < 4 then some (r5 (163 + j)) else none) = fun j => if j < 4 then some (r5 (140 + (10 + (13 + j)))) else none := funext (fun j => by
    rw [show 163 + j = 140 + (10 + (13 + j)) by omega])
  rw [ent_7 (n := 4) (by decide +kernel) (by decide +kernel), hz, hy]
  exact List.mem_append_left _ (List.mem_cons_of_mem _ (List.mem_append_left _ (List.mem_append_left _ (List.mem_append_left _ (List.mem_append_left _ (List.mem_append_left _ (List.mem_append_left _ (List.mem_append_left _ (List.mem_append_right _ (List.mem_append_right _ (List.mem_append_right _ (List.mem_of_getElem? (i := 10) rfl))))))))))))
theorem sm_163 : (sAd r5 q 163, ent cy (sAd r5 q) sSt 163) ∈ sL cy r5 q := by
  have hz : (fun j => i32 (sSt 163 j)) = fun _ => 0 := funext (fun j => by rw [sSt_z (by decide) j]; rfl)
  rw [ent_1 (n := 161) (by decide +kernel) (by decide +kernel), hz]
  exact List.mem_append_left _ (List.mem_cons_of_mem _ (List.mem_append_left _ (List.mem_append_left _ (List.mem_append_left _ (List.mem_append_left _ (List.mem_append_left _ (List.mem_append_left _ (List.mem_append_left _ (List.mem_append_right _ (List.mem_append_right _ (List.mem_append_right _ (List.mem_of_getElem? (i := 11) rfl))))))))))))
theorem sm_164 : (sAd r5 q 164, ent cy (sAd r5 q) sSt 164) ∈ sL cy r5 q := by
  have hz : (fun j => i32 (sSt 164 j)) = fun _ => 0 := funext (fun j => by rw [sSt_z (by decide) j]; rfl)
  rw [ent_1 (n := 161) (by decide +kernel) (by decide +kernel), hz]
  exact List.mem_append_left _ (List.mem_cons_of_mem _ (List.mem_append_left _ (List.mem_append_left _ (List.mem_append_left _ (List.mem_append_left _ (List.mem_append_left _ (List.mem_append_left _ (List.mem_append_left _ (List.mem_append_right _ (List.mem_append_right _ (List.mem_append_right _ (List.mem_of_getElem? (i := 12) rfl))))))))))))
theorem sm_165 : (sAd r5 q 165, ent cy (sAd r5 q) sSt 165) ∈ sL cy r5 q := by
  have hz : (fun j => i32 (sSt 165 j)) = fun _ => 0 := funext (fun j => by rw [sSt_z (by decide) j]; rfl)
  rw [ent_1 (n := 161) (by decide +kernel) (by decide +kernel), hz]
  exact List.mem_append_left _ (List.mem_cons_of_mem _ (List.mem_append_left _ (List.mem_append_left _ (List.mem_append_left _ (List.mem_append_left _ (List.mem_append_left _ (List.mem_append_left _ (List.mem_append_left _ (List.mem_append_right _ (List.mem_append_right _ (List.mem_append_right _ (List.mem_of_getElem? (i := 13) rfl))))))))))))
theorem sm_166 : (sAd r5 q 166, ent cy (sAd r5 q) sSt 166) ∈ sL cy r5 q := by
  have hz : (fun j => i32 (sSt 166 j)) = fun _ => 0 := funext (fun j => by rw [sSt_z (by decide) j]; rfl)
  rw [ent_1 (n := 161) (by decide +kernel) (by decide +kernel), hz]
  exact List.mem_append_left _ (List.mem_cons_of_mem _ (List.mem_append_left _ (List.mem_append_left _ (List.mem_append_left _ (List.mem_append_left _ (List.mem_append_left _ (List.mem_append_left _ (List.mem_append_left _ (List.mem_append_right _ (List.mem_append_right _ (List.mem_append_right _ (List.mem_of_getElem? (i := 14) rfl))))))))))))
theorem sm_2 : (sAd r5 q 2, ent cy (sAd r5 q) sSt 2) ∈ sL cy r5 q := by
  have hz : (fun j : Nat => if (j : Int) < sSt 2 0 then some (sAd r5 q (300 + 4 * j)) else none) = fun _ => none := funext (fun j => by
    rw [sSt_z (by decide) 0, if_neg (by omega)])
  rw [ent_5 (n := 80) (by decide +kernel) (by decide +kernel), hz]
  exact List.mem_append_left _ (List.mem_cons_of_mem _ (List.mem_append_left _ (List.mem_append_left _ (List.mem_append_left _ (List.mem_append_left _ (List.mem_append_left _ (List.mem_append_left _ (List.mem_append_right _ (List.mem_of_getElem? (i := 0) rfl)))))))))
theorem sm_3 : (sAd r5 q 3, ent cy (sAd r5 q) sSt 3) ∈ sL cy r5 q := by
  have hz : (fun j : Nat => if (j : Int) < sSt 3 0 then some (sAd r5 q (700 + 2 * j)) else none) = fun _ => none := funext (fun j => by
    rw [sSt_z (by decide) 0, if_neg (by omega)])
  rw [ent_6 (n := 10) (by decide +kernel) (by decide +kernel), hz]
  exact List.mem_append_left _ (List.mem_cons_of_mem _ (List.mem_append_left _ (List.mem_append_left _ (List.mem_append_left _ (List.mem_append_left _ (List.mem_append_left _ (List.mem_append_right _ (List.mem_of_getElem? (i := 0) rfl))))))))
theorem sm_180 : (sAd r5 q 180, ent cy (sAd r5 q) sSt 180) ∈ sL cy r5 q := by
  have hz : ent cy (sAd r5 q) sSt 180 = .inr (3, [.ref (r5 8), .ref (r5 182), .int 0, .ref (r5 184), .ref (r5 185), .ref (r5 186), .ref (r5 187), .ref (r5 188), .ref (r5 189), .ref (r5 190), .ref (r5 191), .ref (r5 192)]) := by
    rw [ent_X3 (id := 180) (by decide +kernel), show sSt 180 2 = 0 from rfl]
    rfl
  rw [hz]
  exact List.mem_append_left _ (List.mem_cons_of_mem _ (List.mem_append_left _ (List.mem_append_left _ (List.mem_append_left _ (List.mem_append_left _ (List.mem_append_right _ (List.mem_of_getElem? (i := 0) rfl)))))))
theorem sm_182 : (sAd r5 q 182, ent cy (sAd r5 q) sSt 182) ∈ sL cy r5 q := by
  have hz : (fun j => i32 (sSt 182 j)) = fun _ => 0 := funext (fun j => by rw [sSt_z (by decide) j]; rfl)
  rw [ent_1 (n := 160) (by decide +kernel) (by decide +kernel), hz]
  exact List.mem_append_left _ (List.mem_cons_of_mem _ (List.mem_append_left _ (List.mem_append_left _ (List.mem_append_left _ (List.mem_append_left _ (List.mem_append_right _ (List.mem_of_getElem? (i := 1) rfl)))))))
theorem sm_184 : (sAd r5 q 184, ent cy (sAd r5 q) sSt 184) ∈ sL cy r5 q := by
  have hz : (fun j => i32 (sSt 184 j)) = fun _ => 0 := funext (fun j => by rw [sSt_z (by decide) j]; rfl)
  rw [ent_1 (n := 160) (by decide +kernel) (by decide +kernel), hz]
  exact List.mem_append_left _ (List.mem_cons_of_mem _ (List.mem_append_left _ (List.mem_append_left _ (List.mem_append_left _ (List.mem_append_left _ (List.mem_append_right _ (List.mem_of_getElem? (i := 2) rfl)))))))
theorem sm_185 : (sAd r5 q 185, ent cy (sAd r5 q) sSt 185) ∈ sL cy r5 q := by
  have hz : (fun j => i32 (sSt 185 j)) = fun _ => 0 := funext (fun j => by rw [sSt_z (by decide) j]; rfl)
  rw [ent_2 (n := 160) (by decide +kernel) (by decide +kernel), hz]
  exact List.mem_append_left _ (List.mem_cons_of_mem _ (List.mem_append_left _ (List.mem_append_left _ (List.mem_append_left _ (List.mem_append_left _ (List.mem_append_right _ (List.mem_of_getElem? (i := 3) rfl)))))))
theorem sm_186 : (sAd r5 q 186, ent cy (sAd r5 q) sSt 186) ∈ sL cy r5 q := by
  have hz : (fun j => i32 (sSt 186 j)) = fun _ => 0 := funext (fun j => by rw [sSt_z (by decide) j]; rfl)
  rw [ent_2 (n := 160) (by decide +kernel) (by decide +kernel), hz]
  exact List.mem_append_left _ (List.mem_cons_of_mem _ (List.mem_append_left _ (List.mem_append_left _ (List.mem_append_left _ (List.mem_append_left _ (List.mem_append_right _ (List.mem_of_getElem? (i := 4) rfl)))))))
theorem sm_187 : (sAd r5 q 187, ent cy (sAd r5 q) sSt 187) ∈ sL cy r5 q := by
  have hz : (fun j => i32 (sSt 187 j)) = fun _ => 0 := funext (fun j => by rw [sSt_z (by decide) j]; rfl)
  rw [ent_1 (n := 160) (by decide +kernel) (by decide +kernel), hz]
  exact List.mem_append_left _ (List.mem_cons_of_mem _ (List.mem_append_left _ (List.mem_append_left _ (List.mem_append_left _ (List.mem_append_left _ (List.mem_append_right _ (List.mem_of_getElem? (i := 5) rfl)))))))
theorem sm_188 : (sAd r5 q 188, ent cy (sAd r5 q) sSt 188) ∈ sL cy r5 q := by
  have hz : (fun j => i32 (sSt 188 j)) = fun _ => 0 := funext (fun j => by rw [sSt_z (by decide) j]; rfl)
  rw [ent_2 (n := 160) (by decide +kernel) (by decide +kernel), hz]
  exact List.mem_append_left _ (List.mem_cons_of_mem _ (List.mem_append_left _ (List.mem_append_left _ (List.mem_append_left _ (List.mem_append_left _ (List.mem_append_right _ (List.mem_of_getElem? (i := 6) rfl)))))))
theorem sm_189 : (sAd r5 q 189, ent cy (sAd r5 q) sSt 189) ∈ sL cy r5 q := by
  have hz : (fun j => i32 (sSt 189 j)) = fun _ => 0 := funext (fun j => by rw [sSt_z (by decide) j]; rfl)
  rw [ent_2 (n := 160) (by decide +kernel) (by decide +kernel), hz]
  exact List.mem_append_left _ (List.mem_cons_of_mem _ (List.mem_append_left _ (List.mem_append_left _ (List.mem_append_left _ (List.mem_append_left _ (List.mem_append_right _ (List.mem_of_getElem? (i := 7) rfl)))))))
theorem sm_190 : (sAd r5 q 190, ent cy (sAd r5 q) sSt 190) ∈ sL cy r5 q := by
  have hz : (fun j => i32 (sSt 190 j)) = fun _ => 0 := funext (fun j => by rw [sSt_z (by decide) j]; rfl)
  rw [ent_1 (n := 161) (by decide +kernel) (by decide +kernel), hz]
  exact List.mem_append_left _ (List.mem_cons_of_mem _ (List.mem_append_left _ (List.mem_append_left _ (List.mem_append_left _ (List.mem_append_left _ (List.mem_append_right _ (List.mem_of_getElem? (i := 8) rfl)))))))
theorem sm_191 : (sAd r5 q 191, ent cy (sAd r5 q) sSt 191) ∈ sL cy r5 q := by
  have hz : (fun j => i32 (sSt 191 j)) = fun j => if j < 161 then i32 (-2) else 0 := funext (fun j => by
    have e : sSt 191 j = if j < 161 then -2 else 0 := rfl
    rw [e]; split <;> rfl)
  rw [ent_1 (n := 161) (by decide +kernel) (by decide +kernel), hz]
  exact List.mem_append_left _ (List.mem_cons_of_mem _ (List.mem_append_left _ (List.mem_append_left _ (List.mem_append_left _ (List.mem_append_left _ (List.mem_append_right _ (List.mem_of_getElem? (i := 9) rfl)))))))
theorem sm_192 : (sAd r5 q 192, ent cy (sAd r5 q) sSt 192) ∈ sL cy r5 q := by
  have hz : (fun j => if j < 4 then some (sAd r5 q (192 + 1 + j)) else none) = fun j => if j < 4 then some (r5 (193 + j)) else none := funext (fun j => by
    by_cases h : j < 4
    · rw [if_pos h, if_pos h]
      rcases (show j = 0 ∨ j = 1 ∨ j = 2 ∨ j = 3 by omega) with rfl | rfl | rfl | rfl <;> rfl
    · rw [if_neg h, if_neg h])
  have hy : (fun j => if j < 4 then some (r5 (193 + j)) else none) = fun j => if j < 4 then some (r5 (180 + (13 + j))) else none := funext (fun j => by
    rw [show 193 + j = 180 + (13 + j) by omega])
  rw [ent_7 (n := 4) (by decide +kernel) (by decide +kernel), hz, hy]
  exact List.mem_append_left _ (List.mem_cons_of_mem _ (List.mem_append_left _ (List.mem_append_left _ (List.mem_append_left _ (List.mem_append_left _ (List.mem_append_right _ (List.mem_of_getElem? (i := 10) rfl)))))))
theorem sm_193 : (sAd r5 q 193, ent cy (sAd r5 q) sSt 193) ∈ sL cy r5 q := by
  have hz : (fun j => i32 (sSt 193 j)) = fun _ => 0 := funext (fun j => by rw [sSt_z (by decide) j]; rfl)
  rw [ent_1 (n := 161) (by decide +kernel) (by decide +kernel), hz]
  exact List.mem_append_left _ (List.mem_cons_of_mem _ (List.mem_append_left _ (List.mem_append_left _ (List.mem_append_left _ (List.mem_append_left _ (List.mem_append_right _ (List.mem_of_getElem? (i := 11) rfl)))))))
theorem sm_194 : (sAd r5 q 194, ent cy (sAd r5 q) sSt 194) ∈ sL cy r5 q := by
  have hz : (fun j => i32 (sSt 194 j)) = fun _ => 0 := funext (fun j => by rw [sSt_z (by decide) j]; rfl)
  rw [ent_1 (n := 161) (by decide +kernel) (by decide +kernel), hz]
  exact List.mem_append_left _ (List.mem_cons_of_mem _ (List.mem_append_left _ (List.mem_append_left _ (List.mem_append_left _ (List.mem_append_left _ (List.mem_append_right _ (List.mem_of_getElem? (i := 12) rfl)))))))
theorem sm_195 : (sAd r5 q 195, ent cy (sAd r5 q) sSt 195) ∈ sL cy r5 q := by
  have hz : (fun j => i32 (sSt 195 j)) = fun _ => 0 := funext (fun j => by rw [sSt_z (by decide) j]; rfl)
  rw [ent_1 (n := 161) (by decide +kernel) (by decide +kernel), hz]
  exact List.mem_append_left _ (List.mem_cons_of_mem _ (List.mem_append_left _ (List.mem_append_left _ (List.mem_append_left _ (List.mem_append_left _ (List.mem_append_right _ (List.mem_of_getElem? (i := 13) rfl)))))))
theorem sm_196 : (sAd r5 q 196, ent cy (sAd r5 q) sSt 196) ∈ sL cy r5 q := by
  have hz : (fun j => i32 (sSt 196 j)) = fun _ => 0 := funext (fun j => by rw [sSt_z (by decide) j]; rfl)
  rw [ent_1 (n := 161) (by decide +kernel) (by decide +kernel), hz]
  exact List.mem_append_left _ (List.mem_cons_of_mem _ (List.mem_append_left _ (List.mem_append_left _ (List.mem_append_left _ (List.mem_append_left _ (List.mem_append_right _ (List.mem_of_getElem? (i := 14) rfl)))))))
theorem sm_200 : (sAd r5 q 200, ent cy (sAd r5 q) sSt 200) ∈ sL cy r5 q := by
  have hz : ent cy (sAd r5 q) sSt 200 = .inr (3, [.ref (r5 8), .ref (r5 202), .int 0, .ref (r5 204), .ref (r5 205), .ref (r5 206), .ref (r5 207), .ref (r5 208), .ref (r5 209), .ref (r5 210), .ref (r5 211), .ref (r5 212)]) := by
    rw [ent_X3 (id := 200) (by decide +kernel), show sSt 200 2 = 0 from rfl]
    rfl
  rw [hz]
  exact List.mem_append_left _ (List.mem_cons_of_mem _ (List.mem_append_left _ (List.mem_append_left _ (List.mem_append_left _ (List.mem_append_right _ (List.mem_of_getElem? (i := 0) rfl))))))
theorem sm_202 : (sAd r5 q 202, ent cy (sAd r5 q) sSt 202) ∈ sL cy r5 q := by
  have hz : (fun j => i32 (sSt 202 j)) = fun _ => 0 := funext (fun j => by rw [sSt_z (by decide) j]; rfl)
  rw [ent_1 (n := 160) (by decide +kernel) (by decide +kernel), hz]
  exact List.mem_append_left _ (List.mem_cons_of_mem _ (List.mem_append_left _ (List.mem_append_left _ (List.mem_append_left _ (List.mem_append_right _ (List.mem_of_getElem? (i := 1) rfl))))))
theorem sm_204 : (sAd r5 q 204, ent cy (sAd r5 q) sSt 204) ∈ sL cy r5 q := by
  have hz : (fun j => i32 (sSt 204 j)) = fun _ => 0 := funext (fun j => by rw [sSt_z (by decide) j]; rfl)
  rw [ent_1 (n := 160) (by decide +kernel) (by decide +kernel), hz]
  exact List.mem_append_left _ (List.mem_cons_of_mem _ (List.mem_append_left _ (List.mem_append_left _ (List.mem_append_left _ (List.mem_append_right _ (List.mem_of_getElem? (i := 2) rfl))))))
theorem sm_205 : (sAd r5 q 205, ent cy (sAd r5 q) sSt 205) ∈ sL cy r5 q := by
  have hz : (fun j => i32 (sSt 205 j)) = fun _ => 0 := funext (fun j => by rw [sSt_z (by decide) j]; rfl)
  rw [ent_2 (n := 160) (by decide +kernel) (by decide +kernel), hz]
  exact List.mem_append_left _ (List.mem_cons_of_mem _ (List.mem_append_left _ (List.mem_append_left _ (List.mem_append_left _ (List.mem_append_right _ (List.mem_of_getElem? (i := 3) rfl))))))
theorem sm_206 : (sAd r5 q 206, ent cy (sAd r5 q) sSt 206) ∈ sL cy r5 q := by
  have hz : (fun j => i32 (sSt 206 j)) = fun _ => 0 := funext (fun j => by rw [sSt_z (by decide) j]; rfl)
  rw [ent_2 (n := 160) (by decide +kernel) (by decide +kernel), hz]
  exact List.mem_append_left _ (List.mem_cons_of_mem _ (List.mem_append_left _ (List.mem_append_left _ (List.mem_append_left _ (List.mem_append_right _ (List.mem_of_getElem? (i := 4) rfl))))))
theorem sm_207 : (sAd r5 q 207, ent cy (sAd r5 q) sSt 207) ∈ sL cy r5 q := by
  have hz : (fun j => i32 (sSt 207 j)) = fun _ => 0 := funext (fun j => by rw [sSt_z (by decide) j]; rfl)
  rw [ent_1 (n := 160) (by decide +kernel) (by decide +kernel), hz]
  exact List.mem_append_left _ (List.mem_cons_of_mem _ (List.mem_append_left _ (List.mem_append_left _ (List.mem_append_left _ (List.mem_append_right _ (List.mem_of_getElem? (i := 5) rfl))))))
theorem sm_208 : (sAd r5 q 208, ent cy (sAd r5 q) sSt 208) ∈ sL cy r5 q := by
  have hz : (fun j => i32 (sSt 208 j)) = fun _ => 0 := funext (fun j => by rw [sSt_z (by decide) j]; rfl)
  rw [ent_2 (n := 160) (by decide +kernel) (by decide +kernel), hz]
  exact List.mem_append_left _ (List.mem_cons_of_mem _ (List.mem_append_left _ (List.mem_append_left _ (List.mem_append_left _ (List.mem_append_right _ (List.mem_of_getElem? (i := 6) rfl))))))
theorem sm_209 : (sAd r5 q 209, ent cy (sAd r5 q) sSt 209) ∈ sL cy r5 q := by
  have hz : (fun j => i32 (sSt 209 j)) = fun _ => 0 := funext (fun j => by rw [sSt_z (by decide) j]; rfl)
  rw [ent_2 (n := 160) (by decide +kernel) (by decide +kernel), hz]
  exact List.mem_append_left _ (List.mem_cons_of_mem _ (List.mem_append_left _ (List.mem_append_left _ (List.mem_append_left _ (List.mem_append_right _ (List.mem_of_getElem? (i := 7) rfl))))))
theorem sm_210 : (sAd r5 q 210, ent cy (sAd r5 q) sSt 210) ∈ sL cy r5 q := by
  have hz : (fun j => i32 (sSt 210 j)) = fun _ => 0 := funext (fun j => by rw [sSt_z (by decide) j]; rfl)
  rw [ent_1 (n := 161) (by decide +kernel) (by decide +kernel), hz]
  exact List.mem_append_left _ (List.mem_cons_of_mem _ (List.mem_append_left _ (List.mem_append_left _ (List.mem_append_left _ (List.mem_append_right _ (List.mem_of_getElem? (i := 8) rfl))))))
theorem sm_211 : (sAd r5 q 211, ent cy (sAd r5 q) sSt 211) ∈ sL cy r5 q := by
  have hz : (fun j => i32 (sSt 211 j)) = fun j => if j < 161 then i32 (-2) else 0 := funext (fun j => by
    have e : sSt 211 j = if j < 161 then -2 else 0 := rfl
    rw [e]; split <;> rfl)
  rw [ent_1 (n := 161) (by decide +kernel) (by decide +kernel), hz]
  exact List.mem_append_left _ (List.mem_cons_of_mem _ (List.mem_append_left _ (List.mem_append_left _ (List.mem_append_left _ (List.mem_append_right _ (List.mem_of_getElem? (i := 9) rfl))))))
theorem sm_212 : (sAd r5 q 212, ent cy (sAd r5 q) sSt 212) ∈ sL cy r5 q := by
  have hz : (fun j => if j < 4 then some (sAd r5 q (212 + 1 + j)) else none) = fun j => if j < 4 then some (r5 (213 + j)) else none := funext (fun j => by
    by_cases h : j < 4
    · rw [if_pos h, if_pos h]
      rcases (show j = 0 ∨ j = 1 ∨ j = 2 ∨ j = 3 by omega) with rfl | rfl | rfl | rfl <;> rfl
    · rw [if_neg h, if_neg h])
  have hy : (fun j => if j < 4 then some (r5 (213 + j)) else none) = fun j => if j < 4 then some (r5 (200 + (13 + j))) else none := funext (fun j => by
    rw [show 213 + j = 200 + (13 + j) by omega])
  rw [ent_7 (n := 4) (by decide +kernel) (by decide +kernel), hz, hy]
  exact List.mem_append_left _ (List.mem_cons_of_mem _ (List.mem_append_left _ (List.mem_append_left _ (List.mem_append_left _ (List.mem_append_right _ (List.mem_of_getElem? (i := 10) rfl))))))
theorem sm_213 : (sAd r5 q 213, ent cy (sAd r5 q) sSt 213) ∈ sL cy r5 q := by
  have hz : (fun j => i32 (sSt 213 j)) = fun _ => 0 := funext (fun j => by rw [sSt_z (by decide) j]; rfl)
  rw [ent_1 (n := 161) (by decide +kernel) (by decide +kernel), hz]
  exact List.mem_append_left _ (List.mem_cons_of_mem _ (List.mem_append_left _ (List.mem_append_left _ (List.mem_append_left _ (List.mem_append_right _ (List.mem_of_getElem? (i := 11) rfl))))))
theorem sm_214 : (sAd r5 q 214, ent cy (sAd r5 q) sSt 214) ∈ sL cy r5 q := by
  have hz : (fun j => i32 (sSt 214 j)) = fun _ => 0 := funext (fun j => by rw [sSt_z (by decide) j]; rfl)
  rw [ent_1 (n := 161) (by decide +kernel) (by decide +kernel), hz]
  exact List.mem_append_left _ (List.mem_cons_of_mem _ (List.mem_append_left _ (List.mem_append_left _ (List.mem_append_left _ (List.mem_append_right _ (List.mem_of_getElem? (i := 12) rfl))))))
theorem sm_215 : (sAd r5 q 215, ent cy (sAd r5 q) sSt 215) ∈ sL cy r5 q := by
  have hz : (fun j => i32 (sSt 215 j)) = fun _ => 0 := funext (fun j => by rw [sSt_z (by decide) j]; rfl)
  rw [ent_1 (n := 161) (by decide +kernel) (by decide +kernel), hz]
  exact List.mem_append_left _ (List.mem_cons_of_mem _ (List.mem_append_left _ (List.mem_append_left _ (List.mem_append_left _ (List.mem_append_right _ (List.mem_of_getElem? (i := 13) rfl))))))
theorem sm_216 : (sAd r5 q 216, ent cy (sAd r5 q) sSt 216) ∈ sL cy r5 q := by
  have hz : (fun j => i32 (sSt 216 j)) = fun _ => 0 := funext (fun j => by rw [sSt_z (by decide) j]; rfl)
  rw [ent_1 (n := 161) (by decide +kernel) (by decide +kernel), hz]
  exact List.mem_append_left _ (List.mem_cons_of_mem _ (List.mem_append_left _ (List.mem_append_left _ (List.mem_append_left _ (List.mem_append_right _ (List.mem_of_getElem? (i := 14) rfl))))))
theorem sm_6 : (sAd r5 q 6, ent cy (sAd r5 q) sSt 6) ∈ sL cy r5 q := by
  have hz : ent cy (sAd r5 q) sSt 6 = .inr (0, [.ref (r5 7), .int 0]) := by
    rw [ent_X0 (id := 6) (by decide +kernel), show sSt 6 1 = 0 from rfl]
    rfl
  rw [hz]
  exact List.mem_append_left _ (List.mem_cons_of_mem _ (List.mem_append_left _ (List.mem_append_left _ (List.mem_append_right _ (List.mem_of_getElem? (i := 0) rfl)))))
theorem sm_7 : (sAd r5 q 7, ent cy (sAd r5 q) sSt 7) ∈ sL cy r5 q := by
  have hz : (fun j => i32 (sSt 7 j)) = fun _ => 0 := funext (fun j => by rw [sSt_z (by decide) j]; rfl)
  rw [ent_2 (n := 160) (by decide +kernel) (by decide +kernel), hz]
  exact List.mem_append_left _ (List.mem_cons_of_mem _ (List.mem_append_left _ (List.mem_append_left _ (List.mem_append_right _ (List.mem_of_getElem? (i := 1) rfl)))))
theorem sm_4 : (sAd r5 q 4, ent cy (sAd r5 q) sSt 4) ∈ sL cy r5 q := by
  have hz : (fun j => i32 (sSt 4 j)) = fun _ => 0 := funext (fun j => by rw [sSt_z (by decide) j]; rfl)
  rw [ent_1 (n := 160) (by decide +kernel) (by decide +kernel), hz]
  exact List.mem_append_left _ (List.mem_cons_of_mem _ (List.mem_append_left _ (List.mem_append_right _ (List.mem_of_getElem? (i := 0) rfl))))
theorem sm_5 : (sAd r5 q 5, ent cy (sAd r5 q) sSt 5) ∈ sL cy r5 q := by
  have hz : (fun j => i32 (sSt 5 j)) = fun _ => 0 := funext (fun j => by rw [sSt_z (by decide) j]; rfl)
  rw [ent_1 (n := 160) (by decide +kernel) (by decide +kernel), hz]
  exact List.mem_append_left _ (List.mem_cons_of_mem _ (List.mem_append_right _ (List.mem_of_getElem? (i := 0) rfl)))
theorem sm_290 : (sAd r5 q 290, ent cy (sAd r5 q) sSt 290) ∈ sL cy r5 q := by
  have hz : (fun j => i32 (sSt 290 j)) = fun _ => 0 := funext (fun j => by rw [sSt_z (by decide) j]; rfl)
  rw [ent_1 (n := 4) (by decide +kernel) (by decide +kernel), hz]
  exact List.mem_append_right _ (List.mem_of_getElem? (i := 0) rfl)
theorem sm_all : ∀ id ∈ idl0, (sAd r5 q id, ent cy (sAd r5 q) sSt id) ∈ sL cy r5 q := by
  intro id h
  have h := sI_perm.mem_iff.mp h
  unfold sI at h
  simp only [List.mem_cons, List.mem_append, List.not_mem_nil, or_false, false_or, or_assoc] at h
  rcases h with rfl | rfl | rfl | rfl | rfl | rfl | rfl | rfl | rfl | rfl | rfl | rfl | rfl | rfl | rfl | rfl | rfl | rfl | rfl | rfl | rfl | rfl | rfl | rfl | rfl | rfl | rfl | rfl | rfl | rfl | rfl | rfl | rfl | rfl | rfl | rfl | rfl | rfl | rfl | rfl | rfl | rfl | rfl | rfl | rfl | rfl | rfl | rfl | rfl | rfl | rfl | rfl | rfl | rfl | rfl | rfl | rfl | rfl | rfl | rfl | rfl | rfl | rfl | rfl | rfl | rfl | rfl | rfl | rfl | rfl | rfl | rfl | rfl | rfl | rfl | rfl | rfl | rfl | rfl | rfl | rfl | rfl | rfl | rfl | rfl | rfl | rfl | rfl | rfl | rfl | rfl | rfl | rfl | rfl | rfl | rfl | rfl | rfl | rfl | rfl | rfl | rfl | rfl | rfl | rfl | rfl | rfl | rfl | rfl | rfl | rfl | rfl | rfl | rfl | rfl | rfl | rfl | rfl | rfl | rfl | rfl | rfl | rfl | rfl | rfl | rfl | rfl | rfl
  · exact sm_0
  · exact sm_8
  · exact sm_9
  · exact sm_10
  · exact sm_11
  · exact sm_12
  · exact sm_13
  · exact sm_14
  · exact sm_15
  · exact sm_16
  · exact sm_1
  · exact sm_20
  · exact sm_21
  · exact sm_22
  · exact sm_23
  · exact sm_24
  · exact sm_30
  · exact sm_32
  · exact sm_34
  · exact sm_35
  · exact sm_36
  · exact sm_37
  · exact sm_38
  · exact sm_39
  · exact sm_40
  · exact sm_41
  · exact sm_42
  · exact sm_43
  · exact sm_44
  · exact sm_45
  · exact sm_46
  · exact sm_60
  · exact sm_61
  · exact sm_62
  · exact sm_63
  · exact sm_64
  · exact sm_70
  · exact sm_72
  · exact sm_74
  · exact sm_75
  · exact sm_76
  · exact sm_77
  · exact sm_78
  · exact sm_79
  · exact sm_80
  · exact sm_81
  · exact sm_82
  · exact sm_83
  · exact sm_84
  · exact sm_85
  · exact sm_86
  · exact sm_100
  · exact sm_101
  · exact sm_102
  · exact sm_103
  · exact sm_104
  · exact sm_110
  · exact sm_112
  · exact sm_114
  · exact sm_115
  · exact sm_116
  · exact sm_117
  · exact sm_118
  · exact sm_119
  · exact sm_120
  · exact sm_121
  · exact sm_122
  · exact sm_123
  · exact sm_124
  · exact sm_125
  · exact sm_126
  · exact sm_140
  · exact sm_141
  · exact sm_142
  · exact sm_143
  · exact sm_144
  · exact sm_150
  · exact sm_152
  · exact sm_154
  · exact sm_155
  · exact sm_156
  · exact sm_157
  · exact sm_158
  · exact sm_159
  · exact sm_160
  · exact sm_161
  · exact sm_162
  · exact sm_163
  · exact sm_164
  · exact sm_165
  · exact sm_166
  · exact sm_2
  · exact sm_3
  · exact sm_180
  · exact sm_182
  · exact sm_184
  · exact sm_185
  · exact sm_186
  · exact sm_187
  · exact sm_188
  · exact sm_189
  · exact sm_190
  · exact sm_191
  · exact sm_192
  · exact sm_193
  · exact sm_194
  · exact sm_195
  · exact sm_196
  · exact sm_200
  · exact sm_202
  · exact sm_204
  · exact sm_205
  · exact sm_206
  · exact sm_207
  · exact sm_208
  · exact sm_209
  · exact sm_210
  · exact sm_211
  · exact sm_212
  · exact sm_213
  · exact sm_214
  · exact sm_215
  · exact sm_216
  · exact sm_6
  · exact sm_7
  · exact sm_4
  · exact sm_5
  · exact sm_290
end
theorem idl00 : idl 0 0 = idl0 := by unfold idl; simp
theorem start_P {D : va_G} {cy : Nat → ClassId} {r5 : Nat → Nat} {q : Nat} {H : Heap} (hP : va_P D vwCl (sL cy r5 q) H) : Wd D cy (sAd r5 q) 0 0 sSt H := by
  refine ⟨re_P (fun z hz => ?_) hP, fun a b => ?_, by decide, by decide⟩
  · obtain ⟨id, hid, rfl⟩ := wl_mem.mp hz
    rw [idl00] at hid
    exact sm_all id hid
  · unfold sSt
    repeat' split
    all_goals decide
theorem start_D {A : Nat → Prop} {cy : Nat → ClassId} {r5 : Nat → Nat} {q : Nat} (hD : va_D A (sL cy r5 q)) : Dd A (sAd r5 q) 0 0 := by
  refine Dd.of (cy := cy) (σ := sSt) (re_D ?_ (fun z hz => ?_) hD)
  · rw [wl_fst, idl00, sL_fst]
    exact sI_perm.map _
  · obtain ⟨id, hid, rfl⟩ := wl_mem.mp hz
    rw [idl00] at hid
    exact sm_all id hid
