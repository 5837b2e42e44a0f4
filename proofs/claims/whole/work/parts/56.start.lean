/-! ===== what the constructors leave, as the world at its start ===== -/
def sAd (r5 r6 : Nat → Nat) (q : Nat) : Nat → Nat := fun x => if x < 230 then r5 x else if x < 290 then r6 (x - 230) else q
def sSt : St := fun a b => if a = 41 ∨ a = 81 ∨ a = 121 ∨ a = 161 ∨ a = 191 ∨ a = 211 then (if b < 161 then -2 else 0) else if a = 248 ∨ a = 249 then (if b < 4 then -1 else 0) else if a = 20 ∨ a = 60 ∨ a = 100 ∨ a = 140 then (if b = 0 then (if a = 60 then 1 else if a = 100 then 2 else if a = 140 then 3 else 0) else if b = 5 then 1 else if b = 8 ∨ b = 9 then -1 else 0) else 0
def sL (cy : Nat → ClassId) (r5 r6 : Nat → Nat) (q : Nat) : va_W := (gX5 cy r5 ++ gX6 cy r6) ++ [(q, .inl (cy 3, 1, .inr (.inl (fun _ => 0))))]
def sI : List Nat := [0, 8, 9, 10, 11, 12, 13, 14, 15, 16, 1, 20, 21, 22, 23, 24, 30, 32, 34, 35, 36, 37, 38, 39, 40, 41, 42, 43, 44, 45, 46, 60, 61, 62, 63, 64, 70, 72, 74, 75, 76, 77, 78, 79, 80, 81, 82, 83, 84, 85, 86, 100, 101, 102, 103, 104, 110, 112, 114, 115, 116, 117, 118, 119, 120, 121, 122, 123, 124, 125, 126, 140, 141, 142, 143, 144, 150, 152, 154, 155, 156, 157, 158, 159, 160, 161, 162, 163, 164, 165, 166, 2, 3, 180, 182, 184, 185, 186, 187, 188, 189, 190, 191, 192, 193, 194, 195, 196, 200, 202, 204, 205, 206, 207, 208, 209, 210, 211, 212, 213, 214, 215, 216, 6, 7, 4, 5, 230, 233, 234, 235, 236, 237, 238, 239, 240, 242, 243, 244, 245, 246, 247, 248, 249, 250, 251, 253, 254, 255, 256, 258, 259, 261, 262, 264, 265, 266, 267, 268, 269, 270, 271, 272, 273, 274, 275, 290]
theorem sI_perm : idl0.Perm sI := by decide +kernel
theorem sSt_z {a : Nat} (h : (decide (a ∈ [41, 81, 121, 161, 191, 211, 248, 249, 20, 60, 100, 140])) = false) : ∀ j, sSt a j = 0 := by
  have h := of_decide_eq_false h
  simp only [List.mem_cons, List.not_mem_nil, or_false, not_or] at h
  intro j
  unfold sSt
  rw [if_neg (by omega), if_neg (by omega), if_neg (by omega)]
theorem i32_z : i32 0 = 0 := rfl
section
variable {cy : Nat → ClassId} {r5 r6 : Nat → Nat} {q : Nat}
theorem sL_fst : (sL cy r5 r6 q).map Prod.fst = sI.map (sAd r5 r6 q) := rfl
theorem sm_0 : (sAd r5 r6 q 0, ent cy (sAd r5 r6 q) sSt 0) ∈ sL cy r5 r6 q := by
  have hz : ent cy (sAd r5 r6 q) sSt 0 = .inr (5, [.ref (r5 8), .ref (r5 1), .ref (r5 2), .ref (r5 3), .ref (r5 180), .ref (r5 200), .ref (r5 6), .ref (r5 4), .ref (r5 5), .int 0, .int 0]) := by
    rw [ent_X5 (id := 0) (by decide +kernel), show sSt 0 9 = 0 from rfl, show sSt 0 10 = 0 from rfl]
    rfl
  rw [hz]
  exact List.mem_of_getElem? (i := 0) rfl
theorem sm_8 : (sAd r5 r6 q 8, ent cy (sAd r5 r6 q) sSt 8) ∈ sL cy r5 r6 q := by
  have hz : ent cy (sAd r5 r6 q) sSt 8 = .inr (1, [.ref (r5 9), .ref (r5 10), .ref (r5 11), .ref (r5 12), .ref (r5 13), .ref (r5 14), .ref (r5 15), .ref (r5 16), .int 0, .int 0]) := by
    rw [ent_X1 (id := 8) (by decide +kernel), show sSt 8 8 = 0 from rfl, show sSt 8 9 = 0 from rfl]
    rfl
  rw [hz]
  exact List.mem_of_getElem? (i := 1) rfl
theorem sm_9 : (sAd r5 r6 q 9, ent cy (sAd r5 r6 q) sSt 9) ∈ sL cy r5 r6 q := by
  have hz : (fun j => i32 (sSt 9 j)) = fun _ => 0 := funext (fun j => by rw [sSt_z (by decide) j]; rfl)
  rw [ent_1 (n := 160) (by decide +kernel) (by decide +kernel), hz]
  exact List.mem_of_getElem? (i := 2) rfl
theorem sm_10 : (sAd r5 r6 q 10, ent cy (sAd r5 r6 q) sSt 10) ∈ sL cy r5 r6 q := by
  have hz : (fun j => i32 (sSt 10 j)) = fun _ => 0 := funext (fun j => by rw [sSt_z (by decide) j]; rfl)
  rw [ent_1 (n := 160) (by decide +kernel) (by decide +kernel), hz]
  exact List.mem_of_getElem? (i := 3) rfl
theorem sm_11 : (sAd r5 r6 q 11, ent cy (sAd r5 r6 q) sSt 11) ∈ sL cy r5 r6 q := by
  have hz : (fun j => i32 (sSt 11 j)) = fun _ => 0 := funext (fun j => by rw [sSt_z (by decide) j]; rfl)
  rw [ent_1 (n := 160) (by decide +kernel) (by decide +kernel), hz]
  exact List.mem_of_getElem? (i := 4) rfl
theorem sm_12 : (sAd r5 r6 q 12, ent cy (sAd r5 r6 q) sSt 12) ∈ sL cy r5 r6 q := by
  have hz : (fun j => i32 (sSt 12 j)) = fun _ => 0 := funext (fun j => by rw [sSt_z (by decide) j]; rfl)
  rw [ent_1 (n := 160) (by decide +kernel) (by decide +kernel), hz]
  exact List.mem_of_getElem? (i := 5) rfl
theorem sm_13 : (sAd r5 r6 q 13, ent cy (sAd r5 r6 q) sSt 13) ∈ sL cy r5 r6 q := by
  have hz : (fun j => i32 (sSt 13 j)) = fun _ => 0 := funext (fun j => by rw [sSt_z (by decide) j]; rfl)
  rw [ent_1 (n := 160) (by decide +kernel) (by decide +kernel), hz]
  exact List.mem_of_getElem? (i := 6) rfl
theorem sm_14 : (sAd r5 r6 q 14, ent cy (sAd r5 r6 q) sSt 14) ∈ sL cy r5 r6 q := by
  have hz : (fun j => i32 (sSt 14 j)) = fun _ => 0 := funext (fun j => by rw [sSt_z (by decide) j]; rfl)
  rw [ent_1 (n := 160) (by decide +kernel) (by decide +kernel), hz]
  exact List.mem_of_getElem? (i := 7) rfl
theorem sm_15 : (sAd r5 r6 q 15, ent cy (sAd r5 r6 q) sSt 15) ∈ sL cy r5 r6 q := by
  have hz : (fun j => i32 (sSt 15 j)) = fun _ => 0 := funext (fun j => by rw [sSt_z (by decide) j]; rfl)
  rw [ent_2 (n := 160) (by decide +kernel) (by decide +kernel), hz]
  exact List.mem_of_getElem? (i := 8) rfl
theorem sm_16 : (sAd r5 r6 q 16, ent cy (sAd r5 r6 q) sSt 16) ∈ sL cy r5 r6 q := by
  have hz : (fun j => i32 (sSt 16 j)) = fun _ => 0 := funext (fun j => by rw [sSt_z (by decide) j]; rfl)
  rw [ent_1 (n := 160) (by decide +kernel) (by decide +kernel), hz]
  exact List.mem_of_getElem? (i := 9) rfl
theorem sm_1 : (sAd r5 r6 q 1, ent cy (sAd r5 r6 q) sSt 1) ∈ sL cy r5 r6 q := by
  have hz : (fun j => if j < 4 then some (sAd r5 r6 q (20 + 40 * j)) else none) = va_up (va_up (va_up (va_up (fun _ => none) 0 (some (r5 20))) 1 (some (r5 60))) 2 (some (r5 100))) 3 (some (r5 140)) := funext (fun j => by
    unfold va_up
    by_cases h : j < 4
    · rw [if_pos h]
      rcases (show j = 0 ∨ j = 1 ∨ j = 2 ∨ j = 3 by omega) with rfl | rfl | rfl | rfl <;> rfl
    · rw [if_neg h, if_neg (by omega), if_neg (by omega), if_neg (by omega), if_neg (by omega)])
  rw [ent_4 (n := 4) (by decide +kernel) (by decide +kernel), hz]
  exact List.mem_of_getElem? (i := 10) rfl
theorem sm_20 : (sAd r5 r6 q 20, ent cy (sAd r5 r6 q) sSt 20) ∈ sL cy r5 r6 q := by
  have hz : ent cy (sAd r5 r6 q) sSt 20 = .inr (4, [.int (i32 0), .ref (r5 21), .ref (r5 23), .ref (r5 24), .ref (r5 30), .int (i32 1), .int 0, .int 0, .int (i32 (-1)), .int (i32 (-1))]) := by
    rw [ent_X4 (id := 20) (by decide +kernel), show sSt 20 0 = 0 from rfl, show sSt 20 5 = 1 from rfl, show sSt 20 6 = 0 from rfl, show sSt 20 7 = 0 from rfl, show sSt 20 8 = (-1) from rfl, show sSt 20 9 = (-1) from rfl]
    rfl
  rw [hz]
  exact List.mem_of_getElem? (i := 11) rfl
theorem sm_21 : (sAd r5 r6 q 21, ent cy (sAd r5 r6 q) sSt 21) ∈ sL cy r5 r6 q := by
  have hz : ent cy (sAd r5 r6 q) sSt 21 = .inr (0, [.ref (r5 22), .int 0]) := by
    rw [ent_X0 (id := 21) (by decide +kernel), show sSt 21 1 = 0 from rfl]
    rfl
  rw [hz]
  exact List.mem_of_getElem? (i := 12) rfl
theorem sm_22 : (sAd r5 r6 q 22, ent cy (sAd r5 r6 q) sSt 22) ∈ sL cy r5 r6 q := by
  have hz : (fun j => i32 (sSt 22 j)) = fun _ => 0 := funext (fun j => by rw [sSt_z (by decide) j]; rfl)
  rw [ent_2 (n := 160) (by decide +kernel) (by decide +kernel), hz]
  exact List.mem_of_getElem? (i := 13) rfl
theorem sm_23 : (sAd r5 r6 q 23, ent cy (sAd r5 r6 q) sSt 23) ∈ sL cy r5 r6 q := by
  have hz : (fun j => i32 (sSt 23 j)) = fun _ => 0 := funext (fun j => by rw [sSt_z (by decide) j]; rfl)
  rw [ent_1 (n := 160) (by decide +kernel) (by decide +kernel), hz]
  exact List.mem_of_getElem? (i := 14) rfl
end
