theorem hdn_X5_init : yX5_init.cls ≠ "java/lang/invoke/MethodHandle" ∧ yX5_init.cls ≠ "java/lang/invoke/VarHandle" ∧ (parseMethodDescriptor yX5_init.desc).map (fun d => d.parameters.length) = some 0 := by decide +kernel
theorem hdn_X6_init : yX6_init.cls ≠ "java/lang/invoke/MethodHandle" ∧ yX6_init.cls ≠ "java/lang/invoke/VarHandle" ∧ (parseMethodDescriptor yX6_init.desc).map (fun d => d.parameters.length) = some 0 := by decide +kernel
/-! ===== the law as a whole: its start, its loop ===== -/
def So_type (I : Nat → Nat → St → Prop) : Prop := ∀ (nm nv : Nat) (σ : St) (y1 y2 y3 : Int), I nm nv σ → (∀ a b, inR (σ a b)) → inR y1 → inR y2 → inR y3 → ∃ (n : Nat) (k v : Int) (σ1 σ2 : St), (fL_type n σ y1 (y2 % 65536) = some (k, σ1)) ∧ (fX6_type n σ1 y1 (y2 % 65536) = some (v, σ2)) ∧ (fX6_thrown σ2 = some k) ∧ (k = 0 → (σ2 290 0) = v) ∧ I nm nv σ2
def So_split (I : Nat → Nat → St → Prop) : Prop := ∀ (nm nv : Nat) (σ : St) (y1 y2 y3 : Int), I nm nv σ → (∀ a b, inR (σ a b)) → inR y1 → inR y2 → inR y3 → ∃ (n : Nat) (k v : Int) (σ1 σ2 : St), (fL_split n σ y1 = some (k, σ1)) ∧ (fX6_split n σ1 y1 = some (v, σ2)) ∧ (fX6_thrown σ2 = some k) ∧ (k = 0 → (σ2 290 0) = v) ∧ I nm nv σ2
def So_erase (I : Nat → Nat → St → Prop) : Prop := ∀ (nm nv : Nat) (σ : St) (y1 y2 y3 : Int), I nm nv σ → (∀ a b, inR (σ a b)) → inR y1 → inR y2 → inR y3 → ∃ (n : Nat) (k v : Int) (σ1 σ2 : St), (fL_erase n σ y1 = some (k, σ1)) ∧ (fX6_erase n σ1 y1 = some (v, σ2)) ∧ (fX6_thrown σ2 = some k) ∧ (k = 0 → (σ2 290 0) = v) ∧ I nm nv σ2
def So_moveTo (I : Nat → Nat → St → Prop) : Prop := ∀ (nm nv : Nat) (σ : St) (y1 y2 y3 : Int), I nm nv σ → (∀ a b, inR (σ a b)) → inR y1 → inR y2 → inR y3 → ∃ (n : Nat) (k v : Int) (σ1 σ2 : St), (fL_moveTo n σ y1 y2 = some (k, σ1)) ∧ (fX6_moveTo n σ1 y1 y2 = some (v, σ2)) ∧ (fX6_thrown σ2 = some k) ∧ (k = 0 → (σ2 290 0) = v) ∧ I nm nv σ2
def So_extend (I : Nat → Nat → St → Prop) : Prop := ∀ (nm nv : Nat) (σ : St) (y1 y2 y3 : Int), I nm nv σ → (∀ a b, inR (σ a b)) → inR y1 → inR y2 → inR y3 → ∃ (n : Nat) (k v : Int) (σ1 σ2 : St), (fL_extend n σ y1 y2 = some (k, σ1)) ∧ (fX6_extend n σ1 y1 y2 = some (v, σ2)) ∧ (fX6_thrown σ2 = some k) ∧ (k = 0 → (σ2 290 0) = v) ∧ I nm nv σ2
def So_mark (I : Nat → Nat → St → Prop) : Prop := ∀ (nm nv : Nat) (σ : St) (y1 y2 y3 : Int), I nm nv σ → (∀ a b, inR (σ a b)) → inR y1 → inR y2 → inR y3 → ∃ (n : Nat) (k v : Int) (σ1 σ2 : St), (fL_mark n σ y1 y2 (nz y3) = some (k, σ1)) ∧ (fX6_mark n σ1 y1 y2 (nz y3) = some (v, σ2)) ∧ (fX6_thrown σ2 = some k) ∧ (k = 0 → (σ2 290 0) = v) ∧ I nm nv σ2
def So_comment (I : Nat → Nat → St → Prop) : Prop := ∀ (nm nv : Nat) (σ : St) (y1 y2 y3 : Int), I nm nv σ → (∀ a b, inR (σ a b)) → inR y1 → inR y2 → inR y3 → ∃ (n : Nat) (k v : Int) (σ1 σ2 : St), (fL_comment n σ y1 = some (k, σ1)) ∧ (fX6_comment n σ1 y1 = some (v, σ2)) ∧ (fX6_thrown σ2 = some k) ∧ (k = 0 → (σ2 290 0) = v) ∧ I nm nv σ2
def So_setKind (I : Nat → Nat → St → Prop) : Prop := ∀ (nm nv : Nat) (σ : St) (y1 y2 y3 : Int), I nm nv σ → (∀ a b, inR (σ a b)) → inR y1 → inR y2 → inR y3 → ∃ (n : Nat) (k v : Int) (σ1 σ2 : St), (fL_setKind n σ y1 y2 y3 = some (k, σ1)) ∧ (fX6_setKind n σ1 y1 y2 y3 = some (v, σ2)) ∧ (fX6_thrown σ2 = some k) ∧ (k = 0 → (σ2 290 0) = v) ∧ I nm nv σ2
def So_nest (I : Nat → Nat → St → Prop) : Prop := ∀ (nm nv : Nat) (σ : St) (y1 y2 y3 : Int), I nm nv σ → (∀ a b, inR (σ a b)) → inR y1 → inR y2 → inR y3 → ∃ (n : Nat) (k v : Int) (σ1 σ2 : St), (fL_nest n σ y1 y2 y3 = some (k, σ1)) ∧ (fX6_nest n σ1 y1 y2 y3 = some (v, σ2)) ∧ (fX6_thrown σ2 = some k) ∧ (k = 0 → (σ2 290 0) = v) ∧ I nm nv σ2
def So_propose (I : Nat → Nat → St → Prop) : Prop := ∀ (nm nv : Nat) (σ : St) (y1 y2 y3 : Int), I nm nv σ → (∀ a b, inR (σ a b)) → inR y1 → inR y2 → inR y3 → ∃ (k v : Int) (σ1 σ2 : St), (fL_propose σ y1 (nz y2) = some (k, σ1)) ∧ (fX6_propose σ1 y1 (nz y2) = some (v, σ2)) ∧ (fX6_thrown σ2 = some k) ∧ (k = 0 → (σ2 290 0) = (nz v)) ∧ I nm nv σ2
def So_decide (I : Nat → Nat → St → Prop) : Prop := ∀ (nm nv : Nat) (σ : St) (y1 y2 y3 : Int), I nm nv σ → (∀ a b, inR (σ a b)) → inR y1 → inR y2 → inR y3 → ∃ (n : Nat) (k v : Int) (σ1 σ2 : St), (fL_decide n σ y1 y2 (nz y3) = some (k, σ1)) ∧ (fX6_decide n σ1 y1 y2 (nz y3) = some (v, σ2)) ∧ (fX6_thrown σ2 = some k) ∧ (k = 0 → (σ2 290 0) = v) ∧ I nm nv σ2
def So_allow (I : Nat → Nat → St → Prop) : Prop := ∀ (nm nv : Nat) (σ : St) (y1 y2 y3 : Int), I nm nv σ → (∀ a b, inR (σ a b)) → inR y1 → inR y2 → inR y3 → ∃ (n : Nat) (k v : Int) (σ1 σ2 : St), (fL_allow n σ y1 y2 y3 = some (k, σ1)) ∧ (fX6_allow n σ1 y1 y2 y3 = some (v, σ2)) ∧ (fX6_thrown σ2 = some k) ∧ (k = 0 → (σ2 290 0) = v) ∧ I nm nv σ2
def So_undo (I : Nat → Nat → St → Prop) : Prop := ∀ (nm nv : Nat) (σ : St) (y1 y2 y3 : Int), I nm nv σ → (∀ a b, inR (σ a b)) → inR y1 → inR y2 → inR y3 → ∃ (n : Nat) (k v : Int) (σ1 σ2 : St), (fL_undo n σ y1 = some (k, σ1)) ∧ (fX6_undo n σ1 y1 = some (v, σ2)) ∧ (fX6_thrown σ2 = some k) ∧ (k = 0 → (σ2 290 0) = v) ∧ I nm nv σ2
def So_redo (I : Nat → Nat → St → Prop) : Prop := ∀ (nm nv : Nat) (σ : St) (y1 y2 y3 : Int), I nm nv σ → (∀ a b, inR (σ a b)) → inR y1 → inR y2 → inR y3 → ∃ (n : Nat) (k v : Int) (σ1 σ2 : St), (fL_redo n σ y1 = some (k, σ1)) ∧ (fX6_redo n σ1 y1 = some (v, σ2)) ∧ (fX6_thrown σ2 = some k) ∧ (k = 0 → (σ2 290 0) = v) ∧ I nm nv σ2
def So_send (I : Nat → Nat → St → Prop) : Prop := ∀ (nm nv : Nat) (σ : St) (y1 y2 y3 : Int), I nm nv σ → (∀ a b, inR (σ a b)) → inR y1 → inR y2 → inR y3 → ∃ (n : Nat) (k v : Int) (σ1 σ2 : St), (fL_send n nm nv σ y1 y2 = some (k, σ1)) ∧ (fX6_send n σ1 y1 y2 = some (v, σ2)) ∧ (fX6_thrown σ2 = some k) ∧ (k = 0 → (σ2 290 0) = v) ∧ I (if k = 0 then nm + 1 else nm) nv σ2
def So_deliver (I : Nat → Nat → St → Prop) : Prop := ∀ (nm nv : Nat) (σ : St) (y1 y2 y3 : Int), I nm nv σ → (∀ a b, inR (σ a b)) → inR y1 → inR y2 → inR y3 → ∃ (n : Nat) (k v : Int) (σ1 σ2 : St), (fL_deliver n σ y1 = some (k, σ1)) ∧ (fX6_deliver n σ1 y1 = some (v, σ2)) ∧ (fX6_thrown σ2 = some k) ∧ (k = 0 → (σ2 290 0) = v) ∧ I nm nv σ2
def So_save (I : Nat → Nat → St → Prop) : Prop := ∀ (nm nv : Nat) (σ : St) (y1 y2 y3 : Int), I nm nv σ → (∀ a b, inR (σ a b)) → inR y1 → inR y2 → inR y3 → ∃ (k v : Int) (σ1 σ2 : St), (fL_save σ y1 = some (k, σ1)) ∧ (fX6_save σ1 y1 = some (v, σ2)) ∧ (fX6_thrown σ2 = some k) ∧ (k = 0 → (σ2 290 0) = v) ∧ I nm nv σ2
def So_crash (I : Nat → Nat → St → Prop) : Prop := ∀ (nm nv : Nat) (σ : St) (y1 y2 y3 : Int), I nm nv σ → (∀ a b, inR (σ a b)) → inR y1 → inR y2 → inR y3 → ∃ (n : Nat) (k v : Int) (σ1 σ2 : St), (fL_crash n σ y1 y2 = some (k, σ1)) ∧ (fX6_crash n σ1 y1 y2 = some (v, σ2)) ∧ (fX6_thrown σ2 = some k) ∧ (k = 0 → (σ2 290 0) = v) ∧ I nm nv σ2
def So_name (I : Nat → Nat → St → Prop) : Prop := ∀ (nm nv : Nat) (σ : St) (y1 y2 y3 : Int), I nm nv σ → (∀ a b, inR (σ a b)) → inR y1 → inR y2 → inR y3 → ∃ (n : Nat) (k v : Int) (σ1 σ2 : St), (fL_name n nm nv σ y1 = some (k, σ1)) ∧ (fX6_name n σ1 y1 = some (v, σ2)) ∧ (fX6_thrown σ2 = some k) ∧ (k = 0 → (σ2 290 0) = v) ∧ I nm (if k = 0 then nv + 1 else nv) σ2
def So_bringBack (I : Nat → Nat → St → Prop) : Prop := ∀ (nm nv : Nat) (σ : St) (y1 y2 y3 : Int), I nm nv σ → (∀ a b, inR (σ a b)) → inR y1 → inR y2 → inR y3 → ∃ (n : Nat) (k v : Int) (σ1 σ2 : St), (fL_bringBack n σ y1 y2 = some (k, σ1)) ∧ (fX6_bringBack n σ1 y1 y2 = some (v, σ2)) ∧ (fX6_thrown σ2 = some k) ∧ (k = 0 → (σ2 290 0) = v) ∧ I nm nv σ2
def So_differ (I : Nat → Nat → St → Prop) : Prop := ∀ (nm nv : Nat) (σ : St) (y1 y2 y3 : Int), I nm nv σ → (∀ a b, inR (σ a b)) → inR y1 → inR y2 → inR y3 → ∃ (n : Nat) (k v : Int) (σ1 σ2 : St), (fL_differ n σ y1 y2 = some (k, σ1)) ∧ (fX6_differ n σ1 y1 y2 = some (v, σ2)) ∧ (fX6_thrown σ2 = some k) ∧ (k = 0 → (σ2 290 0) = v) ∧ I nm nv σ2
def So_length (I : Nat → Nat → St → Prop) : Prop := ∀ (nm nv : Nat) (σ : St) (y1 y2 y3 : Int), I nm nv σ → (∀ a b, inR (σ a b)) → inR y1 → inR y2 → inR y3 → ∃ (n : Nat) (k v : Int) (σ1 σ2 : St), (fL_length n σ y1 = some (k, σ1)) ∧ (fX6_length n σ1 y1 = some (v, σ2)) ∧ (fX6_thrown σ2 = some k) ∧ (k = 0 → (σ2 290 0) = v) ∧ I nm nv σ2
def So_shown (I : Nat → Nat → St → Prop) : Prop := ∀ (nm nv : Nat) (σ : St) (y1 y2 y3 : Int), I nm nv σ → (∀ a b, inR (σ a b)) → inR y1 → inR y2 → inR y3 → ∃ (n : Nat) (k v : Int) (σ1 σ2 : St), (fL_shown n σ y1 = some (k, σ1)) ∧ (fX6_shown n σ1 y1 = some (v, σ2)) ∧ (fX6_thrown σ2 = some k) ∧ (k = 0 → (σ2 290 0) = v) ∧ I nm nv σ2
def So_element (I : Nat → Nat → St → Prop) : Prop := ∀ (nm nv : Nat) (σ : St) (y1 y2 y3 : Int), I nm nv σ → (∀ a b, inR (σ a b)) → inR y1 → inR y2 → inR y3 → ∃ (n : Nat) (k v : Int) (σ1 σ2 : St), (fL_element n σ y1 y2 = some (k, σ1)) ∧ (fX6_element n σ1 y1 y2 = some (v, σ2)) ∧ (fX6_thrown σ2 = some k) ∧ (k = 0 → (σ2 290 0) = v) ∧ I nm nv σ2
def So_elementAnew (I : Nat → Nat → St → Prop) : Prop := ∀ (nm nv : Nat) (σ : St) (y1 y2 y3 : Int), I nm nv σ → (∀ a b, inR (σ a b)) → inR y1 → inR y2 → inR y3 → ∃ (n : Nat) (k v : Int) (σ1 σ2 : St), (fL_elementAnew n σ y1 y2 = some (k, σ1)) ∧ (fX6_elementAnew n σ1 y1 y2 = some (v, σ2)) ∧ (fX6_thrown σ2 = some k) ∧ (k = 0 → (σ2 290 0) = v) ∧ I nm nv σ2
def So_letter (I : Nat → Nat → St → Prop) : Prop := ∀ (nm nv : Nat) (σ : St) (y1 y2 y3 : Int), I nm nv σ → (∀ a b, inR (σ a b)) → inR y1 → inR y2 → inR y3 → ∃ (n : Nat) (k v : Int) (σ1 σ2 : St), (fL_letter n σ y1 y2 = some (k, σ1)) ∧ (fX6_letter n σ1 y1 y2 = some (v, σ2)) ∧ (fX6_thrown σ2 = some k) ∧ (k = 0 → (σ2 290 0) = v) ∧ I nm nv σ2
def So_proposed (I : Nat → Nat → St → Prop) : Prop := ∀ (nm nv : Nat) (σ : St) (y1 y2 y3 : Int), I nm nv σ → (∀ a b, inR (σ a b)) → inR y1 → inR y2 → inR y3 → ∃ (n : Nat) (k v : Int) (σ1 σ2 : St), (fL_proposed n σ y1 y2 = some (k, σ1)) ∧ (fX6_proposed n σ1 y1 y2 = some (v, σ2)) ∧ (fX6_thrown σ2 = some k) ∧ (k = 0 → (σ2 290 0) = v) ∧ I nm nv σ2
def So_open (I : Nat → Nat → St → Prop) : Prop := ∀ (nm nv : Nat) (σ : St) (y1 y2 y3 : Int), I nm nv σ → (∀ a b, inR (σ a b)) → inR y1 → inR y2 → inR y3 → ∃ (n : Nat) (k v : Int) (σ1 σ2 : St), (fL_open n σ y1 = some (k, σ1)) ∧ (fX6_open n σ1 y1 = some (v, σ2)) ∧ (fX6_thrown σ2 = some k) ∧ (k = 0 → (σ2 290 0) = v) ∧ I nm nv σ2
def So_isMarked (I : Nat → Nat → St → Prop) : Prop := ∀ (nm nv : Nat) (σ : St) (y1 y2 y3 : Int), I nm nv σ → (∀ a b, inR (σ a b)) → inR y1 → inR y2 → inR y3 → ∃ (n : Nat) (k v : Int) (σ1 σ2 : St), (fL_isMarked n σ y1 y2 y3 = some (k, σ1)) ∧ (fX6_isMarked n σ1 y1 y2 y3 = some (v, σ2)) ∧ (fX6_thrown σ2 = some k) ∧ (k = 0 → (σ2 290 0) = (nz v)) ∧ I nm nv σ2
def So_covered (I : Nat → Nat → St → Prop) : Prop := ∀ (nm nv : Nat) (σ : St) (y1 y2 y3 : Int), I nm nv σ → (∀ a b, inR (σ a b)) → inR y1 → inR y2 → inR y3 → ∃ (n : Nat) (k v : Int) (σ1 σ2 : St), (fL_covered n σ y1 y2 = some (k, σ1)) ∧ (fX6_covered n σ1 y1 y2 = some (v, σ2)) ∧ (fX6_thrown σ2 = some k) ∧ (k = 0 → (σ2 290 0) = v) ∧ I nm nv σ2
def So_blocks (I : Nat → Nat → St → Prop) : Prop := ∀ (nm nv : Nat) (σ : St) (y1 y2 y3 : Int), I nm nv σ → (∀ a b, inR (σ a b)) → inR y1 → inR y2 → inR y3 → ∃ (n : Nat) (k v : Int) (σ1 σ2 : St), (fL_blocks n σ y1 = some (k, σ1)) ∧ (fX6_blocks n σ1 y1 = some (v, σ2)) ∧ (fX6_thrown σ2 = some k) ∧ (k = 0 → (σ2 290 0) = v) ∧ I nm nv σ2
def So_kind (I : Nat → Nat → St → Prop) : Prop := ∀ (nm nv : Nat) (σ : St) (y1 y2 y3 : Int), I nm nv σ → (∀ a b, inR (σ a b)) → inR y1 → inR y2 → inR y3 → ∃ (n : Nat) (k v : Int) (σ1 σ2 : St), (fL_kind n σ y1 y2 = some (k, σ1)) ∧ (fX6_kind n σ1 y1 y2 = some (v, σ2)) ∧ (fX6_thrown σ2 = some k) ∧ (k = 0 → (σ2 290 0) = v) ∧ I nm nv σ2
def So_depth (I : Nat → Nat → St → Prop) : Prop := ∀ (nm nv : Nat) (σ : St) (y1 y2 y3 : Int), I nm nv σ → (∀ a b, inR (σ a b)) → inR y1 → inR y2 → inR y3 → ∃ (n : Nat) (k v : Int) (σ1 σ2 : St), (fL_depth n σ y1 y2 = some (k, σ1)) ∧ (fX6_depth n σ1 y1 y2 = some (v, σ2)) ∧ (fX6_thrown σ2 = some k) ∧ (k = 0 → (σ2 290 0) = v) ∧ I nm nv σ2
def So_level (I : Nat → Nat → St → Prop) : Prop := ∀ (nm nv : Nat) (σ : St) (y1 y2 y3 : Int), I nm nv σ → (∀ a b, inR (σ a b)) → inR y1 → inR y2 → inR y3 → ∃ (n : Nat) (k v : Int) (σ1 σ2 : St), (fL_level n σ y1 y2 = some (k, σ1)) ∧ (fX6_level n σ1 y1 y2 = some (v, σ2)) ∧ (fX6_thrown σ2 = some k) ∧ (k = 0 → (σ2 290 0) = v) ∧ I nm nv σ2
def So_cursor (I : Nat → Nat → St → Prop) : Prop := ∀ (nm nv : Nat) (σ : St) (y1 y2 y3 : Int), I nm nv σ → (∀ a b, inR (σ a b)) → inR y1 → inR y2 → inR y3 → ∃ (n : Nat) (k v : Int) (σ1 σ2 : St), (fL_cursor n σ y1 = some (k, σ1)) ∧ (fX6_cursor n σ1 y1 = some (v, σ2)) ∧ (fX6_thrown σ2 = some k) ∧ (k = 0 → (σ2 290 0) = v) ∧ I nm nv σ2
def So_tail (I : Nat → Nat → St → Prop) : Prop := ∀ (nm nv : Nat) (σ : St) (y1 y2 y3 : Int), I nm nv σ → (∀ a b, inR (σ a b)) → inR y1 → inR y2 → inR y3 → ∃ (n : Nat) (k v : Int) (σ1 σ2 : St), (fL_tail n σ y1 = some (k, σ1)) ∧ (fX6_tail n σ1 y1 = some (v, σ2)) ∧ (fX6_thrown σ2 = some k) ∧ (k = 0 → (σ2 290 0) = v) ∧ I nm nv σ2
def So_graves (I : Nat → Nat → St → Prop) : Prop := ∀ (nm nv : Nat) (σ : St) (y1 y2 y3 : Int), I nm nv σ → (∀ a b, inR (σ a b)) → inR y1 → inR y2 → inR y3 → ∃ (n : Nat) (k v : Int) (σ1 σ2 : St), (fL_graves n σ y1 = some (k, σ1)) ∧ (fX6_graves n σ1 y1 = some (v, σ2)) ∧ (fX6_thrown σ2 = some k) ∧ (k = 0 → (σ2 290 0) = v) ∧ I nm nv σ2
def So_buried (I : Nat → Nat → St → Prop) : Prop := ∀ (nm nv : Nat) (σ : St) (y1 y2 y3 : Int), I nm nv σ → (∀ a b, inR (σ a b)) → inR y1 → inR y2 → inR y3 → ∃ (n : Nat) (k v : Int) (σ1 σ2 : St), (fL_buried n σ y1 = some (k, σ1)) ∧ (fX6_buried n σ1 y1 = some (v, σ2)) ∧ (fX6_thrown σ2 = some k) ∧ (k = 0 → (σ2 290 0) = v) ∧ I nm nv σ2
def So_acts (I : Nat → Nat → St → Prop) : Prop := ∀ (nm nv : Nat) (σ : St) (y1 y2 y3 : Int), I nm nv σ → (∀ a b, inR (σ a b)) → inR y1 → inR y2 → inR y3 → ∃ (k v : Int) (σ2 : St), (fX5_acts σ = some k) ∧ (fX6_acts σ = some (v, σ2)) ∧ (k = v) ∧ I nm nv σ2
def So_has (I : Nat → Nat → St → Prop) : Prop := ∀ (nm nv : Nat) (σ : St) (y1 y2 y3 : Int), I nm nv σ → (∀ a b, inR (σ a b)) → inR y1 → inR y2 → inR y3 → ∃ (k v : Int) (σ1 σ2 : St), (fL_has σ y1 = some (k, σ1)) ∧ (fX6_has σ1 y1 = some (v, σ2)) ∧ (fX6_thrown σ2 = some k) ∧ (k = 0 → (σ2 290 0) = v) ∧ I nm nv σ2
def So_actAt (I : Nat → Nat → St → Prop) : Prop := ∀ (nm nv : Nat) (σ : St) (y1 y2 y3 : Int), I nm nv σ → (∀ a b, inR (σ a b)) → inR y1 → inR y2 → inR y3 → ∃ (n : Nat) (k v : Int) (σ1 σ2 : St), (fL_actAt n σ y1 y2 = some (k, σ1)) ∧ (fX6_actAt n σ1 y1 y2 = some (v, σ2)) ∧ (fX6_thrown σ2 = some k) ∧ (k = 0 → (σ2 290 0) = v) ∧ I nm nv σ2
def So_act (I : Nat → Nat → St → Prop) : Prop := ∀ (nm nv : Nat) (σ : St) (y1 y2 y3 : Int), I nm nv σ → (∀ a b, inR (σ a b)) → inR y1 → inR y2 → inR y3 → ∃ (k v : Int) (σ1 σ2 : St), (fL_act σ y1 = some (k, σ1)) ∧ (fX6_act σ1 y1 = some (v, σ2)) ∧ (fX6_thrown σ2 = some k) ∧ (k = 0 → (σ2 290 0) = v) ∧ I nm nv σ2
def So_isUndone (I : Nat → Nat → St → Prop) : Prop := ∀ (nm nv : Nat) (σ : St) (y1 y2 y3 : Int), I nm nv σ → (∀ a b, inR (σ a b)) → inR y1 → inR y2 → inR y3 → ∃ (n : Nat) (k v : Int) (σ1 σ2 : St), (fL_isUndone n σ y1 y2 = some (k, σ1)) ∧ (fX6_isUndone n σ1 y1 y2 = some (v, σ2)) ∧ (fX6_thrown σ2 = some k) ∧ (k = 0 → (σ2 290 0) = (nz v)) ∧ I nm nv σ2
def AllOps (I : Nat → Nat → St → Prop) : Prop := So_type I ∧ So_split I ∧ So_erase I ∧ So_moveTo I ∧ So_extend I ∧ So_mark I ∧ So_comment I ∧ So_setKind I ∧ So_nest I ∧ So_propose I ∧ So_decide I ∧ So_allow I ∧ So_undo I ∧ So_redo I ∧ So_send I ∧ So_deliver I ∧ So_save I ∧ So_crash I ∧ So_name I ∧ So_bringBack I ∧ So_differ I ∧ So_length I ∧ So_shown I ∧ So_element I ∧ So_elementAnew I ∧ So_letter I ∧ So_proposed I ∧ So_open I ∧ So_isMarked I ∧ So_covered I ∧ So_blocks I ∧ So_kind I ∧ So_depth I ∧ So_level I ∧ So_cursor I ∧ So_tail I ∧ So_graves I ∧ So_buried I ∧ So_acts I ∧ So_has I ∧ So_actAt I ∧ So_act I ∧ So_isUndone I
theorem tk_int {args : Array Value} {U : State} (h : (Cond.arrayClass .int).before args U = true) : ∃ c, ArrOfT U c .int ∧ va_RA U c .int := by
  obtain ⟨c, k, comp, h1, h2, h3⟩ := Cond.arrayClass_spec h
  exact ⟨c, fun n z => ⟨fun k h => (by cases h), k, h2, comp, h3⟩, h1⟩
theorem tk_boolean {args : Array Value} {U : State} (h : (Cond.arrayClass .boolean).before args U = true) : ∃ c, ArrOfT U c .boolean ∧ va_RA U c .boolean := by
  obtain ⟨c, k, comp, h1, h2, h3⟩ := Cond.arrayClass_spec h
  exact ⟨c, fun n z => ⟨fun k h => (by cases h), k, h2, comp, h3⟩, h1⟩
theorem tk_long {args : Array Value} {U : State} (h : (Cond.arrayClass .long).before args U = true) : ∃ c, ArrOfT U c .long ∧ va_RA U c .long := by
  obtain ⟨c, k, comp, h1, h2, h3⟩ := Cond.arrayClass_spec h
  exact ⟨c, fun n z => ⟨fun k h => (by cases h), k, h2, comp, h3⟩, h1⟩
theorem tk_obj {C : String} {U : State} (h : va_AO C U) : ∃ c, ArrOfT U c (.object C) ∧ va_RA U c (.object C) := by
  obtain ⟨comp, c, k, h1, -, h2, h3, h4⟩ := Cond.arrayOver_spec h
  exact ⟨c, fun n z => ⟨fun k h => (by cases h), k, h2, comp, h3⟩, k, comp, h2, h3, h1, h4⟩
theorem tk_arr {ty : FieldType} {U : State} (h : va_AOA ty U) : ∃ c, ArrOfT U c (.array ty) ∧ va_RA U c (.array ty) := by
  obtain ⟨comp, c, k, h1, -, h2, h3, h4⟩ := arrayOverA_spec h
  exact ⟨c, fun n z => ⟨fun k h => (by cases h), k, h2, comp, h3⟩, h4⟩
theorem st_nwF : ∀ q ∈ nwF, Cond.fieldLinkNest q.1 q.2.1 q.2.2.1 q.2.2.2.1 q.2.2.2.2.1 q.2.2.2.2.2 ∈ lw_tbl := by decide +kernel
theorem st_nwM : ∀ q ∈ nwM, Cond.methodLinkNest q.1 q.2.1 q.2.2.1 q.2.2.2 ∈ lw_tbl := by decide +kernel
theorem st_nwC : ∀ q ∈ nwC, Cond.castable q.1 q.2 ∈ lw_tbl := by decide +kernel
theorem st_nwD : ∀ q ∈ nwD, Cond.declares q ∈ lw_tbl := by decide +kernel
theorem st_str : ∀ q ∈ strL, Cond.stringRef "Marginnote" q.1 q.2 ∈ lw_tbl := by decide +kernel
theorem st_own : (Cond.arrayOver (.object "Marginnote$Site")) ∈ lw_tbl ∧ (Cond.arrayOver (.object "Marginnote$Message")) ∈ lw_tbl ∧ (Cond.arrayOver (.object "Marginnote$ActSet")) ∈ lw_tbl ∧ (Cond.arrayOver (.array .int)) ∈ lw_tbl := by decide +kernel
theorem st_thr : (Cond.laysStatic Bundle.tN "UNASSIGNED_STACK" Bundle.steD) ∈ lw_tbl ∧ (Cond.laysStatic Bundle.tN "SUPPRESSED_SENTINEL" Bundle.listD) ∈ lw_tbl ∧ (Cond.initialized Bundle.tN) ∈ lw_tbl := by decide +kernel
theorem st_giv : (Cond.isRef (.static Bundle.tN "UNASSIGNED_STACK" Bundle.steD)) ∈ flatC (Jvm.Cond.and given_1 narrow_1) ∧ (Cond.isRef (.static Bundle.tN "SUPPRESSED_SENTINEL" Bundle.listD)) ∈ flatC (Jvm.Cond.and given_1 narrow_1) ∧ (Cond.not (.castable (exN 2) (exN 1))) ∈ flatC (Jvm.Cond.and given_1 narrow_1) ∧ (Cond.not (.castable (exN 3) (exN 1))) ∈ flatC (Jvm.Cond.and given_1 narrow_1) ∧ (Cond.not (.castable (exN 3) (exN 2))) ∈ flatC (Jvm.Cond.and given_1 narrow_1) := by decide +kernel
theorem st_NWs {args : Array Value} {s : State} (h : ∀ w ∈ lw_tbl, w.before args s = true) : NWs s :=
  ⟨fun q hq => va_Nw.of rfl (h _ (st_nwF q hq)), fun q hq => va_Nw.of rfl (h _ (st_nwM q hq)), fun q hq => va_Nw.of rfl (h _ (st_nwC q hq)), fun q hq => va_Nw.of rfl (h _ (st_nwD q hq)), h _ st_own.1, h _ st_own.2.1, h _ st_own.2.2.1, h _ st_own.2.2.2⟩
theorem st_GW {args : Array Value} {s : State} (h : ∀ w ∈ lw_tbl, w.before args s = true) : ∀ w ∈ GW, w.before args s = true := fun w hw => h w (List.mem_filter.mp hw).1
theorem st_K {args : Array Value} {s : State} (h : ∀ w ∈ lw_tbl, w.before args s = true) : ∃ (D : va_G) (cy : Nat → ClassId), va_K D vwCl (tysC cy) s := by
  have hG := st_GW h
  obtain ⟨c1, h1⟩ := tk_int (hG _ mw64)
  obtain ⟨c2, h2⟩ := tk_boolean (hG _ mw65)
  obtain ⟨c3, h3⟩ := tk_long (hG _ mw1513)
  obtain ⟨c4, h4⟩ := tk_obj (C := RX4) (U := s) (h _ st_own.1)
  obtain ⟨c5, h5⟩ := tk_obj (C := RX2) (U := s) (h _ st_own.2.1)
  obtain ⟨c6, h6⟩ := tk_obj (C := RX0) (U := s) (h _ st_own.2.2.1)
  obtain ⟨c7, h7⟩ := tk_arr (ty := .int) (U := s) (h _ st_own.2.2.2)
  obtain ⟨d0, i0, k0⟩ := u_known (C := RX0) (T := TX0) (N := 2) hG i_X0 (hG _ mw74)
  obtain ⟨d1, i1, k1⟩ := u_known (C := RX1) (T := TX1) (N := 10) hG i_X1 (hG _ mw25)
  obtain ⟨d2, i2, k2⟩ := u_known (C := RX2) (T := TX2) (N := 3) hG i_X2 (hG _ mw702)
  obtain ⟨d3, i3, k3⟩ := u_known (C := RX3) (T := TX3) (N := 12) hG i_X3 (hG _ mw89)
  obtain ⟨d4, i4, k4⟩ := u_known (C := RX4) (T := TX4) (N := 10) hG i_X4 (hG _ mw68)
  obtain ⟨d5, i5, k5⟩ := u_known (C := RX5) (T := TX5) (N := 11) hG i_X5 (hG _ mw17)
  obtain ⟨d6, i6, k6⟩ := u_known (C := RX6) (T := TX6) (N := 45) hG i_X6 (hG _ mw1040)
  refine ⟨(fun k => match k with | 0 => d0 | 1 => d1 | 2 => d2 | 3 => d3 | 4 => d4 | 5 => d5 | _ => d6, fun k => match k with | 0 => i0 | 1 => i1 | 2 => i2 | 3 => i3 | 4 => i4 | 5 => i5 | _ => i6), fun k => match k with | 1 => c1 | 2 => c2 | 3 => c3 | 4 => c4 | 5 => c5 | 6 => c6 | _ => c7, fun c q hq => ?_, fun k q hk => ?_⟩
  · have hc : c < 7 := (List.getElem?_eq_some_iff.mp hq).1
    rcases (show c = 0 ∨ c = 1 ∨ c = 2 ∨ c = 3 ∨ c = 4 ∨ c = 5 ∨ c = 6 by omega) with rfl | rfl | rfl | rfl | rfl | rfl | rfl
    · cases hq; exact k0
    · cases hq; exact k1
    · cases hq; exact k2
    · cases hq; exact k3
    · cases hq; exact k4
    · cases hq; exact k5
    · cases hq; exact k6
  · have hc : k < 7 := (List.getElem?_eq_some_iff.mp hk).1
    rcases (show k = 0 ∨ k = 1 ∨ k = 2 ∨ k = 3 ∨ k = 4 ∨ k = 5 ∨ k = 6 by omega) with rfl | rfl | rfl | rfl | rfl | rfl | rfl
    · cases hk; exact h1
    · cases hk; exact h2
    · cases hk; exact h3
    · cases hk; exact h4
    · cases hk; exact h5
    · cases hk; exact h6
    · cases hk; exact h7
theorem st_NCs {args : Array Value} {s : State} (h : (Jvm.Cond.and given_1 narrow_1).before args s = true) : NCs s :=
  ⟨va_Nc.of (flat_of_before _ h _ st_giv.2.2.1), va_Nc.of (flat_of_before _ h _ st_giv.2.2.2.1), va_Nc.of (flat_of_before _ h _ st_giv.2.2.2.2)⟩
theorem st_TX {args : Array Value} {s : State} {A : Nat → Prop} (h : ∀ w ∈ lw_tbl, w.before args s = true) (hg : (Jvm.Cond.and given_1 narrow_1).before args s = true) {m : MethodId} {b : Nat} (hA : ∀ a : Nat, a < s.heap.size → ¬ A a) (hcls : ∃ c, s.vm.findClass "Marginnote" = some c) : TX A s := by
  refine ⟨fun q hq => ?_, vx_Zqof (h _ st_thr.1) (h _ st_thr.2.2) (flat_of_before _ hg _ st_giv.1) hA, vx_Zqof (h _ st_thr.2.1) (h _ st_thr.2.2) (flat_of_before _ hg _ st_giv.2.1) hA⟩
  obtain ⟨cc, hcc⟩ := hcls
  have h1 := h _ (st_str q hq)
  obtain ⟨k, cf, i, a, -, -, -, -, -, hev⟩ := Cond.stringRef_spec hcc h1
  exact ⟨a, vk_R.of h1 hev⟩
set_option maxRecDepth 100000 in
set_option maxHeartbeats 8000000 in
theorem law_lp (I : Nat → Nat → St → Prop) (hI : AllOps I) {p : Program} {l : Launch} {e : Env} {s : State} {m : MethodId} {args : Array Value} {below : List Frame} {meth : Method} {c : Code} {Q : State → Prop} {D : va_G} {cy : Nat → ClassId} {A : Nat → Prop} {b L : Nat} {xs : Nat → Int32} (Y : TX A s) (Z : NCs s) (hst : l.stackTraces = false) (hX : va_X b L xs s s.heap) (hbl : b < s.heap.size) (hbA : ¬ A b) (hL : L ≤ 2048) (hAf : ∀ q, A q → s.heap.size ≤ q)
    (fin : ∀ (H : Heap) (ls : Array Slot), W p l e room_1 s m args below meth c H [] 601024 7293034 Q (F0 m 3027 ls [.int 1])) :
    ∀ (k i0 nm nv : Nat) (ad : Nat → Nat) (σ : St) (H : Heap) (locs : List Loc) (ls : Array Slot) (cells slots : Nat), L + 4 ≤ i0 + 4 * k → i0 ≤ L → cells + 6 * k ≤ 601024 → slots + 200 * k ≤ 7293034 → Cx p s m args c cL_law 7 RL D cy ad nm nv A → I nm nv σ → Wd D cy ad nm nv σ H → va_S A s.heap H locs → lv_has ls 7 [(0, .ref b), (1, .ref (ad 0)), (2, .ref (ad 230)), (3, .ref (ad 290)), (4, .int (i32 (i0 : Int)))] → W p l e room_1 s m args below meth c H locs cells slots Q (F0 m 23 ls []) := by
  intro k
  induction k with
  | zero => intro i0 nm nv ad σ H locs ls cells slots h1 h2; omega
  | succ k ih =>
    intro i0 nm nv ad σ H locs ls cells slots h1 h2 hce hsl X hIv hW hS hl
    have hx := X.1
    have hb := X.2.1
    have hi0 : inR (i0 : Int) := ⟨by omega, by omega⟩
    have back : ∀ (ad : Nat → Nat) (nm nv : Nat) (σ2 : St) (H1 : Heap) (locs1 : List Loc) (ls1 : Array Slot) (ce sl : Nat), i0 + 4 ≤ L → ce ≤ cells + 6 → sl ≤ slots + 200 → Cx p s m args c cL_law 7 RL D cy ad nm nv A → I nm nv σ2 → Wd D cy ad nm nv σ2 H1 → va_S A s.heap H1 locs1 → lv_has ls1 7 [(0, .ref b), (1, .ref (ad 0)), (2, .ref (ad 230)), (3, .ref (ad 290)), (4, .int (i32 (i0 : Int)))] → W p l e room_1 s m args below meth c H1 locs1 ce sl Q (F0 m 3020 ls1 []) := by
      intro ad nm nv σ2 H1 locs1 ls1 ce sl hi hc1 hs1 X hIv hW hS hl
      refine lv_iinc (v := i32 ((i0 + 4 : Nat) : Int)) (k := 4) (lv' := [(4, .int (i32 ((i0 + 4 : Nat) : Int))), (0, .ref b), (1, .ref (ad 0)), (2, .ref (ad 230)), (3, .ref (ad 290))]) hx hb dL_law_3020 hl rfl (by rw [show (Int32.ofInt 4) = i32 4 from rfl, i32_add]; rfl) (by decide) rfl (fun ls2 hl2 => ?_)
      refine lv_goto (tgt := 23) hx hb dL_law_3023 (by decide) ?_
      exact ih (i0 + 4) nm nv ad σ2 H1 locs1 ls2 ce sl (by omega) hi (by omega) (by omega) X hIv hW hS (lv_sub hl2 [1, 2, 3, 4, 0] rfl)
    refine lv_iload hx hb dL_law_23 (lv_at hl 4 rfl) ?_
    refine lv_aload_n hx hb dL_law_25 rfl (lv_at hl 0 rfl) ?_
    refine va_slen hx hb hX hbl hbA hS dL_law_26 ?_
    rw [show Int32.ofNat L = i32 (L : Int) from nI_i32 L]
    refine m_const (v := 4) hx hb dL_law_27 rfl ?_
    refine lv_isub hx hb dL_law_28 ?_
    rw [i32_sub]
    have hLR : inR ((L : Int) - 4) := ⟨by omega, by omega⟩
    refine lv_icmp_gt (tgt := 3026) hx hb dL_law_29 (by decide) (fun q => ?_) (fun q => ?_)
    · refine m_const (v := 1) hx hb dL_law_3026 rfl ?_
      refine va_forget (fun q hq => hAf _ (hS.2.2 q hq)) ?_
      refine W.widen (k := 601024) (n := 7293034) (by omega) (by omega) ?_
      exact fin H ls
    have q1 : ¬ ((L : Int) - 4 < (i0 : Int)) := fun h => q ((i32_lt hLR hi0).mpr h)
    have hiL : i0 + 4 ≤ L := by omega
    refine lv_aload_n hx hb dL_law_32 rfl (lv_at hl 0 rfl) ?_
    refine lv_iload hx hb dL_law_33 (lv_at hl 4 rfl) ?_
    refine va_sld hx hb hX hbl hbA hS ((i32_in hi0).mpr ⟨by omega, by omega⟩) dL_law_35 ?_
    refine m_bipush (v := 63) hx hb dL_law_36 (by decide) ?_
    refine lv_iand hx hb dL_law_38 ?_
    rw [i32_clamp hi0, Int.toNat_natCast]
    generalize hz : (xs i0 &&& i32 63) = z
    have hR : ∀ x : Int32, inR x.toInt := i32_inR
    by_cases q0 : z.toInt = 0
    · refine lv_tableIn (off := 185) (tgt := 224) hx hb dL_law_39 (by rw [q0]; decide) (by rw [q0]; decide) (by rw [q0]; rfl) (by decide) ?_
      obtain ⟨n, k, v, σ1, σ2, hk, hm, ht, ho, hI2⟩ := hI.1 nm nv σ (xs (i0 + 1)).toInt (xs (i0 + 2)).toInt (xs (i0 + 3)).toInt hIv hW.2.1 (hR _) (hR _) (hR _)
      exact case_type (n := n) X Y Z hst hX hbl hbA hL hiL rfl rfl rfl hW hS hl (by omega) (by omega) hk hm ht ho (fun H1 locs1 ls1 hW1 hS1 hl1 => back ad nm nv σ2 H1 locs1 ls1 _ _ hiL (by omega) (by omega) X hI2 hW1 hS1 hl1)
    by_cases q1 : z.toInt = 1
    · refine lv_tableIn (off := 255) (tgt := 294) hx hb dL_law_39 (by rw [q1]; decide) (by rw [q1]; decide) (by rw [q1]; rfl) (by decide) ?_
      obtain ⟨n, k, v, σ1, σ2, hk, hm, ht, ho, hI2⟩ := hI.2.1 nm nv σ (xs (i0 + 1)).toInt (xs (i0 + 2)).toInt (xs (i0 + 3)).toInt hIv hW.2.1 (hR _) (hR _) (hR _)
      exact case_split (n := n) X Y Z hst hX hbl hbA hL hiL rfl rfl rfl hW hS hl (by omega) (by omega) hk hm ht ho (fun H1 locs1 ls1 hW1 hS1 hl1 => back ad nm nv σ2 H1 locs1 ls1 _ _ hiL (by omega) (by omega) X hI2 hW1 hS1 hl1)
    by_cases q2 : z.toInt = 2
    · refine lv_tableIn (off := 311) (tgt := 350) hx hb dL_law_39 (by rw [q2]; decide) (by rw [q2]; decide) (by rw [q2]; rfl) (by decide) ?_
      obtain ⟨n, k, v, σ1, σ2, hk, hm, ht, ho, hI2⟩ := hI.2.2.1 nm nv σ (xs (i0 + 1)).toInt (xs (i0 + 2)).toInt (xs (i0 + 3)).toInt hIv hW.2.1 (hR _) (hR _) (hR _)
      exact case_erase (n := n) X Y Z hst hX hbl hbA hL hiL rfl rfl rfl hW hS hl (by omega) (by omega) hk hm ht ho (fun H1 locs1 ls1 hW1 hS1 hl1 => back ad nm nv σ2 H1 locs1 ls1 _ _ hiL (by omega) (by omega) X hI2 hW1 hS1 hl1)
    by_cases q3 : z.toInt = 3
    · refine lv_tableIn (off := 367) (tgt := 406) hx hb dL_law_39 (by rw [q3]; decide) (by rw [q3]; decide) (by rw [q3]; rfl) (by decide) ?_
      obtain ⟨n, k, v, σ1, σ2, hk, hm, ht, ho, hI2⟩ := hI.2.2.2.1 nm nv σ (xs (i0 + 1)).toInt (xs (i0 + 2)).toInt (xs (i0 + 3)).toInt hIv hW.2.1 (hR _) (hR _) (hR _)
      exact case_moveTo (n := n) X Y Z hst hX hbl hbA hL hiL rfl rfl rfl hW hS hl (by omega) (by omega) hk hm ht ho (fun H1 locs1 ls1 hW1 hS1 hl1 => back ad nm nv σ2 H1 locs1 ls1 _ _ hiL (by omega) (by omega) X hI2 hW1 hS1 hl1)
    by_cases q4 : z.toInt = 4
    · refine lv_tableIn (off := 435) (tgt := 474) hx hb dL_law_39 (by rw [q4]; decide) (by rw [q4]; decide) (by rw [q4]; rfl) (by decide) ?_
      obtain ⟨n, k, v, σ1, σ2, hk, hm, ht, ho, hI2⟩ := hI.2.2.2.2.1 nm nv σ (xs (i0 + 1)).toInt (xs (i0 + 2)).toInt (xs (i0 + 3)).toInt hIv hW.2.1 (hR _) (hR _) (hR _)
      exact case_extend (n := n) X Y Z hst hX hbl hbA hL hiL rfl rfl rfl hW hS hl (by omega) (by omega) hk hm ht ho (fun H1 locs1 ls1 hW1 hS1 hl1 => back ad nm nv σ2 H1 locs1 ls1 _ _ hiL (by omega) (by omega) X hI2 hW1 hS1 hl1)
    by_cases q5 : z.toInt = 5
    · refine lv_tableIn (off := 503) (tgt := 542) hx hb dL_law_39 (by rw [q5]; decide) (by rw [q5]; decide) (by rw [q5]; rfl) (by decide) ?_
      obtain ⟨n, k, v, σ1, σ2, hk, hm, ht, ho, hI2⟩ := hI.2.2.2.2.2.1 nm nv σ (xs (i0 + 1)).toInt (xs (i0 + 2)).toInt (xs (i0 + 3)).toInt hIv hW.2.1 (hR _) (hR _) (hR _)
      exact case_mark (n := n) X Y Z hst hX hbl hbA hL hiL rfl rfl rfl hW hS hl (by omega) (by omega) hk hm ht ho (fun H1 locs1 ls1 hW1 hS1 hl1 => back ad nm nv σ2 H1 locs1 ls1 _ _ hiL (by omega) (by omega) X hI2 hW1 hS1 hl1)
    by_cases q6 : z.toInt = 6
    · refine lv_tableIn (off := 599) (tgt := 638) hx hb dL_law_39 (by rw [q6]; decide) (by rw [q6]; decide) (by rw [q6]; rfl) (by decide) ?_
      obtain ⟨n, k, v, σ1, σ2, hk, hm, ht, ho, hI2⟩ := hI.2.2.2.2.2.2.1 nm nv σ (xs (i0 + 1)).toInt (xs (i0 + 2)).toInt (xs (i0 + 3)).toInt hIv hW.2.1 (hR _) (hR _) (hR _)
      exact case_comment (n := n) X Y Z hst hX hbl hbA hL hiL rfl rfl rfl hW hS hl (by omega) (by omega) hk hm ht ho (fun H1 locs1 ls1 hW1 hS1 hl1 => back ad nm nv σ2 H1 locs1 ls1 _ _ hiL (by omega) (by omega) X hI2 hW1 hS1 hl1)
    by_cases q7 : z.toInt = 7
    · refine lv_tableIn (off := 655) (tgt := 694) hx hb dL_law_39 (by rw [q7]; decide) (by rw [q7]; decide) (by rw [q7]; rfl) (by decide) ?_
      obtain ⟨n, k, v, σ1, σ2, hk, hm, ht, ho, hI2⟩ := hI.2.2.2.2.2.2.2.1 nm nv σ (xs (i0 + 1)).toInt (xs (i0 + 2)).toInt (xs (i0 + 3)).toInt hIv hW.2.1 (hR _) (hR _) (hR _)
      exact case_setKind (n := n) X Y Z hst hX hbl hbA hL hiL rfl rfl rfl hW hS hl (by omega) (by omega) hk hm ht ho (fun H1 locs1 ls1 hW1 hS1 hl1 => back ad nm nv σ2 H1 locs1 ls1 _ _ hiL (by omega) (by omega) X hI2 hW1 hS1 hl1)
    by_cases q8 : z.toInt = 8
    · refine lv_tableIn (off := 735) (tgt := 774) hx hb dL_law_39 (by rw [q8]; decide) (by rw [q8]; decide) (by rw [q8]; rfl) (by decide) ?_
      obtain ⟨n, k, v, σ1, σ2, hk, hm, ht, ho, hI2⟩ := hI.2.2.2.2.2.2.2.2.1 nm nv σ (xs (i0 + 1)).toInt (xs (i0 + 2)).toInt (xs (i0 + 3)).toInt hIv hW.2.1 (hR _) (hR _) (hR _)
      exact case_nest (n := n) X Y Z hst hX hbl hbA hL hiL rfl rfl rfl hW hS hl (by omega) (by omega) hk hm ht ho (fun H1 locs1 ls1 hW1 hS1 hl1 => back ad nm nv σ2 H1 locs1 ls1 _ _ hiL (by omega) (by omega) X hI2 hW1 hS1 hl1)
    by_cases q9 : z.toInt = 9
    · refine lv_tableIn (off := 815) (tgt := 854) hx hb dL_law_39 (by rw [q9]; decide) (by rw [q9]; decide) (by rw [q9]; rfl) (by decide) ?_
      obtain ⟨k, v, σ1, σ2, hk, hm, ht, ho, hI2⟩ := hI.2.2.2.2.2.2.2.2.2.1 nm nv σ (xs (i0 + 1)).toInt (xs (i0 + 2)).toInt (xs (i0 + 3)).toInt hIv hW.2.1 (hR _) (hR _) (hR _)
      exact case_propose X Y Z hst hX hbl hbA hL hiL rfl rfl rfl hW hS hl (by omega) (by omega) hk hm ht ho (fun H1 locs1 ls1 hW1 hS1 hl1 => back ad nm nv σ2 H1 locs1 ls1 _ _ hiL (by omega) (by omega) X hI2 hW1 hS1 hl1)
    by_cases q10 : z.toInt = 10
    · refine lv_tableIn (off := 906) (tgt := 945) hx hb dL_law_39 (by rw [q10]; decide) (by rw [q10]; decide) (by rw [q10]; rfl) (by decide) ?_
      obtain ⟨n, k, v, σ1, σ2, hk, hm, ht, ho, hI2⟩ := hI.2.2.2.2.2.2.2.2.2.2.1 nm nv σ (xs (i0 + 1)).toInt (xs (i0 + 2)).toInt (xs (i0 + 3)).toInt hIv hW.2.1 (hR _) (hR _) (hR _)
      exact case_decide (n := n) X Y Z hst hX hbl hbA hL hiL rfl rfl rfl hW hS hl (by omega) (by omega) hk hm ht ho (fun H1 locs1 ls1 hW1 hS1 hl1 => back ad nm nv σ2 H1 locs1 ls1 _ _ hiL (by omega) (by omega) X hI2 hW1 hS1 hl1)
    by_cases q11 : z.toInt = 11
    · refine lv_tableIn (off := 1002) (tgt := 1041) hx hb dL_law_39 (by rw [q11]; decide) (by rw [q11]; decide) (by rw [q11]; rfl) (by decide) ?_
      obtain ⟨n, k, v, σ1, σ2, hk, hm, ht, ho, hI2⟩ := hI.2.2.2.2.2.2.2.2.2.2.2.1 nm nv σ (xs (i0 + 1)).toInt (xs (i0 + 2)).toInt (xs (i0 + 3)).toInt hIv hW.2.1 (hR _) (hR _) (hR _)
      exact case_allow (n := n) X Y Z hst hX hbl hbA hL hiL rfl rfl rfl hW hS hl (by omega) (by omega) hk hm ht ho (fun H1 locs1 ls1 hW1 hS1 hl1 => back ad nm nv σ2 H1 locs1 ls1 _ _ hiL (by omega) (by omega) X hI2 hW1 hS1 hl1)
    by_cases q12 : z.toInt = 12
    · refine lv_tableIn (off := 1082) (tgt := 1121) hx hb dL_law_39 (by rw [q12]; decide) (by rw [q12]; decide) (by rw [q12]; rfl) (by decide) ?_
      obtain ⟨n, k, v, σ1, σ2, hk, hm, ht, ho, hI2⟩ := hI.2.2.2.2.2.2.2.2.2.2.2.2.1 nm nv σ (xs (i0 + 1)).toInt (xs (i0 + 2)).toInt (xs (i0 + 3)).toInt hIv hW.2.1 (hR _) (hR _) (hR _)
      exact case_undo (n := n) X Y Z hst hX hbl hbA hL hiL rfl rfl rfl hW hS hl (by omega) (by omega) hk hm ht ho (fun H1 locs1 ls1 hW1 hS1 hl1 => back ad nm nv σ2 H1 locs1 ls1 _ _ hiL (by omega) (by omega) X hI2 hW1 hS1 hl1)
    by_cases q13 : z.toInt = 13
    · refine lv_tableIn (off := 1138) (tgt := 1177) hx hb dL_law_39 (by rw [q13]; decide) (by rw [q13]; decide) (by rw [q13]; rfl) (by decide) ?_
      obtain ⟨n, k, v, σ1, σ2, hk, hm, ht, ho, hI2⟩ := hI.2.2.2.2.2.2.2.2.2.2.2.2.2.1 nm nv σ (xs (i0 + 1)).toInt (xs (i0 + 2)).toInt (xs (i0 + 3)).toInt hIv hW.2.1 (hR _) (hR _) (hR _)
      exact case_redo (n := n) X Y Z hst hX hbl hbA hL hiL rfl rfl rfl hW hS hl (by omega) (by omega) hk hm ht ho (fun H1 locs1 ls1 hW1 hS1 hl1 => back ad nm nv σ2 H1 locs1 ls1 _ _ hiL (by omega) (by omega) X hI2 hW1 hS1 hl1)
    by_cases q14 : z.toInt = 14
    · refine lv_tableIn (off := 1194) (tgt := 1233) hx hb dL_law_39 (by rw [q14]; decide) (by rw [q14]; decide) (by rw [q14]; rfl) (by decide) ?_
      obtain ⟨n, k, v, σ1, σ2, hk, hm, ht, ho, hI2⟩ := hI.2.2.2.2.2.2.2.2.2.2.2.2.2.2.1 nm nv σ (xs (i0 + 1)).toInt (xs (i0 + 2)).toInt (xs (i0 + 3)).toInt hIv hW.2.1 (hR _) (hR _) (hR _)
      exact case_send (n := n) X Y Z hst hX hbl hbA hL hiL rfl rfl rfl hW hS hl (by omega) (by omega) hk hm ht ho (fun ad1 H1 locs1 ls1 hfix X1 hW1 hS1 hl1 => back ad1 _ _ σ2 H1 locs1 ls1 _ _ hiL (by omega) (by omega) X1 hI2 hW1 hS1 hl1)
    by_cases q15 : z.toInt = 15
    · refine lv_tableIn (off := 1262) (tgt := 1301) hx hb dL_law_39 (by rw [q15]; decide) (by rw [q15]; decide) (by rw [q15]; rfl) (by decide) ?_
      obtain ⟨n, k, v, σ1, σ2, hk, hm, ht, ho, hI2⟩ := hI.2.2.2.2.2.2.2.2.2.2.2.2.2.2.2.1 nm nv σ (xs (i0 + 1)).toInt (xs (i0 + 2)).toInt (xs (i0 + 3)).toInt hIv hW.2.1 (hR _) (hR _) (hR _)
      exact case_deliver (n := n) X Y Z hst hX hbl hbA hL hiL rfl rfl rfl hW hS hl (by omega) (by omega) hk hm ht ho (fun H1 locs1 ls1 hW1 hS1 hl1 => back ad nm nv σ2 H1 locs1 ls1 _ _ hiL (by omega) (by omega) X hI2 hW1 hS1 hl1)
    by_cases q16 : z.toInt = 16
    · refine lv_tableIn (off := 1318) (tgt := 1357) hx hb dL_law_39 (by rw [q16]; decide) (by rw [q16]; decide) (by rw [q16]; rfl) (by decide) ?_
      obtain ⟨k, v, σ1, σ2, hk, hm, ht, ho, hI2⟩ := hI.2.2.2.2.2.2.2.2.2.2.2.2.2.2.2.2.1 nm nv σ (xs (i0 + 1)).toInt (xs (i0 + 2)).toInt (xs (i0 + 3)).toInt hIv hW.2.1 (hR _) (hR _) (hR _)
      exact case_save X Y Z hst hX hbl hbA hL hiL rfl rfl rfl hW hS hl (by omega) (by omega) hk hm ht ho (fun H1 locs1 ls1 hW1 hS1 hl1 => back ad nm nv σ2 H1 locs1 ls1 _ _ hiL (by omega) (by omega) X hI2 hW1 hS1 hl1)
    by_cases q17 : z.toInt = 17
    · refine lv_tableIn (off := 1374) (tgt := 1413) hx hb dL_law_39 (by rw [q17]; decide) (by rw [q17]; decide) (by rw [q17]; rfl) (by decide) ?_
      obtain ⟨n, k, v, σ1, σ2, hk, hm, ht, ho, hI2⟩ := hI.2.2.2.2.2.2.2.2.2.2.2.2.2.2.2.2.2.1 nm nv σ (xs (i0 + 1)).toInt (xs (i0 + 2)).toInt (xs (i0 + 3)).toInt hIv hW.2.1 (hR _) (hR _) (hR _)
      exact case_crash (n := n) X Y Z hst hX hbl hbA hL hiL rfl rfl rfl hW hS hl (by omega) (by omega) hk hm ht ho (fun H1 locs1 ls1 hW1 hS1 hl1 => back ad nm nv σ2 H1 locs1 ls1 _ _ hiL (by omega) (by omega) X hI2 hW1 hS1 hl1)
    by_cases q18 : z.toInt = 18
    · refine lv_tableIn (off := 1442) (tgt := 1481) hx hb dL_law_39 (by rw [q18]; decide) (by rw [q18]; decide) (by rw [q18]; rfl) (by decide) ?_
      obtain ⟨n, k, v, σ1, σ2, hk, hm, ht, ho, hI2⟩ := hI.2.2.2.2.2.2.2.2.2.2.2.2.2.2.2.2.2.2.1 nm nv σ (xs (i0 + 1)).toInt (xs (i0 + 2)).toInt (xs (i0 + 3)).toInt hIv hW.2.1 (hR _) (hR _) (hR _)
      exact case_name (n := n) X Y Z hst hX hbl hbA hL hiL rfl rfl rfl hW hS hl (by omega) (by omega) hk hm ht ho (fun ad1 H1 locs1 ls1 hfix X1 hW1 hS1 hl1 => back ad1 _ _ σ2 H1 locs1 ls1 _ _ hiL (by omega) (by omega) X1 hI2 hW1 hS1 hl1)
    by_cases q19 : z.toInt = 19
    · refine lv_tableIn (off := 1498) (tgt := 1537) hx hb dL_law_39 (by rw [q19]; decide) (by rw [q19]; decide) (by rw [q19]; rfl) (by decide) ?_
      obtain ⟨n, k, v, σ1, σ2, hk, hm, ht, ho, hI2⟩ := hI.2.2.2.2.2.2.2.2.2.2.2.2.2.2.2.2.2.2.2.1 nm nv σ (xs (i0 + 1)).toInt (xs (i0 + 2)).toInt (xs (i0 + 3)).toInt hIv hW.2.1 (hR _) (hR _) (hR _)
      exact case_bringBack (n := n) X Y Z hst hX hbl hbA hL hiL rfl rfl rfl hW hS hl (by omega) (by omega) hk hm ht ho (fun H1 locs1 ls1 hW1 hS1 hl1 => back ad nm nv σ2 H1 locs1 ls1 _ _ hiL (by omega) (by omega) X hI2 hW1 hS1 hl1)
    by_cases q20 : z.toInt = 20
    · refine lv_tableIn (off := 1566) (tgt := 1605) hx hb dL_law_39 (by rw [q20]; decide) (by rw [q20]; decide) (by rw [q20]; rfl) (by decide) ?_
      obtain ⟨n, k, v, σ1, σ2, hk, hm, ht, ho, hI2⟩ := hI.2.2.2.2.2.2.2.2.2.2.2.2.2.2.2.2.2.2.2.2.1 nm nv σ (xs (i0 + 1)).toInt (xs (i0 + 2)).toInt (xs (i0 + 3)).toInt hIv hW.2.1 (hR _) (hR _) (hR _)
      exact case_differ (n := n) X Y Z hst hX hbl hbA hL hiL rfl rfl rfl hW hS hl (by omega) (by omega) hk hm ht ho (fun H1 locs1 ls1 hW1 hS1 hl1 => back ad nm nv σ2 H1 locs1 ls1 _ _ hiL (by omega) (by omega) X hI2 hW1 hS1 hl1)
    by_cases q21 : z.toInt = 21
    · refine lv_tableIn (off := 1634) (tgt := 1673) hx hb dL_law_39 (by rw [q21]; decide) (by rw [q21]; decide) (by rw [q21]; rfl) (by decide) ?_
      obtain ⟨n, k, v, σ1, σ2, hk, hm, ht, ho, hI2⟩ := hI.2.2.2.2.2.2.2.2.2.2.2.2.2.2.2.2.2.2.2.2.2.1 nm nv σ (xs (i0 + 1)).toInt (xs (i0 + 2)).toInt (xs (i0 + 3)).toInt hIv hW.2.1 (hR _) (hR _) (hR _)
      exact case_length (n := n) X Y Z hst hX hbl hbA hL hiL rfl rfl rfl hW hS hl (by omega) (by omega) hk hm ht ho (fun H1 locs1 ls1 hW1 hS1 hl1 => back ad nm nv σ2 H1 locs1 ls1 _ _ hiL (by omega) (by omega) X hI2 hW1 hS1 hl1)
    by_cases q22 : z.toInt = 22
    · refine lv_tableIn (off := 1690) (tgt := 1729) hx hb dL_law_39 (by rw [q22]; decide) (by rw [q22]; decide) (by rw [q22]; rfl) (by decide) ?_
      obtain ⟨n, k, v, σ1, σ2, hk, hm, ht, ho, hI2⟩ := hI.2.2.2.2.2.2.2.2.2.2.2.2.2.2.2.2.2.2.2.2.2.2.1 nm nv σ (xs (i0 + 1)).toInt (xs (i0 + 2)).toInt (xs (i0 + 3)).toInt hIv hW.2.1 (hR _) (hR _) (hR _)
      exact case_shown (n := n) X Y Z hst hX hbl hbA hL hiL rfl rfl rfl hW hS hl (by omega) (by omega) hk hm ht ho (fun H1 locs1 ls1 hW1 hS1 hl1 => back ad nm nv σ2 H1 locs1 ls1 _ _ hiL (by omega) (by omega) X hI2 hW1 hS1 hl1)
    by_cases q23 : z.toInt = 23
    · refine lv_tableIn (off := 1746) (tgt := 1785) hx hb dL_law_39 (by rw [q23]; decide) (by rw [q23]; decide) (by rw [q23]; rfl) (by decide) ?_
      obtain ⟨n, k, v, σ1, σ2, hk, hm, ht, ho, hI2⟩ := hI.2.2.2.2.2.2.2.2.2.2.2.2.2.2.2.2.2.2.2.2.2.2.2.1 nm nv σ (xs (i0 + 1)).toInt (xs (i0 + 2)).toInt (xs (i0 + 3)).toInt hIv hW.2.1 (hR _) (hR _) (hR _)
      exact case_element (n := n) X Y Z hst hX hbl hbA hL hiL rfl rfl rfl hW hS hl (by omega) (by omega) hk hm ht ho (fun H1 locs1 ls1 hW1 hS1 hl1 => back ad nm nv σ2 H1 locs1 ls1 _ _ hiL (by omega) (by omega) X hI2 hW1 hS1 hl1)
    by_cases q24 : z.toInt = 24
    · refine lv_tableIn (off := 1814) (tgt := 1853) hx hb dL_law_39 (by rw [q24]; decide) (by rw [q24]; decide) (by rw [q24]; rfl) (by decide) ?_
      obtain ⟨n, k, v, σ1, σ2, hk, hm, ht, ho, hI2⟩ := hI.2.2.2.2.2.2.2.2.2.2.2.2.2.2.2.2.2.2.2.2.2.2.2.2.1 nm nv σ (xs (i0 + 1)).toInt (xs (i0 + 2)).toInt (xs (i0 + 3)).toInt hIv hW.2.1 (hR _) (hR _) (hR _)
      exact case_elementAnew (n := n) X Y Z hst hX hbl hbA hL hiL rfl rfl rfl hW hS hl (by omega) (by omega) hk hm ht ho (fun H1 locs1 ls1 hW1 hS1 hl1 => back ad nm nv σ2 H1 locs1 ls1 _ _ hiL (by omega) (by omega) X hI2 hW1 hS1 hl1)
    by_cases q25 : z.toInt = 25
    · refine lv_tableIn (off := 1882) (tgt := 1921) hx hb dL_law_39 (by rw [q25]; decide) (by rw [q25]; decide) (by rw [q25]; rfl) (by decide) ?_
      obtain ⟨n, k, v, σ1, σ2, hk, hm, ht, ho, hI2⟩ := hI.2.2.2.2.2.2.2.2.2.2.2.2.2.2.2.2.2.2.2.2.2.2.2.2.2.1 nm nv σ (xs (i0 + 1)).toInt (xs (i0 + 2)).toInt (xs (i0 + 3)).toInt hIv hW.2.1 (hR _) (hR _) (hR _)
      exact case_letter (n := n) X Y Z hst hX hbl hbA hL hiL rfl rfl rfl hW hS hl (by omega) (by omega) hk hm ht ho (fun H1 locs1 ls1 hW1 hS1 hl1 => back ad nm nv σ2 H1 locs1 ls1 _ _ hiL (by omega) (by omega) X hI2 hW1 hS1 hl1)
    by_cases q26 : z.toInt = 26
    · refine lv_tableIn (off := 1950) (tgt := 1989) hx hb dL_law_39 (by rw [q26]; decide) (by rw [q26]; decide) (by rw [q26]; rfl) (by decide) ?_
      obtain ⟨n, k, v, σ1, σ2, hk, hm, ht, ho, hI2⟩ := hI.2.2.2.2.2.2.2.2.2.2.2.2.2.2.2.2.2.2.2.2.2.2.2.2.2.2.1 nm nv σ (xs (i0 + 1)).toInt (xs (i0 + 2)).toInt (xs (i0 + 3)).toInt hIv hW.2.1 (hR _) (hR _) (hR _)
      exact case_proposed (n := n) X Y Z hst hX hbl hbA hL hiL rfl rfl rfl hW hS hl (by omega) (by omega) hk hm ht ho (fun H1 locs1 ls1 hW1 hS1 hl1 => back ad nm nv σ2 H1 locs1 ls1 _ _ hiL (by omega) (by omega) X hI2 hW1 hS1 hl1)
    by_cases q27 : z.toInt = 27
    · refine lv_tableIn (off := 2018) (tgt := 2057) hx hb dL_law_39 (by rw [q27]; decide) (by rw [q27]; decide) (by rw [q27]; rfl) (by decide) ?_
      obtain ⟨n, k, v, σ1, σ2, hk, hm, ht, ho, hI2⟩ := hI.2.2.2.2.2.2.2.2.2.2.2.2.2.2.2.2.2.2.2.2.2.2.2.2.2.2.2.1 nm nv σ (xs (i0 + 1)).toInt (xs (i0 + 2)).toInt (xs (i0 + 3)).toInt hIv hW.2.1 (hR _) (hR _) (hR _)
      exact case_open (n := n) X Y Z hst hX hbl hbA hL hiL rfl rfl rfl hW hS hl (by omega) (by omega) hk hm ht ho (fun H1 locs1 ls1 hW1 hS1 hl1 => back ad nm nv σ2 H1 locs1 ls1 _ _ hiL (by omega) (by omega) X hI2 hW1 hS1 hl1)
    by_cases q28 : z.toInt = 28
    · refine lv_tableIn (off := 2074) (tgt := 2113) hx hb dL_law_39 (by rw [q28]; decide) (by rw [q28]; decide) (by rw [q28]; rfl) (by decide) ?_
      obtain ⟨n, k, v, σ1, σ2, hk, hm, ht, ho, hI2⟩ := hI.2.2.2.2.2.2.2.2.2.2.2.2.2.2.2.2.2.2.2.2.2.2.2.2.2.2.2.2.1 nm nv σ (xs (i0 + 1)).toInt (xs (i0 + 2)).toInt (xs (i0 + 3)).toInt hIv hW.2.1 (hR _) (hR _) (hR _)
      exact case_isMarked (n := n) X Y Z hst hX hbl hbA hL hiL rfl rfl rfl hW hS hl (by omega) (by omega) hk hm ht ho (fun H1 locs1 ls1 hW1 hS1 hl1 => back ad nm nv σ2 H1 locs1 ls1 _ _ hiL (by omega) (by omega) X hI2 hW1 hS1 hl1)
    by_cases q29 : z.toInt = 29
    · refine lv_tableIn (off := 2161) (tgt := 2200) hx hb dL_law_39 (by rw [q29]; decide) (by rw [q29]; decide) (by rw [q29]; rfl) (by decide) ?_
      obtain ⟨n, k, v, σ1, σ2, hk, hm, ht, ho, hI2⟩ := hI.2.2.2.2.2.2.2.2.2.2.2.2.2.2.2.2.2.2.2.2.2.2.2.2.2.2.2.2.2.1 nm nv σ (xs (i0 + 1)).toInt (xs (i0 + 2)).toInt (xs (i0 + 3)).toInt hIv hW.2.1 (hR _) (hR _) (hR _)
      exact case_covered (n := n) X Y Z hst hX hbl hbA hL hiL rfl rfl rfl hW hS hl (by omega) (by omega) hk hm ht ho (fun H1 locs1 ls1 hW1 hS1 hl1 => back ad nm nv σ2 H1 locs1 ls1 _ _ hiL (by omega) (by omega) X hI2 hW1 hS1 hl1)
    by_cases q30 : z.toInt = 30
    · refine lv_tableIn (off := 2229) (tgt := 2268) hx hb dL_law_39 (by rw [q30]; decide) (by rw [q30]; decide) (by rw [q30]; rfl) (by decide) ?_
      obtain ⟨n, k, v, σ1, σ2, hk, hm, ht, ho, hI2⟩ := hI.2.2.2.2.2.2.2.2.2.2.2.2.2.2.2.2.2.2.2.2.2.2.2.2.2.2.2.2.2.2.1 nm nv σ (xs (i0 + 1)).toInt (xs (i0 + 2)).toInt (xs (i0 + 3)).toInt hIv hW.2.1 (hR _) (hR _) (hR _)
      exact case_blocks (n := n) X Y Z hst hX hbl hbA hL hiL rfl rfl rfl hW hS hl (by omega) (by omega) hk hm ht ho (fun H1 locs1 ls1 hW1 hS1 hl1 => back ad nm nv σ2 H1 locs1 ls1 _ _ hiL (by omega) (by omega) X hI2 hW1 hS1 hl1)
    by_cases q31 : z.toInt = 31
    · refine lv_tableIn (off := 2285) (tgt := 2324) hx hb dL_law_39 (by rw [q31]; decide) (by rw [q31]; decide) (by rw [q31]; rfl) (by decide) ?_
      obtain ⟨n, k, v, σ1, σ2, hk, hm, ht, ho, hI2⟩ := hI.2.2.2.2.2.2.2.2.2.2.2.2.2.2.2.2.2.2.2.2.2.2.2.2.2.2.2.2.2.2.2.1 nm nv σ (xs (i0 + 1)).toInt (xs (i0 + 2)).toInt (xs (i0 + 3)).toInt hIv hW.2.1 (hR _) (hR _) (hR _)
      exact case_kind (n := n) X Y Z hst hX hbl hbA hL hiL rfl rfl rfl hW hS hl (by omega) (by omega) hk hm ht ho (fun H1 locs1 ls1 hW1 hS1 hl1 => back ad nm nv σ2 H1 locs1 ls1 _ _ hiL (by omega) (by omega) X hI2 hW1 hS1 hl1)
    by_cases q32 : z.toInt = 32
    · refine lv_tableIn (off := 2353) (tgt := 2392) hx hb dL_law_39 (by rw [q32]; decide) (by rw [q32]; decide) (by rw [q32]; rfl) (by decide) ?_
      obtain ⟨n, k, v, σ1, σ2, hk, hm, ht, ho, hI2⟩ := hI.2.2.2.2.2.2.2.2.2.2.2.2.2.2.2.2.2.2.2.2.2.2.2.2.2.2.2.2.2.2.2.2.1 nm nv σ (xs (i0 + 1)).toInt (xs (i0 + 2)).toInt (xs (i0 + 3)).toInt hIv hW.2.1 (hR _) (hR _) (hR _)
      exact case_depth (n := n) X Y Z hst hX hbl hbA hL hiL rfl rfl rfl hW hS hl (by omega) (by omega) hk hm ht ho (fun H1 locs1 ls1 hW1 hS1 hl1 => back ad nm nv σ2 H1 locs1 ls1 _ _ hiL (by omega) (by omega) X hI2 hW1 hS1 hl1)
    by_cases q33 : z.toInt = 33
    · refine lv_tableIn (off := 2421) (tgt := 2460) hx hb dL_law_39 (by rw [q33]; decide) (by rw [q33]; decide) (by rw [q33]; rfl) (by decide) ?_
      obtain ⟨n, k, v, σ1, σ2, hk, hm, ht, ho, hI2⟩ := hI.2.2.2.2.2.2.2.2.2.2.2.2.2.2.2.2.2.2.2.2.2.2.2.2.2.2.2.2.2.2.2.2.2.1 nm nv σ (xs (i0 + 1)).toInt (xs (i0 + 2)).toInt (xs (i0 + 3)).toInt hIv hW.2.1 (hR _) (hR _) (hR _)
      exact case_level (n := n) X Y Z hst hX hbl hbA hL hiL rfl rfl rfl hW hS hl (by omega) (by omega) hk hm ht ho (fun H1 locs1 ls1 hW1 hS1 hl1 => back ad nm nv σ2 H1 locs1 ls1 _ _ hiL (by omega) (by omega) X hI2 hW1 hS1 hl1)
    by_cases q34 : z.toInt = 34
    · refine lv_tableIn (off := 2489) (tgt := 2528) hx hb dL_law_39 (by rw [q34]; decide) (by rw [q34]; decide) (by rw [q34]; rfl) (by decide) ?_
      obtain ⟨n, k, v, σ1, σ2, hk, hm, ht, ho, hI2⟩ := hI.2.2.2.2.2.2.2.2.2.2.2.2.2.2.2.2.2.2.2.2.2.2.2.2.2.2.2.2.2.2.2.2.2.2.1 nm nv σ (xs (i0 + 1)).toInt (xs (i0 + 2)).toInt (xs (i0 + 3)).toInt hIv hW.2.1 (hR _) (hR _) (hR _)
      exact case_cursor (n := n) X Y Z hst hX hbl hbA hL hiL rfl rfl rfl hW hS hl (by omega) (by omega) hk hm ht ho (fun H1 locs1 ls1 hW1 hS1 hl1 => back ad nm nv σ2 H1 locs1 ls1 _ _ hiL (by omega) (by omega) X hI2 hW1 hS1 hl1)
    by_cases q35 : z.toInt = 35
    · refine lv_tableIn (off := 2545) (tgt := 2584) hx hb dL_law_39 (by rw [q35]; decide) (by rw [q35]; decide) (by rw [q35]; rfl) (by decide) ?_
      obtain ⟨n, k, v, σ1, σ2, hk, hm, ht, ho, hI2⟩ := hI.2.2.2.2.2.2.2.2.2.2.2.2.2.2.2.2.2.2.2.2.2.2.2.2.2.2.2.2.2.2.2.2.2.2.2.1 nm nv σ (xs (i0 + 1)).toInt (xs (i0 + 2)).toInt (xs (i0 + 3)).toInt hIv hW.2.1 (hR _) (hR _) (hR _)
      exact case_tail (n := n) X Y Z hst hX hbl hbA hL hiL rfl rfl rfl hW hS hl (by omega) (by omega) hk hm ht ho (fun H1 locs1 ls1 hW1 hS1 hl1 => back ad nm nv σ2 H1 locs1 ls1 _ _ hiL (by omega) (by omega) X hI2 hW1 hS1 hl1)
    by_cases q36 : z.toInt = 36
    · refine lv_tableIn (off := 2601) (tgt := 2640) hx hb dL_law_39 (by rw [q36]; decide) (by rw [q36]; decide) (by rw [q36]; rfl) (by decide) ?_
      obtain ⟨n, k, v, σ1, σ2, hk, hm, ht, ho, hI2⟩ := hI.2.2.2.2.2.2.2.2.2.2.2.2.2.2.2.2.2.2.2.2.2.2.2.2.2.2.2.2.2.2.2.2.2.2.2.2.1 nm nv σ (xs (i0 + 1)).toInt (xs (i0 + 2)).toInt (xs (i0 + 3)).toInt hIv hW.2.1 (hR _) (hR _) (hR _)
      exact case_graves (n := n) X Y Z hst hX hbl hbA hL hiL rfl rfl rfl hW hS hl (by omega) (by omega) hk hm ht ho (fun H1 locs1 ls1 hW1 hS1 hl1 => back ad nm nv σ2 H1 locs1 ls1 _ _ hiL (by omega) (by omega) X hI2 hW1 hS1 hl1)
    by_cases q37 : z.toInt = 37
    · refine lv_tableIn (off := 2657) (tgt := 2696) hx hb dL_law_39 (by rw [q37]; decide) (by rw [q37]; decide) (by rw [q37]; rfl) (by decide) ?_
      obtain ⟨n, k, v, σ1, σ2, hk, hm, ht, ho, hI2⟩ := hI.2.2.2.2.2.2.2.2.2.2.2.2.2.2.2.2.2.2.2.2.2.2.2.2.2.2.2.2.2.2.2.2.2.2.2.2.2.1 nm nv σ (xs (i0 + 1)).toInt (xs (i0 + 2)).toInt (xs (i0 + 3)).toInt hIv hW.2.1 (hR _) (hR _) (hR _)
      exact case_buried (n := n) X Y Z hst hX hbl hbA hL hiL rfl rfl rfl hW hS hl (by omega) (by omega) hk hm ht ho (fun H1 locs1 ls1 hW1 hS1 hl1 => back ad nm nv σ2 H1 locs1 ls1 _ _ hiL (by omega) (by omega) X hI2 hW1 hS1 hl1)
    by_cases q38 : z.toInt = 38
    · refine lv_tableIn (off := 2713) (tgt := 2752) hx hb dL_law_39 (by rw [q38]; decide) (by rw [q38]; decide) (by rw [q38]; rfl) (by decide) ?_
      obtain ⟨k, v, σ2, hk, hm, ho, hI2⟩ := hI.2.2.2.2.2.2.2.2.2.2.2.2.2.2.2.2.2.2.2.2.2.2.2.2.2.2.2.2.2.2.2.2.2.2.2.2.2.2.1 nm nv σ (xs (i0 + 1)).toInt (xs (i0 + 2)).toInt (xs (i0 + 3)).toInt hIv hW.2.1 (hR _) (hR _) (hR _)
      exact case_acts X Y Z hst hX hbl hbA hL hiL rfl rfl rfl hW hS hl (by omega) (by omega) hk hm ho (fun H1 locs1 ls1 hW1 hS1 hl1 => back ad nm nv σ2 H1 locs1 ls1 _ _ hiL (by omega) (by omega) X hI2 hW1 hS1 hl1)
    by_cases q39 : z.toInt = 39
    · refine lv_tableIn (off := 2726) (tgt := 2765) hx hb dL_law_39 (by rw [q39]; decide) (by rw [q39]; decide) (by rw [q39]; rfl) (by decide) ?_
      obtain ⟨k, v, σ1, σ2, hk, hm, ht, ho, hI2⟩ := hI.2.2.2.2.2.2.2.2.2.2.2.2.2.2.2.2.2.2.2.2.2.2.2.2.2.2.2.2.2.2.2.2.2.2.2.2.2.2.2.1 nm nv σ (xs (i0 + 1)).toInt (xs (i0 + 2)).toInt (xs (i0 + 3)).toInt hIv hW.2.1 (hR _) (hR _) (hR _)
      exact case_has X Y Z hst hX hbl hbA hL hiL rfl rfl rfl hW hS hl (by omega) (by omega) hk hm ht ho (fun H1 locs1 ls1 hW1 hS1 hl1 => back ad nm nv σ2 H1 locs1 ls1 _ _ hiL (by omega) (by omega) X hI2 hW1 hS1 hl1)
    by_cases q40 : z.toInt = 40
    · refine lv_tableIn (off := 2782) (tgt := 2821) hx hb dL_law_39 (by rw [q40]; decide) (by rw [q40]; decide) (by rw [q40]; rfl) (by decide) ?_
      obtain ⟨n, k, v, σ1, σ2, hk, hm, ht, ho, hI2⟩ := hI.2.2.2.2.2.2.2.2.2.2.2.2.2.2.2.2.2.2.2.2.2.2.2.2.2.2.2.2.2.2.2.2.2.2.2.2.2.2.2.2.1 nm nv σ (xs (i0 + 1)).toInt (xs (i0 + 2)).toInt (xs (i0 + 3)).toInt hIv hW.2.1 (hR _) (hR _) (hR _)
      exact case_actAt (n := n) X Y Z hst hX hbl hbA hL hiL rfl rfl rfl hW hS hl (by omega) (by omega) hk hm ht ho (fun H1 locs1 ls1 hW1 hS1 hl1 => back ad nm nv σ2 H1 locs1 ls1 _ _ hiL (by omega) (by omega) X hI2 hW1 hS1 hl1)
    by_cases q41 : z.toInt = 41
    · refine lv_tableIn (off := 2850) (tgt := 2889) hx hb dL_law_39 (by rw [q41]; decide) (by rw [q41]; decide) (by rw [q41]; rfl) (by decide) ?_
      obtain ⟨k, v, σ1, σ2, hk, hm, ht, ho, hI2⟩ := hI.2.2.2.2.2.2.2.2.2.2.2.2.2.2.2.2.2.2.2.2.2.2.2.2.2.2.2.2.2.2.2.2.2.2.2.2.2.2.2.2.2.1 nm nv σ (xs (i0 + 1)).toInt (xs (i0 + 2)).toInt (xs (i0 + 3)).toInt hIv hW.2.1 (hR _) (hR _) (hR _)
      exact case_act X Y Z hst hX hbl hbA hL hiL rfl rfl rfl hW hS hl (by omega) (by omega) hk hm ht ho (fun H1 locs1 ls1 hW1 hS1 hl1 => back ad nm nv σ2 H1 locs1 ls1 _ _ hiL (by omega) (by omega) X hI2 hW1 hS1 hl1)
    by_cases q42 : z.toInt = 42
    · refine lv_tableIn (off := 2906) (tgt := 2945) hx hb dL_law_39 (by rw [q42]; decide) (by rw [q42]; decide) (by rw [q42]; rfl) (by decide) ?_
      obtain ⟨n, k, v, σ1, σ2, hk, hm, ht, ho, hI2⟩ := hI.2.2.2.2.2.2.2.2.2.2.2.2.2.2.2.2.2.2.2.2.2.2.2.2.2.2.2.2.2.2.2.2.2.2.2.2.2.2.2.2.2.2 nm nv σ (xs (i0 + 1)).toInt (xs (i0 + 2)).toInt (xs (i0 + 3)).toInt hIv hW.2.1 (hR _) (hR _) (hR _)
      exact case_isUndone (n := n) X Y Z hst hX hbl hbA hL hiL rfl rfl rfl hW hS hl (by omega) (by omega) hk hm ht ho (fun H1 locs1 ls1 hW1 hS1 hl1 => back ad nm nv σ2 H1 locs1 ls1 _ _ hiL (by omega) (by omega) X hI2 hW1 hS1 hl1)
    refine lv_tableOut (tgt := 3020) hx hb dL_law_39 (by omega) (by decide) ?_
    exact back ad nm nv σ H locs ls cells slots hiL (by omega) (by omega) X hIv hW hS hl
set_option maxRecDepth 100000 in
set_option maxHeartbeats 8000000 in
theorem law_run (I : Nat → Nat → St → Prop) (hI : AllOps I) (hI0 : I 0 0 sSt) {p : Program} {l : Launch} {e : Env} {s : State} {m : MethodId} {below : List Frame} {meth : Method} {c : Code} {Q : State → Prop} {b L : Nat} {xs : Nat → Int32} (hst : l.stackTraces = false) (hx : p.tables.exec = Jvm.exec) (hb : c.code = cL_law) (hml : c.maxLocals = 7) (hown : s.vm.findClass RL = some m.cls) (hts : ∀ w ∈ lw_tbl, w.before #[Value.ref b] s = true) (hX : va_X b L xs s s.heap) (hbl : b < s.heap.size) (hL : L ≤ 2048) (hgv : (Jvm.Cond.and given_1 narrow_1).before #[Value.ref b] s = true)
    (fin : ∀ (H : Heap) (ls : Array Slot), W p l e room_1 s m #[Value.ref b] below meth c H [] 601024 7293034 Q (F0 m 3027 ls [.int 1])) : W p l e room_1 s m #[Value.ref b] below meth c s.heap [] 0 0 Q (entryFrame m ([Value.ref b] : List Value).toArray 7) := by
  obtain ⟨D, cy, hK⟩ := st_K hts
  have hN := st_NWs hts
  have hG := st_GW hts
  have hcls : ∃ c, s.vm.findClass "Marginnote" = some c := ⟨_, (hK.1 5 _ rfl).2.1⟩
  generalize hA0 : (fun q : Nat => s.heap.size ≤ q) = A
  have hAf : ∀ q, A q → s.heap.size ≤ q := fun q h => by rw [← hA0] at h; exact h
  have hAf2 : ∀ q, s.heap.size ≤ q → A q := fun q h => by rw [← hA0]; exact h
  have Y : TX A s := st_TX (m := m) (b := b) hts hgv (fun a h1 h2 => absurd (hAf _ h2) (by omega)) hcls
  have Z := st_NCs hgv
  have X : Cc p s m #[Value.ref b] c cL_law 7 RL D cy A := ⟨hx, hb, hml, hown, hG, hK, hAf2, hN, hN.2.2.2.2⟩
  rw [lg_entry_eq]
  have hl := lv_entry [Value.ref b] (n := 7) (Nat.le_of_ble_eq_true rfl)
  generalize ((lg_sl [Value.ref b] ++ List.replicate (7 - (lg_sl [Value.ref b]).length) Slot.unset).toArray) = ls at hl ⊢
  have hl : lv_has ls 7 [(0, .ref b)] := hl
  have hP : va_P D vwCl [] s.heap := fun k q h => by simp at h
  have hD : va_D A [] := ⟨fun i j p q h => by simp at h, fun k q h => by simp at h⟩
  have hS : va_S A s.heap s.heap [] := va_S.rf
  refine c_new (ci := 5) (fs := [.null, .null, .null, .null, .null, .null, .null, .null, .null, .int 0, .int 0]) X hP hD hS i_X5 tyX5 tyX5_ok (hG _ mw16) (hG _ mw17) (hG _ mw1) rfl (fun j hj => by rcases (show j = 0 ∨ j = 1 ∨ j = 2 ∨ j = 3 ∨ j = 4 ∨ j = 5 ∨ j = 6 ∨ j = 7 ∨ j = 8 ∨ j = 9 ∨ j = 10 by omega) with rfl | rfl | rfl | rfl | rfl | rfl | rfl | rfl | rfl | rfl | rfl <;> rfl) (Nat.le_of_ble_eq_true rfl) (Nat.le_of_ble_eq_true rfl) dL_law_0 (fun q5 H hP hD hS => ?_)
  refine lv_dup hx hb dL_law_3 rfl ?_
  refine c_call (W0 := []) (g := gX5 cy) (As := []) (rest := [.ref q5]) X hP hD hS hl.1 (cg_G mw20) (hG _ mw1) (hG _ mw18) (hG _ mw19) rfl hdn_X5_init ⟨rfl, rfl, (Nat.le_of_ble_eq_true rfl), (Nat.le_of_ble_eq_true rfl)⟩ cc_X5 rfl rfl (Nat.le_of_ble_eq_true rfl) dL_law_4 ⟨(Nat.le_of_ble_eq_true rfl), (Nat.le_of_ble_eq_true rfl)⟩ (fun r5 H locs r50 hP hD hS => ?_)
  refine lv_astore_n (lv' := [(1, .ref q5), (0, .ref b)]) hx hb dL_law_7 rfl hl (by decide) rfl (fun ls hl => ?_)
  refine c_new (ci := 6) (fs := [.int 0, .int 0, .null, .null, .null, .null, .null, .null, .null, .null, .int 0, .null, .null, .null, .null, .null, .null, .null, .null, .null, .null, .int 0, .null, .null, .null, .null, .int 0, .null, .null, .int 0, .null, .null, .int 0, .null, .null, .null, .null, .null, .null, .null, .null, .null, .null, .null, .null]) X hP hD hS i_X6 tyX6 tyX6_ok (hG _ mw1039) (hG _ mw1040) (hG _ mw6) rfl (fun j hj => by rcases (show j = 0 ∨ j = 1 ∨ j = 2 ∨ j = 3 ∨ j = 4 ∨ j = 5 ∨ j = 6 ∨ j = 7 ∨ j = 8 ∨ j = 9 ∨ j = 10 ∨ j = 11 ∨ j = 12 ∨ j = 13 ∨ j = 14 ∨ j = 15 ∨ j = 16 ∨ j = 17 ∨ j = 18 ∨ j = 19 ∨ j = 20 ∨ j = 21 ∨ j = 22 ∨ j = 23 ∨ j = 24 ∨ j = 25 ∨ j = 26 ∨ j = 27 ∨ j = 28 ∨ j = 29 ∨ j = 30 ∨ j = 31 ∨ j = 32 ∨ j = 33 ∨ j = 34 ∨ j = 35 ∨ j = 36 ∨ j = 37 ∨ j = 38 ∨ j = 39 ∨ j = 40 ∨ j = 41 ∨ j = 42 ∨ j = 43 ∨ j = 44 by omega) with rfl | rfl | rfl | rfl | rfl | rfl | rfl | rfl | rfl | rfl | rfl | rfl | rfl | rfl | rfl | rfl | rfl | rfl | rfl | rfl | rfl | rfl | rfl | rfl | rfl | rfl | rfl | rfl | rfl | rfl | rfl | rfl | rfl | rfl | rfl | rfl | rfl | rfl | rfl | rfl | rfl | rfl | rfl | rfl | rfl <;> rfl) (Nat.le_of_ble_eq_true rfl) (Nat.le_of_ble_eq_true rfl) dL_law_8 (fun q6 H hP hD hS => ?_)
  refine lv_dup hx hb dL_law_11 rfl ?_
  refine c_call (W0 := [] ++ gX5 cy r5) (g := gX6 cy) (As := []) (rest := [.ref q6]) X hP hD hS hl.1 (cg_G mw1043) (hG _ mw6) (hG _ mw1041) (hG _ mw1042) rfl hdn_X6_init ⟨rfl, rfl, (Nat.le_of_ble_eq_true rfl), (Nat.le_of_ble_eq_true rfl)⟩ cc_X6 rfl rfl (Nat.le_of_ble_eq_true rfl) dL_law_12 ⟨(Nat.le_of_ble_eq_true rfl), (Nat.le_of_ble_eq_true rfl)⟩ (fun r6 H locs r60 hP hD hS => ?_)
  refine lv_astore_n (lv' := [(2, .ref q6), (1, .ref q5), (0, .ref b)]) hx hb dL_law_15 rfl hl (by decide) rfl (fun ls hl => ?_)
  refine m_const (v := 1) hx hb dL_law_16 rfl ?_
  refine c_newa (atype := .long) (ty := .long) (k := 3) (t0 := 2) (N' := 1) (f0 := (1, .inr (.inl (fun _ => 0)))) X hP hD hS (hG _ mw1513) rfl rfl (fun cA => rfl) rfl (Nat.le_of_ble_eq_true rfl) (show 1 * 8 ≤ 536870912 from Nat.le_of_ble_eq_true rfl) (Nat.le_of_ble_eq_true rfl) (Nat.le_of_ble_eq_true rfl) dL_law_17 (fun q7 H hP hD hS => ?_)
  refine lv_astore_n (lv' := [(3, .ref q7), (2, .ref q6), (1, .ref q5), (0, .ref b)]) hx hb dL_law_19 rfl hl (by decide) rfl (fun ls hl => ?_)
  refine m_const (v := 0) hx hb dL_law_20 rfl ?_
  refine lv_istore (lv' := [(4, .int (i32 0)), (3, .ref q7), (2, .ref q6), (1, .ref q5), (0, .ref b)]) hx hb dL_law_21 hl (by decide) rfl (fun ls hl => ?_)
  have hP : va_P D vwCl (sL cy r5 r6 q7) H := hP
  have hD : va_D A (sL cy r5 r6 q7) := hD
  have hW := start_P hP
  have hDd := start_D hD
  have X1 : Cx p s m #[Value.ref b] c cL_law 7 RL D cy (sAd r5 r6 q7) 0 0 A := ⟨hx, hb, hml, hown, hG, hK, hDd, hAf2, hN⟩
  have e5 : sAd r5 r6 q7 0 = q5 := r50
  have e6 : sAd r5 r6 q7 230 = q6 := r60
  have e7 : sAd r5 r6 q7 290 = q7 := rfl
  have hl : lv_has ls 7 [(0, .ref b), (1, .ref (sAd r5 r6 q7 0)), (2, .ref (sAd r5 r6 q7 230)), (3, .ref (sAd r5 r6 q7 290)), (4, .int (i32 ((0 : Nat) : Int)))] := by
    rw [e5, e6, e7]; exact lv_sub hl [4, 3, 2, 1, 0] rfl
  exact law_lp I hI Y Z hst hX hbl (fun h => absurd (hAf _ h) (by omega)) hL hAf fin (L / 4 + 2) 0 0 0 (sAd r5 r6 q7) sSt H locs ls _ _ (by omega) (Nat.zero_le _) (by show 0 + 1 + 126 + 1 + 38 + 1 + 6 * (L / 4 + 2) ≤ 601024; omega) (by show 0 + 11 + 15822 + 45 + 73951 + 1 + 200 * (L / 4 + 2) ≤ 7293034; omega) X1 hI0 hW hS hl
