theorem gc_L_69 : GoodIn GW (wsS RL 69 yL_low (wsG yL_low cL_low 2 (some .int))) := cg_S mw784 mw785 mw0 mw786
theorem gc_L_136 : GoodIn GW (wsV RL 136 RX5 yX5_setKind (wsG yX5_setKind cX5_setKind 7 (some .int))) := cg_V mw566 mw567 mw568 mw1 mw569
theorem gc_L_139 : GoodIn GW (wsV RL 139 RX5 yX5_kind (wsG yX5_kind cX5_kind 4 (some .int))) := cg_V mw744 mw745 mw746 mw1 mw747
theorem gc_L_142 : GoodIn GW (wsV RL 142 RX5 yX5_nest (wsG yX5_nest cX5_nest 8 (some .int))) := cg_V mw584 mw585 mw586 mw1 mw587
theorem gc_L_112 : GoodIn GW (wsV RL 112 RX5 yX5_undo (wsG yX5_undo cX5_undo 4 (some .int))) := cg_V mw611 mw612 mw613 mw1 mw614
theorem gc_L_115 : GoodIn GW (wsV RL 115 RX5 yX5_isUndone (wsG yX5_isUndone cX5_isUndone 4 (some .boolean))) := cg_V mw777 mw778 mw779 mw1 mw780
theorem gc_L_119 : GoodIn GW (wsV RL 119 RX5 yX5_act (wsG yX5_act cX5_act 2 (some .int))) := cg_V mw772 mw773 mw774 mw1 mw775
theorem gc_L_102 : GoodIn GW (wsV RL 102 RX5 yX5_send (wsG yX5_send cX5_send 5 (some .int))) := cg_V mw642 mw643 mw644 mw1 mw645
theorem gc_L_105 : GoodIn GW (wsV RL 105 RX5 yX5_deliver (wsG yX5_deliver cX5_deliver 7 (some .int))) := cg_V mw680 mw681 mw682 mw1 mw683
theorem gc_L_96 : GoodIn GW (wsV RL 96 RX5 yX5_comment (wsG yX5_comment cX5_comment 3 (some .int))) := cg_V mw561 mw562 mw563 mw1 mw564
theorem gc_L_99 : GoodIn GW (wsV RL 99 RX5 yX5_covered (wsG yX5_covered cX5_covered 4 (some .int))) := cg_V mw722 mw723 mw724 mw1 mw725
theorem gc_L_86 : GoodIn GW (wsV RL 86 RX5 yX5_moveTo (wsG yX5_moveTo cX5_moveTo 7 (some .int))) := cg_V mw529 mw530 mw531 mw1 mw532
theorem gc_L_89 : GoodIn GW (wsV RL 89 RX5 yX5_extend (wsG yX5_extend cX5_extend 6 (some .int))) := cg_V mw544 mw545 mw546 mw1 mw547
theorem gc_L_76 : GoodIn GW (wsV RL 76 RX5 yX5_split (wsG yX5_split cX5_split 3 (some .int))) := cg_V mw508 mw509 mw510 mw1 mw511
theorem gc_L_72 : GoodIn GW (wsV RL 72 RX5 yX5_type (wsG yX5_type cX5_type 4 (some .int))) := cg_V mw212 mw213 mw214 mw1 mw215
theorem gc_L_82 : GoodIn GW (wsV RL 82 RX5 yX5_acts (wsG yX5_acts cX5_acts 1 (some .int))) := cg_V mw764 mw765 mw766 mw1 mw767
theorem gc_L_145 : GoodIn GW (wsS RL 145 yL_isSite (wsG yL_isSite cL_isSite 5 (some .boolean))) := cg_S mw821 mw822 mw0 mw823
theorem gc_L_125 : GoodIn GW (wsV RL 125 RX5 yX5_propose (wsG yX5_propose cX5_propose 5 (some .boolean))) := cg_V mw588 mw589 mw590 mw1 mw591
theorem gc_L_122 : GoodIn GW (wsV RL 122 RX5 yX5_redo (wsG yX5_redo cX5_redo 4 (some .int))) := cg_V mw631 mw632 mw633 mw1 mw634
theorem gc_L_108 : GoodIn GW (wsS RL 108 yL_areAlike (wsG yL_areAlike cL_areAlike 5 (some .boolean))) := cg_S mw788 mw789 mw0 mw790
theorem gc_L_92 : GoodIn GW (wsV RL 92 RX5 yX5_mark (wsG yX5_mark cX5_mark 5 (some .int))) := cg_V mw548 mw549 mw550 mw1 mw551
theorem gc_L_133 : GoodIn GW (wsV RL 133 RX5 yX5_decide (wsG yX5_decide cX5_decide 5 (some .int))) := cg_V mw592 mw593 mw594 mw1 mw595
theorem gc_L_129 : GoodIn GW (wsV RL 129 RX5 yX5_allow (wsG yX5_allow cX5_allow 6 (some .int))) := cg_V mw606 mw607 mw608 mw1 mw609
theorem gc_L_79 : GoodIn GW (wsV RL 79 RX5 yX5_erase (wsG yX5_erase cX5_erase 10 (some .int))) := cg_V mw512 mw513 mw514 mw1 mw515
theorem hd_L_low : yL_low.cls = RL ∧ yL_low.cls ≠ "java/lang/invoke/MethodHandle" ∧ yL_low.cls ≠ "java/lang/invoke/VarHandle" ∧ (parseMethodDescriptor yL_low.desc).map (fun d => d.parameters.length) = some 2 := by decide +kernel
theorem hd_X5_setKind : yX5_setKind.cls = RX5 ∧ yX5_setKind.cls ≠ "java/lang/invoke/MethodHandle" ∧ yX5_setKind.cls ≠ "java/lang/invoke/VarHandle" ∧ (parseMethodDescriptor yX5_setKind.desc).map (fun d => d.parameters.length) = some 3 := by decide +kernel
theorem hd_X5_kind : yX5_kind.cls = RX5 ∧ yX5_kind.cls ≠ "java/lang/invoke/MethodHandle" ∧ yX5_kind.cls ≠ "java/lang/invoke/VarHandle" ∧ (parseMethodDescriptor yX5_kind.desc).map (fun d => d.parameters.length) = some 2 := by decide +kernel
theorem hd_X5_nest : yX5_nest.cls = RX5 ∧ yX5_nest.cls ≠ "java/lang/invoke/MethodHandle" ∧ yX5_nest.cls ≠ "java/lang/invoke/VarHandle" ∧ (parseMethodDescriptor yX5_nest.desc).map (fun d => d.parameters.length) = some 3 := by decide +kernel
theorem hd_X5_undo : yX5_undo.cls = RX5 ∧ yX5_undo.cls ≠ "java/lang/invoke/MethodHandle" ∧ yX5_undo.cls ≠ "java/lang/invoke/VarHandle" ∧ (parseMethodDescriptor yX5_undo.desc).map (fun d => d.parameters.length) = some 1 := by decide +kernel
theorem hd_X5_isUndone : yX5_isUndone.cls = RX5 ∧ yX5_isUndone.cls ≠ "java/lang/invoke/MethodHandle" ∧ yX5_isUndone.cls ≠ "java/lang/invoke/VarHandle" ∧ (parseMethodDescriptor yX5_isUndone.desc).map (fun d => d.parameters.length) = some 2 := by decide +kernel
theorem hd_X5_act : yX5_act.cls = RX5 ∧ yX5_act.cls ≠ "java/lang/invoke/MethodHandle" ∧ yX5_act.cls ≠ "java/lang/invoke/VarHandle" ∧ (parseMethodDescriptor yX5_act.desc).map (fun d => d.parameters.length) = some 1 := by decide +kernel
theorem hd_X5_send : yX5_send.cls = RX5 ∧ yX5_send.cls ≠ "java/lang/invoke/MethodHandle" ∧ yX5_send.cls ≠ "java/lang/invoke/VarHandle" ∧ (parseMethodDescriptor yX5_send.desc).map (fun d => d.parameters.length) = some 2 := by decide +kernel
theorem hd_X5_deliver : yX5_deliver.cls = RX5 ∧ yX5_deliver.cls ≠ "java/lang/invoke/MethodHandle" ∧ yX5_deliver.cls ≠ "java/lang/invoke/VarHandle" ∧ (parseMethodDescriptor yX5_deliver.desc).map (fun d => d.parameters.length) = some 1 := by decide +kernel
theorem hd_X5_comment : yX5_comment.cls = RX5 ∧ yX5_comment.cls ≠ "java/lang/invoke/MethodHandle" ∧ yX5_comment.cls ≠ "java/lang/invoke/VarHandle" ∧ (parseMethodDescriptor yX5_comment.desc).map (fun d => d.parameters.length) = some 1 := by decide +kernel
theorem hd_X5_covered : yX5_covered.cls = RX5 ∧ yX5_covered.cls ≠ "java/lang/invoke/MethodHandle" ∧ yX5_covered.cls ≠ "java/lang/invoke/VarHandle" ∧ (parseMethodDescriptor yX5_covered.desc).map (fun d => d.parameters.length) = some 2 := by decide +kernel
theorem hd_X5_moveTo : yX5_moveTo.cls = RX5 ∧ yX5_moveTo.cls ≠ "java/lang/invoke/MethodHandle" ∧ yX5_moveTo.cls ≠ "java/lang/invoke/VarHandle" ∧ (parseMethodDescriptor yX5_moveTo.desc).map (fun d => d.parameters.length) = some 2 := by decide +kernel
theorem hd_X5_extend : yX5_extend.cls = RX5 ∧ yX5_extend.cls ≠ "java/lang/invoke/MethodHandle" ∧ yX5_extend.cls ≠ "java/lang/invoke/VarHandle" ∧ (parseMethodDescriptor yX5_extend.desc).map (fun d => d.parameters.length) = some 2 := by decide +kernel
theorem hd_X5_split : yX5_split.cls = RX5 ∧ yX5_split.cls ≠ "java/lang/invoke/MethodHandle" ∧ yX5_split.cls ≠ "java/lang/invoke/VarHandle" ∧ (parseMethodDescriptor yX5_split.desc).map (fun d => d.parameters.length) = some 1 := by decide +kernel
theorem hd_X5_type : yX5_type.cls = RX5 ∧ yX5_type.cls ≠ "java/lang/invoke/MethodHandle" ∧ yX5_type.cls ≠ "java/lang/invoke/VarHandle" ∧ (parseMethodDescriptor yX5_type.desc).map (fun d => d.parameters.length) = some 2 := by decide +kernel
theorem hd_X5_acts : yX5_acts.cls = RX5 ∧ yX5_acts.cls ≠ "java/lang/invoke/MethodHandle" ∧ yX5_acts.cls ≠ "java/lang/invoke/VarHandle" ∧ (parseMethodDescriptor yX5_acts.desc).map (fun d => d.parameters.length) = some 0 := by decide +kernel
theorem hd_L_isSite : yL_isSite.cls = RL ∧ yL_isSite.cls ≠ "java/lang/invoke/MethodHandle" ∧ yL_isSite.cls ≠ "java/lang/invoke/VarHandle" ∧ (parseMethodDescriptor yL_isSite.desc).map (fun d => d.parameters.length) = some 3 := by decide +kernel
theorem hd_X5_propose : yX5_propose.cls = RX5 ∧ yX5_propose.cls ≠ "java/lang/invoke/MethodHandle" ∧ yX5_propose.cls ≠ "java/lang/invoke/VarHandle" ∧ (parseMethodDescriptor yX5_propose.desc).map (fun d => d.parameters.length) = some 2 := by decide +kernel
theorem hd_X5_redo : yX5_redo.cls = RX5 ∧ yX5_redo.cls ≠ "java/lang/invoke/MethodHandle" ∧ yX5_redo.cls ≠ "java/lang/invoke/VarHandle" ∧ (parseMethodDescriptor yX5_redo.desc).map (fun d => d.parameters.length) = some 1 := by decide +kernel
theorem hd_L_areAlike : yL_areAlike.cls = RL ∧ yL_areAlike.cls ≠ "java/lang/invoke/MethodHandle" ∧ yL_areAlike.cls ≠ "java/lang/invoke/VarHandle" ∧ (parseMethodDescriptor yL_areAlike.desc).map (fun d => d.parameters.length) = some 3 := by decide +kernel
theorem hd_X5_mark : yX5_mark.cls = RX5 ∧ yX5_mark.cls ≠ "java/lang/invoke/MethodHandle" ∧ yX5_mark.cls ≠ "java/lang/invoke/VarHandle" ∧ (parseMethodDescriptor yX5_mark.desc).map (fun d => d.parameters.length) = some 3 := by decide +kernel
theorem hd_X5_decide : yX5_decide.cls = RX5 ∧ yX5_decide.cls ≠ "java/lang/invoke/MethodHandle" ∧ yX5_decide.cls ≠ "java/lang/invoke/VarHandle" ∧ (parseMethodDescriptor yX5_decide.desc).map (fun d => d.parameters.length) = some 3 := by decide +kernel
theorem hd_X5_allow : yX5_allow.cls = RX5 ∧ yX5_allow.cls ≠ "java/lang/invoke/MethodHandle" ∧ yX5_allow.cls ≠ "java/lang/invoke/VarHandle" ∧ (parseMethodDescriptor yX5_allow.desc).map (fun d => d.parameters.length) = some 3 := by decide +kernel
theorem hd_X5_erase : yX5_erase.cls = RX5 ∧ yX5_erase.cls ≠ "java/lang/invoke/MethodHandle" ∧ yX5_erase.cls ≠ "java/lang/invoke/VarHandle" ∧ (parseMethodDescriptor yX5_erase.desc).map (fun d => d.parameters.length) = some 1 := by decide +kernel
noncomputable def fL_law_J1233 (n nm nv : Nat) (σ : St) (x6 x7 x8 : Int) (x3 : Int) (x4 : Int) (x5 : Int) (x14 : Int) : Option (Int × Int × Int × Nat × St) := if x14 = 0 then (none) else (b1 (fX5_acts σ) (fun v108 => if v108 ≠ x3 then (none) else (vl (bshr x8 12) (fun v109 => b1 (fL_low v109 4) (fun v110 => vl (bshr x8 14) (fun v111 => b1 (fL_low v111 97) (fun v112 => b2 (fL_isSite n σ v110 v112) (fun v114 σ113 => if v114 ≠ 0 then (some (x3, x4, x5, nm, σ113)) else (none)))))))))
noncomputable def fL_law_J1220 (n nm nv : Nat) (σ : St) (x6 x7 x8 : Int) (x3 : Int) (x4 : Int) (x5 : Int) (x10 : Int) (t0 : Int) : Option (Int × Int × Int × Nat × St) := ck (x3 + 2) (fun v115 => rd σ 290 4 x10 (fun v116 => ck (v116 + 2) (fun v117 => wr σ 290 4 x10 v117 (fun σ118 => fL_law_J1233 n nm nv σ118 x6 x7 x8 v115 x4 x5 t0))))
noncomputable def fL_law_J1219 (n nm nv : Nat) (σ : St) (x6 x7 x8 : Int) (x3 : Int) (x4 : Int) (x5 : Int) (x10 : Int) : Option (Int × Int × Int × Nat × St) := fL_law_J1220 n nm nv σ x6 x7 x8 x3 x4 x5 x10 0
noncomputable def fL_law_J1112 (n nm nv : Nat) (σ : St) (x6 x7 x8 : Int) (x3 : Int) (x4 : Int) (x5 : Int) (x14 : Int) : Option (Int × Int × Int × Nat × St) := fL_law_J1233 n nm nv σ x6 x7 x8 x3 x4 x5 x14
noncomputable def fL_law_J1107 (n nm nv : Nat) (σ : St) (x6 x7 x8 : Int) (x3 : Int) (x4 : Int) (x5 : Int) (t0 : Int) : Option (Int × Int × Int × Nat × St) := ck (x3 + 1) (fun v203 => fL_law_J1112 n nm nv σ x6 x7 x8 v203 x4 x5 t0)
noncomputable def fL_law_J1106 (n nm nv : Nat) (σ : St) (x6 x7 x8 : Int) (x3 : Int) (x4 : Int) (x5 : Int) : Option (Int × Int × Int × Nat × St) := fL_law_J1107 n nm nv σ x6 x7 x8 x3 x4 x5 0
noncomputable def fL_law_J1070 (n nm nv : Nat) (σ : St) (x6 x7 x8 : Int) (x3 : Int) (x4 : Int) (x5 : Int) (x16 : Int) (t0 : Int) : Option (Int × Int × Int × Nat × St) := b2 (zw (fX5_open n σ 0)) (fun v167 σ166 => b2 (zw (fX5_decide n σ166 0 x16 t0)) (fun v169 σ168 => if v169 ≠ x3 then (fL_law_J1106 n nm nv σ168 x6 x7 x8 x3 x4 x5) else (b2 (zw (fX5_open n σ168 0)) (fun v171 σ170 => if v167 ≤ v171 then (fL_law_J1106 n nm nv σ170 x6 x7 x8 x3 x4 x5) else (fL_law_J1107 n nm nv σ170 x6 x7 x8 x3 x4 x5 1)))))
noncomputable def fL_law_J1024 (n nm nv : Nat) (σ : St) (x6 x7 x8 : Int) (x3 : Int) (x4 : Int) (x5 : Int) (x14 : Int) (t0 : Int) : Option (Int × Int × Int × Nat × St) := if t0 < 0 then (fL_law_J1112 n nm nv σ x6 x7 x8 x3 x4 x5 x14) else (b2 (zw (fX5_proposed n σ 0 t0)) (fun v120 σ119 => irm v120 2 (fun v121 => if v121 ≠ 1 then (fL_law_J1112 n nm nv σ119 x6 x7 x8 x3 x4 x5 x14) else (b2 (zw (fX5_element n σ119 0 t0)) (fun v123 σ122 => vl (bshr x8 9) (fun v124 => b1 (fL_low v124 2) (fun v125 => if v125 ≠ 0 then (fL_law_J1070 n nm nv σ122 x6 x7 x8 x3 x4 x5 v123 0) else (fL_law_J1070 n nm nv σ122 x6 x7 x8 x3 x4 x5 v123 1))))))))
noncomputable def fL_law_J990 (n nm nv : Nat) (σ : St) (x6 x7 x8 : Int) (x3 : Int) (x4 : Int) (x5 : Int) (x14 : Int) : Option (Int × Int × Int × Nat × St) := fL_law_J1233 n nm nv σ x6 x7 x8 x3 x4 x5 x14
noncomputable def fL_law_J985 (n nm nv : Nat) (σ : St) (x6 x7 x8 : Int) (x3 : Int) (x4 : Int) (x5 : Int) (t0 : Int) : Option (Int × Int × Int × Nat × St) := ck (x3 + 1) (fun v204 => fL_law_J990 n nm nv σ x6 x7 x8 v204 x4 x5 t0)
noncomputable def fL_law_J984 (n nm nv : Nat) (σ : St) (x6 x7 x8 : Int) (x3 : Int) (x4 : Int) (x5 : Int) : Option (Int × Int × Int × Nat × St) := fL_law_J985 n nm nv σ x6 x7 x8 x3 x4 x5 0
noncomputable def fL_law_J921 (n nm nv : Nat) (σ : St) (x6 x7 x8 : Int) (x3 : Int) (x4 : Int) (x5 : Int) (t0 : Int) : Option (Int × Int × Int × Nat × St) := vl (bshr x8 5) (fun v172 => b1 (fL_low v172 2) (fun v173 => if v173 ≠ 0 then (fL_law_J990 n nm nv σ x6 x7 x8 x3 x4 x5 t0) else (if t0 = 0 then (fL_law_J984 n nm nv σ x6 x7 x8 x3 x4 x5) else (vl (bshr x8 6) (fun v174 => b2 (zw (fX5_blocks n σ 0)) (fun v176 σ175 => b1 (fL_low v174 v176) (fun v177 => vl (bshr x8 9) (fun v178 => b1 (fL_low v178 3) (fun v179 => ck (1 + v179) (fun v180 => vl (bshr x8 11) (fun v181 => b1 (fL_low v181 2) (fun v182 => b2 (zw (fX5_allow n σ175 v177 v180 v182)) (fun v184 σ183 => if v184 ≠ x3 then (fL_law_J984 n nm nv σ183 x6 x7 x8 x3 x4 x5) else (fL_law_J985 n nm nv σ183 x6 x7 x8 x3 x4 x5 1))))))))))))))
noncomputable def fL_law_J892 (n nm nv : Nat) (σ : St) (x6 x7 x8 : Int) (x3 : Int) (x4 : Int) (x5 : Int) (x10 : Int) (t0 : Int) : Option (Int × Int × Int × Nat × St) := b2 (zw (fX5_propose σ x10 t0)) (fun v127 σ126 => b2 (zw (fX5_propose σ126 x10 t0)) (fun v129 σ128 => if v129 ≠ t0 then (fL_law_J921 n nm nv σ128 x6 x7 x8 x3 x4 x5 0) else (fL_law_J921 n nm nv σ128 x6 x7 x8 x3 x4 x5 1)))
noncomputable def fL_law_J866 (n nm nv : Nat) (σ : St) (x6 x7 x8 : Int) (x3 : Int) (x4 : Int) (x5 : Int) (x14 : Int) : Option (Int × Int × Int × Nat × St) := fL_law_J1233 n nm nv σ x6 x7 x8 x3 x4 x5 x14
noncomputable def fL_law_J853 (n nm nv : Nat) (σ : St) (x6 x7 x8 : Int) (x3 : Int) (x4 : Int) (x5 : Int) (x10 : Int) (t0 : Int) : Option (Int × Int × Int × Nat × St) := ck (x3 + 1) (fun v185 => rd σ 290 4 x10 (fun v186 => ck (v186 + 1) (fun v187 => wr σ 290 4 x10 v187 (fun σ188 => fL_law_J866 n nm nv σ188 x6 x7 x8 v185 x4 x5 t0))))
noncomputable def fL_law_J852 (n nm nv : Nat) (σ : St) (x6 x7 x8 : Int) (x3 : Int) (x4 : Int) (x5 : Int) (x10 : Int) : Option (Int × Int × Int × Nat × St) := fL_law_J853 n nm nv σ x6 x7 x8 x3 x4 x5 x10 0
noncomputable def fL_law_J797 (n nm nv : Nat) (σ : St) (x6 x7 x8 : Int) (x3 : Int) (x4 : Int) (x5 : Int) (x10 : Int) (x15 : Int) (t0 : Int) : Option (Int × Int × Int × Nat × St) := ck (x3 + 1) (fun v130 => rd σ 290 4 x10 (fun v131 => ck (v131 - 1) (fun v132 => wr σ 290 4 x10 v132 (fun σ133 => vl (bshr x8 4) (fun v134 => b1 (fL_low v134 2) (fun v135 => if v135 ≠ 0 then (fL_law_J866 n nm nv σ133 x6 x7 x8 v130 x4 x5 t0) else (if t0 = 0 then (fL_law_J852 n nm nv σ133 x6 x7 x8 v130 x4 x5 x10) else (b2 (zw (fX5_redo n σ133 x10)) (fun v137 σ136 => if v137 ≠ x15 then (fL_law_J852 n nm nv σ136 x6 x7 x8 v130 x4 x5 x10) else (b2 (zw (fX5_isUndone n σ136 x10 x15)) (fun v139 σ138 => if v139 ≠ 0 then (fL_law_J852 n nm nv σ138 x6 x7 x8 v130 x4 x5 x10) else (fL_law_J853 n nm nv σ138 x6 x7 x8 v130 x4 x5 x10 1))))))))))))
noncomputable def fL_law_J796 (n nm nv : Nat) (σ : St) (x6 x7 x8 : Int) (x3 : Int) (x4 : Int) (x5 : Int) (x10 : Int) (x15 : Int) : Option (Int × Int × Int × Nat × St) := fL_law_J797 n nm nv σ x6 x7 x8 x3 x4 x5 x10 x15 0
noncomputable def fL_law_J737 (n nm nv : Nat) (σ : St) (x6 x7 x8 : Int) (x3 : Int) (x4 : Int) (x5 : Int) (t0 : Int) : Option (Int × Int × Int × Nat × St) := fL_law_J1233 n nm nv σ x6 x7 x8 x3 x4 x5 t0
noncomputable def fL_law_J736 (n nm nv : Nat) (σ : St) (x6 x7 x8 : Int) (x3 : Int) (x4 : Int) (x5 : Int) : Option (Int × Int × Int × Nat × St) := fL_law_J737 n nm nv σ x6 x7 x8 x3 x4 x5 0
noncomputable def fL_law_J687 (n nm nv : Nat) (σ : St) (x6 x7 x8 : Int) (x3 : Int) (x4 : Int) (x5 : Int) (x10 : Int) (x11 : Int) (t0 : Int) : Option (Int × Int × Int × Nat × St) := b2 (zw (fX5_send n nm nv σ x11 x10)) (fun v141 σ140 => b2 (zw (fX5_deliver n σ140 v141)) (fun v143 σ142 => ck (x4 + 2) (fun v144 => if t0 = 0 then (fL_law_J736 n (nm + 1) nv σ142 x6 x7 x8 x3 v144 x5) else (ck (v144 - 1) (fun v145 => b2 (zw (fX5_deliver n σ142 v145)) (fun v147 σ146 => if v147 ≠ 0 then (fL_law_J736 n (nm + 1) nv σ146 x6 x7 x8 x3 v144 x5) else (b2 (fL_areAlike n σ146 x10 x11) (fun v149 σ148 => if v149 = 0 then (fL_law_J736 n (nm + 1) nv σ148 x6 x7 x8 x3 v144 x5) else (fL_law_J737 n (nm + 1) nv σ148 x6 x7 x8 x3 v144 x5 1)))))))))
noncomputable def fL_law_J617 (n nm nv : Nat) (σ : St) (x6 x7 x8 : Int) (x3 : Int) (x4 : Int) (x5 : Int) (x10 : Int) (t0 : Int) : Option (Int × Int × Int × Nat × St) := ck (x5 + 1) (fun v189 => ck (x3 + 1) (fun v190 => rd σ 290 4 x10 (fun v191 => ck (v191 + 1) (fun v192 => wr σ 290 4 x10 v192 (fun σ193 => fL_law_J1233 n nm nv σ193 x6 x7 x8 v190 x4 v189 t0)))))
noncomputable def fL_law_J616 (n nm nv : Nat) (σ : St) (x6 x7 x8 : Int) (x3 : Int) (x4 : Int) (x5 : Int) (x10 : Int) : Option (Int × Int × Int × Nat × St) := fL_law_J617 n nm nv σ x6 x7 x8 x3 x4 x5 x10 0
noncomputable def fL_law_J609 (n nm nv : Nat) (σ : St) (x6 x7 x8 : Int) (x3 : Int) (x4 : Int) (x5 : Int) (x10 : Int) (t0 : Int) (t1 : Int) : Option (Int × Int × Int × Nat × St) := if t1 ≠ t0 then (fL_law_J616 n nm nv σ x6 x7 x8 x3 x4 x5 x10) else (fL_law_J617 n nm nv σ x6 x7 x8 x3 x4 x5 x10 1)
noncomputable def fL_law_J524 (n nm nv : Nat) (σ : St) (x6 x7 x8 : Int) (x3 : Int) (x4 : Int) (x5 : Int) (x10 : Int) (t0 : Int) : Option (Int × Int × Int × Nat × St) := ck (x3 + 1) (fun v194 => rd σ 290 4 x10 (fun v195 => ck (v195 + 1) (fun v196 => wr σ 290 4 x10 v196 (fun σ197 => fL_law_J1233 n nm nv σ197 x6 x7 x8 v194 x4 x5 t0))))
noncomputable def fL_law_J512 (n nm nv : Nat) (σ : St) (x6 x7 x8 : Int) (x3 : Int) (x4 : Int) (x5 : Int) (x10 : Int) (t0 : Int) (t1 : Int) (t2 : Int) : Option (Int × Int × Int × Nat × St) := b2 (zw (fX5_mark n σ t2 t1 t0)) (fun v151 σ150 => if v151 ≠ x3 then (fL_law_J524 n nm nv σ150 x6 x7 x8 x3 x4 x5 x10 0) else (fL_law_J524 n nm nv σ150 x6 x7 x8 x3 x4 x5 x10 1))
noncomputable def fL_law_J468 (n nm nv : Nat) (σ : St) (x6 x7 x8 : Int) (x3 : Int) (x4 : Int) (x5 : Int) (t0 : Int) : Option (Int × Int × Int × Nat × St) := fL_law_J1233 n nm nv σ x6 x7 x8 x3 x4 x5 t0
noncomputable def fL_law_J467 (n nm nv : Nat) (σ : St) (x6 x7 x8 : Int) (x3 : Int) (x4 : Int) (x5 : Int) : Option (Int × Int × Int × Nat × St) := fL_law_J468 n nm nv σ x6 x7 x8 x3 x4 x5 0
noncomputable def fL_law_J438 (n nm nv : Nat) (σ : St) (x6 x7 x8 : Int) (x3 : Int) (x4 : Int) (x5 : Int) (x10 : Int) (x15 : Int) (x16 : Int) (t0 : Int) (t1 : Int) : Option (Int × Int × Int × Nat × St) := if t1 ≠ t0 then (fL_law_J467 n nm nv σ x6 x7 x8 x3 x4 x5) else (b2 (zw (fX5_cursor n σ x10)) (fun v153 σ152 => if v153 ≠ x16 then (fL_law_J467 n nm nv σ152 x6 x7 x8 x3 x4 x5) else (b2 (zw (fX5_tail n σ152 x10)) (fun v155 σ154 => if v155 ≠ x15 then (fL_law_J467 n nm nv σ154 x6 x7 x8 x3 x4 x5) else (fL_law_J468 n nm nv σ154 x6 x7 x8 x3 x4 x5 1)))))
noncomputable def fL_law_J364 (n nm nv : Nat) (σ : St) (x6 x7 x8 : Int) (x3 : Int) (x4 : Int) (x5 : Int) (x14 : Int) : Option (Int × Int × Int × Nat × St) := fL_law_J1233 n nm nv σ x6 x7 x8 x3 x4 x5 x14
noncomputable def fL_law_J348 (n nm nv : Nat) (σ : St) (x6 x7 x8 : Int) (x3 : Int) (x4 : Int) (x5 : Int) (x10 : Int) (x16 : Int) (t0 : Int) : Option (Int × Int × Int × Nat × St) := ck (x3 + x16) (fun v205 => rd σ 290 4 x10 (fun v206 => ck (v206 + x16) (fun v207 => wr σ 290 4 x10 v207 (fun σ208 => fL_law_J364 n nm nv σ208 x6 x7 x8 v205 x4 x5 t0))))
noncomputable def fL_law_J347 (n nm nv : Nat) (σ : St) (x6 x7 x8 : Int) (x3 : Int) (x4 : Int) (x5 : Int) (x10 : Int) (x16 : Int) : Option (Int × Int × Int × Nat × St) := fL_law_J348 n nm nv σ x6 x7 x8 x3 x4 x5 x10 x16 0
noncomputable def fL_law_J307 (n nm nv : Nat) (σ : St) (x6 x7 x8 : Int) (x3 : Int) (x4 : Int) (x5 : Int) (x10 : Int) (x14 : Int) (x15 : Int) : Option (Int × Int × Int × Nat × St) := ck (x3 + x15) (fun v198 => if 150 ≤ v198 then (fL_law_J364 n nm nv σ x6 x7 x8 x3 x4 x5 x14) else (b2 (zw (fX5_erase n σ x10)) (fun v200 σ199 => if v200 ≠ x15 then (fL_law_J347 n nm nv σ199 x6 x7 x8 x3 x4 x5 x10 v200) else (b1 (fX5_acts σ199) (fun v201 => ck (x3 + v200) (fun v202 => if v201 ≠ v202 then (fL_law_J347 n nm nv σ199 x6 x7 x8 x3 x4 x5 x10 v200) else (fL_law_J348 n nm nv σ199 x6 x7 x8 x3 x4 x5 x10 v200 1)))))))
noncomputable def fL_law_J291 (n nm nv : Nat) (σ : St) (x6 x7 x8 : Int) (x3 : Int) (x4 : Int) (x5 : Int) (x10 : Int) (x13 : Int) (x14 : Int) (t0 : Int) : Option (Int × Int × Int × Nat × St) := if x13 ≠ 0 then (fL_law_J307 n nm nv σ x6 x7 x8 x3 x4 x5 x10 x14 t0) else (b2 (zw (fX5_cursor n σ x10)) (fun v157 σ156 => if v157 ≤ 0 then (fL_law_J364 n nm nv σ156 x6 x7 x8 x3 x4 x5 x14) else (fL_law_J307 n nm nv σ156 x6 x7 x8 x3 x4 x5 x10 x14 t0)))
noncomputable def fL_law_J231 (n nm nv : Nat) (σ : St) (x6 x7 x8 : Int) (x3 : Int) (x4 : Int) (x5 : Int) (x10 : Int) (t0 : Int) : Option (Int × Int × Int × Nat × St) := ck (x3 + 1) (fun v158 => rd σ 290 4 x10 (fun v159 => ck (v159 + 1) (fun v160 => wr σ 290 4 x10 v160 (fun σ161 => fL_law_J1233 n nm nv σ161 x6 x7 x8 v158 x4 x5 t0))))
noncomputable def fL_law_J194 (n nm nv : Nat) (σ : St) (x6 x7 x8 : Int) (x3 : Int) (x4 : Int) (x5 : Int) (x10 : Int) (t0 : Int) : Option (Int × Int × Int × Nat × St) := ck (x3 + 1) (fun v162 => rd σ 290 4 x10 (fun v163 => ck (v163 + 1) (fun v164 => wr σ 290 4 x10 v164 (fun σ165 => fL_law_J1233 n nm nv σ165 x6 x7 x8 v162 x4 x5 t0))))
noncomputable def fL_law_J193 (n nm nv : Nat) (σ : St) (x6 x7 x8 : Int) (x3 : Int) (x4 : Int) (x5 : Int) (x10 : Int) : Option (Int × Int × Int × Nat × St) := fL_law_J194 n nm nv σ x6 x7 x8 x3 x4 x5 x10 0
noncomputable def fL_law_J131 (n nm nv : Nat) (σ : St) (x6 x7 x8 : Int) (x3 : Int) (x4 : Int) (x5 : Int) (x10 : Int) (x12 : Int) (x14 : Int) : Option (Int × Int × Int × Nat × St) := if 155 ≤ x3 then (fL_law_J1233 n nm nv σ x6 x7 x8 x3 x4 x5 x14) else (vl (bshr x8 4) (fun v95 => b1 (fL_low v95 26) (fun v96 => ck (97 + v96) (fun v97 => vl (v97 % 65536) (fun v98 => b2 (zw (fX5_type n σ x10 v98)) (fun v100 σ99 => if v100 ≠ x3 then (fL_law_J193 n nm nv σ99 x6 x7 x8 x3 x4 x5 x10) else (b2 (zw (fX5_length n σ99 x10)) (fun v102 σ101 => ck (x12 + 1) (fun v103 => if v102 ≠ v103 then (fL_law_J193 n nm nv σ101 x6 x7 x8 x3 x4 x5 x10) else (b2 (zw (fX5_cursor n σ101 x10)) (fun v105 σ104 => b2 (zw (fX5_tail n σ104 x10)) (fun v107 σ106 => if v105 ≠ v107 then (fL_law_J193 n nm nv σ106 x6 x7 x8 x3 x4 x5 x10) else (fL_law_J194 n nm nv σ106 x6 x7 x8 x3 x4 x5 x10 1)))))))))))))
noncomputable def fL_law_J114 (n nm nv : Nat) (σ : St) (x6 x7 x8 : Int) (x3 : Int) (x4 : Int) (x5 : Int) (x9 : Int) (x10 : Int) (x11 : Int) (x12 : Int) (t0 : Int) : Option (Int × Int × Int × Nat × St) := if 90 < x3 then (fL_law_J131 n nm nv σ x6 x7 x8 x3 x4 x5 x10 x12 1) else (if 5 ≤ x9 then (if x9 ≠ 5 then (if x9 ≠ 6 then (if 9 ≤ x9 then (if x9 ≠ 9 then (if x9 ≠ 10 then (if 14 ≤ x9 then (if x9 ≠ 14 then (if x9 ≠ 15 then (if x9 ≠ 16 then (vl (bshr x8 4) (fun v14 => b2 (zw (fX5_blocks n σ x10)) (fun v16 σ15 => b1 (fL_low v14 v16) (fun v17 => vl (bshr x8 7) (fun v18 => b2 (zw (fX5_blocks n σ15 x10)) (fun v20 σ19 => ck (v20 + 1) (fun v21 => b1 (fL_low v18 v21) (fun v22 => ck (v22 - 1) (fun v23 => b2 (zw (fX5_level n σ19 x10 v17)) (fun v25 σ24 => if v25 ≠ 0 then (fL_law_J1233 n nm nv σ24 x6 x7 x8 x3 x4 x5 1) else (vl (bshr x8 10) (fun v26 => b1 (fL_low v26 4) (fun v27 => b2 (zw (fX5_setKind n σ24 x10 v17 v27)) (fun v29 σ28 => if v29 ≠ x3 then (fL_law_J1219 n nm nv σ28 x6 x7 x8 x3 x4 x5 x10) else (b2 (zw (fX5_kind n σ28 x10 v17)) (fun v31 σ30 => if v31 ≠ v27 then (fL_law_J1219 n nm nv σ30 x6 x7 x8 x3 x4 x5 x10) else (b2 (zw (fX5_nest n σ30 x10 v17 v23)) (fun v33 σ32 => ck (x3 + 1) (fun v34 => if v33 ≠ v34 then (fL_law_J1219 n nm nv σ32 x6 x7 x8 x3 x4 x5 x10) else (fL_law_J1220 n nm nv σ32 x6 x7 x8 x3 x4 x5 x10 1)))))))))))))))))))) else (b2 (zw (fX5_length n σ 0)) (fun v36 σ35 => if v36 ≠ 0 then (vl (bshr x8 4) (fun v37 => b2 (zw (fX5_length n σ35 0)) (fun v39 σ38 => b1 (fL_low v37 v39) (fun v40 => fL_law_J1024 n nm nv σ38 x6 x7 x8 x3 x4 x5 1 v40)))) else (fL_law_J1024 n nm nv σ35 x6 x7 x8 x3 x4 x5 1 (-1))))) else (vl (bshr x8 4) (fun v41 => b1 (fL_low v41 2) (fun v42 => if v42 ≠ 0 then (fL_law_J892 n nm nv σ x6 x7 x8 x3 x4 x5 x10 0) else (fL_law_J892 n nm nv σ x6 x7 x8 x3 x4 x5 x10 1))))) else (rd σ 290 4 x10 (fun v43 => if v43 ≤ 0 then (fL_law_J1233 n nm nv σ x6 x7 x8 x3 x4 x5 1) else (b2 (zw (fX5_undo n σ x10)) (fun v45 σ44 => b2 (zw (fX5_isUndone n σ44 x10 v45)) (fun v47 σ46 => if v47 = 0 then (fL_law_J796 n nm nv σ46 x6 x7 x8 x3 x4 x5 x10 v45) else (b2 (zw (fX5_act σ46 v45)) (fun v49 σ48 => idv v49 100 (fun v50 => irm v50 10 (fun v51 => if v51 ≠ x10 then (fL_law_J796 n nm nv σ48 x6 x7 x8 x3 x4 x5 x10 v45) else (fL_law_J797 n nm nv σ48 x6 x7 x8 x3 x4 x5 x10 v45 1))))))))))) else (if 78 ≤ x4 then (fL_law_J1233 n nm nv σ x6 x7 x8 x3 x4 x5 1) else (b2 (zw (fX5_has σ x11)) (fun v53 σ52 => b2 (zw (fX5_send n nm nv σ52 x10 x11)) (fun v55 σ54 => b2 (zw (fX5_deliver n σ54 v55)) (fun v57 σ56 => b2 (zw (fX5_has σ56 x11)) (fun v59 σ58 => ck (v59 - v53) (fun v60 => if v57 ≠ v60 then (fL_law_J687 n (nm + 1) nv σ58 x6 x7 x8 x3 x4 x5 x10 x11 0) else (fL_law_J687 n (nm + 1) nv σ58 x6 x7 x8 x3 x4 x5 x10 x11 1))))))))) else (if t0 = 0 then (fL_law_J1233 n nm nv σ x6 x7 x8 x3 x4 x5 1) else (if 20 ≤ x5 then (fL_law_J1233 n nm nv σ x6 x7 x8 x3 x4 x5 1) else (b2 (zw (fX5_cursor n σ x10)) (fun v62 σ61 => b2 (zw (fX5_tail n σ61 x10)) (fun v64 σ63 => ck (v62 - v64) (fun v65 => b2 (zw (fX5_comment n σ63 x10)) (fun v67 σ66 => if v67 ≠ x3 then (fL_law_J616 n nm nv σ66 x6 x7 x8 x3 x4 x5 x10) else (b2 (zw (fX5_covered n σ66 x10 v67)) (fun v69 σ68 => if 0 ≤ v65 then (fL_law_J609 n nm nv σ68 x6 x7 x8 x3 x4 x5 x10 v65 v69) else (ck (-v65) (fun v70 => fL_law_J609 n nm nv σ68 x6 x7 x8 x3 x4 x5 x10 v70 v69)))))))))))) else (if t0 = 0 then (fL_law_J1233 n nm nv σ x6 x7 x8 x3 x4 x5 1) else (vl (bshr x8 4) (fun v71 => b1 (fL_low v71 2) (fun v72 => vl (bshr x8 5) (fun v73 => b1 (fL_low v73 3) (fun v74 => if v74 ≤ 0 then (fL_law_J512 n nm nv σ x6 x7 x8 x3 x4 x5 x10 0 v72 x10) else (fL_law_J512 n nm nv σ x6 x7 x8 x3 x4 x5 x10 1 v72 x10)))))))) else (vl (bshr x8 4) (fun v75 => ck (x12 + 1) (fun v76 => b1 (fL_low v75 v76) (fun v77 => b2 (zw (fX5_moveTo n σ x10 v77)) (fun v79 σ78 => vl (bshr x8 9) (fun v80 => ck (x12 + 1) (fun v81 => b1 (fL_low v80 v81) (fun v82 => b2 (zw (fX5_extend n σ78 x10 v82)) (fun v84 σ83 => if v77 ≤ v82 then (ck (v82 - v77) (fun v85 => fL_law_J438 n nm nv σ83 x6 x7 x8 x3 x4 x5 x10 v77 v82 v85 v84)) else (ck (v77 - v82) (fun v86 => fL_law_J438 n nm nv σ83 x6 x7 x8 x3 x4 x5 x10 v77 v82 v86 v84)))))))))))) else (b2 (zw (fX5_cursor n σ x10)) (fun v88 σ87 => b2 (zw (fX5_tail n σ87 x10)) (fun v90 σ89 => ck (v88 - v90) (fun v91 => if v91 ≠ 0 then (if 0 ≤ v91 then (fL_law_J291 n nm nv σ89 x6 x7 x8 x3 x4 x5 x10 t0 1 v91) else (ck (-v91) (fun v92 => fL_law_J291 n nm nv σ89 x6 x7 x8 x3 x4 x5 x10 t0 1 v92))) else (fL_law_J291 n nm nv σ89 x6 x7 x8 x3 x4 x5 x10 t0 1 1)))))) else (b2 (zw (fX5_split n σ x10)) (fun v94 σ93 => if v94 ≠ x3 then (fL_law_J231 n nm nv σ93 x6 x7 x8 x3 x4 x5 x10 0) else (fL_law_J231 n nm nv σ93 x6 x7 x8 x3 x4 x5 x10 1)))) else (fL_law_J131 n nm nv σ x6 x7 x8 x3 x4 x5 x10 x12 1))
noncomputable def fL_law (n nm nv : Nat) (σ : St) (x6 x7 x8 x3 x4 x5 : Int) : Option (Int × Int × Int × Nat × St) := b1 (fL_low x7 18) (fun v1 => b1 (fL_low x8 4) (fun v2 => ck (v2 + 1) (fun v3 => vl (bshr x8 2) (fun v4 => b1 (fL_low v4 3) (fun v5 => ck (v3 + v5) (fun v6 => irm v6 4 (fun v7 => b2 (zw (fX5_length n σ v2)) (fun v9 σ8 => b2 (zw (fX5_cursor n σ8 v2)) (fun v11 σ10 => b2 (zw (fX5_tail n σ10 v2)) (fun v13 σ12 => if v11 = v13 then (fL_law_J114 n nm nv σ12 x6 x7 x8 x3 x4 x5 v1 v2 v7 v9 0) else (fL_law_J114 n nm nv σ12 x6 x7 x8 x3 x4 x5 v1 v2 v7 v9 1)))))))))))
set_option maxRecDepth 100000 in
set_option maxHeartbeats 16000000 in
theorem ok_turn {p : Program} {l : Launch} {e : Env} {s : State} {m : MethodId} {args : Array Value} {below : List Frame} {meth : Method} {c : Code} {Q : State → Prop} {D : va_G} {cy : Nat → ClassId} {A : Nat → Prop} {b : Nat} {nv n c0 s0 : Nat} {x6 x7 x8 : Int} {r : Int × Int × Int × Nat × St} (hx6 : inR x6) (hx7 : inR x7) (hx8 : inR x8) (hC0 : ∀ k, k ≤ 8 → c0 + k ≤ room_1.cells) (hS0 : ∀ k, k ≤ 338 → s0 + k ≤ room_1.slots)
    (kk : ∀ (ad1 : Nat → Nat) (nm1 : Nat) (y3 y4 y5 : Int) (σ1 : St) (H1 : Heap) (locs1 : List Loc) (ls1 : Array Slot), some (y3, y4, y5, nm1, σ1) = some r → inR y3 → inR y4 → inR y5 → Cx p s m args c cL_law 19 RL D cy ad1 nm1 nv A → Wd D cy ad1 nm1 nv σ1 H1 → va_S A s.heap H1 locs1 → lv_has ls1 19 [(0, .ref b), (1, .ref (ad1 0)), (2, .ref (ad1 290)), (3, .int (i32 y3)), (4, .int (i32 y4)), (5, .int (i32 y5)), (6, .int (i32 x6))] → W p l e room_1 s m args below meth c H1 locs1 (c0 + 8) (s0 + 338) Q (F0 m 1274 ls1 [])) :
    ∀ (ad : Nat → Nat) (nm : Nat) (σ : St) (H : Heap) (locs : List Loc) (ls : Array Slot) (x3 x4 x5 : Int), inR x3 → inR x4 → inR x5 → fL_law n nm nv σ x6 x7 x8 x3 x4 x5 = some r → Cx p s m args c cL_law 19 RL D cy ad nm nv A → Wd D cy ad nm nv σ H → va_S A s.heap H locs → lv_has ls 19 [(0, .ref b), (1, .ref (ad 0)), (2, .ref (ad 290)), (3, .int (i32 x3)), (4, .int (i32 x4)), (5, .int (i32 x5)), (6, .int (i32 x6)), (7, .int (i32 x7)), (8, .int (i32 x8))] → W p l e room_1 s m args below meth c H locs (c0 + 0) (s0 + 0) Q (F0 m 52 ls []) := by
  have hc1233 : ∀ (ad : Nat → Nat) (nm : Nat) (σ : St) (H : Heap) (locs : List Loc) (ls : Array Slot) (x3 : Int) (x4 : Int) (x5 : Int) (x14 : Int), inR x3 → inR x4 → inR x5 → inR x14 → fL_law_J1233 n nm nv σ x6 x7 x8 x3 x4 x5 x14 = some r → Cx p s m args c cL_law 19 RL D cy ad nm nv A → Wd D cy ad nm nv σ H → va_S A s.heap H locs → lv_has ls 19 [(0, .ref b), (1, .ref (ad 0)), (2, .ref (ad 290)), (3, .int (i32 x3)), (4, .int (i32 x4)), (5, .int (i32 x5)), (6, .int (i32 x6)), (8, .int (i32 x8)), (14, .int (i32 x14))] → W p l e room_1 s m args below meth c H locs (c0 + 8) (s0 + 338) Q (F0 m 1233 ls []) := by
    intro ad nm σ H locs ls x3 x4 x5 x14 hx3 hx4 hx5 hx14 hf X hW hS hl
    have hx := X.1
    have hb := X.2.1
    unfold fL_law_J1233 at hf
    refine lv_iload hx hb dL_law_1233 (lv_at hl 8 rfl) ?_
    refine m_if_eq (tgt := 1272) hx hb hx14 hf dL_law_1235 (by decide) (fun hf => ?_) (fun hf => ?_)
    · skip
      cases hf
    · skip
      refine lv_aload_n hx hb dL_law_1238 rfl (lv_at hl 1 rfl) ?_
      refine m_callVi1 (z := false) (As := []) (rest := []) X hW hS hl.1 gc_L_82 hd_X5_acts ⟨rfl, rfl, Nat.le_of_ble_eq_true rfl, Nat.le_of_ble_eq_true rfl⟩ (rc_X5 X hW) (fun v q => ok_X5_acts  q) hf rfl rfl (Nat.le_of_ble_eq_true rfl) dL_law_1239 ⟨hC0 8 (Nat.le_of_ble_eq_true rfl), hS0 338 (Nat.le_of_ble_eq_true rfl)⟩ (fun v108 H locs hv108 zv108 hWv108 hSv108 hf => ?_)
      refine lv_iload_n hx hb dL_law_1242 rfl (lv_at hl 3 rfl) ?_
      refine m_icmp_ne (tgt := 1272) hx hb hv108 hx3 hf dL_law_1243 (by decide) (fun hf => ?_) (fun hf => ?_)
      · skip
        cases hf
      · skip
        refine lv_aload_n hx hb dL_law_1246 rfl (lv_at hl 1 rfl) ?_
        refine lv_iload hx hb dL_law_1247 (lv_at hl 7 rfl) ?_
        refine m_bipush (v := 12) hx hb dL_law_1249 (by decide) ?_
        refine m_ishr hx hb hf dL_law_1251 (fun v109 hv109 hf => ?_)
        refine m_const (v := 4) hx hb dL_law_1252 rfl ?_
        refine m_callSi1 (z := false) (As := [.int (i32 v109), .int (i32 4)]) (rest := [.ref (ad 0)]) X hWv108 hSv108 hl.1 gc_L_69 hd_L_low ⟨rfl, rfl, Nat.le_of_ble_eq_true rfl, Nat.le_of_ble_eq_true rfl⟩ (fun v q => ok_L_low hv109 (by decide) q) hf rfl rfl (Nat.le_of_ble_eq_true rfl) dL_law_1253 ⟨hC0 8 (Nat.le_of_ble_eq_true rfl), hS0 338 (Nat.le_of_ble_eq_true rfl)⟩ (fun v110 H locs hv110 zv110 hWv110 hSv110 hf => ?_)
        refine lv_iload hx hb dL_law_1256 (lv_at hl 7 rfl) ?_
        refine m_bipush (v := 14) hx hb dL_law_1258 (by decide) ?_
        refine m_ishr hx hb hf dL_law_1260 (fun v111 hv111 hf => ?_)
        refine m_bipush (v := 97) hx hb dL_law_1261 (by decide) ?_
        refine m_callSi1 (z := false) (As := [.int (i32 v111), .int (i32 97)]) (rest := [.int (i32 v110), .ref (ad 0)]) X hWv110 hSv110 hl.1 gc_L_69 hd_L_low ⟨rfl, rfl, Nat.le_of_ble_eq_true rfl, Nat.le_of_ble_eq_true rfl⟩ (fun v q => ok_L_low hv111 (by decide) q) hf rfl rfl (Nat.le_of_ble_eq_true rfl) dL_law_1263 ⟨hC0 8 (Nat.le_of_ble_eq_true rfl), hS0 338 (Nat.le_of_ble_eq_true rfl)⟩ (fun v112 H locs hv112 zv112 hWv112 hSv112 hf => ?_)
        refine m_callSi (z := true) (As := [.ref (ad 0), .int (i32 v110), .int (i32 v112)]) (rest := []) X hWv112 hSv112 hl.1 gc_L_145 hd_L_isSite ⟨rfl, rfl, Nat.le_of_ble_eq_true rfl, Nat.le_of_ble_eq_true rfl⟩ (fun v q9 q => ok_L_isSite hv110 hv112 q) hf rfl rfl (Nat.le_of_ble_eq_true rfl) dL_law_1266 ⟨hC0 8 (Nat.le_of_ble_eq_true rfl), hS0 338 (Nat.le_of_ble_eq_true rfl)⟩ (fun v114 σ113 H locs hv114 zv114 hW113 hS113 hf => ?_)
        refine m_if_ne (tgt := 1274) hx hb hv114 hf dL_law_1269 (by decide) (fun hf => ?_) (fun hf => ?_)
        · skip
          exact kk ad nm _ _ _ _ _ _ _ hf hx3 hx4 hx5 X hW113 hS113 (lv_sub hl [0, 1, 2, 3, 4, 5, 6] rfl)
        · skip
          cases hf
  have hc1220 : ∀ (ad : Nat → Nat) (nm : Nat) (σ : St) (H : Heap) (locs : List Loc) (ls : Array Slot) (x3 : Int) (x4 : Int) (x5 : Int) (x10 : Int) (t0 : Int), inR x3 → inR x4 → inR x5 → inR x10 → inR t0 → fL_law_J1220 n nm nv σ x6 x7 x8 x3 x4 x5 x10 t0 = some r → Cx p s m args c cL_law 19 RL D cy ad nm nv A → Wd D cy ad nm nv σ H → va_S A s.heap H locs → lv_has ls 19 [(0, .ref b), (1, .ref (ad 0)), (2, .ref (ad 290)), (3, .int (i32 x3)), (4, .int (i32 x4)), (5, .int (i32 x5)), (6, .int (i32 x6)), (8, .int (i32 x8)), (10, .int (i32 x10))] → W p l e room_1 s m args below meth c H locs (c0 + 0) (s0 + 0) Q (F0 m 1220 ls [.int (i32 t0)]) := by
    intro ad nm σ H locs ls x3 x4 x5 x10 t0 hx3 hx4 hx5 hx10 ht0 hf X hW hS hl
    have hx := X.1
    have hb := X.2.1
    unfold fL_law_J1220 at hf
    refine lv_istore (lv' := [(14, .int (i32 t0)), (0, .ref b), (1, .ref (ad 0)), (2, .ref (ad 290)), (3, .int (i32 x3)), (4, .int (i32 x4)), (5, .int (i32 x5)), (6, .int (i32 x6)), (8, .int (i32 x8)), (10, .int (i32 x10))]) hx hb dL_law_1220 hl (by decide) rfl (fun ls hl => ?_)
    refine m_iinc (k0 := 4) (fun v115 => [(3, .int (i32 v115)), (14, .int (i32 t0)), (0, .ref b), (1, .ref (ad 0)), (2, .ref (ad 290)), (4, .int (i32 x4)), (5, .int (i32 x5)), (6, .int (i32 x6)), (8, .int (i32 x8)), (10, .int (i32 x10))]) hx hb hf dL_law_1222 hl rfl (by decide) (fun _ => rfl) (fun v115 ls hv115 hf hl => ?_)
    have hl : lv_has ls 19 [(3, .int (i32 v115)), (14, .int (i32 t0)), (0, .ref b), (1, .ref (ad 0)), (2, .ref (ad 290)), (4, .int (i32 x4)), (5, .int (i32 x5)), (6, .int (i32 x6)), (8, .int (i32 x8)), (10, .int (i32 x10))] := hl
    refine lv_aload_n hx hb dL_law_1225 rfl (lv_at hl 4 rfl) ?_
    refine lv_iload hx hb dL_law_1226 (lv_at hl 9 rfl) ?_
    refine lv_dup2_11 hx hb dL_law_1228 rfl rfl ?_
    refine m_iald X hW a_out hx10 hf dL_law_1229 (fun v116 hv116 hf => ?_)
    refine m_const (v := 2) hx hb dL_law_1230 rfl ?_
    refine m_iadd hx hb hf dL_law_1231 (fun v117 hv117 hf => ?_)
    refine m_iast X hW hS a_out hx10 hv117 hf dL_law_1232 (fun σ118 H locs hW118 hS118 hf => ?_)
    refine W.widen (k := c0 + 8) (n := s0 + 338) (by omega) (by omega) ?_
    exact hc1233 ad nm σ118 _ _ _ v115 x4 x5 t0 hv115 hx4 hx5 ht0 hf X hW118 hS118 (lv_sub hl [2, 3, 4, 0, 5, 6, 7, 8, 1] rfl)
  have hc1219 : ∀ (ad : Nat → Nat) (nm : Nat) (σ : St) (H : Heap) (locs : List Loc) (ls : Array Slot) (x3 : Int) (x4 : Int) (x5 : Int) (x10 : Int), inR x3 → inR x4 → inR x5 → inR x10 → fL_law_J1219 n nm nv σ x6 x7 x8 x3 x4 x5 x10 = some r → Cx p s m args c cL_law 19 RL D cy ad nm nv A → Wd D cy ad nm nv σ H → va_S A s.heap H locs → lv_has ls 19 [(0, .ref b), (1, .ref (ad 0)), (2, .ref (ad 290)), (3, .int (i32 x3)), (4, .int (i32 x4)), (5, .int (i32 x5)), (6, .int (i32 x6)), (8, .int (i32 x8)), (10, .int (i32 x10))] → W p l e room_1 s m args below meth c H locs (c0 + 0) (s0 + 0) Q (F0 m 1219 ls []) := by
    intro ad nm σ H locs ls x3 x4 x5 x10 hx3 hx4 hx5 hx10 hf X hW hS hl
    have hx := X.1
    have hb := X.2.1
    unfold fL_law_J1219 at hf
    refine m_const (v := 0) hx hb dL_law_1219 rfl ?_
    exact hc1220 ad nm σ _ _ _ x3 x4 x5 x10 0 hx3 hx4 hx5 hx10 (by decide) hf X hW hS (lv_sub hl [0, 1, 2, 3, 4, 5, 6, 7, 8] rfl)
  have hc1112 : ∀ (ad : Nat → Nat) (nm : Nat) (σ : St) (H : Heap) (locs : List Loc) (ls : Array Slot) (x3 : Int) (x4 : Int) (x5 : Int) (x14 : Int), inR x3 → inR x4 → inR x5 → inR x14 → fL_law_J1112 n nm nv σ x6 x7 x8 x3 x4 x5 x14 = some r → Cx p s m args c cL_law 19 RL D cy ad nm nv A → Wd D cy ad nm nv σ H → va_S A s.heap H locs → lv_has ls 19 [(0, .ref b), (1, .ref (ad 0)), (2, .ref (ad 290)), (3, .int (i32 x3)), (4, .int (i32 x4)), (5, .int (i32 x5)), (6, .int (i32 x6)), (8, .int (i32 x8)), (14, .int (i32 x14))] → W p l e room_1 s m args below meth c H locs (c0 + 0) (s0 + 0) Q (F0 m 1112 ls []) := by
    intro ad nm σ H locs ls x3 x4 x5 x14 hx3 hx4 hx5 hx14 hf X hW hS hl
    have hx := X.1
    have hb := X.2.1
    unfold fL_law_J1112 at hf
    refine lv_goto (tgt := 1233) hx hb dL_law_1112 (by decide) ?_
    refine W.widen (k := c0 + 8) (n := s0 + 338) (by omega) (by omega) ?_
    exact hc1233 ad nm σ _ _ _ x3 x4 x5 x14 hx3 hx4 hx5 hx14 hf X hW hS (lv_sub hl [0, 1, 2, 3, 4, 5, 6, 7, 8] rfl)
  have hc1107 : ∀ (ad : Nat → Nat) (nm : Nat) (σ : St) (H : Heap) (locs : List Loc) (ls : Array Slot) (x3 : Int) (x4 : Int) (x5 : Int) (t0 : Int), inR x3 → inR x4 → inR x5 → inR t0 → fL_law_J1107 n nm nv σ x6 x7 x8 x3 x4 x5 t0 = some r → Cx p s m args c cL_law 19 RL D cy ad nm nv A → Wd D cy ad nm nv σ H → va_S A s.heap H locs → lv_has ls 19 [(0, .ref b), (1, .ref (ad 0)), (2, .ref (ad 290)), (3, .int (i32 x3)), (4, .int (i32 x4)), (5, .int (i32 x5)), (6, .int (i32 x6)), (8, .int (i32 x8))] → W p l e room_1 s m args below meth c H locs (c0 + 0) (s0 + 0) Q (F0 m 1107 ls [.int (i32 t0)]) := by
    intro ad nm σ H locs ls x3 x4 x5 t0 hx3 hx4 hx5 ht0 hf X hW hS hl
    have hx := X.1
    have hb := X.2.1
    unfold fL_law_J1107 at hf
    refine lv_istore (lv' := [(14, .int (i32 t0)), (0, .ref b), (1, .ref (ad 0)), (2, .ref (ad 290)), (3, .int (i32 x3)), (4, .int (i32 x4)), (5, .int (i32 x5)), (6, .int (i32 x6)), (8, .int (i32 x8))]) hx hb dL_law_1107 hl (by decide) rfl (fun ls hl => ?_)
    refine m_iinc (k0 := 4) (fun v203 => [(3, .int (i32 v203)), (14, .int (i32 t0)), (0, .ref b), (1, .ref (ad 0)), (2, .ref (ad 290)), (4, .int (i32 x4)), (5, .int (i32 x5)), (6, .int (i32 x6)), (8, .int (i32 x8))]) hx hb hf dL_law_1109 hl rfl (by decide) (fun _ => rfl) (fun v203 ls hv203 hf hl => ?_)
    have hl : lv_has ls 19 [(3, .int (i32 v203)), (14, .int (i32 t0)), (0, .ref b), (1, .ref (ad 0)), (2, .ref (ad 290)), (4, .int (i32 x4)), (5, .int (i32 x5)), (6, .int (i32 x6)), (8, .int (i32 x8))] := hl
    exact hc1112 ad nm σ _ _ _ v203 x4 x5 t0 hv203 hx4 hx5 ht0 hf X hW hS (lv_sub hl [2, 3, 4, 0, 5, 6, 7, 8, 1] rfl)
  have hc1106 : ∀ (ad : Nat → Nat) (nm : Nat) (σ : St) (H : Heap) (locs : List Loc) (ls : Array Slot) (x3 : Int) (x4 : Int) (x5 : Int), inR x3 → inR x4 → inR x5 → fL_law_J1106 n nm nv σ x6 x7 x8 x3 x4 x5 = some r → Cx p s m args c cL_law 19 RL D cy ad nm nv A → Wd D cy ad nm nv σ H → va_S A s.heap H locs → lv_has ls 19 [(0, .ref b), (1, .ref (ad 0)), (2, .ref (ad 290)), (3, .int (i32 x3)), (4, .int (i32 x4)), (5, .int (i32 x5)), (6, .int (i32 x6)), (8, .int (i32 x8))] → W p l e room_1 s m args below meth c H locs (c0 + 0) (s0 + 0) Q (F0 m 1106 ls []) := by
    intro ad nm σ H locs ls x3 x4 x5 hx3 hx4 hx5 hf X hW hS hl
    have hx := X.1
    have hb := X.2.1
    unfold fL_law_J1106 at hf
    refine m_const (v := 0) hx hb dL_law_1106 rfl ?_
    exact hc1107 ad nm σ _ _ _ x3 x4 x5 0 hx3 hx4 hx5 (by decide) hf X hW hS (lv_sub hl [0, 1, 2, 3, 4, 5, 6, 7] rfl)
  have hc1070 : ∀ (ad : Nat → Nat) (nm : Nat) (σ : St) (H : Heap) (locs : List Loc) (ls : Array Slot) (x3 : Int) (x4 : Int) (x5 : Int) (x16 : Int) (t0 : Int), inR x3 → inR x4 → inR x5 → inR x16 → inR t0 → fL_law_J1070 n nm nv σ x6 x7 x8 x3 x4 x5 x16 t0 = some r → Cx p s m args c cL_law 19 RL D cy ad nm nv A → Wd D cy ad nm nv σ H → va_S A s.heap H locs → lv_has ls 19 [(0, .ref b), (1, .ref (ad 0)), (2, .ref (ad 290)), (3, .int (i32 x3)), (4, .int (i32 x4)), (5, .int (i32 x5)), (6, .int (i32 x6)), (8, .int (i32 x8)), (16, .int (i32 x16))] → W p l e room_1 s m args below meth c H locs (c0 + 0) (s0 + 0) Q (F0 m 1070 ls [.int (i32 t0)]) := by
    intro ad nm σ H locs ls x3 x4 x5 x16 t0 hx3 hx4 hx5 hx16 ht0 hf X hW hS hl
    have hx := X.1
    have hb := X.2.1
    unfold fL_law_J1070 at hf
    refine lv_istore (lv' := [(17, .int (i32 t0)), (0, .ref b), (1, .ref (ad 0)), (2, .ref (ad 290)), (3, .int (i32 x3)), (4, .int (i32 x4)), (5, .int (i32 x5)), (6, .int (i32 x6)), (8, .int (i32 x8)), (16, .int (i32 x16))]) hx hb dL_law_1070 hl (by decide) rfl (fun ls hl => ?_)
    refine lv_aload_n hx hb dL_law_1072 rfl (lv_at hl 2 rfl) ?_
    refine m_const (v := 0) hx hb dL_law_1073 rfl ?_
    refine m_callVi (z := false) (As := [.int (i32 0)]) (rest := []) X hW hS hl.1 gc_L_26 hd_X5_open ⟨rfl, rfl, Nat.le_of_ble_eq_true rfl, Nat.le_of_ble_eq_true rfl⟩ (rc_X5 X hW) (fun v q9 q => ok0_X5_open (by decide) (zw_of q)) hf rfl rfl (Nat.le_of_ble_eq_true rfl) dL_law_1074 ⟨hC0 0 (Nat.le_of_ble_eq_true rfl), hS0 0 (Nat.le_of_ble_eq_true rfl)⟩ (fun v167 σ166 H locs hv167 zv167 hW166 hS166 hf => ?_)
    refine lv_istore (lv' := [(18, .int (i32 v167)), (17, .int (i32 t0)), (0, .ref b), (1, .ref (ad 0)), (2, .ref (ad 290)), (3, .int (i32 x3)), (4, .int (i32 x4)), (5, .int (i32 x5)), (6, .int (i32 x6)), (8, .int (i32 x8)), (16, .int (i32 x16))]) hx hb dL_law_1077 hl (by decide) rfl (fun ls hl => ?_)
    refine lv_aload_n hx hb dL_law_1079 rfl (lv_at hl 3 rfl) ?_
    refine m_const (v := 0) hx hb dL_law_1080 rfl ?_
    refine lv_iload hx hb dL_law_1081 (lv_at hl 10 rfl) ?_
    refine lv_iload hx hb dL_law_1083 (lv_at hl 1 rfl) ?_
    refine m_callVi (z := false) (As := [.int (i32 0), .int (i32 x16), .int (i32 t0)]) (rest := []) X hW166 hS166 hl.1 gc_L_133 hd_X5_decide ⟨rfl, rfl, Nat.le_of_ble_eq_true rfl, Nat.le_of_ble_eq_true rfl⟩ (rc_X5 X hW166) (fun v q9 q => ok0_X5_decide (by decide) hx16 ht0 (zw_of q)) hf rfl rfl (Nat.le_of_ble_eq_true rfl) dL_law_1085 ⟨hC0 0 (Nat.le_of_ble_eq_true rfl), hS0 0 (Nat.le_of_ble_eq_true rfl)⟩ (fun v169 σ168 H locs hv169 zv169 hW168 hS168 hf => ?_)
    refine lv_iload_n hx hb dL_law_1088 rfl (lv_at hl 5 rfl) ?_
    refine m_icmp_ne (tgt := 1106) hx hb hv169 hx3 hf dL_law_1089 (by decide) (fun hf => ?_) (fun hf => ?_)
    · skip
      exact hc1106 ad nm σ168 _ _ _ x3 x4 x5 hx3 hx4 hx5 hf X hW168 hS168 (lv_sub hl [2, 3, 4, 5, 6, 7, 8, 9] rfl)
    · skip
      refine lv_aload_n hx hb dL_law_1092 rfl (lv_at hl 3 rfl) ?_
      refine m_const (v := 0) hx hb dL_law_1093 rfl ?_
      refine m_callVi (z := false) (As := [.int (i32 0)]) (rest := []) X hW168 hS168 hl.1 gc_L_26 hd_X5_open ⟨rfl, rfl, Nat.le_of_ble_eq_true rfl, Nat.le_of_ble_eq_true rfl⟩ (rc_X5 X hW168) (fun v q9 q => ok0_X5_open (by decide) (zw_of q)) hf rfl rfl (Nat.le_of_ble_eq_true rfl) dL_law_1094 ⟨hC0 0 (Nat.le_of_ble_eq_true rfl), hS0 0 (Nat.le_of_ble_eq_true rfl)⟩ (fun v171 σ170 H locs hv171 zv171 hW170 hS170 hf => ?_)
      refine lv_iload hx hb dL_law_1097 (lv_at hl 0 rfl) ?_
      refine m_icmp_ge (tgt := 1106) hx hb hv171 hv167 hf dL_law_1099 (by decide) (fun hf => ?_) (fun hf => ?_)
      · skip
        exact hc1106 ad nm σ170 _ _ _ x3 x4 x5 hx3 hx4 hx5 hf X hW170 hS170 (lv_sub hl [2, 3, 4, 5, 6, 7, 8, 9] rfl)
      · skip
        refine m_const (v := 1) hx hb dL_law_1102 rfl ?_
        refine lv_goto (tgt := 1107) hx hb dL_law_1103 (by decide) ?_
        exact hc1107 ad nm σ170 _ _ _ x3 x4 x5 1 hx3 hx4 hx5 (by decide) hf X hW170 hS170 (lv_sub hl [2, 3, 4, 5, 6, 7, 8, 9] rfl)
  have hc1024 : ∀ (ad : Nat → Nat) (nm : Nat) (σ : St) (H : Heap) (locs : List Loc) (ls : Array Slot) (x3 : Int) (x4 : Int) (x5 : Int) (x14 : Int) (t0 : Int), inR x3 → inR x4 → inR x5 → inR x14 → inR t0 → fL_law_J1024 n nm nv σ x6 x7 x8 x3 x4 x5 x14 t0 = some r → Cx p s m args c cL_law 19 RL D cy ad nm nv A → Wd D cy ad nm nv σ H → va_S A s.heap H locs → lv_has ls 19 [(0, .ref b), (1, .ref (ad 0)), (2, .ref (ad 290)), (3, .int (i32 x3)), (4, .int (i32 x4)), (5, .int (i32 x5)), (6, .int (i32 x6)), (8, .int (i32 x8)), (14, .int (i32 x14))] → W p l e room_1 s m args below meth c H locs (c0 + 0) (s0 + 0) Q (F0 m 1024 ls [.int (i32 t0)]) := by
    intro ad nm σ H locs ls x3 x4 x5 x14 t0 hx3 hx4 hx5 hx14 ht0 hf X hW hS hl
    have hx := X.1
    have hb := X.2.1
    unfold fL_law_J1024 at hf
    refine lv_istore (lv' := [(15, .int (i32 t0)), (0, .ref b), (1, .ref (ad 0)), (2, .ref (ad 290)), (3, .int (i32 x3)), (4, .int (i32 x4)), (5, .int (i32 x5)), (6, .int (i32 x6)), (8, .int (i32 x8)), (14, .int (i32 x14))]) hx hb dL_law_1024 hl (by decide) rfl (fun ls hl => ?_)
    refine lv_iload hx hb dL_law_1026 (lv_at hl 0 rfl) ?_
    refine m_if_lt (tgt := 1112) hx hb ht0 hf dL_law_1028 (by decide) (fun hf => ?_) (fun hf => ?_)
    · skip
      exact hc1112 ad nm σ _ _ _ x3 x4 x5 x14 hx3 hx4 hx5 hx14 hf X hW hS (lv_sub hl [1, 2, 3, 4, 5, 6, 7, 8, 9] rfl)
    · skip
      refine lv_aload_n hx hb dL_law_1031 rfl (lv_at hl 2 rfl) ?_
      refine m_const (v := 0) hx hb dL_law_1032 rfl ?_
      refine lv_iload hx hb dL_law_1033 (lv_at hl 0 rfl) ?_
      refine m_callVi (z := false) (As := [.int (i32 0), .int (i32 t0)]) (rest := []) X hW hS hl.1 gc_L_37 hd_X5_proposed ⟨rfl, rfl, Nat.le_of_ble_eq_true rfl, Nat.le_of_ble_eq_true rfl⟩ (rc_X5 X hW) (fun v q9 q => ok0_X5_proposed (by decide) ht0 (zw_of q)) hf rfl rfl (Nat.le_of_ble_eq_true rfl) dL_law_1035 ⟨hC0 0 (Nat.le_of_ble_eq_true rfl), hS0 0 (Nat.le_of_ble_eq_true rfl)⟩ (fun v120 σ119 H locs hv120 zv120 hW119 hS119 hf => ?_)
      refine m_const (v := 2) hx hb dL_law_1038 rfl ?_
      refine m_irem hx hb hf dL_law_1039 (fun v121 hv121 hf => ?_)
      refine m_const (v := 1) hx hb dL_law_1040 rfl ?_
      refine m_icmp_ne (tgt := 1112) hx hb hv121 (by decide) hf dL_law_1041 (by decide) (fun hf => ?_) (fun hf => ?_)
      · skip
        exact hc1112 ad nm σ119 _ _ _ x3 x4 x5 x14 hx3 hx4 hx5 hx14 hf X hW119 hS119 (lv_sub hl [1, 2, 3, 4, 5, 6, 7, 8, 9] rfl)
      · skip
        refine lv_aload_n hx hb dL_law_1044 rfl (lv_at hl 2 rfl) ?_
        refine m_const (v := 0) hx hb dL_law_1045 rfl ?_
        refine lv_iload hx hb dL_law_1046 (lv_at hl 0 rfl) ?_
        refine m_callVi (z := false) (As := [.int (i32 0), .int (i32 t0)]) (rest := []) X hW119 hS119 hl.1 gc_L_29 hd_X5_element ⟨rfl, rfl, Nat.le_of_ble_eq_true rfl, Nat.le_of_ble_eq_true rfl⟩ (rc_X5 X hW119) (fun v q9 q => ok0_X5_element (by decide) ht0 (zw_of q)) hf rfl rfl (Nat.le_of_ble_eq_true rfl) dL_law_1048 ⟨hC0 0 (Nat.le_of_ble_eq_true rfl), hS0 0 (Nat.le_of_ble_eq_true rfl)⟩ (fun v123 σ122 H locs hv123 zv123 hW122 hS122 hf => ?_)
        refine lv_istore (lv' := [(16, .int (i32 v123)), (15, .int (i32 t0)), (0, .ref b), (1, .ref (ad 0)), (2, .ref (ad 290)), (3, .int (i32 x3)), (4, .int (i32 x4)), (5, .int (i32 x5)), (6, .int (i32 x6)), (8, .int (i32 x8)), (14, .int (i32 x14))]) hx hb dL_law_1051 hl (by decide) rfl (fun ls hl => ?_)
        refine lv_iload hx hb dL_law_1053 (lv_at hl 9 rfl) ?_
        refine m_bipush (v := 9) hx hb dL_law_1055 (by decide) ?_
        refine m_ishr hx hb hf dL_law_1057 (fun v124 hv124 hf => ?_)
        refine m_const (v := 2) hx hb dL_law_1058 rfl ?_
        refine m_callSi1 (z := false) (As := [.int (i32 v124), .int (i32 2)]) (rest := []) X hW122 hS122 hl.1 gc_L_69 hd_L_low ⟨rfl, rfl, Nat.le_of_ble_eq_true rfl, Nat.le_of_ble_eq_true rfl⟩ (fun v q => ok_L_low hv124 (by decide) q) hf rfl rfl (Nat.le_of_ble_eq_true rfl) dL_law_1059 ⟨hC0 0 (Nat.le_of_ble_eq_true rfl), hS0 0 (Nat.le_of_ble_eq_true rfl)⟩ (fun v125 H locs hv125 zv125 hWv125 hSv125 hf => ?_)
        refine m_if_ne (tgt := 1069) hx hb hv125 hf dL_law_1062 (by decide) (fun hf => ?_) (fun hf => ?_)
        · skip
          refine m_const (v := 0) hx hb dL_law_1069 rfl ?_
          exact hc1070 ad nm σ122 _ _ _ x3 x4 x5 v123 0 hx3 hx4 hx5 hv123 (by decide) hf X hWv125 hSv125 (lv_sub hl [2, 3, 4, 5, 6, 7, 8, 9, 0] rfl)
        · skip
          refine m_const (v := 1) hx hb dL_law_1065 rfl ?_
          refine lv_goto (tgt := 1070) hx hb dL_law_1066 (by decide) ?_
          exact hc1070 ad nm σ122 _ _ _ x3 x4 x5 v123 1 hx3 hx4 hx5 hv123 (by decide) hf X hWv125 hSv125 (lv_sub hl [2, 3, 4, 5, 6, 7, 8, 9, 0] rfl)
  have hc990 : ∀ (ad : Nat → Nat) (nm : Nat) (σ : St) (H : Heap) (locs : List Loc) (ls : Array Slot) (x3 : Int) (x4 : Int) (x5 : Int) (x14 : Int), inR x3 → inR x4 → inR x5 → inR x14 → fL_law_J990 n nm nv σ x6 x7 x8 x3 x4 x5 x14 = some r → Cx p s m args c cL_law 19 RL D cy ad nm nv A → Wd D cy ad nm nv σ H → va_S A s.heap H locs → lv_has ls 19 [(0, .ref b), (1, .ref (ad 0)), (2, .ref (ad 290)), (3, .int (i32 x3)), (4, .int (i32 x4)), (5, .int (i32 x5)), (6, .int (i32 x6)), (8, .int (i32 x8)), (14, .int (i32 x14))] → W p l e room_1 s m args below meth c H locs (c0 + 0) (s0 + 0) Q (F0 m 990 ls []) := by
    intro ad nm σ H locs ls x3 x4 x5 x14 hx3 hx4 hx5 hx14 hf X hW hS hl
    have hx := X.1
    have hb := X.2.1
    unfold fL_law_J990 at hf
    refine lv_goto (tgt := 1233) hx hb dL_law_990 (by decide) ?_
    refine W.widen (k := c0 + 8) (n := s0 + 338) (by omega) (by omega) ?_
    exact hc1233 ad nm σ _ _ _ x3 x4 x5 x14 hx3 hx4 hx5 hx14 hf X hW hS (lv_sub hl [0, 1, 2, 3, 4, 5, 6, 7, 8] rfl)
  have hc985 : ∀ (ad : Nat → Nat) (nm : Nat) (σ : St) (H : Heap) (locs : List Loc) (ls : Array Slot) (x3 : Int) (x4 : Int) (x5 : Int) (t0 : Int), inR x3 → inR x4 → inR x5 → inR t0 → fL_law_J985 n nm nv σ x6 x7 x8 x3 x4 x5 t0 = some r → Cx p s m args c cL_law 19 RL D cy ad nm nv A → Wd D cy ad nm nv σ H → va_S A s.heap H locs → lv_has ls 19 [(0, .ref b), (1, .ref (ad 0)), (2, .ref (ad 290)), (3, .int (i32 x3)), (4, .int (i32 x4)), (5, .int (i32 x5)), (6, .int (i32 x6)), (8, .int (i32 x8))] → W p l e room_1 s m args below meth c H locs (c0 + 0) (s0 + 0) Q (F0 m 985 ls [.int (i32 t0)]) := by
    intro ad nm σ H locs ls x3 x4 x5 t0 hx3 hx4 hx5 ht0 hf X hW hS hl
    have hx := X.1
    have hb := X.2.1
    unfold fL_law_J985 at hf
    refine lv_istore (lv' := [(14, .int (i32 t0)), (0, .ref b), (1, .ref (ad 0)), (2, .ref (ad 290)), (3, .int (i32 x3)), (4, .int (i32 x4)), (5, .int (i32 x5)), (6, .int (i32 x6)), (8, .int (i32 x8))]) hx hb dL_law_985 hl (by decide) rfl (fun ls hl => ?_)
    refine m_iinc (k0 := 4) (fun v204 => [(3, .int (i32 v204)), (14, .int (i32 t0)), (0, .ref b), (1, .ref (ad 0)), (2, .ref (ad 290)), (4, .int (i32 x4)), (5, .int (i32 x5)), (6, .int (i32 x6)), (8, .int (i32 x8))]) hx hb hf dL_law_987 hl rfl (by decide) (fun _ => rfl) (fun v204 ls hv204 hf hl => ?_)
    have hl : lv_has ls 19 [(3, .int (i32 v204)), (14, .int (i32 t0)), (0, .ref b), (1, .ref (ad 0)), (2, .ref (ad 290)), (4, .int (i32 x4)), (5, .int (i32 x5)), (6, .int (i32 x6)), (8, .int (i32 x8))] := hl
    exact hc990 ad nm σ _ _ _ v204 x4 x5 t0 hv204 hx4 hx5 ht0 hf X hW hS (lv_sub hl [2, 3, 4, 0, 5, 6, 7, 8, 1] rfl)
  have hc984 : ∀ (ad : Nat → Nat) (nm : Nat) (σ : St) (H : Heap) (locs : List Loc) (ls : Array Slot) (x3 : Int) (x4 : Int) (x5 : Int), inR x3 → inR x4 → inR x5 → fL_law_J984 n nm nv σ x6 x7 x8 x3 x4 x5 = some r → Cx p s m args c cL_law 19 RL D cy ad nm nv A → Wd D cy ad nm nv σ H → va_S A s.heap H locs → lv_has ls 19 [(0, .ref b), (1, .ref (ad 0)), (2, .ref (ad 290)), (3, .int (i32 x3)), (4, .int (i32 x4)), (5, .int (i32 x5)), (6, .int (i32 x6)), (8, .int (i32 x8))] → W p l e room_1 s m args below meth c H locs (c0 + 0) (s0 + 0) Q (F0 m 984 ls []) := by
    intro ad nm σ H locs ls x3 x4 x5 hx3 hx4 hx5 hf X hW hS hl
    have hx := X.1
    have hb := X.2.1
    unfold fL_law_J984 at hf
    refine m_const (v := 0) hx hb dL_law_984 rfl ?_
    exact hc985 ad nm σ _ _ _ x3 x4 x5 0 hx3 hx4 hx5 (by decide) hf X hW hS (lv_sub hl [0, 1, 2, 3, 4, 5, 6, 7] rfl)
  have hc921 : ∀ (ad : Nat → Nat) (nm : Nat) (σ : St) (H : Heap) (locs : List Loc) (ls : Array Slot) (x3 : Int) (x4 : Int) (x5 : Int) (t0 : Int), inR x3 → inR x4 → inR x5 → inR t0 → fL_law_J921 n nm nv σ x6 x7 x8 x3 x4 x5 t0 = some r → Cx p s m args c cL_law 19 RL D cy ad nm nv A → Wd D cy ad nm nv σ H → va_S A s.heap H locs → lv_has ls 19 [(0, .ref b), (1, .ref (ad 0)), (2, .ref (ad 290)), (3, .int (i32 x3)), (4, .int (i32 x4)), (5, .int (i32 x5)), (6, .int (i32 x6)), (8, .int (i32 x8))] → W p l e room_1 s m args below meth c H locs (c0 + 0) (s0 + 0) Q (F0 m 921 ls [.int (i32 t0)]) := by
    intro ad nm σ H locs ls x3 x4 x5 t0 hx3 hx4 hx5 ht0 hf X hW hS hl
    have hx := X.1
    have hb := X.2.1
    unfold fL_law_J921 at hf
    refine lv_istore (lv' := [(14, .int (i32 t0)), (0, .ref b), (1, .ref (ad 0)), (2, .ref (ad 290)), (3, .int (i32 x3)), (4, .int (i32 x4)), (5, .int (i32 x5)), (6, .int (i32 x6)), (8, .int (i32 x8))]) hx hb dL_law_921 hl (by decide) rfl (fun ls hl => ?_)
    refine lv_iload hx hb dL_law_923 (lv_at hl 8 rfl) ?_
    refine m_const (v := 5) hx hb dL_law_925 rfl ?_
    refine m_ishr hx hb hf dL_law_926 (fun v172 hv172 hf => ?_)
    refine m_const (v := 2) hx hb dL_law_927 rfl ?_
    refine m_callSi1 (z := false) (As := [.int (i32 v172), .int (i32 2)]) (rest := []) X hW hS hl.1 gc_L_69 hd_L_low ⟨rfl, rfl, Nat.le_of_ble_eq_true rfl, Nat.le_of_ble_eq_true rfl⟩ (fun v q => ok_L_low hv172 (by decide) q) hf rfl rfl (Nat.le_of_ble_eq_true rfl) dL_law_928 ⟨hC0 0 (Nat.le_of_ble_eq_true rfl), hS0 0 (Nat.le_of_ble_eq_true rfl)⟩ (fun v173 H locs hv173 zv173 hWv173 hSv173 hf => ?_)
    refine m_if_ne (tgt := 990) hx hb hv173 hf dL_law_931 (by decide) (fun hf => ?_) (fun hf => ?_)
    · skip
      exact hc990 ad nm σ _ _ _ x3 x4 x5 t0 hx3 hx4 hx5 ht0 hf X hWv173 hSv173 (lv_sub hl [1, 2, 3, 4, 5, 6, 7, 8, 0] rfl)
    · skip
      refine lv_iload hx hb dL_law_934 (lv_at hl 0 rfl) ?_
      refine m_if_eq (tgt := 984) hx hb ht0 hf dL_law_936 (by decide) (fun hf => ?_) (fun hf => ?_)
      · skip
        exact hc984 ad nm σ _ _ _ x3 x4 x5 hx3 hx4 hx5 hf X hWv173 hSv173 (lv_sub hl [1, 2, 3, 4, 5, 6, 7, 8] rfl)
      · skip
        refine lv_aload_n hx hb dL_law_939 rfl (lv_at hl 2 rfl) ?_
        refine lv_iload hx hb dL_law_940 (lv_at hl 8 rfl) ?_
        refine m_bipush (v := 6) hx hb dL_law_942 (by decide) ?_
        refine m_ishr hx hb hf dL_law_944 (fun v174 hv174 hf => ?_)
        refine lv_aload_n hx hb dL_law_945 rfl (lv_at hl 2 rfl) ?_
        refine m_const (v := 0) hx hb dL_law_946 rfl ?_
        refine m_callVi (z := false) (As := [.int (i32 0)]) (rest := [.int (i32 v174), .ref (ad 0)]) X hWv173 hSv173 hl.1 gc_L_20 hd_X5_blocks ⟨rfl, rfl, Nat.le_of_ble_eq_true rfl, Nat.le_of_ble_eq_true rfl⟩ (rc_X5 X hWv173) (fun v q9 q => ok0_X5_blocks (by decide) (zw_of q)) hf rfl rfl (Nat.le_of_ble_eq_true rfl) dL_law_947 ⟨hC0 0 (Nat.le_of_ble_eq_true rfl), hS0 0 (Nat.le_of_ble_eq_true rfl)⟩ (fun v176 σ175 H locs hv176 zv176 hW175 hS175 hf => ?_)
        refine m_callSi1 (z := false) (As := [.int (i32 v174), .int (i32 v176)]) (rest := [.ref (ad 0)]) X hW175 hS175 hl.1 gc_L_69 hd_L_low ⟨rfl, rfl, Nat.le_of_ble_eq_true rfl, Nat.le_of_ble_eq_true rfl⟩ (fun v q => ok_L_low hv174 hv176 q) hf rfl rfl (Nat.le_of_ble_eq_true rfl) dL_law_950 ⟨hC0 0 (Nat.le_of_ble_eq_true rfl), hS0 0 (Nat.le_of_ble_eq_true rfl)⟩ (fun v177 H locs hv177 zv177 hWv177 hSv177 hf => ?_)
        refine m_const (v := 1) hx hb dL_law_953 rfl ?_
        refine lv_iload hx hb dL_law_954 (lv_at hl 8 rfl) ?_
        refine m_bipush (v := 9) hx hb dL_law_956 (by decide) ?_
        refine m_ishr hx hb hf dL_law_958 (fun v178 hv178 hf => ?_)
        refine m_const (v := 3) hx hb dL_law_959 rfl ?_
        refine m_callSi1 (z := false) (As := [.int (i32 v178), .int (i32 3)]) (rest := [.int (i32 1), .int (i32 v177), .ref (ad 0)]) X hWv177 hSv177 hl.1 gc_L_69 hd_L_low ⟨rfl, rfl, Nat.le_of_ble_eq_true rfl, Nat.le_of_ble_eq_true rfl⟩ (fun v q => ok_L_low hv178 (by decide) q) hf rfl rfl (Nat.le_of_ble_eq_true rfl) dL_law_960 ⟨hC0 0 (Nat.le_of_ble_eq_true rfl), hS0 0 (Nat.le_of_ble_eq_true rfl)⟩ (fun v179 H locs hv179 zv179 hWv179 hSv179 hf => ?_)
        refine m_iadd hx hb hf dL_law_963 (fun v180 hv180 hf => ?_)
        refine lv_iload hx hb dL_law_964 (lv_at hl 8 rfl) ?_
        refine m_bipush (v := 11) hx hb dL_law_966 (by decide) ?_
        refine m_ishr hx hb hf dL_law_968 (fun v181 hv181 hf => ?_)
        refine m_const (v := 2) hx hb dL_law_969 rfl ?_
        refine m_callSi1 (z := false) (As := [.int (i32 v181), .int (i32 2)]) (rest := [.int (i32 v180), .int (i32 v177), .ref (ad 0)]) X hWv179 hSv179 hl.1 gc_L_69 hd_L_low ⟨rfl, rfl, Nat.le_of_ble_eq_true rfl, Nat.le_of_ble_eq_true rfl⟩ (fun v q => ok_L_low hv181 (by decide) q) hf rfl rfl (Nat.le_of_ble_eq_true rfl) dL_law_970 ⟨hC0 0 (Nat.le_of_ble_eq_true rfl), hS0 0 (Nat.le_of_ble_eq_true rfl)⟩ (fun v182 H locs hv182 zv182 hWv182 hSv182 hf => ?_)
        refine m_callVi (z := false) (As := [.int (i32 v177), .int (i32 v180), .int (i32 v182)]) (rest := []) X hWv182 hSv182 hl.1 gc_L_129 hd_X5_allow ⟨rfl, rfl, Nat.le_of_ble_eq_true rfl, Nat.le_of_ble_eq_true rfl⟩ (rc_X5 X hWv182) (fun v q9 q => ok0_X5_allow hv177 hv180 hv182 (zw_of q)) hf rfl rfl (Nat.le_of_ble_eq_true rfl) dL_law_973 ⟨hC0 0 (Nat.le_of_ble_eq_true rfl), hS0 0 (Nat.le_of_ble_eq_true rfl)⟩ (fun v184 σ183 H locs hv184 zv184 hW183 hS183 hf => ?_)
        refine lv_iload_n hx hb dL_law_976 rfl (lv_at hl 4 rfl) ?_
        refine m_icmp_ne (tgt := 984) hx hb hv184 hx3 hf dL_law_977 (by decide) (fun hf => ?_) (fun hf => ?_)
        · skip
          exact hc984 ad nm σ183 _ _ _ x3 x4 x5 hx3 hx4 hx5 hf X hW183 hS183 (lv_sub hl [1, 2, 3, 4, 5, 6, 7, 8] rfl)
        · skip
          refine m_const (v := 1) hx hb dL_law_980 rfl ?_
          refine lv_goto (tgt := 985) hx hb dL_law_981 (by decide) ?_
          exact hc985 ad nm σ183 _ _ _ x3 x4 x5 1 hx3 hx4 hx5 (by decide) hf X hW183 hS183 (lv_sub hl [1, 2, 3, 4, 5, 6, 7, 8] rfl)
  have hc892 : ∀ (ad : Nat → Nat) (nm : Nat) (σ : St) (H : Heap) (locs : List Loc) (ls : Array Slot) (x3 : Int) (x4 : Int) (x5 : Int) (x10 : Int) (t0 : Int), inR x3 → inR x4 → inR x5 → inR x10 → inR t0 → fL_law_J892 n nm nv σ x6 x7 x8 x3 x4 x5 x10 t0 = some r → Cx p s m args c cL_law 19 RL D cy ad nm nv A → Wd D cy ad nm nv σ H → va_S A s.heap H locs → lv_has ls 19 [(0, .ref b), (1, .ref (ad 0)), (2, .ref (ad 290)), (3, .int (i32 x3)), (4, .int (i32 x4)), (5, .int (i32 x5)), (6, .int (i32 x6)), (8, .int (i32 x8)), (10, .int (i32 x10))] → W p l e room_1 s m args below meth c H locs (c0 + 0) (s0 + 0) Q (F0 m 892 ls [.int (i32 t0)]) := by
    intro ad nm σ H locs ls x3 x4 x5 x10 t0 hx3 hx4 hx5 hx10 ht0 hf X hW hS hl
    have hx := X.1
    have hb := X.2.1
    unfold fL_law_J892 at hf
    refine lv_istore (lv' := [(15, .int (i32 t0)), (0, .ref b), (1, .ref (ad 0)), (2, .ref (ad 290)), (3, .int (i32 x3)), (4, .int (i32 x4)), (5, .int (i32 x5)), (6, .int (i32 x6)), (8, .int (i32 x8)), (10, .int (i32 x10))]) hx hb dL_law_892 hl (by decide) rfl (fun ls hl => ?_)
    refine lv_aload_n hx hb dL_law_894 rfl (lv_at hl 2 rfl) ?_
    refine lv_iload hx hb dL_law_895 (lv_at hl 9 rfl) ?_
    refine lv_iload hx hb dL_law_897 (lv_at hl 0 rfl) ?_
    refine m_callVi (z := true) (As := [.int (i32 x10), .int (i32 t0)]) (rest := []) X hW hS hl.1 gc_L_125 hd_X5_propose ⟨rfl, rfl, Nat.le_of_ble_eq_true rfl, Nat.le_of_ble_eq_true rfl⟩ (rc_X5 X hW) (fun v q9 q => ok0_X5_propose hx10 ht0 (zw_of q)) hf rfl rfl (Nat.le_of_ble_eq_true rfl) dL_law_899 ⟨hC0 0 (Nat.le_of_ble_eq_true rfl), hS0 0 (Nat.le_of_ble_eq_true rfl)⟩ (fun v127 σ126 H locs hv127 zv127 hW126 hS126 hf => ?_)
    refine lv_pop hx hb dL_law_902 rfl ?_
    refine lv_aload_n hx hb dL_law_903 rfl (lv_at hl 2 rfl) ?_
    refine lv_iload hx hb dL_law_904 (lv_at hl 9 rfl) ?_
    refine lv_iload hx hb dL_law_906 (lv_at hl 0 rfl) ?_
    refine m_callVi (z := true) (As := [.int (i32 x10), .int (i32 t0)]) (rest := []) X hW126 hS126 hl.1 gc_L_125 hd_X5_propose ⟨rfl, rfl, Nat.le_of_ble_eq_true rfl, Nat.le_of_ble_eq_true rfl⟩ (rc_X5 X hW126) (fun v q9 q => ok0_X5_propose hx10 ht0 (zw_of q)) hf rfl rfl (Nat.le_of_ble_eq_true rfl) dL_law_908 ⟨hC0 0 (Nat.le_of_ble_eq_true rfl), hS0 0 (Nat.le_of_ble_eq_true rfl)⟩ (fun v129 σ128 H locs hv129 zv129 hW128 hS128 hf => ?_)
    refine lv_iload hx hb dL_law_911 (lv_at hl 0 rfl) ?_
    refine m_icmp_ne (tgt := 920) hx hb hv129 ht0 hf dL_law_913 (by decide) (fun hf => ?_) (fun hf => ?_)
    · skip
      refine m_const (v := 0) hx hb dL_law_920 rfl ?_
      exact hc921 ad nm σ128 _ _ _ x3 x4 x5 0 hx3 hx4 hx5 (by decide) hf X hW128 hS128 (lv_sub hl [1, 2, 3, 4, 5, 6, 7, 8] rfl)
    · skip
      refine m_const (v := 1) hx hb dL_law_916 rfl ?_
      refine lv_goto (tgt := 921) hx hb dL_law_917 (by decide) ?_
      exact hc921 ad nm σ128 _ _ _ x3 x4 x5 1 hx3 hx4 hx5 (by decide) hf X hW128 hS128 (lv_sub hl [1, 2, 3, 4, 5, 6, 7, 8] rfl)
  have hc866 : ∀ (ad : Nat → Nat) (nm : Nat) (σ : St) (H : Heap) (locs : List Loc) (ls : Array Slot) (x3 : Int) (x4 : Int) (x5 : Int) (x14 : Int), inR x3 → inR x4 → inR x5 → inR x14 → fL_law_J866 n nm nv σ x6 x7 x8 x3 x4 x5 x14 = some r → Cx p s m args c cL_law 19 RL D cy ad nm nv A → Wd D cy ad nm nv σ H → va_S A s.heap H locs → lv_has ls 19 [(0, .ref b), (1, .ref (ad 0)), (2, .ref (ad 290)), (3, .int (i32 x3)), (4, .int (i32 x4)), (5, .int (i32 x5)), (6, .int (i32 x6)), (8, .int (i32 x8)), (14, .int (i32 x14))] → W p l e room_1 s m args below meth c H locs (c0 + 0) (s0 + 0) Q (F0 m 866 ls []) := by
    intro ad nm σ H locs ls x3 x4 x5 x14 hx3 hx4 hx5 hx14 hf X hW hS hl
    have hx := X.1
    have hb := X.2.1
    unfold fL_law_J866 at hf
    refine lv_goto (tgt := 1233) hx hb dL_law_866 (by decide) ?_
    refine W.widen (k := c0 + 8) (n := s0 + 338) (by omega) (by omega) ?_
    exact hc1233 ad nm σ _ _ _ x3 x4 x5 x14 hx3 hx4 hx5 hx14 hf X hW hS (lv_sub hl [0, 1, 2, 3, 4, 5, 6, 7, 8] rfl)
  have hc853 : ∀ (ad : Nat → Nat) (nm : Nat) (σ : St) (H : Heap) (locs : List Loc) (ls : Array Slot) (x3 : Int) (x4 : Int) (x5 : Int) (x10 : Int) (t0 : Int), inR x3 → inR x4 → inR x5 → inR x10 → inR t0 → fL_law_J853 n nm nv σ x6 x7 x8 x3 x4 x5 x10 t0 = some r → Cx p s m args c cL_law 19 RL D cy ad nm nv A → Wd D cy ad nm nv σ H → va_S A s.heap H locs → lv_has ls 19 [(0, .ref b), (1, .ref (ad 0)), (2, .ref (ad 290)), (3, .int (i32 x3)), (4, .int (i32 x4)), (5, .int (i32 x5)), (6, .int (i32 x6)), (8, .int (i32 x8)), (10, .int (i32 x10))] → W p l e room_1 s m args below meth c H locs (c0 + 0) (s0 + 0) Q (F0 m 853 ls [.int (i32 t0)]) := by
    intro ad nm σ H locs ls x3 x4 x5 x10 t0 hx3 hx4 hx5 hx10 ht0 hf X hW hS hl
    have hx := X.1
    have hb := X.2.1
    unfold fL_law_J853 at hf
    refine lv_istore (lv' := [(14, .int (i32 t0)), (0, .ref b), (1, .ref (ad 0)), (2, .ref (ad 290)), (3, .int (i32 x3)), (4, .int (i32 x4)), (5, .int (i32 x5)), (6, .int (i32 x6)), (8, .int (i32 x8)), (10, .int (i32 x10))]) hx hb dL_law_853 hl (by decide) rfl (fun ls hl => ?_)
    refine m_iinc (k0 := 4) (fun v185 => [(3, .int (i32 v185)), (14, .int (i32 t0)), (0, .ref b), (1, .ref (ad 0)), (2, .ref (ad 290)), (4, .int (i32 x4)), (5, .int (i32 x5)), (6, .int (i32 x6)), (8, .int (i32 x8)), (10, .int (i32 x10))]) hx hb hf dL_law_855 hl rfl (by decide) (fun _ => rfl) (fun v185 ls hv185 hf hl => ?_)
    have hl : lv_has ls 19 [(3, .int (i32 v185)), (14, .int (i32 t0)), (0, .ref b), (1, .ref (ad 0)), (2, .ref (ad 290)), (4, .int (i32 x4)), (5, .int (i32 x5)), (6, .int (i32 x6)), (8, .int (i32 x8)), (10, .int (i32 x10))] := hl
    refine lv_aload_n hx hb dL_law_858 rfl (lv_at hl 4 rfl) ?_
    refine lv_iload hx hb dL_law_859 (lv_at hl 9 rfl) ?_
    refine lv_dup2_11 hx hb dL_law_861 rfl rfl ?_
    refine m_iald X hW a_out hx10 hf dL_law_862 (fun v186 hv186 hf => ?_)
    refine m_const (v := 1) hx hb dL_law_863 rfl ?_
    refine m_iadd hx hb hf dL_law_864 (fun v187 hv187 hf => ?_)
    refine m_iast X hW hS a_out hx10 hv187 hf dL_law_865 (fun σ188 H locs hW188 hS188 hf => ?_)
    exact hc866 ad nm σ188 _ _ _ v185 x4 x5 t0 hv185 hx4 hx5 ht0 hf X hW188 hS188 (lv_sub hl [2, 3, 4, 0, 5, 6, 7, 8, 1] rfl)
  have hc852 : ∀ (ad : Nat → Nat) (nm : Nat) (σ : St) (H : Heap) (locs : List Loc) (ls : Array Slot) (x3 : Int) (x4 : Int) (x5 : Int) (x10 : Int), inR x3 → inR x4 → inR x5 → inR x10 → fL_law_J852 n nm nv σ x6 x7 x8 x3 x4 x5 x10 = some r → Cx p s m args c cL_law 19 RL D cy ad nm nv A → Wd D cy ad nm nv σ H → va_S A s.heap H locs → lv_has ls 19 [(0, .ref b), (1, .ref (ad 0)), (2, .ref (ad 290)), (3, .int (i32 x3)), (4, .int (i32 x4)), (5, .int (i32 x5)), (6, .int (i32 x6)), (8, .int (i32 x8)), (10, .int (i32 x10))] → W p l e room_1 s m args below meth c H locs (c0 + 0) (s0 + 0) Q (F0 m 852 ls []) := by
    intro ad nm σ H locs ls x3 x4 x5 x10 hx3 hx4 hx5 hx10 hf X hW hS hl
    have hx := X.1
    have hb := X.2.1
    unfold fL_law_J852 at hf
    refine m_const (v := 0) hx hb dL_law_852 rfl ?_
    exact hc853 ad nm σ _ _ _ x3 x4 x5 x10 0 hx3 hx4 hx5 hx10 (by decide) hf X hW hS (lv_sub hl [0, 1, 2, 3, 4, 5, 6, 7, 8] rfl)
  have hc797 : ∀ (ad : Nat → Nat) (nm : Nat) (σ : St) (H : Heap) (locs : List Loc) (ls : Array Slot) (x3 : Int) (x4 : Int) (x5 : Int) (x10 : Int) (x15 : Int) (t0 : Int), inR x3 → inR x4 → inR x5 → inR x10 → inR x15 → inR t0 → fL_law_J797 n nm nv σ x6 x7 x8 x3 x4 x5 x10 x15 t0 = some r → Cx p s m args c cL_law 19 RL D cy ad nm nv A → Wd D cy ad nm nv σ H → va_S A s.heap H locs → lv_has ls 19 [(0, .ref b), (1, .ref (ad 0)), (2, .ref (ad 290)), (3, .int (i32 x3)), (4, .int (i32 x4)), (5, .int (i32 x5)), (6, .int (i32 x6)), (8, .int (i32 x8)), (10, .int (i32 x10)), (15, .int (i32 x15))] → W p l e room_1 s m args below meth c H locs (c0 + 0) (s0 + 0) Q (F0 m 797 ls [.int (i32 t0)]) := by
    intro ad nm σ H locs ls x3 x4 x5 x10 x15 t0 hx3 hx4 hx5 hx10 hx15 ht0 hf X hW hS hl
    have hx := X.1
    have hb := X.2.1
    unfold fL_law_J797 at hf
    refine lv_istore (lv' := [(14, .int (i32 t0)), (0, .ref b), (1, .ref (ad 0)), (2, .ref (ad 290)), (3, .int (i32 x3)), (4, .int (i32 x4)), (5, .int (i32 x5)), (6, .int (i32 x6)), (8, .int (i32 x8)), (10, .int (i32 x10)), (15, .int (i32 x15))]) hx hb dL_law_797 hl (by decide) rfl (fun ls hl => ?_)
    refine m_iinc (k0 := 4) (fun v130 => [(3, .int (i32 v130)), (14, .int (i32 t0)), (0, .ref b), (1, .ref (ad 0)), (2, .ref (ad 290)), (4, .int (i32 x4)), (5, .int (i32 x5)), (6, .int (i32 x6)), (8, .int (i32 x8)), (10, .int (i32 x10)), (15, .int (i32 x15))]) hx hb hf dL_law_799 hl rfl (by decide) (fun _ => rfl) (fun v130 ls hv130 hf hl => ?_)
    have hl : lv_has ls 19 [(3, .int (i32 v130)), (14, .int (i32 t0)), (0, .ref b), (1, .ref (ad 0)), (2, .ref (ad 290)), (4, .int (i32 x4)), (5, .int (i32 x5)), (6, .int (i32 x6)), (8, .int (i32 x8)), (10, .int (i32 x10)), (15, .int (i32 x15))] := hl
    refine lv_aload_n hx hb dL_law_802 rfl (lv_at hl 4 rfl) ?_
    refine lv_iload hx hb dL_law_803 (lv_at hl 9 rfl) ?_
    refine lv_dup2_11 hx hb dL_law_805 rfl rfl ?_
    refine m_iald X hW a_out hx10 hf dL_law_806 (fun v131 hv131 hf => ?_)
    refine m_const (v := 1) hx hb dL_law_807 rfl ?_
    refine m_isub hx hb hf dL_law_808 (fun v132 hv132 hf => ?_)
    refine m_iast X hW hS a_out hx10 hv132 hf dL_law_809 (fun σ133 H locs hW133 hS133 hf => ?_)
    refine lv_iload hx hb dL_law_810 (lv_at hl 8 rfl) ?_
    refine m_const (v := 4) hx hb dL_law_812 rfl ?_
    refine m_ishr hx hb hf dL_law_813 (fun v134 hv134 hf => ?_)
    refine m_const (v := 2) hx hb dL_law_814 rfl ?_
    refine m_callSi1 (z := false) (As := [.int (i32 v134), .int (i32 2)]) (rest := []) X hW133 hS133 hl.1 gc_L_69 hd_L_low ⟨rfl, rfl, Nat.le_of_ble_eq_true rfl, Nat.le_of_ble_eq_true rfl⟩ (fun v q => ok_L_low hv134 (by decide) q) hf rfl rfl (Nat.le_of_ble_eq_true rfl) dL_law_815 ⟨hC0 0 (Nat.le_of_ble_eq_true rfl), hS0 0 (Nat.le_of_ble_eq_true rfl)⟩ (fun v135 H locs hv135 zv135 hWv135 hSv135 hf => ?_)
    refine m_if_ne (tgt := 866) hx hb hv135 hf dL_law_818 (by decide) (fun hf => ?_) (fun hf => ?_)
    · skip
      exact hc866 ad nm σ133 _ _ _ v130 x4 x5 t0 hv130 hx4 hx5 ht0 hf X hWv135 hSv135 (lv_sub hl [2, 3, 4, 0, 5, 6, 7, 8, 1] rfl)
    · skip
      refine lv_iload hx hb dL_law_821 (lv_at hl 1 rfl) ?_
      refine m_if_eq (tgt := 852) hx hb ht0 hf dL_law_823 (by decide) (fun hf => ?_) (fun hf => ?_)
      · skip
        exact hc852 ad nm σ133 _ _ _ v130 x4 x5 x10 hv130 hx4 hx5 hx10 hf X hWv135 hSv135 (lv_sub hl [2, 3, 4, 0, 5, 6, 7, 8, 9] rfl)
      · skip
        refine lv_aload_n hx hb dL_law_826 rfl (lv_at hl 3 rfl) ?_
        refine lv_iload hx hb dL_law_827 (lv_at hl 9 rfl) ?_
        refine m_callVi (z := false) (As := [.int (i32 x10)]) (rest := []) X hWv135 hSv135 hl.1 gc_L_122 hd_X5_redo ⟨rfl, rfl, Nat.le_of_ble_eq_true rfl, Nat.le_of_ble_eq_true rfl⟩ (rc_X5 X hWv135) (fun v q9 q => ok0_X5_redo hx10 (zw_of q)) hf rfl rfl (Nat.le_of_ble_eq_true rfl) dL_law_829 ⟨hC0 0 (Nat.le_of_ble_eq_true rfl), hS0 0 (Nat.le_of_ble_eq_true rfl)⟩ (fun v137 σ136 H locs hv137 zv137 hW136 hS136 hf => ?_)
        refine lv_iload hx hb dL_law_832 (lv_at hl 10 rfl) ?_
        refine m_icmp_ne (tgt := 852) hx hb hv137 hx15 hf dL_law_834 (by decide) (fun hf => ?_) (fun hf => ?_)
        · skip
          exact hc852 ad nm σ136 _ _ _ v130 x4 x5 x10 hv130 hx4 hx5 hx10 hf X hW136 hS136 (lv_sub hl [2, 3, 4, 0, 5, 6, 7, 8, 9] rfl)
        · skip
          refine lv_aload_n hx hb dL_law_837 rfl (lv_at hl 3 rfl) ?_
          refine lv_iload hx hb dL_law_838 (lv_at hl 9 rfl) ?_
          refine lv_iload hx hb dL_law_840 (lv_at hl 10 rfl) ?_
          refine m_callVi (z := true) (As := [.int (i32 x10), .int (i32 x15)]) (rest := []) X hW136 hS136 hl.1 gc_L_115 hd_X5_isUndone ⟨rfl, rfl, Nat.le_of_ble_eq_true rfl, Nat.le_of_ble_eq_true rfl⟩ (rc_X5 X hW136) (fun v q9 q => ok0_X5_isUndone hx10 hx15 (zw_of q)) hf rfl rfl (Nat.le_of_ble_eq_true rfl) dL_law_842 ⟨hC0 0 (Nat.le_of_ble_eq_true rfl), hS0 0 (Nat.le_of_ble_eq_true rfl)⟩ (fun v139 σ138 H locs hv139 zv139 hW138 hS138 hf => ?_)
          refine m_if_ne (tgt := 852) hx hb hv139 hf dL_law_845 (by decide) (fun hf => ?_) (fun hf => ?_)
          · skip
            exact hc852 ad nm σ138 _ _ _ v130 x4 x5 x10 hv130 hx4 hx5 hx10 hf X hW138 hS138 (lv_sub hl [2, 3, 4, 0, 5, 6, 7, 8, 9] rfl)
          · skip
            refine m_const (v := 1) hx hb dL_law_848 rfl ?_
            refine lv_goto (tgt := 853) hx hb dL_law_849 (by decide) ?_
            exact hc853 ad nm σ138 _ _ _ v130 x4 x5 x10 1 hv130 hx4 hx5 hx10 (by decide) hf X hW138 hS138 (lv_sub hl [2, 3, 4, 0, 5, 6, 7, 8, 9] rfl)
  have hc796 : ∀ (ad : Nat → Nat) (nm : Nat) (σ : St) (H : Heap) (locs : List Loc) (ls : Array Slot) (x3 : Int) (x4 : Int) (x5 : Int) (x10 : Int) (x15 : Int), inR x3 → inR x4 → inR x5 → inR x10 → inR x15 → fL_law_J796 n nm nv σ x6 x7 x8 x3 x4 x5 x10 x15 = some r → Cx p s m args c cL_law 19 RL D cy ad nm nv A → Wd D cy ad nm nv σ H → va_S A s.heap H locs → lv_has ls 19 [(0, .ref b), (1, .ref (ad 0)), (2, .ref (ad 290)), (3, .int (i32 x3)), (4, .int (i32 x4)), (5, .int (i32 x5)), (6, .int (i32 x6)), (8, .int (i32 x8)), (10, .int (i32 x10)), (15, .int (i32 x15))] → W p l e room_1 s m args below meth c H locs (c0 + 0) (s0 + 0) Q (F0 m 796 ls []) := by
    intro ad nm σ H locs ls x3 x4 x5 x10 x15 hx3 hx4 hx5 hx10 hx15 hf X hW hS hl
    have hx := X.1
    have hb := X.2.1
    unfold fL_law_J796 at hf
    refine m_const (v := 0) hx hb dL_law_796 rfl ?_
    exact hc797 ad nm σ _ _ _ x3 x4 x5 x10 x15 0 hx3 hx4 hx5 hx10 hx15 (by decide) hf X hW hS (lv_sub hl [0, 1, 2, 3, 4, 5, 6, 7, 8, 9] rfl)
  have hc737 : ∀ (ad : Nat → Nat) (nm : Nat) (σ : St) (H : Heap) (locs : List Loc) (ls : Array Slot) (x3 : Int) (x4 : Int) (x5 : Int) (t0 : Int), inR x3 → inR x4 → inR x5 → inR t0 → fL_law_J737 n nm nv σ x6 x7 x8 x3 x4 x5 t0 = some r → Cx p s m args c cL_law 19 RL D cy ad nm nv A → Wd D cy ad nm nv σ H → va_S A s.heap H locs → lv_has ls 19 [(0, .ref b), (1, .ref (ad 0)), (2, .ref (ad 290)), (3, .int (i32 x3)), (4, .int (i32 x4)), (5, .int (i32 x5)), (6, .int (i32 x6)), (8, .int (i32 x8))] → W p l e room_1 s m args below meth c H locs (c0 + 8) (s0 + 338) Q (F0 m 737 ls [.int (i32 t0)]) := by
    intro ad nm σ H locs ls x3 x4 x5 t0 hx3 hx4 hx5 ht0 hf X hW hS hl
    have hx := X.1
    have hb := X.2.1
    unfold fL_law_J737 at hf
    refine lv_istore (lv' := [(14, .int (i32 t0)), (0, .ref b), (1, .ref (ad 0)), (2, .ref (ad 290)), (3, .int (i32 x3)), (4, .int (i32 x4)), (5, .int (i32 x5)), (6, .int (i32 x6)), (8, .int (i32 x8))]) hx hb dL_law_737 hl (by decide) rfl (fun ls hl => ?_)
    refine lv_goto (tgt := 1233) hx hb dL_law_739 (by decide) ?_
    exact hc1233 ad nm σ _ _ _ x3 x4 x5 t0 hx3 hx4 hx5 ht0 hf X hW hS (lv_sub hl [1, 2, 3, 4, 5, 6, 7, 8, 0] rfl)
  have hc736 : ∀ (ad : Nat → Nat) (nm : Nat) (σ : St) (H : Heap) (locs : List Loc) (ls : Array Slot) (x3 : Int) (x4 : Int) (x5 : Int), inR x3 → inR x4 → inR x5 → fL_law_J736 n nm nv σ x6 x7 x8 x3 x4 x5 = some r → Cx p s m args c cL_law 19 RL D cy ad nm nv A → Wd D cy ad nm nv σ H → va_S A s.heap H locs → lv_has ls 19 [(0, .ref b), (1, .ref (ad 0)), (2, .ref (ad 290)), (3, .int (i32 x3)), (4, .int (i32 x4)), (5, .int (i32 x5)), (6, .int (i32 x6)), (8, .int (i32 x8))] → W p l e room_1 s m args below meth c H locs (c0 + 8) (s0 + 338) Q (F0 m 736 ls []) := by
    intro ad nm σ H locs ls x3 x4 x5 hx3 hx4 hx5 hf X hW hS hl
    have hx := X.1
    have hb := X.2.1
    unfold fL_law_J736 at hf
    refine m_const (v := 0) hx hb dL_law_736 rfl ?_
    exact hc737 ad nm σ _ _ _ x3 x4 x5 0 hx3 hx4 hx5 (by decide) hf X hW hS (lv_sub hl [0, 1, 2, 3, 4, 5, 6, 7] rfl)
  have hc687 : ∀ (ad : Nat → Nat) (nm : Nat) (σ : St) (H : Heap) (locs : List Loc) (ls : Array Slot) (x3 : Int) (x4 : Int) (x5 : Int) (x10 : Int) (x11 : Int) (t0 : Int), inR x3 → inR x4 → inR x5 → inR x10 → inR x11 → inR t0 → fL_law_J687 n nm nv σ x6 x7 x8 x3 x4 x5 x10 x11 t0 = some r → Cx p s m args c cL_law 19 RL D cy ad nm nv A → Wd D cy ad nm nv σ H → va_S A s.heap H locs → lv_has ls 19 [(0, .ref b), (1, .ref (ad 0)), (2, .ref (ad 290)), (3, .int (i32 x3)), (4, .int (i32 x4)), (5, .int (i32 x5)), (6, .int (i32 x6)), (8, .int (i32 x8)), (10, .int (i32 x10)), (11, .int (i32 x11))] → W p l e room_1 s m args below meth c H locs (c0 + 4) (s0 + 169) Q (F0 m 687 ls [.int (i32 t0)]) := by
    intro ad nm σ H locs ls x3 x4 x5 x10 x11 t0 hx3 hx4 hx5 hx10 hx11 ht0 hf X hW hS hl
    have hx := X.1
    have hb := X.2.1
    unfold fL_law_J687 at hf
    refine lv_istore (lv' := [(14, .int (i32 t0)), (0, .ref b), (1, .ref (ad 0)), (2, .ref (ad 290)), (3, .int (i32 x3)), (4, .int (i32 x4)), (5, .int (i32 x5)), (6, .int (i32 x6)), (8, .int (i32 x8)), (10, .int (i32 x10)), (11, .int (i32 x11))]) hx hb dL_law_687 hl (by decide) rfl (fun ls hl => ?_)
    refine lv_aload_n hx hb dL_law_689 rfl (lv_at hl 2 rfl) ?_
    refine lv_aload_n hx hb dL_law_690 rfl (lv_at hl 2 rfl) ?_
    refine lv_iload hx hb dL_law_691 (lv_at hl 10 rfl) ?_
    refine lv_iload hx hb dL_law_693 (lv_at hl 9 rfl) ?_
    refine g_callVE (mc2 := 4) (ms2 := 169) (As := [.int (i32 x11), .int (i32 x10)]) (rest := [.ref (ad 0)]) (c0 + 8) (s0 + 338) X hW hS hl.1 gc_L_102 hd_X5_send ⟨rfl, rfl, (Nat.le_of_ble_eq_true rfl), (Nat.le_of_ble_eq_true rfl)⟩ (rc_X5 X hW) (fun v q9 q => ok0_X5_send hx11 hx10 (zw_of q)) hf rfl rfl (Nat.le_of_ble_eq_true rfl) dL_law_695 ⟨(by have := hC0 8 (Nat.le_of_ble_eq_true rfl); omega), (by have := hS0 338 (Nat.le_of_ble_eq_true rfl); omega)⟩ (by omega) (by omega) (fun ad1 v141 σ140 H locs hfix hv141 X hW140 hS140 hf => ?_)
    rw [← hfix 0 (by decide), ← hfix 290 (by decide)] at hl
    rw [← hfix 0 (by decide)]
    refine m_callVi (z := false) (As := [.int (i32 v141)]) (rest := []) X hW140 hS140 hl.1 gc_L_105 hd_X5_deliver ⟨rfl, rfl, Nat.le_of_ble_eq_true rfl, Nat.le_of_ble_eq_true rfl⟩ (rc_X5 X hW140) (fun v q9 q => ok0_X5_deliver hv141 (zw_of q)) hf rfl rfl (Nat.le_of_ble_eq_true rfl) dL_law_698 ⟨hC0 8 (Nat.le_of_ble_eq_true rfl), hS0 338 (Nat.le_of_ble_eq_true rfl)⟩ (fun v143 σ142 H locs hv143 zv143 hW142 hS142 hf => ?_)
    refine lv_pop hx hb dL_law_701 rfl ?_
    refine m_iinc (k0 := 5) (fun v144 => [(4, .int (i32 v144)), (14, .int (i32 t0)), (0, .ref b), (1, .ref (ad1 0)), (2, .ref (ad1 290)), (3, .int (i32 x3)), (5, .int (i32 x5)), (6, .int (i32 x6)), (8, .int (i32 x8)), (10, .int (i32 x10)), (11, .int (i32 x11))]) hx hb hf dL_law_702 hl rfl (by decide) (fun _ => rfl) (fun v144 ls hv144 hf hl => ?_)
    have hl : lv_has ls 19 [(4, .int (i32 v144)), (14, .int (i32 t0)), (0, .ref b), (1, .ref (ad1 0)), (2, .ref (ad1 290)), (3, .int (i32 x3)), (5, .int (i32 x5)), (6, .int (i32 x6)), (8, .int (i32 x8)), (10, .int (i32 x10)), (11, .int (i32 x11))] := hl
    refine lv_iload hx hb dL_law_705 (lv_at hl 1 rfl) ?_
    refine m_if_eq (tgt := 736) hx hb ht0 hf dL_law_707 (by decide) (fun hf => ?_) (fun hf => ?_)
    · skip
      exact hc736 ad1 (nm + 1) σ142 _ _ _ x3 v144 x5 hx3 hv144 hx5 hf X hW142 hS142 (lv_sub hl [2, 3, 4, 5, 0, 6, 7, 8] rfl)
    · skip
      refine lv_aload_n hx hb dL_law_710 rfl (lv_at hl 3 rfl) ?_
      refine lv_iload hx hb dL_law_711 (lv_at hl 0 rfl) ?_
      refine m_const (v := 1) hx hb dL_law_713 rfl ?_
      refine m_isub hx hb hf dL_law_714 (fun v145 hv145 hf => ?_)
      refine m_callVi (z := false) (As := [.int (i32 v145)]) (rest := []) X hW142 hS142 hl.1 gc_L_105 hd_X5_deliver ⟨rfl, rfl, Nat.le_of_ble_eq_true rfl, Nat.le_of_ble_eq_true rfl⟩ (rc_X5 X hW142) (fun v q9 q => ok0_X5_deliver hv145 (zw_of q)) hf rfl rfl (Nat.le_of_ble_eq_true rfl) dL_law_715 ⟨hC0 8 (Nat.le_of_ble_eq_true rfl), hS0 338 (Nat.le_of_ble_eq_true rfl)⟩ (fun v147 σ146 H locs hv147 zv147 hW146 hS146 hf => ?_)
      refine m_if_ne (tgt := 736) hx hb hv147 hf dL_law_718 (by decide) (fun hf => ?_) (fun hf => ?_)
      · skip
        exact hc736 ad1 (nm + 1) σ146 _ _ _ x3 v144 x5 hx3 hv144 hx5 hf X hW146 hS146 (lv_sub hl [2, 3, 4, 5, 0, 6, 7, 8] rfl)
      · skip
        refine lv_aload_n hx hb dL_law_721 rfl (lv_at hl 3 rfl) ?_
        refine lv_iload hx hb dL_law_722 (lv_at hl 9 rfl) ?_
        refine lv_iload hx hb dL_law_724 (lv_at hl 10 rfl) ?_
        refine m_callSi (z := true) (As := [.ref (ad1 0), .int (i32 x10), .int (i32 x11)]) (rest := []) X hW146 hS146 hl.1 gc_L_108 hd_L_areAlike ⟨rfl, rfl, Nat.le_of_ble_eq_true rfl, Nat.le_of_ble_eq_true rfl⟩ (fun v q9 q => ok_L_areAlike hx10 hx11 q) hf rfl rfl (Nat.le_of_ble_eq_true rfl) dL_law_726 ⟨hC0 8 (Nat.le_of_ble_eq_true rfl), hS0 338 (Nat.le_of_ble_eq_true rfl)⟩ (fun v149 σ148 H locs hv149 zv149 hW148 hS148 hf => ?_)
        refine m_if_eq (tgt := 736) hx hb hv149 hf dL_law_729 (by decide) (fun hf => ?_) (fun hf => ?_)
        · skip
          exact hc736 ad1 (nm + 1) σ148 _ _ _ x3 v144 x5 hx3 hv144 hx5 hf X hW148 hS148 (lv_sub hl [2, 3, 4, 5, 0, 6, 7, 8] rfl)
        · skip
          refine m_const (v := 1) hx hb dL_law_732 rfl ?_
          refine lv_goto (tgt := 737) hx hb dL_law_733 (by decide) ?_
          exact hc737 ad1 (nm + 1) σ148 _ _ _ x3 v144 x5 1 hx3 hv144 hx5 (by decide) hf X hW148 hS148 (lv_sub hl [2, 3, 4, 5, 0, 6, 7, 8] rfl)
  have hc617 : ∀ (ad : Nat → Nat) (nm : Nat) (σ : St) (H : Heap) (locs : List Loc) (ls : Array Slot) (x3 : Int) (x4 : Int) (x5 : Int) (x10 : Int) (t0 : Int), inR x3 → inR x4 → inR x5 → inR x10 → inR t0 → fL_law_J617 n nm nv σ x6 x7 x8 x3 x4 x5 x10 t0 = some r → Cx p s m args c cL_law 19 RL D cy ad nm nv A → Wd D cy ad nm nv σ H → va_S A s.heap H locs → lv_has ls 19 [(0, .ref b), (1, .ref (ad 0)), (2, .ref (ad 290)), (3, .int (i32 x3)), (4, .int (i32 x4)), (5, .int (i32 x5)), (6, .int (i32 x6)), (8, .int (i32 x8)), (10, .int (i32 x10))] → W p l e room_1 s m args below meth c H locs (c0 + 0) (s0 + 0) Q (F0 m 617 ls [.int (i32 t0)]) := by
    intro ad nm σ H locs ls x3 x4 x5 x10 t0 hx3 hx4 hx5 hx10 ht0 hf X hW hS hl
    have hx := X.1
    have hb := X.2.1
    unfold fL_law_J617 at hf
    refine lv_istore (lv' := [(14, .int (i32 t0)), (0, .ref b), (1, .ref (ad 0)), (2, .ref (ad 290)), (3, .int (i32 x3)), (4, .int (i32 x4)), (5, .int (i32 x5)), (6, .int (i32 x6)), (8, .int (i32 x8)), (10, .int (i32 x10))]) hx hb dL_law_617 hl (by decide) rfl (fun ls hl => ?_)
    refine m_iinc (k0 := 6) (fun v189 => [(5, .int (i32 v189)), (14, .int (i32 t0)), (0, .ref b), (1, .ref (ad 0)), (2, .ref (ad 290)), (3, .int (i32 x3)), (4, .int (i32 x4)), (6, .int (i32 x6)), (8, .int (i32 x8)), (10, .int (i32 x10))]) hx hb hf dL_law_619 hl rfl (by decide) (fun _ => rfl) (fun v189 ls hv189 hf hl => ?_)
    have hl : lv_has ls 19 [(5, .int (i32 v189)), (14, .int (i32 t0)), (0, .ref b), (1, .ref (ad 0)), (2, .ref (ad 290)), (3, .int (i32 x3)), (4, .int (i32 x4)), (6, .int (i32 x6)), (8, .int (i32 x8)), (10, .int (i32 x10))] := hl
    refine m_iinc (k0 := 5) (fun v190 => [(3, .int (i32 v190)), (5, .int (i32 v189)), (14, .int (i32 t0)), (0, .ref b), (1, .ref (ad 0)), (2, .ref (ad 290)), (4, .int (i32 x4)), (6, .int (i32 x6)), (8, .int (i32 x8)), (10, .int (i32 x10))]) hx hb hf dL_law_622 hl rfl (by decide) (fun _ => rfl) (fun v190 ls hv190 hf hl => ?_)
    have hl : lv_has ls 19 [(3, .int (i32 v190)), (5, .int (i32 v189)), (14, .int (i32 t0)), (0, .ref b), (1, .ref (ad 0)), (2, .ref (ad 290)), (4, .int (i32 x4)), (6, .int (i32 x6)), (8, .int (i32 x8)), (10, .int (i32 x10))] := hl
    refine lv_aload_n hx hb dL_law_625 rfl (lv_at hl 5 rfl) ?_
    refine lv_iload hx hb dL_law_626 (lv_at hl 9 rfl) ?_
    refine lv_dup2_11 hx hb dL_law_628 rfl rfl ?_
    refine m_iald X hW a_out hx10 hf dL_law_629 (fun v191 hv191 hf => ?_)
    refine m_const (v := 1) hx hb dL_law_630 rfl ?_
    refine m_iadd hx hb hf dL_law_631 (fun v192 hv192 hf => ?_)
    refine m_iast X hW hS a_out hx10 hv192 hf dL_law_632 (fun σ193 H locs hW193 hS193 hf => ?_)
    refine lv_goto (tgt := 1233) hx hb dL_law_633 (by decide) ?_
    refine W.widen (k := c0 + 8) (n := s0 + 338) (by omega) (by omega) ?_
    exact hc1233 ad nm σ193 _ _ _ v190 x4 v189 t0 hv190 hx4 hv189 ht0 hf X hW193 hS193 (lv_sub hl [3, 4, 5, 0, 6, 1, 7, 8, 2] rfl)
  have hc616 : ∀ (ad : Nat → Nat) (nm : Nat) (σ : St) (H : Heap) (locs : List Loc) (ls : Array Slot) (x3 : Int) (x4 : Int) (x5 : Int) (x10 : Int), inR x3 → inR x4 → inR x5 → inR x10 → fL_law_J616 n nm nv σ x6 x7 x8 x3 x4 x5 x10 = some r → Cx p s m args c cL_law 19 RL D cy ad nm nv A → Wd D cy ad nm nv σ H → va_S A s.heap H locs → lv_has ls 19 [(0, .ref b), (1, .ref (ad 0)), (2, .ref (ad 290)), (3, .int (i32 x3)), (4, .int (i32 x4)), (5, .int (i32 x5)), (6, .int (i32 x6)), (8, .int (i32 x8)), (10, .int (i32 x10))] → W p l e room_1 s m args below meth c H locs (c0 + 0) (s0 + 0) Q (F0 m 616 ls []) := by
    intro ad nm σ H locs ls x3 x4 x5 x10 hx3 hx4 hx5 hx10 hf X hW hS hl
    have hx := X.1
    have hb := X.2.1
    unfold fL_law_J616 at hf
    refine m_const (v := 0) hx hb dL_law_616 rfl ?_
    exact hc617 ad nm σ _ _ _ x3 x4 x5 x10 0 hx3 hx4 hx5 hx10 (by decide) hf X hW hS (lv_sub hl [0, 1, 2, 3, 4, 5, 6, 7, 8] rfl)
  have hc609 : ∀ (ad : Nat → Nat) (nm : Nat) (σ : St) (H : Heap) (locs : List Loc) (ls : Array Slot) (x3 : Int) (x4 : Int) (x5 : Int) (x10 : Int) (t0 : Int) (t1 : Int), inR x3 → inR x4 → inR x5 → inR x10 → inR t0 → inR t1 → fL_law_J609 n nm nv σ x6 x7 x8 x3 x4 x5 x10 t0 t1 = some r → Cx p s m args c cL_law 19 RL D cy ad nm nv A → Wd D cy ad nm nv σ H → va_S A s.heap H locs → lv_has ls 19 [(0, .ref b), (1, .ref (ad 0)), (2, .ref (ad 290)), (3, .int (i32 x3)), (4, .int (i32 x4)), (5, .int (i32 x5)), (6, .int (i32 x6)), (8, .int (i32 x8)), (10, .int (i32 x10))] → W p l e room_1 s m args below meth c H locs (c0 + 0) (s0 + 0) Q (F0 m 609 ls [.int (i32 t0), .int (i32 t1)]) := by
    intro ad nm σ H locs ls x3 x4 x5 x10 t0 t1 hx3 hx4 hx5 hx10 ht0 ht1 hf X hW hS hl
    have hx := X.1
    have hb := X.2.1
    unfold fL_law_J609 at hf
    refine m_icmp_ne (tgt := 616) hx hb ht1 ht0 hf dL_law_609 (by decide) (fun hf => ?_) (fun hf => ?_)
    · skip
      exact hc616 ad nm σ _ _ _ x3 x4 x5 x10 hx3 hx4 hx5 hx10 hf X hW hS (lv_sub hl [0, 1, 2, 3, 4, 5, 6, 7, 8] rfl)
    · skip
      refine m_const (v := 1) hx hb dL_law_612 rfl ?_
      refine lv_goto (tgt := 617) hx hb dL_law_613 (by decide) ?_
      exact hc617 ad nm σ _ _ _ x3 x4 x5 x10 1 hx3 hx4 hx5 hx10 (by decide) hf X hW hS (lv_sub hl [0, 1, 2, 3, 4, 5, 6, 7, 8] rfl)
  have hc524 : ∀ (ad : Nat → Nat) (nm : Nat) (σ : St) (H : Heap) (locs : List Loc) (ls : Array Slot) (x3 : Int) (x4 : Int) (x5 : Int) (x10 : Int) (t0 : Int), inR x3 → inR x4 → inR x5 → inR x10 → inR t0 → fL_law_J524 n nm nv σ x6 x7 x8 x3 x4 x5 x10 t0 = some r → Cx p s m args c cL_law 19 RL D cy ad nm nv A → Wd D cy ad nm nv σ H → va_S A s.heap H locs → lv_has ls 19 [(0, .ref b), (1, .ref (ad 0)), (2, .ref (ad 290)), (3, .int (i32 x3)), (4, .int (i32 x4)), (5, .int (i32 x5)), (6, .int (i32 x6)), (8, .int (i32 x8)), (10, .int (i32 x10))] → W p l e room_1 s m args below meth c H locs (c0 + 0) (s0 + 0) Q (F0 m 524 ls [.int (i32 t0)]) := by
    intro ad nm σ H locs ls x3 x4 x5 x10 t0 hx3 hx4 hx5 hx10 ht0 hf X hW hS hl
    have hx := X.1
    have hb := X.2.1
    unfold fL_law_J524 at hf
    refine lv_istore (lv' := [(14, .int (i32 t0)), (0, .ref b), (1, .ref (ad 0)), (2, .ref (ad 290)), (3, .int (i32 x3)), (4, .int (i32 x4)), (5, .int (i32 x5)), (6, .int (i32 x6)), (8, .int (i32 x8)), (10, .int (i32 x10))]) hx hb dL_law_524 hl (by decide) rfl (fun ls hl => ?_)
    refine m_iinc (k0 := 4) (fun v194 => [(3, .int (i32 v194)), (14, .int (i32 t0)), (0, .ref b), (1, .ref (ad 0)), (2, .ref (ad 290)), (4, .int (i32 x4)), (5, .int (i32 x5)), (6, .int (i32 x6)), (8, .int (i32 x8)), (10, .int (i32 x10))]) hx hb hf dL_law_526 hl rfl (by decide) (fun _ => rfl) (fun v194 ls hv194 hf hl => ?_)
    have hl : lv_has ls 19 [(3, .int (i32 v194)), (14, .int (i32 t0)), (0, .ref b), (1, .ref (ad 0)), (2, .ref (ad 290)), (4, .int (i32 x4)), (5, .int (i32 x5)), (6, .int (i32 x6)), (8, .int (i32 x8)), (10, .int (i32 x10))] := hl
    refine lv_aload_n hx hb dL_law_529 rfl (lv_at hl 4 rfl) ?_
    refine lv_iload hx hb dL_law_530 (lv_at hl 9 rfl) ?_
    refine lv_dup2_11 hx hb dL_law_532 rfl rfl ?_
    refine m_iald X hW a_out hx10 hf dL_law_533 (fun v195 hv195 hf => ?_)
    refine m_const (v := 1) hx hb dL_law_534 rfl ?_
    refine m_iadd hx hb hf dL_law_535 (fun v196 hv196 hf => ?_)
    refine m_iast X hW hS a_out hx10 hv196 hf dL_law_536 (fun σ197 H locs hW197 hS197 hf => ?_)
    refine lv_goto (tgt := 1233) hx hb dL_law_537 (by decide) ?_
    refine W.widen (k := c0 + 8) (n := s0 + 338) (by omega) (by omega) ?_
    exact hc1233 ad nm σ197 _ _ _ v194 x4 x5 t0 hv194 hx4 hx5 ht0 hf X hW197 hS197 (lv_sub hl [2, 3, 4, 0, 5, 6, 7, 8, 1] rfl)
  have hc512 : ∀ (ad : Nat → Nat) (nm : Nat) (σ : St) (H : Heap) (locs : List Loc) (ls : Array Slot) (x3 : Int) (x4 : Int) (x5 : Int) (x10 : Int) (t0 : Int) (t1 : Int) (t2 : Int), inR x3 → inR x4 → inR x5 → inR x10 → inR t0 → inR t1 → inR t2 → fL_law_J512 n nm nv σ x6 x7 x8 x3 x4 x5 x10 t0 t1 t2 = some r → Cx p s m args c cL_law 19 RL D cy ad nm nv A → Wd D cy ad nm nv σ H → va_S A s.heap H locs → lv_has ls 19 [(0, .ref b), (1, .ref (ad 0)), (2, .ref (ad 290)), (3, .int (i32 x3)), (4, .int (i32 x4)), (5, .int (i32 x5)), (6, .int (i32 x6)), (8, .int (i32 x8)), (10, .int (i32 x10))] → W p l e room_1 s m args below meth c H locs (c0 + 0) (s0 + 0) Q (F0 m 512 ls [.int (i32 t0), .int (i32 t1), .int (i32 t2), .ref (ad 0)]) := by
    intro ad nm σ H locs ls x3 x4 x5 x10 t0 t1 t2 hx3 hx4 hx5 hx10 ht0 ht1 ht2 hf X hW hS hl
    have hx := X.1
    have hb := X.2.1
    unfold fL_law_J512 at hf
    refine m_callVi (z := false) (As := [.int (i32 t2), .int (i32 t1), .int (i32 t0)]) (rest := []) X hW hS hl.1 gc_L_92 hd_X5_mark ⟨rfl, rfl, Nat.le_of_ble_eq_true rfl, Nat.le_of_ble_eq_true rfl⟩ (rc_X5 X hW) (fun v q9 q => ok0_X5_mark ht2 ht1 ht0 (zw_of q)) hf rfl rfl (Nat.le_of_ble_eq_true rfl) dL_law_512 ⟨hC0 0 (Nat.le_of_ble_eq_true rfl), hS0 0 (Nat.le_of_ble_eq_true rfl)⟩ (fun v151 σ150 H locs hv151 zv151 hW150 hS150 hf => ?_)
    refine lv_iload_n hx hb dL_law_515 rfl (lv_at hl 3 rfl) ?_
    refine m_icmp_ne (tgt := 523) hx hb hv151 hx3 hf dL_law_516 (by decide) (fun hf => ?_) (fun hf => ?_)
    · skip
      refine m_const (v := 0) hx hb dL_law_523 rfl ?_
      exact hc524 ad nm σ150 _ _ _ x3 x4 x5 x10 0 hx3 hx4 hx5 hx10 (by decide) hf X hW150 hS150 (lv_sub hl [0, 1, 2, 3, 4, 5, 6, 7, 8] rfl)
    · skip
      refine m_const (v := 1) hx hb dL_law_519 rfl ?_
      refine lv_goto (tgt := 524) hx hb dL_law_520 (by decide) ?_
      exact hc524 ad nm σ150 _ _ _ x3 x4 x5 x10 1 hx3 hx4 hx5 hx10 (by decide) hf X hW150 hS150 (lv_sub hl [0, 1, 2, 3, 4, 5, 6, 7, 8] rfl)
  have hc468 : ∀ (ad : Nat → Nat) (nm : Nat) (σ : St) (H : Heap) (locs : List Loc) (ls : Array Slot) (x3 : Int) (x4 : Int) (x5 : Int) (t0 : Int), inR x3 → inR x4 → inR x5 → inR t0 → fL_law_J468 n nm nv σ x6 x7 x8 x3 x4 x5 t0 = some r → Cx p s m args c cL_law 19 RL D cy ad nm nv A → Wd D cy ad nm nv σ H → va_S A s.heap H locs → lv_has ls 19 [(0, .ref b), (1, .ref (ad 0)), (2, .ref (ad 290)), (3, .int (i32 x3)), (4, .int (i32 x4)), (5, .int (i32 x5)), (6, .int (i32 x6)), (8, .int (i32 x8))] → W p l e room_1 s m args below meth c H locs (c0 + 0) (s0 + 0) Q (F0 m 468 ls [.int (i32 t0)]) := by
    intro ad nm σ H locs ls x3 x4 x5 t0 hx3 hx4 hx5 ht0 hf X hW hS hl
    have hx := X.1
    have hb := X.2.1
    unfold fL_law_J468 at hf
    refine lv_istore (lv' := [(14, .int (i32 t0)), (0, .ref b), (1, .ref (ad 0)), (2, .ref (ad 290)), (3, .int (i32 x3)), (4, .int (i32 x4)), (5, .int (i32 x5)), (6, .int (i32 x6)), (8, .int (i32 x8))]) hx hb dL_law_468 hl (by decide) rfl (fun ls hl => ?_)
    refine lv_goto (tgt := 1233) hx hb dL_law_470 (by decide) ?_
    refine W.widen (k := c0 + 8) (n := s0 + 338) (by omega) (by omega) ?_
    exact hc1233 ad nm σ _ _ _ x3 x4 x5 t0 hx3 hx4 hx5 ht0 hf X hW hS (lv_sub hl [1, 2, 3, 4, 5, 6, 7, 8, 0] rfl)
  have hc467 : ∀ (ad : Nat → Nat) (nm : Nat) (σ : St) (H : Heap) (locs : List Loc) (ls : Array Slot) (x3 : Int) (x4 : Int) (x5 : Int), inR x3 → inR x4 → inR x5 → fL_law_J467 n nm nv σ x6 x7 x8 x3 x4 x5 = some r → Cx p s m args c cL_law 19 RL D cy ad nm nv A → Wd D cy ad nm nv σ H → va_S A s.heap H locs → lv_has ls 19 [(0, .ref b), (1, .ref (ad 0)), (2, .ref (ad 290)), (3, .int (i32 x3)), (4, .int (i32 x4)), (5, .int (i32 x5)), (6, .int (i32 x6)), (8, .int (i32 x8))] → W p l e room_1 s m args below meth c H locs (c0 + 0) (s0 + 0) Q (F0 m 467 ls []) := by
    intro ad nm σ H locs ls x3 x4 x5 hx3 hx4 hx5 hf X hW hS hl
    have hx := X.1
    have hb := X.2.1
    unfold fL_law_J467 at hf
    refine m_const (v := 0) hx hb dL_law_467 rfl ?_
    exact hc468 ad nm σ _ _ _ x3 x4 x5 0 hx3 hx4 hx5 (by decide) hf X hW hS (lv_sub hl [0, 1, 2, 3, 4, 5, 6, 7] rfl)
  have hc438 : ∀ (ad : Nat → Nat) (nm : Nat) (σ : St) (H : Heap) (locs : List Loc) (ls : Array Slot) (x3 : Int) (x4 : Int) (x5 : Int) (x10 : Int) (x15 : Int) (x16 : Int) (t0 : Int) (t1 : Int), inR x3 → inR x4 → inR x5 → inR x10 → inR x15 → inR x16 → inR t0 → inR t1 → fL_law_J438 n nm nv σ x6 x7 x8 x3 x4 x5 x10 x15 x16 t0 t1 = some r → Cx p s m args c cL_law 19 RL D cy ad nm nv A → Wd D cy ad nm nv σ H → va_S A s.heap H locs → lv_has ls 19 [(0, .ref b), (1, .ref (ad 0)), (2, .ref (ad 290)), (3, .int (i32 x3)), (4, .int (i32 x4)), (5, .int (i32 x5)), (6, .int (i32 x6)), (8, .int (i32 x8)), (10, .int (i32 x10)), (15, .int (i32 x15)), (16, .int (i32 x16))] → W p l e room_1 s m args below meth c H locs (c0 + 0) (s0 + 0) Q (F0 m 438 ls [.int (i32 t0), .int (i32 t1)]) := by
    intro ad nm σ H locs ls x3 x4 x5 x10 x15 x16 t0 t1 hx3 hx4 hx5 hx10 hx15 hx16 ht0 ht1 hf X hW hS hl
    have hx := X.1
    have hb := X.2.1
    unfold fL_law_J438 at hf
    refine m_icmp_ne (tgt := 467) hx hb ht1 ht0 hf dL_law_438 (by decide) (fun hf => ?_) (fun hf => ?_)
    · skip
      exact hc467 ad nm σ _ _ _ x3 x4 x5 hx3 hx4 hx5 hf X hW hS (lv_sub hl [0, 1, 2, 3, 4, 5, 6, 7] rfl)
    · skip
      refine lv_aload_n hx hb dL_law_441 rfl (lv_at hl 1 rfl) ?_
      refine lv_iload hx hb dL_law_442 (lv_at hl 8 rfl) ?_
      refine m_callVi (z := false) (As := [.int (i32 x10)]) (rest := []) X hW hS hl.1 gc_L_44 hd_X5_cursor ⟨rfl, rfl, Nat.le_of_ble_eq_true rfl, Nat.le_of_ble_eq_true rfl⟩ (rc_X5 X hW) (fun v q9 q => ok0_X5_cursor hx10 (zw_of q)) hf rfl rfl (Nat.le_of_ble_eq_true rfl) dL_law_444 ⟨hC0 0 (Nat.le_of_ble_eq_true rfl), hS0 0 (Nat.le_of_ble_eq_true rfl)⟩ (fun v153 σ152 H locs hv153 zv153 hW152 hS152 hf => ?_)
      refine lv_iload hx hb dL_law_447 (lv_at hl 10 rfl) ?_
      refine m_icmp_ne (tgt := 467) hx hb hv153 hx16 hf dL_law_449 (by decide) (fun hf => ?_) (fun hf => ?_)
      · skip
        exact hc467 ad nm σ152 _ _ _ x3 x4 x5 hx3 hx4 hx5 hf X hW152 hS152 (lv_sub hl [0, 1, 2, 3, 4, 5, 6, 7] rfl)
      · skip
        refine lv_aload_n hx hb dL_law_452 rfl (lv_at hl 1 rfl) ?_
        refine lv_iload hx hb dL_law_453 (lv_at hl 8 rfl) ?_
        refine m_callVi (z := false) (As := [.int (i32 x10)]) (rest := []) X hW152 hS152 hl.1 gc_L_47 hd_X5_tail ⟨rfl, rfl, Nat.le_of_ble_eq_true rfl, Nat.le_of_ble_eq_true rfl⟩ (rc_X5 X hW152) (fun v q9 q => ok0_X5_tail hx10 (zw_of q)) hf rfl rfl (Nat.le_of_ble_eq_true rfl) dL_law_455 ⟨hC0 0 (Nat.le_of_ble_eq_true rfl), hS0 0 (Nat.le_of_ble_eq_true rfl)⟩ (fun v155 σ154 H locs hv155 zv155 hW154 hS154 hf => ?_)
        refine lv_iload hx hb dL_law_458 (lv_at hl 9 rfl) ?_
        refine m_icmp_ne (tgt := 467) hx hb hv155 hx15 hf dL_law_460 (by decide) (fun hf => ?_) (fun hf => ?_)
        · skip
          exact hc467 ad nm σ154 _ _ _ x3 x4 x5 hx3 hx4 hx5 hf X hW154 hS154 (lv_sub hl [0, 1, 2, 3, 4, 5, 6, 7] rfl)
        · skip
          refine m_const (v := 1) hx hb dL_law_463 rfl ?_
          refine lv_goto (tgt := 468) hx hb dL_law_464 (by decide) ?_
          exact hc468 ad nm σ154 _ _ _ x3 x4 x5 1 hx3 hx4 hx5 (by decide) hf X hW154 hS154 (lv_sub hl [0, 1, 2, 3, 4, 5, 6, 7] rfl)
  have hc364 : ∀ (ad : Nat → Nat) (nm : Nat) (σ : St) (H : Heap) (locs : List Loc) (ls : Array Slot) (x3 : Int) (x4 : Int) (x5 : Int) (x14 : Int), inR x3 → inR x4 → inR x5 → inR x14 → fL_law_J364 n nm nv σ x6 x7 x8 x3 x4 x5 x14 = some r → Cx p s m args c cL_law 19 RL D cy ad nm nv A → Wd D cy ad nm nv σ H → va_S A s.heap H locs → lv_has ls 19 [(0, .ref b), (1, .ref (ad 0)), (2, .ref (ad 290)), (3, .int (i32 x3)), (4, .int (i32 x4)), (5, .int (i32 x5)), (6, .int (i32 x6)), (8, .int (i32 x8)), (14, .int (i32 x14))] → W p l e room_1 s m args below meth c H locs (c0 + 0) (s0 + 0) Q (F0 m 364 ls []) := by
    intro ad nm σ H locs ls x3 x4 x5 x14 hx3 hx4 hx5 hx14 hf X hW hS hl
    have hx := X.1
    have hb := X.2.1
    unfold fL_law_J364 at hf
    refine lv_goto (tgt := 1233) hx hb dL_law_364 (by decide) ?_
    refine W.widen (k := c0 + 8) (n := s0 + 338) (by omega) (by omega) ?_
    exact hc1233 ad nm σ _ _ _ x3 x4 x5 x14 hx3 hx4 hx5 hx14 hf X hW hS (lv_sub hl [0, 1, 2, 3, 4, 5, 6, 7, 8] rfl)
  have hc348 : ∀ (ad : Nat → Nat) (nm : Nat) (σ : St) (H : Heap) (locs : List Loc) (ls : Array Slot) (x3 : Int) (x4 : Int) (x5 : Int) (x10 : Int) (x16 : Int) (t0 : Int), inR x3 → inR x4 → inR x5 → inR x10 → inR x16 → inR t0 → fL_law_J348 n nm nv σ x6 x7 x8 x3 x4 x5 x10 x16 t0 = some r → Cx p s m args c cL_law 19 RL D cy ad nm nv A → Wd D cy ad nm nv σ H → va_S A s.heap H locs → lv_has ls 19 [(0, .ref b), (1, .ref (ad 0)), (2, .ref (ad 290)), (3, .int (i32 x3)), (4, .int (i32 x4)), (5, .int (i32 x5)), (6, .int (i32 x6)), (8, .int (i32 x8)), (10, .int (i32 x10)), (16, .int (i32 x16))] → W p l e room_1 s m args below meth c H locs (c0 + 0) (s0 + 0) Q (F0 m 348 ls [.int (i32 t0)]) := by
    intro ad nm σ H locs ls x3 x4 x5 x10 x16 t0 hx3 hx4 hx5 hx10 hx16 ht0 hf X hW hS hl
    have hx := X.1
    have hb := X.2.1
    unfold fL_law_J348 at hf
    refine lv_istore (lv' := [(14, .int (i32 t0)), (0, .ref b), (1, .ref (ad 0)), (2, .ref (ad 290)), (3, .int (i32 x3)), (4, .int (i32 x4)), (5, .int (i32 x5)), (6, .int (i32 x6)), (8, .int (i32 x8)), (10, .int (i32 x10)), (16, .int (i32 x16))]) hx hb dL_law_348 hl (by decide) rfl (fun ls hl => ?_)
    refine lv_iload_n hx hb dL_law_350 rfl (lv_at hl 4 rfl) ?_
    refine lv_iload hx hb dL_law_351 (lv_at hl 10 rfl) ?_
    refine m_iadd hx hb hf dL_law_353 (fun v205 hv205 hf => ?_)
    refine lv_istore_n (lv' := [(3, .int (i32 v205)), (14, .int (i32 t0)), (0, .ref b), (1, .ref (ad 0)), (2, .ref (ad 290)), (4, .int (i32 x4)), (5, .int (i32 x5)), (6, .int (i32 x6)), (8, .int (i32 x8)), (10, .int (i32 x10)), (16, .int (i32 x16))]) hx hb dL_law_354 rfl hl (by decide) rfl (fun ls hl => ?_)
    refine lv_aload_n hx hb dL_law_355 rfl (lv_at hl 4 rfl) ?_
    refine lv_iload hx hb dL_law_356 (lv_at hl 9 rfl) ?_
    refine lv_dup2_11 hx hb dL_law_358 rfl rfl ?_
    refine m_iald X hW a_out hx10 hf dL_law_359 (fun v206 hv206 hf => ?_)
    refine lv_iload hx hb dL_law_360 (lv_at hl 10 rfl) ?_
    refine m_iadd hx hb hf dL_law_362 (fun v207 hv207 hf => ?_)
    refine m_iast X hW hS a_out hx10 hv207 hf dL_law_363 (fun σ208 H locs hW208 hS208 hf => ?_)
    exact hc364 ad nm σ208 _ _ _ v205 x4 x5 t0 hv205 hx4 hx5 ht0 hf X hW208 hS208 (lv_sub hl [2, 3, 4, 0, 5, 6, 7, 8, 1] rfl)
  have hc347 : ∀ (ad : Nat → Nat) (nm : Nat) (σ : St) (H : Heap) (locs : List Loc) (ls : Array Slot) (x3 : Int) (x4 : Int) (x5 : Int) (x10 : Int) (x16 : Int), inR x3 → inR x4 → inR x5 → inR x10 → inR x16 → fL_law_J347 n nm nv σ x6 x7 x8 x3 x4 x5 x10 x16 = some r → Cx p s m args c cL_law 19 RL D cy ad nm nv A → Wd D cy ad nm nv σ H → va_S A s.heap H locs → lv_has ls 19 [(0, .ref b), (1, .ref (ad 0)), (2, .ref (ad 290)), (3, .int (i32 x3)), (4, .int (i32 x4)), (5, .int (i32 x5)), (6, .int (i32 x6)), (8, .int (i32 x8)), (10, .int (i32 x10)), (16, .int (i32 x16))] → W p l e room_1 s m args below meth c H locs (c0 + 0) (s0 + 0) Q (F0 m 347 ls []) := by
    intro ad nm σ H locs ls x3 x4 x5 x10 x16 hx3 hx4 hx5 hx10 hx16 hf X hW hS hl
    have hx := X.1
    have hb := X.2.1
    unfold fL_law_J347 at hf
    refine m_const (v := 0) hx hb dL_law_347 rfl ?_
    exact hc348 ad nm σ _ _ _ x3 x4 x5 x10 x16 0 hx3 hx4 hx5 hx10 hx16 (by decide) hf X hW hS (lv_sub hl [0, 1, 2, 3, 4, 5, 6, 7, 8, 9] rfl)
  have hc307 : ∀ (ad : Nat → Nat) (nm : Nat) (σ : St) (H : Heap) (locs : List Loc) (ls : Array Slot) (x3 : Int) (x4 : Int) (x5 : Int) (x10 : Int) (x14 : Int) (x15 : Int), inR x3 → inR x4 → inR x5 → inR x10 → inR x14 → inR x15 → fL_law_J307 n nm nv σ x6 x7 x8 x3 x4 x5 x10 x14 x15 = some r → Cx p s m args c cL_law 19 RL D cy ad nm nv A → Wd D cy ad nm nv σ H → va_S A s.heap H locs → lv_has ls 19 [(0, .ref b), (1, .ref (ad 0)), (2, .ref (ad 290)), (3, .int (i32 x3)), (4, .int (i32 x4)), (5, .int (i32 x5)), (6, .int (i32 x6)), (8, .int (i32 x8)), (10, .int (i32 x10)), (14, .int (i32 x14)), (15, .int (i32 x15))] → W p l e room_1 s m args below meth c H locs (c0 + 0) (s0 + 0) Q (F0 m 307 ls []) := by
    intro ad nm σ H locs ls x3 x4 x5 x10 x14 x15 hx3 hx4 hx5 hx10 hx14 hx15 hf X hW hS hl
    have hx := X.1
    have hb := X.2.1
    unfold fL_law_J307 at hf
    refine lv_iload_n hx hb dL_law_307 rfl (lv_at hl 3 rfl) ?_
    refine lv_iload hx hb dL_law_308 (lv_at hl 10 rfl) ?_
    refine m_iadd hx hb hf dL_law_310 (fun v198 hv198 hf => ?_)
    refine m_sipush (v := 150) hx hb dL_law_311 (by decide) ?_
    refine m_icmp_ge (tgt := 364) hx hb hv198 (by decide) hf dL_law_314 (by decide) (fun hf => ?_) (fun hf => ?_)
    · skip
      exact hc364 ad nm σ _ _ _ x3 x4 x5 x14 hx3 hx4 hx5 hx14 hf X hW hS (lv_sub hl [0, 1, 2, 3, 4, 5, 6, 7, 9] rfl)
    · skip
      refine lv_aload_n hx hb dL_law_317 rfl (lv_at hl 1 rfl) ?_
      refine lv_iload hx hb dL_law_318 (lv_at hl 8 rfl) ?_
      refine m_callVi (z := false) (As := [.int (i32 x10)]) (rest := []) X hW hS hl.1 gc_L_79 hd_X5_erase ⟨rfl, rfl, Nat.le_of_ble_eq_true rfl, Nat.le_of_ble_eq_true rfl⟩ (rc_X5 X hW) (fun v q9 q => ok0_X5_erase hx10 (zw_of q)) hf rfl rfl (Nat.le_of_ble_eq_true rfl) dL_law_320 ⟨hC0 0 (Nat.le_of_ble_eq_true rfl), hS0 0 (Nat.le_of_ble_eq_true rfl)⟩ (fun v200 σ199 H locs hv200 zv200 hW199 hS199 hf => ?_)
      refine lv_istore (lv' := [(16, .int (i32 v200)), (0, .ref b), (1, .ref (ad 0)), (2, .ref (ad 290)), (3, .int (i32 x3)), (4, .int (i32 x4)), (5, .int (i32 x5)), (6, .int (i32 x6)), (8, .int (i32 x8)), (10, .int (i32 x10)), (14, .int (i32 x14)), (15, .int (i32 x15))]) hx hb dL_law_323 hl (by decide) rfl (fun ls hl => ?_)
      refine lv_iload hx hb dL_law_325 (lv_at hl 0 rfl) ?_
      refine lv_iload hx hb dL_law_327 (lv_at hl 11 rfl) ?_
      refine m_icmp_ne (tgt := 347) hx hb hv200 hx15 hf dL_law_329 (by decide) (fun hf => ?_) (fun hf => ?_)
      · skip
        exact hc347 ad nm σ199 _ _ _ x3 x4 x5 x10 v200 hx3 hx4 hx5 hx10 hv200 hf X hW199 hS199 (lv_sub hl [1, 2, 3, 4, 5, 6, 7, 8, 9, 0] rfl)
      · skip
        refine lv_aload_n hx hb dL_law_332 rfl (lv_at hl 2 rfl) ?_
        refine m_callVi1 (z := false) (As := []) (rest := []) X hW199 hS199 hl.1 gc_L_82 hd_X5_acts ⟨rfl, rfl, Nat.le_of_ble_eq_true rfl, Nat.le_of_ble_eq_true rfl⟩ (rc_X5 X hW199) (fun v q => ok_X5_acts  q) hf rfl rfl (Nat.le_of_ble_eq_true rfl) dL_law_333 ⟨hC0 0 (Nat.le_of_ble_eq_true rfl), hS0 0 (Nat.le_of_ble_eq_true rfl)⟩ (fun v201 H locs hv201 zv201 hWv201 hSv201 hf => ?_)
        refine lv_iload_n hx hb dL_law_336 rfl (lv_at hl 4 rfl) ?_
        refine lv_iload hx hb dL_law_337 (lv_at hl 0 rfl) ?_
        refine m_iadd hx hb hf dL_law_339 (fun v202 hv202 hf => ?_)
        refine m_icmp_ne (tgt := 347) hx hb hv201 hv202 hf dL_law_340 (by decide) (fun hf => ?_) (fun hf => ?_)
        · skip
          exact hc347 ad nm σ199 _ _ _ x3 x4 x5 x10 v200 hx3 hx4 hx5 hx10 hv200 hf X hWv201 hSv201 (lv_sub hl [1, 2, 3, 4, 5, 6, 7, 8, 9, 0] rfl)
        · skip
          refine m_const (v := 1) hx hb dL_law_343 rfl ?_
          refine lv_goto (tgt := 348) hx hb dL_law_344 (by decide) ?_
          exact hc348 ad nm σ199 _ _ _ x3 x4 x5 x10 v200 1 hx3 hx4 hx5 hx10 hv200 (by decide) hf X hWv201 hSv201 (lv_sub hl [1, 2, 3, 4, 5, 6, 7, 8, 9, 0] rfl)
  have hc291 : ∀ (ad : Nat → Nat) (nm : Nat) (σ : St) (H : Heap) (locs : List Loc) (ls : Array Slot) (x3 : Int) (x4 : Int) (x5 : Int) (x10 : Int) (x13 : Int) (x14 : Int) (t0 : Int), inR x3 → inR x4 → inR x5 → inR x10 → inR x13 → inR x14 → inR t0 → fL_law_J291 n nm nv σ x6 x7 x8 x3 x4 x5 x10 x13 x14 t0 = some r → Cx p s m args c cL_law 19 RL D cy ad nm nv A → Wd D cy ad nm nv σ H → va_S A s.heap H locs → lv_has ls 19 [(0, .ref b), (1, .ref (ad 0)), (2, .ref (ad 290)), (3, .int (i32 x3)), (4, .int (i32 x4)), (5, .int (i32 x5)), (6, .int (i32 x6)), (8, .int (i32 x8)), (10, .int (i32 x10)), (13, .int (i32 x13)), (14, .int (i32 x14))] → W p l e room_1 s m args below meth c H locs (c0 + 0) (s0 + 0) Q (F0 m 291 ls [.int (i32 t0)]) := by
    intro ad nm σ H locs ls x3 x4 x5 x10 x13 x14 t0 hx3 hx4 hx5 hx10 hx13 hx14 ht0 hf X hW hS hl
    have hx := X.1
    have hb := X.2.1
    unfold fL_law_J291 at hf
    refine lv_istore (lv' := [(15, .int (i32 t0)), (0, .ref b), (1, .ref (ad 0)), (2, .ref (ad 290)), (3, .int (i32 x3)), (4, .int (i32 x4)), (5, .int (i32 x5)), (6, .int (i32 x6)), (8, .int (i32 x8)), (10, .int (i32 x10)), (13, .int (i32 x13)), (14, .int (i32 x14))]) hx hb dL_law_291 hl (by decide) rfl (fun ls hl => ?_)
    refine lv_iload hx hb dL_law_293 (lv_at hl 10 rfl) ?_
    refine m_if_ne (tgt := 307) hx hb hx13 hf dL_law_295 (by decide) (fun hf => ?_) (fun hf => ?_)
    · skip
      exact hc307 ad nm σ _ _ _ x3 x4 x5 x10 x14 t0 hx3 hx4 hx5 hx10 hx14 ht0 hf X hW hS (lv_sub hl [1, 2, 3, 4, 5, 6, 7, 8, 9, 11, 0] rfl)
    · skip
      refine lv_aload_n hx hb dL_law_298 rfl (lv_at hl 2 rfl) ?_
      refine lv_iload hx hb dL_law_299 (lv_at hl 9 rfl) ?_
      refine m_callVi (z := false) (As := [.int (i32 x10)]) (rest := []) X hW hS hl.1 gc_L_44 hd_X5_cursor ⟨rfl, rfl, Nat.le_of_ble_eq_true rfl, Nat.le_of_ble_eq_true rfl⟩ (rc_X5 X hW) (fun v q9 q => ok0_X5_cursor hx10 (zw_of q)) hf rfl rfl (Nat.le_of_ble_eq_true rfl) dL_law_301 ⟨hC0 0 (Nat.le_of_ble_eq_true rfl), hS0 0 (Nat.le_of_ble_eq_true rfl)⟩ (fun v157 σ156 H locs hv157 zv157 hW156 hS156 hf => ?_)
      refine m_if_le (tgt := 364) hx hb hv157 hf dL_law_304 (by decide) (fun hf => ?_) (fun hf => ?_)
      · skip
        exact hc364 ad nm σ156 _ _ _ x3 x4 x5 x14 hx3 hx4 hx5 hx14 hf X hW156 hS156 (lv_sub hl [1, 2, 3, 4, 5, 6, 7, 8, 11] rfl)
      · skip
        exact hc307 ad nm σ156 _ _ _ x3 x4 x5 x10 x14 t0 hx3 hx4 hx5 hx10 hx14 ht0 hf X hW156 hS156 (lv_sub hl [1, 2, 3, 4, 5, 6, 7, 8, 9, 11, 0] rfl)
  have hc231 : ∀ (ad : Nat → Nat) (nm : Nat) (σ : St) (H : Heap) (locs : List Loc) (ls : Array Slot) (x3 : Int) (x4 : Int) (x5 : Int) (x10 : Int) (t0 : Int), inR x3 → inR x4 → inR x5 → inR x10 → inR t0 → fL_law_J231 n nm nv σ x6 x7 x8 x3 x4 x5 x10 t0 = some r → Cx p s m args c cL_law 19 RL D cy ad nm nv A → Wd D cy ad nm nv σ H → va_S A s.heap H locs → lv_has ls 19 [(0, .ref b), (1, .ref (ad 0)), (2, .ref (ad 290)), (3, .int (i32 x3)), (4, .int (i32 x4)), (5, .int (i32 x5)), (6, .int (i32 x6)), (8, .int (i32 x8)), (10, .int (i32 x10))] → W p l e room_1 s m args below meth c H locs (c0 + 0) (s0 + 0) Q (F0 m 231 ls [.int (i32 t0)]) := by
    intro ad nm σ H locs ls x3 x4 x5 x10 t0 hx3 hx4 hx5 hx10 ht0 hf X hW hS hl
    have hx := X.1
    have hb := X.2.1
    unfold fL_law_J231 at hf
    refine lv_istore (lv' := [(14, .int (i32 t0)), (0, .ref b), (1, .ref (ad 0)), (2, .ref (ad 290)), (3, .int (i32 x3)), (4, .int (i32 x4)), (5, .int (i32 x5)), (6, .int (i32 x6)), (8, .int (i32 x8)), (10, .int (i32 x10))]) hx hb dL_law_231 hl (by decide) rfl (fun ls hl => ?_)
    refine m_iinc (k0 := 4) (fun v158 => [(3, .int (i32 v158)), (14, .int (i32 t0)), (0, .ref b), (1, .ref (ad 0)), (2, .ref (ad 290)), (4, .int (i32 x4)), (5, .int (i32 x5)), (6, .int (i32 x6)), (8, .int (i32 x8)), (10, .int (i32 x10))]) hx hb hf dL_law_233 hl rfl (by decide) (fun _ => rfl) (fun v158 ls hv158 hf hl => ?_)
    have hl : lv_has ls 19 [(3, .int (i32 v158)), (14, .int (i32 t0)), (0, .ref b), (1, .ref (ad 0)), (2, .ref (ad 290)), (4, .int (i32 x4)), (5, .int (i32 x5)), (6, .int (i32 x6)), (8, .int (i32 x8)), (10, .int (i32 x10))] := hl
    refine lv_aload_n hx hb dL_law_236 rfl (lv_at hl 4 rfl) ?_
    refine lv_iload hx hb dL_law_237 (lv_at hl 9 rfl) ?_
    refine lv_dup2_11 hx hb dL_law_239 rfl rfl ?_
    refine m_iald X hW a_out hx10 hf dL_law_240 (fun v159 hv159 hf => ?_)
    refine m_const (v := 1) hx hb dL_law_241 rfl ?_
    refine m_iadd hx hb hf dL_law_242 (fun v160 hv160 hf => ?_)
    refine m_iast X hW hS a_out hx10 hv160 hf dL_law_243 (fun σ161 H locs hW161 hS161 hf => ?_)
    refine lv_goto (tgt := 1233) hx hb dL_law_244 (by decide) ?_
    refine W.widen (k := c0 + 8) (n := s0 + 338) (by omega) (by omega) ?_
    exact hc1233 ad nm σ161 _ _ _ v158 x4 x5 t0 hv158 hx4 hx5 ht0 hf X hW161 hS161 (lv_sub hl [2, 3, 4, 0, 5, 6, 7, 8, 1] rfl)
  have hc194 : ∀ (ad : Nat → Nat) (nm : Nat) (σ : St) (H : Heap) (locs : List Loc) (ls : Array Slot) (x3 : Int) (x4 : Int) (x5 : Int) (x10 : Int) (t0 : Int), inR x3 → inR x4 → inR x5 → inR x10 → inR t0 → fL_law_J194 n nm nv σ x6 x7 x8 x3 x4 x5 x10 t0 = some r → Cx p s m args c cL_law 19 RL D cy ad nm nv A → Wd D cy ad nm nv σ H → va_S A s.heap H locs → lv_has ls 19 [(0, .ref b), (1, .ref (ad 0)), (2, .ref (ad 290)), (3, .int (i32 x3)), (4, .int (i32 x4)), (5, .int (i32 x5)), (6, .int (i32 x6)), (8, .int (i32 x8)), (10, .int (i32 x10))] → W p l e room_1 s m args below meth c H locs (c0 + 0) (s0 + 0) Q (F0 m 194 ls [.int (i32 t0)]) := by
    intro ad nm σ H locs ls x3 x4 x5 x10 t0 hx3 hx4 hx5 hx10 ht0 hf X hW hS hl
    have hx := X.1
    have hb := X.2.1
    unfold fL_law_J194 at hf
    refine lv_istore (lv' := [(14, .int (i32 t0)), (0, .ref b), (1, .ref (ad 0)), (2, .ref (ad 290)), (3, .int (i32 x3)), (4, .int (i32 x4)), (5, .int (i32 x5)), (6, .int (i32 x6)), (8, .int (i32 x8)), (10, .int (i32 x10))]) hx hb dL_law_194 hl (by decide) rfl (fun ls hl => ?_)
    refine m_iinc (k0 := 4) (fun v162 => [(3, .int (i32 v162)), (14, .int (i32 t0)), (0, .ref b), (1, .ref (ad 0)), (2, .ref (ad 290)), (4, .int (i32 x4)), (5, .int (i32 x5)), (6, .int (i32 x6)), (8, .int (i32 x8)), (10, .int (i32 x10))]) hx hb hf dL_law_196 hl rfl (by decide) (fun _ => rfl) (fun v162 ls hv162 hf hl => ?_)
    have hl : lv_has ls 19 [(3, .int (i32 v162)), (14, .int (i32 t0)), (0, .ref b), (1, .ref (ad 0)), (2, .ref (ad 290)), (4, .int (i32 x4)), (5, .int (i32 x5)), (6, .int (i32 x6)), (8, .int (i32 x8)), (10, .int (i32 x10))] := hl
    refine lv_aload_n hx hb dL_law_199 rfl (lv_at hl 4 rfl) ?_
    refine lv_iload hx hb dL_law_200 (lv_at hl 9 rfl) ?_
    refine lv_dup2_11 hx hb dL_law_202 rfl rfl ?_
    refine m_iald X hW a_out hx10 hf dL_law_203 (fun v163 hv163 hf => ?_)
    refine m_const (v := 1) hx hb dL_law_204 rfl ?_
    refine m_iadd hx hb hf dL_law_205 (fun v164 hv164 hf => ?_)
    refine m_iast X hW hS a_out hx10 hv164 hf dL_law_206 (fun σ165 H locs hW165 hS165 hf => ?_)
    refine lv_goto (tgt := 1233) hx hb dL_law_207 (by decide) ?_
    refine W.widen (k := c0 + 8) (n := s0 + 338) (by omega) (by omega) ?_
    exact hc1233 ad nm σ165 _ _ _ v162 x4 x5 t0 hv162 hx4 hx5 ht0 hf X hW165 hS165 (lv_sub hl [2, 3, 4, 0, 5, 6, 7, 8, 1] rfl)
  have hc193 : ∀ (ad : Nat → Nat) (nm : Nat) (σ : St) (H : Heap) (locs : List Loc) (ls : Array Slot) (x3 : Int) (x4 : Int) (x5 : Int) (x10 : Int), inR x3 → inR x4 → inR x5 → inR x10 → fL_law_J193 n nm nv σ x6 x7 x8 x3 x4 x5 x10 = some r → Cx p s m args c cL_law 19 RL D cy ad nm nv A → Wd D cy ad nm nv σ H → va_S A s.heap H locs → lv_has ls 19 [(0, .ref b), (1, .ref (ad 0)), (2, .ref (ad 290)), (3, .int (i32 x3)), (4, .int (i32 x4)), (5, .int (i32 x5)), (6, .int (i32 x6)), (8, .int (i32 x8)), (10, .int (i32 x10))] → W p l e room_1 s m args below meth c H locs (c0 + 0) (s0 + 0) Q (F0 m 193 ls []) := by
    intro ad nm σ H locs ls x3 x4 x5 x10 hx3 hx4 hx5 hx10 hf X hW hS hl
    have hx := X.1
    have hb := X.2.1
    unfold fL_law_J193 at hf
    refine m_const (v := 0) hx hb dL_law_193 rfl ?_
    exact hc194 ad nm σ _ _ _ x3 x4 x5 x10 0 hx3 hx4 hx5 hx10 (by decide) hf X hW hS (lv_sub hl [0, 1, 2, 3, 4, 5, 6, 7, 8] rfl)
  have hc131 : ∀ (ad : Nat → Nat) (nm : Nat) (σ : St) (H : Heap) (locs : List Loc) (ls : Array Slot) (x3 : Int) (x4 : Int) (x5 : Int) (x10 : Int) (x12 : Int) (x14 : Int), inR x3 → inR x4 → inR x5 → inR x10 → inR x12 → inR x14 → fL_law_J131 n nm nv σ x6 x7 x8 x3 x4 x5 x10 x12 x14 = some r → Cx p s m args c cL_law 19 RL D cy ad nm nv A → Wd D cy ad nm nv σ H → va_S A s.heap H locs → lv_has ls 19 [(0, .ref b), (1, .ref (ad 0)), (2, .ref (ad 290)), (3, .int (i32 x3)), (4, .int (i32 x4)), (5, .int (i32 x5)), (6, .int (i32 x6)), (8, .int (i32 x8)), (10, .int (i32 x10)), (12, .int (i32 x12)), (14, .int (i32 x14))] → W p l e room_1 s m args below meth c H locs (c0 + 0) (s0 + 0) Q (F0 m 131 ls []) := by
    intro ad nm σ H locs ls x3 x4 x5 x10 x12 x14 hx3 hx4 hx5 hx10 hx12 hx14 hf X hW hS hl
    have hx := X.1
    have hb := X.2.1
    unfold fL_law_J131 at hf
    refine lv_iload_n hx hb dL_law_131 rfl (lv_at hl 3 rfl) ?_
    refine m_sipush (v := 155) hx hb dL_law_132 (by decide) ?_
    refine m_icmp_ge (tgt := 1233) hx hb hx3 (by decide) hf dL_law_135 (by decide) (fun hf => ?_) (fun hf => ?_)
    · skip
      refine W.widen (k := c0 + 8) (n := s0 + 338) (by omega) (by omega) ?_
      exact hc1233 ad nm σ _ _ _ x3 x4 x5 x14 hx3 hx4 hx5 hx14 hf X hW hS (lv_sub hl [0, 1, 2, 3, 4, 5, 6, 7, 10] rfl)
    · skip
      refine lv_aload_n hx hb dL_law_138 rfl (lv_at hl 1 rfl) ?_
      refine lv_iload hx hb dL_law_139 (lv_at hl 8 rfl) ?_
      refine m_bipush (v := 97) hx hb dL_law_141 (by decide) ?_
      refine lv_iload hx hb dL_law_143 (lv_at hl 7 rfl) ?_
      refine m_const (v := 4) hx hb dL_law_145 rfl ?_
      refine m_ishr hx hb hf dL_law_146 (fun v95 hv95 hf => ?_)
      refine m_bipush (v := 26) hx hb dL_law_147 (by decide) ?_
      refine m_callSi1 (z := false) (As := [.int (i32 v95), .int (i32 26)]) (rest := [.int (i32 97), .int (i32 x10), .ref (ad 0)]) X hW hS hl.1 gc_L_69 hd_L_low ⟨rfl, rfl, Nat.le_of_ble_eq_true rfl, Nat.le_of_ble_eq_true rfl⟩ (fun v q => ok_L_low hv95 (by decide) q) hf rfl rfl (Nat.le_of_ble_eq_true rfl) dL_law_149 ⟨hC0 0 (Nat.le_of_ble_eq_true rfl), hS0 0 (Nat.le_of_ble_eq_true rfl)⟩ (fun v96 H locs hv96 zv96 hWv96 hSv96 hf => ?_)
      refine m_iadd hx hb hf dL_law_152 (fun v97 hv97 hf => ?_)
      refine m_i2c hx hb hf dL_law_153 (fun v98 hv98 cv98 hf => ?_)
      refine m_callVi (z := false) (As := [.int (i32 x10), .int (i32 v98)]) (rest := []) X hWv96 hSv96 hl.1 gc_L_72 hd_X5_type ⟨rfl, rfl, Nat.le_of_ble_eq_true rfl, Nat.le_of_ble_eq_true rfl⟩ (rc_X5 X hWv96) (fun v q9 q => ok0_X5_type hx10 hv98 (zw_of q)) hf rfl rfl (Nat.le_of_ble_eq_true rfl) dL_law_154 ⟨hC0 0 (Nat.le_of_ble_eq_true rfl), hS0 0 (Nat.le_of_ble_eq_true rfl)⟩ (fun v100 σ99 H locs hv100 zv100 hW99 hS99 hf => ?_)
      refine lv_iload_n hx hb dL_law_157 rfl (lv_at hl 3 rfl) ?_
      refine m_icmp_ne (tgt := 193) hx hb hv100 hx3 hf dL_law_158 (by decide) (fun hf => ?_) (fun hf => ?_)
      · skip
        exact hc193 ad nm σ99 _ _ _ x3 x4 x5 x10 hx3 hx4 hx5 hx10 hf X hW99 hS99 (lv_sub hl [0, 1, 2, 3, 4, 5, 6, 7, 8] rfl)
      · skip
        refine lv_aload_n hx hb dL_law_161 rfl (lv_at hl 1 rfl) ?_
        refine lv_iload hx hb dL_law_162 (lv_at hl 8 rfl) ?_
        refine m_callVi (z := false) (As := [.int (i32 x10)]) (rest := []) X hW99 hS99 hl.1 gc_L_14 hd_X5_length ⟨rfl, rfl, Nat.le_of_ble_eq_true rfl, Nat.le_of_ble_eq_true rfl⟩ (rc_X5 X hW99) (fun v q9 q => ok0_X5_length hx10 (zw_of q)) hf rfl rfl (Nat.le_of_ble_eq_true rfl) dL_law_164 ⟨hC0 0 (Nat.le_of_ble_eq_true rfl), hS0 0 (Nat.le_of_ble_eq_true rfl)⟩ (fun v102 σ101 H locs hv102 zv102 hW101 hS101 hf => ?_)
        refine lv_iload hx hb dL_law_167 (lv_at hl 9 rfl) ?_
        refine m_const (v := 1) hx hb dL_law_169 rfl ?_
        refine m_iadd hx hb hf dL_law_170 (fun v103 hv103 hf => ?_)
        refine m_icmp_ne (tgt := 193) hx hb hv102 hv103 hf dL_law_171 (by decide) (fun hf => ?_) (fun hf => ?_)
        · skip
          exact hc193 ad nm σ101 _ _ _ x3 x4 x5 x10 hx3 hx4 hx5 hx10 hf X hW101 hS101 (lv_sub hl [0, 1, 2, 3, 4, 5, 6, 7, 8] rfl)
        · skip
          refine lv_aload_n hx hb dL_law_174 rfl (lv_at hl 1 rfl) ?_
          refine lv_iload hx hb dL_law_175 (lv_at hl 8 rfl) ?_
          refine m_callVi (z := false) (As := [.int (i32 x10)]) (rest := []) X hW101 hS101 hl.1 gc_L_44 hd_X5_cursor ⟨rfl, rfl, Nat.le_of_ble_eq_true rfl, Nat.le_of_ble_eq_true rfl⟩ (rc_X5 X hW101) (fun v q9 q => ok0_X5_cursor hx10 (zw_of q)) hf rfl rfl (Nat.le_of_ble_eq_true rfl) dL_law_177 ⟨hC0 0 (Nat.le_of_ble_eq_true rfl), hS0 0 (Nat.le_of_ble_eq_true rfl)⟩ (fun v105 σ104 H locs hv105 zv105 hW104 hS104 hf => ?_)
          refine lv_aload_n hx hb dL_law_180 rfl (lv_at hl 1 rfl) ?_
          refine lv_iload hx hb dL_law_181 (lv_at hl 8 rfl) ?_
          refine m_callVi (z := false) (As := [.int (i32 x10)]) (rest := [.int (i32 v105)]) X hW104 hS104 hl.1 gc_L_47 hd_X5_tail ⟨rfl, rfl, Nat.le_of_ble_eq_true rfl, Nat.le_of_ble_eq_true rfl⟩ (rc_X5 X hW104) (fun v q9 q => ok0_X5_tail hx10 (zw_of q)) hf rfl rfl (Nat.le_of_ble_eq_true rfl) dL_law_183 ⟨hC0 0 (Nat.le_of_ble_eq_true rfl), hS0 0 (Nat.le_of_ble_eq_true rfl)⟩ (fun v107 σ106 H locs hv107 zv107 hW106 hS106 hf => ?_)
          refine m_icmp_ne (tgt := 193) hx hb hv105 hv107 hf dL_law_186 (by decide) (fun hf => ?_) (fun hf => ?_)
          · skip
            exact hc193 ad nm σ106 _ _ _ x3 x4 x5 x10 hx3 hx4 hx5 hx10 hf X hW106 hS106 (lv_sub hl [0, 1, 2, 3, 4, 5, 6, 7, 8] rfl)
          · skip
            refine m_const (v := 1) hx hb dL_law_189 rfl ?_
            refine lv_goto (tgt := 194) hx hb dL_law_190 (by decide) ?_
            exact hc194 ad nm σ106 _ _ _ x3 x4 x5 x10 1 hx3 hx4 hx5 hx10 (by decide) hf X hW106 hS106 (lv_sub hl [0, 1, 2, 3, 4, 5, 6, 7, 8] rfl)
  have hc114 : ∀ (ad : Nat → Nat) (nm : Nat) (σ : St) (H : Heap) (locs : List Loc) (ls : Array Slot) (x3 : Int) (x4 : Int) (x5 : Int) (x9 : Int) (x10 : Int) (x11 : Int) (x12 : Int) (t0 : Int), inR x3 → inR x4 → inR x5 → inR x9 → inR x10 → inR x11 → inR x12 → inR t0 → fL_law_J114 n nm nv σ x6 x7 x8 x3 x4 x5 x9 x10 x11 x12 t0 = some r → Cx p s m args c cL_law 19 RL D cy ad nm nv A → Wd D cy ad nm nv σ H → va_S A s.heap H locs → lv_has ls 19 [(0, .ref b), (1, .ref (ad 0)), (2, .ref (ad 290)), (3, .int (i32 x3)), (4, .int (i32 x4)), (5, .int (i32 x5)), (6, .int (i32 x6)), (8, .int (i32 x8)), (9, .int (i32 x9)), (10, .int (i32 x10)), (11, .int (i32 x11)), (12, .int (i32 x12))] → W p l e room_1 s m args below meth c H locs (c0 + 0) (s0 + 0) Q (F0 m 114 ls [.int (i32 t0)]) := by
    intro ad nm σ H locs ls x3 x4 x5 x9 x10 x11 x12 t0 hx3 hx4 hx5 hx9 hx10 hx11 hx12 ht0 hf X hW hS hl
    have hx := X.1
    have hb := X.2.1
    unfold fL_law_J114 at hf
    refine lv_istore (lv' := [(13, .int (i32 t0)), (0, .ref b), (1, .ref (ad 0)), (2, .ref (ad 290)), (3, .int (i32 x3)), (4, .int (i32 x4)), (5, .int (i32 x5)), (6, .int (i32 x6)), (8, .int (i32 x8)), (9, .int (i32 x9)), (10, .int (i32 x10)), (11, .int (i32 x11)), (12, .int (i32 x12))]) hx hb dL_law_114 hl (by decide) rfl (fun ls hl => ?_)
    refine m_const (v := 1) hx hb dL_law_116 rfl ?_
    refine lv_istore (lv' := [(14, .int (i32 1)), (13, .int (i32 t0)), (0, .ref b), (1, .ref (ad 0)), (2, .ref (ad 290)), (3, .int (i32 x3)), (4, .int (i32 x4)), (5, .int (i32 x5)), (6, .int (i32 x6)), (8, .int (i32 x8)), (9, .int (i32 x9)), (10, .int (i32 x10)), (11, .int (i32 x11)), (12, .int (i32 x12))]) hx hb dL_law_117 hl (by decide) rfl (fun ls hl => ?_)
    refine lv_iload_n hx hb dL_law_119 rfl (lv_at hl 5 rfl) ?_
    refine m_bipush (v := 90) hx hb dL_law_120 (by decide) ?_
    refine m_icmp_gt (tgt := 131) hx hb hx3 (by decide) hf dL_law_122 (by decide) (fun hf => ?_) (fun hf => ?_)
    · skip
      exact hc131 ad nm σ _ _ _ x3 x4 x5 x10 x12 1 hx3 hx4 hx5 hx10 hx12 (by decide) hf X hW hS (lv_sub hl [2, 3, 4, 5, 6, 7, 8, 9, 11, 13, 0] rfl)
    · skip
      refine lv_iload hx hb dL_law_125 (lv_at hl 10 rfl) ?_
      refine m_const (v := 5) hx hb dL_law_127 rfl ?_
      refine m_icmp_ge (tgt := 210) hx hb hx9 (by decide) hf dL_law_128 (by decide) (fun hf => ?_) (fun hf => ?_)
      · skip
        refine lv_iload hx hb dL_law_210 (lv_at hl 10 rfl) ?_
        refine m_const (v := 5) hx hb dL_law_212 rfl ?_
        refine m_icmp_ne (tgt := 247) hx hb hx9 (by decide) hf dL_law_213 (by decide) (fun hf => ?_) (fun hf => ?_)
        · skip
          refine lv_iload hx hb dL_law_247 (lv_at hl 10 rfl) ?_
          refine m_bipush (v := 6) hx hb dL_law_249 (by decide) ?_
          refine m_icmp_ne (tgt := 367) hx hb hx9 (by decide) hf dL_law_251 (by decide) (fun hf => ?_) (fun hf => ?_)
          · skip
            refine lv_iload hx hb dL_law_367 (lv_at hl 10 rfl) ?_
            refine m_bipush (v := 9) hx hb dL_law_369 (by decide) ?_
            refine m_icmp_ge (tgt := 473) hx hb hx9 (by decide) hf dL_law_371 (by decide) (fun hf => ?_) (fun hf => ?_)
            · skip
              refine lv_iload hx hb dL_law_473 (lv_at hl 10 rfl) ?_
              refine m_bipush (v := 9) hx hb dL_law_475 (by decide) ?_
              refine m_icmp_ne (tgt := 540) hx hb hx9 (by decide) hf dL_law_477 (by decide) (fun hf => ?_) (fun hf => ?_)
              · skip
                refine lv_iload hx hb dL_law_540 (lv_at hl 10 rfl) ?_
                refine m_bipush (v := 10) hx hb dL_law_542 (by decide) ?_
                refine m_icmp_ne (tgt := 636) hx hb hx9 (by decide) hf dL_law_544 (by decide) (fun hf => ?_) (fun hf => ?_)
                · skip
                  refine lv_iload hx hb dL_law_636 (lv_at hl 10 rfl) ?_
                  refine m_bipush (v := 14) hx hb dL_law_638 (by decide) ?_
                  refine m_icmp_ge (tgt := 742) hx hb hx9 (by decide) hf dL_law_640 (by decide) (fun hf => ?_) (fun hf => ?_)
                  · skip
                    refine lv_iload hx hb dL_law_742 (lv_at hl 10 rfl) ?_
                    refine m_bipush (v := 14) hx hb dL_law_744 (by decide) ?_
                    refine m_icmp_ne (tgt := 869) hx hb hx9 (by decide) hf dL_law_746 (by decide) (fun hf => ?_) (fun hf => ?_)
                    · skip
                      refine lv_iload hx hb dL_law_869 (lv_at hl 10 rfl) ?_
                      refine m_bipush (v := 15) hx hb dL_law_871 (by decide) ?_
                      refine m_icmp_ne (tgt := 993) hx hb hx9 (by decide) hf dL_law_873 (by decide) (fun hf => ?_) (fun hf => ?_)
                      · skip
                        refine lv_iload hx hb dL_law_993 (lv_at hl 10 rfl) ?_
                        refine m_bipush (v := 16) hx hb dL_law_995 (by decide) ?_
                        refine m_icmp_ne (tgt := 1115) hx hb hx9 (by decide) hf dL_law_997 (by decide) (fun hf => ?_) (fun hf => ?_)
                        · skip
                          refine lv_iload hx hb dL_law_1115 (lv_at hl 9 rfl) ?_
                          refine m_const (v := 4) hx hb dL_law_1117 rfl ?_
                          refine m_ishr hx hb hf dL_law_1118 (fun v14 hv14 hf => ?_)
                          refine lv_aload_n hx hb dL_law_1119 rfl (lv_at hl 3 rfl) ?_
                          refine lv_iload hx hb dL_law_1120 (lv_at hl 11 rfl) ?_
                          refine m_callVi (z := false) (As := [.int (i32 x10)]) (rest := [.int (i32 v14)]) X hW hS hl.1 gc_L_20 hd_X5_blocks ⟨rfl, rfl, Nat.le_of_ble_eq_true rfl, Nat.le_of_ble_eq_true rfl⟩ (rc_X5 X hW) (fun v q9 q => ok0_X5_blocks hx10 (zw_of q)) hf rfl rfl (Nat.le_of_ble_eq_true rfl) dL_law_1122 ⟨hC0 0 (Nat.le_of_ble_eq_true rfl), hS0 0 (Nat.le_of_ble_eq_true rfl)⟩ (fun v16 σ15 H locs hv16 zv16 hW15 hS15 hf => ?_)
                          refine m_callSi1 (z := false) (As := [.int (i32 v14), .int (i32 v16)]) (rest := []) X hW15 hS15 hl.1 gc_L_69 hd_L_low ⟨rfl, rfl, Nat.le_of_ble_eq_true rfl, Nat.le_of_ble_eq_true rfl⟩ (fun v q => ok_L_low hv14 hv16 q) hf rfl rfl (Nat.le_of_ble_eq_true rfl) dL_law_1125 ⟨hC0 0 (Nat.le_of_ble_eq_true rfl), hS0 0 (Nat.le_of_ble_eq_true rfl)⟩ (fun v17 H locs hv17 zv17 hWv17 hSv17 hf => ?_)
                          refine lv_istore (lv' := [(15, .int (i32 v17)), (14, .int (i32 1)), (13, .int (i32 t0)), (0, .ref b), (1, .ref (ad 0)), (2, .ref (ad 290)), (3, .int (i32 x3)), (4, .int (i32 x4)), (5, .int (i32 x5)), (6, .int (i32 x6)), (8, .int (i32 x8)), (9, .int (i32 x9)), (10, .int (i32 x10)), (11, .int (i32 x11)), (12, .int (i32 x12))]) hx hb dL_law_1128 hl (by decide) rfl (fun ls hl => ?_)
                          refine lv_iload hx hb dL_law_1130 (lv_at hl 10 rfl) ?_
                          refine m_bipush (v := 7) hx hb dL_law_1132 (by decide) ?_
                          refine m_ishr hx hb hf dL_law_1134 (fun v18 hv18 hf => ?_)
                          refine lv_aload_n hx hb dL_law_1135 rfl (lv_at hl 4 rfl) ?_
                          refine lv_iload hx hb dL_law_1136 (lv_at hl 12 rfl) ?_
                          refine m_callVi (z := false) (As := [.int (i32 x10)]) (rest := [.int (i32 v18)]) X hWv17 hSv17 hl.1 gc_L_20 hd_X5_blocks ⟨rfl, rfl, Nat.le_of_ble_eq_true rfl, Nat.le_of_ble_eq_true rfl⟩ (rc_X5 X hWv17) (fun v q9 q => ok0_X5_blocks hx10 (zw_of q)) hf rfl rfl (Nat.le_of_ble_eq_true rfl) dL_law_1138 ⟨hC0 0 (Nat.le_of_ble_eq_true rfl), hS0 0 (Nat.le_of_ble_eq_true rfl)⟩ (fun v20 σ19 H locs hv20 zv20 hW19 hS19 hf => ?_)
                          refine m_const (v := 1) hx hb dL_law_1141 rfl ?_
                          refine m_iadd hx hb hf dL_law_1142 (fun v21 hv21 hf => ?_)
                          refine m_callSi1 (z := false) (As := [.int (i32 v18), .int (i32 v21)]) (rest := []) X hW19 hS19 hl.1 gc_L_69 hd_L_low ⟨rfl, rfl, Nat.le_of_ble_eq_true rfl, Nat.le_of_ble_eq_true rfl⟩ (fun v q => ok_L_low hv18 hv21 q) hf rfl rfl (Nat.le_of_ble_eq_true rfl) dL_law_1143 ⟨hC0 0 (Nat.le_of_ble_eq_true rfl), hS0 0 (Nat.le_of_ble_eq_true rfl)⟩ (fun v22 H locs hv22 zv22 hWv22 hSv22 hf => ?_)
                          refine m_const (v := 1) hx hb dL_law_1146 rfl ?_
                          refine m_isub hx hb hf dL_law_1147 (fun v23 hv23 hf => ?_)
                          refine lv_istore (lv' := [(16, .int (i32 v23)), (15, .int (i32 v17)), (14, .int (i32 1)), (13, .int (i32 t0)), (0, .ref b), (1, .ref (ad 0)), (2, .ref (ad 290)), (3, .int (i32 x3)), (4, .int (i32 x4)), (5, .int (i32 x5)), (6, .int (i32 x6)), (8, .int (i32 x8)), (9, .int (i32 x9)), (10, .int (i32 x10)), (11, .int (i32 x11)), (12, .int (i32 x12))]) hx hb dL_law_1148 hl (by decide) rfl (fun ls hl => ?_)
                          refine lv_aload_n hx hb dL_law_1150 rfl (lv_at hl 5 rfl) ?_
                          refine lv_iload hx hb dL_law_1151 (lv_at hl 13 rfl) ?_
                          refine lv_iload hx hb dL_law_1153 (lv_at hl 1 rfl) ?_
                          refine m_callVi (z := false) (As := [.int (i32 x10), .int (i32 v17)]) (rest := []) X hWv22 hSv22 hl.1 gc_L_56 hd_X5_level ⟨rfl, rfl, Nat.le_of_ble_eq_true rfl, Nat.le_of_ble_eq_true rfl⟩ (rc_X5 X hWv22) (fun v q9 q => ok0_X5_level hx10 hv17 (zw_of q)) hf rfl rfl (Nat.le_of_ble_eq_true rfl) dL_law_1155 ⟨hC0 0 (Nat.le_of_ble_eq_true rfl), hS0 0 (Nat.le_of_ble_eq_true rfl)⟩ (fun v25 σ24 H locs hv25 zv25 hW24 hS24 hf => ?_)
                          refine m_if_ne (tgt := 1233) hx hb hv25 hf dL_law_1158 (by decide) (fun hf => ?_) (fun hf => ?_)
                          · skip
                            refine W.widen (k := c0 + 8) (n := s0 + 338) (by omega) (by omega) ?_
                            exact hc1233 ad nm σ24 _ _ _ x3 x4 x5 1 hx3 hx4 hx5 (by decide) hf X hW24 hS24 (lv_sub hl [4, 5, 6, 7, 8, 9, 10, 11, 2] rfl)
                          · skip
                            refine lv_iload hx hb dL_law_1161 (lv_at hl 11 rfl) ?_
                            refine m_bipush (v := 10) hx hb dL_law_1163 (by decide) ?_
                            refine m_ishr hx hb hf dL_law_1165 (fun v26 hv26 hf => ?_)
                            refine m_const (v := 4) hx hb dL_law_1166 rfl ?_
                            refine m_callSi1 (z := false) (As := [.int (i32 v26), .int (i32 4)]) (rest := []) X hW24 hS24 hl.1 gc_L_69 hd_L_low ⟨rfl, rfl, Nat.le_of_ble_eq_true rfl, Nat.le_of_ble_eq_true rfl⟩ (fun v q => ok_L_low hv26 (by decide) q) hf rfl rfl (Nat.le_of_ble_eq_true rfl) dL_law_1167 ⟨hC0 0 (Nat.le_of_ble_eq_true rfl), hS0 0 (Nat.le_of_ble_eq_true rfl)⟩ (fun v27 H locs hv27 zv27 hWv27 hSv27 hf => ?_)
                            refine lv_istore (lv' := [(17, .int (i32 v27)), (16, .int (i32 v23)), (15, .int (i32 v17)), (14, .int (i32 1)), (13, .int (i32 t0)), (0, .ref b), (1, .ref (ad 0)), (2, .ref (ad 290)), (3, .int (i32 x3)), (4, .int (i32 x4)), (5, .int (i32 x5)), (6, .int (i32 x6)), (8, .int (i32 x8)), (9, .int (i32 x9)), (10, .int (i32 x10)), (11, .int (i32 x11)), (12, .int (i32 x12))]) hx hb dL_law_1170 hl (by decide) rfl (fun ls hl => ?_)
                            refine lv_aload_n hx hb dL_law_1172 rfl (lv_at hl 6 rfl) ?_
                            refine lv_iload hx hb dL_law_1173 (lv_at hl 14 rfl) ?_
                            refine lv_iload hx hb dL_law_1175 (lv_at hl 2 rfl) ?_
                            refine lv_iload hx hb dL_law_1177 (lv_at hl 0 rfl) ?_
                            refine m_callVi (z := false) (As := [.int (i32 x10), .int (i32 v17), .int (i32 v27)]) (rest := []) X hWv27 hSv27 hl.1 gc_L_136 hd_X5_setKind ⟨rfl, rfl, Nat.le_of_ble_eq_true rfl, Nat.le_of_ble_eq_true rfl⟩ (rc_X5 X hWv27) (fun v q9 q => ok0_X5_setKind hx10 hv17 hv27 (zw_of q)) hf rfl rfl (Nat.le_of_ble_eq_true rfl) dL_law_1179 ⟨hC0 0 (Nat.le_of_ble_eq_true rfl), hS0 0 (Nat.le_of_ble_eq_true rfl)⟩ (fun v29 σ28 H locs hv29 zv29 hW28 hS28 hf => ?_)
                            refine lv_iload_n hx hb dL_law_1182 rfl (lv_at hl 8 rfl) ?_
                            refine m_icmp_ne (tgt := 1219) hx hb hv29 hx3 hf dL_law_1183 (by decide) (fun hf => ?_) (fun hf => ?_)
                            · skip
                              exact hc1219 ad nm σ28 _ _ _ x3 x4 x5 x10 hx3 hx4 hx5 hx10 hf X hW28 hS28 (lv_sub hl [5, 6, 7, 8, 9, 10, 11, 12, 14] rfl)
                            · skip
                              refine lv_aload_n hx hb dL_law_1186 rfl (lv_at hl 6 rfl) ?_
                              refine lv_iload hx hb dL_law_1187 (lv_at hl 14 rfl) ?_
                              refine lv_iload hx hb dL_law_1189 (lv_at hl 2 rfl) ?_
                              refine m_callVi (z := false) (As := [.int (i32 x10), .int (i32 v17)]) (rest := []) X hW28 hS28 hl.1 gc_L_139 hd_X5_kind ⟨rfl, rfl, Nat.le_of_ble_eq_true rfl, Nat.le_of_ble_eq_true rfl⟩ (rc_X5 X hW28) (fun v q9 q => ok0_X5_kind hx10 hv17 (zw_of q)) hf rfl rfl (Nat.le_of_ble_eq_true rfl) dL_law_1191 ⟨hC0 0 (Nat.le_of_ble_eq_true rfl), hS0 0 (Nat.le_of_ble_eq_true rfl)⟩ (fun v31 σ30 H locs hv31 zv31 hW30 hS30 hf => ?_)
                              refine lv_iload hx hb dL_law_1194 (lv_at hl 0 rfl) ?_
                              refine m_icmp_ne (tgt := 1219) hx hb hv31 hv27 hf dL_law_1196 (by decide) (fun hf => ?_) (fun hf => ?_)
                              · skip
                                exact hc1219 ad nm σ30 _ _ _ x3 x4 x5 x10 hx3 hx4 hx5 hx10 hf X hW30 hS30 (lv_sub hl [5, 6, 7, 8, 9, 10, 11, 12, 14] rfl)
                              · skip
                                refine lv_aload_n hx hb dL_law_1199 rfl (lv_at hl 6 rfl) ?_
                                refine lv_iload hx hb dL_law_1200 (lv_at hl 14 rfl) ?_
                                refine lv_iload hx hb dL_law_1202 (lv_at hl 2 rfl) ?_
                                refine lv_iload hx hb dL_law_1204 (lv_at hl 1 rfl) ?_
                                refine m_callVi (z := false) (As := [.int (i32 x10), .int (i32 v17), .int (i32 v23)]) (rest := []) X hW30 hS30 hl.1 gc_L_142 hd_X5_nest ⟨rfl, rfl, Nat.le_of_ble_eq_true rfl, Nat.le_of_ble_eq_true rfl⟩ (rc_X5 X hW30) (fun v q9 q => ok0_X5_nest hx10 hv17 hv23 (zw_of q)) hf rfl rfl (Nat.le_of_ble_eq_true rfl) dL_law_1206 ⟨hC0 0 (Nat.le_of_ble_eq_true rfl), hS0 0 (Nat.le_of_ble_eq_true rfl)⟩ (fun v33 σ32 H locs hv33 zv33 hW32 hS32 hf => ?_)
                                refine lv_iload_n hx hb dL_law_1209 rfl (lv_at hl 8 rfl) ?_
                                refine m_const (v := 1) hx hb dL_law_1210 rfl ?_
                                refine m_iadd hx hb hf dL_law_1211 (fun v34 hv34 hf => ?_)
                                refine m_icmp_ne (tgt := 1219) hx hb hv33 hv34 hf dL_law_1212 (by decide) (fun hf => ?_) (fun hf => ?_)
                                · skip
                                  exact hc1219 ad nm σ32 _ _ _ x3 x4 x5 x10 hx3 hx4 hx5 hx10 hf X hW32 hS32 (lv_sub hl [5, 6, 7, 8, 9, 10, 11, 12, 14] rfl)
                                · skip
                                  refine m_const (v := 1) hx hb dL_law_1215 rfl ?_
                                  refine lv_goto (tgt := 1220) hx hb dL_law_1216 (by decide) ?_
                                  exact hc1220 ad nm σ32 _ _ _ x3 x4 x5 x10 1 hx3 hx4 hx5 hx10 (by decide) hf X hW32 hS32 (lv_sub hl [5, 6, 7, 8, 9, 10, 11, 12, 14] rfl)
                        · skip
                          refine lv_aload_n hx hb dL_law_1000 rfl (lv_at hl 3 rfl) ?_
                          refine m_const (v := 0) hx hb dL_law_1001 rfl ?_
                          refine m_callVi (z := false) (As := [.int (i32 0)]) (rest := []) X hW hS hl.1 gc_L_14 hd_X5_length ⟨rfl, rfl, Nat.le_of_ble_eq_true rfl, Nat.le_of_ble_eq_true rfl⟩ (rc_X5 X hW) (fun v q9 q => ok0_X5_length (by decide) (zw_of q)) hf rfl rfl (Nat.le_of_ble_eq_true rfl) dL_law_1002 ⟨hC0 0 (Nat.le_of_ble_eq_true rfl), hS0 0 (Nat.le_of_ble_eq_true rfl)⟩ (fun v36 σ35 H locs hv36 zv36 hW35 hS35 hf => ?_)
                          refine m_if_ne (tgt := 1012) hx hb hv36 hf dL_law_1005 (by decide) (fun hf => ?_) (fun hf => ?_)
                          · skip
                            refine lv_iload hx hb dL_law_1012 (lv_at hl 9 rfl) ?_
                            refine m_const (v := 4) hx hb dL_law_1014 rfl ?_
                            refine m_ishr hx hb hf dL_law_1015 (fun v37 hv37 hf => ?_)
                            refine lv_aload_n hx hb dL_law_1016 rfl (lv_at hl 3 rfl) ?_
                            refine m_const (v := 0) hx hb dL_law_1017 rfl ?_
                            refine m_callVi (z := false) (As := [.int (i32 0)]) (rest := [.int (i32 v37)]) X hW35 hS35 hl.1 gc_L_14 hd_X5_length ⟨rfl, rfl, Nat.le_of_ble_eq_true rfl, Nat.le_of_ble_eq_true rfl⟩ (rc_X5 X hW35) (fun v q9 q => ok0_X5_length (by decide) (zw_of q)) hf rfl rfl (Nat.le_of_ble_eq_true rfl) dL_law_1018 ⟨hC0 0 (Nat.le_of_ble_eq_true rfl), hS0 0 (Nat.le_of_ble_eq_true rfl)⟩ (fun v39 σ38 H locs hv39 zv39 hW38 hS38 hf => ?_)
                            refine m_callSi1 (z := false) (As := [.int (i32 v37), .int (i32 v39)]) (rest := []) X hW38 hS38 hl.1 gc_L_69 hd_L_low ⟨rfl, rfl, Nat.le_of_ble_eq_true rfl, Nat.le_of_ble_eq_true rfl⟩ (fun v q => ok_L_low hv37 hv39 q) hf rfl rfl (Nat.le_of_ble_eq_true rfl) dL_law_1021 ⟨hC0 0 (Nat.le_of_ble_eq_true rfl), hS0 0 (Nat.le_of_ble_eq_true rfl)⟩ (fun v40 H locs hv40 zv40 hWv40 hSv40 hf => ?_)
                            exact hc1024 ad nm σ38 _ _ _ x3 x4 x5 1 v40 hx3 hx4 hx5 (by decide) hv40 hf X hWv40 hSv40 (lv_sub hl [2, 3, 4, 5, 6, 7, 8, 9, 0] rfl)
                          · skip
                            refine m_const (v := (-1)) hx hb dL_law_1008 rfl ?_
                            refine lv_goto (tgt := 1024) hx hb dL_law_1009 (by decide) ?_
                            exact hc1024 ad nm σ35 _ _ _ x3 x4 x5 1 (-1) hx3 hx4 hx5 (by decide) (by decide) hf X hW35 hS35 (lv_sub hl [2, 3, 4, 5, 6, 7, 8, 9, 0] rfl)
                      · skip
                        refine lv_iload hx hb dL_law_876 (lv_at hl 9 rfl) ?_
                        refine m_const (v := 4) hx hb dL_law_878 rfl ?_
                        refine m_ishr hx hb hf dL_law_879 (fun v41 hv41 hf => ?_)
                        refine m_const (v := 2) hx hb dL_law_880 rfl ?_
                        refine m_callSi1 (z := false) (As := [.int (i32 v41), .int (i32 2)]) (rest := []) X hW hS hl.1 gc_L_69 hd_L_low ⟨rfl, rfl, Nat.le_of_ble_eq_true rfl, Nat.le_of_ble_eq_true rfl⟩ (fun v q => ok_L_low hv41 (by decide) q) hf rfl rfl (Nat.le_of_ble_eq_true rfl) dL_law_881 ⟨hC0 0 (Nat.le_of_ble_eq_true rfl), hS0 0 (Nat.le_of_ble_eq_true rfl)⟩ (fun v42 H locs hv42 zv42 hWv42 hSv42 hf => ?_)
                        refine m_if_ne (tgt := 891) hx hb hv42 hf dL_law_884 (by decide) (fun hf => ?_) (fun hf => ?_)
                        · skip
                          refine m_const (v := 0) hx hb dL_law_891 rfl ?_
                          exact hc892 ad nm σ _ _ _ x3 x4 x5 x10 0 hx3 hx4 hx5 hx10 (by decide) hf X hWv42 hSv42 (lv_sub hl [2, 3, 4, 5, 6, 7, 8, 9, 11] rfl)
                        · skip
                          refine m_const (v := 1) hx hb dL_law_887 rfl ?_
                          refine lv_goto (tgt := 892) hx hb dL_law_888 (by decide) ?_
                          exact hc892 ad nm σ _ _ _ x3 x4 x5 x10 1 hx3 hx4 hx5 hx10 (by decide) hf X hWv42 hSv42 (lv_sub hl [2, 3, 4, 5, 6, 7, 8, 9, 11] rfl)
                    · skip
                      refine lv_aload_n hx hb dL_law_749 rfl (lv_at hl 4 rfl) ?_
                      refine lv_iload hx hb dL_law_750 (lv_at hl 11 rfl) ?_
                      refine m_iald X hW a_out hx10 hf dL_law_752 (fun v43 hv43 hf => ?_)
                      refine m_if_le (tgt := 1233) hx hb hv43 hf dL_law_753 (by decide) (fun hf => ?_) (fun hf => ?_)
                      · skip
                        refine W.widen (k := c0 + 8) (n := s0 + 338) (by omega) (by omega) ?_
                        exact hc1233 ad nm σ _ _ _ x3 x4 x5 1 hx3 hx4 hx5 (by decide) hf X hW hS (lv_sub hl [2, 3, 4, 5, 6, 7, 8, 9, 0] rfl)
                      · skip
                        refine lv_aload_n hx hb dL_law_756 rfl (lv_at hl 3 rfl) ?_
                        refine lv_iload hx hb dL_law_757 (lv_at hl 11 rfl) ?_
                        refine m_callVi (z := false) (As := [.int (i32 x10)]) (rest := []) X hW hS hl.1 gc_L_112 hd_X5_undo ⟨rfl, rfl, Nat.le_of_ble_eq_true rfl, Nat.le_of_ble_eq_true rfl⟩ (rc_X5 X hW) (fun v q9 q => ok0_X5_undo hx10 (zw_of q)) hf rfl rfl (Nat.le_of_ble_eq_true rfl) dL_law_759 ⟨hC0 0 (Nat.le_of_ble_eq_true rfl), hS0 0 (Nat.le_of_ble_eq_true rfl)⟩ (fun v45 σ44 H locs hv45 zv45 hW44 hS44 hf => ?_)
                        refine lv_istore (lv' := [(15, .int (i32 v45)), (14, .int (i32 1)), (13, .int (i32 t0)), (0, .ref b), (1, .ref (ad 0)), (2, .ref (ad 290)), (3, .int (i32 x3)), (4, .int (i32 x4)), (5, .int (i32 x5)), (6, .int (i32 x6)), (8, .int (i32 x8)), (9, .int (i32 x9)), (10, .int (i32 x10)), (11, .int (i32 x11)), (12, .int (i32 x12))]) hx hb dL_law_762 hl (by decide) rfl (fun ls hl => ?_)
                        refine lv_aload_n hx hb dL_law_764 rfl (lv_at hl 4 rfl) ?_
                        refine lv_iload hx hb dL_law_765 (lv_at hl 12 rfl) ?_
                        refine lv_iload hx hb dL_law_767 (lv_at hl 0 rfl) ?_
                        refine m_callVi (z := true) (As := [.int (i32 x10), .int (i32 v45)]) (rest := []) X hW44 hS44 hl.1 gc_L_115 hd_X5_isUndone ⟨rfl, rfl, Nat.le_of_ble_eq_true rfl, Nat.le_of_ble_eq_true rfl⟩ (rc_X5 X hW44) (fun v q9 q => ok0_X5_isUndone hx10 hv45 (zw_of q)) hf rfl rfl (Nat.le_of_ble_eq_true rfl) dL_law_769 ⟨hC0 0 (Nat.le_of_ble_eq_true rfl), hS0 0 (Nat.le_of_ble_eq_true rfl)⟩ (fun v47 σ46 H locs hv47 zv47 hW46 hS46 hf => ?_)
                        refine m_if_eq (tgt := 796) hx hb hv47 hf dL_law_772 (by decide) (fun hf => ?_) (fun hf => ?_)
                        · skip
                          exact hc796 ad nm σ46 _ _ _ x3 x4 x5 x10 v45 hx3 hx4 hx5 hx10 hv45 hf X hW46 hS46 (lv_sub hl [3, 4, 5, 6, 7, 8, 9, 10, 12, 0] rfl)
                        · skip
                          refine lv_aload_n hx hb dL_law_775 rfl (lv_at hl 4 rfl) ?_
                          refine lv_iload hx hb dL_law_776 (lv_at hl 0 rfl) ?_
                          refine m_callVi (z := false) (As := [.int (i32 v45)]) (rest := []) X hW46 hS46 hl.1 gc_L_119 hd_X5_act ⟨rfl, rfl, Nat.le_of_ble_eq_true rfl, Nat.le_of_ble_eq_true rfl⟩ (rc_X5 X hW46) (fun v q9 q => ok0_X5_act hv45 (zw_of q)) hf rfl rfl (Nat.le_of_ble_eq_true rfl) dL_law_778 ⟨hC0 0 (Nat.le_of_ble_eq_true rfl), hS0 0 (Nat.le_of_ble_eq_true rfl)⟩ (fun v49 σ48 H locs hv49 zv49 hW48 hS48 hf => ?_)
                          refine m_bipush (v := 100) hx hb dL_law_781 (by decide) ?_
                          refine m_idiv hx hb hf dL_law_783 (fun v50 hv50 hf => ?_)
                          refine m_bipush (v := 10) hx hb dL_law_784 (by decide) ?_
                          refine m_irem hx hb hf dL_law_786 (fun v51 hv51 hf => ?_)
                          refine lv_iload hx hb dL_law_787 (lv_at hl 12 rfl) ?_
                          refine m_icmp_ne (tgt := 796) hx hb hv51 hx10 hf dL_law_789 (by decide) (fun hf => ?_) (fun hf => ?_)
                          · skip
                            exact hc796 ad nm σ48 _ _ _ x3 x4 x5 x10 v45 hx3 hx4 hx5 hx10 hv45 hf X hW48 hS48 (lv_sub hl [3, 4, 5, 6, 7, 8, 9, 10, 12, 0] rfl)
                          · skip
                            refine m_const (v := 1) hx hb dL_law_792 rfl ?_
                            refine lv_goto (tgt := 797) hx hb dL_law_793 (by decide) ?_
                            exact hc797 ad nm σ48 _ _ _ x3 x4 x5 x10 v45 1 hx3 hx4 hx5 hx10 hv45 (by decide) hf X hW48 hS48 (lv_sub hl [3, 4, 5, 6, 7, 8, 9, 10, 12, 0] rfl)
                  · skip
                    refine lv_iload hx hb dL_law_643 (lv_at hl 6 rfl) ?_
                    refine m_bipush (v := 78) hx hb dL_law_645 (by decide) ?_
                    refine m_icmp_ge (tgt := 1233) hx hb hx4 (by decide) hf dL_law_647 (by decide) (fun hf => ?_) (fun hf => ?_)
                    · skip
                      refine W.widen (k := c0 + 8) (n := s0 + 338) (by omega) (by omega) ?_
                      exact hc1233 ad nm σ _ _ _ x3 x4 x5 1 hx3 hx4 hx5 (by decide) hf X hW hS (lv_sub hl [2, 3, 4, 5, 6, 7, 8, 9, 0] rfl)
                    · skip
                      refine lv_aload_n hx hb dL_law_650 rfl (lv_at hl 3 rfl) ?_
                      refine lv_iload hx hb dL_law_651 (lv_at hl 12 rfl) ?_
                      refine m_callVi (z := false) (As := [.int (i32 x11)]) (rest := []) X hW hS hl.1 gc_L_8 hd_X5_has ⟨rfl, rfl, Nat.le_of_ble_eq_true rfl, Nat.le_of_ble_eq_true rfl⟩ (rc_X5 X hW) (fun v q9 q => ok0_X5_has hx11 (zw_of q)) hf rfl rfl (Nat.le_of_ble_eq_true rfl) dL_law_653 ⟨hC0 0 (Nat.le_of_ble_eq_true rfl), hS0 0 (Nat.le_of_ble_eq_true rfl)⟩ (fun v53 σ52 H locs hv53 zv53 hW52 hS52 hf => ?_)
                      refine lv_istore (lv' := [(15, .int (i32 v53)), (14, .int (i32 1)), (13, .int (i32 t0)), (0, .ref b), (1, .ref (ad 0)), (2, .ref (ad 290)), (3, .int (i32 x3)), (4, .int (i32 x4)), (5, .int (i32 x5)), (6, .int (i32 x6)), (8, .int (i32 x8)), (9, .int (i32 x9)), (10, .int (i32 x10)), (11, .int (i32 x11)), (12, .int (i32 x12))]) hx hb dL_law_656 hl (by decide) rfl (fun ls hl => ?_)
                      refine lv_aload_n hx hb dL_law_658 rfl (lv_at hl 4 rfl) ?_
                      refine lv_aload_n hx hb dL_law_659 rfl (lv_at hl 4 rfl) ?_
                      refine lv_iload hx hb dL_law_660 (lv_at hl 12 rfl) ?_
                      refine lv_iload hx hb dL_law_662 (lv_at hl 13 rfl) ?_
                      refine g_callVE (mc2 := 4) (ms2 := 169) (As := [.int (i32 x10), .int (i32 x11)]) (rest := [.ref (ad 0)]) (c0 + 4) (s0 + 169) X hW52 hS52 hl.1 gc_L_102 hd_X5_send ⟨rfl, rfl, (Nat.le_of_ble_eq_true rfl), (Nat.le_of_ble_eq_true rfl)⟩ (rc_X5 X hW52) (fun v q9 q => ok0_X5_send hx10 hx11 (zw_of q)) hf rfl rfl (Nat.le_of_ble_eq_true rfl) dL_law_664 ⟨(by have := hC0 4 (Nat.le_of_ble_eq_true rfl); omega), (by have := hS0 169 (Nat.le_of_ble_eq_true rfl); omega)⟩ (by omega) (by omega) (fun ad1 v55 σ54 H locs hfix hv55 X hW54 hS54 hf => ?_)
                      rw [← hfix 0 (by decide), ← hfix 290 (by decide)] at hl
                      rw [← hfix 0 (by decide)]
                      refine m_callVi (z := false) (As := [.int (i32 v55)]) (rest := []) X hW54 hS54 hl.1 gc_L_105 hd_X5_deliver ⟨rfl, rfl, Nat.le_of_ble_eq_true rfl, Nat.le_of_ble_eq_true rfl⟩ (rc_X5 X hW54) (fun v q9 q => ok0_X5_deliver hv55 (zw_of q)) hf rfl rfl (Nat.le_of_ble_eq_true rfl) dL_law_667 ⟨hC0 4 (Nat.le_of_ble_eq_true rfl), hS0 169 (Nat.le_of_ble_eq_true rfl)⟩ (fun v57 σ56 H locs hv57 zv57 hW56 hS56 hf => ?_)
                      refine lv_aload_n hx hb dL_law_670 rfl (lv_at hl 4 rfl) ?_
                      refine lv_iload hx hb dL_law_671 (lv_at hl 13 rfl) ?_
                      refine m_callVi (z := false) (As := [.int (i32 x11)]) (rest := [.int (i32 v57)]) X hW56 hS56 hl.1 gc_L_8 hd_X5_has ⟨rfl, rfl, Nat.le_of_ble_eq_true rfl, Nat.le_of_ble_eq_true rfl⟩ (rc_X5 X hW56) (fun v q9 q => ok0_X5_has hx11 (zw_of q)) hf rfl rfl (Nat.le_of_ble_eq_true rfl) dL_law_673 ⟨hC0 4 (Nat.le_of_ble_eq_true rfl), hS0 169 (Nat.le_of_ble_eq_true rfl)⟩ (fun v59 σ58 H locs hv59 zv59 hW58 hS58 hf => ?_)
                      refine lv_iload hx hb dL_law_676 (lv_at hl 0 rfl) ?_
                      refine m_isub hx hb hf dL_law_678 (fun v60 hv60 hf => ?_)
                      refine m_icmp_ne (tgt := 686) hx hb hv57 hv60 hf dL_law_679 (by decide) (fun hf => ?_) (fun hf => ?_)
                      · skip
                        refine m_const (v := 0) hx hb dL_law_686 rfl ?_
                        exact hc687 ad1 (nm + 1) σ58 _ _ _ x3 x4 x5 x10 x11 0 hx3 hx4 hx5 hx10 hx11 (by decide) hf X hW58 hS58 (lv_sub hl [3, 4, 5, 6, 7, 8, 9, 10, 12, 13] rfl)
                      · skip
                        refine m_const (v := 1) hx hb dL_law_682 rfl ?_
                        refine lv_goto (tgt := 687) hx hb dL_law_683 (by decide) ?_
                        exact hc687 ad1 (nm + 1) σ58 _ _ _ x3 x4 x5 x10 x11 1 hx3 hx4 hx5 hx10 hx11 (by decide) hf X hW58 hS58 (lv_sub hl [3, 4, 5, 6, 7, 8, 9, 10, 12, 13] rfl)
                · skip
                  refine lv_iload hx hb dL_law_547 (lv_at hl 1 rfl) ?_
                  refine m_if_eq (tgt := 1233) hx hb ht0 hf dL_law_549 (by decide) (fun hf => ?_) (fun hf => ?_)
                  · skip
                    refine W.widen (k := c0 + 8) (n := s0 + 338) (by omega) (by omega) ?_
                    exact hc1233 ad nm σ _ _ _ x3 x4 x5 1 hx3 hx4 hx5 (by decide) hf X hW hS (lv_sub hl [2, 3, 4, 5, 6, 7, 8, 9, 0] rfl)
                  · skip
                    refine lv_iload hx hb dL_law_552 (lv_at hl 7 rfl) ?_
                    refine m_bipush (v := 20) hx hb dL_law_554 (by decide) ?_
                    refine m_icmp_ge (tgt := 1233) hx hb hx5 (by decide) hf dL_law_556 (by decide) (fun hf => ?_) (fun hf => ?_)
                    · skip
                      refine W.widen (k := c0 + 8) (n := s0 + 338) (by omega) (by omega) ?_
                      exact hc1233 ad nm σ _ _ _ x3 x4 x5 1 hx3 hx4 hx5 (by decide) hf X hW hS (lv_sub hl [2, 3, 4, 5, 6, 7, 8, 9, 0] rfl)
                    · skip
                      refine lv_aload_n hx hb dL_law_559 rfl (lv_at hl 3 rfl) ?_
                      refine lv_iload hx hb dL_law_560 (lv_at hl 11 rfl) ?_
                      refine m_callVi (z := false) (As := [.int (i32 x10)]) (rest := []) X hW hS hl.1 gc_L_44 hd_X5_cursor ⟨rfl, rfl, Nat.le_of_ble_eq_true rfl, Nat.le_of_ble_eq_true rfl⟩ (rc_X5 X hW) (fun v q9 q => ok0_X5_cursor hx10 (zw_of q)) hf rfl rfl (Nat.le_of_ble_eq_true rfl) dL_law_562 ⟨hC0 0 (Nat.le_of_ble_eq_true rfl), hS0 0 (Nat.le_of_ble_eq_true rfl)⟩ (fun v62 σ61 H locs hv62 zv62 hW61 hS61 hf => ?_)
                      refine lv_aload_n hx hb dL_law_565 rfl (lv_at hl 3 rfl) ?_
                      refine lv_iload hx hb dL_law_566 (lv_at hl 11 rfl) ?_
                      refine m_callVi (z := false) (As := [.int (i32 x10)]) (rest := [.int (i32 v62)]) X hW61 hS61 hl.1 gc_L_47 hd_X5_tail ⟨rfl, rfl, Nat.le_of_ble_eq_true rfl, Nat.le_of_ble_eq_true rfl⟩ (rc_X5 X hW61) (fun v q9 q => ok0_X5_tail hx10 (zw_of q)) hf rfl rfl (Nat.le_of_ble_eq_true rfl) dL_law_568 ⟨hC0 0 (Nat.le_of_ble_eq_true rfl), hS0 0 (Nat.le_of_ble_eq_true rfl)⟩ (fun v64 σ63 H locs hv64 zv64 hW63 hS63 hf => ?_)
                      refine m_isub hx hb hf dL_law_571 (fun v65 hv65 hf => ?_)
                      refine lv_istore (lv' := [(15, .int (i32 v65)), (14, .int (i32 1)), (13, .int (i32 t0)), (0, .ref b), (1, .ref (ad 0)), (2, .ref (ad 290)), (3, .int (i32 x3)), (4, .int (i32 x4)), (5, .int (i32 x5)), (6, .int (i32 x6)), (8, .int (i32 x8)), (9, .int (i32 x9)), (10, .int (i32 x10)), (11, .int (i32 x11)), (12, .int (i32 x12))]) hx hb dL_law_572 hl (by decide) rfl (fun ls hl => ?_)
                      refine lv_aload_n hx hb dL_law_574 rfl (lv_at hl 4 rfl) ?_
                      refine lv_iload hx hb dL_law_575 (lv_at hl 12 rfl) ?_
                      refine m_callVi (z := false) (As := [.int (i32 x10)]) (rest := []) X hW63 hS63 hl.1 gc_L_96 hd_X5_comment ⟨rfl, rfl, Nat.le_of_ble_eq_true rfl, Nat.le_of_ble_eq_true rfl⟩ (rc_X5 X hW63) (fun v q9 q => ok0_X5_comment hx10 (zw_of q)) hf rfl rfl (Nat.le_of_ble_eq_true rfl) dL_law_577 ⟨hC0 0 (Nat.le_of_ble_eq_true rfl), hS0 0 (Nat.le_of_ble_eq_true rfl)⟩ (fun v67 σ66 H locs hv67 zv67 hW66 hS66 hf => ?_)
                      refine lv_istore (lv' := [(16, .int (i32 v67)), (15, .int (i32 v65)), (14, .int (i32 1)), (13, .int (i32 t0)), (0, .ref b), (1, .ref (ad 0)), (2, .ref (ad 290)), (3, .int (i32 x3)), (4, .int (i32 x4)), (5, .int (i32 x5)), (6, .int (i32 x6)), (8, .int (i32 x8)), (9, .int (i32 x9)), (10, .int (i32 x10)), (11, .int (i32 x11)), (12, .int (i32 x12))]) hx hb dL_law_580 hl (by decide) rfl (fun ls hl => ?_)
                      refine lv_iload hx hb dL_law_582 (lv_at hl 0 rfl) ?_
                      refine lv_iload_n hx hb dL_law_584 rfl (lv_at hl 7 rfl) ?_
                      refine m_icmp_ne (tgt := 616) hx hb hv67 hx3 hf dL_law_585 (by decide) (fun hf => ?_) (fun hf => ?_)
                      · skip
                        exact hc616 ad nm σ66 _ _ _ x3 x4 x5 x10 hx3 hx4 hx5 hx10 hf X hW66 hS66 (lv_sub hl [4, 5, 6, 7, 8, 9, 10, 11, 13] rfl)
                      · skip
                        refine lv_aload_n hx hb dL_law_588 rfl (lv_at hl 5 rfl) ?_
                        refine lv_iload hx hb dL_law_589 (lv_at hl 13 rfl) ?_
                        refine lv_iload hx hb dL_law_591 (lv_at hl 0 rfl) ?_
                        refine m_callVi (z := false) (As := [.int (i32 x10), .int (i32 v67)]) (rest := []) X hW66 hS66 hl.1 gc_L_99 hd_X5_covered ⟨rfl, rfl, Nat.le_of_ble_eq_true rfl, Nat.le_of_ble_eq_true rfl⟩ (rc_X5 X hW66) (fun v q9 q => ok0_X5_covered hx10 hv67 (zw_of q)) hf rfl rfl (Nat.le_of_ble_eq_true rfl) dL_law_593 ⟨hC0 0 (Nat.le_of_ble_eq_true rfl), hS0 0 (Nat.le_of_ble_eq_true rfl)⟩ (fun v69 σ68 H locs hv69 zv69 hW68 hS68 hf => ?_)
                        refine lv_iload hx hb dL_law_596 (lv_at hl 1 rfl) ?_
                        refine m_if_ge (tgt := 607) hx hb hv65 hf dL_law_598 (by decide) (fun hf => ?_) (fun hf => ?_)
                        · skip
                          refine lv_iload hx hb dL_law_607 (lv_at hl 1 rfl) ?_
                          exact hc609 ad nm σ68 _ _ _ x3 x4 x5 x10 v65 v69 hx3 hx4 hx5 hx10 hv65 hv69 hf X hW68 hS68 (lv_sub hl [4, 5, 6, 7, 8, 9, 10, 11, 13] rfl)
                        · skip
                          refine lv_iload hx hb dL_law_601 (lv_at hl 1 rfl) ?_
                          refine m_ineg hx hb hf dL_law_603 (fun v70 hv70 hf => ?_)
                          refine lv_goto (tgt := 609) hx hb dL_law_604 (by decide) ?_
                          exact hc609 ad nm σ68 _ _ _ x3 x4 x5 x10 v70 v69 hx3 hx4 hx5 hx10 hv70 hv69 hf X hW68 hS68 (lv_sub hl [4, 5, 6, 7, 8, 9, 10, 11, 13] rfl)
              · skip
                refine lv_iload hx hb dL_law_480 (lv_at hl 1 rfl) ?_
                refine m_if_eq (tgt := 1233) hx hb ht0 hf dL_law_482 (by decide) (fun hf => ?_) (fun hf => ?_)
                · skip
                  refine W.widen (k := c0 + 8) (n := s0 + 338) (by omega) (by omega) ?_
                  exact hc1233 ad nm σ _ _ _ x3 x4 x5 1 hx3 hx4 hx5 (by decide) hf X hW hS (lv_sub hl [2, 3, 4, 5, 6, 7, 8, 9, 0] rfl)
                · skip
                  refine lv_aload_n hx hb dL_law_485 rfl (lv_at hl 3 rfl) ?_
                  refine lv_iload hx hb dL_law_486 (lv_at hl 11 rfl) ?_
                  refine lv_iload hx hb dL_law_488 (lv_at hl 9 rfl) ?_
                  refine m_const (v := 4) hx hb dL_law_490 rfl ?_
                  refine m_ishr hx hb hf dL_law_491 (fun v71 hv71 hf => ?_)
                  refine m_const (v := 2) hx hb dL_law_492 rfl ?_
                  refine m_callSi1 (z := false) (As := [.int (i32 v71), .int (i32 2)]) (rest := [.int (i32 x10), .ref (ad 0)]) X hW hS hl.1 gc_L_69 hd_L_low ⟨rfl, rfl, Nat.le_of_ble_eq_true rfl, Nat.le_of_ble_eq_true rfl⟩ (fun v q => ok_L_low hv71 (by decide) q) hf rfl rfl (Nat.le_of_ble_eq_true rfl) dL_law_493 ⟨hC0 0 (Nat.le_of_ble_eq_true rfl), hS0 0 (Nat.le_of_ble_eq_true rfl)⟩ (fun v72 H locs hv72 zv72 hWv72 hSv72 hf => ?_)
                  refine lv_iload hx hb dL_law_496 (lv_at hl 9 rfl) ?_
                  refine m_const (v := 5) hx hb dL_law_498 rfl ?_
                  refine m_ishr hx hb hf dL_law_499 (fun v73 hv73 hf => ?_)
                  refine m_const (v := 3) hx hb dL_law_500 rfl ?_
                  refine m_callSi1 (z := false) (As := [.int (i32 v73), .int (i32 3)]) (rest := [.int (i32 v72), .int (i32 x10), .ref (ad 0)]) X hWv72 hSv72 hl.1 gc_L_69 hd_L_low ⟨rfl, rfl, Nat.le_of_ble_eq_true rfl, Nat.le_of_ble_eq_true rfl⟩ (fun v q => ok_L_low hv73 (by decide) q) hf rfl rfl (Nat.le_of_ble_eq_true rfl) dL_law_501 ⟨hC0 0 (Nat.le_of_ble_eq_true rfl), hS0 0 (Nat.le_of_ble_eq_true rfl)⟩ (fun v74 H locs hv74 zv74 hWv74 hSv74 hf => ?_)
                  refine m_if_le (tgt := 511) hx hb hv74 hf dL_law_504 (by decide) (fun hf => ?_) (fun hf => ?_)
                  · skip
                    refine m_const (v := 0) hx hb dL_law_511 rfl ?_
                    exact hc512 ad nm σ _ _ _ x3 x4 x5 x10 0 v72 x10 hx3 hx4 hx5 hx10 (by decide) hv72 hx10 hf X hWv74 hSv74 (lv_sub hl [2, 3, 4, 5, 6, 7, 8, 9, 11] rfl)
                  · skip
                    refine m_const (v := 1) hx hb dL_law_507 rfl ?_
                    refine lv_goto (tgt := 512) hx hb dL_law_508 (by decide) ?_
                    exact hc512 ad nm σ _ _ _ x3 x4 x5 x10 1 v72 x10 hx3 hx4 hx5 hx10 (by decide) hv72 hx10 hf X hWv74 hSv74 (lv_sub hl [2, 3, 4, 5, 6, 7, 8, 9, 11] rfl)
            · skip
              refine lv_iload hx hb dL_law_374 (lv_at hl 9 rfl) ?_
              refine m_const (v := 4) hx hb dL_law_376 rfl ?_
              refine m_ishr hx hb hf dL_law_377 (fun v75 hv75 hf => ?_)
              refine lv_iload hx hb dL_law_378 (lv_at hl 13 rfl) ?_
              refine m_const (v := 1) hx hb dL_law_380 rfl ?_
              refine m_iadd hx hb hf dL_law_381 (fun v76 hv76 hf => ?_)
              refine m_callSi1 (z := false) (As := [.int (i32 v75), .int (i32 v76)]) (rest := []) X hW hS hl.1 gc_L_69 hd_L_low ⟨rfl, rfl, Nat.le_of_ble_eq_true rfl, Nat.le_of_ble_eq_true rfl⟩ (fun v q => ok_L_low hv75 hv76 q) hf rfl rfl (Nat.le_of_ble_eq_true rfl) dL_law_382 ⟨hC0 0 (Nat.le_of_ble_eq_true rfl), hS0 0 (Nat.le_of_ble_eq_true rfl)⟩ (fun v77 H locs hv77 zv77 hWv77 hSv77 hf => ?_)
              refine lv_istore (lv' := [(15, .int (i32 v77)), (14, .int (i32 1)), (13, .int (i32 t0)), (0, .ref b), (1, .ref (ad 0)), (2, .ref (ad 290)), (3, .int (i32 x3)), (4, .int (i32 x4)), (5, .int (i32 x5)), (6, .int (i32 x6)), (8, .int (i32 x8)), (9, .int (i32 x9)), (10, .int (i32 x10)), (11, .int (i32 x11)), (12, .int (i32 x12))]) hx hb dL_law_385 hl (by decide) rfl (fun ls hl => ?_)
              refine lv_aload_n hx hb dL_law_387 rfl (lv_at hl 4 rfl) ?_
              refine lv_iload hx hb dL_law_388 (lv_at hl 12 rfl) ?_
              refine lv_iload hx hb dL_law_390 (lv_at hl 0 rfl) ?_
              refine m_callVi (z := false) (As := [.int (i32 x10), .int (i32 v77)]) (rest := []) X hWv77 hSv77 hl.1 gc_L_86 hd_X5_moveTo ⟨rfl, rfl, Nat.le_of_ble_eq_true rfl, Nat.le_of_ble_eq_true rfl⟩ (rc_X5 X hWv77) (fun v q9 q => ok0_X5_moveTo hx10 hv77 (zw_of q)) hf rfl rfl (Nat.le_of_ble_eq_true rfl) dL_law_392 ⟨hC0 0 (Nat.le_of_ble_eq_true rfl), hS0 0 (Nat.le_of_ble_eq_true rfl)⟩ (fun v79 σ78 H locs hv79 zv79 hW78 hS78 hf => ?_)
              refine lv_pop hx hb dL_law_395 rfl ?_
              refine lv_iload hx hb dL_law_396 (lv_at hl 10 rfl) ?_
              refine m_bipush (v := 9) hx hb dL_law_398 (by decide) ?_
              refine m_ishr hx hb hf dL_law_400 (fun v80 hv80 hf => ?_)
              refine lv_iload hx hb dL_law_401 (lv_at hl 14 rfl) ?_
              refine m_const (v := 1) hx hb dL_law_403 rfl ?_
              refine m_iadd hx hb hf dL_law_404 (fun v81 hv81 hf => ?_)
              refine m_callSi1 (z := false) (As := [.int (i32 v80), .int (i32 v81)]) (rest := []) X hW78 hS78 hl.1 gc_L_69 hd_L_low ⟨rfl, rfl, Nat.le_of_ble_eq_true rfl, Nat.le_of_ble_eq_true rfl⟩ (fun v q => ok_L_low hv80 hv81 q) hf rfl rfl (Nat.le_of_ble_eq_true rfl) dL_law_405 ⟨hC0 0 (Nat.le_of_ble_eq_true rfl), hS0 0 (Nat.le_of_ble_eq_true rfl)⟩ (fun v82 H locs hv82 zv82 hWv82 hSv82 hf => ?_)
              refine lv_istore (lv' := [(16, .int (i32 v82)), (15, .int (i32 v77)), (14, .int (i32 1)), (13, .int (i32 t0)), (0, .ref b), (1, .ref (ad 0)), (2, .ref (ad 290)), (3, .int (i32 x3)), (4, .int (i32 x4)), (5, .int (i32 x5)), (6, .int (i32 x6)), (8, .int (i32 x8)), (9, .int (i32 x9)), (10, .int (i32 x10)), (11, .int (i32 x11)), (12, .int (i32 x12))]) hx hb dL_law_408 hl (by decide) rfl (fun ls hl => ?_)
              refine lv_aload_n hx hb dL_law_410 rfl (lv_at hl 5 rfl) ?_
              refine lv_iload hx hb dL_law_411 (lv_at hl 13 rfl) ?_
              refine lv_iload hx hb dL_law_413 (lv_at hl 0 rfl) ?_
              refine m_callVi (z := false) (As := [.int (i32 x10), .int (i32 v82)]) (rest := []) X hWv82 hSv82 hl.1 gc_L_89 hd_X5_extend ⟨rfl, rfl, Nat.le_of_ble_eq_true rfl, Nat.le_of_ble_eq_true rfl⟩ (rc_X5 X hWv82) (fun v q9 q => ok0_X5_extend hx10 hv82 (zw_of q)) hf rfl rfl (Nat.le_of_ble_eq_true rfl) dL_law_415 ⟨hC0 0 (Nat.le_of_ble_eq_true rfl), hS0 0 (Nat.le_of_ble_eq_true rfl)⟩ (fun v84 σ83 H locs hv84 zv84 hW83 hS83 hf => ?_)
              refine lv_iload hx hb dL_law_418 (lv_at hl 0 rfl) ?_
              refine lv_iload hx hb dL_law_420 (lv_at hl 1 rfl) ?_
              refine m_icmp_ge (tgt := 433) hx hb hv82 hv77 hf dL_law_422 (by decide) (fun hf => ?_) (fun hf => ?_)
              · skip
                refine lv_iload hx hb dL_law_433 (lv_at hl 0 rfl) ?_
                refine lv_iload hx hb dL_law_435 (lv_at hl 1 rfl) ?_
                refine m_isub hx hb hf dL_law_437 (fun v85 hv85 hf => ?_)
                exact hc438 ad nm σ83 _ _ _ x3 x4 x5 x10 v77 v82 v85 v84 hx3 hx4 hx5 hx10 hv77 hv82 hv85 hv84 hf X hW83 hS83 (lv_sub hl [4, 5, 6, 7, 8, 9, 10, 11, 13, 1, 0] rfl)
              · skip
                refine lv_iload hx hb dL_law_425 (lv_at hl 1 rfl) ?_
                refine lv_iload hx hb dL_law_427 (lv_at hl 0 rfl) ?_
                refine m_isub hx hb hf dL_law_429 (fun v86 hv86 hf => ?_)
                refine lv_goto (tgt := 438) hx hb dL_law_430 (by decide) ?_
                exact hc438 ad nm σ83 _ _ _ x3 x4 x5 x10 v77 v82 v86 v84 hx3 hx4 hx5 hx10 hv77 hv82 hv86 hv84 hf X hW83 hS83 (lv_sub hl [4, 5, 6, 7, 8, 9, 10, 11, 13, 1, 0] rfl)
          · skip
            refine lv_aload_n hx hb dL_law_254 rfl (lv_at hl 3 rfl) ?_
            refine lv_iload hx hb dL_law_255 (lv_at hl 11 rfl) ?_
            refine m_callVi (z := false) (As := [.int (i32 x10)]) (rest := []) X hW hS hl.1 gc_L_44 hd_X5_cursor ⟨rfl, rfl, Nat.le_of_ble_eq_true rfl, Nat.le_of_ble_eq_true rfl⟩ (rc_X5 X hW) (fun v q9 q => ok0_X5_cursor hx10 (zw_of q)) hf rfl rfl (Nat.le_of_ble_eq_true rfl) dL_law_257 ⟨hC0 0 (Nat.le_of_ble_eq_true rfl), hS0 0 (Nat.le_of_ble_eq_true rfl)⟩ (fun v88 σ87 H locs hv88 zv88 hW87 hS87 hf => ?_)
            refine lv_aload_n hx hb dL_law_260 rfl (lv_at hl 3 rfl) ?_
            refine lv_iload hx hb dL_law_261 (lv_at hl 11 rfl) ?_
            refine m_callVi (z := false) (As := [.int (i32 x10)]) (rest := [.int (i32 v88)]) X hW87 hS87 hl.1 gc_L_47 hd_X5_tail ⟨rfl, rfl, Nat.le_of_ble_eq_true rfl, Nat.le_of_ble_eq_true rfl⟩ (rc_X5 X hW87) (fun v q9 q => ok0_X5_tail hx10 (zw_of q)) hf rfl rfl (Nat.le_of_ble_eq_true rfl) dL_law_263 ⟨hC0 0 (Nat.le_of_ble_eq_true rfl), hS0 0 (Nat.le_of_ble_eq_true rfl)⟩ (fun v90 σ89 H locs hv90 zv90 hW89 hS89 hf => ?_)
            refine m_isub hx hb hf dL_law_266 (fun v91 hv91 hf => ?_)
            refine lv_istore (lv' := [(15, .int (i32 v91)), (14, .int (i32 1)), (13, .int (i32 t0)), (0, .ref b), (1, .ref (ad 0)), (2, .ref (ad 290)), (3, .int (i32 x3)), (4, .int (i32 x4)), (5, .int (i32 x5)), (6, .int (i32 x6)), (8, .int (i32 x8)), (9, .int (i32 x9)), (10, .int (i32 x10)), (11, .int (i32 x11)), (12, .int (i32 x12))]) hx hb dL_law_267 hl (by decide) rfl (fun ls hl => ?_)
            refine lv_iload hx hb dL_law_269 (lv_at hl 0 rfl) ?_
            refine m_if_ne (tgt := 278) hx hb hv91 hf dL_law_271 (by decide) (fun hf => ?_) (fun hf => ?_)
            · skip
              refine lv_iload hx hb dL_law_278 (lv_at hl 0 rfl) ?_
              refine m_if_ge (tgt := 289) hx hb hv91 hf dL_law_280 (by decide) (fun hf => ?_) (fun hf => ?_)
              · skip
                refine lv_iload hx hb dL_law_289 (lv_at hl 0 rfl) ?_
                exact hc291 ad nm σ89 _ _ _ x3 x4 x5 x10 t0 1 v91 hx3 hx4 hx5 hx10 ht0 (by decide) hv91 hf X hW89 hS89 (lv_sub hl [3, 4, 5, 6, 7, 8, 9, 10, 12, 2, 1] rfl)
              · skip
                refine lv_iload hx hb dL_law_283 (lv_at hl 0 rfl) ?_
                refine m_ineg hx hb hf dL_law_285 (fun v92 hv92 hf => ?_)
                refine lv_goto (tgt := 291) hx hb dL_law_286 (by decide) ?_
                exact hc291 ad nm σ89 _ _ _ x3 x4 x5 x10 t0 1 v92 hx3 hx4 hx5 hx10 ht0 (by decide) hv92 hf X hW89 hS89 (lv_sub hl [3, 4, 5, 6, 7, 8, 9, 10, 12, 2, 1] rfl)
            · skip
              refine m_const (v := 1) hx hb dL_law_274 rfl ?_
              refine lv_goto (tgt := 291) hx hb dL_law_275 (by decide) ?_
              exact hc291 ad nm σ89 _ _ _ x3 x4 x5 x10 t0 1 1 hx3 hx4 hx5 hx10 ht0 (by decide) (by decide) hf X hW89 hS89 (lv_sub hl [3, 4, 5, 6, 7, 8, 9, 10, 12, 2, 1] rfl)
        · skip
          refine lv_aload_n hx hb dL_law_216 rfl (lv_at hl 3 rfl) ?_
          refine lv_iload hx hb dL_law_217 (lv_at hl 11 rfl) ?_
          refine m_callVi (z := false) (As := [.int (i32 x10)]) (rest := []) X hW hS hl.1 gc_L_76 hd_X5_split ⟨rfl, rfl, Nat.le_of_ble_eq_true rfl, Nat.le_of_ble_eq_true rfl⟩ (rc_X5 X hW) (fun v q9 q => ok0_X5_split hx10 (zw_of q)) hf rfl rfl (Nat.le_of_ble_eq_true rfl) dL_law_219 ⟨hC0 0 (Nat.le_of_ble_eq_true rfl), hS0 0 (Nat.le_of_ble_eq_true rfl)⟩ (fun v94 σ93 H locs hv94 zv94 hW93 hS93 hf => ?_)
          refine lv_iload_n hx hb dL_law_222 rfl (lv_at hl 5 rfl) ?_
          refine m_icmp_ne (tgt := 230) hx hb hv94 hx3 hf dL_law_223 (by decide) (fun hf => ?_) (fun hf => ?_)
          · skip
            refine m_const (v := 0) hx hb dL_law_230 rfl ?_
            exact hc231 ad nm σ93 _ _ _ x3 x4 x5 x10 0 hx3 hx4 hx5 hx10 (by decide) hf X hW93 hS93 (lv_sub hl [2, 3, 4, 5, 6, 7, 8, 9, 11] rfl)
          · skip
            refine m_const (v := 1) hx hb dL_law_226 rfl ?_
            refine lv_goto (tgt := 231) hx hb dL_law_227 (by decide) ?_
            exact hc231 ad nm σ93 _ _ _ x3 x4 x5 x10 1 hx3 hx4 hx5 hx10 (by decide) hf X hW93 hS93 (lv_sub hl [2, 3, 4, 5, 6, 7, 8, 9, 11] rfl)
      · skip
        exact hc131 ad nm σ _ _ _ x3 x4 x5 x10 x12 1 hx3 hx4 hx5 hx10 hx12 (by decide) hf X hW hS (lv_sub hl [2, 3, 4, 5, 6, 7, 8, 9, 11, 13, 0] rfl)
  intro ad nm σ H locs ls x3 x4 x5 hx3 hx4 hx5 hf X hW hS hl
  have hx := X.1
  have hb := X.2.1
  unfold fL_law at hf
  refine lv_iload hx hb dL_law_52 (lv_at hl 7 rfl) ?_
  refine m_bipush (v := 18) hx hb dL_law_54 (by decide) ?_
  refine m_callSi1 (z := false) (As := [.int (i32 x7), .int (i32 18)]) (rest := []) X hW hS hl.1 gc_L_69 hd_L_low ⟨rfl, rfl, Nat.le_of_ble_eq_true rfl, Nat.le_of_ble_eq_true rfl⟩ (fun v q => ok_L_low hx7 (by decide) q) hf rfl rfl (Nat.le_of_ble_eq_true rfl) dL_law_56 ⟨hC0 0 (Nat.le_of_ble_eq_true rfl), hS0 0 (Nat.le_of_ble_eq_true rfl)⟩ (fun v1 H locs hv1 zv1 hWv1 hSv1 hf => ?_)
  refine lv_istore (lv' := [(9, .int (i32 v1)), (0, .ref b), (1, .ref (ad 0)), (2, .ref (ad 290)), (3, .int (i32 x3)), (4, .int (i32 x4)), (5, .int (i32 x5)), (6, .int (i32 x6)), (7, .int (i32 x7)), (8, .int (i32 x8))]) hx hb dL_law_59 hl (by decide) rfl (fun ls hl => ?_)
  refine lv_iload hx hb dL_law_61 (lv_at hl 9 rfl) ?_
  refine m_const (v := 4) hx hb dL_law_63 rfl ?_
  refine m_callSi1 (z := false) (As := [.int (i32 x8), .int (i32 4)]) (rest := []) X hWv1 hSv1 hl.1 gc_L_69 hd_L_low ⟨rfl, rfl, Nat.le_of_ble_eq_true rfl, Nat.le_of_ble_eq_true rfl⟩ (fun v q => ok_L_low hx8 (by decide) q) hf rfl rfl (Nat.le_of_ble_eq_true rfl) dL_law_64 ⟨hC0 0 (Nat.le_of_ble_eq_true rfl), hS0 0 (Nat.le_of_ble_eq_true rfl)⟩ (fun v2 H locs hv2 zv2 hWv2 hSv2 hf => ?_)
  refine lv_istore (lv' := [(10, .int (i32 v2)), (9, .int (i32 v1)), (0, .ref b), (1, .ref (ad 0)), (2, .ref (ad 290)), (3, .int (i32 x3)), (4, .int (i32 x4)), (5, .int (i32 x5)), (6, .int (i32 x6)), (7, .int (i32 x7)), (8, .int (i32 x8))]) hx hb dL_law_67 hl (by decide) rfl (fun ls hl => ?_)
  refine lv_iload hx hb dL_law_69 (lv_at hl 0 rfl) ?_
  refine m_const (v := 1) hx hb dL_law_71 rfl ?_
  refine m_iadd hx hb hf dL_law_72 (fun v3 hv3 hf => ?_)
  refine lv_iload hx hb dL_law_73 (lv_at hl 10 rfl) ?_
  refine m_const (v := 2) hx hb dL_law_75 rfl ?_
  refine m_ishr hx hb hf dL_law_76 (fun v4 hv4 hf => ?_)
  refine m_const (v := 3) hx hb dL_law_77 rfl ?_
  refine m_callSi1 (z := false) (As := [.int (i32 v4), .int (i32 3)]) (rest := [.int (i32 v3)]) X hWv2 hSv2 hl.1 gc_L_69 hd_L_low ⟨rfl, rfl, Nat.le_of_ble_eq_true rfl, Nat.le_of_ble_eq_true rfl⟩ (fun v q => ok_L_low hv4 (by decide) q) hf rfl rfl (Nat.le_of_ble_eq_true rfl) dL_law_78 ⟨hC0 0 (Nat.le_of_ble_eq_true rfl), hS0 0 (Nat.le_of_ble_eq_true rfl)⟩ (fun v5 H locs hv5 zv5 hWv5 hSv5 hf => ?_)
  refine m_iadd hx hb hf dL_law_81 (fun v6 hv6 hf => ?_)
  refine m_const (v := 4) hx hb dL_law_82 rfl ?_
  refine m_irem hx hb hf dL_law_83 (fun v7 hv7 hf => ?_)
  refine lv_istore (lv' := [(11, .int (i32 v7)), (10, .int (i32 v2)), (9, .int (i32 v1)), (0, .ref b), (1, .ref (ad 0)), (2, .ref (ad 290)), (3, .int (i32 x3)), (4, .int (i32 x4)), (5, .int (i32 x5)), (6, .int (i32 x6)), (7, .int (i32 x7)), (8, .int (i32 x8))]) hx hb dL_law_84 hl (by decide) rfl (fun ls hl => ?_)
  refine lv_aload_n hx hb dL_law_86 rfl (lv_at hl 4 rfl) ?_
  refine lv_iload hx hb dL_law_87 (lv_at hl 1 rfl) ?_
  refine m_callVi (z := false) (As := [.int (i32 v2)]) (rest := []) X hWv5 hSv5 hl.1 gc_L_14 hd_X5_length ⟨rfl, rfl, Nat.le_of_ble_eq_true rfl, Nat.le_of_ble_eq_true rfl⟩ (rc_X5 X hWv5) (fun v q9 q => ok0_X5_length hv2 (zw_of q)) hf rfl rfl (Nat.le_of_ble_eq_true rfl) dL_law_89 ⟨hC0 0 (Nat.le_of_ble_eq_true rfl), hS0 0 (Nat.le_of_ble_eq_true rfl)⟩ (fun v9 σ8 H locs hv9 zv9 hW8 hS8 hf => ?_)
  refine lv_istore (lv' := [(12, .int (i32 v9)), (11, .int (i32 v7)), (10, .int (i32 v2)), (9, .int (i32 v1)), (0, .ref b), (1, .ref (ad 0)), (2, .ref (ad 290)), (3, .int (i32 x3)), (4, .int (i32 x4)), (5, .int (i32 x5)), (6, .int (i32 x6)), (7, .int (i32 x7)), (8, .int (i32 x8))]) hx hb dL_law_92 hl (by decide) rfl (fun ls hl => ?_)
  refine lv_aload_n hx hb dL_law_94 rfl (lv_at hl 5 rfl) ?_
  refine lv_iload hx hb dL_law_95 (lv_at hl 2 rfl) ?_
  refine m_callVi (z := false) (As := [.int (i32 v2)]) (rest := []) X hW8 hS8 hl.1 gc_L_44 hd_X5_cursor ⟨rfl, rfl, Nat.le_of_ble_eq_true rfl, Nat.le_of_ble_eq_true rfl⟩ (rc_X5 X hW8) (fun v q9 q => ok0_X5_cursor hv2 (zw_of q)) hf rfl rfl (Nat.le_of_ble_eq_true rfl) dL_law_97 ⟨hC0 0 (Nat.le_of_ble_eq_true rfl), hS0 0 (Nat.le_of_ble_eq_true rfl)⟩ (fun v11 σ10 H locs hv11 zv11 hW10 hS10 hf => ?_)
  refine lv_aload_n hx hb dL_law_100 rfl (lv_at hl 5 rfl) ?_
  refine lv_iload hx hb dL_law_101 (lv_at hl 2 rfl) ?_
  refine m_callVi (z := false) (As := [.int (i32 v2)]) (rest := [.int (i32 v11)]) X hW10 hS10 hl.1 gc_L_47 hd_X5_tail ⟨rfl, rfl, Nat.le_of_ble_eq_true rfl, Nat.le_of_ble_eq_true rfl⟩ (rc_X5 X hW10) (fun v q9 q => ok0_X5_tail hv2 (zw_of q)) hf rfl rfl (Nat.le_of_ble_eq_true rfl) dL_law_103 ⟨hC0 0 (Nat.le_of_ble_eq_true rfl), hS0 0 (Nat.le_of_ble_eq_true rfl)⟩ (fun v13 σ12 H locs hv13 zv13 hW12 hS12 hf => ?_)
  refine m_icmp_eq (tgt := 113) hx hb hv11 hv13 hf dL_law_106 (by decide) (fun hf => ?_) (fun hf => ?_)
  · skip
    refine m_const (v := 0) hx hb dL_law_113 rfl ?_
    exact hc114 ad nm σ12 _ _ _ x3 x4 x5 v1 v2 v7 v9 0 hx3 hx4 hx5 hv1 hv2 hv7 hv9 (by decide) hf X hW12 hS12 (lv_sub hl [4, 5, 6, 7, 8, 9, 10, 12, 3, 2, 1, 0] rfl)
  · skip
    refine m_const (v := 1) hx hb dL_law_109 rfl ?_
    refine lv_goto (tgt := 114) hx hb dL_law_110 (by decide) ?_
    exact hc114 ad nm σ12 _ _ _ x3 x4 x5 v1 v2 v7 v9 1 hx3 hx4 hx5 hv1 hv2 hv7 hv9 (by decide) hf X hW12 hS12 (lv_sub hl [4, 5, 6, 7, 8, 9, 10, 12, 3, 2, 1, 0] rfl)
