theorem gc_L_7 : GoodIn GW (wsV RL 7 RX5 yX5_type (wsG yX5_type cX5_type 4 (some .int))) := cg_V mw224 mw225 mw226 mw1 mw227
theorem gc_L_19 : GoodIn GW (wsV RL 19 RX5 yX5_split (wsG yX5_split cX5_split 3 (some .int))) := cg_V mw523 mw524 mw525 mw1 mw526
theorem gc_L_23 : GoodIn GW (wsV RL 23 RX5 yX5_erase (wsG yX5_erase cX5_erase 10 (some .int))) := cg_V mw530 mw531 mw532 mw1 mw533
theorem gc_L_26 : GoodIn GW (wsV RL 26 RX5 yX5_moveTo (wsG yX5_moveTo cX5_moveTo 7 (some .int))) := cg_V mw550 mw551 mw552 mw1 mw553
theorem gc_L_30 : GoodIn GW (wsV RL 30 RX5 yX5_extend (wsG yX5_extend cX5_extend 6 (some .int))) := cg_V mw568 mw569 mw570 mw1 mw571
theorem gc_L_33 : GoodIn GW (wsV RL 33 RX5 yX5_mark (wsG yX5_mark cX5_mark 5 (some .int))) := cg_V mw575 mw576 mw577 mw1 mw578
theorem gc_L_37 : GoodIn GW (wsV RL 37 RX5 yX5_comment (wsG yX5_comment cX5_comment 3 (some .int))) := cg_V mw591 mw592 mw593 mw1 mw594
theorem gc_L_40 : GoodIn GW (wsV RL 40 RX5 yX5_setKind (wsG yX5_setKind cX5_setKind 7 (some .int))) := cg_V mw599 mw600 mw601 mw1 mw602
theorem gc_L_44 : GoodIn GW (wsV RL 44 RX5 yX5_nest (wsG yX5_nest cX5_nest 8 (some .int))) := cg_V mw620 mw621 mw622 mw1 mw623
theorem gc_L_47 : GoodIn GW (wsV RL 47 RX5 yX5_propose (wsG yX5_propose cX5_propose 5 (some .boolean))) := cg_V mw627 mw628 mw629 mw1 mw630
theorem gc_L_51 : GoodIn GW (wsV RL 51 RX5 yX5_decide (wsG yX5_decide cX5_decide 5 (some .int))) := cg_V mw634 mw635 mw636 mw1 mw637
theorem gc_L_54 : GoodIn GW (wsV RL 54 RX5 yX5_allow (wsG yX5_allow cX5_allow 6 (some .int))) := cg_V mw651 mw652 mw653 mw1 mw654
theorem gc_L_57 : GoodIn GW (wsV RL 57 RX5 yX5_undo (wsG yX5_undo cX5_undo 4 (some .int))) := cg_V mw659 mw660 mw661 mw1 mw662
theorem gc_L_60 : GoodIn GW (wsV RL 60 RX5 yX5_redo (wsG yX5_redo cX5_redo 4 (some .int))) := cg_V mw682 mw683 mw684 mw1 mw685
theorem gc_L_66 : GoodIn GW (wsV RL 66 RX5 yX5_deliver (wsG yX5_deliver cX5_deliver 7 (some .int))) := cg_V mw737 mw738 mw739 mw1 mw740
theorem gc_L_69 : GoodIn GW (wsV RL 69 RX5 yX5_save (wsG yX5_save cX5_save 4 (some .int))) := cg_V mw754 mw755 mw756 mw1 mw757
theorem gc_L_72 : GoodIn GW (wsV RL 72 RX5 yX5_crash (wsG yX5_crash cX5_crash 5 (some .int))) := cg_V mw773 mw774 mw775 mw1 mw776
theorem gc_L_78 : GoodIn GW (wsV RL 78 RX5 yX5_bringBack (wsG yX5_bringBack cX5_bringBack 9 (some .int))) := cg_V mw798 mw799 mw800 mw1 mw801
theorem gc_L_81 : GoodIn GW (wsV RL 81 RX5 yX5_differ (wsG yX5_differ cX5_differ 7 (some .int))) := cg_V mw824 mw825 mw826 mw1 mw827
theorem gc_L_84 : GoodIn GW (wsV RL 84 RX5 yX5_length (wsG yX5_length cX5_length 2 (some .int))) := cg_V mw831 mw832 mw833 mw1 mw834
theorem gc_L_87 : GoodIn GW (wsV RL 87 RX5 yX5_shown (wsG yX5_shown cX5_shown 2 (some .int))) := cg_V mw842 mw843 mw844 mw1 mw845
theorem gc_L_90 : GoodIn GW (wsV RL 90 RX5 yX5_element (wsG yX5_element cX5_element 3 (some .int))) := cg_V mw853 mw854 mw855 mw1 mw856
theorem gc_L_93 : GoodIn GW (wsV RL 93 RX5 yX5_elementAnew (wsG yX5_elementAnew cX5_elementAnew 3 (some .int))) := cg_V mw860 mw861 mw862 mw1 mw863
theorem gc_L_96 : GoodIn GW (wsV RL 96 RX5 yX5_letter (wsG yX5_letter cX5_letter 3 (some .char))) := cg_V mw867 mw868 mw869 mw1 mw870
theorem gc_L_100 : GoodIn GW (wsV RL 100 RX5 yX5_proposed (wsG yX5_proposed cX5_proposed 4 (some .int))) := cg_V mw875 mw876 mw877 mw1 mw878
theorem gc_L_103 : GoodIn GW (wsV RL 103 RX5 yX5_open (wsG yX5_open cX5_open 2 (some .int))) := cg_V mw886 mw887 mw888 mw1 mw889
theorem gc_L_106 : GoodIn GW (wsV RL 106 RX5 yX5_isMarked (wsG yX5_isMarked cX5_isMarked 6 (some .boolean))) := cg_V mw897 mw898 mw899 mw1 mw900
theorem gc_L_110 : GoodIn GW (wsV RL 110 RX5 yX5_covered (wsG yX5_covered cX5_covered 4 (some .int))) := cg_V mw908 mw909 mw910 mw1 mw911
theorem gc_L_113 : GoodIn GW (wsV RL 113 RX5 yX5_blocks (wsG yX5_blocks cX5_blocks 2 (some .int))) := cg_V mw921 mw922 mw923 mw1 mw924
theorem gc_L_116 : GoodIn GW (wsV RL 116 RX5 yX5_kind (wsG yX5_kind cX5_kind 4 (some .int))) := cg_V mw932 mw933 mw934 mw1 mw935
theorem gc_L_119 : GoodIn GW (wsV RL 119 RX5 yX5_depth (wsG yX5_depth cX5_depth 4 (some .int))) := cg_V mw943 mw944 mw945 mw1 mw946
theorem gc_L_122 : GoodIn GW (wsV RL 122 RX5 yX5_level (wsG yX5_level cX5_level 4 (some .int))) := cg_V mw954 mw955 mw956 mw1 mw957
theorem gc_L_125 : GoodIn GW (wsV RL 125 RX5 yX5_cursor (wsG yX5_cursor cX5_cursor 3 (some .int))) := cg_V mw961 mw962 mw963 mw1 mw964
theorem gc_L_128 : GoodIn GW (wsV RL 128 RX5 yX5_tail (wsG yX5_tail cX5_tail 3 (some .int))) := cg_V mw968 mw969 mw970 mw1 mw971
theorem gc_L_131 : GoodIn GW (wsV RL 131 RX5 yX5_graves (wsG yX5_graves cX5_graves 2 (some .int))) := cg_V mw975 mw976 mw977 mw1 mw978
theorem gc_L_134 : GoodIn GW (wsV RL 134 RX5 yX5_buried (wsG yX5_buried cX5_buried 6 (some .int))) := cg_V mw987 mw988 mw989 mw1 mw990
theorem gc_L_137 : GoodIn GW (wsV RL 137 RX5 yX5_has (wsG yX5_has cX5_has 2 (some .int))) := cg_V mw1012 mw1013 mw1014 mw1 mw1015
theorem gc_L_140 : GoodIn GW (wsV RL 140 RX5 yX5_actAt (wsG yX5_actAt cX5_actAt 7 (some .int))) := cg_V mw1019 mw1020 mw1021 mw1 mw1022
theorem gc_L_143 : GoodIn GW (wsV RL 143 RX5 yX5_act (wsG yX5_act cX5_act 2 (some .int))) := cg_V mw1027 mw1028 mw1029 mw1 mw1030
theorem gc_L_146 : GoodIn GW (wsV RL 146 RX5 yX5_isUndone (wsG yX5_isUndone cX5_isUndone 4 (some .boolean))) := cg_V mw1035 mw1036 mw1037 mw1 mw1038
theorem hd_X5_type : yX5_type.cls = RX5 ∧ yX5_type.cls ≠ "java/lang/invoke/MethodHandle" ∧ yX5_type.cls ≠ "java/lang/invoke/VarHandle" ∧ (parseMethodDescriptor yX5_type.desc).map (fun d => d.parameters.length) = some 2 := by decide +kernel
theorem hd_X5_split : yX5_split.cls = RX5 ∧ yX5_split.cls ≠ "java/lang/invoke/MethodHandle" ∧ yX5_split.cls ≠ "java/lang/invoke/VarHandle" ∧ (parseMethodDescriptor yX5_split.desc).map (fun d => d.parameters.length) = some 1 := by decide +kernel
theorem hd_X5_erase : yX5_erase.cls = RX5 ∧ yX5_erase.cls ≠ "java/lang/invoke/MethodHandle" ∧ yX5_erase.cls ≠ "java/lang/invoke/VarHandle" ∧ (parseMethodDescriptor yX5_erase.desc).map (fun d => d.parameters.length) = some 1 := by decide +kernel
theorem hd_X5_moveTo : yX5_moveTo.cls = RX5 ∧ yX5_moveTo.cls ≠ "java/lang/invoke/MethodHandle" ∧ yX5_moveTo.cls ≠ "java/lang/invoke/VarHandle" ∧ (parseMethodDescriptor yX5_moveTo.desc).map (fun d => d.parameters.length) = some 2 := by decide +kernel
theorem hd_X5_extend : yX5_extend.cls = RX5 ∧ yX5_extend.cls ≠ "java/lang/invoke/MethodHandle" ∧ yX5_extend.cls ≠ "java/lang/invoke/VarHandle" ∧ (parseMethodDescriptor yX5_extend.desc).map (fun d => d.parameters.length) = some 2 := by decide +kernel
theorem hd_X5_mark : yX5_mark.cls = RX5 ∧ yX5_mark.cls ≠ "java/lang/invoke/MethodHandle" ∧ yX5_mark.cls ≠ "java/lang/invoke/VarHandle" ∧ (parseMethodDescriptor yX5_mark.desc).map (fun d => d.parameters.length) = some 3 := by decide +kernel
theorem hd_X5_comment : yX5_comment.cls = RX5 ∧ yX5_comment.cls ≠ "java/lang/invoke/MethodHandle" ∧ yX5_comment.cls ≠ "java/lang/invoke/VarHandle" ∧ (parseMethodDescriptor yX5_comment.desc).map (fun d => d.parameters.length) = some 1 := by decide +kernel
theorem hd_X5_setKind : yX5_setKind.cls = RX5 ∧ yX5_setKind.cls ≠ "java/lang/invoke/MethodHandle" ∧ yX5_setKind.cls ≠ "java/lang/invoke/VarHandle" ∧ (parseMethodDescriptor yX5_setKind.desc).map (fun d => d.parameters.length) = some 3 := by decide +kernel
theorem hd_X5_nest : yX5_nest.cls = RX5 ∧ yX5_nest.cls ≠ "java/lang/invoke/MethodHandle" ∧ yX5_nest.cls ≠ "java/lang/invoke/VarHandle" ∧ (parseMethodDescriptor yX5_nest.desc).map (fun d => d.parameters.length) = some 3 := by decide +kernel
theorem hd_X5_propose : yX5_propose.cls = RX5 ∧ yX5_propose.cls ≠ "java/lang/invoke/MethodHandle" ∧ yX5_propose.cls ≠ "java/lang/invoke/VarHandle" ∧ (parseMethodDescriptor yX5_propose.desc).map (fun d => d.parameters.length) = some 2 := by decide +kernel
theorem hd_X5_decide : yX5_decide.cls = RX5 ∧ yX5_decide.cls ≠ "java/lang/invoke/MethodHandle" ∧ yX5_decide.cls ≠ "java/lang/invoke/VarHandle" ∧ (parseMethodDescriptor yX5_decide.desc).map (fun d => d.parameters.length) = some 3 := by decide +kernel
theorem hd_X5_allow : yX5_allow.cls = RX5 ∧ yX5_allow.cls ≠ "java/lang/invoke/MethodHandle" ∧ yX5_allow.cls ≠ "java/lang/invoke/VarHandle" ∧ (parseMethodDescriptor yX5_allow.desc).map (fun d => d.parameters.length) = some 3 := by decide +kernel
theorem hd_X5_undo : yX5_undo.cls = RX5 ∧ yX5_undo.cls ≠ "java/lang/invoke/MethodHandle" ∧ yX5_undo.cls ≠ "java/lang/invoke/VarHandle" ∧ (parseMethodDescriptor yX5_undo.desc).map (fun d => d.parameters.length) = some 1 := by decide +kernel
theorem hd_X5_redo : yX5_redo.cls = RX5 ∧ yX5_redo.cls ≠ "java/lang/invoke/MethodHandle" ∧ yX5_redo.cls ≠ "java/lang/invoke/VarHandle" ∧ (parseMethodDescriptor yX5_redo.desc).map (fun d => d.parameters.length) = some 1 := by decide +kernel
theorem hd_X5_deliver : yX5_deliver.cls = RX5 ∧ yX5_deliver.cls ≠ "java/lang/invoke/MethodHandle" ∧ yX5_deliver.cls ≠ "java/lang/invoke/VarHandle" ∧ (parseMethodDescriptor yX5_deliver.desc).map (fun d => d.parameters.length) = some 1 := by decide +kernel
theorem hd_X5_save : yX5_save.cls = RX5 ∧ yX5_save.cls ≠ "java/lang/invoke/MethodHandle" ∧ yX5_save.cls ≠ "java/lang/invoke/VarHandle" ∧ (parseMethodDescriptor yX5_save.desc).map (fun d => d.parameters.length) = some 1 := by decide +kernel
theorem hd_X5_crash : yX5_crash.cls = RX5 ∧ yX5_crash.cls ≠ "java/lang/invoke/MethodHandle" ∧ yX5_crash.cls ≠ "java/lang/invoke/VarHandle" ∧ (parseMethodDescriptor yX5_crash.desc).map (fun d => d.parameters.length) = some 2 := by decide +kernel
theorem hd_X5_bringBack : yX5_bringBack.cls = RX5 ∧ yX5_bringBack.cls ≠ "java/lang/invoke/MethodHandle" ∧ yX5_bringBack.cls ≠ "java/lang/invoke/VarHandle" ∧ (parseMethodDescriptor yX5_bringBack.desc).map (fun d => d.parameters.length) = some 2 := by decide +kernel
theorem hd_X5_differ : yX5_differ.cls = RX5 ∧ yX5_differ.cls ≠ "java/lang/invoke/MethodHandle" ∧ yX5_differ.cls ≠ "java/lang/invoke/VarHandle" ∧ (parseMethodDescriptor yX5_differ.desc).map (fun d => d.parameters.length) = some 2 := by decide +kernel
theorem hd_X5_length : yX5_length.cls = RX5 ∧ yX5_length.cls ≠ "java/lang/invoke/MethodHandle" ∧ yX5_length.cls ≠ "java/lang/invoke/VarHandle" ∧ (parseMethodDescriptor yX5_length.desc).map (fun d => d.parameters.length) = some 1 := by decide +kernel
theorem hd_X5_shown : yX5_shown.cls = RX5 ∧ yX5_shown.cls ≠ "java/lang/invoke/MethodHandle" ∧ yX5_shown.cls ≠ "java/lang/invoke/VarHandle" ∧ (parseMethodDescriptor yX5_shown.desc).map (fun d => d.parameters.length) = some 1 := by decide +kernel
theorem hd_X5_element : yX5_element.cls = RX5 ∧ yX5_element.cls ≠ "java/lang/invoke/MethodHandle" ∧ yX5_element.cls ≠ "java/lang/invoke/VarHandle" ∧ (parseMethodDescriptor yX5_element.desc).map (fun d => d.parameters.length) = some 2 := by decide +kernel
theorem hd_X5_elementAnew : yX5_elementAnew.cls = RX5 ∧ yX5_elementAnew.cls ≠ "java/lang/invoke/MethodHandle" ∧ yX5_elementAnew.cls ≠ "java/lang/invoke/VarHandle" ∧ (parseMethodDescriptor yX5_elementAnew.desc).map (fun d => d.parameters.length) = some 2 := by decide +kernel
theorem hd_X5_letter : yX5_letter.cls = RX5 ∧ yX5_letter.cls ≠ "java/lang/invoke/MethodHandle" ∧ yX5_letter.cls ≠ "java/lang/invoke/VarHandle" ∧ (parseMethodDescriptor yX5_letter.desc).map (fun d => d.parameters.length) = some 2 := by decide +kernel
theorem hd_X5_proposed : yX5_proposed.cls = RX5 ∧ yX5_proposed.cls ≠ "java/lang/invoke/MethodHandle" ∧ yX5_proposed.cls ≠ "java/lang/invoke/VarHandle" ∧ (parseMethodDescriptor yX5_proposed.desc).map (fun d => d.parameters.length) = some 2 := by decide +kernel
theorem hd_X5_open : yX5_open.cls = RX5 ∧ yX5_open.cls ≠ "java/lang/invoke/MethodHandle" ∧ yX5_open.cls ≠ "java/lang/invoke/VarHandle" ∧ (parseMethodDescriptor yX5_open.desc).map (fun d => d.parameters.length) = some 1 := by decide +kernel
theorem hd_X5_isMarked : yX5_isMarked.cls = RX5 ∧ yX5_isMarked.cls ≠ "java/lang/invoke/MethodHandle" ∧ yX5_isMarked.cls ≠ "java/lang/invoke/VarHandle" ∧ (parseMethodDescriptor yX5_isMarked.desc).map (fun d => d.parameters.length) = some 3 := by decide +kernel
theorem hd_X5_covered : yX5_covered.cls = RX5 ∧ yX5_covered.cls ≠ "java/lang/invoke/MethodHandle" ∧ yX5_covered.cls ≠ "java/lang/invoke/VarHandle" ∧ (parseMethodDescriptor yX5_covered.desc).map (fun d => d.parameters.length) = some 2 := by decide +kernel
theorem hd_X5_blocks : yX5_blocks.cls = RX5 ∧ yX5_blocks.cls ≠ "java/lang/invoke/MethodHandle" ∧ yX5_blocks.cls ≠ "java/lang/invoke/VarHandle" ∧ (parseMethodDescriptor yX5_blocks.desc).map (fun d => d.parameters.length) = some 1 := by decide +kernel
theorem hd_X5_kind : yX5_kind.cls = RX5 ∧ yX5_kind.cls ≠ "java/lang/invoke/MethodHandle" ∧ yX5_kind.cls ≠ "java/lang/invoke/VarHandle" ∧ (parseMethodDescriptor yX5_kind.desc).map (fun d => d.parameters.length) = some 2 := by decide +kernel
theorem hd_X5_depth : yX5_depth.cls = RX5 ∧ yX5_depth.cls ≠ "java/lang/invoke/MethodHandle" ∧ yX5_depth.cls ≠ "java/lang/invoke/VarHandle" ∧ (parseMethodDescriptor yX5_depth.desc).map (fun d => d.parameters.length) = some 2 := by decide +kernel
theorem hd_X5_level : yX5_level.cls = RX5 ∧ yX5_level.cls ≠ "java/lang/invoke/MethodHandle" ∧ yX5_level.cls ≠ "java/lang/invoke/VarHandle" ∧ (parseMethodDescriptor yX5_level.desc).map (fun d => d.parameters.length) = some 2 := by decide +kernel
theorem hd_X5_cursor : yX5_cursor.cls = RX5 ∧ yX5_cursor.cls ≠ "java/lang/invoke/MethodHandle" ∧ yX5_cursor.cls ≠ "java/lang/invoke/VarHandle" ∧ (parseMethodDescriptor yX5_cursor.desc).map (fun d => d.parameters.length) = some 1 := by decide +kernel
theorem hd_X5_tail : yX5_tail.cls = RX5 ∧ yX5_tail.cls ≠ "java/lang/invoke/MethodHandle" ∧ yX5_tail.cls ≠ "java/lang/invoke/VarHandle" ∧ (parseMethodDescriptor yX5_tail.desc).map (fun d => d.parameters.length) = some 1 := by decide +kernel
theorem hd_X5_graves : yX5_graves.cls = RX5 ∧ yX5_graves.cls ≠ "java/lang/invoke/MethodHandle" ∧ yX5_graves.cls ≠ "java/lang/invoke/VarHandle" ∧ (parseMethodDescriptor yX5_graves.desc).map (fun d => d.parameters.length) = some 1 := by decide +kernel
theorem hd_X5_buried : yX5_buried.cls = RX5 ∧ yX5_buried.cls ≠ "java/lang/invoke/MethodHandle" ∧ yX5_buried.cls ≠ "java/lang/invoke/VarHandle" ∧ (parseMethodDescriptor yX5_buried.desc).map (fun d => d.parameters.length) = some 1 := by decide +kernel
theorem hd_X5_has : yX5_has.cls = RX5 ∧ yX5_has.cls ≠ "java/lang/invoke/MethodHandle" ∧ yX5_has.cls ≠ "java/lang/invoke/VarHandle" ∧ (parseMethodDescriptor yX5_has.desc).map (fun d => d.parameters.length) = some 1 := by decide +kernel
theorem hd_X5_actAt : yX5_actAt.cls = RX5 ∧ yX5_actAt.cls ≠ "java/lang/invoke/MethodHandle" ∧ yX5_actAt.cls ≠ "java/lang/invoke/VarHandle" ∧ (parseMethodDescriptor yX5_actAt.desc).map (fun d => d.parameters.length) = some 2 := by decide +kernel
theorem hd_X5_act : yX5_act.cls = RX5 ∧ yX5_act.cls ≠ "java/lang/invoke/MethodHandle" ∧ yX5_act.cls ≠ "java/lang/invoke/VarHandle" ∧ (parseMethodDescriptor yX5_act.desc).map (fun d => d.parameters.length) = some 1 := by decide +kernel
theorem hd_X5_isUndone : yX5_isUndone.cls = RX5 ∧ yX5_isUndone.cls ≠ "java/lang/invoke/MethodHandle" ∧ yX5_isUndone.cls ≠ "java/lang/invoke/VarHandle" ∧ (parseMethodDescriptor yX5_isUndone.desc).map (fun d => d.parameters.length) = some 2 := by decide +kernel
noncomputable def fL_type (n : Nat) (σ : St) (x1 : Int) (x2 : Int) : Option (Int × St) := hw (some 1) (some 2) (some 3) (fun v => v) (fX5_type n σ x1 x2)
noncomputable def fL_split (n : Nat) (σ : St) (x1 : Int) : Option (Int × St) := hw (some 1) none (some 2) (fun v => v) (fX5_split n σ x1)
noncomputable def fL_erase (n : Nat) (σ : St) (x1 : Int) : Option (Int × St) := hw (some 1) none (some 2) (fun v => v) (fX5_erase n σ x1)
noncomputable def fL_moveTo (n : Nat) (σ : St) (x1 : Int) (x2 : Int) : Option (Int × St) := hw (some 1) none none (fun v => v) (fX5_moveTo n σ x1 x2)
noncomputable def fL_extend (n : Nat) (σ : St) (x1 : Int) (x2 : Int) : Option (Int × St) := hw (some 1) none none (fun v => v) (fX5_extend n σ x1 x2)
noncomputable def fL_mark (n : Nat) (σ : St) (x1 : Int) (x2 : Int) (x3 : Int) : Option (Int × St) := hw (some 1) (some 2) (some 3) (fun v => v) (fX5_mark n σ x1 x2 x3)
noncomputable def fL_comment (n : Nat) (σ : St) (x1 : Int) : Option (Int × St) := hw (some 1) none (some 2) (fun v => v) (fX5_comment n σ x1)
noncomputable def fL_setKind (n : Nat) (σ : St) (x1 : Int) (x2 : Int) (x3 : Int) : Option (Int × St) := hw (some 1) (some 2) (some 3) (fun v => v) (fX5_setKind n σ x1 x2 x3)
noncomputable def fL_nest (n : Nat) (σ : St) (x1 : Int) (x2 : Int) (x3 : Int) : Option (Int × St) := hw (some 1) none (some 2) (fun v => v) (fX5_nest n σ x1 x2 x3)
noncomputable def fL_propose (σ : St) (x1 : Int) (x2 : Int) : Option (Int × St) := hw (some 1) none none (fun v => if v = 0 then 0 else 1) (fX5_propose σ x1 x2)
noncomputable def fL_decide (n : Nat) (σ : St) (x1 : Int) (x2 : Int) (x3 : Int) : Option (Int × St) := hw (some 1) none (some 2) (fun v => v) (fX5_decide n σ x1 x2 x3)
noncomputable def fL_allow (n : Nat) (σ : St) (x1 : Int) (x2 : Int) (x3 : Int) : Option (Int × St) := hw (some 1) (some 2) (some 3) (fun v => v) (fX5_allow n σ x1 x2 x3)
noncomputable def fL_undo (n : Nat) (σ : St) (x1 : Int) : Option (Int × St) := hw (some 1) none (some 2) (fun v => v) (fX5_undo n σ x1)
noncomputable def fL_redo (n : Nat) (σ : St) (x1 : Int) : Option (Int × St) := hw (some 1) none (some 2) (fun v => v) (fX5_redo n σ x1)
noncomputable def fL_deliver (n : Nat) (σ : St) (x1 : Int) : Option (Int × St) := hw (some 1) none none (fun v => v) (fX5_deliver n σ x1)
noncomputable def fL_save (σ : St) (x1 : Int) : Option (Int × St) := hw (some 1) none none (fun v => v) (fX5_save σ x1)
noncomputable def fL_crash (n : Nat) (σ : St) (x1 : Int) (x2 : Int) : Option (Int × St) := hw (some 1) (some 2) none (fun v => v) (fX5_crash n σ x1 x2)
noncomputable def fL_bringBack (n : Nat) (σ : St) (x1 : Int) (x2 : Int) : Option (Int × St) := hw (some 1) none (some 2) (fun v => v) (fX5_bringBack n σ x1 x2)
noncomputable def fL_differ (n : Nat) (σ : St) (x1 : Int) (x2 : Int) : Option (Int × St) := hw (some 1) none none (fun v => v) (fX5_differ n σ x1 x2)
noncomputable def fL_length (n : Nat) (σ : St) (x1 : Int) : Option (Int × St) := hw (some 1) none none (fun v => v) (fX5_length n σ x1)
noncomputable def fL_shown (n : Nat) (σ : St) (x1 : Int) : Option (Int × St) := hw (some 1) none none (fun v => v) (fX5_shown n σ x1)
noncomputable def fL_element (n : Nat) (σ : St) (x1 : Int) (x2 : Int) : Option (Int × St) := hw (some 1) none none (fun v => v) (fX5_element n σ x1 x2)
noncomputable def fL_elementAnew (n : Nat) (σ : St) (x1 : Int) (x2 : Int) : Option (Int × St) := hw (some 1) none none (fun v => v) (fX5_elementAnew n σ x1 x2)
noncomputable def fL_letter (n : Nat) (σ : St) (x1 : Int) (x2 : Int) : Option (Int × St) := hw (some 1) none none (fun v => v) (fX5_letter n σ x1 x2)
noncomputable def fL_proposed (n : Nat) (σ : St) (x1 : Int) (x2 : Int) : Option (Int × St) := hw (some 1) none none (fun v => v) (fX5_proposed n σ x1 x2)
noncomputable def fL_open (n : Nat) (σ : St) (x1 : Int) : Option (Int × St) := hw (some 1) none none (fun v => v) (fX5_open n σ x1)
noncomputable def fL_isMarked (n : Nat) (σ : St) (x1 : Int) (x2 : Int) (x3 : Int) : Option (Int × St) := hw (some 1) (some 2) none (fun v => if v = 0 then 0 else 1) (fX5_isMarked n σ x1 x2 x3)
noncomputable def fL_covered (n : Nat) (σ : St) (x1 : Int) (x2 : Int) : Option (Int × St) := hw (some 1) none none (fun v => v) (fX5_covered n σ x1 x2)
noncomputable def fL_blocks (n : Nat) (σ : St) (x1 : Int) : Option (Int × St) := hw (some 1) none none (fun v => v) (fX5_blocks n σ x1)
noncomputable def fL_kind (n : Nat) (σ : St) (x1 : Int) (x2 : Int) : Option (Int × St) := hw (some 1) none none (fun v => v) (fX5_kind n σ x1 x2)
noncomputable def fL_depth (n : Nat) (σ : St) (x1 : Int) (x2 : Int) : Option (Int × St) := hw (some 1) none none (fun v => v) (fX5_depth n σ x1 x2)
noncomputable def fL_level (n : Nat) (σ : St) (x1 : Int) (x2 : Int) : Option (Int × St) := hw (some 1) none none (fun v => v) (fX5_level n σ x1 x2)
noncomputable def fL_cursor (n : Nat) (σ : St) (x1 : Int) : Option (Int × St) := hw (some 1) none none (fun v => v) (fX5_cursor n σ x1)
noncomputable def fL_tail (n : Nat) (σ : St) (x1 : Int) : Option (Int × St) := hw (some 1) none none (fun v => v) (fX5_tail n σ x1)
noncomputable def fL_graves (n : Nat) (σ : St) (x1 : Int) : Option (Int × St) := hw (some 1) none none (fun v => v) (fX5_graves n σ x1)
noncomputable def fL_buried (n : Nat) (σ : St) (x1 : Int) : Option (Int × St) := hw (some 1) none none (fun v => v) (fX5_buried n σ x1)
noncomputable def fL_has (σ : St) (x1 : Int) : Option (Int × St) := hw (some 1) none none (fun v => v) (fX5_has σ x1)
noncomputable def fL_actAt (n : Nat) (σ : St) (x1 : Int) (x2 : Int) : Option (Int × St) := hw (some 1) none none (fun v => v) (fX5_actAt n σ x1 x2)
noncomputable def fL_act (σ : St) (x1 : Int) : Option (Int × St) := hw (some 1) none none (fun v => v) (fX5_act σ x1)
noncomputable def fL_isUndone (n : Nat) (σ : St) (x1 : Int) (x2 : Int) : Option (Int × St) := hw (some 1) none none (fun v => if v = 0 then 0 else 1) (fX5_isUndone n σ x1 x2)
set_option maxRecDepth 100000 in
set_option maxHeartbeats 4000000 in
theorem ok_L_type {l : Launch} {D : va_G} {cy : Nat → ClassId} {ad : Nat → Nat} {nm nv sz : Nat} {σ : St} {n : Nat} {x1 : Int} {x2 : Int} {r : Int} {σ2 : St} (hx1 : inR x1) (hx2 : inR x2) (hf : fL_type n σ x1 x2 = some (r, σ2)) (hst : l.stackTraces = false) : LM l yL_type cL_type 5 [(0, 10, 13, 13), (0, 10, 17, 15), (0, 10, 21, 17)] ({ frames := 9, cells := 2, slots := 12, locals := 197 } : Room) [.ref (ad 0), .int (i32 x1), .int (i32 x2), .ref (ad 290)] D cy ad nm nv sz σ 2 12 r σ2 := by
  refine w_entry RL rfl (by decide +kernel) (Nat.le_of_ble_eq_true rfl) ?_
  intro p e s m args below meth c Q hQ hr hlocks X Y Z hT hW hS ls hl
  have hx := X.1
  have hb := X.2.1
  have hN := X.2.2.2.2.2.2.2.2
  have hl : lv_has ls 5 [(0, .ref (ad 0)), (1, .int (i32 x1)), (2, .int (i32 x2)), (3, .ref (ad 290))] := hl
  unfold fL_type at hf
  refine lv_aload_n hx hb dL_type_0 rfl (lv_at hl 3 rfl) ?_
  refine m_const (v := 0) hx hb dL_type_1 rfl ?_
  refine lv_aload_n hx hb dL_type_2 rfl (lv_at hl 0 rfl) ?_
  refine lv_iload_n hx hb dL_type_3 rfl (lv_at hl 1 rfl) ?_
  refine lv_iload_n hx hb dL_type_4 rfl (lv_at hl 2 rfl) ?_
  refine w_callV (As := [.int (i32 x1), .int (i32 x2)]) (rest := [.int (i32 0), .ref (ad 290)]) (fun (v : Int) => inR v ∧ (false = true → isB v)) (fun (v : Int) => some (.int (i32 v))) 2 12 X Y hW hS hl.1 gc_L_7 hd_X5_type ⟨rfl, rfl, (Nat.le_of_ble_eq_true rfl), (Nat.le_of_ble_eq_true rfl)⟩ (rc_X5 X hW) (fun cd v q9 q => ok_X5_type hx1 hx2 q hst) (fun q => by rw [q] at hf; cases hf) rfl rfl (Nat.le_of_ble_eq_true rfl) dL_type_5 ⟨(Nat.le_of_ble_eq_true rfl), (Nat.le_of_ble_eq_true rfl)⟩ (Nat.le_of_ble_eq_true rfl) (Nat.le_of_ble_eq_true rfl) (fun v σ1 H locs hF hv hW1 hS1 => ?_) (fun cd v σ1 H locs q cell hcd hF hW1 hS1 hce hcv hcl => ?_)
  · rw [hF] at hf
    have hf : some ((0 : Int), st σ1 290 0 v) = some (r, σ2) := hf
    refine W.eq (g2 := F0 m 8 ls [.int (i32 v), .int (i32 0), .ref (ad 290)]) rfl ?_
    refine m_i2l hx hb hv.1 dL_type_8 ?_
    refine m_last X hW1 hS1 hv.1 dL_type_9 (fun H locs hW2 hS2 => ?_)
    refine lv_goto (tgt := 25) hx hb dL_type_10 (by decide) ?_
    refine m_const (v := 0) hx hb dL_type_25 rfl ?_
    exact w_ret X hr hlocks (u := 0) (by decide) hW2 hS2 (Nat.le_of_ble_eq_true rfl) (Nat.le_of_ble_eq_true rfl) hf hQ dL_type_26
  · rw [hF] at hf
    rcases (show cd = 1 ∨ cd = 2 ∨ cd = 3 ∨ 4 ≤ cd by omega) with rfl | rfl | rfl | hcd4
    · have hf : some ((1 : Int), σ1) = some (r, σ2) := hf
      refine vx_catch (name := exN 1) X.2.2.2.1 [] ⟨0, 10, 13, 13⟩ [⟨0, 10, 17, 15⟩, ⟨0, 10, 21, 17⟩] (by rw [hT]; rfl) (fun z hz => nomatch hz) rfl (by decide) (X.2.2.2.2.1 _ mw221) (va_Nw.use rfl (nc_IndexOutOfBoundsException hN)) hce hcv hcl ?_
      refine W.eq (g2 := F0 m 13 ls [.ref q]) rfl ?_
      refine lv_astore (lv' := [(4, .ref q), (0, .ref (ad 0)), (1, .int (i32 x1)), (2, .int (i32 x2)), (3, .ref (ad 290))]) hx hb dL_type_13 hl (by decide) rfl (fun ls hl => ?_)
      refine m_const (v := 1) hx hb dL_type_15 rfl ?_
      exact w_ret X hr hlocks (u := 1) (by decide) hW1 hS1 (Nat.le_of_ble_eq_true rfl) (Nat.le_of_ble_eq_true rfl) hf hQ dL_type_16
    · have hf : some ((2 : Int), σ1) = some (r, σ2) := hf
      refine vx_catch (name := exN 2) X.2.2.2.1 [⟨0, 10, 13, 13⟩] ⟨0, 10, 17, 15⟩ [⟨0, 10, 21, 17⟩] (by rw [hT]; rfl) (fun z hz => by
        rcases List.mem_cons.mp hz with rfl | hz
        · exact Or.inr ⟨by decide, exN 1, X.2.2.2.2.1 _ mw221, Z.1⟩
        cases hz) rfl (by decide) (X.2.2.2.2.1 _ mw222) (va_Nw.use rfl (nc_IllegalArgumentException hN)) hce hcv hcl ?_
      refine W.eq (g2 := F0 m 17 ls [.ref q]) rfl ?_
      refine lv_astore (lv' := [(4, .ref q), (0, .ref (ad 0)), (1, .int (i32 x1)), (2, .int (i32 x2)), (3, .ref (ad 290))]) hx hb dL_type_17 hl (by decide) rfl (fun ls hl => ?_)
      refine m_const (v := 2) hx hb dL_type_19 rfl ?_
      exact w_ret X hr hlocks (u := 2) (by decide) hW1 hS1 (Nat.le_of_ble_eq_true rfl) (Nat.le_of_ble_eq_true rfl) hf hQ dL_type_20
    · have hf : some ((3 : Int), σ1) = some (r, σ2) := hf
      refine vx_catch (name := exN 3) X.2.2.2.1 [⟨0, 10, 13, 13⟩, ⟨0, 10, 17, 15⟩] ⟨0, 10, 21, 17⟩ [] (by rw [hT]; rfl) (fun z hz => by
        rcases List.mem_cons.mp hz with rfl | hz
        · exact Or.inr ⟨by decide, exN 1, X.2.2.2.2.1 _ mw221, Z.2.1⟩
        rcases List.mem_cons.mp hz with rfl | hz
        · exact Or.inr ⟨by decide, exN 2, X.2.2.2.2.1 _ mw222, Z.2.2⟩
        cases hz) rfl (by decide) (X.2.2.2.2.1 _ mw223) (va_Nw.use rfl (nc_IllegalStateException hN)) hce hcv hcl ?_
      refine W.eq (g2 := F0 m 21 ls [.ref q]) rfl ?_
      refine lv_astore (lv' := [(4, .ref q), (0, .ref (ad 0)), (1, .int (i32 x1)), (2, .int (i32 x2)), (3, .ref (ad 290))]) hx hb dL_type_21 hl (by decide) rfl (fun ls hl => ?_)
      refine m_const (v := 3) hx hb dL_type_23 rfl ?_
      exact w_ret X hr hlocks (u := 3) (by decide) hW1 hS1 (Nat.le_of_ble_eq_true rfl) (Nat.le_of_ble_eq_true rfl) hf hQ dL_type_24
    · obtain ⟨cd, rfl⟩ : ∃ k, cd = k + 4 := ⟨cd - 4, by omega⟩
      cases hf
set_option maxRecDepth 100000 in
set_option maxHeartbeats 4000000 in
theorem ok_L_split {l : Launch} {D : va_G} {cy : Nat → ClassId} {ad : Nat → Nat} {nm nv sz : Nat} {σ : St} {n : Nat} {x1 : Int} {r : Int} {σ2 : St} (hx1 : inR x1) (hf : fL_split n σ x1 = some (r, σ2)) (hst : l.stackTraces = false) : LM l yL_split cL_split 4 [(0, 9, 12, 13), (0, 9, 15, 17)] ({ frames := 9, cells := 2, slots := 12, locals := 196 } : Room) [.ref (ad 0), .int (i32 x1), .ref (ad 290)] D cy ad nm nv sz σ 2 12 r σ2 := by
  refine w_entry RL rfl (by decide +kernel) (Nat.le_of_ble_eq_true rfl) ?_
  intro p e s m args below meth c Q hQ hr hlocks X Y Z hT hW hS ls hl
  have hx := X.1
  have hb := X.2.1
  have hN := X.2.2.2.2.2.2.2.2
  have hl : lv_has ls 4 [(0, .ref (ad 0)), (1, .int (i32 x1)), (2, .ref (ad 290))] := hl
  unfold fL_split at hf
  refine lv_aload_n hx hb dL_split_0 rfl (lv_at hl 2 rfl) ?_
  refine m_const (v := 0) hx hb dL_split_1 rfl ?_
  refine lv_aload_n hx hb dL_split_2 rfl (lv_at hl 0 rfl) ?_
  refine lv_iload_n hx hb dL_split_3 rfl (lv_at hl 1 rfl) ?_
  refine w_callV (As := [.int (i32 x1)]) (rest := [.int (i32 0), .ref (ad 290)]) (fun (v : Int) => inR v ∧ (false = true → isB v)) (fun (v : Int) => some (.int (i32 v))) 2 12 X Y hW hS hl.1 gc_L_19 hd_X5_split ⟨rfl, rfl, (Nat.le_of_ble_eq_true rfl), (Nat.le_of_ble_eq_true rfl)⟩ (rc_X5 X hW) (fun cd v q9 q => ok_X5_split hx1 q hst) (fun q => by rw [q] at hf; cases hf) rfl rfl (Nat.le_of_ble_eq_true rfl) dL_split_4 ⟨(Nat.le_of_ble_eq_true rfl), (Nat.le_of_ble_eq_true rfl)⟩ (Nat.le_of_ble_eq_true rfl) (Nat.le_of_ble_eq_true rfl) (fun v σ1 H locs hF hv hW1 hS1 => ?_) (fun cd v σ1 H locs q cell hcd hF hW1 hS1 hce hcv hcl => ?_)
  · rw [hF] at hf
    have hf : some ((0 : Int), st σ1 290 0 v) = some (r, σ2) := hf
    refine W.eq (g2 := F0 m 7 ls [.int (i32 v), .int (i32 0), .ref (ad 290)]) rfl ?_
    refine m_i2l hx hb hv.1 dL_split_7 ?_
    refine m_last X hW1 hS1 hv.1 dL_split_8 (fun H locs hW2 hS2 => ?_)
    refine lv_goto (tgt := 18) hx hb dL_split_9 (by decide) ?_
    refine m_const (v := 0) hx hb dL_split_18 rfl ?_
    exact w_ret X hr hlocks (u := 0) (by decide) hW2 hS2 (Nat.le_of_ble_eq_true rfl) (Nat.le_of_ble_eq_true rfl) hf hQ dL_split_19
  · rw [hF] at hf
    rcases (show cd = 1 ∨ cd = 2 ∨ cd = 3 ∨ 4 ≤ cd by omega) with rfl | rfl | rfl | hcd4
    · have hf : some ((1 : Int), σ1) = some (r, σ2) := hf
      refine vx_catch (name := exN 1) X.2.2.2.1 [] ⟨0, 9, 12, 13⟩ [⟨0, 9, 15, 17⟩] (by rw [hT]; rfl) (fun z hz => nomatch hz) rfl (by decide) (X.2.2.2.2.1 _ mw221) (va_Nw.use rfl (nc_IndexOutOfBoundsException hN)) hce hcv hcl ?_
      refine W.eq (g2 := F0 m 12 ls [.ref q]) rfl ?_
      refine lv_astore_n (lv' := [(3, .ref q), (0, .ref (ad 0)), (1, .int (i32 x1)), (2, .ref (ad 290))]) hx hb dL_split_12 rfl hl (by decide) rfl (fun ls hl => ?_)
      refine m_const (v := 1) hx hb dL_split_13 rfl ?_
      exact w_ret X hr hlocks (u := 1) (by decide) hW1 hS1 (Nat.le_of_ble_eq_true rfl) (Nat.le_of_ble_eq_true rfl) hf hQ dL_split_14
    · cases hf
    · have hf : some ((2 : Int), σ1) = some (r, σ2) := hf
      refine vx_catch (name := exN 3) X.2.2.2.1 [⟨0, 9, 12, 13⟩] ⟨0, 9, 15, 17⟩ [] (by rw [hT]; rfl) (fun z hz => by
        rcases List.mem_cons.mp hz with rfl | hz
        · exact Or.inr ⟨by decide, exN 1, X.2.2.2.2.1 _ mw221, Z.2.1⟩
        cases hz) rfl (by decide) (X.2.2.2.2.1 _ mw223) (va_Nw.use rfl (nc_IllegalStateException hN)) hce hcv hcl ?_
      refine W.eq (g2 := F0 m 15 ls [.ref q]) rfl ?_
      refine lv_astore_n (lv' := [(3, .ref q), (0, .ref (ad 0)), (1, .int (i32 x1)), (2, .ref (ad 290))]) hx hb dL_split_15 rfl hl (by decide) rfl (fun ls hl => ?_)
      refine m_const (v := 2) hx hb dL_split_16 rfl ?_
      exact w_ret X hr hlocks (u := 2) (by decide) hW1 hS1 (Nat.le_of_ble_eq_true rfl) (Nat.le_of_ble_eq_true rfl) hf hQ dL_split_17
    · obtain ⟨cd, rfl⟩ : ∃ k, cd = k + 4 := ⟨cd - 4, by omega⟩
      cases hf
set_option maxRecDepth 100000 in
set_option maxHeartbeats 4000000 in
theorem ok_L_erase {l : Launch} {D : va_G} {cy : Nat → ClassId} {ad : Nat → Nat} {nm nv sz : Nat} {σ : St} {n : Nat} {x1 : Int} {r : Int} {σ2 : St} (hx1 : inR x1) (hf : fL_erase n σ x1 = some (r, σ2)) (hst : l.stackTraces = false) : LM l yL_erase cL_erase 4 [(0, 9, 12, 13), (0, 9, 15, 17)] ({ frames := 8, cells := 2, slots := 12, locals := 192 } : Room) [.ref (ad 0), .int (i32 x1), .ref (ad 290)] D cy ad nm nv sz σ 2 12 r σ2 := by
  refine w_entry RL rfl (by decide +kernel) (Nat.le_of_ble_eq_true rfl) ?_
  intro p e s m args below meth c Q hQ hr hlocks X Y Z hT hW hS ls hl
  have hx := X.1
  have hb := X.2.1
  have hN := X.2.2.2.2.2.2.2.2
  have hl : lv_has ls 4 [(0, .ref (ad 0)), (1, .int (i32 x1)), (2, .ref (ad 290))] := hl
  unfold fL_erase at hf
  refine lv_aload_n hx hb dL_erase_0 rfl (lv_at hl 2 rfl) ?_
  refine m_const (v := 0) hx hb dL_erase_1 rfl ?_
  refine lv_aload_n hx hb dL_erase_2 rfl (lv_at hl 0 rfl) ?_
  refine lv_iload_n hx hb dL_erase_3 rfl (lv_at hl 1 rfl) ?_
  refine w_callV (As := [.int (i32 x1)]) (rest := [.int (i32 0), .ref (ad 290)]) (fun (v : Int) => inR v ∧ (false = true → isB v)) (fun (v : Int) => some (.int (i32 v))) 2 12 X Y hW hS hl.1 gc_L_23 hd_X5_erase ⟨rfl, rfl, (Nat.le_of_ble_eq_true rfl), (Nat.le_of_ble_eq_true rfl)⟩ (rc_X5 X hW) (fun cd v q9 q => ok_X5_erase hx1 q hst) (fun q => by rw [q] at hf; cases hf) rfl rfl (Nat.le_of_ble_eq_true rfl) dL_erase_4 ⟨(Nat.le_of_ble_eq_true rfl), (Nat.le_of_ble_eq_true rfl)⟩ (Nat.le_of_ble_eq_true rfl) (Nat.le_of_ble_eq_true rfl) (fun v σ1 H locs hF hv hW1 hS1 => ?_) (fun cd v σ1 H locs q cell hcd hF hW1 hS1 hce hcv hcl => ?_)
  · rw [hF] at hf
    have hf : some ((0 : Int), st σ1 290 0 v) = some (r, σ2) := hf
    refine W.eq (g2 := F0 m 7 ls [.int (i32 v), .int (i32 0), .ref (ad 290)]) rfl ?_
    refine m_i2l hx hb hv.1 dL_erase_7 ?_
    refine m_last X hW1 hS1 hv.1 dL_erase_8 (fun H locs hW2 hS2 => ?_)
    refine lv_goto (tgt := 18) hx hb dL_erase_9 (by decide) ?_
    refine m_const (v := 0) hx hb dL_erase_18 rfl ?_
    exact w_ret X hr hlocks (u := 0) (by decide) hW2 hS2 (Nat.le_of_ble_eq_true rfl) (Nat.le_of_ble_eq_true rfl) hf hQ dL_erase_19
  · rw [hF] at hf
    rcases (show cd = 1 ∨ cd = 2 ∨ cd = 3 ∨ 4 ≤ cd by omega) with rfl | rfl | rfl | hcd4
    · have hf : some ((1 : Int), σ1) = some (r, σ2) := hf
      refine vx_catch (name := exN 1) X.2.2.2.1 [] ⟨0, 9, 12, 13⟩ [⟨0, 9, 15, 17⟩] (by rw [hT]; rfl) (fun z hz => nomatch hz) rfl (by decide) (X.2.2.2.2.1 _ mw221) (va_Nw.use rfl (nc_IndexOutOfBoundsException hN)) hce hcv hcl ?_
      refine W.eq (g2 := F0 m 12 ls [.ref q]) rfl ?_
      refine lv_astore_n (lv' := [(3, .ref q), (0, .ref (ad 0)), (1, .int (i32 x1)), (2, .ref (ad 290))]) hx hb dL_erase_12 rfl hl (by decide) rfl (fun ls hl => ?_)
      refine m_const (v := 1) hx hb dL_erase_13 rfl ?_
      exact w_ret X hr hlocks (u := 1) (by decide) hW1 hS1 (Nat.le_of_ble_eq_true rfl) (Nat.le_of_ble_eq_true rfl) hf hQ dL_erase_14
    · cases hf
    · have hf : some ((2 : Int), σ1) = some (r, σ2) := hf
      refine vx_catch (name := exN 3) X.2.2.2.1 [⟨0, 9, 12, 13⟩] ⟨0, 9, 15, 17⟩ [] (by rw [hT]; rfl) (fun z hz => by
        rcases List.mem_cons.mp hz with rfl | hz
        · exact Or.inr ⟨by decide, exN 1, X.2.2.2.2.1 _ mw221, Z.2.1⟩
        cases hz) rfl (by decide) (X.2.2.2.2.1 _ mw223) (va_Nw.use rfl (nc_IllegalStateException hN)) hce hcv hcl ?_
      refine W.eq (g2 := F0 m 15 ls [.ref q]) rfl ?_
      refine lv_astore_n (lv' := [(3, .ref q), (0, .ref (ad 0)), (1, .int (i32 x1)), (2, .ref (ad 290))]) hx hb dL_erase_15 rfl hl (by decide) rfl (fun ls hl => ?_)
      refine m_const (v := 2) hx hb dL_erase_16 rfl ?_
      exact w_ret X hr hlocks (u := 2) (by decide) hW1 hS1 (Nat.le_of_ble_eq_true rfl) (Nat.le_of_ble_eq_true rfl) hf hQ dL_erase_17
    · obtain ⟨cd, rfl⟩ : ∃ k, cd = k + 4 := ⟨cd - 4, by omega⟩
      cases hf
set_option maxRecDepth 100000 in
set_option maxHeartbeats 4000000 in
theorem ok_L_moveTo {l : Launch} {D : va_G} {cy : Nat → ClassId} {ad : Nat → Nat} {nm nv sz : Nat} {σ : St} {n : Nat} {x1 : Int} {x2 : Int} {r : Int} {σ2 : St} (hx1 : inR x1) (hx2 : inR x2) (hf : fL_moveTo n σ x1 x2 = some (r, σ2)) (hst : l.stackTraces = false) : LM l yL_moveTo cL_moveTo 5 [(0, 10, 13, 13)] ({ frames := 9, cells := 2, slots := 12, locals := 189 } : Room) [.ref (ad 0), .int (i32 x1), .int (i32 x2), .ref (ad 290)] D cy ad nm nv sz σ 2 12 r σ2 := by
  refine w_entry RL rfl (by decide +kernel) (Nat.le_of_ble_eq_true rfl) ?_
  intro p e s m args below meth c Q hQ hr hlocks X Y Z hT hW hS ls hl
  have hx := X.1
  have hb := X.2.1
  have hN := X.2.2.2.2.2.2.2.2
  have hl : lv_has ls 5 [(0, .ref (ad 0)), (1, .int (i32 x1)), (2, .int (i32 x2)), (3, .ref (ad 290))] := hl
  unfold fL_moveTo at hf
  refine lv_aload_n hx hb dL_moveTo_0 rfl (lv_at hl 3 rfl) ?_
  refine m_const (v := 0) hx hb dL_moveTo_1 rfl ?_
  refine lv_aload_n hx hb dL_moveTo_2 rfl (lv_at hl 0 rfl) ?_
  refine lv_iload_n hx hb dL_moveTo_3 rfl (lv_at hl 1 rfl) ?_
  refine lv_iload_n hx hb dL_moveTo_4 rfl (lv_at hl 2 rfl) ?_
  refine w_callV (As := [.int (i32 x1), .int (i32 x2)]) (rest := [.int (i32 0), .ref (ad 290)]) (fun (v : Int) => inR v ∧ (false = true → isB v)) (fun (v : Int) => some (.int (i32 v))) 2 12 X Y hW hS hl.1 gc_L_26 hd_X5_moveTo ⟨rfl, rfl, (Nat.le_of_ble_eq_true rfl), (Nat.le_of_ble_eq_true rfl)⟩ (rc_X5 X hW) (fun cd v q9 q => ok_X5_moveTo hx1 hx2 q hst) (fun q => by rw [q] at hf; cases hf) rfl rfl (Nat.le_of_ble_eq_true rfl) dL_moveTo_5 ⟨(Nat.le_of_ble_eq_true rfl), (Nat.le_of_ble_eq_true rfl)⟩ (Nat.le_of_ble_eq_true rfl) (Nat.le_of_ble_eq_true rfl) (fun v σ1 H locs hF hv hW1 hS1 => ?_) (fun cd v σ1 H locs q cell hcd hF hW1 hS1 hce hcv hcl => ?_)
  · rw [hF] at hf
    have hf : some ((0 : Int), st σ1 290 0 v) = some (r, σ2) := hf
    refine W.eq (g2 := F0 m 8 ls [.int (i32 v), .int (i32 0), .ref (ad 290)]) rfl ?_
    refine m_i2l hx hb hv.1 dL_moveTo_8 ?_
    refine m_last X hW1 hS1 hv.1 dL_moveTo_9 (fun H locs hW2 hS2 => ?_)
    refine lv_goto (tgt := 17) hx hb dL_moveTo_10 (by decide) ?_
    refine m_const (v := 0) hx hb dL_moveTo_17 rfl ?_
    exact w_ret X hr hlocks (u := 0) (by decide) hW2 hS2 (Nat.le_of_ble_eq_true rfl) (Nat.le_of_ble_eq_true rfl) hf hQ dL_moveTo_18
  · rw [hF] at hf
    rcases (show cd = 1 ∨ cd = 2 ∨ cd = 3 ∨ 4 ≤ cd by omega) with rfl | rfl | rfl | hcd4
    · have hf : some ((1 : Int), σ1) = some (r, σ2) := hf
      refine vx_catch (name := exN 1) X.2.2.2.1 [] ⟨0, 10, 13, 13⟩ [] (by rw [hT]; rfl) (fun z hz => nomatch hz) rfl (by decide) (X.2.2.2.2.1 _ mw221) (va_Nw.use rfl (nc_IndexOutOfBoundsException hN)) hce hcv hcl ?_
      refine W.eq (g2 := F0 m 13 ls [.ref q]) rfl ?_
      refine lv_astore (lv' := [(4, .ref q), (0, .ref (ad 0)), (1, .int (i32 x1)), (2, .int (i32 x2)), (3, .ref (ad 290))]) hx hb dL_moveTo_13 hl (by decide) rfl (fun ls hl => ?_)
      refine m_const (v := 1) hx hb dL_moveTo_15 rfl ?_
      exact w_ret X hr hlocks (u := 1) (by decide) hW1 hS1 (Nat.le_of_ble_eq_true rfl) (Nat.le_of_ble_eq_true rfl) hf hQ dL_moveTo_16
    · cases hf
    · cases hf
    · obtain ⟨cd, rfl⟩ : ∃ k, cd = k + 4 := ⟨cd - 4, by omega⟩
      cases hf
set_option maxRecDepth 100000 in
set_option maxHeartbeats 4000000 in
theorem ok_L_extend {l : Launch} {D : va_G} {cy : Nat → ClassId} {ad : Nat → Nat} {nm nv sz : Nat} {σ : St} {n : Nat} {x1 : Int} {x2 : Int} {r : Int} {σ2 : St} (hx1 : inR x1) (hx2 : inR x2) (hf : fL_extend n σ x1 x2 = some (r, σ2)) (hst : l.stackTraces = false) : LM l yL_extend cL_extend 5 [(0, 10, 13, 13)] ({ frames := 9, cells := 2, slots := 12, locals := 188 } : Room) [.ref (ad 0), .int (i32 x1), .int (i32 x2), .ref (ad 290)] D cy ad nm nv sz σ 2 12 r σ2 := by
  refine w_entry RL rfl (by decide +kernel) (Nat.le_of_ble_eq_true rfl) ?_
  intro p e s m args below meth c Q hQ hr hlocks X Y Z hT hW hS ls hl
  have hx := X.1
  have hb := X.2.1
  have hN := X.2.2.2.2.2.2.2.2
  have hl : lv_has ls 5 [(0, .ref (ad 0)), (1, .int (i32 x1)), (2, .int (i32 x2)), (3, .ref (ad 290))] := hl
  unfold fL_extend at hf
  refine lv_aload_n hx hb dL_extend_0 rfl (lv_at hl 3 rfl) ?_
  refine m_const (v := 0) hx hb dL_extend_1 rfl ?_
  refine lv_aload_n hx hb dL_extend_2 rfl (lv_at hl 0 rfl) ?_
  refine lv_iload_n hx hb dL_extend_3 rfl (lv_at hl 1 rfl) ?_
  refine lv_iload_n hx hb dL_extend_4 rfl (lv_at hl 2 rfl) ?_
  refine w_callV (As := [.int (i32 x1), .int (i32 x2)]) (rest := [.int (i32 0), .ref (ad 290)]) (fun (v : Int) => inR v ∧ (false = true → isB v)) (fun (v : Int) => some (.int (i32 v))) 2 12 X Y hW hS hl.1 gc_L_30 hd_X5_extend ⟨rfl, rfl, (Nat.le_of_ble_eq_true rfl), (Nat.le_of_ble_eq_true rfl)⟩ (rc_X5 X hW) (fun cd v q9 q => ok_X5_extend hx1 hx2 q hst) (fun q => by rw [q] at hf; cases hf) rfl rfl (Nat.le_of_ble_eq_true rfl) dL_extend_5 ⟨(Nat.le_of_ble_eq_true rfl), (Nat.le_of_ble_eq_true rfl)⟩ (Nat.le_of_ble_eq_true rfl) (Nat.le_of_ble_eq_true rfl) (fun v σ1 H locs hF hv hW1 hS1 => ?_) (fun cd v σ1 H locs q cell hcd hF hW1 hS1 hce hcv hcl => ?_)
  · rw [hF] at hf
    have hf : some ((0 : Int), st σ1 290 0 v) = some (r, σ2) := hf
    refine W.eq (g2 := F0 m 8 ls [.int (i32 v), .int (i32 0), .ref (ad 290)]) rfl ?_
    refine m_i2l hx hb hv.1 dL_extend_8 ?_
    refine m_last X hW1 hS1 hv.1 dL_extend_9 (fun H locs hW2 hS2 => ?_)
    refine lv_goto (tgt := 17) hx hb dL_extend_10 (by decide) ?_
    refine m_const (v := 0) hx hb dL_extend_17 rfl ?_
    exact w_ret X hr hlocks (u := 0) (by decide) hW2 hS2 (Nat.le_of_ble_eq_true rfl) (Nat.le_of_ble_eq_true rfl) hf hQ dL_extend_18
  · rw [hF] at hf
    rcases (show cd = 1 ∨ cd = 2 ∨ cd = 3 ∨ 4 ≤ cd by omega) with rfl | rfl | rfl | hcd4
    · have hf : some ((1 : Int), σ1) = some (r, σ2) := hf
      refine vx_catch (name := exN 1) X.2.2.2.1 [] ⟨0, 10, 13, 13⟩ [] (by rw [hT]; rfl) (fun z hz => nomatch hz) rfl (by decide) (X.2.2.2.2.1 _ mw221) (va_Nw.use rfl (nc_IndexOutOfBoundsException hN)) hce hcv hcl ?_
      refine W.eq (g2 := F0 m 13 ls [.ref q]) rfl ?_
      refine lv_astore (lv' := [(4, .ref q), (0, .ref (ad 0)), (1, .int (i32 x1)), (2, .int (i32 x2)), (3, .ref (ad 290))]) hx hb dL_extend_13 hl (by decide) rfl (fun ls hl => ?_)
      refine m_const (v := 1) hx hb dL_extend_15 rfl ?_
      exact w_ret X hr hlocks (u := 1) (by decide) hW1 hS1 (Nat.le_of_ble_eq_true rfl) (Nat.le_of_ble_eq_true rfl) hf hQ dL_extend_16
    · cases hf
    · cases hf
    · obtain ⟨cd, rfl⟩ : ∃ k, cd = k + 4 := ⟨cd - 4, by omega⟩
      cases hf
set_option maxRecDepth 100000 in
set_option maxHeartbeats 4000000 in
theorem ok_L_mark {l : Launch} {D : va_G} {cy : Nat → ClassId} {ad : Nat → Nat} {nm nv sz : Nat} {σ : St} {n : Nat} {x1 : Int} {x2 : Int} {x3 : Int} {r : Int} {σ2 : St} (hx1 : inR x1) (hx2 : inR x2) (hx3 : inR x3) (hf : fL_mark n σ x1 x2 x3 = some (r, σ2)) (hst : l.stackTraces = false) : LM l yL_mark cL_mark 6 [(0, 12, 15, 13), (0, 12, 19, 15), (0, 12, 23, 17)] ({ frames := 9, cells := 3, slots := 18, locals := 201 } : Room) [.ref (ad 0), .int (i32 x1), .int (i32 x2), .int (i32 x3), .ref (ad 290)] D cy ad nm nv sz σ 3 18 r σ2 := by
  refine w_entry RL rfl (by decide +kernel) (Nat.le_of_ble_eq_true rfl) ?_
  intro p e s m args below meth c Q hQ hr hlocks X Y Z hT hW hS ls hl
  have hx := X.1
  have hb := X.2.1
  have hN := X.2.2.2.2.2.2.2.2
  have hl : lv_has ls 6 [(0, .ref (ad 0)), (1, .int (i32 x1)), (2, .int (i32 x2)), (3, .int (i32 x3)), (4, .ref (ad 290))] := hl
  unfold fL_mark at hf
  refine lv_aload hx hb dL_mark_0 (lv_at hl 4 rfl) ?_
  refine m_const (v := 0) hx hb dL_mark_2 rfl ?_
  refine lv_aload_n hx hb dL_mark_3 rfl (lv_at hl 0 rfl) ?_
  refine lv_iload_n hx hb dL_mark_4 rfl (lv_at hl 1 rfl) ?_
  refine lv_iload_n hx hb dL_mark_5 rfl (lv_at hl 2 rfl) ?_
  refine lv_iload_n hx hb dL_mark_6 rfl (lv_at hl 3 rfl) ?_
  refine w_callV (As := [.int (i32 x1), .int (i32 x2), .int (i32 x3)]) (rest := [.int (i32 0), .ref (ad 290)]) (fun (v : Int) => inR v ∧ (false = true → isB v)) (fun (v : Int) => some (.int (i32 v))) 3 18 X Y hW hS hl.1 gc_L_33 hd_X5_mark ⟨rfl, rfl, (Nat.le_of_ble_eq_true rfl), (Nat.le_of_ble_eq_true rfl)⟩ (rc_X5 X hW) (fun cd v q9 q => ok_X5_mark hx1 hx2 hx3 q hst) (fun q => by rw [q] at hf; cases hf) rfl rfl (Nat.le_of_ble_eq_true rfl) dL_mark_7 ⟨(Nat.le_of_ble_eq_true rfl), (Nat.le_of_ble_eq_true rfl)⟩ (Nat.le_of_ble_eq_true rfl) (Nat.le_of_ble_eq_true rfl) (fun v σ1 H locs hF hv hW1 hS1 => ?_) (fun cd v σ1 H locs q cell hcd hF hW1 hS1 hce hcv hcl => ?_)
  · rw [hF] at hf
    have hf : some ((0 : Int), st σ1 290 0 v) = some (r, σ2) := hf
    refine W.eq (g2 := F0 m 10 ls [.int (i32 v), .int (i32 0), .ref (ad 290)]) rfl ?_
    refine m_i2l hx hb hv.1 dL_mark_10 ?_
    refine m_last X hW1 hS1 hv.1 dL_mark_11 (fun H locs hW2 hS2 => ?_)
    refine lv_goto (tgt := 27) hx hb dL_mark_12 (by decide) ?_
    refine m_const (v := 0) hx hb dL_mark_27 rfl ?_
    exact w_ret X hr hlocks (u := 0) (by decide) hW2 hS2 (Nat.le_of_ble_eq_true rfl) (Nat.le_of_ble_eq_true rfl) hf hQ dL_mark_28
  · rw [hF] at hf
    rcases (show cd = 1 ∨ cd = 2 ∨ cd = 3 ∨ 4 ≤ cd by omega) with rfl | rfl | rfl | hcd4
    · have hf : some ((1 : Int), σ1) = some (r, σ2) := hf
      refine vx_catch (name := exN 1) X.2.2.2.1 [] ⟨0, 12, 15, 13⟩ [⟨0, 12, 19, 15⟩, ⟨0, 12, 23, 17⟩] (by rw [hT]; rfl) (fun z hz => nomatch hz) rfl (by decide) (X.2.2.2.2.1 _ mw221) (va_Nw.use rfl (nc_IndexOutOfBoundsException hN)) hce hcv hcl ?_
      refine W.eq (g2 := F0 m 15 ls [.ref q]) rfl ?_
      refine lv_astore (lv' := [(5, .ref q), (0, .ref (ad 0)), (1, .int (i32 x1)), (2, .int (i32 x2)), (3, .int (i32 x3)), (4, .ref (ad 290))]) hx hb dL_mark_15 hl (by decide) rfl (fun ls hl => ?_)
      refine m_const (v := 1) hx hb dL_mark_17 rfl ?_
      exact w_ret X hr hlocks (u := 1) (by decide) hW1 hS1 (Nat.le_of_ble_eq_true rfl) (Nat.le_of_ble_eq_true rfl) hf hQ dL_mark_18
    · have hf : some ((2 : Int), σ1) = some (r, σ2) := hf
      refine vx_catch (name := exN 2) X.2.2.2.1 [⟨0, 12, 15, 13⟩] ⟨0, 12, 19, 15⟩ [⟨0, 12, 23, 17⟩] (by rw [hT]; rfl) (fun z hz => by
        rcases List.mem_cons.mp hz with rfl | hz
        · exact Or.inr ⟨by decide, exN 1, X.2.2.2.2.1 _ mw221, Z.1⟩
        cases hz) rfl (by decide) (X.2.2.2.2.1 _ mw222) (va_Nw.use rfl (nc_IllegalArgumentException hN)) hce hcv hcl ?_
      refine W.eq (g2 := F0 m 19 ls [.ref q]) rfl ?_
      refine lv_astore (lv' := [(5, .ref q), (0, .ref (ad 0)), (1, .int (i32 x1)), (2, .int (i32 x2)), (3, .int (i32 x3)), (4, .ref (ad 290))]) hx hb dL_mark_19 hl (by decide) rfl (fun ls hl => ?_)
      refine m_const (v := 2) hx hb dL_mark_21 rfl ?_
      exact w_ret X hr hlocks (u := 2) (by decide) hW1 hS1 (Nat.le_of_ble_eq_true rfl) (Nat.le_of_ble_eq_true rfl) hf hQ dL_mark_22
    · have hf : some ((3 : Int), σ1) = some (r, σ2) := hf
      refine vx_catch (name := exN 3) X.2.2.2.1 [⟨0, 12, 15, 13⟩, ⟨0, 12, 19, 15⟩] ⟨0, 12, 23, 17⟩ [] (by rw [hT]; rfl) (fun z hz => by
        rcases List.mem_cons.mp hz with rfl | hz
        · exact Or.inr ⟨by decide, exN 1, X.2.2.2.2.1 _ mw221, Z.2.1⟩
        rcases List.mem_cons.mp hz with rfl | hz
        · exact Or.inr ⟨by decide, exN 2, X.2.2.2.2.1 _ mw222, Z.2.2⟩
        cases hz) rfl (by decide) (X.2.2.2.2.1 _ mw223) (va_Nw.use rfl (nc_IllegalStateException hN)) hce hcv hcl ?_
      refine W.eq (g2 := F0 m 23 ls [.ref q]) rfl ?_
      refine lv_astore (lv' := [(5, .ref q), (0, .ref (ad 0)), (1, .int (i32 x1)), (2, .int (i32 x2)), (3, .int (i32 x3)), (4, .ref (ad 290))]) hx hb dL_mark_23 hl (by decide) rfl (fun ls hl => ?_)
      refine m_const (v := 3) hx hb dL_mark_25 rfl ?_
      exact w_ret X hr hlocks (u := 3) (by decide) hW1 hS1 (Nat.le_of_ble_eq_true rfl) (Nat.le_of_ble_eq_true rfl) hf hQ dL_mark_26
    · obtain ⟨cd, rfl⟩ : ∃ k, cd = k + 4 := ⟨cd - 4, by omega⟩
      cases hf
set_option maxRecDepth 100000 in
set_option maxHeartbeats 4000000 in
theorem ok_L_comment {l : Launch} {D : va_G} {cy : Nat → ClassId} {ad : Nat → Nat} {nm nv sz : Nat} {σ : St} {n : Nat} {x1 : Int} {r : Int} {σ2 : St} (hx1 : inR x1) (hf : fL_comment n σ x1 = some (r, σ2)) (hst : l.stackTraces = false) : LM l yL_comment cL_comment 4 [(0, 9, 12, 13), (0, 9, 15, 17)] ({ frames := 9, cells := 2, slots := 12, locals := 199 } : Room) [.ref (ad 0), .int (i32 x1), .ref (ad 290)] D cy ad nm nv sz σ 2 12 r σ2 := by
  refine w_entry RL rfl (by decide +kernel) (Nat.le_of_ble_eq_true rfl) ?_
  intro p e s m args below meth c Q hQ hr hlocks X Y Z hT hW hS ls hl
  have hx := X.1
  have hb := X.2.1
  have hN := X.2.2.2.2.2.2.2.2
  have hl : lv_has ls 4 [(0, .ref (ad 0)), (1, .int (i32 x1)), (2, .ref (ad 290))] := hl
  unfold fL_comment at hf
  refine lv_aload_n hx hb dL_comment_0 rfl (lv_at hl 2 rfl) ?_
  refine m_const (v := 0) hx hb dL_comment_1 rfl ?_
  refine lv_aload_n hx hb dL_comment_2 rfl (lv_at hl 0 rfl) ?_
  refine lv_iload_n hx hb dL_comment_3 rfl (lv_at hl 1 rfl) ?_
  refine w_callV (As := [.int (i32 x1)]) (rest := [.int (i32 0), .ref (ad 290)]) (fun (v : Int) => inR v ∧ (false = true → isB v)) (fun (v : Int) => some (.int (i32 v))) 2 12 X Y hW hS hl.1 gc_L_37 hd_X5_comment ⟨rfl, rfl, (Nat.le_of_ble_eq_true rfl), (Nat.le_of_ble_eq_true rfl)⟩ (rc_X5 X hW) (fun cd v q9 q => ok_X5_comment hx1 q hst) (fun q => by rw [q] at hf; cases hf) rfl rfl (Nat.le_of_ble_eq_true rfl) dL_comment_4 ⟨(Nat.le_of_ble_eq_true rfl), (Nat.le_of_ble_eq_true rfl)⟩ (Nat.le_of_ble_eq_true rfl) (Nat.le_of_ble_eq_true rfl) (fun v σ1 H locs hF hv hW1 hS1 => ?_) (fun cd v σ1 H locs q cell hcd hF hW1 hS1 hce hcv hcl => ?_)
  · rw [hF] at hf
    have hf : some ((0 : Int), st σ1 290 0 v) = some (r, σ2) := hf
    refine W.eq (g2 := F0 m 7 ls [.int (i32 v), .int (i32 0), .ref (ad 290)]) rfl ?_
    refine m_i2l hx hb hv.1 dL_comment_7 ?_
    refine m_last X hW1 hS1 hv.1 dL_comment_8 (fun H locs hW2 hS2 => ?_)
    refine lv_goto (tgt := 18) hx hb dL_comment_9 (by decide) ?_
    refine m_const (v := 0) hx hb dL_comment_18 rfl ?_
    exact w_ret X hr hlocks (u := 0) (by decide) hW2 hS2 (Nat.le_of_ble_eq_true rfl) (Nat.le_of_ble_eq_true rfl) hf hQ dL_comment_19
  · rw [hF] at hf
    rcases (show cd = 1 ∨ cd = 2 ∨ cd = 3 ∨ 4 ≤ cd by omega) with rfl | rfl | rfl | hcd4
    · have hf : some ((1 : Int), σ1) = some (r, σ2) := hf
      refine vx_catch (name := exN 1) X.2.2.2.1 [] ⟨0, 9, 12, 13⟩ [⟨0, 9, 15, 17⟩] (by rw [hT]; rfl) (fun z hz => nomatch hz) rfl (by decide) (X.2.2.2.2.1 _ mw221) (va_Nw.use rfl (nc_IndexOutOfBoundsException hN)) hce hcv hcl ?_
      refine W.eq (g2 := F0 m 12 ls [.ref q]) rfl ?_
      refine lv_astore_n (lv' := [(3, .ref q), (0, .ref (ad 0)), (1, .int (i32 x1)), (2, .ref (ad 290))]) hx hb dL_comment_12 rfl hl (by decide) rfl (fun ls hl => ?_)
      refine m_const (v := 1) hx hb dL_comment_13 rfl ?_
      exact w_ret X hr hlocks (u := 1) (by decide) hW1 hS1 (Nat.le_of_ble_eq_true rfl) (Nat.le_of_ble_eq_true rfl) hf hQ dL_comment_14
    · cases hf
    · have hf : some ((2 : Int), σ1) = some (r, σ2) := hf
      refine vx_catch (name := exN 3) X.2.2.2.1 [⟨0, 9, 12, 13⟩] ⟨0, 9, 15, 17⟩ [] (by rw [hT]; rfl) (fun z hz => by
        rcases List.mem_cons.mp hz with rfl | hz
        · exact Or.inr ⟨by decide, exN 1, X.2.2.2.2.1 _ mw221, Z.2.1⟩
        cases hz) rfl (by decide) (X.2.2.2.2.1 _ mw223) (va_Nw.use rfl (nc_IllegalStateException hN)) hce hcv hcl ?_
      refine W.eq (g2 := F0 m 15 ls [.ref q]) rfl ?_
      refine lv_astore_n (lv' := [(3, .ref q), (0, .ref (ad 0)), (1, .int (i32 x1)), (2, .ref (ad 290))]) hx hb dL_comment_15 rfl hl (by decide) rfl (fun ls hl => ?_)
      refine m_const (v := 2) hx hb dL_comment_16 rfl ?_
      exact w_ret X hr hlocks (u := 2) (by decide) hW1 hS1 (Nat.le_of_ble_eq_true rfl) (Nat.le_of_ble_eq_true rfl) hf hQ dL_comment_17
    · obtain ⟨cd, rfl⟩ : ∃ k, cd = k + 4 := ⟨cd - 4, by omega⟩
      cases hf
set_option maxRecDepth 100000 in
set_option maxHeartbeats 4000000 in
theorem ok_L_setKind {l : Launch} {D : va_G} {cy : Nat → ClassId} {ad : Nat → Nat} {nm nv sz : Nat} {σ : St} {n : Nat} {x1 : Int} {x2 : Int} {x3 : Int} {r : Int} {σ2 : St} (hx1 : inR x1) (hx2 : inR x2) (hx3 : inR x3) (hf : fL_setKind n σ x1 x2 x3 = some (r, σ2)) (hst : l.stackTraces = false) : LM l yL_setKind cL_setKind 6 [(0, 12, 15, 13), (0, 12, 19, 15), (0, 12, 23, 17)] ({ frames := 9, cells := 3, slots := 18, locals := 189 } : Room) [.ref (ad 0), .int (i32 x1), .int (i32 x2), .int (i32 x3), .ref (ad 290)] D cy ad nm nv sz σ 3 18 r σ2 := by
  refine w_entry RL rfl (by decide +kernel) (Nat.le_of_ble_eq_true rfl) ?_
  intro p e s m args below meth c Q hQ hr hlocks X Y Z hT hW hS ls hl
  have hx := X.1
  have hb := X.2.1
  have hN := X.2.2.2.2.2.2.2.2
  have hl : lv_has ls 6 [(0, .ref (ad 0)), (1, .int (i32 x1)), (2, .int (i32 x2)), (3, .int (i32 x3)), (4, .ref (ad 290))] := hl
  unfold fL_setKind at hf
  refine lv_aload hx hb dL_setKind_0 (lv_at hl 4 rfl) ?_
  refine m_const (v := 0) hx hb dL_setKind_2 rfl ?_
  refine lv_aload_n hx hb dL_setKind_3 rfl (lv_at hl 0 rfl) ?_
  refine lv_iload_n hx hb dL_setKind_4 rfl (lv_at hl 1 rfl) ?_
  refine lv_iload_n hx hb dL_setKind_5 rfl (lv_at hl 2 rfl) ?_
  refine lv_iload_n hx hb dL_setKind_6 rfl (lv_at hl 3 rfl) ?_
  refine w_callV (As := [.int (i32 x1), .int (i32 x2), .int (i32 x3)]) (rest := [.int (i32 0), .ref (ad 290)]) (fun (v : Int) => inR v ∧ (false = true → isB v)) (fun (v : Int) => some (.int (i32 v))) 3 18 X Y hW hS hl.1 gc_L_40 hd_X5_setKind ⟨rfl, rfl, (Nat.le_of_ble_eq_true rfl), (Nat.le_of_ble_eq_true rfl)⟩ (rc_X5 X hW) (fun cd v q9 q => ok_X5_setKind hx1 hx2 hx3 q hst) (fun q => by rw [q] at hf; cases hf) rfl rfl (Nat.le_of_ble_eq_true rfl) dL_setKind_7 ⟨(Nat.le_of_ble_eq_true rfl), (Nat.le_of_ble_eq_true rfl)⟩ (Nat.le_of_ble_eq_true rfl) (Nat.le_of_ble_eq_true rfl) (fun v σ1 H locs hF hv hW1 hS1 => ?_) (fun cd v σ1 H locs q cell hcd hF hW1 hS1 hce hcv hcl => ?_)
  · rw [hF] at hf
    have hf : some ((0 : Int), st σ1 290 0 v) = some (r, σ2) := hf
    refine W.eq (g2 := F0 m 10 ls [.int (i32 v), .int (i32 0), .ref (ad 290)]) rfl ?_
    refine m_i2l hx hb hv.1 dL_setKind_10 ?_
    refine m_last X hW1 hS1 hv.1 dL_setKind_11 (fun H locs hW2 hS2 => ?_)
    refine lv_goto (tgt := 27) hx hb dL_setKind_12 (by decide) ?_
    refine m_const (v := 0) hx hb dL_setKind_27 rfl ?_
    exact w_ret X hr hlocks (u := 0) (by decide) hW2 hS2 (Nat.le_of_ble_eq_true rfl) (Nat.le_of_ble_eq_true rfl) hf hQ dL_setKind_28
  · rw [hF] at hf
    rcases (show cd = 1 ∨ cd = 2 ∨ cd = 3 ∨ 4 ≤ cd by omega) with rfl | rfl | rfl | hcd4
    · have hf : some ((1 : Int), σ1) = some (r, σ2) := hf
      refine vx_catch (name := exN 1) X.2.2.2.1 [] ⟨0, 12, 15, 13⟩ [⟨0, 12, 19, 15⟩, ⟨0, 12, 23, 17⟩] (by rw [hT]; rfl) (fun z hz => nomatch hz) rfl (by decide) (X.2.2.2.2.1 _ mw221) (va_Nw.use rfl (nc_IndexOutOfBoundsException hN)) hce hcv hcl ?_
      refine W.eq (g2 := F0 m 15 ls [.ref q]) rfl ?_
      refine lv_astore (lv' := [(5, .ref q), (0, .ref (ad 0)), (1, .int (i32 x1)), (2, .int (i32 x2)), (3, .int (i32 x3)), (4, .ref (ad 290))]) hx hb dL_setKind_15 hl (by decide) rfl (fun ls hl => ?_)
      refine m_const (v := 1) hx hb dL_setKind_17 rfl ?_
      exact w_ret X hr hlocks (u := 1) (by decide) hW1 hS1 (Nat.le_of_ble_eq_true rfl) (Nat.le_of_ble_eq_true rfl) hf hQ dL_setKind_18
    · have hf : some ((2 : Int), σ1) = some (r, σ2) := hf
      refine vx_catch (name := exN 2) X.2.2.2.1 [⟨0, 12, 15, 13⟩] ⟨0, 12, 19, 15⟩ [⟨0, 12, 23, 17⟩] (by rw [hT]; rfl) (fun z hz => by
        rcases List.mem_cons.mp hz with rfl | hz
        · exact Or.inr ⟨by decide, exN 1, X.2.2.2.2.1 _ mw221, Z.1⟩
        cases hz) rfl (by decide) (X.2.2.2.2.1 _ mw222) (va_Nw.use rfl (nc_IllegalArgumentException hN)) hce hcv hcl ?_
      refine W.eq (g2 := F0 m 19 ls [.ref q]) rfl ?_
      refine lv_astore (lv' := [(5, .ref q), (0, .ref (ad 0)), (1, .int (i32 x1)), (2, .int (i32 x2)), (3, .int (i32 x3)), (4, .ref (ad 290))]) hx hb dL_setKind_19 hl (by decide) rfl (fun ls hl => ?_)
      refine m_const (v := 2) hx hb dL_setKind_21 rfl ?_
      exact w_ret X hr hlocks (u := 2) (by decide) hW1 hS1 (Nat.le_of_ble_eq_true rfl) (Nat.le_of_ble_eq_true rfl) hf hQ dL_setKind_22
    · have hf : some ((3 : Int), σ1) = some (r, σ2) := hf
      refine vx_catch (name := exN 3) X.2.2.2.1 [⟨0, 12, 15, 13⟩, ⟨0, 12, 19, 15⟩] ⟨0, 12, 23, 17⟩ [] (by rw [hT]; rfl) (fun z hz => by
        rcases List.mem_cons.mp hz with rfl | hz
        · exact Or.inr ⟨by decide, exN 1, X.2.2.2.2.1 _ mw221, Z.2.1⟩
        rcases List.mem_cons.mp hz with rfl | hz
        · exact Or.inr ⟨by decide, exN 2, X.2.2.2.2.1 _ mw222, Z.2.2⟩
        cases hz) rfl (by decide) (X.2.2.2.2.1 _ mw223) (va_Nw.use rfl (nc_IllegalStateException hN)) hce hcv hcl ?_
      refine W.eq (g2 := F0 m 23 ls [.ref q]) rfl ?_
      refine lv_astore (lv' := [(5, .ref q), (0, .ref (ad 0)), (1, .int (i32 x1)), (2, .int (i32 x2)), (3, .int (i32 x3)), (4, .ref (ad 290))]) hx hb dL_setKind_23 hl (by decide) rfl (fun ls hl => ?_)
      refine m_const (v := 3) hx hb dL_setKind_25 rfl ?_
      exact w_ret X hr hlocks (u := 3) (by decide) hW1 hS1 (Nat.le_of_ble_eq_true rfl) (Nat.le_of_ble_eq_true rfl) hf hQ dL_setKind_26
    · obtain ⟨cd, rfl⟩ : ∃ k, cd = k + 4 := ⟨cd - 4, by omega⟩
      cases hf
set_option maxRecDepth 100000 in
set_option maxHeartbeats 4000000 in
theorem ok_L_nest {l : Launch} {D : va_G} {cy : Nat → ClassId} {ad : Nat → Nat} {nm nv sz : Nat} {σ : St} {n : Nat} {x1 : Int} {x2 : Int} {x3 : Int} {r : Int} {σ2 : St} (hx1 : inR x1) (hx2 : inR x2) (hx3 : inR x3) (hf : fL_nest n σ x1 x2 x3 = some (r, σ2)) (hst : l.stackTraces = false) : LM l yL_nest cL_nest 6 [(0, 12, 15, 13), (0, 12, 19, 17)] ({ frames := 9, cells := 4, slots := 24, locals := 190 } : Room) [.ref (ad 0), .int (i32 x1), .int (i32 x2), .int (i32 x3), .ref (ad 290)] D cy ad nm nv sz σ 4 24 r σ2 := by
  refine w_entry RL rfl (by decide +kernel) (Nat.le_of_ble_eq_true rfl) ?_
  intro p e s m args below meth c Q hQ hr hlocks X Y Z hT hW hS ls hl
  have hx := X.1
  have hb := X.2.1
  have hN := X.2.2.2.2.2.2.2.2
  have hl : lv_has ls 6 [(0, .ref (ad 0)), (1, .int (i32 x1)), (2, .int (i32 x2)), (3, .int (i32 x3)), (4, .ref (ad 290))] := hl
  unfold fL_nest at hf
  refine lv_aload hx hb dL_nest_0 (lv_at hl 4 rfl) ?_
  refine m_const (v := 0) hx hb dL_nest_2 rfl ?_
  refine lv_aload_n hx hb dL_nest_3 rfl (lv_at hl 0 rfl) ?_
  refine lv_iload_n hx hb dL_nest_4 rfl (lv_at hl 1 rfl) ?_
  refine lv_iload_n hx hb dL_nest_5 rfl (lv_at hl 2 rfl) ?_
  refine lv_iload_n hx hb dL_nest_6 rfl (lv_at hl 3 rfl) ?_
  refine w_callV (As := [.int (i32 x1), .int (i32 x2), .int (i32 x3)]) (rest := [.int (i32 0), .ref (ad 290)]) (fun (v : Int) => inR v ∧ (false = true → isB v)) (fun (v : Int) => some (.int (i32 v))) 4 24 X Y hW hS hl.1 gc_L_44 hd_X5_nest ⟨rfl, rfl, (Nat.le_of_ble_eq_true rfl), (Nat.le_of_ble_eq_true rfl)⟩ (rc_X5 X hW) (fun cd v q9 q => ok_X5_nest hx1 hx2 hx3 q hst) (fun q => by rw [q] at hf; cases hf) rfl rfl (Nat.le_of_ble_eq_true rfl) dL_nest_7 ⟨(Nat.le_of_ble_eq_true rfl), (Nat.le_of_ble_eq_true rfl)⟩ (Nat.le_of_ble_eq_true rfl) (Nat.le_of_ble_eq_true rfl) (fun v σ1 H locs hF hv hW1 hS1 => ?_) (fun cd v σ1 H locs q cell hcd hF hW1 hS1 hce hcv hcl => ?_)
  · rw [hF] at hf
    have hf : some ((0 : Int), st σ1 290 0 v) = some (r, σ2) := hf
    refine W.eq (g2 := F0 m 10 ls [.int (i32 v), .int (i32 0), .ref (ad 290)]) rfl ?_
    refine m_i2l hx hb hv.1 dL_nest_10 ?_
    refine m_last X hW1 hS1 hv.1 dL_nest_11 (fun H locs hW2 hS2 => ?_)
    refine lv_goto (tgt := 23) hx hb dL_nest_12 (by decide) ?_
    refine m_const (v := 0) hx hb dL_nest_23 rfl ?_
    exact w_ret X hr hlocks (u := 0) (by decide) hW2 hS2 (Nat.le_of_ble_eq_true rfl) (Nat.le_of_ble_eq_true rfl) hf hQ dL_nest_24
  · rw [hF] at hf
    rcases (show cd = 1 ∨ cd = 2 ∨ cd = 3 ∨ 4 ≤ cd by omega) with rfl | rfl | rfl | hcd4
    · have hf : some ((1 : Int), σ1) = some (r, σ2) := hf
      refine vx_catch (name := exN 1) X.2.2.2.1 [] ⟨0, 12, 15, 13⟩ [⟨0, 12, 19, 17⟩] (by rw [hT]; rfl) (fun z hz => nomatch hz) rfl (by decide) (X.2.2.2.2.1 _ mw221) (va_Nw.use rfl (nc_IndexOutOfBoundsException hN)) hce hcv hcl ?_
      refine W.eq (g2 := F0 m 15 ls [.ref q]) rfl ?_
      refine lv_astore (lv' := [(5, .ref q), (0, .ref (ad 0)), (1, .int (i32 x1)), (2, .int (i32 x2)), (3, .int (i32 x3)), (4, .ref (ad 290))]) hx hb dL_nest_15 hl (by decide) rfl (fun ls hl => ?_)
      refine m_const (v := 1) hx hb dL_nest_17 rfl ?_
      exact w_ret X hr hlocks (u := 1) (by decide) hW1 hS1 (Nat.le_of_ble_eq_true rfl) (Nat.le_of_ble_eq_true rfl) hf hQ dL_nest_18
    · cases hf
    · have hf : some ((2 : Int), σ1) = some (r, σ2) := hf
      refine vx_catch (name := exN 3) X.2.2.2.1 [⟨0, 12, 15, 13⟩] ⟨0, 12, 19, 17⟩ [] (by rw [hT]; rfl) (fun z hz => by
        rcases List.mem_cons.mp hz with rfl | hz
        · exact Or.inr ⟨by decide, exN 1, X.2.2.2.2.1 _ mw221, Z.2.1⟩
        cases hz) rfl (by decide) (X.2.2.2.2.1 _ mw223) (va_Nw.use rfl (nc_IllegalStateException hN)) hce hcv hcl ?_
      refine W.eq (g2 := F0 m 19 ls [.ref q]) rfl ?_
      refine lv_astore (lv' := [(5, .ref q), (0, .ref (ad 0)), (1, .int (i32 x1)), (2, .int (i32 x2)), (3, .int (i32 x3)), (4, .ref (ad 290))]) hx hb dL_nest_19 hl (by decide) rfl (fun ls hl => ?_)
      refine m_const (v := 2) hx hb dL_nest_21 rfl ?_
      exact w_ret X hr hlocks (u := 2) (by decide) hW1 hS1 (Nat.le_of_ble_eq_true rfl) (Nat.le_of_ble_eq_true rfl) hf hQ dL_nest_22
    · obtain ⟨cd, rfl⟩ : ∃ k, cd = k + 4 := ⟨cd - 4, by omega⟩
      cases hf
set_option maxRecDepth 100000 in
set_option maxHeartbeats 4000000 in
theorem ok_L_propose {l : Launch} {D : va_G} {cy : Nat → ClassId} {ad : Nat → Nat} {nm nv sz : Nat} {σ : St} {x1 : Int} {x2 : Int} {r : Int} {σ2 : St} (hx1 : inR x1) (hx2 : inR x2) (hf : fL_propose σ x1 x2 = some (r, σ2)) (hst : l.stackTraces = false) : LM l yL_propose cL_propose 5 [(0, 17, 20, 13)] ({ frames := 8, cells := 1, slots := 6, locals := 135 } : Room) [.ref (ad 0), .int (i32 x1), .int (i32 x2), .ref (ad 290)] D cy ad nm nv sz σ 1 6 r σ2 := by
  refine w_entry RL rfl (by decide +kernel) (Nat.le_of_ble_eq_true rfl) ?_
  intro p e s m args below meth c Q hQ hr hlocks X Y Z hT hW hS ls hl
  have hx := X.1
  have hb := X.2.1
  have hN := X.2.2.2.2.2.2.2.2
  have hl : lv_has ls 5 [(0, .ref (ad 0)), (1, .int (i32 x1)), (2, .int (i32 x2)), (3, .ref (ad 290))] := hl
  unfold fL_propose at hf
  refine lv_aload_n hx hb dL_propose_0 rfl (lv_at hl 3 rfl) ?_
  refine m_const (v := 0) hx hb dL_propose_1 rfl ?_
  refine lv_aload_n hx hb dL_propose_2 rfl (lv_at hl 0 rfl) ?_
  refine lv_iload_n hx hb dL_propose_3 rfl (lv_at hl 1 rfl) ?_
  refine lv_iload_n hx hb dL_propose_4 rfl (lv_at hl 2 rfl) ?_
  refine w_callV (As := [.int (i32 x1), .int (i32 x2)]) (rest := [.int (i32 0), .ref (ad 290)]) (fun (v : Int) => inR v ∧ (true = true → isB v)) (fun (v : Int) => some (.int (i32 v))) 1 6 X Y hW hS hl.1 gc_L_47 hd_X5_propose ⟨rfl, rfl, (Nat.le_of_ble_eq_true rfl), (Nat.le_of_ble_eq_true rfl)⟩ (rc_X5 X hW) (fun cd v q9 q => ok_X5_propose hx1 hx2 q hst) (fun q => by rw [q] at hf; cases hf) rfl rfl (Nat.le_of_ble_eq_true rfl) dL_propose_5 ⟨(Nat.le_of_ble_eq_true rfl), (Nat.le_of_ble_eq_true rfl)⟩ (Nat.le_of_ble_eq_true rfl) (Nat.le_of_ble_eq_true rfl) (fun v σ1 H locs hF hv hW1 hS1 => ?_) (fun cd v σ1 H locs q cell hcd hF hW1 hS1 hce hcv hcl => ?_)
  · rw [hF] at hf
    refine W.eq (g2 := F0 m 8 ls [.int (i32 v), .int (i32 0), .ref (ad 290)]) rfl ?_
    rcases hv.2 rfl with rfl | rfl
    · have hf : some ((0 : Int), st σ1 290 0 0) = some (r, σ2) := hf
      refine lv_if_eq (tgt := 15) hx hb dL_propose_8 (by decide) (fun _ => ?_) (fun q => absurd rfl q)
      refine m_lconst (v := 0) hx hb rfl dL_propose_15 ?_
      refine m_last X hW1 hS1 (by decide) dL_propose_16 (fun H locs hW2 hS2 => ?_)
      refine lv_goto (tgt := 24) hx hb dL_propose_17 (by decide) ?_
      refine m_const (v := 0) hx hb dL_propose_24 rfl ?_
      exact w_ret X hr hlocks (u := 0) (by decide) hW2 hS2 (Nat.le_of_ble_eq_true rfl) (Nat.le_of_ble_eq_true rfl) hf hQ dL_propose_25
    · have hf : some ((0 : Int), st σ1 290 0 1) = some (r, σ2) := hf
      refine lv_if_eq (tgt := 15) hx hb dL_propose_8 (by decide) (fun q => absurd q (by decide)) (fun _ => ?_)
      refine m_lconst (v := 1) hx hb rfl dL_propose_11 ?_
      refine lv_goto (tgt := 16) hx hb dL_propose_12 (by decide) ?_
      refine m_last X hW1 hS1 (by decide) dL_propose_16 (fun H locs hW2 hS2 => ?_)
      refine lv_goto (tgt := 24) hx hb dL_propose_17 (by decide) ?_
      refine m_const (v := 0) hx hb dL_propose_24 rfl ?_
      exact w_ret X hr hlocks (u := 0) (by decide) hW2 hS2 (Nat.le_of_ble_eq_true rfl) (Nat.le_of_ble_eq_true rfl) hf hQ dL_propose_25
  · rw [hF] at hf
    rcases (show cd = 1 ∨ cd = 2 ∨ cd = 3 ∨ 4 ≤ cd by omega) with rfl | rfl | rfl | hcd4
    · have hf : some ((1 : Int), σ1) = some (r, σ2) := hf
      refine vx_catch (name := exN 1) X.2.2.2.1 [] ⟨0, 17, 20, 13⟩ [] (by rw [hT]; rfl) (fun z hz => nomatch hz) rfl (by decide) (X.2.2.2.2.1 _ mw221) (va_Nw.use rfl (nc_IndexOutOfBoundsException hN)) hce hcv hcl ?_
      refine W.eq (g2 := F0 m 20 ls [.ref q]) rfl ?_
      refine lv_astore (lv' := [(4, .ref q), (0, .ref (ad 0)), (1, .int (i32 x1)), (2, .int (i32 x2)), (3, .ref (ad 290))]) hx hb dL_propose_20 hl (by decide) rfl (fun ls hl => ?_)
      refine m_const (v := 1) hx hb dL_propose_22 rfl ?_
      exact w_ret X hr hlocks (u := 1) (by decide) hW1 hS1 (Nat.le_of_ble_eq_true rfl) (Nat.le_of_ble_eq_true rfl) hf hQ dL_propose_23
    · cases hf
    · cases hf
    · obtain ⟨cd, rfl⟩ : ∃ k, cd = k + 4 := ⟨cd - 4, by omega⟩
      cases hf
set_option maxRecDepth 100000 in
set_option maxHeartbeats 4000000 in
theorem ok_L_decide {l : Launch} {D : va_G} {cy : Nat → ClassId} {ad : Nat → Nat} {nm nv sz : Nat} {σ : St} {n : Nat} {x1 : Int} {x2 : Int} {x3 : Int} {r : Int} {σ2 : St} (hx1 : inR x1) (hx2 : inR x2) (hx3 : inR x3) (hf : fL_decide n σ x1 x2 x3 = some (r, σ2)) (hst : l.stackTraces = false) : LM l yL_decide cL_decide 6 [(0, 12, 15, 13), (0, 12, 19, 17)] ({ frames := 8, cells := 3, slots := 18, locals := 187 } : Room) [.ref (ad 0), .int (i32 x1), .int (i32 x2), .int (i32 x3), .ref (ad 290)] D cy ad nm nv sz σ 3 18 r σ2 := by
  refine w_entry RL rfl (by decide +kernel) (Nat.le_of_ble_eq_true rfl) ?_
  intro p e s m args below meth c Q hQ hr hlocks X Y Z hT hW hS ls hl
  have hx := X.1
  have hb := X.2.1
  have hN := X.2.2.2.2.2.2.2.2
  have hl : lv_has ls 6 [(0, .ref (ad 0)), (1, .int (i32 x1)), (2, .int (i32 x2)), (3, .int (i32 x3)), (4, .ref (ad 290))] := hl
  unfold fL_decide at hf
  refine lv_aload hx hb dL_decide_0 (lv_at hl 4 rfl) ?_
  refine m_const (v := 0) hx hb dL_decide_2 rfl ?_
  refine lv_aload_n hx hb dL_decide_3 rfl (lv_at hl 0 rfl) ?_
  refine lv_iload_n hx hb dL_decide_4 rfl (lv_at hl 1 rfl) ?_
  refine lv_iload_n hx hb dL_decide_5 rfl (lv_at hl 2 rfl) ?_
  refine lv_iload_n hx hb dL_decide_6 rfl (lv_at hl 3 rfl) ?_
  refine w_callV (As := [.int (i32 x1), .int (i32 x2), .int (i32 x3)]) (rest := [.int (i32 0), .ref (ad 290)]) (fun (v : Int) => inR v ∧ (false = true → isB v)) (fun (v : Int) => some (.int (i32 v))) 3 18 X Y hW hS hl.1 gc_L_51 hd_X5_decide ⟨rfl, rfl, (Nat.le_of_ble_eq_true rfl), (Nat.le_of_ble_eq_true rfl)⟩ (rc_X5 X hW) (fun cd v q9 q => ok_X5_decide hx1 hx2 hx3 q hst) (fun q => by rw [q] at hf; cases hf) rfl rfl (Nat.le_of_ble_eq_true rfl) dL_decide_7 ⟨(Nat.le_of_ble_eq_true rfl), (Nat.le_of_ble_eq_true rfl)⟩ (Nat.le_of_ble_eq_true rfl) (Nat.le_of_ble_eq_true rfl) (fun v σ1 H locs hF hv hW1 hS1 => ?_) (fun cd v σ1 H locs q cell hcd hF hW1 hS1 hce hcv hcl => ?_)
  · rw [hF] at hf
    have hf : some ((0 : Int), st σ1 290 0 v) = some (r, σ2) := hf
    refine W.eq (g2 := F0 m 10 ls [.int (i32 v), .int (i32 0), .ref (ad 290)]) rfl ?_
    refine m_i2l hx hb hv.1 dL_decide_10 ?_
    refine m_last X hW1 hS1 hv.1 dL_decide_11 (fun H locs hW2 hS2 => ?_)
    refine lv_goto (tgt := 23) hx hb dL_decide_12 (by decide) ?_
    refine m_const (v := 0) hx hb dL_decide_23 rfl ?_
    exact w_ret X hr hlocks (u := 0) (by decide) hW2 hS2 (Nat.le_of_ble_eq_true rfl) (Nat.le_of_ble_eq_true rfl) hf hQ dL_decide_24
  · rw [hF] at hf
    rcases (show cd = 1 ∨ cd = 2 ∨ cd = 3 ∨ 4 ≤ cd by omega) with rfl | rfl | rfl | hcd4
    · have hf : some ((1 : Int), σ1) = some (r, σ2) := hf
      refine vx_catch (name := exN 1) X.2.2.2.1 [] ⟨0, 12, 15, 13⟩ [⟨0, 12, 19, 17⟩] (by rw [hT]; rfl) (fun z hz => nomatch hz) rfl (by decide) (X.2.2.2.2.1 _ mw221) (va_Nw.use rfl (nc_IndexOutOfBoundsException hN)) hce hcv hcl ?_
      refine W.eq (g2 := F0 m 15 ls [.ref q]) rfl ?_
      refine lv_astore (lv' := [(5, .ref q), (0, .ref (ad 0)), (1, .int (i32 x1)), (2, .int (i32 x2)), (3, .int (i32 x3)), (4, .ref (ad 290))]) hx hb dL_decide_15 hl (by decide) rfl (fun ls hl => ?_)
      refine m_const (v := 1) hx hb dL_decide_17 rfl ?_
      exact w_ret X hr hlocks (u := 1) (by decide) hW1 hS1 (Nat.le_of_ble_eq_true rfl) (Nat.le_of_ble_eq_true rfl) hf hQ dL_decide_18
    · cases hf
    · have hf : some ((2 : Int), σ1) = some (r, σ2) := hf
      refine vx_catch (name := exN 3) X.2.2.2.1 [⟨0, 12, 15, 13⟩] ⟨0, 12, 19, 17⟩ [] (by rw [hT]; rfl) (fun z hz => by
        rcases List.mem_cons.mp hz with rfl | hz
        · exact Or.inr ⟨by decide, exN 1, X.2.2.2.2.1 _ mw221, Z.2.1⟩
        cases hz) rfl (by decide) (X.2.2.2.2.1 _ mw223) (va_Nw.use rfl (nc_IllegalStateException hN)) hce hcv hcl ?_
      refine W.eq (g2 := F0 m 19 ls [.ref q]) rfl ?_
      refine lv_astore (lv' := [(5, .ref q), (0, .ref (ad 0)), (1, .int (i32 x1)), (2, .int (i32 x2)), (3, .int (i32 x3)), (4, .ref (ad 290))]) hx hb dL_decide_19 hl (by decide) rfl (fun ls hl => ?_)
      refine m_const (v := 2) hx hb dL_decide_21 rfl ?_
      exact w_ret X hr hlocks (u := 2) (by decide) hW1 hS1 (Nat.le_of_ble_eq_true rfl) (Nat.le_of_ble_eq_true rfl) hf hQ dL_decide_22
    · obtain ⟨cd, rfl⟩ : ∃ k, cd = k + 4 := ⟨cd - 4, by omega⟩
      cases hf
set_option maxRecDepth 100000 in
set_option maxHeartbeats 4000000 in
theorem ok_L_allow {l : Launch} {D : va_G} {cy : Nat → ClassId} {ad : Nat → Nat} {nm nv sz : Nat} {σ : St} {n : Nat} {x1 : Int} {x2 : Int} {x3 : Int} {r : Int} {σ2 : St} (hx1 : inR x1) (hx2 : inR x2) (hx3 : inR x3) (hf : fL_allow n σ x1 x2 x3 = some (r, σ2)) (hst : l.stackTraces = false) : LM l yL_allow cL_allow 6 [(0, 12, 15, 13), (0, 12, 19, 15), (0, 12, 23, 17)] ({ frames := 8, cells := 3, slots := 18, locals := 188 } : Room) [.ref (ad 0), .int (i32 x1), .int (i32 x2), .int (i32 x3), .ref (ad 290)] D cy ad nm nv sz σ 3 18 r σ2 := by
  refine w_entry RL rfl (by decide +kernel) (Nat.le_of_ble_eq_true rfl) ?_
  intro p e s m args below meth c Q hQ hr hlocks X Y Z hT hW hS ls hl
  have hx := X.1
  have hb := X.2.1
  have hN := X.2.2.2.2.2.2.2.2
  have hl : lv_has ls 6 [(0, .ref (ad 0)), (1, .int (i32 x1)), (2, .int (i32 x2)), (3, .int (i32 x3)), (4, .ref (ad 290))] := hl
  unfold fL_allow at hf
  refine lv_aload hx hb dL_allow_0 (lv_at hl 4 rfl) ?_
  refine m_const (v := 0) hx hb dL_allow_2 rfl ?_
  refine lv_aload_n hx hb dL_allow_3 rfl (lv_at hl 0 rfl) ?_
  refine lv_iload_n hx hb dL_allow_4 rfl (lv_at hl 1 rfl) ?_
  refine lv_iload_n hx hb dL_allow_5 rfl (lv_at hl 2 rfl) ?_
  refine lv_iload_n hx hb dL_allow_6 rfl (lv_at hl 3 rfl) ?_
  refine w_callV (As := [.int (i32 x1), .int (i32 x2), .int (i32 x3)]) (rest := [.int (i32 0), .ref (ad 290)]) (fun (v : Int) => inR v ∧ (false = true → isB v)) (fun (v : Int) => some (.int (i32 v))) 3 18 X Y hW hS hl.1 gc_L_54 hd_X5_allow ⟨rfl, rfl, (Nat.le_of_ble_eq_true rfl), (Nat.le_of_ble_eq_true rfl)⟩ (rc_X5 X hW) (fun cd v q9 q => ok_X5_allow hx1 hx2 hx3 q hst) (fun q => by rw [q] at hf; cases hf) rfl rfl (Nat.le_of_ble_eq_true rfl) dL_allow_7 ⟨(Nat.le_of_ble_eq_true rfl), (Nat.le_of_ble_eq_true rfl)⟩ (Nat.le_of_ble_eq_true rfl) (Nat.le_of_ble_eq_true rfl) (fun v σ1 H locs hF hv hW1 hS1 => ?_) (fun cd v σ1 H locs q cell hcd hF hW1 hS1 hce hcv hcl => ?_)
  · rw [hF] at hf
    have hf : some ((0 : Int), st σ1 290 0 v) = some (r, σ2) := hf
    refine W.eq (g2 := F0 m 10 ls [.int (i32 v), .int (i32 0), .ref (ad 290)]) rfl ?_
    refine m_i2l hx hb hv.1 dL_allow_10 ?_
    refine m_last X hW1 hS1 hv.1 dL_allow_11 (fun H locs hW2 hS2 => ?_)
    refine lv_goto (tgt := 27) hx hb dL_allow_12 (by decide) ?_
    refine m_const (v := 0) hx hb dL_allow_27 rfl ?_
    exact w_ret X hr hlocks (u := 0) (by decide) hW2 hS2 (Nat.le_of_ble_eq_true rfl) (Nat.le_of_ble_eq_true rfl) hf hQ dL_allow_28
  · rw [hF] at hf
    rcases (show cd = 1 ∨ cd = 2 ∨ cd = 3 ∨ 4 ≤ cd by omega) with rfl | rfl | rfl | hcd4
    · have hf : some ((1 : Int), σ1) = some (r, σ2) := hf
      refine vx_catch (name := exN 1) X.2.2.2.1 [] ⟨0, 12, 15, 13⟩ [⟨0, 12, 19, 15⟩, ⟨0, 12, 23, 17⟩] (by rw [hT]; rfl) (fun z hz => nomatch hz) rfl (by decide) (X.2.2.2.2.1 _ mw221) (va_Nw.use rfl (nc_IndexOutOfBoundsException hN)) hce hcv hcl ?_
      refine W.eq (g2 := F0 m 15 ls [.ref q]) rfl ?_
      refine lv_astore (lv' := [(5, .ref q), (0, .ref (ad 0)), (1, .int (i32 x1)), (2, .int (i32 x2)), (3, .int (i32 x3)), (4, .ref (ad 290))]) hx hb dL_allow_15 hl (by decide) rfl (fun ls hl => ?_)
      refine m_const (v := 1) hx hb dL_allow_17 rfl ?_
      exact w_ret X hr hlocks (u := 1) (by decide) hW1 hS1 (Nat.le_of_ble_eq_true rfl) (Nat.le_of_ble_eq_true rfl) hf hQ dL_allow_18
    · have hf : some ((2 : Int), σ1) = some (r, σ2) := hf
      refine vx_catch (name := exN 2) X.2.2.2.1 [⟨0, 12, 15, 13⟩] ⟨0, 12, 19, 15⟩ [⟨0, 12, 23, 17⟩] (by rw [hT]; rfl) (fun z hz => by
        rcases List.mem_cons.mp hz with rfl | hz
        · exact Or.inr ⟨by decide, exN 1, X.2.2.2.2.1 _ mw221, Z.1⟩
        cases hz) rfl (by decide) (X.2.2.2.2.1 _ mw222) (va_Nw.use rfl (nc_IllegalArgumentException hN)) hce hcv hcl ?_
      refine W.eq (g2 := F0 m 19 ls [.ref q]) rfl ?_
      refine lv_astore (lv' := [(5, .ref q), (0, .ref (ad 0)), (1, .int (i32 x1)), (2, .int (i32 x2)), (3, .int (i32 x3)), (4, .ref (ad 290))]) hx hb dL_allow_19 hl (by decide) rfl (fun ls hl => ?_)
      refine m_const (v := 2) hx hb dL_allow_21 rfl ?_
      exact w_ret X hr hlocks (u := 2) (by decide) hW1 hS1 (Nat.le_of_ble_eq_true rfl) (Nat.le_of_ble_eq_true rfl) hf hQ dL_allow_22
    · have hf : some ((3 : Int), σ1) = some (r, σ2) := hf
      refine vx_catch (name := exN 3) X.2.2.2.1 [⟨0, 12, 15, 13⟩, ⟨0, 12, 19, 15⟩] ⟨0, 12, 23, 17⟩ [] (by rw [hT]; rfl) (fun z hz => by
        rcases List.mem_cons.mp hz with rfl | hz
        · exact Or.inr ⟨by decide, exN 1, X.2.2.2.2.1 _ mw221, Z.2.1⟩
        rcases List.mem_cons.mp hz with rfl | hz
        · exact Or.inr ⟨by decide, exN 2, X.2.2.2.2.1 _ mw222, Z.2.2⟩
        cases hz) rfl (by decide) (X.2.2.2.2.1 _ mw223) (va_Nw.use rfl (nc_IllegalStateException hN)) hce hcv hcl ?_
      refine W.eq (g2 := F0 m 23 ls [.ref q]) rfl ?_
      refine lv_astore (lv' := [(5, .ref q), (0, .ref (ad 0)), (1, .int (i32 x1)), (2, .int (i32 x2)), (3, .int (i32 x3)), (4, .ref (ad 290))]) hx hb dL_allow_23 hl (by decide) rfl (fun ls hl => ?_)
      refine m_const (v := 3) hx hb dL_allow_25 rfl ?_
      exact w_ret X hr hlocks (u := 3) (by decide) hW1 hS1 (Nat.le_of_ble_eq_true rfl) (Nat.le_of_ble_eq_true rfl) hf hQ dL_allow_26
    · obtain ⟨cd, rfl⟩ : ∃ k, cd = k + 4 := ⟨cd - 4, by omega⟩
      cases hf
set_option maxRecDepth 100000 in
set_option maxHeartbeats 4000000 in
theorem ok_L_undo {l : Launch} {D : va_G} {cy : Nat → ClassId} {ad : Nat → Nat} {nm nv sz : Nat} {σ : St} {n : Nat} {x1 : Int} {r : Int} {σ2 : St} (hx1 : inR x1) (hf : fL_undo n σ x1 = some (r, σ2)) (hst : l.stackTraces = false) : LM l yL_undo cL_undo 4 [(0, 9, 12, 13), (0, 9, 15, 17)] ({ frames := 8, cells := 2, slots := 12, locals := 186 } : Room) [.ref (ad 0), .int (i32 x1), .ref (ad 290)] D cy ad nm nv sz σ 2 12 r σ2 := by
  refine w_entry RL rfl (by decide +kernel) (Nat.le_of_ble_eq_true rfl) ?_
  intro p e s m args below meth c Q hQ hr hlocks X Y Z hT hW hS ls hl
  have hx := X.1
  have hb := X.2.1
  have hN := X.2.2.2.2.2.2.2.2
  have hl : lv_has ls 4 [(0, .ref (ad 0)), (1, .int (i32 x1)), (2, .ref (ad 290))] := hl
  unfold fL_undo at hf
  refine lv_aload_n hx hb dL_undo_0 rfl (lv_at hl 2 rfl) ?_
  refine m_const (v := 0) hx hb dL_undo_1 rfl ?_
  refine lv_aload_n hx hb dL_undo_2 rfl (lv_at hl 0 rfl) ?_
  refine lv_iload_n hx hb dL_undo_3 rfl (lv_at hl 1 rfl) ?_
  refine w_callV (As := [.int (i32 x1)]) (rest := [.int (i32 0), .ref (ad 290)]) (fun (v : Int) => inR v ∧ (false = true → isB v)) (fun (v : Int) => some (.int (i32 v))) 2 12 X Y hW hS hl.1 gc_L_57 hd_X5_undo ⟨rfl, rfl, (Nat.le_of_ble_eq_true rfl), (Nat.le_of_ble_eq_true rfl)⟩ (rc_X5 X hW) (fun cd v q9 q => ok_X5_undo hx1 q hst) (fun q => by rw [q] at hf; cases hf) rfl rfl (Nat.le_of_ble_eq_true rfl) dL_undo_4 ⟨(Nat.le_of_ble_eq_true rfl), (Nat.le_of_ble_eq_true rfl)⟩ (Nat.le_of_ble_eq_true rfl) (Nat.le_of_ble_eq_true rfl) (fun v σ1 H locs hF hv hW1 hS1 => ?_) (fun cd v σ1 H locs q cell hcd hF hW1 hS1 hce hcv hcl => ?_)
  · rw [hF] at hf
    have hf : some ((0 : Int), st σ1 290 0 v) = some (r, σ2) := hf
    refine W.eq (g2 := F0 m 7 ls [.int (i32 v), .int (i32 0), .ref (ad 290)]) rfl ?_
    refine m_i2l hx hb hv.1 dL_undo_7 ?_
    refine m_last X hW1 hS1 hv.1 dL_undo_8 (fun H locs hW2 hS2 => ?_)
    refine lv_goto (tgt := 18) hx hb dL_undo_9 (by decide) ?_
    refine m_const (v := 0) hx hb dL_undo_18 rfl ?_
    exact w_ret X hr hlocks (u := 0) (by decide) hW2 hS2 (Nat.le_of_ble_eq_true rfl) (Nat.le_of_ble_eq_true rfl) hf hQ dL_undo_19
  · rw [hF] at hf
    rcases (show cd = 1 ∨ cd = 2 ∨ cd = 3 ∨ 4 ≤ cd by omega) with rfl | rfl | rfl | hcd4
    · have hf : some ((1 : Int), σ1) = some (r, σ2) := hf
      refine vx_catch (name := exN 1) X.2.2.2.1 [] ⟨0, 9, 12, 13⟩ [⟨0, 9, 15, 17⟩] (by rw [hT]; rfl) (fun z hz => nomatch hz) rfl (by decide) (X.2.2.2.2.1 _ mw221) (va_Nw.use rfl (nc_IndexOutOfBoundsException hN)) hce hcv hcl ?_
      refine W.eq (g2 := F0 m 12 ls [.ref q]) rfl ?_
      refine lv_astore_n (lv' := [(3, .ref q), (0, .ref (ad 0)), (1, .int (i32 x1)), (2, .ref (ad 290))]) hx hb dL_undo_12 rfl hl (by decide) rfl (fun ls hl => ?_)
      refine m_const (v := 1) hx hb dL_undo_13 rfl ?_
      exact w_ret X hr hlocks (u := 1) (by decide) hW1 hS1 (Nat.le_of_ble_eq_true rfl) (Nat.le_of_ble_eq_true rfl) hf hQ dL_undo_14
    · cases hf
    · have hf : some ((2 : Int), σ1) = some (r, σ2) := hf
      refine vx_catch (name := exN 3) X.2.2.2.1 [⟨0, 9, 12, 13⟩] ⟨0, 9, 15, 17⟩ [] (by rw [hT]; rfl) (fun z hz => by
        rcases List.mem_cons.mp hz with rfl | hz
        · exact Or.inr ⟨by decide, exN 1, X.2.2.2.2.1 _ mw221, Z.2.1⟩
        cases hz) rfl (by decide) (X.2.2.2.2.1 _ mw223) (va_Nw.use rfl (nc_IllegalStateException hN)) hce hcv hcl ?_
      refine W.eq (g2 := F0 m 15 ls [.ref q]) rfl ?_
      refine lv_astore_n (lv' := [(3, .ref q), (0, .ref (ad 0)), (1, .int (i32 x1)), (2, .ref (ad 290))]) hx hb dL_undo_15 rfl hl (by decide) rfl (fun ls hl => ?_)
      refine m_const (v := 2) hx hb dL_undo_16 rfl ?_
      exact w_ret X hr hlocks (u := 2) (by decide) hW1 hS1 (Nat.le_of_ble_eq_true rfl) (Nat.le_of_ble_eq_true rfl) hf hQ dL_undo_17
    · obtain ⟨cd, rfl⟩ : ∃ k, cd = k + 4 := ⟨cd - 4, by omega⟩
      cases hf
set_option maxRecDepth 100000 in
set_option maxHeartbeats 4000000 in
theorem ok_L_redo {l : Launch} {D : va_G} {cy : Nat → ClassId} {ad : Nat → Nat} {nm nv sz : Nat} {σ : St} {n : Nat} {x1 : Int} {r : Int} {σ2 : St} (hx1 : inR x1) (hf : fL_redo n σ x1 = some (r, σ2)) (hst : l.stackTraces = false) : LM l yL_redo cL_redo 4 [(0, 9, 12, 13), (0, 9, 15, 17)] ({ frames := 8, cells := 2, slots := 12, locals := 186 } : Room) [.ref (ad 0), .int (i32 x1), .ref (ad 290)] D cy ad nm nv sz σ 2 12 r σ2 := by
  refine w_entry RL rfl (by decide +kernel) (Nat.le_of_ble_eq_true rfl) ?_
  intro p e s m args below meth c Q hQ hr hlocks X Y Z hT hW hS ls hl
  have hx := X.1
  have hb := X.2.1
  have hN := X.2.2.2.2.2.2.2.2
  have hl : lv_has ls 4 [(0, .ref (ad 0)), (1, .int (i32 x1)), (2, .ref (ad 290))] := hl
  unfold fL_redo at hf
  refine lv_aload_n hx hb dL_redo_0 rfl (lv_at hl 2 rfl) ?_
  refine m_const (v := 0) hx hb dL_redo_1 rfl ?_
  refine lv_aload_n hx hb dL_redo_2 rfl (lv_at hl 0 rfl) ?_
  refine lv_iload_n hx hb dL_redo_3 rfl (lv_at hl 1 rfl) ?_
  refine w_callV (As := [.int (i32 x1)]) (rest := [.int (i32 0), .ref (ad 290)]) (fun (v : Int) => inR v ∧ (false = true → isB v)) (fun (v : Int) => some (.int (i32 v))) 2 12 X Y hW hS hl.1 gc_L_60 hd_X5_redo ⟨rfl, rfl, (Nat.le_of_ble_eq_true rfl), (Nat.le_of_ble_eq_true rfl)⟩ (rc_X5 X hW) (fun cd v q9 q => ok_X5_redo hx1 q hst) (fun q => by rw [q] at hf; cases hf) rfl rfl (Nat.le_of_ble_eq_true rfl) dL_redo_4 ⟨(Nat.le_of_ble_eq_true rfl), (Nat.le_of_ble_eq_true rfl)⟩ (Nat.le_of_ble_eq_true rfl) (Nat.le_of_ble_eq_true rfl) (fun v σ1 H locs hF hv hW1 hS1 => ?_) (fun cd v σ1 H locs q cell hcd hF hW1 hS1 hce hcv hcl => ?_)
  · rw [hF] at hf
    have hf : some ((0 : Int), st σ1 290 0 v) = some (r, σ2) := hf
    refine W.eq (g2 := F0 m 7 ls [.int (i32 v), .int (i32 0), .ref (ad 290)]) rfl ?_
    refine m_i2l hx hb hv.1 dL_redo_7 ?_
    refine m_last X hW1 hS1 hv.1 dL_redo_8 (fun H locs hW2 hS2 => ?_)
    refine lv_goto (tgt := 18) hx hb dL_redo_9 (by decide) ?_
    refine m_const (v := 0) hx hb dL_redo_18 rfl ?_
    exact w_ret X hr hlocks (u := 0) (by decide) hW2 hS2 (Nat.le_of_ble_eq_true rfl) (Nat.le_of_ble_eq_true rfl) hf hQ dL_redo_19
  · rw [hF] at hf
    rcases (show cd = 1 ∨ cd = 2 ∨ cd = 3 ∨ 4 ≤ cd by omega) with rfl | rfl | rfl | hcd4
    · have hf : some ((1 : Int), σ1) = some (r, σ2) := hf
      refine vx_catch (name := exN 1) X.2.2.2.1 [] ⟨0, 9, 12, 13⟩ [⟨0, 9, 15, 17⟩] (by rw [hT]; rfl) (fun z hz => nomatch hz) rfl (by decide) (X.2.2.2.2.1 _ mw221) (va_Nw.use rfl (nc_IndexOutOfBoundsException hN)) hce hcv hcl ?_
      refine W.eq (g2 := F0 m 12 ls [.ref q]) rfl ?_
      refine lv_astore_n (lv' := [(3, .ref q), (0, .ref (ad 0)), (1, .int (i32 x1)), (2, .ref (ad 290))]) hx hb dL_redo_12 rfl hl (by decide) rfl (fun ls hl => ?_)
      refine m_const (v := 1) hx hb dL_redo_13 rfl ?_
      exact w_ret X hr hlocks (u := 1) (by decide) hW1 hS1 (Nat.le_of_ble_eq_true rfl) (Nat.le_of_ble_eq_true rfl) hf hQ dL_redo_14
    · cases hf
    · have hf : some ((2 : Int), σ1) = some (r, σ2) := hf
      refine vx_catch (name := exN 3) X.2.2.2.1 [⟨0, 9, 12, 13⟩] ⟨0, 9, 15, 17⟩ [] (by rw [hT]; rfl) (fun z hz => by
        rcases List.mem_cons.mp hz with rfl | hz
        · exact Or.inr ⟨by decide, exN 1, X.2.2.2.2.1 _ mw221, Z.2.1⟩
        cases hz) rfl (by decide) (X.2.2.2.2.1 _ mw223) (va_Nw.use rfl (nc_IllegalStateException hN)) hce hcv hcl ?_
      refine W.eq (g2 := F0 m 15 ls [.ref q]) rfl ?_
      refine lv_astore_n (lv' := [(3, .ref q), (0, .ref (ad 0)), (1, .int (i32 x1)), (2, .ref (ad 290))]) hx hb dL_redo_15 rfl hl (by decide) rfl (fun ls hl => ?_)
      refine m_const (v := 2) hx hb dL_redo_16 rfl ?_
      exact w_ret X hr hlocks (u := 2) (by decide) hW1 hS1 (Nat.le_of_ble_eq_true rfl) (Nat.le_of_ble_eq_true rfl) hf hQ dL_redo_17
    · obtain ⟨cd, rfl⟩ : ∃ k, cd = k + 4 := ⟨cd - 4, by omega⟩
      cases hf
set_option maxRecDepth 100000 in
set_option maxHeartbeats 4000000 in
theorem ok_L_deliver {l : Launch} {D : va_G} {cy : Nat → ClassId} {ad : Nat → Nat} {nm nv sz : Nat} {σ : St} {n : Nat} {x1 : Int} {r : Int} {σ2 : St} (hx1 : inR x1) (hf : fL_deliver n σ x1 = some (r, σ2)) (hst : l.stackTraces = false) : LM l yL_deliver cL_deliver 4 [(0, 9, 12, 13)] ({ frames := 8, cells := 2, slots := 12, locals := 137 } : Room) [.ref (ad 0), .int (i32 x1), .ref (ad 290)] D cy ad nm nv sz σ 2 12 r σ2 := by
  refine w_entry RL rfl (by decide +kernel) (Nat.le_of_ble_eq_true rfl) ?_
  intro p e s m args below meth c Q hQ hr hlocks X Y Z hT hW hS ls hl
  have hx := X.1
  have hb := X.2.1
  have hN := X.2.2.2.2.2.2.2.2
  have hl : lv_has ls 4 [(0, .ref (ad 0)), (1, .int (i32 x1)), (2, .ref (ad 290))] := hl
  unfold fL_deliver at hf
  refine lv_aload_n hx hb dL_deliver_0 rfl (lv_at hl 2 rfl) ?_
  refine m_const (v := 0) hx hb dL_deliver_1 rfl ?_
  refine lv_aload_n hx hb dL_deliver_2 rfl (lv_at hl 0 rfl) ?_
  refine lv_iload_n hx hb dL_deliver_3 rfl (lv_at hl 1 rfl) ?_
  refine w_callV (As := [.int (i32 x1)]) (rest := [.int (i32 0), .ref (ad 290)]) (fun (v : Int) => inR v ∧ (false = true → isB v)) (fun (v : Int) => some (.int (i32 v))) 2 12 X Y hW hS hl.1 gc_L_66 hd_X5_deliver ⟨rfl, rfl, (Nat.le_of_ble_eq_true rfl), (Nat.le_of_ble_eq_true rfl)⟩ (rc_X5 X hW) (fun cd v q9 q => ok_X5_deliver hx1 q hst) (fun q => by rw [q] at hf; cases hf) rfl rfl (Nat.le_of_ble_eq_true rfl) dL_deliver_4 ⟨(Nat.le_of_ble_eq_true rfl), (Nat.le_of_ble_eq_true rfl)⟩ (Nat.le_of_ble_eq_true rfl) (Nat.le_of_ble_eq_true rfl) (fun v σ1 H locs hF hv hW1 hS1 => ?_) (fun cd v σ1 H locs q cell hcd hF hW1 hS1 hce hcv hcl => ?_)
  · rw [hF] at hf
    have hf : some ((0 : Int), st σ1 290 0 v) = some (r, σ2) := hf
    refine W.eq (g2 := F0 m 7 ls [.int (i32 v), .int (i32 0), .ref (ad 290)]) rfl ?_
    refine m_i2l hx hb hv.1 dL_deliver_7 ?_
    refine m_last X hW1 hS1 hv.1 dL_deliver_8 (fun H locs hW2 hS2 => ?_)
    refine lv_goto (tgt := 15) hx hb dL_deliver_9 (by decide) ?_
    refine m_const (v := 0) hx hb dL_deliver_15 rfl ?_
    exact w_ret X hr hlocks (u := 0) (by decide) hW2 hS2 (Nat.le_of_ble_eq_true rfl) (Nat.le_of_ble_eq_true rfl) hf hQ dL_deliver_16
  · rw [hF] at hf
    rcases (show cd = 1 ∨ cd = 2 ∨ cd = 3 ∨ 4 ≤ cd by omega) with rfl | rfl | rfl | hcd4
    · have hf : some ((1 : Int), σ1) = some (r, σ2) := hf
      refine vx_catch (name := exN 1) X.2.2.2.1 [] ⟨0, 9, 12, 13⟩ [] (by rw [hT]; rfl) (fun z hz => nomatch hz) rfl (by decide) (X.2.2.2.2.1 _ mw221) (va_Nw.use rfl (nc_IndexOutOfBoundsException hN)) hce hcv hcl ?_
      refine W.eq (g2 := F0 m 12 ls [.ref q]) rfl ?_
      refine lv_astore_n (lv' := [(3, .ref q), (0, .ref (ad 0)), (1, .int (i32 x1)), (2, .ref (ad 290))]) hx hb dL_deliver_12 rfl hl (by decide) rfl (fun ls hl => ?_)
      refine m_const (v := 1) hx hb dL_deliver_13 rfl ?_
      exact w_ret X hr hlocks (u := 1) (by decide) hW1 hS1 (Nat.le_of_ble_eq_true rfl) (Nat.le_of_ble_eq_true rfl) hf hQ dL_deliver_14
    · cases hf
    · cases hf
    · obtain ⟨cd, rfl⟩ : ∃ k, cd = k + 4 := ⟨cd - 4, by omega⟩
      cases hf
set_option maxRecDepth 100000 in
set_option maxHeartbeats 4000000 in
theorem ok_L_save {l : Launch} {D : va_G} {cy : Nat → ClassId} {ad : Nat → Nat} {nm nv sz : Nat} {σ : St} {x1 : Int} {r : Int} {σ2 : St} (hx1 : inR x1) (hf : fL_save σ x1 = some (r, σ2)) (hst : l.stackTraces = false) : LM l yL_save cL_save 4 [(0, 9, 12, 13)] ({ frames := 8, cells := 1, slots := 6, locals := 134 } : Room) [.ref (ad 0), .int (i32 x1), .ref (ad 290)] D cy ad nm nv sz σ 1 6 r σ2 := by
  refine w_entry RL rfl (by decide +kernel) (Nat.le_of_ble_eq_true rfl) ?_
  intro p e s m args below meth c Q hQ hr hlocks X Y Z hT hW hS ls hl
  have hx := X.1
  have hb := X.2.1
  have hN := X.2.2.2.2.2.2.2.2
  have hl : lv_has ls 4 [(0, .ref (ad 0)), (1, .int (i32 x1)), (2, .ref (ad 290))] := hl
  unfold fL_save at hf
  refine lv_aload_n hx hb dL_save_0 rfl (lv_at hl 2 rfl) ?_
  refine m_const (v := 0) hx hb dL_save_1 rfl ?_
  refine lv_aload_n hx hb dL_save_2 rfl (lv_at hl 0 rfl) ?_
  refine lv_iload_n hx hb dL_save_3 rfl (lv_at hl 1 rfl) ?_
  refine w_callV (As := [.int (i32 x1)]) (rest := [.int (i32 0), .ref (ad 290)]) (fun (v : Int) => inR v ∧ (false = true → isB v)) (fun (v : Int) => some (.int (i32 v))) 1 6 X Y hW hS hl.1 gc_L_69 hd_X5_save ⟨rfl, rfl, (Nat.le_of_ble_eq_true rfl), (Nat.le_of_ble_eq_true rfl)⟩ (rc_X5 X hW) (fun cd v q9 q => ok_X5_save hx1 q hst) (fun q => by rw [q] at hf; cases hf) rfl rfl (Nat.le_of_ble_eq_true rfl) dL_save_4 ⟨(Nat.le_of_ble_eq_true rfl), (Nat.le_of_ble_eq_true rfl)⟩ (Nat.le_of_ble_eq_true rfl) (Nat.le_of_ble_eq_true rfl) (fun v σ1 H locs hF hv hW1 hS1 => ?_) (fun cd v σ1 H locs q cell hcd hF hW1 hS1 hce hcv hcl => ?_)
  · rw [hF] at hf
    have hf : some ((0 : Int), st σ1 290 0 v) = some (r, σ2) := hf
    refine W.eq (g2 := F0 m 7 ls [.int (i32 v), .int (i32 0), .ref (ad 290)]) rfl ?_
    refine m_i2l hx hb hv.1 dL_save_7 ?_
    refine m_last X hW1 hS1 hv.1 dL_save_8 (fun H locs hW2 hS2 => ?_)
    refine lv_goto (tgt := 15) hx hb dL_save_9 (by decide) ?_
    refine m_const (v := 0) hx hb dL_save_15 rfl ?_
    exact w_ret X hr hlocks (u := 0) (by decide) hW2 hS2 (Nat.le_of_ble_eq_true rfl) (Nat.le_of_ble_eq_true rfl) hf hQ dL_save_16
  · rw [hF] at hf
    rcases (show cd = 1 ∨ cd = 2 ∨ cd = 3 ∨ 4 ≤ cd by omega) with rfl | rfl | rfl | hcd4
    · have hf : some ((1 : Int), σ1) = some (r, σ2) := hf
      refine vx_catch (name := exN 1) X.2.2.2.1 [] ⟨0, 9, 12, 13⟩ [] (by rw [hT]; rfl) (fun z hz => nomatch hz) rfl (by decide) (X.2.2.2.2.1 _ mw221) (va_Nw.use rfl (nc_IndexOutOfBoundsException hN)) hce hcv hcl ?_
      refine W.eq (g2 := F0 m 12 ls [.ref q]) rfl ?_
      refine lv_astore_n (lv' := [(3, .ref q), (0, .ref (ad 0)), (1, .int (i32 x1)), (2, .ref (ad 290))]) hx hb dL_save_12 rfl hl (by decide) rfl (fun ls hl => ?_)
      refine m_const (v := 1) hx hb dL_save_13 rfl ?_
      exact w_ret X hr hlocks (u := 1) (by decide) hW1 hS1 (Nat.le_of_ble_eq_true rfl) (Nat.le_of_ble_eq_true rfl) hf hQ dL_save_14
    · cases hf
    · cases hf
    · obtain ⟨cd, rfl⟩ : ∃ k, cd = k + 4 := ⟨cd - 4, by omega⟩
      cases hf
set_option maxRecDepth 100000 in
set_option maxHeartbeats 4000000 in
theorem ok_L_crash {l : Launch} {D : va_G} {cy : Nat → ClassId} {ad : Nat → Nat} {nm nv sz : Nat} {σ : St} {n : Nat} {x1 : Int} {x2 : Int} {r : Int} {σ2 : St} (hx1 : inR x1) (hx2 : inR x2) (hf : fL_crash n σ x1 x2 = some (r, σ2)) (hst : l.stackTraces = false) : LM l yL_crash cL_crash 5 [(0, 10, 13, 13), (0, 10, 17, 15)] ({ frames := 8, cells := 2, slots := 12, locals := 135 } : Room) [.ref (ad 0), .int (i32 x1), .int (i32 x2), .ref (ad 290)] D cy ad nm nv sz σ 2 12 r σ2 := by
  refine w_entry RL rfl (by decide +kernel) (Nat.le_of_ble_eq_true rfl) ?_
  intro p e s m args below meth c Q hQ hr hlocks X Y Z hT hW hS ls hl
  have hx := X.1
  have hb := X.2.1
  have hN := X.2.2.2.2.2.2.2.2
  have hl : lv_has ls 5 [(0, .ref (ad 0)), (1, .int (i32 x1)), (2, .int (i32 x2)), (3, .ref (ad 290))] := hl
  unfold fL_crash at hf
  refine lv_aload_n hx hb dL_crash_0 rfl (lv_at hl 3 rfl) ?_
  refine m_const (v := 0) hx hb dL_crash_1 rfl ?_
  refine lv_aload_n hx hb dL_crash_2 rfl (lv_at hl 0 rfl) ?_
  refine lv_iload_n hx hb dL_crash_3 rfl (lv_at hl 1 rfl) ?_
  refine lv_iload_n hx hb dL_crash_4 rfl (lv_at hl 2 rfl) ?_
  refine w_callV (As := [.int (i32 x1), .int (i32 x2)]) (rest := [.int (i32 0), .ref (ad 290)]) (fun (v : Int) => inR v ∧ (false = true → isB v)) (fun (v : Int) => some (.int (i32 v))) 2 12 X Y hW hS hl.1 gc_L_72 hd_X5_crash ⟨rfl, rfl, (Nat.le_of_ble_eq_true rfl), (Nat.le_of_ble_eq_true rfl)⟩ (rc_X5 X hW) (fun cd v q9 q => ok_X5_crash hx1 hx2 q hst) (fun q => by rw [q] at hf; cases hf) rfl rfl (Nat.le_of_ble_eq_true rfl) dL_crash_5 ⟨(Nat.le_of_ble_eq_true rfl), (Nat.le_of_ble_eq_true rfl)⟩ (Nat.le_of_ble_eq_true rfl) (Nat.le_of_ble_eq_true rfl) (fun v σ1 H locs hF hv hW1 hS1 => ?_) (fun cd v σ1 H locs q cell hcd hF hW1 hS1 hce hcv hcl => ?_)
  · rw [hF] at hf
    have hf : some ((0 : Int), st σ1 290 0 v) = some (r, σ2) := hf
    refine W.eq (g2 := F0 m 8 ls [.int (i32 v), .int (i32 0), .ref (ad 290)]) rfl ?_
    refine m_i2l hx hb hv.1 dL_crash_8 ?_
    refine m_last X hW1 hS1 hv.1 dL_crash_9 (fun H locs hW2 hS2 => ?_)
    refine lv_goto (tgt := 21) hx hb dL_crash_10 (by decide) ?_
    refine m_const (v := 0) hx hb dL_crash_21 rfl ?_
    exact w_ret X hr hlocks (u := 0) (by decide) hW2 hS2 (Nat.le_of_ble_eq_true rfl) (Nat.le_of_ble_eq_true rfl) hf hQ dL_crash_22
  · rw [hF] at hf
    rcases (show cd = 1 ∨ cd = 2 ∨ cd = 3 ∨ 4 ≤ cd by omega) with rfl | rfl | rfl | hcd4
    · have hf : some ((1 : Int), σ1) = some (r, σ2) := hf
      refine vx_catch (name := exN 1) X.2.2.2.1 [] ⟨0, 10, 13, 13⟩ [⟨0, 10, 17, 15⟩] (by rw [hT]; rfl) (fun z hz => nomatch hz) rfl (by decide) (X.2.2.2.2.1 _ mw221) (va_Nw.use rfl (nc_IndexOutOfBoundsException hN)) hce hcv hcl ?_
      refine W.eq (g2 := F0 m 13 ls [.ref q]) rfl ?_
      refine lv_astore (lv' := [(4, .ref q), (0, .ref (ad 0)), (1, .int (i32 x1)), (2, .int (i32 x2)), (3, .ref (ad 290))]) hx hb dL_crash_13 hl (by decide) rfl (fun ls hl => ?_)
      refine m_const (v := 1) hx hb dL_crash_15 rfl ?_
      exact w_ret X hr hlocks (u := 1) (by decide) hW1 hS1 (Nat.le_of_ble_eq_true rfl) (Nat.le_of_ble_eq_true rfl) hf hQ dL_crash_16
    · have hf : some ((2 : Int), σ1) = some (r, σ2) := hf
      refine vx_catch (name := exN 2) X.2.2.2.1 [⟨0, 10, 13, 13⟩] ⟨0, 10, 17, 15⟩ [] (by rw [hT]; rfl) (fun z hz => by
        rcases List.mem_cons.mp hz with rfl | hz
        · exact Or.inr ⟨by decide, exN 1, X.2.2.2.2.1 _ mw221, Z.1⟩
        cases hz) rfl (by decide) (X.2.2.2.2.1 _ mw222) (va_Nw.use rfl (nc_IllegalArgumentException hN)) hce hcv hcl ?_
      refine W.eq (g2 := F0 m 17 ls [.ref q]) rfl ?_
      refine lv_astore (lv' := [(4, .ref q), (0, .ref (ad 0)), (1, .int (i32 x1)), (2, .int (i32 x2)), (3, .ref (ad 290))]) hx hb dL_crash_17 hl (by decide) rfl (fun ls hl => ?_)
      refine m_const (v := 2) hx hb dL_crash_19 rfl ?_
      exact w_ret X hr hlocks (u := 2) (by decide) hW1 hS1 (Nat.le_of_ble_eq_true rfl) (Nat.le_of_ble_eq_true rfl) hf hQ dL_crash_20
    · cases hf
    · obtain ⟨cd, rfl⟩ : ∃ k, cd = k + 4 := ⟨cd - 4, by omega⟩
      cases hf
set_option maxRecDepth 100000 in
set_option maxHeartbeats 4000000 in
theorem ok_L_bringBack {l : Launch} {D : va_G} {cy : Nat → ClassId} {ad : Nat → Nat} {nm nv sz : Nat} {σ : St} {n : Nat} {x1 : Int} {x2 : Int} {r : Int} {σ2 : St} (hx1 : inR x1) (hx2 : inR x2) (hf : fL_bringBack n σ x1 x2 = some (r, σ2)) (hst : l.stackTraces = false) : LM l yL_bringBack cL_bringBack 5 [(0, 10, 13, 13), (0, 10, 17, 17)] ({ frames := 8, cells := 3, slots := 18, locals := 191 } : Room) [.ref (ad 0), .int (i32 x1), .int (i32 x2), .ref (ad 290)] D cy ad nm nv sz σ 3 18 r σ2 := by
  refine w_entry RL rfl (by decide +kernel) (Nat.le_of_ble_eq_true rfl) ?_
  intro p e s m args below meth c Q hQ hr hlocks X Y Z hT hW hS ls hl
  have hx := X.1
  have hb := X.2.1
  have hN := X.2.2.2.2.2.2.2.2
  have hl : lv_has ls 5 [(0, .ref (ad 0)), (1, .int (i32 x1)), (2, .int (i32 x2)), (3, .ref (ad 290))] := hl
  unfold fL_bringBack at hf
  refine lv_aload_n hx hb dL_bringBack_0 rfl (lv_at hl 3 rfl) ?_
  refine m_const (v := 0) hx hb dL_bringBack_1 rfl ?_
  refine lv_aload_n hx hb dL_bringBack_2 rfl (lv_at hl 0 rfl) ?_
  refine lv_iload_n hx hb dL_bringBack_3 rfl (lv_at hl 1 rfl) ?_
  refine lv_iload_n hx hb dL_bringBack_4 rfl (lv_at hl 2 rfl) ?_
  refine w_callV (As := [.int (i32 x1), .int (i32 x2)]) (rest := [.int (i32 0), .ref (ad 290)]) (fun (v : Int) => inR v ∧ (false = true → isB v)) (fun (v : Int) => some (.int (i32 v))) 3 18 X Y hW hS hl.1 gc_L_78 hd_X5_bringBack ⟨rfl, rfl, (Nat.le_of_ble_eq_true rfl), (Nat.le_of_ble_eq_true rfl)⟩ (rc_X5 X hW) (fun cd v q9 q => ok_X5_bringBack hx1 hx2 q hst) (fun q => by rw [q] at hf; cases hf) rfl rfl (Nat.le_of_ble_eq_true rfl) dL_bringBack_5 ⟨(Nat.le_of_ble_eq_true rfl), (Nat.le_of_ble_eq_true rfl)⟩ (Nat.le_of_ble_eq_true rfl) (Nat.le_of_ble_eq_true rfl) (fun v σ1 H locs hF hv hW1 hS1 => ?_) (fun cd v σ1 H locs q cell hcd hF hW1 hS1 hce hcv hcl => ?_)
  · rw [hF] at hf
    have hf : some ((0 : Int), st σ1 290 0 v) = some (r, σ2) := hf
    refine W.eq (g2 := F0 m 8 ls [.int (i32 v), .int (i32 0), .ref (ad 290)]) rfl ?_
    refine m_i2l hx hb hv.1 dL_bringBack_8 ?_
    refine m_last X hW1 hS1 hv.1 dL_bringBack_9 (fun H locs hW2 hS2 => ?_)
    refine lv_goto (tgt := 21) hx hb dL_bringBack_10 (by decide) ?_
    refine m_const (v := 0) hx hb dL_bringBack_21 rfl ?_
    exact w_ret X hr hlocks (u := 0) (by decide) hW2 hS2 (Nat.le_of_ble_eq_true rfl) (Nat.le_of_ble_eq_true rfl) hf hQ dL_bringBack_22
  · rw [hF] at hf
    rcases (show cd = 1 ∨ cd = 2 ∨ cd = 3 ∨ 4 ≤ cd by omega) with rfl | rfl | rfl | hcd4
    · have hf : some ((1 : Int), σ1) = some (r, σ2) := hf
      refine vx_catch (name := exN 1) X.2.2.2.1 [] ⟨0, 10, 13, 13⟩ [⟨0, 10, 17, 17⟩] (by rw [hT]; rfl) (fun z hz => nomatch hz) rfl (by decide) (X.2.2.2.2.1 _ mw221) (va_Nw.use rfl (nc_IndexOutOfBoundsException hN)) hce hcv hcl ?_
      refine W.eq (g2 := F0 m 13 ls [.ref q]) rfl ?_
      refine lv_astore (lv' := [(4, .ref q), (0, .ref (ad 0)), (1, .int (i32 x1)), (2, .int (i32 x2)), (3, .ref (ad 290))]) hx hb dL_bringBack_13 hl (by decide) rfl (fun ls hl => ?_)
      refine m_const (v := 1) hx hb dL_bringBack_15 rfl ?_
      exact w_ret X hr hlocks (u := 1) (by decide) hW1 hS1 (Nat.le_of_ble_eq_true rfl) (Nat.le_of_ble_eq_true rfl) hf hQ dL_bringBack_16
    · cases hf
    · have hf : some ((2 : Int), σ1) = some (r, σ2) := hf
      refine vx_catch (name := exN 3) X.2.2.2.1 [⟨0, 10, 13, 13⟩] ⟨0, 10, 17, 17⟩ [] (by rw [hT]; rfl) (fun z hz => by
        rcases List.mem_cons.mp hz with rfl | hz
        · exact Or.inr ⟨by decide, exN 1, X.2.2.2.2.1 _ mw221, Z.2.1⟩
        cases hz) rfl (by decide) (X.2.2.2.2.1 _ mw223) (va_Nw.use rfl (nc_IllegalStateException hN)) hce hcv hcl ?_
      refine W.eq (g2 := F0 m 17 ls [.ref q]) rfl ?_
      refine lv_astore (lv' := [(4, .ref q), (0, .ref (ad 0)), (1, .int (i32 x1)), (2, .int (i32 x2)), (3, .ref (ad 290))]) hx hb dL_bringBack_17 hl (by decide) rfl (fun ls hl => ?_)
      refine m_const (v := 2) hx hb dL_bringBack_19 rfl ?_
      exact w_ret X hr hlocks (u := 2) (by decide) hW1 hS1 (Nat.le_of_ble_eq_true rfl) (Nat.le_of_ble_eq_true rfl) hf hQ dL_bringBack_20
    · obtain ⟨cd, rfl⟩ : ∃ k, cd = k + 4 := ⟨cd - 4, by omega⟩
      cases hf
set_option maxRecDepth 100000 in
set_option maxHeartbeats 4000000 in
theorem ok_L_differ {l : Launch} {D : va_G} {cy : Nat → ClassId} {ad : Nat → Nat} {nm nv sz : Nat} {σ : St} {n : Nat} {x1 : Int} {x2 : Int} {r : Int} {σ2 : St} (hx1 : inR x1) (hx2 : inR x2) (hf : fL_differ n σ x1 x2 = some (r, σ2)) (hst : l.stackTraces = false) : LM l yL_differ cL_differ 5 [(0, 10, 13, 13)] ({ frames := 8, cells := 2, slots := 12, locals := 169 } : Room) [.ref (ad 0), .int (i32 x1), .int (i32 x2), .ref (ad 290)] D cy ad nm nv sz σ 2 12 r σ2 := by
  refine w_entry RL rfl (by decide +kernel) (Nat.le_of_ble_eq_true rfl) ?_
  intro p e s m args below meth c Q hQ hr hlocks X Y Z hT hW hS ls hl
  have hx := X.1
  have hb := X.2.1
  have hN := X.2.2.2.2.2.2.2.2
  have hl : lv_has ls 5 [(0, .ref (ad 0)), (1, .int (i32 x1)), (2, .int (i32 x2)), (3, .ref (ad 290))] := hl
  unfold fL_differ at hf
  refine lv_aload_n hx hb dL_differ_0 rfl (lv_at hl 3 rfl) ?_
  refine m_const (v := 0) hx hb dL_differ_1 rfl ?_
  refine lv_aload_n hx hb dL_differ_2 rfl (lv_at hl 0 rfl) ?_
  refine lv_iload_n hx hb dL_differ_3 rfl (lv_at hl 1 rfl) ?_
  refine lv_iload_n hx hb dL_differ_4 rfl (lv_at hl 2 rfl) ?_
  refine w_callV (As := [.int (i32 x1), .int (i32 x2)]) (rest := [.int (i32 0), .ref (ad 290)]) (fun (v : Int) => inR v ∧ (false = true → isB v)) (fun (v : Int) => some (.int (i32 v))) 2 12 X Y hW hS hl.1 gc_L_81 hd_X5_differ ⟨rfl, rfl, (Nat.le_of_ble_eq_true rfl), (Nat.le_of_ble_eq_true rfl)⟩ (rc_X5 X hW) (fun cd v q9 q => ok_X5_differ hx1 hx2 q hst) (fun q => by rw [q] at hf; cases hf) rfl rfl (Nat.le_of_ble_eq_true rfl) dL_differ_5 ⟨(Nat.le_of_ble_eq_true rfl), (Nat.le_of_ble_eq_true rfl)⟩ (Nat.le_of_ble_eq_true rfl) (Nat.le_of_ble_eq_true rfl) (fun v σ1 H locs hF hv hW1 hS1 => ?_) (fun cd v σ1 H locs q cell hcd hF hW1 hS1 hce hcv hcl => ?_)
  · rw [hF] at hf
    have hf : some ((0 : Int), st σ1 290 0 v) = some (r, σ2) := hf
    refine W.eq (g2 := F0 m 8 ls [.int (i32 v), .int (i32 0), .ref (ad 290)]) rfl ?_
    refine m_i2l hx hb hv.1 dL_differ_8 ?_
    refine m_last X hW1 hS1 hv.1 dL_differ_9 (fun H locs hW2 hS2 => ?_)
    refine lv_goto (tgt := 17) hx hb dL_differ_10 (by decide) ?_
    refine m_const (v := 0) hx hb dL_differ_17 rfl ?_
    exact w_ret X hr hlocks (u := 0) (by decide) hW2 hS2 (Nat.le_of_ble_eq_true rfl) (Nat.le_of_ble_eq_true rfl) hf hQ dL_differ_18
  · rw [hF] at hf
    rcases (show cd = 1 ∨ cd = 2 ∨ cd = 3 ∨ 4 ≤ cd by omega) with rfl | rfl | rfl | hcd4
    · have hf : some ((1 : Int), σ1) = some (r, σ2) := hf
      refine vx_catch (name := exN 1) X.2.2.2.1 [] ⟨0, 10, 13, 13⟩ [] (by rw [hT]; rfl) (fun z hz => nomatch hz) rfl (by decide) (X.2.2.2.2.1 _ mw221) (va_Nw.use rfl (nc_IndexOutOfBoundsException hN)) hce hcv hcl ?_
      refine W.eq (g2 := F0 m 13 ls [.ref q]) rfl ?_
      refine lv_astore (lv' := [(4, .ref q), (0, .ref (ad 0)), (1, .int (i32 x1)), (2, .int (i32 x2)), (3, .ref (ad 290))]) hx hb dL_differ_13 hl (by decide) rfl (fun ls hl => ?_)
      refine m_const (v := 1) hx hb dL_differ_15 rfl ?_
      exact w_ret X hr hlocks (u := 1) (by decide) hW1 hS1 (Nat.le_of_ble_eq_true rfl) (Nat.le_of_ble_eq_true rfl) hf hQ dL_differ_16
    · cases hf
    · cases hf
    · obtain ⟨cd, rfl⟩ : ∃ k, cd = k + 4 := ⟨cd - 4, by omega⟩
      cases hf
set_option maxRecDepth 100000 in
set_option maxHeartbeats 4000000 in
theorem ok_L_length {l : Launch} {D : va_G} {cy : Nat → ClassId} {ad : Nat → Nat} {nm nv sz : Nat} {σ : St} {n : Nat} {x1 : Int} {r : Int} {σ2 : St} (hx1 : inR x1) (hf : fL_length n σ x1 = some (r, σ2)) (hst : l.stackTraces = false) : LM l yL_length cL_length 4 [(0, 9, 12, 13)] ({ frames := 8, cells := 1, slots := 6, locals := 184 } : Room) [.ref (ad 0), .int (i32 x1), .ref (ad 290)] D cy ad nm nv sz σ 1 6 r σ2 := by
  refine w_entry RL rfl (by decide +kernel) (Nat.le_of_ble_eq_true rfl) ?_
  intro p e s m args below meth c Q hQ hr hlocks X Y Z hT hW hS ls hl
  have hx := X.1
  have hb := X.2.1
  have hN := X.2.2.2.2.2.2.2.2
  have hl : lv_has ls 4 [(0, .ref (ad 0)), (1, .int (i32 x1)), (2, .ref (ad 290))] := hl
  unfold fL_length at hf
  refine lv_aload_n hx hb dL_length_0 rfl (lv_at hl 2 rfl) ?_
  refine m_const (v := 0) hx hb dL_length_1 rfl ?_
  refine lv_aload_n hx hb dL_length_2 rfl (lv_at hl 0 rfl) ?_
  refine lv_iload_n hx hb dL_length_3 rfl (lv_at hl 1 rfl) ?_
  refine w_callV (As := [.int (i32 x1)]) (rest := [.int (i32 0), .ref (ad 290)]) (fun (v : Int) => inR v ∧ (false = true → isB v)) (fun (v : Int) => some (.int (i32 v))) 1 6 X Y hW hS hl.1 gc_L_84 hd_X5_length ⟨rfl, rfl, (Nat.le_of_ble_eq_true rfl), (Nat.le_of_ble_eq_true rfl)⟩ (rc_X5 X hW) (fun cd v q9 q => ok_X5_length hx1 q hst) (fun q => by rw [q] at hf; cases hf) rfl rfl (Nat.le_of_ble_eq_true rfl) dL_length_4 ⟨(Nat.le_of_ble_eq_true rfl), (Nat.le_of_ble_eq_true rfl)⟩ (Nat.le_of_ble_eq_true rfl) (Nat.le_of_ble_eq_true rfl) (fun v σ1 H locs hF hv hW1 hS1 => ?_) (fun cd v σ1 H locs q cell hcd hF hW1 hS1 hce hcv hcl => ?_)
  · rw [hF] at hf
    have hf : some ((0 : Int), st σ1 290 0 v) = some (r, σ2) := hf
    refine W.eq (g2 := F0 m 7 ls [.int (i32 v), .int (i32 0), .ref (ad 290)]) rfl ?_
    refine m_i2l hx hb hv.1 dL_length_7 ?_
    refine m_last X hW1 hS1 hv.1 dL_length_8 (fun H locs hW2 hS2 => ?_)
    refine lv_goto (tgt := 15) hx hb dL_length_9 (by decide) ?_
    refine m_const (v := 0) hx hb dL_length_15 rfl ?_
    exact w_ret X hr hlocks (u := 0) (by decide) hW2 hS2 (Nat.le_of_ble_eq_true rfl) (Nat.le_of_ble_eq_true rfl) hf hQ dL_length_16
  · rw [hF] at hf
    rcases (show cd = 1 ∨ cd = 2 ∨ cd = 3 ∨ 4 ≤ cd by omega) with rfl | rfl | rfl | hcd4
    · have hf : some ((1 : Int), σ1) = some (r, σ2) := hf
      refine vx_catch (name := exN 1) X.2.2.2.1 [] ⟨0, 9, 12, 13⟩ [] (by rw [hT]; rfl) (fun z hz => nomatch hz) rfl (by decide) (X.2.2.2.2.1 _ mw221) (va_Nw.use rfl (nc_IndexOutOfBoundsException hN)) hce hcv hcl ?_
      refine W.eq (g2 := F0 m 12 ls [.ref q]) rfl ?_
      refine lv_astore_n (lv' := [(3, .ref q), (0, .ref (ad 0)), (1, .int (i32 x1)), (2, .ref (ad 290))]) hx hb dL_length_12 rfl hl (by decide) rfl (fun ls hl => ?_)
      refine m_const (v := 1) hx hb dL_length_13 rfl ?_
      exact w_ret X hr hlocks (u := 1) (by decide) hW1 hS1 (Nat.le_of_ble_eq_true rfl) (Nat.le_of_ble_eq_true rfl) hf hQ dL_length_14
    · cases hf
    · cases hf
    · obtain ⟨cd, rfl⟩ : ∃ k, cd = k + 4 := ⟨cd - 4, by omega⟩
      cases hf
set_option maxRecDepth 100000 in
set_option maxHeartbeats 4000000 in
theorem ok_L_shown {l : Launch} {D : va_G} {cy : Nat → ClassId} {ad : Nat → Nat} {nm nv sz : Nat} {σ : St} {n : Nat} {x1 : Int} {r : Int} {σ2 : St} (hx1 : inR x1) (hf : fL_shown n σ x1 = some (r, σ2)) (hst : l.stackTraces = false) : LM l yL_shown cL_shown 4 [(0, 9, 12, 13)] ({ frames := 8, cells := 1, slots := 6, locals := 184 } : Room) [.ref (ad 0), .int (i32 x1), .ref (ad 290)] D cy ad nm nv sz σ 1 6 r σ2 := by
  refine w_entry RL rfl (by decide +kernel) (Nat.le_of_ble_eq_true rfl) ?_
  intro p e s m args below meth c Q hQ hr hlocks X Y Z hT hW hS ls hl
  have hx := X.1
  have hb := X.2.1
  have hN := X.2.2.2.2.2.2.2.2
  have hl : lv_has ls 4 [(0, .ref (ad 0)), (1, .int (i32 x1)), (2, .ref (ad 290))] := hl
  unfold fL_shown at hf
  refine lv_aload_n hx hb dL_shown_0 rfl (lv_at hl 2 rfl) ?_
  refine m_const (v := 0) hx hb dL_shown_1 rfl ?_
  refine lv_aload_n hx hb dL_shown_2 rfl (lv_at hl 0 rfl) ?_
  refine lv_iload_n hx hb dL_shown_3 rfl (lv_at hl 1 rfl) ?_
  refine w_callV (As := [.int (i32 x1)]) (rest := [.int (i32 0), .ref (ad 290)]) (fun (v : Int) => inR v ∧ (false = true → isB v)) (fun (v : Int) => some (.int (i32 v))) 1 6 X Y hW hS hl.1 gc_L_87 hd_X5_shown ⟨rfl, rfl, (Nat.le_of_ble_eq_true rfl), (Nat.le_of_ble_eq_true rfl)⟩ (rc_X5 X hW) (fun cd v q9 q => ok_X5_shown hx1 q hst) (fun q => by rw [q] at hf; cases hf) rfl rfl (Nat.le_of_ble_eq_true rfl) dL_shown_4 ⟨(Nat.le_of_ble_eq_true rfl), (Nat.le_of_ble_eq_true rfl)⟩ (Nat.le_of_ble_eq_true rfl) (Nat.le_of_ble_eq_true rfl) (fun v σ1 H locs hF hv hW1 hS1 => ?_) (fun cd v σ1 H locs q cell hcd hF hW1 hS1 hce hcv hcl => ?_)
  · rw [hF] at hf
    have hf : some ((0 : Int), st σ1 290 0 v) = some (r, σ2) := hf
    refine W.eq (g2 := F0 m 7 ls [.int (i32 v), .int (i32 0), .ref (ad 290)]) rfl ?_
    refine m_i2l hx hb hv.1 dL_shown_7 ?_
    refine m_last X hW1 hS1 hv.1 dL_shown_8 (fun H locs hW2 hS2 => ?_)
    refine lv_goto (tgt := 15) hx hb dL_shown_9 (by decide) ?_
    refine m_const (v := 0) hx hb dL_shown_15 rfl ?_
    exact w_ret X hr hlocks (u := 0) (by decide) hW2 hS2 (Nat.le_of_ble_eq_true rfl) (Nat.le_of_ble_eq_true rfl) hf hQ dL_shown_16
  · rw [hF] at hf
    rcases (show cd = 1 ∨ cd = 2 ∨ cd = 3 ∨ 4 ≤ cd by omega) with rfl | rfl | rfl | hcd4
    · have hf : some ((1 : Int), σ1) = some (r, σ2) := hf
      refine vx_catch (name := exN 1) X.2.2.2.1 [] ⟨0, 9, 12, 13⟩ [] (by rw [hT]; rfl) (fun z hz => nomatch hz) rfl (by decide) (X.2.2.2.2.1 _ mw221) (va_Nw.use rfl (nc_IndexOutOfBoundsException hN)) hce hcv hcl ?_
      refine W.eq (g2 := F0 m 12 ls [.ref q]) rfl ?_
      refine lv_astore_n (lv' := [(3, .ref q), (0, .ref (ad 0)), (1, .int (i32 x1)), (2, .ref (ad 290))]) hx hb dL_shown_12 rfl hl (by decide) rfl (fun ls hl => ?_)
      refine m_const (v := 1) hx hb dL_shown_13 rfl ?_
      exact w_ret X hr hlocks (u := 1) (by decide) hW1 hS1 (Nat.le_of_ble_eq_true rfl) (Nat.le_of_ble_eq_true rfl) hf hQ dL_shown_14
    · cases hf
    · cases hf
    · obtain ⟨cd, rfl⟩ : ∃ k, cd = k + 4 := ⟨cd - 4, by omega⟩
      cases hf
set_option maxRecDepth 100000 in
set_option maxHeartbeats 4000000 in
theorem ok_L_element {l : Launch} {D : va_G} {cy : Nat → ClassId} {ad : Nat → Nat} {nm nv sz : Nat} {σ : St} {n : Nat} {x1 : Int} {x2 : Int} {r : Int} {σ2 : St} (hx1 : inR x1) (hx2 : inR x2) (hf : fL_element n σ x1 x2 = some (r, σ2)) (hst : l.stackTraces = false) : LM l yL_element cL_element 5 [(0, 10, 13, 13)] ({ frames := 8, cells := 2, slots := 12, locals := 185 } : Room) [.ref (ad 0), .int (i32 x1), .int (i32 x2), .ref (ad 290)] D cy ad nm nv sz σ 2 12 r σ2 := by
  refine w_entry RL rfl (by decide +kernel) (Nat.le_of_ble_eq_true rfl) ?_
  intro p e s m args below meth c Q hQ hr hlocks X Y Z hT hW hS ls hl
  have hx := X.1
  have hb := X.2.1
  have hN := X.2.2.2.2.2.2.2.2
  have hl : lv_has ls 5 [(0, .ref (ad 0)), (1, .int (i32 x1)), (2, .int (i32 x2)), (3, .ref (ad 290))] := hl
  unfold fL_element at hf
  refine lv_aload_n hx hb dL_element_0 rfl (lv_at hl 3 rfl) ?_
  refine m_const (v := 0) hx hb dL_element_1 rfl ?_
  refine lv_aload_n hx hb dL_element_2 rfl (lv_at hl 0 rfl) ?_
  refine lv_iload_n hx hb dL_element_3 rfl (lv_at hl 1 rfl) ?_
  refine lv_iload_n hx hb dL_element_4 rfl (lv_at hl 2 rfl) ?_
  refine w_callV (As := [.int (i32 x1), .int (i32 x2)]) (rest := [.int (i32 0), .ref (ad 290)]) (fun (v : Int) => inR v ∧ (false = true → isB v)) (fun (v : Int) => some (.int (i32 v))) 2 12 X Y hW hS hl.1 gc_L_90 hd_X5_element ⟨rfl, rfl, (Nat.le_of_ble_eq_true rfl), (Nat.le_of_ble_eq_true rfl)⟩ (rc_X5 X hW) (fun cd v q9 q => ok_X5_element hx1 hx2 q hst) (fun q => by rw [q] at hf; cases hf) rfl rfl (Nat.le_of_ble_eq_true rfl) dL_element_5 ⟨(Nat.le_of_ble_eq_true rfl), (Nat.le_of_ble_eq_true rfl)⟩ (Nat.le_of_ble_eq_true rfl) (Nat.le_of_ble_eq_true rfl) (fun v σ1 H locs hF hv hW1 hS1 => ?_) (fun cd v σ1 H locs q cell hcd hF hW1 hS1 hce hcv hcl => ?_)
  · rw [hF] at hf
    have hf : some ((0 : Int), st σ1 290 0 v) = some (r, σ2) := hf
    refine W.eq (g2 := F0 m 8 ls [.int (i32 v), .int (i32 0), .ref (ad 290)]) rfl ?_
    refine m_i2l hx hb hv.1 dL_element_8 ?_
    refine m_last X hW1 hS1 hv.1 dL_element_9 (fun H locs hW2 hS2 => ?_)
    refine lv_goto (tgt := 17) hx hb dL_element_10 (by decide) ?_
    refine m_const (v := 0) hx hb dL_element_17 rfl ?_
    exact w_ret X hr hlocks (u := 0) (by decide) hW2 hS2 (Nat.le_of_ble_eq_true rfl) (Nat.le_of_ble_eq_true rfl) hf hQ dL_element_18
  · rw [hF] at hf
    rcases (show cd = 1 ∨ cd = 2 ∨ cd = 3 ∨ 4 ≤ cd by omega) with rfl | rfl | rfl | hcd4
    · have hf : some ((1 : Int), σ1) = some (r, σ2) := hf
      refine vx_catch (name := exN 1) X.2.2.2.1 [] ⟨0, 10, 13, 13⟩ [] (by rw [hT]; rfl) (fun z hz => nomatch hz) rfl (by decide) (X.2.2.2.2.1 _ mw221) (va_Nw.use rfl (nc_IndexOutOfBoundsException hN)) hce hcv hcl ?_
      refine W.eq (g2 := F0 m 13 ls [.ref q]) rfl ?_
      refine lv_astore (lv' := [(4, .ref q), (0, .ref (ad 0)), (1, .int (i32 x1)), (2, .int (i32 x2)), (3, .ref (ad 290))]) hx hb dL_element_13 hl (by decide) rfl (fun ls hl => ?_)
      refine m_const (v := 1) hx hb dL_element_15 rfl ?_
      exact w_ret X hr hlocks (u := 1) (by decide) hW1 hS1 (Nat.le_of_ble_eq_true rfl) (Nat.le_of_ble_eq_true rfl) hf hQ dL_element_16
    · cases hf
    · cases hf
    · obtain ⟨cd, rfl⟩ : ∃ k, cd = k + 4 := ⟨cd - 4, by omega⟩
      cases hf
set_option maxRecDepth 100000 in
set_option maxHeartbeats 4000000 in
theorem ok_L_elementAnew {l : Launch} {D : va_G} {cy : Nat → ClassId} {ad : Nat → Nat} {nm nv sz : Nat} {σ : St} {n : Nat} {x1 : Int} {x2 : Int} {r : Int} {σ2 : St} (hx1 : inR x1) (hx2 : inR x2) (hf : fL_elementAnew n σ x1 x2 = some (r, σ2)) (hst : l.stackTraces = false) : LM l yL_elementAnew cL_elementAnew 5 [(0, 10, 13, 13)] ({ frames := 8, cells := 2, slots := 12, locals := 165 } : Room) [.ref (ad 0), .int (i32 x1), .int (i32 x2), .ref (ad 290)] D cy ad nm nv sz σ 2 12 r σ2 := by
  refine w_entry RL rfl (by decide +kernel) (Nat.le_of_ble_eq_true rfl) ?_
  intro p e s m args below meth c Q hQ hr hlocks X Y Z hT hW hS ls hl
  have hx := X.1
  have hb := X.2.1
  have hN := X.2.2.2.2.2.2.2.2
  have hl : lv_has ls 5 [(0, .ref (ad 0)), (1, .int (i32 x1)), (2, .int (i32 x2)), (3, .ref (ad 290))] := hl
  unfold fL_elementAnew at hf
  refine lv_aload_n hx hb dL_elementAnew_0 rfl (lv_at hl 3 rfl) ?_
  refine m_const (v := 0) hx hb dL_elementAnew_1 rfl ?_
  refine lv_aload_n hx hb dL_elementAnew_2 rfl (lv_at hl 0 rfl) ?_
  refine lv_iload_n hx hb dL_elementAnew_3 rfl (lv_at hl 1 rfl) ?_
  refine lv_iload_n hx hb dL_elementAnew_4 rfl (lv_at hl 2 rfl) ?_
  refine w_callV (As := [.int (i32 x1), .int (i32 x2)]) (rest := [.int (i32 0), .ref (ad 290)]) (fun (v : Int) => inR v ∧ (false = true → isB v)) (fun (v : Int) => some (.int (i32 v))) 2 12 X Y hW hS hl.1 gc_L_93 hd_X5_elementAnew ⟨rfl, rfl, (Nat.le_of_ble_eq_true rfl), (Nat.le_of_ble_eq_true rfl)⟩ (rc_X5 X hW) (fun cd v q9 q => ok_X5_elementAnew hx1 hx2 q hst) (fun q => by rw [q] at hf; cases hf) rfl rfl (Nat.le_of_ble_eq_true rfl) dL_elementAnew_5 ⟨(Nat.le_of_ble_eq_true rfl), (Nat.le_of_ble_eq_true rfl)⟩ (Nat.le_of_ble_eq_true rfl) (Nat.le_of_ble_eq_true rfl) (fun v σ1 H locs hF hv hW1 hS1 => ?_) (fun cd v σ1 H locs q cell hcd hF hW1 hS1 hce hcv hcl => ?_)
  · rw [hF] at hf
    have hf : some ((0 : Int), st σ1 290 0 v) = some (r, σ2) := hf
    refine W.eq (g2 := F0 m 8 ls [.int (i32 v), .int (i32 0), .ref (ad 290)]) rfl ?_
    refine m_i2l hx hb hv.1 dL_elementAnew_8 ?_
    refine m_last X hW1 hS1 hv.1 dL_elementAnew_9 (fun H locs hW2 hS2 => ?_)
    refine lv_goto (tgt := 17) hx hb dL_elementAnew_10 (by decide) ?_
    refine m_const (v := 0) hx hb dL_elementAnew_17 rfl ?_
    exact w_ret X hr hlocks (u := 0) (by decide) hW2 hS2 (Nat.le_of_ble_eq_true rfl) (Nat.le_of_ble_eq_true rfl) hf hQ dL_elementAnew_18
  · rw [hF] at hf
    rcases (show cd = 1 ∨ cd = 2 ∨ cd = 3 ∨ 4 ≤ cd by omega) with rfl | rfl | rfl | hcd4
    · have hf : some ((1 : Int), σ1) = some (r, σ2) := hf
      refine vx_catch (name := exN 1) X.2.2.2.1 [] ⟨0, 10, 13, 13⟩ [] (by rw [hT]; rfl) (fun z hz => nomatch hz) rfl (by decide) (X.2.2.2.2.1 _ mw221) (va_Nw.use rfl (nc_IndexOutOfBoundsException hN)) hce hcv hcl ?_
      refine W.eq (g2 := F0 m 13 ls [.ref q]) rfl ?_
      refine lv_astore (lv' := [(4, .ref q), (0, .ref (ad 0)), (1, .int (i32 x1)), (2, .int (i32 x2)), (3, .ref (ad 290))]) hx hb dL_elementAnew_13 hl (by decide) rfl (fun ls hl => ?_)
      refine m_const (v := 1) hx hb dL_elementAnew_15 rfl ?_
      exact w_ret X hr hlocks (u := 1) (by decide) hW1 hS1 (Nat.le_of_ble_eq_true rfl) (Nat.le_of_ble_eq_true rfl) hf hQ dL_elementAnew_16
    · cases hf
    · cases hf
    · obtain ⟨cd, rfl⟩ : ∃ k, cd = k + 4 := ⟨cd - 4, by omega⟩
      cases hf
set_option maxRecDepth 100000 in
set_option maxHeartbeats 4000000 in
theorem ok_L_letter {l : Launch} {D : va_G} {cy : Nat → ClassId} {ad : Nat → Nat} {nm nv sz : Nat} {σ : St} {n : Nat} {x1 : Int} {x2 : Int} {r : Int} {σ2 : St} (hx1 : inR x1) (hx2 : inR x2) (hf : fL_letter n σ x1 x2 = some (r, σ2)) (hst : l.stackTraces = false) : LM l yL_letter cL_letter 5 [(0, 10, 13, 13)] ({ frames := 8, cells := 2, slots := 12, locals := 185 } : Room) [.ref (ad 0), .int (i32 x1), .int (i32 x2), .ref (ad 290)] D cy ad nm nv sz σ 2 12 r σ2 := by
  refine w_entry RL rfl (by decide +kernel) (Nat.le_of_ble_eq_true rfl) ?_
  intro p e s m args below meth c Q hQ hr hlocks X Y Z hT hW hS ls hl
  have hx := X.1
  have hb := X.2.1
  have hN := X.2.2.2.2.2.2.2.2
  have hl : lv_has ls 5 [(0, .ref (ad 0)), (1, .int (i32 x1)), (2, .int (i32 x2)), (3, .ref (ad 290))] := hl
  unfold fL_letter at hf
  refine lv_aload_n hx hb dL_letter_0 rfl (lv_at hl 3 rfl) ?_
  refine m_const (v := 0) hx hb dL_letter_1 rfl ?_
  refine lv_aload_n hx hb dL_letter_2 rfl (lv_at hl 0 rfl) ?_
  refine lv_iload_n hx hb dL_letter_3 rfl (lv_at hl 1 rfl) ?_
  refine lv_iload_n hx hb dL_letter_4 rfl (lv_at hl 2 rfl) ?_
  refine w_callV (As := [.int (i32 x1), .int (i32 x2)]) (rest := [.int (i32 0), .ref (ad 290)]) (fun (v : Int) => inR v ∧ (false = true → isB v)) (fun (v : Int) => some (.int (i32 v))) 2 12 X Y hW hS hl.1 gc_L_96 hd_X5_letter ⟨rfl, rfl, (Nat.le_of_ble_eq_true rfl), (Nat.le_of_ble_eq_true rfl)⟩ (rc_X5 X hW) (fun cd v q9 q => ok_X5_letter hx1 hx2 q hst) (fun q => by rw [q] at hf; cases hf) rfl rfl (Nat.le_of_ble_eq_true rfl) dL_letter_5 ⟨(Nat.le_of_ble_eq_true rfl), (Nat.le_of_ble_eq_true rfl)⟩ (Nat.le_of_ble_eq_true rfl) (Nat.le_of_ble_eq_true rfl) (fun v σ1 H locs hF hv hW1 hS1 => ?_) (fun cd v σ1 H locs q cell hcd hF hW1 hS1 hce hcv hcl => ?_)
  · rw [hF] at hf
    have hf : some ((0 : Int), st σ1 290 0 v) = some (r, σ2) := hf
    refine W.eq (g2 := F0 m 8 ls [.int (i32 v), .int (i32 0), .ref (ad 290)]) rfl ?_
    refine m_i2l hx hb hv.1 dL_letter_8 ?_
    refine m_last X hW1 hS1 hv.1 dL_letter_9 (fun H locs hW2 hS2 => ?_)
    refine lv_goto (tgt := 17) hx hb dL_letter_10 (by decide) ?_
    refine m_const (v := 0) hx hb dL_letter_17 rfl ?_
    exact w_ret X hr hlocks (u := 0) (by decide) hW2 hS2 (Nat.le_of_ble_eq_true rfl) (Nat.le_of_ble_eq_true rfl) hf hQ dL_letter_18
  · rw [hF] at hf
    rcases (show cd = 1 ∨ cd = 2 ∨ cd = 3 ∨ 4 ≤ cd by omega) with rfl | rfl | rfl | hcd4
    · have hf : some ((1 : Int), σ1) = some (r, σ2) := hf
      refine vx_catch (name := exN 1) X.2.2.2.1 [] ⟨0, 10, 13, 13⟩ [] (by rw [hT]; rfl) (fun z hz => nomatch hz) rfl (by decide) (X.2.2.2.2.1 _ mw221) (va_Nw.use rfl (nc_IndexOutOfBoundsException hN)) hce hcv hcl ?_
      refine W.eq (g2 := F0 m 13 ls [.ref q]) rfl ?_
      refine lv_astore (lv' := [(4, .ref q), (0, .ref (ad 0)), (1, .int (i32 x1)), (2, .int (i32 x2)), (3, .ref (ad 290))]) hx hb dL_letter_13 hl (by decide) rfl (fun ls hl => ?_)
      refine m_const (v := 1) hx hb dL_letter_15 rfl ?_
      exact w_ret X hr hlocks (u := 1) (by decide) hW1 hS1 (Nat.le_of_ble_eq_true rfl) (Nat.le_of_ble_eq_true rfl) hf hQ dL_letter_16
    · cases hf
    · cases hf
    · obtain ⟨cd, rfl⟩ : ∃ k, cd = k + 4 := ⟨cd - 4, by omega⟩
      cases hf
set_option maxRecDepth 100000 in
set_option maxHeartbeats 4000000 in
theorem ok_L_proposed {l : Launch} {D : va_G} {cy : Nat → ClassId} {ad : Nat → Nat} {nm nv sz : Nat} {σ : St} {n : Nat} {x1 : Int} {x2 : Int} {r : Int} {σ2 : St} (hx1 : inR x1) (hx2 : inR x2) (hf : fL_proposed n σ x1 x2 = some (r, σ2)) (hst : l.stackTraces = false) : LM l yL_proposed cL_proposed 5 [(0, 10, 13, 13)] ({ frames := 8, cells := 2, slots := 12, locals := 186 } : Room) [.ref (ad 0), .int (i32 x1), .int (i32 x2), .ref (ad 290)] D cy ad nm nv sz σ 2 12 r σ2 := by
  refine w_entry RL rfl (by decide +kernel) (Nat.le_of_ble_eq_true rfl) ?_
  intro p e s m args below meth c Q hQ hr hlocks X Y Z hT hW hS ls hl
  have hx := X.1
  have hb := X.2.1
  have hN := X.2.2.2.2.2.2.2.2
  have hl : lv_has ls 5 [(0, .ref (ad 0)), (1, .int (i32 x1)), (2, .int (i32 x2)), (3, .ref (ad 290))] := hl
  unfold fL_proposed at hf
  refine lv_aload_n hx hb dL_proposed_0 rfl (lv_at hl 3 rfl) ?_
  refine m_const (v := 0) hx hb dL_proposed_1 rfl ?_
  refine lv_aload_n hx hb dL_proposed_2 rfl (lv_at hl 0 rfl) ?_
  refine lv_iload_n hx hb dL_proposed_3 rfl (lv_at hl 1 rfl) ?_
  refine lv_iload_n hx hb dL_proposed_4 rfl (lv_at hl 2 rfl) ?_
  refine w_callV (As := [.int (i32 x1), .int (i32 x2)]) (rest := [.int (i32 0), .ref (ad 290)]) (fun (v : Int) => inR v ∧ (false = true → isB v)) (fun (v : Int) => some (.int (i32 v))) 2 12 X Y hW hS hl.1 gc_L_100 hd_X5_proposed ⟨rfl, rfl, (Nat.le_of_ble_eq_true rfl), (Nat.le_of_ble_eq_true rfl)⟩ (rc_X5 X hW) (fun cd v q9 q => ok_X5_proposed hx1 hx2 q hst) (fun q => by rw [q] at hf; cases hf) rfl rfl (Nat.le_of_ble_eq_true rfl) dL_proposed_5 ⟨(Nat.le_of_ble_eq_true rfl), (Nat.le_of_ble_eq_true rfl)⟩ (Nat.le_of_ble_eq_true rfl) (Nat.le_of_ble_eq_true rfl) (fun v σ1 H locs hF hv hW1 hS1 => ?_) (fun cd v σ1 H locs q cell hcd hF hW1 hS1 hce hcv hcl => ?_)
  · rw [hF] at hf
    have hf : some ((0 : Int), st σ1 290 0 v) = some (r, σ2) := hf
    refine W.eq (g2 := F0 m 8 ls [.int (i32 v), .int (i32 0), .ref (ad 290)]) rfl ?_
    refine m_i2l hx hb hv.1 dL_proposed_8 ?_
    refine m_last X hW1 hS1 hv.1 dL_proposed_9 (fun H locs hW2 hS2 => ?_)
    refine lv_goto (tgt := 17) hx hb dL_proposed_10 (by decide) ?_
    refine m_const (v := 0) hx hb dL_proposed_17 rfl ?_
    exact w_ret X hr hlocks (u := 0) (by decide) hW2 hS2 (Nat.le_of_ble_eq_true rfl) (Nat.le_of_ble_eq_true rfl) hf hQ dL_proposed_18
  · rw [hF] at hf
    rcases (show cd = 1 ∨ cd = 2 ∨ cd = 3 ∨ 4 ≤ cd by omega) with rfl | rfl | rfl | hcd4
    · have hf : some ((1 : Int), σ1) = some (r, σ2) := hf
      refine vx_catch (name := exN 1) X.2.2.2.1 [] ⟨0, 10, 13, 13⟩ [] (by rw [hT]; rfl) (fun z hz => nomatch hz) rfl (by decide) (X.2.2.2.2.1 _ mw221) (va_Nw.use rfl (nc_IndexOutOfBoundsException hN)) hce hcv hcl ?_
      refine W.eq (g2 := F0 m 13 ls [.ref q]) rfl ?_
      refine lv_astore (lv' := [(4, .ref q), (0, .ref (ad 0)), (1, .int (i32 x1)), (2, .int (i32 x2)), (3, .ref (ad 290))]) hx hb dL_proposed_13 hl (by decide) rfl (fun ls hl => ?_)
      refine m_const (v := 1) hx hb dL_proposed_15 rfl ?_
      exact w_ret X hr hlocks (u := 1) (by decide) hW1 hS1 (Nat.le_of_ble_eq_true rfl) (Nat.le_of_ble_eq_true rfl) hf hQ dL_proposed_16
    · cases hf
    · cases hf
    · obtain ⟨cd, rfl⟩ : ∃ k, cd = k + 4 := ⟨cd - 4, by omega⟩
      cases hf
set_option maxRecDepth 100000 in
set_option maxHeartbeats 4000000 in
theorem ok_L_open {l : Launch} {D : va_G} {cy : Nat → ClassId} {ad : Nat → Nat} {nm nv sz : Nat} {σ : St} {n : Nat} {x1 : Int} {r : Int} {σ2 : St} (hx1 : inR x1) (hf : fL_open n σ x1 = some (r, σ2)) (hst : l.stackTraces = false) : LM l yL_open cL_open 4 [(0, 9, 12, 13)] ({ frames := 8, cells := 1, slots := 6, locals := 184 } : Room) [.ref (ad 0), .int (i32 x1), .ref (ad 290)] D cy ad nm nv sz σ 1 6 r σ2 := by
  refine w_entry RL rfl (by decide +kernel) (Nat.le_of_ble_eq_true rfl) ?_
  intro p e s m args below meth c Q hQ hr hlocks X Y Z hT hW hS ls hl
  have hx := X.1
  have hb := X.2.1
  have hN := X.2.2.2.2.2.2.2.2
  have hl : lv_has ls 4 [(0, .ref (ad 0)), (1, .int (i32 x1)), (2, .ref (ad 290))] := hl
  unfold fL_open at hf
  refine lv_aload_n hx hb dL_open_0 rfl (lv_at hl 2 rfl) ?_
  refine m_const (v := 0) hx hb dL_open_1 rfl ?_
  refine lv_aload_n hx hb dL_open_2 rfl (lv_at hl 0 rfl) ?_
  refine lv_iload_n hx hb dL_open_3 rfl (lv_at hl 1 rfl) ?_
  refine w_callV (As := [.int (i32 x1)]) (rest := [.int (i32 0), .ref (ad 290)]) (fun (v : Int) => inR v ∧ (false = true → isB v)) (fun (v : Int) => some (.int (i32 v))) 1 6 X Y hW hS hl.1 gc_L_103 hd_X5_open ⟨rfl, rfl, (Nat.le_of_ble_eq_true rfl), (Nat.le_of_ble_eq_true rfl)⟩ (rc_X5 X hW) (fun cd v q9 q => ok_X5_open hx1 q hst) (fun q => by rw [q] at hf; cases hf) rfl rfl (Nat.le_of_ble_eq_true rfl) dL_open_4 ⟨(Nat.le_of_ble_eq_true rfl), (Nat.le_of_ble_eq_true rfl)⟩ (Nat.le_of_ble_eq_true rfl) (Nat.le_of_ble_eq_true rfl) (fun v σ1 H locs hF hv hW1 hS1 => ?_) (fun cd v σ1 H locs q cell hcd hF hW1 hS1 hce hcv hcl => ?_)
  · rw [hF] at hf
    have hf : some ((0 : Int), st σ1 290 0 v) = some (r, σ2) := hf
    refine W.eq (g2 := F0 m 7 ls [.int (i32 v), .int (i32 0), .ref (ad 290)]) rfl ?_
    refine m_i2l hx hb hv.1 dL_open_7 ?_
    refine m_last X hW1 hS1 hv.1 dL_open_8 (fun H locs hW2 hS2 => ?_)
    refine lv_goto (tgt := 15) hx hb dL_open_9 (by decide) ?_
    refine m_const (v := 0) hx hb dL_open_15 rfl ?_
    exact w_ret X hr hlocks (u := 0) (by decide) hW2 hS2 (Nat.le_of_ble_eq_true rfl) (Nat.le_of_ble_eq_true rfl) hf hQ dL_open_16
  · rw [hF] at hf
    rcases (show cd = 1 ∨ cd = 2 ∨ cd = 3 ∨ 4 ≤ cd by omega) with rfl | rfl | rfl | hcd4
    · have hf : some ((1 : Int), σ1) = some (r, σ2) := hf
      refine vx_catch (name := exN 1) X.2.2.2.1 [] ⟨0, 9, 12, 13⟩ [] (by rw [hT]; rfl) (fun z hz => nomatch hz) rfl (by decide) (X.2.2.2.2.1 _ mw221) (va_Nw.use rfl (nc_IndexOutOfBoundsException hN)) hce hcv hcl ?_
      refine W.eq (g2 := F0 m 12 ls [.ref q]) rfl ?_
      refine lv_astore_n (lv' := [(3, .ref q), (0, .ref (ad 0)), (1, .int (i32 x1)), (2, .ref (ad 290))]) hx hb dL_open_12 rfl hl (by decide) rfl (fun ls hl => ?_)
      refine m_const (v := 1) hx hb dL_open_13 rfl ?_
      exact w_ret X hr hlocks (u := 1) (by decide) hW1 hS1 (Nat.le_of_ble_eq_true rfl) (Nat.le_of_ble_eq_true rfl) hf hQ dL_open_14
    · cases hf
    · cases hf
    · obtain ⟨cd, rfl⟩ : ∃ k, cd = k + 4 := ⟨cd - 4, by omega⟩
      cases hf
set_option maxRecDepth 100000 in
set_option maxHeartbeats 4000000 in
theorem ok_L_isMarked {l : Launch} {D : va_G} {cy : Nat → ClassId} {ad : Nat → Nat} {nm nv sz : Nat} {σ : St} {n : Nat} {x1 : Int} {x2 : Int} {x3 : Int} {r : Int} {σ2 : St} (hx1 : inR x1) (hx2 : inR x2) (hx3 : inR x3) (hf : fL_isMarked n σ x1 x2 x3 = some (r, σ2)) (hst : l.stackTraces = false) : LM l yL_isMarked cL_isMarked 6 [(0, 19, 22, 13), (0, 19, 26, 15)] ({ frames := 8, cells := 3, slots := 18, locals := 188 } : Room) [.ref (ad 0), .int (i32 x1), .int (i32 x2), .int (i32 x3), .ref (ad 290)] D cy ad nm nv sz σ 3 18 r σ2 := by
  refine w_entry RL rfl (by decide +kernel) (Nat.le_of_ble_eq_true rfl) ?_
  intro p e s m args below meth c Q hQ hr hlocks X Y Z hT hW hS ls hl
  have hx := X.1
  have hb := X.2.1
  have hN := X.2.2.2.2.2.2.2.2
  have hl : lv_has ls 6 [(0, .ref (ad 0)), (1, .int (i32 x1)), (2, .int (i32 x2)), (3, .int (i32 x3)), (4, .ref (ad 290))] := hl
  unfold fL_isMarked at hf
  refine lv_aload hx hb dL_isMarked_0 (lv_at hl 4 rfl) ?_
  refine m_const (v := 0) hx hb dL_isMarked_2 rfl ?_
  refine lv_aload_n hx hb dL_isMarked_3 rfl (lv_at hl 0 rfl) ?_
  refine lv_iload_n hx hb dL_isMarked_4 rfl (lv_at hl 1 rfl) ?_
  refine lv_iload_n hx hb dL_isMarked_5 rfl (lv_at hl 2 rfl) ?_
  refine lv_iload_n hx hb dL_isMarked_6 rfl (lv_at hl 3 rfl) ?_
  refine w_callV (As := [.int (i32 x1), .int (i32 x2), .int (i32 x3)]) (rest := [.int (i32 0), .ref (ad 290)]) (fun (v : Int) => inR v ∧ (true = true → isB v)) (fun (v : Int) => some (.int (i32 v))) 3 18 X Y hW hS hl.1 gc_L_106 hd_X5_isMarked ⟨rfl, rfl, (Nat.le_of_ble_eq_true rfl), (Nat.le_of_ble_eq_true rfl)⟩ (rc_X5 X hW) (fun cd v q9 q => ok_X5_isMarked hx1 hx2 hx3 q hst) (fun q => by rw [q] at hf; cases hf) rfl rfl (Nat.le_of_ble_eq_true rfl) dL_isMarked_7 ⟨(Nat.le_of_ble_eq_true rfl), (Nat.le_of_ble_eq_true rfl)⟩ (Nat.le_of_ble_eq_true rfl) (Nat.le_of_ble_eq_true rfl) (fun v σ1 H locs hF hv hW1 hS1 => ?_) (fun cd v σ1 H locs q cell hcd hF hW1 hS1 hce hcv hcl => ?_)
  · rw [hF] at hf
    refine W.eq (g2 := F0 m 10 ls [.int (i32 v), .int (i32 0), .ref (ad 290)]) rfl ?_
    rcases hv.2 rfl with rfl | rfl
    · have hf : some ((0 : Int), st σ1 290 0 0) = some (r, σ2) := hf
      refine lv_if_eq (tgt := 17) hx hb dL_isMarked_10 (by decide) (fun _ => ?_) (fun q => absurd rfl q)
      refine m_lconst (v := 0) hx hb rfl dL_isMarked_17 ?_
      refine m_last X hW1 hS1 (by decide) dL_isMarked_18 (fun H locs hW2 hS2 => ?_)
      refine lv_goto (tgt := 30) hx hb dL_isMarked_19 (by decide) ?_
      refine m_const (v := 0) hx hb dL_isMarked_30 rfl ?_
      exact w_ret X hr hlocks (u := 0) (by decide) hW2 hS2 (Nat.le_of_ble_eq_true rfl) (Nat.le_of_ble_eq_true rfl) hf hQ dL_isMarked_31
    · have hf : some ((0 : Int), st σ1 290 0 1) = some (r, σ2) := hf
      refine lv_if_eq (tgt := 17) hx hb dL_isMarked_10 (by decide) (fun q => absurd q (by decide)) (fun _ => ?_)
      refine m_lconst (v := 1) hx hb rfl dL_isMarked_13 ?_
      refine lv_goto (tgt := 18) hx hb dL_isMarked_14 (by decide) ?_
      refine m_last X hW1 hS1 (by decide) dL_isMarked_18 (fun H locs hW2 hS2 => ?_)
      refine lv_goto (tgt := 30) hx hb dL_isMarked_19 (by decide) ?_
      refine m_const (v := 0) hx hb dL_isMarked_30 rfl ?_
      exact w_ret X hr hlocks (u := 0) (by decide) hW2 hS2 (Nat.le_of_ble_eq_true rfl) (Nat.le_of_ble_eq_true rfl) hf hQ dL_isMarked_31
  · rw [hF] at hf
    rcases (show cd = 1 ∨ cd = 2 ∨ cd = 3 ∨ 4 ≤ cd by omega) with rfl | rfl | rfl | hcd4
    · have hf : some ((1 : Int), σ1) = some (r, σ2) := hf
      refine vx_catch (name := exN 1) X.2.2.2.1 [] ⟨0, 19, 22, 13⟩ [⟨0, 19, 26, 15⟩] (by rw [hT]; rfl) (fun z hz => nomatch hz) rfl (by decide) (X.2.2.2.2.1 _ mw221) (va_Nw.use rfl (nc_IndexOutOfBoundsException hN)) hce hcv hcl ?_
      refine W.eq (g2 := F0 m 22 ls [.ref q]) rfl ?_
      refine lv_astore (lv' := [(5, .ref q), (0, .ref (ad 0)), (1, .int (i32 x1)), (2, .int (i32 x2)), (3, .int (i32 x3)), (4, .ref (ad 290))]) hx hb dL_isMarked_22 hl (by decide) rfl (fun ls hl => ?_)
      refine m_const (v := 1) hx hb dL_isMarked_24 rfl ?_
      exact w_ret X hr hlocks (u := 1) (by decide) hW1 hS1 (Nat.le_of_ble_eq_true rfl) (Nat.le_of_ble_eq_true rfl) hf hQ dL_isMarked_25
    · have hf : some ((2 : Int), σ1) = some (r, σ2) := hf
      refine vx_catch (name := exN 2) X.2.2.2.1 [⟨0, 19, 22, 13⟩] ⟨0, 19, 26, 15⟩ [] (by rw [hT]; rfl) (fun z hz => by
        rcases List.mem_cons.mp hz with rfl | hz
        · exact Or.inr ⟨by decide, exN 1, X.2.2.2.2.1 _ mw221, Z.1⟩
        cases hz) rfl (by decide) (X.2.2.2.2.1 _ mw222) (va_Nw.use rfl (nc_IllegalArgumentException hN)) hce hcv hcl ?_
      refine W.eq (g2 := F0 m 26 ls [.ref q]) rfl ?_
      refine lv_astore (lv' := [(5, .ref q), (0, .ref (ad 0)), (1, .int (i32 x1)), (2, .int (i32 x2)), (3, .int (i32 x3)), (4, .ref (ad 290))]) hx hb dL_isMarked_26 hl (by decide) rfl (fun ls hl => ?_)
      refine m_const (v := 2) hx hb dL_isMarked_28 rfl ?_
      exact w_ret X hr hlocks (u := 2) (by decide) hW1 hS1 (Nat.le_of_ble_eq_true rfl) (Nat.le_of_ble_eq_true rfl) hf hQ dL_isMarked_29
    · cases hf
    · obtain ⟨cd, rfl⟩ : ∃ k, cd = k + 4 := ⟨cd - 4, by omega⟩
      cases hf
set_option maxRecDepth 100000 in
set_option maxHeartbeats 4000000 in
theorem ok_L_covered {l : Launch} {D : va_G} {cy : Nat → ClassId} {ad : Nat → Nat} {nm nv sz : Nat} {σ : St} {n : Nat} {x1 : Int} {x2 : Int} {r : Int} {σ2 : St} (hx1 : inR x1) (hx2 : inR x2) (hf : fL_covered n σ x1 x2 = some (r, σ2)) (hst : l.stackTraces = false) : LM l yL_covered cL_covered 5 [(0, 10, 13, 13)] ({ frames := 8, cells := 2, slots := 12, locals := 186 } : Room) [.ref (ad 0), .int (i32 x1), .int (i32 x2), .ref (ad 290)] D cy ad nm nv sz σ 2 12 r σ2 := by
  refine w_entry RL rfl (by decide +kernel) (Nat.le_of_ble_eq_true rfl) ?_
  intro p e s m args below meth c Q hQ hr hlocks X Y Z hT hW hS ls hl
  have hx := X.1
  have hb := X.2.1
  have hN := X.2.2.2.2.2.2.2.2
  have hl : lv_has ls 5 [(0, .ref (ad 0)), (1, .int (i32 x1)), (2, .int (i32 x2)), (3, .ref (ad 290))] := hl
  unfold fL_covered at hf
  refine lv_aload_n hx hb dL_covered_0 rfl (lv_at hl 3 rfl) ?_
  refine m_const (v := 0) hx hb dL_covered_1 rfl ?_
  refine lv_aload_n hx hb dL_covered_2 rfl (lv_at hl 0 rfl) ?_
  refine lv_iload_n hx hb dL_covered_3 rfl (lv_at hl 1 rfl) ?_
  refine lv_iload_n hx hb dL_covered_4 rfl (lv_at hl 2 rfl) ?_
  refine w_callV (As := [.int (i32 x1), .int (i32 x2)]) (rest := [.int (i32 0), .ref (ad 290)]) (fun (v : Int) => inR v ∧ (false = true → isB v)) (fun (v : Int) => some (.int (i32 v))) 2 12 X Y hW hS hl.1 gc_L_110 hd_X5_covered ⟨rfl, rfl, (Nat.le_of_ble_eq_true rfl), (Nat.le_of_ble_eq_true rfl)⟩ (rc_X5 X hW) (fun cd v q9 q => ok_X5_covered hx1 hx2 q hst) (fun q => by rw [q] at hf; cases hf) rfl rfl (Nat.le_of_ble_eq_true rfl) dL_covered_5 ⟨(Nat.le_of_ble_eq_true rfl), (Nat.le_of_ble_eq_true rfl)⟩ (Nat.le_of_ble_eq_true rfl) (Nat.le_of_ble_eq_true rfl) (fun v σ1 H locs hF hv hW1 hS1 => ?_) (fun cd v σ1 H locs q cell hcd hF hW1 hS1 hce hcv hcl => ?_)
  · rw [hF] at hf
    have hf : some ((0 : Int), st σ1 290 0 v) = some (r, σ2) := hf
    refine W.eq (g2 := F0 m 8 ls [.int (i32 v), .int (i32 0), .ref (ad 290)]) rfl ?_
    refine m_i2l hx hb hv.1 dL_covered_8 ?_
    refine m_last X hW1 hS1 hv.1 dL_covered_9 (fun H locs hW2 hS2 => ?_)
    refine lv_goto (tgt := 17) hx hb dL_covered_10 (by decide) ?_
    refine m_const (v := 0) hx hb dL_covered_17 rfl ?_
    exact w_ret X hr hlocks (u := 0) (by decide) hW2 hS2 (Nat.le_of_ble_eq_true rfl) (Nat.le_of_ble_eq_true rfl) hf hQ dL_covered_18
  · rw [hF] at hf
    rcases (show cd = 1 ∨ cd = 2 ∨ cd = 3 ∨ 4 ≤ cd by omega) with rfl | rfl | rfl | hcd4
    · have hf : some ((1 : Int), σ1) = some (r, σ2) := hf
      refine vx_catch (name := exN 1) X.2.2.2.1 [] ⟨0, 10, 13, 13⟩ [] (by rw [hT]; rfl) (fun z hz => nomatch hz) rfl (by decide) (X.2.2.2.2.1 _ mw221) (va_Nw.use rfl (nc_IndexOutOfBoundsException hN)) hce hcv hcl ?_
      refine W.eq (g2 := F0 m 13 ls [.ref q]) rfl ?_
      refine lv_astore (lv' := [(4, .ref q), (0, .ref (ad 0)), (1, .int (i32 x1)), (2, .int (i32 x2)), (3, .ref (ad 290))]) hx hb dL_covered_13 hl (by decide) rfl (fun ls hl => ?_)
      refine m_const (v := 1) hx hb dL_covered_15 rfl ?_
      exact w_ret X hr hlocks (u := 1) (by decide) hW1 hS1 (Nat.le_of_ble_eq_true rfl) (Nat.le_of_ble_eq_true rfl) hf hQ dL_covered_16
    · cases hf
    · cases hf
    · obtain ⟨cd, rfl⟩ : ∃ k, cd = k + 4 := ⟨cd - 4, by omega⟩
      cases hf
set_option maxRecDepth 100000 in
set_option maxHeartbeats 4000000 in
theorem ok_L_blocks {l : Launch} {D : va_G} {cy : Nat → ClassId} {ad : Nat → Nat} {nm nv sz : Nat} {σ : St} {n : Nat} {x1 : Int} {r : Int} {σ2 : St} (hx1 : inR x1) (hf : fL_blocks n σ x1 = some (r, σ2)) (hst : l.stackTraces = false) : LM l yL_blocks cL_blocks 4 [(0, 9, 12, 13)] ({ frames := 8, cells := 1, slots := 6, locals := 184 } : Room) [.ref (ad 0), .int (i32 x1), .ref (ad 290)] D cy ad nm nv sz σ 1 6 r σ2 := by
  refine w_entry RL rfl (by decide +kernel) (Nat.le_of_ble_eq_true rfl) ?_
  intro p e s m args below meth c Q hQ hr hlocks X Y Z hT hW hS ls hl
  have hx := X.1
  have hb := X.2.1
  have hN := X.2.2.2.2.2.2.2.2
  have hl : lv_has ls 4 [(0, .ref (ad 0)), (1, .int (i32 x1)), (2, .ref (ad 290))] := hl
  unfold fL_blocks at hf
  refine lv_aload_n hx hb dL_blocks_0 rfl (lv_at hl 2 rfl) ?_
  refine m_const (v := 0) hx hb dL_blocks_1 rfl ?_
  refine lv_aload_n hx hb dL_blocks_2 rfl (lv_at hl 0 rfl) ?_
  refine lv_iload_n hx hb dL_blocks_3 rfl (lv_at hl 1 rfl) ?_
  refine w_callV (As := [.int (i32 x1)]) (rest := [.int (i32 0), .ref (ad 290)]) (fun (v : Int) => inR v ∧ (false = true → isB v)) (fun (v : Int) => some (.int (i32 v))) 1 6 X Y hW hS hl.1 gc_L_113 hd_X5_blocks ⟨rfl, rfl, (Nat.le_of_ble_eq_true rfl), (Nat.le_of_ble_eq_true rfl)⟩ (rc_X5 X hW) (fun cd v q9 q => ok_X5_blocks hx1 q hst) (fun q => by rw [q] at hf; cases hf) rfl rfl (Nat.le_of_ble_eq_true rfl) dL_blocks_4 ⟨(Nat.le_of_ble_eq_true rfl), (Nat.le_of_ble_eq_true rfl)⟩ (Nat.le_of_ble_eq_true rfl) (Nat.le_of_ble_eq_true rfl) (fun v σ1 H locs hF hv hW1 hS1 => ?_) (fun cd v σ1 H locs q cell hcd hF hW1 hS1 hce hcv hcl => ?_)
  · rw [hF] at hf
    have hf : some ((0 : Int), st σ1 290 0 v) = some (r, σ2) := hf
    refine W.eq (g2 := F0 m 7 ls [.int (i32 v), .int (i32 0), .ref (ad 290)]) rfl ?_
    refine m_i2l hx hb hv.1 dL_blocks_7 ?_
    refine m_last X hW1 hS1 hv.1 dL_blocks_8 (fun H locs hW2 hS2 => ?_)
    refine lv_goto (tgt := 15) hx hb dL_blocks_9 (by decide) ?_
    refine m_const (v := 0) hx hb dL_blocks_15 rfl ?_
    exact w_ret X hr hlocks (u := 0) (by decide) hW2 hS2 (Nat.le_of_ble_eq_true rfl) (Nat.le_of_ble_eq_true rfl) hf hQ dL_blocks_16
  · rw [hF] at hf
    rcases (show cd = 1 ∨ cd = 2 ∨ cd = 3 ∨ 4 ≤ cd by omega) with rfl | rfl | rfl | hcd4
    · have hf : some ((1 : Int), σ1) = some (r, σ2) := hf
      refine vx_catch (name := exN 1) X.2.2.2.1 [] ⟨0, 9, 12, 13⟩ [] (by rw [hT]; rfl) (fun z hz => nomatch hz) rfl (by decide) (X.2.2.2.2.1 _ mw221) (va_Nw.use rfl (nc_IndexOutOfBoundsException hN)) hce hcv hcl ?_
      refine W.eq (g2 := F0 m 12 ls [.ref q]) rfl ?_
      refine lv_astore_n (lv' := [(3, .ref q), (0, .ref (ad 0)), (1, .int (i32 x1)), (2, .ref (ad 290))]) hx hb dL_blocks_12 rfl hl (by decide) rfl (fun ls hl => ?_)
      refine m_const (v := 1) hx hb dL_blocks_13 rfl ?_
      exact w_ret X hr hlocks (u := 1) (by decide) hW1 hS1 (Nat.le_of_ble_eq_true rfl) (Nat.le_of_ble_eq_true rfl) hf hQ dL_blocks_14
    · cases hf
    · cases hf
    · obtain ⟨cd, rfl⟩ : ∃ k, cd = k + 4 := ⟨cd - 4, by omega⟩
      cases hf
set_option maxRecDepth 100000 in
set_option maxHeartbeats 4000000 in
theorem ok_L_kind {l : Launch} {D : va_G} {cy : Nat → ClassId} {ad : Nat → Nat} {nm nv sz : Nat} {σ : St} {n : Nat} {x1 : Int} {x2 : Int} {r : Int} {σ2 : St} (hx1 : inR x1) (hx2 : inR x2) (hf : fL_kind n σ x1 x2 = some (r, σ2)) (hst : l.stackTraces = false) : LM l yL_kind cL_kind 5 [(0, 10, 13, 13)] ({ frames := 8, cells := 2, slots := 12, locals := 186 } : Room) [.ref (ad 0), .int (i32 x1), .int (i32 x2), .ref (ad 290)] D cy ad nm nv sz σ 2 12 r σ2 := by
  refine w_entry RL rfl (by decide +kernel) (Nat.le_of_ble_eq_true rfl) ?_
  intro p e s m args below meth c Q hQ hr hlocks X Y Z hT hW hS ls hl
  have hx := X.1
  have hb := X.2.1
  have hN := X.2.2.2.2.2.2.2.2
  have hl : lv_has ls 5 [(0, .ref (ad 0)), (1, .int (i32 x1)), (2, .int (i32 x2)), (3, .ref (ad 290))] := hl
  unfold fL_kind at hf
  refine lv_aload_n hx hb dL_kind_0 rfl (lv_at hl 3 rfl) ?_
  refine m_const (v := 0) hx hb dL_kind_1 rfl ?_
  refine lv_aload_n hx hb dL_kind_2 rfl (lv_at hl 0 rfl) ?_
  refine lv_iload_n hx hb dL_kind_3 rfl (lv_at hl 1 rfl) ?_
  refine lv_iload_n hx hb dL_kind_4 rfl (lv_at hl 2 rfl) ?_
  refine w_callV (As := [.int (i32 x1), .int (i32 x2)]) (rest := [.int (i32 0), .ref (ad 290)]) (fun (v : Int) => inR v ∧ (false = true → isB v)) (fun (v : Int) => some (.int (i32 v))) 2 12 X Y hW hS hl.1 gc_L_116 hd_X5_kind ⟨rfl, rfl, (Nat.le_of_ble_eq_true rfl), (Nat.le_of_ble_eq_true rfl)⟩ (rc_X5 X hW) (fun cd v q9 q => ok_X5_kind hx1 hx2 q hst) (fun q => by rw [q] at hf; cases hf) rfl rfl (Nat.le_of_ble_eq_true rfl) dL_kind_5 ⟨(Nat.le_of_ble_eq_true rfl), (Nat.le_of_ble_eq_true rfl)⟩ (Nat.le_of_ble_eq_true rfl) (Nat.le_of_ble_eq_true rfl) (fun v σ1 H locs hF hv hW1 hS1 => ?_) (fun cd v σ1 H locs q cell hcd hF hW1 hS1 hce hcv hcl => ?_)
  · rw [hF] at hf
    have hf : some ((0 : Int), st σ1 290 0 v) = some (r, σ2) := hf
    refine W.eq (g2 := F0 m 8 ls [.int (i32 v), .int (i32 0), .ref (ad 290)]) rfl ?_
    refine m_i2l hx hb hv.1 dL_kind_8 ?_
    refine m_last X hW1 hS1 hv.1 dL_kind_9 (fun H locs hW2 hS2 => ?_)
    refine lv_goto (tgt := 17) hx hb dL_kind_10 (by decide) ?_
    refine m_const (v := 0) hx hb dL_kind_17 rfl ?_
    exact w_ret X hr hlocks (u := 0) (by decide) hW2 hS2 (Nat.le_of_ble_eq_true rfl) (Nat.le_of_ble_eq_true rfl) hf hQ dL_kind_18
  · rw [hF] at hf
    rcases (show cd = 1 ∨ cd = 2 ∨ cd = 3 ∨ 4 ≤ cd by omega) with rfl | rfl | rfl | hcd4
    · have hf : some ((1 : Int), σ1) = some (r, σ2) := hf
      refine vx_catch (name := exN 1) X.2.2.2.1 [] ⟨0, 10, 13, 13⟩ [] (by rw [hT]; rfl) (fun z hz => nomatch hz) rfl (by decide) (X.2.2.2.2.1 _ mw221) (va_Nw.use rfl (nc_IndexOutOfBoundsException hN)) hce hcv hcl ?_
      refine W.eq (g2 := F0 m 13 ls [.ref q]) rfl ?_
      refine lv_astore (lv' := [(4, .ref q), (0, .ref (ad 0)), (1, .int (i32 x1)), (2, .int (i32 x2)), (3, .ref (ad 290))]) hx hb dL_kind_13 hl (by decide) rfl (fun ls hl => ?_)
      refine m_const (v := 1) hx hb dL_kind_15 rfl ?_
      exact w_ret X hr hlocks (u := 1) (by decide) hW1 hS1 (Nat.le_of_ble_eq_true rfl) (Nat.le_of_ble_eq_true rfl) hf hQ dL_kind_16
    · cases hf
    · cases hf
    · obtain ⟨cd, rfl⟩ : ∃ k, cd = k + 4 := ⟨cd - 4, by omega⟩
      cases hf
set_option maxRecDepth 100000 in
set_option maxHeartbeats 4000000 in
theorem ok_L_depth {l : Launch} {D : va_G} {cy : Nat → ClassId} {ad : Nat → Nat} {nm nv sz : Nat} {σ : St} {n : Nat} {x1 : Int} {x2 : Int} {r : Int} {σ2 : St} (hx1 : inR x1) (hx2 : inR x2) (hf : fL_depth n σ x1 x2 = some (r, σ2)) (hst : l.stackTraces = false) : LM l yL_depth cL_depth 5 [(0, 10, 13, 13)] ({ frames := 8, cells := 2, slots := 12, locals := 186 } : Room) [.ref (ad 0), .int (i32 x1), .int (i32 x2), .ref (ad 290)] D cy ad nm nv sz σ 2 12 r σ2 := by
  refine w_entry RL rfl (by decide +kernel) (Nat.le_of_ble_eq_true rfl) ?_
  intro p e s m args below meth c Q hQ hr hlocks X Y Z hT hW hS ls hl
  have hx := X.1
  have hb := X.2.1
  have hN := X.2.2.2.2.2.2.2.2
  have hl : lv_has ls 5 [(0, .ref (ad 0)), (1, .int (i32 x1)), (2, .int (i32 x2)), (3, .ref (ad 290))] := hl
  unfold fL_depth at hf
  refine lv_aload_n hx hb dL_depth_0 rfl (lv_at hl 3 rfl) ?_
  refine m_const (v := 0) hx hb dL_depth_1 rfl ?_
  refine lv_aload_n hx hb dL_depth_2 rfl (lv_at hl 0 rfl) ?_
  refine lv_iload_n hx hb dL_depth_3 rfl (lv_at hl 1 rfl) ?_
  refine lv_iload_n hx hb dL_depth_4 rfl (lv_at hl 2 rfl) ?_
  refine w_callV (As := [.int (i32 x1), .int (i32 x2)]) (rest := [.int (i32 0), .ref (ad 290)]) (fun (v : Int) => inR v ∧ (false = true → isB v)) (fun (v : Int) => some (.int (i32 v))) 2 12 X Y hW hS hl.1 gc_L_119 hd_X5_depth ⟨rfl, rfl, (Nat.le_of_ble_eq_true rfl), (Nat.le_of_ble_eq_true rfl)⟩ (rc_X5 X hW) (fun cd v q9 q => ok_X5_depth hx1 hx2 q hst) (fun q => by rw [q] at hf; cases hf) rfl rfl (Nat.le_of_ble_eq_true rfl) dL_depth_5 ⟨(Nat.le_of_ble_eq_true rfl), (Nat.le_of_ble_eq_true rfl)⟩ (Nat.le_of_ble_eq_true rfl) (Nat.le_of_ble_eq_true rfl) (fun v σ1 H locs hF hv hW1 hS1 => ?_) (fun cd v σ1 H locs q cell hcd hF hW1 hS1 hce hcv hcl => ?_)
  · rw [hF] at hf
    have hf : some ((0 : Int), st σ1 290 0 v) = some (r, σ2) := hf
    refine W.eq (g2 := F0 m 8 ls [.int (i32 v), .int (i32 0), .ref (ad 290)]) rfl ?_
    refine m_i2l hx hb hv.1 dL_depth_8 ?_
    refine m_last X hW1 hS1 hv.1 dL_depth_9 (fun H locs hW2 hS2 => ?_)
    refine lv_goto (tgt := 17) hx hb dL_depth_10 (by decide) ?_
    refine m_const (v := 0) hx hb dL_depth_17 rfl ?_
    exact w_ret X hr hlocks (u := 0) (by decide) hW2 hS2 (Nat.le_of_ble_eq_true rfl) (Nat.le_of_ble_eq_true rfl) hf hQ dL_depth_18
  · rw [hF] at hf
    rcases (show cd = 1 ∨ cd = 2 ∨ cd = 3 ∨ 4 ≤ cd by omega) with rfl | rfl | rfl | hcd4
    · have hf : some ((1 : Int), σ1) = some (r, σ2) := hf
      refine vx_catch (name := exN 1) X.2.2.2.1 [] ⟨0, 10, 13, 13⟩ [] (by rw [hT]; rfl) (fun z hz => nomatch hz) rfl (by decide) (X.2.2.2.2.1 _ mw221) (va_Nw.use rfl (nc_IndexOutOfBoundsException hN)) hce hcv hcl ?_
      refine W.eq (g2 := F0 m 13 ls [.ref q]) rfl ?_
      refine lv_astore (lv' := [(4, .ref q), (0, .ref (ad 0)), (1, .int (i32 x1)), (2, .int (i32 x2)), (3, .ref (ad 290))]) hx hb dL_depth_13 hl (by decide) rfl (fun ls hl => ?_)
      refine m_const (v := 1) hx hb dL_depth_15 rfl ?_
      exact w_ret X hr hlocks (u := 1) (by decide) hW1 hS1 (Nat.le_of_ble_eq_true rfl) (Nat.le_of_ble_eq_true rfl) hf hQ dL_depth_16
    · cases hf
    · cases hf
    · obtain ⟨cd, rfl⟩ : ∃ k, cd = k + 4 := ⟨cd - 4, by omega⟩
      cases hf
set_option maxRecDepth 100000 in
set_option maxHeartbeats 4000000 in
theorem ok_L_level {l : Launch} {D : va_G} {cy : Nat → ClassId} {ad : Nat → Nat} {nm nv sz : Nat} {σ : St} {n : Nat} {x1 : Int} {x2 : Int} {r : Int} {σ2 : St} (hx1 : inR x1) (hx2 : inR x2) (hf : fL_level n σ x1 x2 = some (r, σ2)) (hst : l.stackTraces = false) : LM l yL_level cL_level 5 [(0, 10, 13, 13)] ({ frames := 8, cells := 2, slots := 12, locals := 186 } : Room) [.ref (ad 0), .int (i32 x1), .int (i32 x2), .ref (ad 290)] D cy ad nm nv sz σ 2 12 r σ2 := by
  refine w_entry RL rfl (by decide +kernel) (Nat.le_of_ble_eq_true rfl) ?_
  intro p e s m args below meth c Q hQ hr hlocks X Y Z hT hW hS ls hl
  have hx := X.1
  have hb := X.2.1
  have hN := X.2.2.2.2.2.2.2.2
  have hl : lv_has ls 5 [(0, .ref (ad 0)), (1, .int (i32 x1)), (2, .int (i32 x2)), (3, .ref (ad 290))] := hl
  unfold fL_level at hf
  refine lv_aload_n hx hb dL_level_0 rfl (lv_at hl 3 rfl) ?_
  refine m_const (v := 0) hx hb dL_level_1 rfl ?_
  refine lv_aload_n hx hb dL_level_2 rfl (lv_at hl 0 rfl) ?_
  refine lv_iload_n hx hb dL_level_3 rfl (lv_at hl 1 rfl) ?_
  refine lv_iload_n hx hb dL_level_4 rfl (lv_at hl 2 rfl) ?_
  refine w_callV (As := [.int (i32 x1), .int (i32 x2)]) (rest := [.int (i32 0), .ref (ad 290)]) (fun (v : Int) => inR v ∧ (false = true → isB v)) (fun (v : Int) => some (.int (i32 v))) 2 12 X Y hW hS hl.1 gc_L_122 hd_X5_level ⟨rfl, rfl, (Nat.le_of_ble_eq_true rfl), (Nat.le_of_ble_eq_true rfl)⟩ (rc_X5 X hW) (fun cd v q9 q => ok_X5_level hx1 hx2 q hst) (fun q => by rw [q] at hf; cases hf) rfl rfl (Nat.le_of_ble_eq_true rfl) dL_level_5 ⟨(Nat.le_of_ble_eq_true rfl), (Nat.le_of_ble_eq_true rfl)⟩ (Nat.le_of_ble_eq_true rfl) (Nat.le_of_ble_eq_true rfl) (fun v σ1 H locs hF hv hW1 hS1 => ?_) (fun cd v σ1 H locs q cell hcd hF hW1 hS1 hce hcv hcl => ?_)
  · rw [hF] at hf
    have hf : some ((0 : Int), st σ1 290 0 v) = some (r, σ2) := hf
    refine W.eq (g2 := F0 m 8 ls [.int (i32 v), .int (i32 0), .ref (ad 290)]) rfl ?_
    refine m_i2l hx hb hv.1 dL_level_8 ?_
    refine m_last X hW1 hS1 hv.1 dL_level_9 (fun H locs hW2 hS2 => ?_)
    refine lv_goto (tgt := 17) hx hb dL_level_10 (by decide) ?_
    refine m_const (v := 0) hx hb dL_level_17 rfl ?_
    exact w_ret X hr hlocks (u := 0) (by decide) hW2 hS2 (Nat.le_of_ble_eq_true rfl) (Nat.le_of_ble_eq_true rfl) hf hQ dL_level_18
  · rw [hF] at hf
    rcases (show cd = 1 ∨ cd = 2 ∨ cd = 3 ∨ 4 ≤ cd by omega) with rfl | rfl | rfl | hcd4
    · have hf : some ((1 : Int), σ1) = some (r, σ2) := hf
      refine vx_catch (name := exN 1) X.2.2.2.1 [] ⟨0, 10, 13, 13⟩ [] (by rw [hT]; rfl) (fun z hz => nomatch hz) rfl (by decide) (X.2.2.2.2.1 _ mw221) (va_Nw.use rfl (nc_IndexOutOfBoundsException hN)) hce hcv hcl ?_
      refine W.eq (g2 := F0 m 13 ls [.ref q]) rfl ?_
      refine lv_astore (lv' := [(4, .ref q), (0, .ref (ad 0)), (1, .int (i32 x1)), (2, .int (i32 x2)), (3, .ref (ad 290))]) hx hb dL_level_13 hl (by decide) rfl (fun ls hl => ?_)
      refine m_const (v := 1) hx hb dL_level_15 rfl ?_
      exact w_ret X hr hlocks (u := 1) (by decide) hW1 hS1 (Nat.le_of_ble_eq_true rfl) (Nat.le_of_ble_eq_true rfl) hf hQ dL_level_16
    · cases hf
    · cases hf
    · obtain ⟨cd, rfl⟩ : ∃ k, cd = k + 4 := ⟨cd - 4, by omega⟩
      cases hf
set_option maxRecDepth 100000 in
set_option maxHeartbeats 4000000 in
theorem ok_L_cursor {l : Launch} {D : va_G} {cy : Nat → ClassId} {ad : Nat → Nat} {nm nv sz : Nat} {σ : St} {n : Nat} {x1 : Int} {r : Int} {σ2 : St} (hx1 : inR x1) (hf : fL_cursor n σ x1 = some (r, σ2)) (hst : l.stackTraces = false) : LM l yL_cursor cL_cursor 4 [(0, 9, 12, 13)] ({ frames := 8, cells := 1, slots := 6, locals := 185 } : Room) [.ref (ad 0), .int (i32 x1), .ref (ad 290)] D cy ad nm nv sz σ 1 6 r σ2 := by
  refine w_entry RL rfl (by decide +kernel) (Nat.le_of_ble_eq_true rfl) ?_
  intro p e s m args below meth c Q hQ hr hlocks X Y Z hT hW hS ls hl
  have hx := X.1
  have hb := X.2.1
  have hN := X.2.2.2.2.2.2.2.2
  have hl : lv_has ls 4 [(0, .ref (ad 0)), (1, .int (i32 x1)), (2, .ref (ad 290))] := hl
  unfold fL_cursor at hf
  refine lv_aload_n hx hb dL_cursor_0 rfl (lv_at hl 2 rfl) ?_
  refine m_const (v := 0) hx hb dL_cursor_1 rfl ?_
  refine lv_aload_n hx hb dL_cursor_2 rfl (lv_at hl 0 rfl) ?_
  refine lv_iload_n hx hb dL_cursor_3 rfl (lv_at hl 1 rfl) ?_
  refine w_callV (As := [.int (i32 x1)]) (rest := [.int (i32 0), .ref (ad 290)]) (fun (v : Int) => inR v ∧ (false = true → isB v)) (fun (v : Int) => some (.int (i32 v))) 1 6 X Y hW hS hl.1 gc_L_125 hd_X5_cursor ⟨rfl, rfl, (Nat.le_of_ble_eq_true rfl), (Nat.le_of_ble_eq_true rfl)⟩ (rc_X5 X hW) (fun cd v q9 q => ok_X5_cursor hx1 q hst) (fun q => by rw [q] at hf; cases hf) rfl rfl (Nat.le_of_ble_eq_true rfl) dL_cursor_4 ⟨(Nat.le_of_ble_eq_true rfl), (Nat.le_of_ble_eq_true rfl)⟩ (Nat.le_of_ble_eq_true rfl) (Nat.le_of_ble_eq_true rfl) (fun v σ1 H locs hF hv hW1 hS1 => ?_) (fun cd v σ1 H locs q cell hcd hF hW1 hS1 hce hcv hcl => ?_)
  · rw [hF] at hf
    have hf : some ((0 : Int), st σ1 290 0 v) = some (r, σ2) := hf
    refine W.eq (g2 := F0 m 7 ls [.int (i32 v), .int (i32 0), .ref (ad 290)]) rfl ?_
    refine m_i2l hx hb hv.1 dL_cursor_7 ?_
    refine m_last X hW1 hS1 hv.1 dL_cursor_8 (fun H locs hW2 hS2 => ?_)
    refine lv_goto (tgt := 15) hx hb dL_cursor_9 (by decide) ?_
    refine m_const (v := 0) hx hb dL_cursor_15 rfl ?_
    exact w_ret X hr hlocks (u := 0) (by decide) hW2 hS2 (Nat.le_of_ble_eq_true rfl) (Nat.le_of_ble_eq_true rfl) hf hQ dL_cursor_16
  · rw [hF] at hf
    rcases (show cd = 1 ∨ cd = 2 ∨ cd = 3 ∨ 4 ≤ cd by omega) with rfl | rfl | rfl | hcd4
    · have hf : some ((1 : Int), σ1) = some (r, σ2) := hf
      refine vx_catch (name := exN 1) X.2.2.2.1 [] ⟨0, 9, 12, 13⟩ [] (by rw [hT]; rfl) (fun z hz => nomatch hz) rfl (by decide) (X.2.2.2.2.1 _ mw221) (va_Nw.use rfl (nc_IndexOutOfBoundsException hN)) hce hcv hcl ?_
      refine W.eq (g2 := F0 m 12 ls [.ref q]) rfl ?_
      refine lv_astore_n (lv' := [(3, .ref q), (0, .ref (ad 0)), (1, .int (i32 x1)), (2, .ref (ad 290))]) hx hb dL_cursor_12 rfl hl (by decide) rfl (fun ls hl => ?_)
      refine m_const (v := 1) hx hb dL_cursor_13 rfl ?_
      exact w_ret X hr hlocks (u := 1) (by decide) hW1 hS1 (Nat.le_of_ble_eq_true rfl) (Nat.le_of_ble_eq_true rfl) hf hQ dL_cursor_14
    · cases hf
    · cases hf
    · obtain ⟨cd, rfl⟩ : ∃ k, cd = k + 4 := ⟨cd - 4, by omega⟩
      cases hf
set_option maxRecDepth 100000 in
set_option maxHeartbeats 4000000 in
theorem ok_L_tail {l : Launch} {D : va_G} {cy : Nat → ClassId} {ad : Nat → Nat} {nm nv sz : Nat} {σ : St} {n : Nat} {x1 : Int} {r : Int} {σ2 : St} (hx1 : inR x1) (hf : fL_tail n σ x1 = some (r, σ2)) (hst : l.stackTraces = false) : LM l yL_tail cL_tail 4 [(0, 9, 12, 13)] ({ frames := 8, cells := 1, slots := 6, locals := 185 } : Room) [.ref (ad 0), .int (i32 x1), .ref (ad 290)] D cy ad nm nv sz σ 1 6 r σ2 := by
  refine w_entry RL rfl (by decide +kernel) (Nat.le_of_ble_eq_true rfl) ?_
  intro p e s m args below meth c Q hQ hr hlocks X Y Z hT hW hS ls hl
  have hx := X.1
  have hb := X.2.1
  have hN := X.2.2.2.2.2.2.2.2
  have hl : lv_has ls 4 [(0, .ref (ad 0)), (1, .int (i32 x1)), (2, .ref (ad 290))] := hl
  unfold fL_tail at hf
  refine lv_aload_n hx hb dL_tail_0 rfl (lv_at hl 2 rfl) ?_
  refine m_const (v := 0) hx hb dL_tail_1 rfl ?_
  refine lv_aload_n hx hb dL_tail_2 rfl (lv_at hl 0 rfl) ?_
  refine lv_iload_n hx hb dL_tail_3 rfl (lv_at hl 1 rfl) ?_
  refine w_callV (As := [.int (i32 x1)]) (rest := [.int (i32 0), .ref (ad 290)]) (fun (v : Int) => inR v ∧ (false = true → isB v)) (fun (v : Int) => some (.int (i32 v))) 1 6 X Y hW hS hl.1 gc_L_128 hd_X5_tail ⟨rfl, rfl, (Nat.le_of_ble_eq_true rfl), (Nat.le_of_ble_eq_true rfl)⟩ (rc_X5 X hW) (fun cd v q9 q => ok_X5_tail hx1 q hst) (fun q => by rw [q] at hf; cases hf) rfl rfl (Nat.le_of_ble_eq_true rfl) dL_tail_4 ⟨(Nat.le_of_ble_eq_true rfl), (Nat.le_of_ble_eq_true rfl)⟩ (Nat.le_of_ble_eq_true rfl) (Nat.le_of_ble_eq_true rfl) (fun v σ1 H locs hF hv hW1 hS1 => ?_) (fun cd v σ1 H locs q cell hcd hF hW1 hS1 hce hcv hcl => ?_)
  · rw [hF] at hf
    have hf : some ((0 : Int), st σ1 290 0 v) = some (r, σ2) := hf
    refine W.eq (g2 := F0 m 7 ls [.int (i32 v), .int (i32 0), .ref (ad 290)]) rfl ?_
    refine m_i2l hx hb hv.1 dL_tail_7 ?_
    refine m_last X hW1 hS1 hv.1 dL_tail_8 (fun H locs hW2 hS2 => ?_)
    refine lv_goto (tgt := 15) hx hb dL_tail_9 (by decide) ?_
    refine m_const (v := 0) hx hb dL_tail_15 rfl ?_
    exact w_ret X hr hlocks (u := 0) (by decide) hW2 hS2 (Nat.le_of_ble_eq_true rfl) (Nat.le_of_ble_eq_true rfl) hf hQ dL_tail_16
  · rw [hF] at hf
    rcases (show cd = 1 ∨ cd = 2 ∨ cd = 3 ∨ 4 ≤ cd by omega) with rfl | rfl | rfl | hcd4
    · have hf : some ((1 : Int), σ1) = some (r, σ2) := hf
      refine vx_catch (name := exN 1) X.2.2.2.1 [] ⟨0, 9, 12, 13⟩ [] (by rw [hT]; rfl) (fun z hz => nomatch hz) rfl (by decide) (X.2.2.2.2.1 _ mw221) (va_Nw.use rfl (nc_IndexOutOfBoundsException hN)) hce hcv hcl ?_
      refine W.eq (g2 := F0 m 12 ls [.ref q]) rfl ?_
      refine lv_astore_n (lv' := [(3, .ref q), (0, .ref (ad 0)), (1, .int (i32 x1)), (2, .ref (ad 290))]) hx hb dL_tail_12 rfl hl (by decide) rfl (fun ls hl => ?_)
      refine m_const (v := 1) hx hb dL_tail_13 rfl ?_
      exact w_ret X hr hlocks (u := 1) (by decide) hW1 hS1 (Nat.le_of_ble_eq_true rfl) (Nat.le_of_ble_eq_true rfl) hf hQ dL_tail_14
    · cases hf
    · cases hf
    · obtain ⟨cd, rfl⟩ : ∃ k, cd = k + 4 := ⟨cd - 4, by omega⟩
      cases hf
set_option maxRecDepth 100000 in
set_option maxHeartbeats 4000000 in
theorem ok_L_graves {l : Launch} {D : va_G} {cy : Nat → ClassId} {ad : Nat → Nat} {nm nv sz : Nat} {σ : St} {n : Nat} {x1 : Int} {r : Int} {σ2 : St} (hx1 : inR x1) (hf : fL_graves n σ x1 = some (r, σ2)) (hst : l.stackTraces = false) : LM l yL_graves cL_graves 4 [(0, 9, 12, 13)] ({ frames := 8, cells := 1, slots := 6, locals := 184 } : Room) [.ref (ad 0), .int (i32 x1), .ref (ad 290)] D cy ad nm nv sz σ 1 6 r σ2 := by
  refine w_entry RL rfl (by decide +kernel) (Nat.le_of_ble_eq_true rfl) ?_
  intro p e s m args below meth c Q hQ hr hlocks X Y Z hT hW hS ls hl
  have hx := X.1
  have hb := X.2.1
  have hN := X.2.2.2.2.2.2.2.2
  have hl : lv_has ls 4 [(0, .ref (ad 0)), (1, .int (i32 x1)), (2, .ref (ad 290))] := hl
  unfold fL_graves at hf
  refine lv_aload_n hx hb dL_graves_0 rfl (lv_at hl 2 rfl) ?_
  refine m_const (v := 0) hx hb dL_graves_1 rfl ?_
  refine lv_aload_n hx hb dL_graves_2 rfl (lv_at hl 0 rfl) ?_
  refine lv_iload_n hx hb dL_graves_3 rfl (lv_at hl 1 rfl) ?_
  refine w_callV (As := [.int (i32 x1)]) (rest := [.int (i32 0), .ref (ad 290)]) (fun (v : Int) => inR v ∧ (false = true → isB v)) (fun (v : Int) => some (.int (i32 v))) 1 6 X Y hW hS hl.1 gc_L_131 hd_X5_graves ⟨rfl, rfl, (Nat.le_of_ble_eq_true rfl), (Nat.le_of_ble_eq_true rfl)⟩ (rc_X5 X hW) (fun cd v q9 q => ok_X5_graves hx1 q hst) (fun q => by rw [q] at hf; cases hf) rfl rfl (Nat.le_of_ble_eq_true rfl) dL_graves_4 ⟨(Nat.le_of_ble_eq_true rfl), (Nat.le_of_ble_eq_true rfl)⟩ (Nat.le_of_ble_eq_true rfl) (Nat.le_of_ble_eq_true rfl) (fun v σ1 H locs hF hv hW1 hS1 => ?_) (fun cd v σ1 H locs q cell hcd hF hW1 hS1 hce hcv hcl => ?_)
  · rw [hF] at hf
    have hf : some ((0 : Int), st σ1 290 0 v) = some (r, σ2) := hf
    refine W.eq (g2 := F0 m 7 ls [.int (i32 v), .int (i32 0), .ref (ad 290)]) rfl ?_
    refine m_i2l hx hb hv.1 dL_graves_7 ?_
    refine m_last X hW1 hS1 hv.1 dL_graves_8 (fun H locs hW2 hS2 => ?_)
    refine lv_goto (tgt := 15) hx hb dL_graves_9 (by decide) ?_
    refine m_const (v := 0) hx hb dL_graves_15 rfl ?_
    exact w_ret X hr hlocks (u := 0) (by decide) hW2 hS2 (Nat.le_of_ble_eq_true rfl) (Nat.le_of_ble_eq_true rfl) hf hQ dL_graves_16
  · rw [hF] at hf
    rcases (show cd = 1 ∨ cd = 2 ∨ cd = 3 ∨ 4 ≤ cd by omega) with rfl | rfl | rfl | hcd4
    · have hf : some ((1 : Int), σ1) = some (r, σ2) := hf
      refine vx_catch (name := exN 1) X.2.2.2.1 [] ⟨0, 9, 12, 13⟩ [] (by rw [hT]; rfl) (fun z hz => nomatch hz) rfl (by decide) (X.2.2.2.2.1 _ mw221) (va_Nw.use rfl (nc_IndexOutOfBoundsException hN)) hce hcv hcl ?_
      refine W.eq (g2 := F0 m 12 ls [.ref q]) rfl ?_
      refine lv_astore_n (lv' := [(3, .ref q), (0, .ref (ad 0)), (1, .int (i32 x1)), (2, .ref (ad 290))]) hx hb dL_graves_12 rfl hl (by decide) rfl (fun ls hl => ?_)
      refine m_const (v := 1) hx hb dL_graves_13 rfl ?_
      exact w_ret X hr hlocks (u := 1) (by decide) hW1 hS1 (Nat.le_of_ble_eq_true rfl) (Nat.le_of_ble_eq_true rfl) hf hQ dL_graves_14
    · cases hf
    · cases hf
    · obtain ⟨cd, rfl⟩ : ∃ k, cd = k + 4 := ⟨cd - 4, by omega⟩
      cases hf
set_option maxRecDepth 100000 in
set_option maxHeartbeats 4000000 in
theorem ok_L_buried {l : Launch} {D : va_G} {cy : Nat → ClassId} {ad : Nat → Nat} {nm nv sz : Nat} {σ : St} {n : Nat} {x1 : Int} {r : Int} {σ2 : St} (hx1 : inR x1) (hf : fL_buried n σ x1 = some (r, σ2)) (hst : l.stackTraces = false) : LM l yL_buried cL_buried 4 [(0, 9, 12, 13)] ({ frames := 9, cells := 1, slots := 6, locals := 188 } : Room) [.ref (ad 0), .int (i32 x1), .ref (ad 290)] D cy ad nm nv sz σ 1 6 r σ2 := by
  refine w_entry RL rfl (by decide +kernel) (Nat.le_of_ble_eq_true rfl) ?_
  intro p e s m args below meth c Q hQ hr hlocks X Y Z hT hW hS ls hl
  have hx := X.1
  have hb := X.2.1
  have hN := X.2.2.2.2.2.2.2.2
  have hl : lv_has ls 4 [(0, .ref (ad 0)), (1, .int (i32 x1)), (2, .ref (ad 290))] := hl
  unfold fL_buried at hf
  refine lv_aload_n hx hb dL_buried_0 rfl (lv_at hl 2 rfl) ?_
  refine m_const (v := 0) hx hb dL_buried_1 rfl ?_
  refine lv_aload_n hx hb dL_buried_2 rfl (lv_at hl 0 rfl) ?_
  refine lv_iload_n hx hb dL_buried_3 rfl (lv_at hl 1 rfl) ?_
  refine w_callV (As := [.int (i32 x1)]) (rest := [.int (i32 0), .ref (ad 290)]) (fun (v : Int) => inR v ∧ (false = true → isB v)) (fun (v : Int) => some (.int (i32 v))) 1 6 X Y hW hS hl.1 gc_L_134 hd_X5_buried ⟨rfl, rfl, (Nat.le_of_ble_eq_true rfl), (Nat.le_of_ble_eq_true rfl)⟩ (rc_X5 X hW) (fun cd v q9 q => ok_X5_buried hx1 q hst) (fun q => by rw [q] at hf; cases hf) rfl rfl (Nat.le_of_ble_eq_true rfl) dL_buried_4 ⟨(Nat.le_of_ble_eq_true rfl), (Nat.le_of_ble_eq_true rfl)⟩ (Nat.le_of_ble_eq_true rfl) (Nat.le_of_ble_eq_true rfl) (fun v σ1 H locs hF hv hW1 hS1 => ?_) (fun cd v σ1 H locs q cell hcd hF hW1 hS1 hce hcv hcl => ?_)
  · rw [hF] at hf
    have hf : some ((0 : Int), st σ1 290 0 v) = some (r, σ2) := hf
    refine W.eq (g2 := F0 m 7 ls [.int (i32 v), .int (i32 0), .ref (ad 290)]) rfl ?_
    refine m_i2l hx hb hv.1 dL_buried_7 ?_
    refine m_last X hW1 hS1 hv.1 dL_buried_8 (fun H locs hW2 hS2 => ?_)
    refine lv_goto (tgt := 15) hx hb dL_buried_9 (by decide) ?_
    refine m_const (v := 0) hx hb dL_buried_15 rfl ?_
    exact w_ret X hr hlocks (u := 0) (by decide) hW2 hS2 (Nat.le_of_ble_eq_true rfl) (Nat.le_of_ble_eq_true rfl) hf hQ dL_buried_16
  · rw [hF] at hf
    rcases (show cd = 1 ∨ cd = 2 ∨ cd = 3 ∨ 4 ≤ cd by omega) with rfl | rfl | rfl | hcd4
    · have hf : some ((1 : Int), σ1) = some (r, σ2) := hf
      refine vx_catch (name := exN 1) X.2.2.2.1 [] ⟨0, 9, 12, 13⟩ [] (by rw [hT]; rfl) (fun z hz => nomatch hz) rfl (by decide) (X.2.2.2.2.1 _ mw221) (va_Nw.use rfl (nc_IndexOutOfBoundsException hN)) hce hcv hcl ?_
      refine W.eq (g2 := F0 m 12 ls [.ref q]) rfl ?_
      refine lv_astore_n (lv' := [(3, .ref q), (0, .ref (ad 0)), (1, .int (i32 x1)), (2, .ref (ad 290))]) hx hb dL_buried_12 rfl hl (by decide) rfl (fun ls hl => ?_)
      refine m_const (v := 1) hx hb dL_buried_13 rfl ?_
      exact w_ret X hr hlocks (u := 1) (by decide) hW1 hS1 (Nat.le_of_ble_eq_true rfl) (Nat.le_of_ble_eq_true rfl) hf hQ dL_buried_14
    · cases hf
    · cases hf
    · obtain ⟨cd, rfl⟩ : ∃ k, cd = k + 4 := ⟨cd - 4, by omega⟩
      cases hf
set_option maxRecDepth 100000 in
set_option maxHeartbeats 4000000 in
theorem ok_L_has {l : Launch} {D : va_G} {cy : Nat → ClassId} {ad : Nat → Nat} {nm nv sz : Nat} {σ : St} {x1 : Int} {r : Int} {σ2 : St} (hx1 : inR x1) (hf : fL_has σ x1 = some (r, σ2)) (hst : l.stackTraces = false) : LM l yL_has cL_has 4 [(0, 9, 12, 13)] ({ frames := 8, cells := 1, slots := 6, locals := 132 } : Room) [.ref (ad 0), .int (i32 x1), .ref (ad 290)] D cy ad nm nv sz σ 1 6 r σ2 := by
  refine w_entry RL rfl (by decide +kernel) (Nat.le_of_ble_eq_true rfl) ?_
  intro p e s m args below meth c Q hQ hr hlocks X Y Z hT hW hS ls hl
  have hx := X.1
  have hb := X.2.1
  have hN := X.2.2.2.2.2.2.2.2
  have hl : lv_has ls 4 [(0, .ref (ad 0)), (1, .int (i32 x1)), (2, .ref (ad 290))] := hl
  unfold fL_has at hf
  refine lv_aload_n hx hb dL_has_0 rfl (lv_at hl 2 rfl) ?_
  refine m_const (v := 0) hx hb dL_has_1 rfl ?_
  refine lv_aload_n hx hb dL_has_2 rfl (lv_at hl 0 rfl) ?_
  refine lv_iload_n hx hb dL_has_3 rfl (lv_at hl 1 rfl) ?_
  refine w_callV (As := [.int (i32 x1)]) (rest := [.int (i32 0), .ref (ad 290)]) (fun (v : Int) => inR v ∧ (false = true → isB v)) (fun (v : Int) => some (.int (i32 v))) 1 6 X Y hW hS hl.1 gc_L_137 hd_X5_has ⟨rfl, rfl, (Nat.le_of_ble_eq_true rfl), (Nat.le_of_ble_eq_true rfl)⟩ (rc_X5 X hW) (fun cd v q9 q => ok_X5_has hx1 q hst) (fun q => by rw [q] at hf; cases hf) rfl rfl (Nat.le_of_ble_eq_true rfl) dL_has_4 ⟨(Nat.le_of_ble_eq_true rfl), (Nat.le_of_ble_eq_true rfl)⟩ (Nat.le_of_ble_eq_true rfl) (Nat.le_of_ble_eq_true rfl) (fun v σ1 H locs hF hv hW1 hS1 => ?_) (fun cd v σ1 H locs q cell hcd hF hW1 hS1 hce hcv hcl => ?_)
  · rw [hF] at hf
    have hf : some ((0 : Int), st σ1 290 0 v) = some (r, σ2) := hf
    refine W.eq (g2 := F0 m 7 ls [.int (i32 v), .int (i32 0), .ref (ad 290)]) rfl ?_
    refine m_i2l hx hb hv.1 dL_has_7 ?_
    refine m_last X hW1 hS1 hv.1 dL_has_8 (fun H locs hW2 hS2 => ?_)
    refine lv_goto (tgt := 15) hx hb dL_has_9 (by decide) ?_
    refine m_const (v := 0) hx hb dL_has_15 rfl ?_
    exact w_ret X hr hlocks (u := 0) (by decide) hW2 hS2 (Nat.le_of_ble_eq_true rfl) (Nat.le_of_ble_eq_true rfl) hf hQ dL_has_16
  · rw [hF] at hf
    rcases (show cd = 1 ∨ cd = 2 ∨ cd = 3 ∨ 4 ≤ cd by omega) with rfl | rfl | rfl | hcd4
    · have hf : some ((1 : Int), σ1) = some (r, σ2) := hf
      refine vx_catch (name := exN 1) X.2.2.2.1 [] ⟨0, 9, 12, 13⟩ [] (by rw [hT]; rfl) (fun z hz => nomatch hz) rfl (by decide) (X.2.2.2.2.1 _ mw221) (va_Nw.use rfl (nc_IndexOutOfBoundsException hN)) hce hcv hcl ?_
      refine W.eq (g2 := F0 m 12 ls [.ref q]) rfl ?_
      refine lv_astore_n (lv' := [(3, .ref q), (0, .ref (ad 0)), (1, .int (i32 x1)), (2, .ref (ad 290))]) hx hb dL_has_12 rfl hl (by decide) rfl (fun ls hl => ?_)
      refine m_const (v := 1) hx hb dL_has_13 rfl ?_
      exact w_ret X hr hlocks (u := 1) (by decide) hW1 hS1 (Nat.le_of_ble_eq_true rfl) (Nat.le_of_ble_eq_true rfl) hf hQ dL_has_14
    · cases hf
    · cases hf
    · obtain ⟨cd, rfl⟩ : ∃ k, cd = k + 4 := ⟨cd - 4, by omega⟩
      cases hf
set_option maxRecDepth 100000 in
set_option maxHeartbeats 4000000 in
theorem ok_L_actAt {l : Launch} {D : va_G} {cy : Nat → ClassId} {ad : Nat → Nat} {nm nv sz : Nat} {σ : St} {n : Nat} {x1 : Int} {x2 : Int} {r : Int} {σ2 : St} (hx1 : inR x1) (hx2 : inR x2) (hf : fL_actAt n σ x1 x2 = some (r, σ2)) (hst : l.stackTraces = false) : LM l yL_actAt cL_actAt 5 [(0, 10, 13, 13)] ({ frames := 8, cells := 2, slots := 12, locals := 137 } : Room) [.ref (ad 0), .int (i32 x1), .int (i32 x2), .ref (ad 290)] D cy ad nm nv sz σ 2 12 r σ2 := by
  refine w_entry RL rfl (by decide +kernel) (Nat.le_of_ble_eq_true rfl) ?_
  intro p e s m args below meth c Q hQ hr hlocks X Y Z hT hW hS ls hl
  have hx := X.1
  have hb := X.2.1
  have hN := X.2.2.2.2.2.2.2.2
  have hl : lv_has ls 5 [(0, .ref (ad 0)), (1, .int (i32 x1)), (2, .int (i32 x2)), (3, .ref (ad 290))] := hl
  unfold fL_actAt at hf
  refine lv_aload_n hx hb dL_actAt_0 rfl (lv_at hl 3 rfl) ?_
  refine m_const (v := 0) hx hb dL_actAt_1 rfl ?_
  refine lv_aload_n hx hb dL_actAt_2 rfl (lv_at hl 0 rfl) ?_
  refine lv_iload_n hx hb dL_actAt_3 rfl (lv_at hl 1 rfl) ?_
  refine lv_iload_n hx hb dL_actAt_4 rfl (lv_at hl 2 rfl) ?_
  refine w_callV (As := [.int (i32 x1), .int (i32 x2)]) (rest := [.int (i32 0), .ref (ad 290)]) (fun (v : Int) => inR v ∧ (false = true → isB v)) (fun (v : Int) => some (.int (i32 v))) 2 12 X Y hW hS hl.1 gc_L_140 hd_X5_actAt ⟨rfl, rfl, (Nat.le_of_ble_eq_true rfl), (Nat.le_of_ble_eq_true rfl)⟩ (rc_X5 X hW) (fun cd v q9 q => ok_X5_actAt hx1 hx2 q hst) (fun q => by rw [q] at hf; cases hf) rfl rfl (Nat.le_of_ble_eq_true rfl) dL_actAt_5 ⟨(Nat.le_of_ble_eq_true rfl), (Nat.le_of_ble_eq_true rfl)⟩ (Nat.le_of_ble_eq_true rfl) (Nat.le_of_ble_eq_true rfl) (fun v σ1 H locs hF hv hW1 hS1 => ?_) (fun cd v σ1 H locs q cell hcd hF hW1 hS1 hce hcv hcl => ?_)
  · rw [hF] at hf
    have hf : some ((0 : Int), st σ1 290 0 v) = some (r, σ2) := hf
    refine W.eq (g2 := F0 m 8 ls [.int (i32 v), .int (i32 0), .ref (ad 290)]) rfl ?_
    refine m_i2l hx hb hv.1 dL_actAt_8 ?_
    refine m_last X hW1 hS1 hv.1 dL_actAt_9 (fun H locs hW2 hS2 => ?_)
    refine lv_goto (tgt := 17) hx hb dL_actAt_10 (by decide) ?_
    refine m_const (v := 0) hx hb dL_actAt_17 rfl ?_
    exact w_ret X hr hlocks (u := 0) (by decide) hW2 hS2 (Nat.le_of_ble_eq_true rfl) (Nat.le_of_ble_eq_true rfl) hf hQ dL_actAt_18
  · rw [hF] at hf
    rcases (show cd = 1 ∨ cd = 2 ∨ cd = 3 ∨ 4 ≤ cd by omega) with rfl | rfl | rfl | hcd4
    · have hf : some ((1 : Int), σ1) = some (r, σ2) := hf
      refine vx_catch (name := exN 1) X.2.2.2.1 [] ⟨0, 10, 13, 13⟩ [] (by rw [hT]; rfl) (fun z hz => nomatch hz) rfl (by decide) (X.2.2.2.2.1 _ mw221) (va_Nw.use rfl (nc_IndexOutOfBoundsException hN)) hce hcv hcl ?_
      refine W.eq (g2 := F0 m 13 ls [.ref q]) rfl ?_
      refine lv_astore (lv' := [(4, .ref q), (0, .ref (ad 0)), (1, .int (i32 x1)), (2, .int (i32 x2)), (3, .ref (ad 290))]) hx hb dL_actAt_13 hl (by decide) rfl (fun ls hl => ?_)
      refine m_const (v := 1) hx hb dL_actAt_15 rfl ?_
      exact w_ret X hr hlocks (u := 1) (by decide) hW1 hS1 (Nat.le_of_ble_eq_true rfl) (Nat.le_of_ble_eq_true rfl) hf hQ dL_actAt_16
    · cases hf
    · cases hf
    · obtain ⟨cd, rfl⟩ : ∃ k, cd = k + 4 := ⟨cd - 4, by omega⟩
      cases hf
set_option maxRecDepth 100000 in
set_option maxHeartbeats 4000000 in
theorem ok_L_act {l : Launch} {D : va_G} {cy : Nat → ClassId} {ad : Nat → Nat} {nm nv sz : Nat} {σ : St} {x1 : Int} {r : Int} {σ2 : St} (hx1 : inR x1) (hf : fL_act σ x1 = some (r, σ2)) (hst : l.stackTraces = false) : LM l yL_act cL_act 4 [(0, 9, 12, 13)] ({ frames := 7, cells := 1, slots := 6, locals := 111 } : Room) [.ref (ad 0), .int (i32 x1), .ref (ad 290)] D cy ad nm nv sz σ 1 6 r σ2 := by
  refine w_entry RL rfl (by decide +kernel) (Nat.le_of_ble_eq_true rfl) ?_
  intro p e s m args below meth c Q hQ hr hlocks X Y Z hT hW hS ls hl
  have hx := X.1
  have hb := X.2.1
  have hN := X.2.2.2.2.2.2.2.2
  have hl : lv_has ls 4 [(0, .ref (ad 0)), (1, .int (i32 x1)), (2, .ref (ad 290))] := hl
  unfold fL_act at hf
  refine lv_aload_n hx hb dL_act_0 rfl (lv_at hl 2 rfl) ?_
  refine m_const (v := 0) hx hb dL_act_1 rfl ?_
  refine lv_aload_n hx hb dL_act_2 rfl (lv_at hl 0 rfl) ?_
  refine lv_iload_n hx hb dL_act_3 rfl (lv_at hl 1 rfl) ?_
  refine w_callV (As := [.int (i32 x1)]) (rest := [.int (i32 0), .ref (ad 290)]) (fun (v : Int) => inR v ∧ (false = true → isB v)) (fun (v : Int) => some (.int (i32 v))) 1 6 X Y hW hS hl.1 gc_L_143 hd_X5_act ⟨rfl, rfl, (Nat.le_of_ble_eq_true rfl), (Nat.le_of_ble_eq_true rfl)⟩ (rc_X5 X hW) (fun cd v q9 q => ok_X5_act hx1 q hst) (fun q => by rw [q] at hf; cases hf) rfl rfl (Nat.le_of_ble_eq_true rfl) dL_act_4 ⟨(Nat.le_of_ble_eq_true rfl), (Nat.le_of_ble_eq_true rfl)⟩ (Nat.le_of_ble_eq_true rfl) (Nat.le_of_ble_eq_true rfl) (fun v σ1 H locs hF hv hW1 hS1 => ?_) (fun cd v σ1 H locs q cell hcd hF hW1 hS1 hce hcv hcl => ?_)
  · rw [hF] at hf
    have hf : some ((0 : Int), st σ1 290 0 v) = some (r, σ2) := hf
    refine W.eq (g2 := F0 m 7 ls [.int (i32 v), .int (i32 0), .ref (ad 290)]) rfl ?_
    refine m_i2l hx hb hv.1 dL_act_7 ?_
    refine m_last X hW1 hS1 hv.1 dL_act_8 (fun H locs hW2 hS2 => ?_)
    refine lv_goto (tgt := 15) hx hb dL_act_9 (by decide) ?_
    refine m_const (v := 0) hx hb dL_act_15 rfl ?_
    exact w_ret X hr hlocks (u := 0) (by decide) hW2 hS2 (Nat.le_of_ble_eq_true rfl) (Nat.le_of_ble_eq_true rfl) hf hQ dL_act_16
  · rw [hF] at hf
    rcases (show cd = 1 ∨ cd = 2 ∨ cd = 3 ∨ 4 ≤ cd by omega) with rfl | rfl | rfl | hcd4
    · have hf : some ((1 : Int), σ1) = some (r, σ2) := hf
      refine vx_catch (name := exN 1) X.2.2.2.1 [] ⟨0, 9, 12, 13⟩ [] (by rw [hT]; rfl) (fun z hz => nomatch hz) rfl (by decide) (X.2.2.2.2.1 _ mw221) (va_Nw.use rfl (nc_IndexOutOfBoundsException hN)) hce hcv hcl ?_
      refine W.eq (g2 := F0 m 12 ls [.ref q]) rfl ?_
      refine lv_astore_n (lv' := [(3, .ref q), (0, .ref (ad 0)), (1, .int (i32 x1)), (2, .ref (ad 290))]) hx hb dL_act_12 rfl hl (by decide) rfl (fun ls hl => ?_)
      refine m_const (v := 1) hx hb dL_act_13 rfl ?_
      exact w_ret X hr hlocks (u := 1) (by decide) hW1 hS1 (Nat.le_of_ble_eq_true rfl) (Nat.le_of_ble_eq_true rfl) hf hQ dL_act_14
    · cases hf
    · cases hf
    · obtain ⟨cd, rfl⟩ : ∃ k, cd = k + 4 := ⟨cd - 4, by omega⟩
      cases hf
set_option maxRecDepth 100000 in
set_option maxHeartbeats 4000000 in
theorem ok_L_isUndone {l : Launch} {D : va_G} {cy : Nat → ClassId} {ad : Nat → Nat} {nm nv sz : Nat} {σ : St} {n : Nat} {x1 : Int} {x2 : Int} {r : Int} {σ2 : St} (hx1 : inR x1) (hx2 : inR x2) (hf : fL_isUndone n σ x1 x2 = some (r, σ2)) (hst : l.stackTraces = false) : LM l yL_isUndone cL_isUndone 5 [(0, 17, 20, 13)] ({ frames := 8, cells := 2, slots := 12, locals := 186 } : Room) [.ref (ad 0), .int (i32 x1), .int (i32 x2), .ref (ad 290)] D cy ad nm nv sz σ 2 12 r σ2 := by
  refine w_entry RL rfl (by decide +kernel) (Nat.le_of_ble_eq_true rfl) ?_
  intro p e s m args below meth c Q hQ hr hlocks X Y Z hT hW hS ls hl
  have hx := X.1
  have hb := X.2.1
  have hN := X.2.2.2.2.2.2.2.2
  have hl : lv_has ls 5 [(0, .ref (ad 0)), (1, .int (i32 x1)), (2, .int (i32 x2)), (3, .ref (ad 290))] := hl
  unfold fL_isUndone at hf
  refine lv_aload_n hx hb dL_isUndone_0 rfl (lv_at hl 3 rfl) ?_
  refine m_const (v := 0) hx hb dL_isUndone_1 rfl ?_
  refine lv_aload_n hx hb dL_isUndone_2 rfl (lv_at hl 0 rfl) ?_
  refine lv_iload_n hx hb dL_isUndone_3 rfl (lv_at hl 1 rfl) ?_
  refine lv_iload_n hx hb dL_isUndone_4 rfl (lv_at hl 2 rfl) ?_
  refine w_callV (As := [.int (i32 x1), .int (i32 x2)]) (rest := [.int (i32 0), .ref (ad 290)]) (fun (v : Int) => inR v ∧ (true = true → isB v)) (fun (v : Int) => some (.int (i32 v))) 2 12 X Y hW hS hl.1 gc_L_146 hd_X5_isUndone ⟨rfl, rfl, (Nat.le_of_ble_eq_true rfl), (Nat.le_of_ble_eq_true rfl)⟩ (rc_X5 X hW) (fun cd v q9 q => ok_X5_isUndone hx1 hx2 q hst) (fun q => by rw [q] at hf; cases hf) rfl rfl (Nat.le_of_ble_eq_true rfl) dL_isUndone_5 ⟨(Nat.le_of_ble_eq_true rfl), (Nat.le_of_ble_eq_true rfl)⟩ (Nat.le_of_ble_eq_true rfl) (Nat.le_of_ble_eq_true rfl) (fun v σ1 H locs hF hv hW1 hS1 => ?_) (fun cd v σ1 H locs q cell hcd hF hW1 hS1 hce hcv hcl => ?_)
  · rw [hF] at hf
    refine W.eq (g2 := F0 m 8 ls [.int (i32 v), .int (i32 0), .ref (ad 290)]) rfl ?_
    rcases hv.2 rfl with rfl | rfl
    · have hf : some ((0 : Int), st σ1 290 0 0) = some (r, σ2) := hf
      refine lv_if_eq (tgt := 15) hx hb dL_isUndone_8 (by decide) (fun _ => ?_) (fun q => absurd rfl q)
      refine m_lconst (v := 0) hx hb rfl dL_isUndone_15 ?_
      refine m_last X hW1 hS1 (by decide) dL_isUndone_16 (fun H locs hW2 hS2 => ?_)
      refine lv_goto (tgt := 24) hx hb dL_isUndone_17 (by decide) ?_
      refine m_const (v := 0) hx hb dL_isUndone_24 rfl ?_
      exact w_ret X hr hlocks (u := 0) (by decide) hW2 hS2 (Nat.le_of_ble_eq_true rfl) (Nat.le_of_ble_eq_true rfl) hf hQ dL_isUndone_25
    · have hf : some ((0 : Int), st σ1 290 0 1) = some (r, σ2) := hf
      refine lv_if_eq (tgt := 15) hx hb dL_isUndone_8 (by decide) (fun q => absurd q (by decide)) (fun _ => ?_)
      refine m_lconst (v := 1) hx hb rfl dL_isUndone_11 ?_
      refine lv_goto (tgt := 16) hx hb dL_isUndone_12 (by decide) ?_
      refine m_last X hW1 hS1 (by decide) dL_isUndone_16 (fun H locs hW2 hS2 => ?_)
      refine lv_goto (tgt := 24) hx hb dL_isUndone_17 (by decide) ?_
      refine m_const (v := 0) hx hb dL_isUndone_24 rfl ?_
      exact w_ret X hr hlocks (u := 0) (by decide) hW2 hS2 (Nat.le_of_ble_eq_true rfl) (Nat.le_of_ble_eq_true rfl) hf hQ dL_isUndone_25
  · rw [hF] at hf
    rcases (show cd = 1 ∨ cd = 2 ∨ cd = 3 ∨ 4 ≤ cd by omega) with rfl | rfl | rfl | hcd4
    · have hf : some ((1 : Int), σ1) = some (r, σ2) := hf
      refine vx_catch (name := exN 1) X.2.2.2.1 [] ⟨0, 17, 20, 13⟩ [] (by rw [hT]; rfl) (fun z hz => nomatch hz) rfl (by decide) (X.2.2.2.2.1 _ mw221) (va_Nw.use rfl (nc_IndexOutOfBoundsException hN)) hce hcv hcl ?_
      refine W.eq (g2 := F0 m 20 ls [.ref q]) rfl ?_
      refine lv_astore (lv' := [(4, .ref q), (0, .ref (ad 0)), (1, .int (i32 x1)), (2, .int (i32 x2)), (3, .ref (ad 290))]) hx hb dL_isUndone_20 hl (by decide) rfl (fun ls hl => ?_)
      refine m_const (v := 1) hx hb dL_isUndone_22 rfl ?_
      exact w_ret X hr hlocks (u := 1) (by decide) hW1 hS1 (Nat.le_of_ble_eq_true rfl) (Nat.le_of_ble_eq_true rfl) hf hQ dL_isUndone_23
    · cases hf
    · cases hf
    · obtain ⟨cd, rfl⟩ : ∃ k, cd = k + 4 := ⟨cd - 4, by omega⟩
      cases hf
