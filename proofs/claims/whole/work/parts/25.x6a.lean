theorem gc_X6_130 : GoodIn GW (wsS RX6 130 yX6_isIn (wsG yX6_isIn cX6_isIn 3 (some .boolean))) := cg_S mw1193 mw1194 mw6 mw1195
theorem gc_X6_140 : GoodIn GW (wsV RX6 140 RX6 yX6_isBehind (wsG yX6_isBehind cX6_isBehind 3 (some .boolean))) := cg_V mw1212 mw1214 ms37 mw6 mw1215
theorem gc_X6_147 : GoodIn GW (wsV RX6 147 RX6 yX6_isShown (wsG yX6_isShown cX6_isShown 2 (some .boolean))) := cg_V mw1236 mw1238 ms43 mw6 mw1239
theorem gc_X6_151 : GoodIn GW (wsV RX6 151 RX6 yX6_spot (wsG yX6_spot cX6_spot 3 (some .int))) := cg_V mw1228 mw1230 ms41 mw6 mw1231
theorem gc_X6_155 : GoodIn GW (wsV RX6 155 RX6 yX6_blockAt (wsG yX6_blockAt cX6_blockAt 4 (some .int))) := cg_V mw1232 mw1234 ms42 mw6 mw1235
theorem gc_X6_172 : GoodIn GW (wsV RX6 172 RX6 yX6_blockOf (wsG yX6_blockOf cX6_blockOf 2 (some .int))) := cg_V mw1224 mw1226 ms40 mw6 mw1227
theorem gc_X6_175 : GoodIn GW (wsV RX6 175 RX6 yX6_levelIn (wsG yX6_levelIn cX6_levelIn 3 (some .int))) := cg_V mw1240 mw1242 ms44 mw6 mw1243
theorem gc_X6_189 : GoodIn GW (wsV RX6 189 RX6 yX6_isSeen (wsG yX6_isSeen cX6_isSeen 2 (some .boolean))) := cg_V mw1268 mw1270 ms51 mw6 mw1271
theorem gc_X6_192 : GoodIn GW (wsV RX6 192 RX6 yX6_isDone (wsG yX6_isDone cX6_isDone 2 (some .boolean))) := cg_V mw1260 mw1262 ms49 mw6 mw1263
theorem gc_X6_195 : GoodIn GW (wsV RX6 195 RX6 yX6_isOpen (wsG yX6_isOpen cX6_isOpen 2 (some .boolean))) := cg_V mw1264 mw1266 ms50 mw6 mw1267
theorem gc_X6_198 : GoodIn GW (wsV RX6 198 RX6 yX6_elementOf (wsG yX6_elementOf cX6_elementOf 2 (some .int))) := cg_V mw1272 mw1274 ms52 mw6 mw1275
theorem gc_X6_169 : GoodIn GW (wsV RX6 169 RX6 yX6_removes (wsG yX6_removes cX6_removes 5 none)) := cg_V mw1244 mw1246 ms45 mw6 mw1247
theorem gc_X6_166 : GoodIn GW (wsV RX6 166 RX6 yX6_puts (wsG yX6_puts cX6_puts 6 none)) := cg_V mw1220 mw1222 ms39 mw6 mw1223
theorem gc_X6_179 : GoodIn GW (wsV RX6 179 RX6 yX6_spans (wsG yX6_spans cX6_spans 5 none)) := cg_V mw1248 mw1250 ms46 mw6 mw1251
theorem gc_X6_182 : GoodIn GW (wsV RX6 182 RX6 yX6_comesTo (wsG yX6_comesTo cX6_comesTo 4 (some .boolean))) := cg_V mw1252 mw1254 ms47 mw6 mw1255
theorem gc_X6_185 : GoodIn GW (wsV RX6 185 RX6 yX6_decides (wsG yX6_decides cX6_decides 5 none)) := cg_V mw1256 mw1258 ms48 mw6 mw1259
theorem gc_X6_158 : GoodIn GW (wsV RX6 158 RX6 yX6_orders (wsG yX6_orders cX6_orders 5 none)) := cg_V mw1208 mw1210 ms36 mw6 mw1211
theorem gc_X6_162 : GoodIn GW (wsV RX6 162 RX6 yX6_does (wsG yX6_does cX6_does 3 none)) := cg_V mw1216 mw1218 ms38 mw6 mw1219
theorem gc_X6_201 : GoodIn GW (wsV RX6 201 RX6 yX6_finds (wsG yX6_finds cX6_finds 4 none)) := cg_V mw1204 mw1206 ms35 mw6 mw1207
theorem gc_X6_204 : GoodIn GW (wsV RX6 204 RX6 yX6_gets (wsG yX6_gets cX6_gets 3 none)) := cg_V mw1280 mw1282 ms54 mw6 mw1283
theorem gc_X6_208 : GoodIn GW (wsV RX6 208 RX6 yX6_findsSite (wsG yX6_findsSite cX6_findsSite 2 none)) := cg_V mw1200 mw1202 ms34 mw6 mw1203
theorem gc_X6_211 : GoodIn GW (wsV RX6 211 RX6 yX6_makes (wsG yX6_makes cX6_makes 9 (some .int))) := cg_V mw1276 mw1278 ms53 mw6 mw1279
theorem hd_X6_isIn : yX6_isIn.cls = RX6 ∧ yX6_isIn.cls ≠ "java/lang/invoke/MethodHandle" ∧ yX6_isIn.cls ≠ "java/lang/invoke/VarHandle" ∧ (parseMethodDescriptor yX6_isIn.desc).map (fun d => d.parameters.length) = some 3 := by decide +kernel
theorem hd_X6_isBehind : yX6_isBehind.cls = RX6 ∧ yX6_isBehind.cls ≠ "java/lang/invoke/MethodHandle" ∧ yX6_isBehind.cls ≠ "java/lang/invoke/VarHandle" ∧ (parseMethodDescriptor yX6_isBehind.desc).map (fun d => d.parameters.length) = some 2 := by decide +kernel
theorem hd_X6_isShown : yX6_isShown.cls = RX6 ∧ yX6_isShown.cls ≠ "java/lang/invoke/MethodHandle" ∧ yX6_isShown.cls ≠ "java/lang/invoke/VarHandle" ∧ (parseMethodDescriptor yX6_isShown.desc).map (fun d => d.parameters.length) = some 1 := by decide +kernel
theorem hd_X6_spot : yX6_spot.cls = RX6 ∧ yX6_spot.cls ≠ "java/lang/invoke/MethodHandle" ∧ yX6_spot.cls ≠ "java/lang/invoke/VarHandle" ∧ (parseMethodDescriptor yX6_spot.desc).map (fun d => d.parameters.length) = some 1 := by decide +kernel
theorem hd_X6_blockAt : yX6_blockAt.cls = RX6 ∧ yX6_blockAt.cls ≠ "java/lang/invoke/MethodHandle" ∧ yX6_blockAt.cls ≠ "java/lang/invoke/VarHandle" ∧ (parseMethodDescriptor yX6_blockAt.desc).map (fun d => d.parameters.length) = some 1 := by decide +kernel
theorem hd_X6_blockOf : yX6_blockOf.cls = RX6 ∧ yX6_blockOf.cls ≠ "java/lang/invoke/MethodHandle" ∧ yX6_blockOf.cls ≠ "java/lang/invoke/VarHandle" ∧ (parseMethodDescriptor yX6_blockOf.desc).map (fun d => d.parameters.length) = some 1 := by decide +kernel
theorem hd_X6_levelIn : yX6_levelIn.cls = RX6 ∧ yX6_levelIn.cls ≠ "java/lang/invoke/MethodHandle" ∧ yX6_levelIn.cls ≠ "java/lang/invoke/VarHandle" ∧ (parseMethodDescriptor yX6_levelIn.desc).map (fun d => d.parameters.length) = some 2 := by decide +kernel
theorem hd_X6_isSeen : yX6_isSeen.cls = RX6 ∧ yX6_isSeen.cls ≠ "java/lang/invoke/MethodHandle" ∧ yX6_isSeen.cls ≠ "java/lang/invoke/VarHandle" ∧ (parseMethodDescriptor yX6_isSeen.desc).map (fun d => d.parameters.length) = some 1 := by decide +kernel
theorem hd_X6_isDone : yX6_isDone.cls = RX6 ∧ yX6_isDone.cls ≠ "java/lang/invoke/MethodHandle" ∧ yX6_isDone.cls ≠ "java/lang/invoke/VarHandle" ∧ (parseMethodDescriptor yX6_isDone.desc).map (fun d => d.parameters.length) = some 1 := by decide +kernel
theorem hd_X6_isOpen : yX6_isOpen.cls = RX6 ∧ yX6_isOpen.cls ≠ "java/lang/invoke/MethodHandle" ∧ yX6_isOpen.cls ≠ "java/lang/invoke/VarHandle" ∧ (parseMethodDescriptor yX6_isOpen.desc).map (fun d => d.parameters.length) = some 1 := by decide +kernel
theorem hd_X6_elementOf : yX6_elementOf.cls = RX6 ∧ yX6_elementOf.cls ≠ "java/lang/invoke/MethodHandle" ∧ yX6_elementOf.cls ≠ "java/lang/invoke/VarHandle" ∧ (parseMethodDescriptor yX6_elementOf.desc).map (fun d => d.parameters.length) = some 1 := by decide +kernel
theorem hd_X6_removes : yX6_removes.cls = RX6 ∧ yX6_removes.cls ≠ "java/lang/invoke/MethodHandle" ∧ yX6_removes.cls ≠ "java/lang/invoke/VarHandle" ∧ (parseMethodDescriptor yX6_removes.desc).map (fun d => d.parameters.length) = some 1 := by decide +kernel
theorem hd_X6_puts : yX6_puts.cls = RX6 ∧ yX6_puts.cls ≠ "java/lang/invoke/MethodHandle" ∧ yX6_puts.cls ≠ "java/lang/invoke/VarHandle" ∧ (parseMethodDescriptor yX6_puts.desc).map (fun d => d.parameters.length) = some 1 := by decide +kernel
theorem hd_X6_spans : yX6_spans.cls = RX6 ∧ yX6_spans.cls ≠ "java/lang/invoke/MethodHandle" ∧ yX6_spans.cls ≠ "java/lang/invoke/VarHandle" ∧ (parseMethodDescriptor yX6_spans.desc).map (fun d => d.parameters.length) = some 1 := by decide +kernel
theorem hd_X6_comesTo : yX6_comesTo.cls = RX6 ∧ yX6_comesTo.cls ≠ "java/lang/invoke/MethodHandle" ∧ yX6_comesTo.cls ≠ "java/lang/invoke/VarHandle" ∧ (parseMethodDescriptor yX6_comesTo.desc).map (fun d => d.parameters.length) = some 2 := by decide +kernel
theorem hd_X6_decides : yX6_decides.cls = RX6 ∧ yX6_decides.cls ≠ "java/lang/invoke/MethodHandle" ∧ yX6_decides.cls ≠ "java/lang/invoke/VarHandle" ∧ (parseMethodDescriptor yX6_decides.desc).map (fun d => d.parameters.length) = some 3 := by decide +kernel
theorem hd_X6_orders : yX6_orders.cls = RX6 ∧ yX6_orders.cls ≠ "java/lang/invoke/MethodHandle" ∧ yX6_orders.cls ≠ "java/lang/invoke/VarHandle" ∧ (parseMethodDescriptor yX6_orders.desc).map (fun d => d.parameters.length) = some 2 := by decide +kernel
theorem hd_X6_does : yX6_does.cls = RX6 ∧ yX6_does.cls ≠ "java/lang/invoke/MethodHandle" ∧ yX6_does.cls ≠ "java/lang/invoke/VarHandle" ∧ (parseMethodDescriptor yX6_does.desc).map (fun d => d.parameters.length) = some 1 := by decide +kernel
theorem hd_X6_finds : yX6_finds.cls = RX6 ∧ yX6_finds.cls ≠ "java/lang/invoke/MethodHandle" ∧ yX6_finds.cls ≠ "java/lang/invoke/VarHandle" ∧ (parseMethodDescriptor yX6_finds.desc).map (fun d => d.parameters.length) = some 2 := by decide +kernel
theorem hd_X6_gets : yX6_gets.cls = RX6 ∧ yX6_gets.cls ≠ "java/lang/invoke/MethodHandle" ∧ yX6_gets.cls ≠ "java/lang/invoke/VarHandle" ∧ (parseMethodDescriptor yX6_gets.desc).map (fun d => d.parameters.length) = some 2 := by decide +kernel
theorem hd_X6_findsSite : yX6_findsSite.cls = RX6 ∧ yX6_findsSite.cls ≠ "java/lang/invoke/MethodHandle" ∧ yX6_findsSite.cls ≠ "java/lang/invoke/VarHandle" ∧ (parseMethodDescriptor yX6_findsSite.desc).map (fun d => d.parameters.length) = some 1 := by decide +kernel
theorem hd_X6_makes : yX6_makes.cls = RX6 ∧ yX6_makes.cls ≠ "java/lang/invoke/MethodHandle" ∧ yX6_makes.cls ≠ "java/lang/invoke/VarHandle" ∧ (parseMethodDescriptor yX6_makes.desc).map (fun d => d.parameters.length) = some 7 := by decide +kernel
noncomputable def fX6_thrown (σ : St) : Option Int := some (σ 230 0)
noncomputable def fX6_fails (σ : St) (x1 : Int) : Option (Int × St) := pf σ 230 0 x1 (fun σ1 => some (0, σ1))
noncomputable def fX6_isIn (x0 : Int) (x1 : Int) (x2 : Int) : Option Int := if x0 < x1 then (some 0) else (if x2 < x0 then (some 0) else (some 1))
noncomputable def fX6_isSite (x0 : Int) : Option Int := b1 (fX6_isIn x0 0 3) (fun v1 => some v1)
noncomputable def fX6_hasAct (σ : St) (x1 : Int) (x2 : Int) : Option Int := ck ((σ 230 1) - 1) (fun v1 => b1 (fX6_isIn x2 0 v1) (fun v2 => if v2 = 0 then (some 0) else (ck (160 * x1) (fun v3 => ck (v3 + x2) (fun v4 => rd σ 243 640 v4 (fun v5 => if v5 = 0 then (some 0) else (some 1)))))))
noncomputable def fX6_isBehind (σ : St) (x1 : Int) (x2 : Int) : Option Int := rd σ 234 160 x1 (fun v1 => rd σ 234 160 x2 (fun v2 => if v1 = v2 then (rd σ 233 160 x1 (fun v3 => rd σ 233 160 x2 (fun v4 => if v3 ≤ v4 then (some 0) else (some 1)))) else (rd σ 234 160 x1 (fun v5 => rd σ 234 160 x2 (fun v6 => if v5 ≤ v6 then (some 0) else (some 1))))))
noncomputable def fX6_orders_J85 (n : Nat) (lp7 : (St → Int → Option St)) (σ : St) (o1 : Nat) (x2 : Int) (x3 : Int) (x4 : Int) : Option St := wr σ 261 160 x4 x3 (fun σ20 => ck ((σ20 230 29) + 1) (fun v21 => pf σ20 230 29 v21 (fun σ22 => ck (x3 + 1) (fun v23 => lp7 σ22 v23))))
noncomputable def fX6_orders_L41s (n : Nat) (lp7 : (St → Int → Option St)) (o1 : Nat) (x2 : Int) (x3 : Int) (lp41 : (St → Int → Option St)) : St → Int → Option St := fun σ x4 => if x4 ≤ 0 then (fX6_orders_J85 n lp7 σ o1 x2 x3 x4) else (ck (x4 - 1) (fun v9 => rd σ 261 160 v9 (fun v10 => b1 (fX6_isBehind σ v10 x3) (fun v11 => if v11 = 0 then (fX6_orders_J85 n lp7 σ o1 x2 x3 x4) else (ck (x4 - 1) (fun v12 => rd σ 261 160 v12 (fun v13 => wr σ 261 160 x4 v13 (fun σ14 => ck (x4 + (-1)) (fun v15 => lp41 σ14 v15)))))))))
noncomputable def fX6_orders_L41 (n : Nat) (lp7 : (St → Int → Option St)) (o1 : Nat) (x2 : Int) (x3 : Int) (k : Nat) : St → Int → Option St := lpR (fun _ _ => none) (fX6_orders_L41s n lp7 o1 x2 x3) k
noncomputable def fX6_orders_J174 (n : Nat) (lp134 : (St → Int → Option St)) (σ : St) (o1 : Nat) (x2 : Int) (x3 : Int) (x4 : Int) : Option St := rd σ 236 160 x4 (fun v24 => rd σ 235 160 x4 (fun v25 => if v25 ≠ 11 then (wrb σ 262 160 v24 0 (fun σ26 => ck (x3 + 1) (fun v27 => lp134 σ26 v27))) else (wrb σ 262 160 v24 1 (fun σ28 => ck (x3 + 1) (fun v29 => lp134 σ28 v29)))))
noncomputable def fX6_orders_L134s (n : Nat) (o1 : Nat) (x2 : Int) (lp134 : (St → Int → Option St)) : St → Int → Option St := fun σ x3 => if σ 230 29 ≤ x3 then (some σ) else (rd σ 261 160 x3 (fun v16 => rd σ 235 160 v16 (fun v17 => if v17 = 11 then (fX6_orders_J174 n lp134 σ o1 x2 x3 v16) else (rd σ 235 160 v16 (fun v18 => if v18 ≠ 12 then (ck (x3 + 1) (fun v19 => lp134 σ v19)) else (fX6_orders_J174 n lp134 σ o1 x2 x3 v16))))))
noncomputable def fX6_orders_L134 (n : Nat) (o1 : Nat) (x2 : Int) (k : Nat) : St → Int → Option St := lpR (fun _ _ => none) (fX6_orders_L134s n o1 x2) k
noncomputable def fX6_orders_L111s (n : Nat) (o1 : Nat) (x2 : Int) (lp111 : (St → Int → Option St)) : St → Int → Option St := fun σ x3 => if σ 230 1 ≤ x3 then (fX6_orders_L134 n o1 x2 n σ 0) else (wrb σ 262 160 x3 0 (fun σ7 => ck (x3 + 1) (fun v8 => lp111 σ7 v8)))
noncomputable def fX6_orders_L111 (n : Nat) (o1 : Nat) (x2 : Int) (k : Nat) : St → Int → Option St := lpR (fun _ _ => none) (fX6_orders_L111s n o1 x2) k
noncomputable def fX6_orders_L7s (n : Nat) (o1 : Nat) (x2 : Int) (lp7 : (St → Int → Option St)) : St → Int → Option St := fun σ x3 => if σ 230 1 ≤ x3 then (fX6_orders_L111 n o1 x2 n σ 0) else (ck (x2 + x3) (fun v2 => rd σ o1 (ln o1) v2 (fun v3 => wrb σ 259 160 x3 v3 (fun σ4 => rd σ4 259 160 x3 (fun v5 => if v5 = 0 then (ck (x3 + 1) (fun v6 => lp7 σ4 v6)) else (fX6_orders_L41 n lp7 o1 x2 x3 n σ4 (σ4 230 29)))))))
noncomputable def fX6_orders_L7 (n : Nat) (o1 : Nat) (x2 : Int) (k : Nat) : St → Int → Option St := lpR (fun _ _ => none) (fX6_orders_L7s n o1 x2) k
noncomputable def fX6_orders (n : Nat) (σ : St) (o1 : Nat) (x2 : Int) : Option St := pf σ 230 29 0 (fun σ1 => fX6_orders_L7 n o1 x2 n σ1 0)
noncomputable def fX6_spot_L2s (n : Nat) (σ : St) (x1 : Int) (lp2 : (Int → Option Int)) : Int → Option Int := fun x2 => if σ 230 32 ≤ x2 then (some x2) else (rd σ 264 160 x2 (fun v1 => if v1 = x1 then (some x2) else (ck (x2 + 1) (fun v2 => lp2 v2))))
noncomputable def fX6_spot_L2 (n : Nat) (σ : St) (x1 : Int) (k : Nat) : Int → Option Int := lpR (fun _ => none) (fX6_spot_L2s n σ x1) k
noncomputable def fX6_spot (n : Nat) (σ : St) (x1 : Int) : Option Int := fX6_spot_L2 n σ x1 n 0
noncomputable def fX6_isSeen (σ : St) (x1 : Int) : Option Int := rd σ 265 160 x1 (fun v1 => if v1 = 2 then (some 0) else (rd σ 266 160 x1 (fun v2 => if v2 ≠ 0 then (some 0) else (some 1))))
noncomputable def fX6_isShown (σ : St) (x1 : Int) : Option Int := rd σ 265 160 x1 (fun v1 => if v1 ≠ 0 then (some 0) else (rd σ 266 160 x1 (fun v2 => if v2 ≠ 0 then (some 0) else (some 1))))
noncomputable def fX6_blockAt_L4s (n : Nat) (σ : St) (x1 : Int) (lp4 : (Int → Int → Option Int)) : Int → Int → Option Int := fun x2 x3 => if x1 < x3 then (some x2) else (if σ 230 32 ≤ x3 then (some x2) else (rd σ 264 160 x3 (fun v1 => rd σ 235 160 v1 (fun v2 => if v2 ≠ 1 then (ck (x3 + 1) (fun v3 => lp4 x2 v3)) else (rd σ 264 160 x3 (fun v4 => b1 (fX6_isShown σ v4) (fun v5 => if v5 = 0 then (ck (x3 + 1) (fun v6 => lp4 x2 v6)) else (rd σ 264 160 x3 (fun v7 => ck (x3 + 1) (fun v8 => lp4 v7 v8))))))))))
noncomputable def fX6_blockAt_L4 (n : Nat) (σ : St) (x1 : Int) (k : Nat) : Int → Int → Option Int := lpR (fun _ _ => none) (fX6_blockAt_L4s n σ x1) k
noncomputable def fX6_blockAt (n : Nat) (σ : St) (x1 : Int) : Option Int := fX6_blockAt_L4 n σ x1 n (-1) 0
noncomputable def fX6_blockOf (n : Nat) (σ : St) (x1 : Int) : Option Int := if x1 ≠ (-1) then (b1 (fX6_spot n σ x1) (fun v1 => b1 (fX6_blockAt n σ v1) (fun v2 => some v2))) else (some (-1))
noncomputable def fX6_levelIn (σ : St) (x1 : Int) (x2 : Int) : Option Int := if x1 ≠ 0 then (ck (161 * x1) (fun v1 => ck (v1 + x2) (fun v2 => ck (v2 + 1) (fun v3 => rd σ 272 644 v3 (fun v4 => some v4))))) else (some 0)
noncomputable def fX6_puts_J192 (n : Nat) (σ : St) (x1 : Int) (x3 : Int) (x4 : Int) (t0 : Int) : Option St := vl (band x4 1) (fun v26 => vl (band x4 t0) (fun v27 => vl (band v27 2) (fun v28 => vl (bor v26 v28) (fun v29 => wr σ 267 160 x1 v29 (fun σ30 => if x3 = 0 then (wr σ30 268 160 x1 0 (fun σ31 => some σ31)) else (ck ((σ30 230 32) - 1) (fun v32 => if x3 ≠ v32 then (ck (x3 - 1) (fun v33 => rd σ30 264 160 v33 (fun v34 => rd σ30 268 160 v34 (fun v35 => ck (x3 + 1) (fun v36 => rd σ30 264 160 v36 (fun v37 => rd σ30 268 160 v37 (fun v38 => vl (band v35 v38) (fun v39 => wr σ30 268 160 x1 v39 (fun σ40 => some σ40))))))))) else (wr σ30 268 160 x1 0 (fun σ41 => some σ41)))))))))
noncomputable def fX6_puts_J163 (n : Nat) (σ : St) (x1 : Int) (x3 : Int) (t0 : Int) : Option St := ck ((σ 230 32) - 1) (fun v22 => if x3 ≠ v22 then (ck (x3 + 1) (fun v23 => rd σ 264 160 v23 (fun v24 => rd σ 267 160 v24 (fun v25 => fX6_puts_J192 n σ x1 x3 t0 v25)))) else (fX6_puts_J192 n σ x1 x3 t0 0))
noncomputable def fX6_puts_L97s (n : Nat) (x1 : Int) (x3 : Int) (lp97 : (St → Int → Option St)) : St → Int → Option St := fun σ x4 => if x4 ≤ x3 then (wr σ 264 160 x3 x1 (fun σ12 => ck ((σ12 230 32) + 1) (fun v13 => pf σ12 230 32 v13 (fun σ14 => if x3 ≠ 0 then (ck (x3 - 1) (fun v15 => rd σ14 264 160 v15 (fun v16 => rd σ14 267 160 v16 (fun v17 => fX6_puts_J163 n σ14 x1 x3 v17)))) else (fX6_puts_J163 n σ14 x1 x3 0))))) else (ck (x4 - 1) (fun v18 => rd σ 264 160 v18 (fun v19 => wr σ 264 160 x4 v19 (fun σ20 => ck (x4 + (-1)) (fun v21 => lp97 σ20 v21)))))
noncomputable def fX6_puts_L97 (n : Nat) (x1 : Int) (x3 : Int) (k : Nat) : St → Int → Option St := lpR (fun _ _ => none) (fX6_puts_L97s n x1 x3) k
noncomputable def fX6_puts_J63 (n : Nat) (σ : St) (x1 : Int) (t0 : Int) (t1 : Int) : Option St := wr σ 265 160 t1 t0 (fun σ7 => rd σ7 236 160 x1 (fun v8 => if v8 ≠ (-1) then (rd σ7 236 160 x1 (fun v9 => b1 (fX6_spot n σ7 v9) (fun v10 => ck (v10 + 1) (fun v11 => fX6_puts_L97 n x1 v11 n σ7 (σ7 230 32))))) else (fX6_puts_L97 n x1 0 n σ7 (σ7 230 32))))
noncomputable def fX6_puts_J40 (n : Nat) (σ : St) (x1 : Int) (t0 : Int) : Option St := fX6_puts_J63 n σ x1 2 t0
noncomputable def fX6_puts_J58 (n : Nat) (σ : St) (x1 : Int) (t0 : Int) : Option St := fX6_puts_J63 n σ x1 1 t0
noncomputable def fX6_puts (n : Nat) (σ : St) (x1 : Int) : Option St := rd σ 233 160 x1 (fun v1 => rd σ 236 160 x1 (fun v2 => b1 (fX6_blockOf n σ v2) (fun v3 => b1 (fX6_levelIn σ v1 v3) (fun v4 => rd σ 262 160 x1 (fun v5 => if v5 ≠ 0 then (fX6_puts_J40 n σ x1 x1) else (if v4 ≠ 2 then (if v4 = 1 then (fX6_puts_J58 n σ x1 x1) else (rd σ 240 160 x1 (fun v6 => if v6 = 0 then (fX6_puts_J63 n σ x1 0 x1) else (fX6_puts_J58 n σ x1 x1)))) else (fX6_puts_J40 n σ x1 x1)))))))
noncomputable def fX6_removes_J78 (n : Nat) (σ : St) (x1 : Int) (x2 : Int) : Option St := wrb σ 266 160 x2 1 (fun σ10 => some σ10)
noncomputable def fX6_removes_J73 (n : Nat) (σ : St) (x1 : Int) (x2 : Int) (x4 : Int) : Option St := if x4 = 0 then (wrb σ 269 160 x1 1 (fun σ9 => some σ9)) else (fX6_removes_J78 n σ x1 x2)
noncomputable def fX6_removes_J58 (n : Nat) (σ : St) (x1 : Int) (x2 : Int) (x3 : Int) (t0 : Int) : Option St := if x3 ≠ 0 then (fX6_removes_J73 n σ x1 x2 t0) else (rd σ 240 160 x1 (fun v8 => if v8 = 0 then (fX6_removes_J78 n σ x1 x2) else (fX6_removes_J73 n σ x1 x2 t0)))
noncomputable def fX6_removes_J57 (n : Nat) (σ : St) (x1 : Int) (x2 : Int) (x3 : Int) : Option St := fX6_removes_J58 n σ x1 x2 x3 0
noncomputable def fX6_removes (n : Nat) (σ : St) (x1 : Int) : Option St := rd σ 236 160 x1 (fun v1 => rd σ 233 160 x1 (fun v2 => b1 (fX6_blockOf n σ v1) (fun v3 => b1 (fX6_levelIn σ v2 v3) (fun v4 => if v4 = 2 then (some σ) else (rd σ 265 160 v1 (fun v5 => if v5 ≠ 1 then (fX6_removes_J57 n σ x1 v1 v4) else (rd σ 233 160 v1 (fun v6 => rd σ 233 160 x1 (fun v7 => if v6 ≠ v7 then (fX6_removes_J57 n σ x1 v1 v4) else (fX6_removes_J58 n σ x1 v1 v4 1))))))))))
noncomputable def fX6_spans_L22s (n : Nat) (x1 : Int) (x2 : Int) (lp22 : (St → Int → Option St)) : St → Int → Option St := fun σ x3 => if x2 < x3 then (some σ) else (rd σ 235 160 x1 (fun v5 => if v5 ≠ 7 then (rd σ 233 160 x1 (fun v6 => b1 (fX6_blockAt n σ x3) (fun v7 => b1 (fX6_levelIn σ v6 v7) (fun v8 => if v8 ≠ 0 then (ck (x3 + 1) (fun v9 => lp22 σ v9)) else (rd σ 238 160 x1 (fun v10 => vl (bshl 1 v10) (fun v11 => rd σ 264 160 x3 (fun v12 => rd σ 239 160 x1 (fun v13 => if v13 ≠ 1 then (rd σ 264 160 x3 (fun v14 => rd σ 267 160 v14 (fun v15 => vl (bxor v11 (-1)) (fun v16 => vl (band v15 v16) (fun v17 => wr σ 267 160 v12 v17 (fun σ18 => ck (x3 + 1) (fun v19 => lp22 σ18 v19))))))) else (rd σ 264 160 x3 (fun v20 => rd σ 267 160 v20 (fun v21 => vl (bor v21 v11) (fun v22 => wr σ 267 160 v12 v22 (fun σ23 => ck (x3 + 1) (fun v24 => lp22 σ23 v24))))))))))))))) else (rd σ 264 160 x3 (fun v25 => rd σ 268 160 v25 (fun v26 => rd σ 242 160 x1 (fun v27 => vl (bshl 1 v27) (fun v28 => vl (bor v26 v28) (fun v29 => wr σ 268 160 v25 v29 (fun σ30 => ck (x3 + 1) (fun v31 => lp22 σ30 v31))))))))))
noncomputable def fX6_spans_L22 (n : Nat) (x1 : Int) (x2 : Int) (k : Nat) : St → Int → Option St := lpR (fun _ _ => none) (fX6_spans_L22s n x1 x2) k
noncomputable def fX6_spans (n : Nat) (σ : St) (x1 : Int) : Option St := rd σ 237 160 x1 (fun v1 => b1 (fX6_spot n σ v1) (fun v2 => rd σ 236 160 x1 (fun v3 => b1 (fX6_spot n σ v3) (fun v4 => fX6_spans_L22 n x1 v2 n σ v4))))
noncomputable def fX6_comesTo_J25 (n : Nat) (σ : St) (x1 : Int) (x2 : Int) (x3 : Int) : Option Int := if x3 = (-2) then (some 0) else (some 1)
noncomputable def fX6_comesTo_L2s (n : Nat) (σ : St) (x1 : Int) (x2 : Int) (lp2 : (Int → Option Int)) : Int → Option Int := fun x3 => if x3 = (-2) then (fX6_comesTo_J25 n σ x1 x2 x3) else (if x3 = x2 then (fX6_comesTo_J25 n σ x1 x2 x3) else (ck (x3 + 1) (fun v1 => rd σ 271 161 v1 (fun v2 => lp2 v2))))
noncomputable def fX6_comesTo_L2 (n : Nat) (σ : St) (x1 : Int) (x2 : Int) (k : Nat) : Int → Option Int := lpR (fun _ => none) (fX6_comesTo_L2s n σ x1 x2) k
noncomputable def fX6_comesTo (n : Nat) (σ : St) (x1 : Int) (x2 : Int) : Option Int := fX6_comesTo_L2 n σ x1 x2 n x1
noncomputable def fX6_isDone (n : Nat) (σ : St) (x1 : Int) : Option Int := rd σ 235 160 x1 (fun v1 => if v1 = 2 then (some 1) else (b1 (fX6_spot n σ x1) (fun v2 => if σ 230 32 ≤ v2 then (some 0) else (some 1))))
noncomputable def fX6_isOpen_J57 (σ : St) (x1 : Int) : Option Int := rd σ 265 160 x1 (fun v7 => if v7 ≠ 1 then (some 0) else (rd σ 266 160 x1 (fun v8 => if v8 ≠ 0 then (some 0) else (some 1))))
noncomputable def fX6_isOpen (σ : St) (x1 : Int) : Option Int := rd σ 235 160 x1 (fun v1 => if v1 ≠ 2 then (rd σ 235 160 x1 (fun v2 => if v2 = 0 then (fX6_isOpen_J57 σ x1) else (rd σ 235 160 x1 (fun v3 => if v3 ≠ 1 then (some 0) else (fX6_isOpen_J57 σ x1))))) else (rd σ 269 160 x1 (fun v4 => if v4 = 0 then (some 0) else (rd σ 236 160 x1 (fun v5 => b1 (fX6_isSeen σ v5) (fun v6 => if v6 = 0 then (some 0) else (some 1)))))))
noncomputable def fX6_elementOf (σ : St) (x1 : Int) : Option Int := rd σ 235 160 x1 (fun v1 => if v1 ≠ 2 then (some x1) else (rd σ 236 160 x1 (fun v2 => some v2)))
noncomputable def fX6_decides_J21 (n : Nat) (σ : St) (x1 : Int) (x2 : Int) (x3 : Int) (t0 : Int) : Option St := if t0 = 0 then (some σ) else (b1 (fX6_elementOf σ x1) (fun v3 => b1 (fX6_blockOf n σ v3) (fun v4 => b1 (fX6_levelIn σ x2 v4) (fun v5 => if v5 ≠ 0 then (some σ) else (rd σ 235 160 x1 (fun v6 => if v6 ≠ 2 then (if x3 = 0 then (wr σ 265 160 x1 2 (fun σ7 => some σ7)) else (wr σ 265 160 x1 0 (fun σ8 => some σ8))) else (wrb σ 269 160 x1 0 (fun σ9 => rd σ9 236 160 x1 (fun v10 => rd σ9 236 160 x1 (fun v11 => rd σ9 266 160 v11 (fun v12 => if v12 ≠ 0 then (wrb σ9 266 160 v10 1 (fun σ13 => some σ13)) else (if x3 = 0 then (wrb σ9 266 160 v10 0 (fun σ14 => some σ14)) else (wrb σ9 266 160 v10 1 (fun σ15 => some σ15))))))))))))))
noncomputable def fX6_decides_J20 (n : Nat) (σ : St) (x1 : Int) (x2 : Int) (x3 : Int) : Option St := fX6_decides_J21 n σ x1 x2 x3 0
noncomputable def fX6_decides (n : Nat) (σ : St) (x1 : Int) (x2 : Int) (x3 : Int) : Option St := b1 (fX6_isDone n σ x1) (fun v1 => if v1 = 0 then (fX6_decides_J20 n σ x1 x2 x3) else (b1 (fX6_isOpen σ x1) (fun v2 => if v2 = 0 then (fX6_decides_J20 n σ x1 x2 x3) else (fX6_decides_J21 n σ x1 x2 x3 1))))
noncomputable def fX6_does_J16 (n : Nat) (σ : St) (x1 : Int) : Option St := b1 (fX6_puts n σ x1) (fun σ21 => some σ21)
noncomputable def fX6_does_J118 (n : Nat) (σ : St) (x1 : Int) : Option St := b1 (fX6_spans n σ x1) (fun σ22 => some σ22)
noncomputable def fX6_does_J274 (n : Nat) (σ : St) (x1 : Int) (t0 : Int) (t1 : Int) (t2 : Int) : Option St := b1 (fX6_decides n σ t2 t1 t0) (fun σ42 => some σ42)
noncomputable def fX6_does_J250 (n : Nat) (σ : St) (x1 : Int) (x2 : Int) : Option St := rd σ 236 160 x1 (fun v40 => rd σ 233 160 x1 (fun v41 => if x2 ≠ 8 then (fX6_does_J274 n σ x1 0 v41 v40) else (fX6_does_J274 n σ x1 1 v41 v40)))
noncomputable def fX6_does_J238 (n : Nat) (σ : St) (x1 : Int) (x2 : Int) : Option St := if x2 = 8 then (fX6_does_J250 n σ x1 x2) else (if x2 ≠ 9 then (if x2 ≠ 10 then (some σ) else (rd σ 236 160 x1 (fun v33 => ck (161 * v33) (fun v34 => rd σ 237 160 x1 (fun v35 => ck (v34 + v35) (fun v36 => ck (v36 + 1) (fun v37 => rd σ 238 160 x1 (fun v38 => wr σ 272 644 v37 v38 (fun σ39 => some σ39))))))))) else (fX6_does_J250 n σ x1 x2))
noncomputable def fX6_does_J172 (n : Nat) (σ : St) (x1 : Int) (x2 : Int) : Option St := if x2 ≠ 6 then (fX6_does_J238 n σ x1 x2) else (rd σ 233 160 x1 (fun v23 => rd σ 236 160 x1 (fun v24 => b1 (fX6_levelIn σ v23 v24) (fun v25 => if v25 ≠ 0 then (fX6_does_J238 n σ x1 x2) else (rd σ 237 160 x1 (fun v26 => rd σ 236 160 x1 (fun v27 => b1 (fX6_comesTo n σ v26 v27) (fun v28 => if v28 ≠ 0 then (fX6_does_J238 n σ x1 x2) else (rd σ 236 160 x1 (fun v29 => ck (v29 + 1) (fun v30 => rd σ 237 160 x1 (fun v31 => wr σ 271 161 v30 v31 (fun σ32 => some σ32)))))))))))))
noncomputable def fX6_does (n : Nat) (σ : St) (x1 : Int) : Option St := rd σ 235 160 x1 (fun v1 => if v1 = 0 then (fX6_does_J16 n σ x1) else (if v1 ≠ 1 then (rd σ 262 160 x1 (fun v2 => if v2 ≠ 0 then (some σ) else (if v1 ≠ 2 then (if v1 ≠ 3 then (if v1 = 4 then (fX6_does_J118 n σ x1) else (if v1 ≠ 7 then (if v1 ≠ 5 then (fX6_does_J172 n σ x1 v1) else (rd σ 233 160 x1 (fun v3 => rd σ 236 160 x1 (fun v4 => b1 (fX6_levelIn σ v3 v4) (fun v5 => if v5 ≠ 0 then (fX6_does_J172 n σ x1 v1) else (rd σ 236 160 x1 (fun v6 => ck (v6 + 1) (fun v7 => rd σ 237 160 x1 (fun v8 => wr σ 270 161 v7 v8 (fun σ9 => some σ9)))))))))) else (fX6_does_J118 n σ x1))) else (rd σ 236 160 x1 (fun v10 => rd σ 236 160 x1 (fun v11 => rd σ 266 160 v11 (fun v12 => if v12 = 0 then (wrb σ 266 160 v10 0 (fun σ13 => some σ13)) else (rd σ 233 160 x1 (fun v14 => rd σ 236 160 x1 (fun v15 => b1 (fX6_blockOf n σ v15) (fun v16 => b1 (fX6_levelIn σ v14 v16) (fun v17 => if v17 = 0 then (wrb σ 266 160 v10 0 (fun σ18 => some σ18)) else (wrb σ 266 160 v10 1 (fun σ19 => some σ19)))))))))))) else (b1 (fX6_removes n σ x1) (fun σ20 => some σ20))))) else (fX6_does_J16 n σ x1)))
noncomputable def fX6_finds_L108s (n : Nat) (o1 : Nat) (x2 : Int) (lp108 : (St → Int → Option St)) : St → Int → Option St := fun σ x3 => if σ 230 29 ≤ x3 then (some σ) else (rd σ 261 160 x3 (fun v13 => b1 (fX6_does n σ v13) (fun σ14 => ck (x3 + 1) (fun v15 => lp108 σ14 v15))))
noncomputable def fX6_finds_L108 (n : Nat) (o1 : Nat) (x2 : Int) (k : Nat) : St → Int → Option St := lpR (fun _ _ => none) (fX6_finds_L108s n o1 x2) k
noncomputable def fX6_finds_L65s (n : Nat) (o1 : Nat) (x2 : Int) (lp65 : (St → Int → Option St)) : St → Int → Option St := fun σ x3 => if 160 ≤ x3 then (fX6_finds_L108 n o1 x2 n σ 0) else (wrb σ 266 160 x3 0 (fun σ8 => wr σ8 267 160 x3 0 (fun σ9 => wr σ9 268 160 x3 0 (fun σ10 => wrb σ10 269 160 x3 0 (fun σ11 => ck (x3 + 1) (fun v12 => lp65 σ11 v12))))))
noncomputable def fX6_finds_L65 (n : Nat) (o1 : Nat) (x2 : Int) (k : Nat) : St → Int → Option St := lpR (fun _ _ => none) (fX6_finds_L65s n o1 x2) k
noncomputable def fX6_finds_L43s (n : Nat) (o1 : Nat) (x2 : Int) (lp43 : (St → Int → Option St)) : St → Int → Option St := fun σ x3 => if 644 ≤ x3 then (fX6_finds_L65 n o1 x2 n σ 0) else (wr σ 272 644 x3 0 (fun σ6 => ck (x3 + 1) (fun v7 => lp43 σ6 v7)))
noncomputable def fX6_finds_L43 (n : Nat) (o1 : Nat) (x2 : Int) (k : Nat) : St → Int → Option St := lpR (fun _ _ => none) (fX6_finds_L43s n o1 x2) k
noncomputable def fX6_finds_L13s (n : Nat) (o1 : Nat) (x2 : Int) (lp13 : (St → Int → Option St)) : St → Int → Option St := fun σ x3 => if 160 < x3 then (fX6_finds_L43 n o1 x2 n σ 0) else (wr σ 270 161 x3 0 (fun σ3 => wr σ3 271 161 x3 (-2) (fun σ4 => ck (x3 + 1) (fun v5 => lp13 σ4 v5))))
noncomputable def fX6_finds_L13 (n : Nat) (o1 : Nat) (x2 : Int) (k : Nat) : St → Int → Option St := lpR (fun _ _ => none) (fX6_finds_L13s n o1 x2) k
noncomputable def fX6_finds (n : Nat) (σ : St) (o1 : Nat) (x2 : Int) : Option St := b1 (fX6_orders n σ o1 x2) (fun σ1 => pf σ1 230 32 0 (fun σ2 => fX6_finds_L13 n o1 x2 n σ2 0))
noncomputable def fX6_findsSite (n : Nat) (σ : St) (x1 : Int) : Option St := ck (160 * x1) (fun v1 => b1 (fX6_finds n σ 243 v1) (fun σ2 => some σ2))
noncomputable def fX6_seen_L4s (n : Nat) (σ : St) (lp4 : (Int → Int → Option Int)) : Int → Int → Option Int := fun x1 x2 => if σ 230 32 ≤ x2 then (some x1) else (rd σ 264 160 x2 (fun v1 => b1 (fX6_isSeen σ v1) (fun v2 => if v2 = 0 then (ck (x1 + 0) (fun v3 => ck (x2 + 1) (fun v4 => lp4 v3 v4))) else (ck (x1 + 1) (fun v5 => ck (x2 + 1) (fun v6 => lp4 v5 v6))))))
noncomputable def fX6_seen_L4 (n : Nat) (σ : St) (k : Nat) : Int → Int → Option Int := lpR (fun _ _ => none) (fX6_seen_L4s n σ) k
noncomputable def fX6_seen (n : Nat) (σ : St) : Option Int := fX6_seen_L4 n σ n 0 0
noncomputable def fX6_seenAt_L4s (n : Nat) (σ : St) (x1 : Int) (lp4 : (Int → Int → Option Int)) : Int → Int → Option Int := fun x2 x3 => if σ 230 32 ≤ x3 then (some (-1)) else (rd σ 264 160 x3 (fun v1 => b1 (fX6_isSeen σ v1) (fun v2 => if v2 = 0 then (ck (x3 + 1) (fun v3 => lp4 x2 v3)) else (if x2 ≠ x1 then (ck (x2 + 1) (fun v4 => ck (x3 + 1) (fun v5 => lp4 v4 v5))) else (rd σ 264 160 x3 (fun v6 => some v6))))))
noncomputable def fX6_seenAt_L4 (n : Nat) (σ : St) (x1 : Int) (k : Nat) : Int → Int → Option Int := lpR (fun _ _ => none) (fX6_seenAt_L4s n σ x1) k
noncomputable def fX6_seenAt (n : Nat) (σ : St) (x1 : Int) : Option Int := fX6_seenAt_L4 n σ x1 n 0 0
noncomputable def fX6_placeOf_L20s (n : Nat) (σ : St) (x1 : Int) (x2 : Int) (lp20 : (Int → Int → Option Int)) : Int → Int → Option Int := fun x3 x4 => if x2 < x4 then (some x3) else (rd σ 264 160 x4 (fun v2 => b1 (fX6_isSeen σ v2) (fun v3 => if v3 = 0 then (ck (x3 + 0) (fun v4 => ck (x4 + 1) (fun v5 => lp20 v4 v5))) else (ck (x3 + 1) (fun v6 => ck (x4 + 1) (fun v7 => lp20 v6 v7))))))
noncomputable def fX6_placeOf_L20 (n : Nat) (σ : St) (x1 : Int) (x2 : Int) (k : Nat) : Int → Int → Option Int := lpR (fun _ _ => none) (fX6_placeOf_L20s n σ x1 x2) k
noncomputable def fX6_placeOf (n : Nat) (σ : St) (x1 : Int) : Option Int := if x1 ≠ (-1) then (b1 (fX6_spot n σ x1) (fun v1 => fX6_placeOf_L20 n σ x1 v1 n 0 0)) else (fX6_placeOf_L20 n σ x1 (-1) n 0 0)
noncomputable def fX6_gets (σ : St) (x1 : Int) (x2 : Int) : Option St := ck (160 * x1) (fun v1 => ck (v1 + x2) (fun v2 => wrb σ 243 640 v2 1 (fun σ3 => ck (160 * x1) (fun v4 => rd σ3 245 4 x1 (fun v5 => ck (v4 + v5) (fun v6 => wr σ3 244 640 v6 x2 (fun σ7 => rd σ7 245 4 x1 (fun v8 => ck (v8 + 1) (fun v9 => wr σ7 245 4 x1 v9 (fun σ10 => rd σ10 234 160 x2 (fun v11 => rd σ10 247 4 x1 (fun v12 => if v11 ≤ v12 then (rd σ10 247 4 x1 (fun v13 => wr σ10 247 4 x1 v13 (fun σ14 => some σ14))) else (rd σ10 234 160 x2 (fun v15 => wr σ10 247 4 x1 v15 (fun σ16 => some σ16)))))))))))))))
noncomputable def fX6_makes (σ : St) (x1 : Int) (x2 : Int) (x3 : Int) (x4 : Int) (x5 : Int) (x6 : Int) (x7 : Int) : Option (Int × St) := wr σ 233 160 (σ 230 1) x1 (fun σ1 => rd σ1 247 4 x1 (fun v2 => ck (v2 + 1) (fun v3 => wr σ1 247 4 x1 v3 (fun σ4 => rd σ4 247 4 x1 (fun v5 => wr σ4 234 160 (σ 230 1) v5 (fun σ6 => wr σ6 235 160 (σ 230 1) x2 (fun σ7 => wr σ7 236 160 (σ 230 1) x3 (fun σ8 => wr σ8 237 160 (σ 230 1) x4 (fun σ9 => wr σ9 238 160 (σ 230 1) x5 (fun σ10 => wr σ10 239 160 (σ 230 1) x6 (fun σ11 => wrb σ11 240 160 (σ 230 1) x7 (fun σ12 => ck ((σ12 230 1) + 1) (fun v13 => pf σ12 230 1 v13 (fun σ14 => b1 (fX6_gets σ14 x1 (σ 230 1)) (fun σ15 => some (σ 230 1, σ15))))))))))))))))
noncomputable def fX6_writes_J48 (n : Nat) (σ : St) (x1 : Int) (x2 : Int) (x3 : Int) (t0 : Int) : Option (Int × St) := pf σ 230 0 t0 (fun σ5 => if σ5 230 0 ≤ 0 then (rd σ5 248 4 x1 (fun v6 => rd σ5 250 4 x1 (fun v7 => b2 (fX6_makes σ5 x1 x2 v6 x3 0 0 v7) (fun v9 σ8 => wr σ8 248 4 x1 v9 (fun σ10 => wr σ10 249 4 x1 v9 (fun σ11 => some (v9, σ11))))))) else (some (0, σ5)))
noncomputable def fX6_writes_J35 (n : Nat) (σ : St) (x1 : Int) (x2 : Int) (x3 : Int) : Option (Int × St) := if x2 ≠ 0 then (fX6_writes_J48 n σ x1 x2 x3 2) else (fX6_writes_J48 n σ x1 x2 x3 3)
noncomputable def fX6_writes (n : Nat) (σ : St) (x1 : Int) (x2 : Int) (x3 : Int) : Option (Int × St) := b1 (fX6_findsSite n σ x1) (fun σ1 => rd σ1 248 4 x1 (fun v2 => b1 (fX6_blockOf n σ1 v2) (fun v3 => b1 (fX6_levelIn σ1 x1 v3) (fun v4 => if v4 = 2 then (fX6_writes_J35 n σ1 x1 x2 x3) else (if σ1 230 1 ≠ 160 then (fX6_writes_J48 n σ1 x1 x2 x3 0) else (fX6_writes_J35 n σ1 x1 x2 x3))))))
set_option maxRecDepth 100000 in
set_option maxHeartbeats 4000000 in
theorem ok_X6_thrown {l : Launch} {D : va_G} {cy : Nat → ClassId} {ad : Nat → Nat} {nm nv sz : Nat} {σ : St} {r : Int} (hf : fX6_thrown σ = some r) : CI l yX6_thrown cX6_thrown 1 (some .int) ({ frames := 0, cells := 0, slots := 0, locals := 0 } : Room) [.ref (ad 230)] D cy ad nm nv sz σ false r σ := by
  refine m_entry RX6 rfl (by decide +kernel) (Nat.le_of_ble_eq_true rfl) ?_
  intro p e s m args below meth c Q hQ hr hlocks X hW hS ls hl
  have hx := X.1
  have hb := X.2.1
  have hl : lv_has ls 1 [(0, .ref (ad 230))] := hl
  unfold fX6_thrown at hf
  refine lv_aload_n hx hb dX6_thrown_0 rfl (lv_at hl 0 rfl) ?_
  refine g_X6_thrown X hW (X.2.2.2.2.1 _ mw1046) dX6_thrown_1 ?_
  exact m_ireti X hr hlocks rfl (hW.2.1 _ _) (fun h => Bool.noConfusion h) hW hS (Option.some.inj hf) rfl hQ dX6_thrown_4
set_option maxRecDepth 100000 in
set_option maxHeartbeats 4000000 in
theorem ok_X6_fails {l : Launch} {D : va_G} {cy : Nat → ClassId} {ad : Nat → Nat} {nm nv sz : Nat} {σ : St} {x1 : Int} {r : Int} {σ2 : St} (hx1 : inR x1) (hf : fX6_fails σ x1 = some (r, σ2)) : CI l yX6_fails cX6_fails 2 (some .int) ({ frames := 0, cells := 0, slots := 0, locals := 0 } : Room) [.ref (ad 230), .int (i32 x1)] D cy ad nm nv sz σ false r σ2 := by
  refine m_entry RX6 rfl (by decide +kernel) (Nat.le_of_ble_eq_true rfl) ?_
  intro p e s m args below meth c Q hQ hr hlocks X hW hS ls hl
  have hx := X.1
  have hb := X.2.1
  have hl : lv_has ls 2 [(0, .ref (ad 230)), (1, .int (i32 x1))] := hl
  unfold fX6_fails at hf
  refine lv_aload_n hx hb dX6_fails_0 rfl (lv_at hl 0 rfl) ?_
  refine lv_iload_n hx hb dX6_fails_1 rfl (lv_at hl 1 rfl) ?_
  refine p_X6_thrown X hW hS hx1 hf (X.2.2.2.2.1 _ mw1046) dX6_fails_2 (fun σ1 H locs hW1 hS1 hf => ?_)
  refine m_const (v := 0) hx hb dX6_fails_5 rfl ?_
  exact m_ireti X hr hlocks rfl (by decide) (fun h => Bool.noConfusion h) hW1 hS1 (congrArg Prod.fst (Option.some.inj hf)) (congrArg Prod.snd (Option.some.inj hf)) hQ dX6_fails_6
set_option maxRecDepth 100000 in
set_option maxHeartbeats 4000000 in
theorem ok_X6_isIn {l : Launch} {D : va_G} {cy : Nat → ClassId} {ad : Nat → Nat} {nm nv sz : Nat} {σ : St} {x0 : Int} {x1 : Int} {x2 : Int} {r : Int} (hx0 : inR x0) (hx1 : inR x1) (hx2 : inR x2) (hf : fX6_isIn x0 x1 x2 = some r) : CI l yX6_isIn cX6_isIn 3 (some .boolean) ({ frames := 0, cells := 0, slots := 0, locals := 0 } : Room) [.int (i32 x0), .int (i32 x1), .int (i32 x2)] D cy ad nm nv sz σ true r σ := by
  refine m_entry RX6 rfl (by decide +kernel) (Nat.le_of_ble_eq_true rfl) ?_
  intro p e s m args below meth c Q hQ hr hlocks X hW hS ls hl
  have hx := X.1
  have hb := X.2.1
  have hl : lv_has ls 3 [(0, .int (i32 x0)), (1, .int (i32 x1)), (2, .int (i32 x2))] := hl
  unfold fX6_isIn at hf
  refine lv_iload_n hx hb dX6_isIn_0 rfl (lv_at hl 0 rfl) ?_
  refine lv_iload_n hx hb dX6_isIn_1 rfl (lv_at hl 1 rfl) ?_
  refine m_icmp_lt (tgt := 14) hx hb hx0 hx1 hf dX6_isIn_2 (by decide) (fun hf => ?_) (fun hf => ?_)
  · skip
    refine m_const (v := 0) hx hb dX6_isIn_14 rfl ?_
    exact m_ireti X hr hlocks (nar_b (Or.inl rfl)).1 (by decide) (fun _ => (Or.inl rfl)) hW hS (Option.some.inj hf) rfl hQ dX6_isIn_15
  · skip
    refine lv_iload_n hx hb dX6_isIn_5 rfl (lv_at hl 0 rfl) ?_
    refine lv_iload_n hx hb dX6_isIn_6 rfl (lv_at hl 2 rfl) ?_
    refine m_icmp_gt (tgt := 14) hx hb hx0 hx2 hf dX6_isIn_7 (by decide) (fun hf => ?_) (fun hf => ?_)
    · skip
      refine m_const (v := 0) hx hb dX6_isIn_14 rfl ?_
      exact m_ireti X hr hlocks (nar_b (Or.inl rfl)).1 (by decide) (fun _ => (Or.inl rfl)) hW hS (Option.some.inj hf) rfl hQ dX6_isIn_15
    · skip
      refine m_const (v := 1) hx hb dX6_isIn_10 rfl ?_
      refine lv_goto (tgt := 15) hx hb dX6_isIn_11 (by decide) ?_
      exact m_ireti X hr hlocks (nar_b (Or.inr rfl)).1 (by decide) (fun _ => (Or.inr rfl)) hW hS (Option.some.inj hf) rfl hQ dX6_isIn_15
set_option maxRecDepth 100000 in
set_option maxHeartbeats 4000000 in
theorem ok_X6_isSite {l : Launch} {D : va_G} {cy : Nat → ClassId} {ad : Nat → Nat} {nm nv sz : Nat} {σ : St} {x0 : Int} {r : Int} (hx0 : inR x0) (hf : fX6_isSite x0 = some r) : CI l yX6_isSite cX6_isSite 1 (some .boolean) ({ frames := 1, cells := 0, slots := 0, locals := 22 } : Room) [.int (i32 x0)] D cy ad nm nv sz σ true r σ := by
  refine m_entry RX6 rfl (by decide +kernel) (Nat.le_of_ble_eq_true rfl) ?_
  intro p e s m args below meth c Q hQ hr hlocks X hW hS ls hl
  have hx := X.1
  have hb := X.2.1
  have hl : lv_has ls 1 [(0, .int (i32 x0))] := hl
  unfold fX6_isSite at hf
  refine lv_iload_n hx hb dX6_isSite_0 rfl (lv_at hl 0 rfl) ?_
  refine m_const (v := 0) hx hb dX6_isSite_1 rfl ?_
  refine m_const (v := 3) hx hb dX6_isSite_2 rfl ?_
  refine m_callSi1 (z := true) (As := [.int (i32 x0), .int (i32 0), .int (i32 3)]) (rest := []) X hW hS hl.1 gc_X6_130 hd_X6_isIn ⟨rfl, rfl, Nat.le_of_ble_eq_true rfl, Nat.le_of_ble_eq_true rfl⟩ (fun v q => ok_X6_isIn hx0 (by decide) (by decide) q) hf rfl rfl (Nat.le_of_ble_eq_true rfl) dX6_isSite_3 ⟨Nat.le_of_ble_eq_true rfl, Nat.le_of_ble_eq_true rfl⟩ (fun v1 H locs hv1 zv1 hWv1 hSv1 hf => ?_)
  exact m_ireti X hr hlocks (nar_b (zv1 rfl)).1 hv1 (fun _ => (zv1 rfl)) hWv1 hSv1 (Option.some.inj hf) rfl hQ dX6_isSite_6
set_option maxRecDepth 100000 in
set_option maxHeartbeats 4000000 in
theorem ok_X6_hasAct {l : Launch} {D : va_G} {cy : Nat → ClassId} {ad : Nat → Nat} {nm nv sz : Nat} {σ : St} {x1 : Int} {x2 : Int} {r : Int} (hx1 : inR x1) (hx2 : inR x2) (hf : fX6_hasAct σ x1 x2 = some r) : CI l yX6_hasAct cX6_hasAct 3 (some .boolean) ({ frames := 1, cells := 0, slots := 0, locals := 22 } : Room) [.ref (ad 230), .int (i32 x1), .int (i32 x2)] D cy ad nm nv sz σ true r σ := by
  refine m_entry RX6 rfl (by decide +kernel) (Nat.le_of_ble_eq_true rfl) ?_
  intro p e s m args below meth c Q hQ hr hlocks X hW hS ls hl
  have hx := X.1
  have hb := X.2.1
  have hl : lv_has ls 3 [(0, .ref (ad 230)), (1, .int (i32 x1)), (2, .int (i32 x2))] := hl
  unfold fX6_hasAct at hf
  refine lv_iload_n hx hb dX6_hasAct_0 rfl (lv_at hl 2 rfl) ?_
  refine m_const (v := 0) hx hb dX6_hasAct_1 rfl ?_
  refine lv_aload_n hx hb dX6_hasAct_2 rfl (lv_at hl 0 rfl) ?_
  refine g_X6_actMany X hW (X.2.2.2.2.1 _ mw1047) dX6_hasAct_3 ?_
  refine m_const (v := 1) hx hb dX6_hasAct_6 rfl ?_
  refine m_isub hx hb hf dX6_hasAct_7 (fun v1 hv1 hf => ?_)
  refine m_callSi1 (z := true) (As := [.int (i32 x2), .int (i32 0), .int (i32 v1)]) (rest := []) X hW hS hl.1 gc_X6_130 hd_X6_isIn ⟨rfl, rfl, Nat.le_of_ble_eq_true rfl, Nat.le_of_ble_eq_true rfl⟩ (fun v q => ok_X6_isIn hx2 (by decide) hv1 q) hf rfl rfl (Nat.le_of_ble_eq_true rfl) dX6_hasAct_8 ⟨Nat.le_of_ble_eq_true rfl, Nat.le_of_ble_eq_true rfl⟩ (fun v2 H locs hv2 zv2 hWv2 hSv2 hf => ?_)
  refine m_if_eq (tgt := 33) hx hb hv2 hf dX6_hasAct_11 (by decide) (fun hf => ?_) (fun hf => ?_)
  · skip
    refine m_const (v := 0) hx hb dX6_hasAct_33 rfl ?_
    exact m_ireti X hr hlocks (nar_b (Or.inl rfl)).1 (by decide) (fun _ => (Or.inl rfl)) hWv2 hSv2 (Option.some.inj hf) rfl hQ dX6_hasAct_34
  · skip
    refine lv_aload_n hx hb dX6_hasAct_14 rfl (lv_at hl 0 rfl) ?_
    refine g_X6_has X hWv2 (X.2.2.2.2.1 _ mw1058) dX6_hasAct_15 ?_
    refine m_sipush (v := 160) hx hb dX6_hasAct_18 (by decide) ?_
    refine lv_iload_n hx hb dX6_hasAct_21 rfl (lv_at hl 1 rfl) ?_
    refine m_imul hx hb hf dX6_hasAct_22 (fun v3 hv3 hf => ?_)
    refine lv_iload_n hx hb dX6_hasAct_23 rfl (lv_at hl 2 rfl) ?_
    refine m_iadd hx hb hf dX6_hasAct_24 (fun v4 hv4 hf => ?_)
    refine m_zald X hWv2 a_X6_has hv4 hf dX6_hasAct_25 (fun v5 hv5 hf => ?_)
    refine m_if_eq (tgt := 33) hx hb hv5 hf dX6_hasAct_26 (by decide) (fun hf => ?_) (fun hf => ?_)
    · skip
      refine m_const (v := 0) hx hb dX6_hasAct_33 rfl ?_
      exact m_ireti X hr hlocks (nar_b (Or.inl rfl)).1 (by decide) (fun _ => (Or.inl rfl)) hWv2 hSv2 (Option.some.inj hf) rfl hQ dX6_hasAct_34
    · skip
      refine m_const (v := 1) hx hb dX6_hasAct_29 rfl ?_
      refine lv_goto (tgt := 34) hx hb dX6_hasAct_30 (by decide) ?_
      exact m_ireti X hr hlocks (nar_b (Or.inr rfl)).1 (by decide) (fun _ => (Or.inr rfl)) hWv2 hSv2 (Option.some.inj hf) rfl hQ dX6_hasAct_34
set_option maxRecDepth 100000 in
set_option maxHeartbeats 4000000 in
theorem ok_X6_isBehind {l : Launch} {D : va_G} {cy : Nat → ClassId} {ad : Nat → Nat} {nm nv sz : Nat} {σ : St} {x1 : Int} {x2 : Int} {r : Int} (hx1 : inR x1) (hx2 : inR x2) (hf : fX6_isBehind σ x1 x2 = some r) : CI l yX6_isBehind cX6_isBehind 3 (some .boolean) ({ frames := 0, cells := 0, slots := 0, locals := 0 } : Room) [.ref (ad 230), .int (i32 x1), .int (i32 x2)] D cy ad nm nv sz σ true r σ := by
  refine m_entry RX6 rfl (by decide +kernel) (Nat.le_of_ble_eq_true rfl) ?_
  intro p e s m args below meth c Q hQ hr hlocks X hW hS ls hl
  have hx := X.1
  have hb := X.2.1
  have hl : lv_has ls 3 [(0, .ref (ad 230)), (1, .int (i32 x1)), (2, .int (i32 x2))] := hl
  unfold fX6_isBehind at hf
  refine lv_aload_n hx hb dX6_isBehind_0 rfl (lv_at hl 0 rfl) ?_
  refine g_X6_counts X hW (X.2.2.2.2.1 _ mw1049) dX6_isBehind_1 ?_
  refine lv_iload_n hx hb dX6_isBehind_4 rfl (lv_at hl 1 rfl) ?_
  refine m_iald X hW a_X6_counts hx1 hf dX6_isBehind_5 (fun v1 hv1 hf => ?_)
  refine lv_aload_n hx hb dX6_isBehind_6 rfl (lv_at hl 0 rfl) ?_
  refine g_X6_counts X hW (X.2.2.2.2.1 _ mw1049) dX6_isBehind_7 ?_
  refine lv_iload_n hx hb dX6_isBehind_10 rfl (lv_at hl 2 rfl) ?_
  refine m_iald X hW a_X6_counts hx2 hf dX6_isBehind_11 (fun v2 hv2 hf => ?_)
  refine m_icmp_eq (tgt := 38) hx hb hv1 hv2 hf dX6_isBehind_12 (by decide) (fun hf => ?_) (fun hf => ?_)
  · skip
    refine lv_aload_n hx hb dX6_isBehind_38 rfl (lv_at hl 0 rfl) ?_
    refine g_X6_makers X hW (X.2.2.2.2.1 _ mw1048) dX6_isBehind_39 ?_
    refine lv_iload_n hx hb dX6_isBehind_42 rfl (lv_at hl 1 rfl) ?_
    refine m_iald X hW a_X6_makers hx1 hf dX6_isBehind_43 (fun v3 hv3 hf => ?_)
    refine lv_aload_n hx hb dX6_isBehind_44 rfl (lv_at hl 0 rfl) ?_
    refine g_X6_makers X hW (X.2.2.2.2.1 _ mw1048) dX6_isBehind_45 ?_
    refine lv_iload_n hx hb dX6_isBehind_48 rfl (lv_at hl 2 rfl) ?_
    refine m_iald X hW a_X6_makers hx2 hf dX6_isBehind_49 (fun v4 hv4 hf => ?_)
    refine m_icmp_le (tgt := 57) hx hb hv3 hv4 hf dX6_isBehind_50 (by decide) (fun hf => ?_) (fun hf => ?_)
    · skip
      refine m_const (v := 0) hx hb dX6_isBehind_57 rfl ?_
      exact m_ireti X hr hlocks (nar_b (Or.inl rfl)).1 (by decide) (fun _ => (Or.inl rfl)) hW hS (Option.some.inj hf) rfl hQ dX6_isBehind_58
    · skip
      refine m_const (v := 1) hx hb dX6_isBehind_53 rfl ?_
      refine lv_goto (tgt := 58) hx hb dX6_isBehind_54 (by decide) ?_
      exact m_ireti X hr hlocks (nar_b (Or.inr rfl)).1 (by decide) (fun _ => (Or.inr rfl)) hW hS (Option.some.inj hf) rfl hQ dX6_isBehind_58
  · skip
    refine lv_aload_n hx hb dX6_isBehind_15 rfl (lv_at hl 0 rfl) ?_
    refine g_X6_counts X hW (X.2.2.2.2.1 _ mw1049) dX6_isBehind_16 ?_
    refine lv_iload_n hx hb dX6_isBehind_19 rfl (lv_at hl 1 rfl) ?_
    refine m_iald X hW a_X6_counts hx1 hf dX6_isBehind_20 (fun v5 hv5 hf => ?_)
    refine lv_aload_n hx hb dX6_isBehind_21 rfl (lv_at hl 0 rfl) ?_
    refine g_X6_counts X hW (X.2.2.2.2.1 _ mw1049) dX6_isBehind_22 ?_
    refine lv_iload_n hx hb dX6_isBehind_25 rfl (lv_at hl 2 rfl) ?_
    refine m_iald X hW a_X6_counts hx2 hf dX6_isBehind_26 (fun v6 hv6 hf => ?_)
    refine m_icmp_le (tgt := 34) hx hb hv5 hv6 hf dX6_isBehind_27 (by decide) (fun hf => ?_) (fun hf => ?_)
    · skip
      refine m_const (v := 0) hx hb dX6_isBehind_34 rfl ?_
      refine lv_goto (tgt := 58) hx hb dX6_isBehind_35 (by decide) ?_
      exact m_ireti X hr hlocks (nar_b (Or.inl rfl)).1 (by decide) (fun _ => (Or.inl rfl)) hW hS (Option.some.inj hf) rfl hQ dX6_isBehind_58
    · skip
      refine m_const (v := 1) hx hb dX6_isBehind_30 rfl ?_
      refine lv_goto (tgt := 58) hx hb dX6_isBehind_31 (by decide) ?_
      exact m_ireti X hr hlocks (nar_b (Or.inr rfl)).1 (by decide) (fun _ => (Or.inr rfl)) hW hS (Option.some.inj hf) rfl hQ dX6_isBehind_58
set_option maxRecDepth 100000 in
set_option maxHeartbeats 4000000 in
theorem ok_X6_orders {l : Launch} {D : va_G} {cy : Nat → ClassId} {ad : Nat → Nat} {nm nv sz : Nat} {σ : St} {n : Nat} {o1 : Nat} {x2 : Int} {σ2 : St} (ho1 : arrOK nm nv o1 2 (ln o1)) (hx2 : inR x2) (hf : fX6_orders n σ o1 x2 = some σ2) : CV l yX6_orders cX6_orders 5 none ({ frames := 1, cells := 0, slots := 0, locals := 22 } : Room) [.ref (ad 230), .ref (ad o1), .int (i32 x2)] D cy ad nm nv sz σ σ2 := by
  refine m_entry RX6 rfl (by decide +kernel) (Nat.le_of_ble_eq_true rfl) ?_
  intro p e s m args below meth c Q hQ hr hlocks X hW hS ls hl
  have hx := X.1
  have hb := X.2.1
  have hl : lv_has ls 5 [(0, .ref (ad 230)), (1, .ref (ad o1)), (2, .int (i32 x2))] := hl
  unfold fX6_orders at hf
  have hc134 : ∀ (k134 : Nat) (σ : St) (H : Heap) (locs : List Loc) (ls : Array Slot) (x3 : Int), inR x3 → fX6_orders_L134 n o1 x2 k134 σ x3 = some σ2 → Wd D cy ad nm nv σ H → va_S (AW ad nm nv sz) s.heap H locs → lv_has ls 5 [(0, .ref (ad 230)), (3, .int (i32 x3))] → W p l e ({ frames := 1, cells := 0, slots := 0, locals := 22 } : Room) s m args below meth c H locs 0 0 Q (F0 m 134 ls []) := by
    intro k134
    induction k134 with
    | zero =>
      intro σ H locs ls x3 hx3 hf
      have hf : (none : Option St) = some σ2 := hf
      cases hf
    | succ k134 ih134 =>
      intro σ H locs ls x3 hx3 hf hW hS hl
      have hf : fX6_orders_L134s n o1 x2 (fX6_orders_L134 n o1 x2 k134) σ x3 = some σ2 := hf
      unfold fX6_orders_L134s at hf
      have hc174 : ∀ (σ : St) (H : Heap) (locs : List Loc) (ls : Array Slot) (x3 : Int) (x4 : Int), inR x3 → inR x4 → fX6_orders_J174 n (fX6_orders_L134 n o1 x2 k134) σ o1 x2 x3 x4 = some σ2 → Wd D cy ad nm nv σ H → va_S (AW ad nm nv sz) s.heap H locs → lv_has ls 5 [(0, .ref (ad 230)), (3, .int (i32 x3)), (4, .int (i32 x4))] → W p l e ({ frames := 1, cells := 0, slots := 0, locals := 22 } : Room) s m args below meth c H locs 0 0 Q (F0 m 174 ls []) := by
        intro σ H locs ls x3 x4 hx3 hx4 hf hW hS hl
        unfold fX6_orders_J174 at hf
        refine lv_aload_n hx hb dX6_orders_174 rfl (lv_at hl 0 rfl) ?_
        refine g_X6_undone X hW (X.2.2.2.2.1 _ mw1077) dX6_orders_175 ?_
        refine lv_aload_n hx hb dX6_orders_178 rfl (lv_at hl 0 rfl) ?_
        refine g_X6_ones X hW (X.2.2.2.2.1 _ mw1051) dX6_orders_179 ?_
        refine lv_iload hx hb dX6_orders_182 (lv_at hl 2 rfl) ?_
        refine m_iald X hW a_X6_ones hx4 hf dX6_orders_184 (fun v24 hv24 hf => ?_)
        refine lv_aload_n hx hb dX6_orders_185 rfl (lv_at hl 0 rfl) ?_
        refine g_X6_kinds X hW (X.2.2.2.2.1 _ mw1050) dX6_orders_186 ?_
        refine lv_iload hx hb dX6_orders_189 (lv_at hl 2 rfl) ?_
        refine m_iald X hW a_X6_kinds hx4 hf dX6_orders_191 (fun v25 hv25 hf => ?_)
        refine m_bipush (v := 11) hx hb dX6_orders_192 (by decide) ?_
        refine m_icmp_ne (tgt := 201) hx hb hv25 (by decide) hf dX6_orders_194 (by decide) (fun hf => ?_) (fun hf => ?_)
        · skip
          refine m_const (v := 0) hx hb dX6_orders_201 rfl ?_
          refine m_zast X hW hS a_X6_undone hv24 (by decide) hf dX6_orders_202 (fun σ26 H locs hW26 hS26 hf => ?_)
          refine m_iinc (k0 := 1) (fun v27 => [(3, .int (i32 v27)), (0, .ref (ad 230)), (4, .int (i32 x4))]) hx hb hf dX6_orders_203 hl rfl (by decide) (fun _ => rfl) (fun v27 ls hv27 hf hl => ?_)
          have hl : lv_has ls 5 [(3, .int (i32 v27)), (0, .ref (ad 230)), (4, .int (i32 x4))] := hl
          refine lv_goto (tgt := 134) hx hb dX6_orders_206 (by decide) ?_
          exact ih134 _ _ _ _ v27 hv27 hf hW26 hS26 (lv_sub hl [1, 0] rfl)
        · skip
          refine m_const (v := 1) hx hb dX6_orders_197 rfl ?_
          refine lv_goto (tgt := 202) hx hb dX6_orders_198 (by decide) ?_
          refine m_zast X hW hS a_X6_undone hv24 (by decide) hf dX6_orders_202 (fun σ28 H locs hW28 hS28 hf => ?_)
          refine m_iinc (k0 := 1) (fun v29 => [(3, .int (i32 v29)), (0, .ref (ad 230)), (4, .int (i32 x4))]) hx hb hf dX6_orders_203 hl rfl (by decide) (fun _ => rfl) (fun v29 ls hv29 hf hl => ?_)
          have hl : lv_has ls 5 [(3, .int (i32 v29)), (0, .ref (ad 230)), (4, .int (i32 x4))] := hl
          refine lv_goto (tgt := 134) hx hb dX6_orders_206 (by decide) ?_
          exact ih134 _ _ _ _ v29 hv29 hf hW28 hS28 (lv_sub hl [1, 0] rfl)
      refine lv_iload_n hx hb dX6_orders_134 rfl (lv_at hl 1 rfl) ?_
      refine lv_aload_n hx hb dX6_orders_135 rfl (lv_at hl 0 rfl) ?_
      refine g_X6_orderMany X hW (X.2.2.2.2.1 _ mw1075) dX6_orders_136 ?_
      refine m_icmp_ge (tgt := 209) hx hb hx3 (hW.2.1 _ _) hf dX6_orders_139 (by decide) (fun hf => ?_) (fun hf => ?_)
      · skip
        exact m_vret X hr hlocks hW hS (Option.some.inj hf) hQ dX6_orders_209
      · skip
        refine lv_aload_n hx hb dX6_orders_142 rfl (lv_at hl 0 rfl) ?_
        refine g_X6_order X hW (X.2.2.2.2.1 _ mw1076) dX6_orders_143 ?_
        refine lv_iload_n hx hb dX6_orders_146 rfl (lv_at hl 1 rfl) ?_
        refine m_iald X hW a_X6_order hx3 hf dX6_orders_147 (fun v16 hv16 hf => ?_)
        refine lv_istore (lv' := [(4, .int (i32 v16)), (0, .ref (ad 230)), (3, .int (i32 x3))]) hx hb dX6_orders_148 hl (by decide) rfl (fun ls hl => ?_)
        refine lv_aload_n hx hb dX6_orders_150 rfl (lv_at hl 1 rfl) ?_
        refine g_X6_kinds X hW (X.2.2.2.2.1 _ mw1050) dX6_orders_151 ?_
        refine lv_iload hx hb dX6_orders_154 (lv_at hl 0 rfl) ?_
        refine m_iald X hW a_X6_kinds hv16 hf dX6_orders_156 (fun v17 hv17 hf => ?_)
        refine m_bipush (v := 11) hx hb dX6_orders_157 (by decide) ?_
        refine m_icmp_eq (tgt := 174) hx hb hv17 (by decide) hf dX6_orders_159 (by decide) (fun hf => ?_) (fun hf => ?_)
        · skip
          exact hc174 _ _ _ _ x3 v16 hx3 hv16 hf hW hS (lv_sub hl [1, 2, 0] rfl)
        · skip
          refine lv_aload_n hx hb dX6_orders_162 rfl (lv_at hl 1 rfl) ?_
          refine g_X6_kinds X hW (X.2.2.2.2.1 _ mw1050) dX6_orders_163 ?_
          refine lv_iload hx hb dX6_orders_166 (lv_at hl 0 rfl) ?_
          refine m_iald X hW a_X6_kinds hv16 hf dX6_orders_168 (fun v18 hv18 hf => ?_)
          refine m_bipush (v := 12) hx hb dX6_orders_169 (by decide) ?_
          refine m_icmp_ne (tgt := 203) hx hb hv18 (by decide) hf dX6_orders_171 (by decide) (fun hf => ?_) (fun hf => ?_)
          · skip
            refine m_iinc (k0 := 2) (fun v19 => [(3, .int (i32 v19)), (4, .int (i32 v16)), (0, .ref (ad 230))]) hx hb hf dX6_orders_203 hl rfl (by decide) (fun _ => rfl) (fun v19 ls hv19 hf hl => ?_)
            have hl : lv_has ls 5 [(3, .int (i32 v19)), (4, .int (i32 v16)), (0, .ref (ad 230))] := hl
            refine lv_goto (tgt := 134) hx hb dX6_orders_206 (by decide) ?_
            exact ih134 _ _ _ _ v19 hv19 hf hW hS (lv_sub hl [2, 0] rfl)
          · skip
            exact hc174 _ _ _ _ x3 v16 hx3 hv16 hf hW hS (lv_sub hl [1, 2, 0] rfl)
  have hc111 : ∀ (k111 : Nat) (σ : St) (H : Heap) (locs : List Loc) (ls : Array Slot) (x3 : Int), inR x3 → fX6_orders_L111 n o1 x2 k111 σ x3 = some σ2 → Wd D cy ad nm nv σ H → va_S (AW ad nm nv sz) s.heap H locs → lv_has ls 5 [(0, .ref (ad 230)), (3, .int (i32 x3))] → W p l e ({ frames := 1, cells := 0, slots := 0, locals := 22 } : Room) s m args below meth c H locs 0 0 Q (F0 m 111 ls []) := by
    intro k111
    induction k111 with
    | zero =>
      intro σ H locs ls x3 hx3 hf
      have hf : (none : Option St) = some σ2 := hf
      cases hf
    | succ k111 ih111 =>
      intro σ H locs ls x3 hx3 hf hW hS hl
      have hf : fX6_orders_L111s n o1 x2 (fX6_orders_L111 n o1 x2 k111) σ x3 = some σ2 := hf
      unfold fX6_orders_L111s at hf
      refine lv_iload_n hx hb dX6_orders_111 rfl (lv_at hl 1 rfl) ?_
      refine lv_aload_n hx hb dX6_orders_112 rfl (lv_at hl 0 rfl) ?_
      refine g_X6_actMany X hW (X.2.2.2.2.1 _ mw1047) dX6_orders_113 ?_
      refine m_icmp_ge (tgt := 132) hx hb hx3 (hW.2.1 _ _) hf dX6_orders_116 (by decide) (fun hf => ?_) (fun hf => ?_)
      · skip
        refine m_const (v := 0) hx hb dX6_orders_132 rfl ?_
        refine lv_istore_n (lv' := [(3, .int (i32 0)), (0, .ref (ad 230))]) hx hb dX6_orders_133 rfl hl (by decide) rfl (fun ls hl => ?_)
        exact hc134 n _ _ _ _ 0 (by decide) hf hW hS (lv_sub hl [1, 0] rfl)
      · skip
        refine lv_aload_n hx hb dX6_orders_119 rfl (lv_at hl 0 rfl) ?_
        refine g_X6_undone X hW (X.2.2.2.2.1 _ mw1077) dX6_orders_120 ?_
        refine lv_iload_n hx hb dX6_orders_123 rfl (lv_at hl 1 rfl) ?_
        refine m_const (v := 0) hx hb dX6_orders_124 rfl ?_
        refine m_zast X hW hS a_X6_undone hx3 (by decide) hf dX6_orders_125 (fun σ7 H locs hW7 hS7 hf => ?_)
        refine m_iinc (k0 := 1) (fun v8 => [(3, .int (i32 v8)), (0, .ref (ad 230))]) hx hb hf dX6_orders_126 hl rfl (by decide) (fun _ => rfl) (fun v8 ls hv8 hf hl => ?_)
        have hl : lv_has ls 5 [(3, .int (i32 v8)), (0, .ref (ad 230))] := hl
        refine lv_goto (tgt := 111) hx hb dX6_orders_129 (by decide) ?_
        exact ih111 _ _ _ _ v8 hv8 hf hW7 hS7 (lv_sub hl [1, 0] rfl)
  have hc7 : ∀ (k7 : Nat) (σ : St) (H : Heap) (locs : List Loc) (ls : Array Slot) (x3 : Int), inR x3 → fX6_orders_L7 n o1 x2 k7 σ x3 = some σ2 → Wd D cy ad nm nv σ H → va_S (AW ad nm nv sz) s.heap H locs → lv_has ls 5 [(0, .ref (ad 230)), (1, .ref (ad o1)), (2, .int (i32 x2)), (3, .int (i32 x3))] → W p l e ({ frames := 1, cells := 0, slots := 0, locals := 22 } : Room) s m args below meth c H locs 0 0 Q (F0 m 7 ls []) := by
    intro k7
    induction k7 with
    | zero =>
      intro σ H locs ls x3 hx3 hf
      have hf : (none : Option St) = some σ2 := hf
      cases hf
    | succ k7 ih7 =>
      intro σ H locs ls x3 hx3 hf hW hS hl
      have hf : fX6_orders_L7s n o1 x2 (fX6_orders_L7 n o1 x2 k7) σ x3 = some σ2 := hf
      unfold fX6_orders_L7s at hf
      have hc85 : ∀ (σ : St) (H : Heap) (locs : List Loc) (ls : Array Slot) (x3 : Int) (x4 : Int), inR x3 → inR x4 → fX6_orders_J85 n (fX6_orders_L7 n o1 x2 k7) σ o1 x2 x3 x4 = some σ2 → Wd D cy ad nm nv σ H → va_S (AW ad nm nv sz) s.heap H locs → lv_has ls 5 [(0, .ref (ad 230)), (1, .ref (ad o1)), (2, .int (i32 x2)), (3, .int (i32 x3)), (4, .int (i32 x4))] → W p l e ({ frames := 1, cells := 0, slots := 0, locals := 22 } : Room) s m args below meth c H locs 0 0 Q (F0 m 85 ls []) := by
        intro σ H locs ls x3 x4 hx3 hx4 hf hW hS hl
        unfold fX6_orders_J85 at hf
        refine lv_aload_n hx hb dX6_orders_85 rfl (lv_at hl 0 rfl) ?_
        refine g_X6_order X hW (X.2.2.2.2.1 _ mw1076) dX6_orders_86 ?_
        refine lv_iload hx hb dX6_orders_89 (lv_at hl 4 rfl) ?_
        refine lv_iload_n hx hb dX6_orders_91 rfl (lv_at hl 3 rfl) ?_
        refine m_iast X hW hS a_X6_order hx4 hx3 hf dX6_orders_92 (fun σ20 H locs hW20 hS20 hf => ?_)
        refine lv_aload_n hx hb dX6_orders_93 rfl (lv_at hl 0 rfl) ?_
        refine lv_dup hx hb dX6_orders_94 rfl ?_
        refine g_X6_orderMany X hW20 (X.2.2.2.2.1 _ mw1075) dX6_orders_95 ?_
        refine m_const (v := 1) hx hb dX6_orders_98 rfl ?_
        refine m_iadd hx hb hf dX6_orders_99 (fun v21 hv21 hf => ?_)
        refine p_X6_orderMany X hW20 hS20 hv21 hf (X.2.2.2.2.1 _ mw1075) dX6_orders_100 (fun σ22 H locs hW22 hS22 hf => ?_)
        refine m_iinc (k0 := 3) (fun v23 => [(3, .int (i32 v23)), (0, .ref (ad 230)), (1, .ref (ad o1)), (2, .int (i32 x2)), (4, .int (i32 x4))]) hx hb hf dX6_orders_103 hl rfl (by decide) (fun _ => rfl) (fun v23 ls hv23 hf hl => ?_)
        have hl : lv_has ls 5 [(3, .int (i32 v23)), (0, .ref (ad 230)), (1, .ref (ad o1)), (2, .int (i32 x2)), (4, .int (i32 x4))] := hl
        refine lv_goto (tgt := 7) hx hb dX6_orders_106 (by decide) ?_
        exact ih7 _ _ _ _ v23 hv23 hf hW22 hS22 (lv_sub hl [1, 2, 3, 0] rfl)
      have hc41 : ∀ (k41 : Nat) (σ : St) (H : Heap) (locs : List Loc) (ls : Array Slot) (x3 : Int) (x4 : Int), inR x3 → inR x4 → fX6_orders_L41 n (fX6_orders_L7 n o1 x2 k7) o1 x2 x3 k41 σ x4 = some σ2 → Wd D cy ad nm nv σ H → va_S (AW ad nm nv sz) s.heap H locs → lv_has ls 5 [(0, .ref (ad 230)), (1, .ref (ad o1)), (2, .int (i32 x2)), (3, .int (i32 x3)), (4, .int (i32 x4))] → W p l e ({ frames := 1, cells := 0, slots := 0, locals := 22 } : Room) s m args below meth c H locs 0 0 Q (F0 m 41 ls []) := by
        intro k41
        induction k41 with
        | zero =>
          intro σ H locs ls x3 x4 hx3 hx4 hf
          have hf : (none : Option St) = some σ2 := hf
          cases hf
        | succ k41 ih41 =>
          intro σ H locs ls x3 x4 hx3 hx4 hf hW hS hl
          have hf : fX6_orders_L41s n (fX6_orders_L7 n o1 x2 k7) o1 x2 x3 (fX6_orders_L41 n (fX6_orders_L7 n o1 x2 k7) o1 x2 x3 k41) σ x4 = some σ2 := hf
          unfold fX6_orders_L41s at hf
          refine lv_iload hx hb dX6_orders_41 (lv_at hl 4 rfl) ?_
          refine m_if_le (tgt := 85) hx hb hx4 hf dX6_orders_43 (by decide) (fun hf => ?_) (fun hf => ?_)
          · skip
            exact hc85 _ _ _ _ x3 x4 hx3 hx4 hf hW hS (lv_sub hl [0, 1, 2, 3, 4] rfl)
          · skip
            refine lv_aload_n hx hb dX6_orders_46 rfl (lv_at hl 0 rfl) ?_
            refine lv_aload_n hx hb dX6_orders_47 rfl (lv_at hl 0 rfl) ?_
            refine g_X6_order X hW (X.2.2.2.2.1 _ mw1076) dX6_orders_48 ?_
            refine lv_iload hx hb dX6_orders_51 (lv_at hl 4 rfl) ?_
            refine m_const (v := 1) hx hb dX6_orders_53 rfl ?_
            refine m_isub hx hb hf dX6_orders_54 (fun v9 hv9 hf => ?_)
            refine m_iald X hW a_X6_order hv9 hf dX6_orders_55 (fun v10 hv10 hf => ?_)
            refine lv_iload_n hx hb dX6_orders_56 rfl (lv_at hl 3 rfl) ?_
            refine m_callVi1 (z := true) (As := [.int (i32 v10), .int (i32 x3)]) (rest := []) X hW hS hl.1 gc_X6_140 hd_X6_isBehind ⟨rfl, rfl, Nat.le_of_ble_eq_true rfl, Nat.le_of_ble_eq_true rfl⟩ (rc_X6 X hW) (fun v q => ok_X6_isBehind hv10 hx3 q) hf rfl rfl (Nat.le_of_ble_eq_true rfl) dX6_orders_57 ⟨Nat.le_of_ble_eq_true rfl, Nat.le_of_ble_eq_true rfl⟩ (fun v11 H locs hv11 zv11 hWv11 hSv11 hf => ?_)
            refine m_if_eq (tgt := 85) hx hb hv11 hf dX6_orders_60 (by decide) (fun hf => ?_) (fun hf => ?_)
            · skip
              exact hc85 _ _ _ _ x3 x4 hx3 hx4 hf hWv11 hSv11 (lv_sub hl [0, 1, 2, 3, 4] rfl)
            · skip
              refine lv_aload_n hx hb dX6_orders_63 rfl (lv_at hl 0 rfl) ?_
              refine g_X6_order X hWv11 (X.2.2.2.2.1 _ mw1076) dX6_orders_64 ?_
              refine lv_iload hx hb dX6_orders_67 (lv_at hl 4 rfl) ?_
              refine lv_aload_n hx hb dX6_orders_69 rfl (lv_at hl 0 rfl) ?_
              refine g_X6_order X hWv11 (X.2.2.2.2.1 _ mw1076) dX6_orders_70 ?_
              refine lv_iload hx hb dX6_orders_73 (lv_at hl 4 rfl) ?_
              refine m_const (v := 1) hx hb dX6_orders_75 rfl ?_
              refine m_isub hx hb hf dX6_orders_76 (fun v12 hv12 hf => ?_)
              refine m_iald X hWv11 a_X6_order hv12 hf dX6_orders_77 (fun v13 hv13 hf => ?_)
              refine m_iast X hWv11 hSv11 a_X6_order hx4 hv13 hf dX6_orders_78 (fun σ14 H locs hW14 hS14 hf => ?_)
              refine m_iinc (k0 := 4) (fun v15 => [(4, .int (i32 v15)), (0, .ref (ad 230)), (1, .ref (ad o1)), (2, .int (i32 x2)), (3, .int (i32 x3))]) hx hb hf dX6_orders_79 hl rfl (by decide) (fun _ => rfl) (fun v15 ls hv15 hf hl => ?_)
              have hl : lv_has ls 5 [(4, .int (i32 v15)), (0, .ref (ad 230)), (1, .ref (ad o1)), (2, .int (i32 x2)), (3, .int (i32 x3))] := hl
              refine lv_goto (tgt := 41) hx hb dX6_orders_82 (by decide) ?_
              exact ih41 _ _ _ _ x3 v15 hx3 hv15 hf hW14 hS14 (lv_sub hl [1, 2, 3, 4, 0] rfl)
      refine lv_iload_n hx hb dX6_orders_7 rfl (lv_at hl 3 rfl) ?_
      refine lv_aload_n hx hb dX6_orders_8 rfl (lv_at hl 0 rfl) ?_
      refine g_X6_actMany X hW (X.2.2.2.2.1 _ mw1047) dX6_orders_9 ?_
      refine m_icmp_ge (tgt := 109) hx hb hx3 (hW.2.1 _ _) hf dX6_orders_12 (by decide) (fun hf => ?_) (fun hf => ?_)
      · skip
        refine m_const (v := 0) hx hb dX6_orders_109 rfl ?_
        refine lv_istore_n (lv' := [(3, .int (i32 0)), (0, .ref (ad 230)), (1, .ref (ad o1)), (2, .int (i32 x2))]) hx hb dX6_orders_110 rfl hl (by decide) rfl (fun ls hl => ?_)
        exact hc111 n _ _ _ _ 0 (by decide) hf hW hS (lv_sub hl [1, 0] rfl)
      · skip
        refine lv_aload_n hx hb dX6_orders_15 rfl (lv_at hl 0 rfl) ?_
        refine g_X6_in X hW (X.2.2.2.2.1 _ mw1074) dX6_orders_16 ?_
        refine lv_iload_n hx hb dX6_orders_19 rfl (lv_at hl 3 rfl) ?_
        refine lv_aload_n hx hb dX6_orders_20 rfl (lv_at hl 1 rfl) ?_
        refine lv_iload_n hx hb dX6_orders_21 rfl (lv_at hl 2 rfl) ?_
        refine lv_iload_n hx hb dX6_orders_22 rfl (lv_at hl 3 rfl) ?_
        refine m_iadd hx hb hf dX6_orders_23 (fun v2 hv2 hf => ?_)
        refine m_zald X hW ho1 hv2 hf dX6_orders_24 (fun v3 hv3 hf => ?_)
        refine m_zast X hW hS a_X6_in hx3 hv3 hf dX6_orders_25 (fun σ4 H locs hW4 hS4 hf => ?_)
        refine lv_aload_n hx hb dX6_orders_26 rfl (lv_at hl 0 rfl) ?_
        refine g_X6_in X hW4 (X.2.2.2.2.1 _ mw1074) dX6_orders_27 ?_
        refine lv_iload_n hx hb dX6_orders_30 rfl (lv_at hl 3 rfl) ?_
        refine m_zald X hW4 a_X6_in hx3 hf dX6_orders_31 (fun v5 hv5 hf => ?_)
        refine m_if_eq (tgt := 103) hx hb hv5 hf dX6_orders_32 (by decide) (fun hf => ?_) (fun hf => ?_)
        · skip
          refine m_iinc (k0 := 3) (fun v6 => [(3, .int (i32 v6)), (0, .ref (ad 230)), (1, .ref (ad o1)), (2, .int (i32 x2))]) hx hb hf dX6_orders_103 hl rfl (by decide) (fun _ => rfl) (fun v6 ls hv6 hf hl => ?_)
          have hl : lv_has ls 5 [(3, .int (i32 v6)), (0, .ref (ad 230)), (1, .ref (ad o1)), (2, .int (i32 x2))] := hl
          refine lv_goto (tgt := 7) hx hb dX6_orders_106 (by decide) ?_
          exact ih7 _ _ _ _ v6 hv6 hf hW4 hS4 (lv_sub hl [1, 2, 3, 0] rfl)
        · skip
          refine lv_aload_n hx hb dX6_orders_35 rfl (lv_at hl 0 rfl) ?_
          refine g_X6_orderMany X hW4 (X.2.2.2.2.1 _ mw1075) dX6_orders_36 ?_
          refine lv_istore (lv' := [(4, .int (i32 (σ4 230 29))), (0, .ref (ad 230)), (1, .ref (ad o1)), (2, .int (i32 x2)), (3, .int (i32 x3))]) hx hb dX6_orders_39 hl (by decide) rfl (fun ls hl => ?_)
          exact hc41 n _ _ _ _ x3 (σ4 230 29) hx3 (hW4.2.1 _ _) hf hW4 hS4 (lv_sub hl [1, 2, 3, 4, 0] rfl)
  refine lv_aload_n hx hb dX6_orders_0 rfl (lv_at hl 0 rfl) ?_
  refine m_const (v := 0) hx hb dX6_orders_1 rfl ?_
  refine p_X6_orderMany X hW hS (by decide) hf (X.2.2.2.2.1 _ mw1075) dX6_orders_2 (fun σ1 H locs hW1 hS1 hf => ?_)
  refine m_const (v := 0) hx hb dX6_orders_5 rfl ?_
  refine lv_istore_n (lv' := [(3, .int (i32 0)), (0, .ref (ad 230)), (1, .ref (ad o1)), (2, .int (i32 x2))]) hx hb dX6_orders_6 rfl hl (by decide) rfl (fun ls hl => ?_)
  exact hc7 n _ _ _ _ 0 (by decide) hf hW1 hS1 (lv_sub hl [1, 2, 3, 0] rfl)
set_option maxRecDepth 100000 in
set_option maxHeartbeats 4000000 in
theorem ok_X6_spot {l : Launch} {D : va_G} {cy : Nat → ClassId} {ad : Nat → Nat} {nm nv sz : Nat} {σ : St} {n : Nat} {x1 : Int} {r : Int} (hx1 : inR x1) (hf : fX6_spot n σ x1 = some r) : CI l yX6_spot cX6_spot 3 (some .int) ({ frames := 0, cells := 0, slots := 0, locals := 0 } : Room) [.ref (ad 230), .int (i32 x1)] D cy ad nm nv sz σ false r σ := by
  refine m_entry RX6 rfl (by decide +kernel) (Nat.le_of_ble_eq_true rfl) ?_
  intro p e s m args below meth c Q hQ hr hlocks X hW hS ls hl
  have hx := X.1
  have hb := X.2.1
  have hl : lv_has ls 3 [(0, .ref (ad 230)), (1, .int (i32 x1))] := hl
  unfold fX6_spot at hf
  have hc2 : ∀ (k2 : Nat) (H : Heap) (locs : List Loc) (ls : Array Slot) (x2 : Int), inR x2 → fX6_spot_L2 n σ x1 k2 x2 = some r → Wd D cy ad nm nv σ H → va_S (AW ad nm nv sz) s.heap H locs → lv_has ls 3 [(0, .ref (ad 230)), (1, .int (i32 x1)), (2, .int (i32 x2))] → W p l e ({ frames := 0, cells := 0, slots := 0, locals := 0 } : Room) s m args below meth c H locs 0 0 Q (F0 m 2 ls []) := by
    intro k2
    induction k2 with
    | zero =>
      intro H locs ls x2 hx2 hf
      have hf : (none : Option Int) = some r := hf
      cases hf
    | succ k2 ih2 =>
      intro H locs ls x2 hx2 hf hW hS hl
      have hf : fX6_spot_L2s n σ x1 (fX6_spot_L2 n σ x1 k2) x2 = some r := hf
      unfold fX6_spot_L2s at hf
      refine lv_iload_n hx hb dX6_spot_2 rfl (lv_at hl 2 rfl) ?_
      refine lv_aload_n hx hb dX6_spot_3 rfl (lv_at hl 0 rfl) ?_
      refine g_X6_rowMany X hW (X.2.2.2.2.1 _ mw1078) dX6_spot_4 ?_
      refine m_icmp_ge (tgt := 26) hx hb hx2 (hW.2.1 _ _) hf dX6_spot_7 (by decide) (fun hf => ?_) (fun hf => ?_)
      · skip
        refine lv_iload_n hx hb dX6_spot_26 rfl (lv_at hl 2 rfl) ?_
        exact m_ireti X hr hlocks rfl hx2 (fun h => Bool.noConfusion h) hW hS (Option.some.inj hf) rfl hQ dX6_spot_27
      · skip
        refine lv_aload_n hx hb dX6_spot_10 rfl (lv_at hl 0 rfl) ?_
        refine g_X6_row X hW (X.2.2.2.2.1 _ mw1079) dX6_spot_11 ?_
        refine lv_iload_n hx hb dX6_spot_14 rfl (lv_at hl 2 rfl) ?_
        refine m_iald X hW a_X6_row hx2 hf dX6_spot_15 (fun v1 hv1 hf => ?_)
        refine lv_iload_n hx hb dX6_spot_16 rfl (lv_at hl 1 rfl) ?_
        refine m_icmp_eq (tgt := 26) hx hb hv1 hx1 hf dX6_spot_17 (by decide) (fun hf => ?_) (fun hf => ?_)
        · skip
          refine lv_iload_n hx hb dX6_spot_26 rfl (lv_at hl 2 rfl) ?_
          exact m_ireti X hr hlocks rfl hx2 (fun h => Bool.noConfusion h) hW hS (Option.some.inj hf) rfl hQ dX6_spot_27
        · skip
          refine m_iinc (k0 := 2) (fun v2 => [(2, .int (i32 v2)), (0, .ref (ad 230)), (1, .int (i32 x1))]) hx hb hf dX6_spot_20 hl rfl (by decide) (fun _ => rfl) (fun v2 ls hv2 hf hl => ?_)
          have hl : lv_has ls 3 [(2, .int (i32 v2)), (0, .ref (ad 230)), (1, .int (i32 x1))] := hl
          refine lv_goto (tgt := 2) hx hb dX6_spot_23 (by decide) ?_
          exact ih2 _ _ _ v2 hv2 hf hW hS (lv_sub hl [1, 2, 0] rfl)
  refine m_const (v := 0) hx hb dX6_spot_0 rfl ?_
  refine lv_istore_n (lv' := [(2, .int (i32 0)), (0, .ref (ad 230)), (1, .int (i32 x1))]) hx hb dX6_spot_1 rfl hl (by decide) rfl (fun ls hl => ?_)
  exact hc2 n _ _ _ 0 (by decide) hf hW hS (lv_sub hl [1, 2, 0] rfl)
set_option maxRecDepth 100000 in
set_option maxHeartbeats 4000000 in
theorem ok_X6_isSeen {l : Launch} {D : va_G} {cy : Nat → ClassId} {ad : Nat → Nat} {nm nv sz : Nat} {σ : St} {x1 : Int} {r : Int} (hx1 : inR x1) (hf : fX6_isSeen σ x1 = some r) : CI l yX6_isSeen cX6_isSeen 2 (some .boolean) ({ frames := 0, cells := 0, slots := 0, locals := 0 } : Room) [.ref (ad 230), .int (i32 x1)] D cy ad nm nv sz σ true r σ := by
  refine m_entry RX6 rfl (by decide +kernel) (Nat.le_of_ble_eq_true rfl) ?_
  intro p e s m args below meth c Q hQ hr hlocks X hW hS ls hl
  have hx := X.1
  have hb := X.2.1
  have hl : lv_has ls 2 [(0, .ref (ad 230)), (1, .int (i32 x1))] := hl
  unfold fX6_isSeen at hf
  refine lv_aload_n hx hb dX6_isSeen_0 rfl (lv_at hl 0 rfl) ?_
  refine g_X6_states X hW (X.2.2.2.2.1 _ mw1080) dX6_isSeen_1 ?_
  refine lv_iload_n hx hb dX6_isSeen_4 rfl (lv_at hl 1 rfl) ?_
  refine m_iald X hW a_X6_states hx1 hf dX6_isSeen_5 (fun v1 hv1 hf => ?_)
  refine m_const (v := 2) hx hb dX6_isSeen_6 rfl ?_
  refine m_icmp_eq (tgt := 23) hx hb hv1 (by decide) hf dX6_isSeen_7 (by decide) (fun hf => ?_) (fun hf => ?_)
  · skip
    refine m_const (v := 0) hx hb dX6_isSeen_23 rfl ?_
    exact m_ireti X hr hlocks (nar_b (Or.inl rfl)).1 (by decide) (fun _ => (Or.inl rfl)) hW hS (Option.some.inj hf) rfl hQ dX6_isSeen_24
  · skip
    refine lv_aload_n hx hb dX6_isSeen_10 rfl (lv_at hl 0 rfl) ?_
    refine g_X6_removed X hW (X.2.2.2.2.1 _ mw1081) dX6_isSeen_11 ?_
    refine lv_iload_n hx hb dX6_isSeen_14 rfl (lv_at hl 1 rfl) ?_
    refine m_zald X hW a_X6_removed hx1 hf dX6_isSeen_15 (fun v2 hv2 hf => ?_)
    refine m_if_ne (tgt := 23) hx hb hv2 hf dX6_isSeen_16 (by decide) (fun hf => ?_) (fun hf => ?_)
    · skip
      refine m_const (v := 0) hx hb dX6_isSeen_23 rfl ?_
      exact m_ireti X hr hlocks (nar_b (Or.inl rfl)).1 (by decide) (fun _ => (Or.inl rfl)) hW hS (Option.some.inj hf) rfl hQ dX6_isSeen_24
    · skip
      refine m_const (v := 1) hx hb dX6_isSeen_19 rfl ?_
      refine lv_goto (tgt := 24) hx hb dX6_isSeen_20 (by decide) ?_
      exact m_ireti X hr hlocks (nar_b (Or.inr rfl)).1 (by decide) (fun _ => (Or.inr rfl)) hW hS (Option.some.inj hf) rfl hQ dX6_isSeen_24
set_option maxRecDepth 100000 in
set_option maxHeartbeats 4000000 in
theorem ok_X6_isShown {l : Launch} {D : va_G} {cy : Nat → ClassId} {ad : Nat → Nat} {nm nv sz : Nat} {σ : St} {x1 : Int} {r : Int} (hx1 : inR x1) (hf : fX6_isShown σ x1 = some r) : CI l yX6_isShown cX6_isShown 2 (some .boolean) ({ frames := 0, cells := 0, slots := 0, locals := 0 } : Room) [.ref (ad 230), .int (i32 x1)] D cy ad nm nv sz σ true r σ := by
  refine m_entry RX6 rfl (by decide +kernel) (Nat.le_of_ble_eq_true rfl) ?_
  intro p e s m args below meth c Q hQ hr hlocks X hW hS ls hl
  have hx := X.1
  have hb := X.2.1
  have hl : lv_has ls 2 [(0, .ref (ad 230)), (1, .int (i32 x1))] := hl
  unfold fX6_isShown at hf
  refine lv_aload_n hx hb dX6_isShown_0 rfl (lv_at hl 0 rfl) ?_
  refine g_X6_states X hW (X.2.2.2.2.1 _ mw1080) dX6_isShown_1 ?_
  refine lv_iload_n hx hb dX6_isShown_4 rfl (lv_at hl 1 rfl) ?_
  refine m_iald X hW a_X6_states hx1 hf dX6_isShown_5 (fun v1 hv1 hf => ?_)
  refine m_if_ne (tgt := 22) hx hb hv1 hf dX6_isShown_6 (by decide) (fun hf => ?_) (fun hf => ?_)
  · skip
    refine m_const (v := 0) hx hb dX6_isShown_22 rfl ?_
    exact m_ireti X hr hlocks (nar_b (Or.inl rfl)).1 (by decide) (fun _ => (Or.inl rfl)) hW hS (Option.some.inj hf) rfl hQ dX6_isShown_23
  · skip
    refine lv_aload_n hx hb dX6_isShown_9 rfl (lv_at hl 0 rfl) ?_
    refine g_X6_removed X hW (X.2.2.2.2.1 _ mw1081) dX6_isShown_10 ?_
    refine lv_iload_n hx hb dX6_isShown_13 rfl (lv_at hl 1 rfl) ?_
    refine m_zald X hW a_X6_removed hx1 hf dX6_isShown_14 (fun v2 hv2 hf => ?_)
    refine m_if_ne (tgt := 22) hx hb hv2 hf dX6_isShown_15 (by decide) (fun hf => ?_) (fun hf => ?_)
    · skip
      refine m_const (v := 0) hx hb dX6_isShown_22 rfl ?_
      exact m_ireti X hr hlocks (nar_b (Or.inl rfl)).1 (by decide) (fun _ => (Or.inl rfl)) hW hS (Option.some.inj hf) rfl hQ dX6_isShown_23
    · skip
      refine m_const (v := 1) hx hb dX6_isShown_18 rfl ?_
      refine lv_goto (tgt := 23) hx hb dX6_isShown_19 (by decide) ?_
      exact m_ireti X hr hlocks (nar_b (Or.inr rfl)).1 (by decide) (fun _ => (Or.inr rfl)) hW hS (Option.some.inj hf) rfl hQ dX6_isShown_23
set_option maxRecDepth 100000 in
set_option maxHeartbeats 4000000 in
theorem ok_X6_blockAt {l : Launch} {D : va_G} {cy : Nat → ClassId} {ad : Nat → Nat} {nm nv sz : Nat} {σ : St} {n : Nat} {x1 : Int} {r : Int} (hx1 : inR x1) (hf : fX6_blockAt n σ x1 = some r) : CI l yX6_blockAt cX6_blockAt 4 (some .int) ({ frames := 1, cells := 0, slots := 0, locals := 21 } : Room) [.ref (ad 230), .int (i32 x1)] D cy ad nm nv sz σ false r σ := by
  refine m_entry RX6 rfl (by decide +kernel) (Nat.le_of_ble_eq_true rfl) ?_
  intro p e s m args below meth c Q hQ hr hlocks X hW hS ls hl
  have hx := X.1
  have hb := X.2.1
  have hl : lv_has ls 4 [(0, .ref (ad 230)), (1, .int (i32 x1))] := hl
  unfold fX6_blockAt at hf
  have hc4 : ∀ (k4 : Nat) (H : Heap) (locs : List Loc) (ls : Array Slot) (x2 : Int) (x3 : Int), inR x2 → inR x3 → fX6_blockAt_L4 n σ x1 k4 x2 x3 = some r → Wd D cy ad nm nv σ H → va_S (AW ad nm nv sz) s.heap H locs → lv_has ls 4 [(0, .ref (ad 230)), (1, .int (i32 x1)), (2, .int (i32 x2)), (3, .int (i32 x3))] → W p l e ({ frames := 1, cells := 0, slots := 0, locals := 21 } : Room) s m args below meth c H locs 0 0 Q (F0 m 4 ls []) := by
    intro k4
    induction k4 with
    | zero =>
      intro H locs ls x2 x3 hx2 hx3 hf
      have hf : (none : Option Int) = some r := hf
      cases hf
    | succ k4 ih4 =>
      intro H locs ls x2 x3 hx2 hx3 hf hW hS hl
      have hf : fX6_blockAt_L4s n σ x1 (fX6_blockAt_L4 n σ x1 k4) x2 x3 = some r := hf
      unfold fX6_blockAt_L4s at hf
      refine lv_iload_n hx hb dX6_blockAt_4 rfl (lv_at hl 3 rfl) ?_
      refine lv_iload_n hx hb dX6_blockAt_5 rfl (lv_at hl 1 rfl) ?_
      refine m_icmp_gt (tgt := 62) hx hb hx3 hx1 hf dX6_blockAt_6 (by decide) (fun hf => ?_) (fun hf => ?_)
      · skip
        refine lv_iload_n hx hb dX6_blockAt_62 rfl (lv_at hl 2 rfl) ?_
        exact m_ireti X hr hlocks rfl hx2 (fun h => Bool.noConfusion h) hW hS (Option.some.inj hf) rfl hQ dX6_blockAt_63
      · skip
        refine lv_iload_n hx hb dX6_blockAt_9 rfl (lv_at hl 3 rfl) ?_
        refine lv_aload_n hx hb dX6_blockAt_10 rfl (lv_at hl 0 rfl) ?_
        refine g_X6_rowMany X hW (X.2.2.2.2.1 _ mw1078) dX6_blockAt_11 ?_
        refine m_icmp_ge (tgt := 62) hx hb hx3 (hW.2.1 _ _) hf dX6_blockAt_14 (by decide) (fun hf => ?_) (fun hf => ?_)
        · skip
          refine lv_iload_n hx hb dX6_blockAt_62 rfl (lv_at hl 2 rfl) ?_
          exact m_ireti X hr hlocks rfl hx2 (fun h => Bool.noConfusion h) hW hS (Option.some.inj hf) rfl hQ dX6_blockAt_63
        · skip
          refine lv_aload_n hx hb dX6_blockAt_17 rfl (lv_at hl 0 rfl) ?_
          refine g_X6_kinds X hW (X.2.2.2.2.1 _ mw1050) dX6_blockAt_18 ?_
          refine lv_aload_n hx hb dX6_blockAt_21 rfl (lv_at hl 0 rfl) ?_
          refine g_X6_row X hW (X.2.2.2.2.1 _ mw1079) dX6_blockAt_22 ?_
          refine lv_iload_n hx hb dX6_blockAt_25 rfl (lv_at hl 3 rfl) ?_
          refine m_iald X hW a_X6_row hx3 hf dX6_blockAt_26 (fun v1 hv1 hf => ?_)
          refine m_iald X hW a_X6_kinds hv1 hf dX6_blockAt_27 (fun v2 hv2 hf => ?_)
          refine m_const (v := 1) hx hb dX6_blockAt_28 rfl ?_
          refine m_icmp_ne (tgt := 54) hx hb hv2 (by decide) hf dX6_blockAt_29 (by decide) (fun hf => ?_) (fun hf => ?_)
          · skip
            refine lv_iload_n hx hb dX6_blockAt_54 rfl (lv_at hl 2 rfl) ?_
            refine lv_istore_n (lv' := [(2, .int (i32 x2)), (0, .ref (ad 230)), (1, .int (i32 x1)), (3, .int (i32 x3))]) hx hb dX6_blockAt_55 rfl hl (by decide) rfl (fun ls hl => ?_)
            refine m_iinc (k0 := 3) (fun v3 => [(3, .int (i32 v3)), (2, .int (i32 x2)), (0, .ref (ad 230)), (1, .int (i32 x1))]) hx hb hf dX6_blockAt_56 hl rfl (by decide) (fun _ => rfl) (fun v3 ls hv3 hf hl => ?_)
            have hl : lv_has ls 4 [(3, .int (i32 v3)), (2, .int (i32 x2)), (0, .ref (ad 230)), (1, .int (i32 x1))] := hl
            refine lv_goto (tgt := 4) hx hb dX6_blockAt_59 (by decide) ?_
            exact ih4 _ _ _ x2 v3 hx2 hv3 hf hW hS (lv_sub hl [2, 3, 1, 0] rfl)
          · skip
            refine lv_aload_n hx hb dX6_blockAt_32 rfl (lv_at hl 0 rfl) ?_
            refine lv_aload_n hx hb dX6_blockAt_33 rfl (lv_at hl 0 rfl) ?_
            refine g_X6_row X hW (X.2.2.2.2.1 _ mw1079) dX6_blockAt_34 ?_
            refine lv_iload_n hx hb dX6_blockAt_37 rfl (lv_at hl 3 rfl) ?_
            refine m_iald X hW a_X6_row hx3 hf dX6_blockAt_38 (fun v4 hv4 hf => ?_)
            refine m_callVi1 (z := true) (As := [.int (i32 v4)]) (rest := []) X hW hS hl.1 gc_X6_147 hd_X6_isShown ⟨rfl, rfl, Nat.le_of_ble_eq_true rfl, Nat.le_of_ble_eq_true rfl⟩ (rc_X6 X hW) (fun v q => ok_X6_isShown hv4 q) hf rfl rfl (Nat.le_of_ble_eq_true rfl) dX6_blockAt_39 ⟨Nat.le_of_ble_eq_true rfl, Nat.le_of_ble_eq_true rfl⟩ (fun v5 H locs hv5 zv5 hWv5 hSv5 hf => ?_)
            refine m_if_eq (tgt := 54) hx hb hv5 hf dX6_blockAt_42 (by decide) (fun hf => ?_) (fun hf => ?_)
            · skip
              refine lv_iload_n hx hb dX6_blockAt_54 rfl (lv_at hl 2 rfl) ?_
              refine lv_istore_n (lv' := [(2, .int (i32 x2)), (0, .ref (ad 230)), (1, .int (i32 x1)), (3, .int (i32 x3))]) hx hb dX6_blockAt_55 rfl hl (by decide) rfl (fun ls hl => ?_)
              refine m_iinc (k0 := 3) (fun v6 => [(3, .int (i32 v6)), (2, .int (i32 x2)), (0, .ref (ad 230)), (1, .int (i32 x1))]) hx hb hf dX6_blockAt_56 hl rfl (by decide) (fun _ => rfl) (fun v6 ls hv6 hf hl => ?_)
              have hl : lv_has ls 4 [(3, .int (i32 v6)), (2, .int (i32 x2)), (0, .ref (ad 230)), (1, .int (i32 x1))] := hl
              refine lv_goto (tgt := 4) hx hb dX6_blockAt_59 (by decide) ?_
              exact ih4 _ _ _ x2 v6 hx2 hv6 hf hWv5 hSv5 (lv_sub hl [2, 3, 1, 0] rfl)
            · skip
              refine lv_aload_n hx hb dX6_blockAt_45 rfl (lv_at hl 0 rfl) ?_
              refine g_X6_row X hWv5 (X.2.2.2.2.1 _ mw1079) dX6_blockAt_46 ?_
              refine lv_iload_n hx hb dX6_blockAt_49 rfl (lv_at hl 3 rfl) ?_
              refine m_iald X hWv5 a_X6_row hx3 hf dX6_blockAt_50 (fun v7 hv7 hf => ?_)
              refine lv_goto (tgt := 55) hx hb dX6_blockAt_51 (by decide) ?_
              refine lv_istore_n (lv' := [(2, .int (i32 v7)), (0, .ref (ad 230)), (1, .int (i32 x1)), (3, .int (i32 x3))]) hx hb dX6_blockAt_55 rfl hl (by decide) rfl (fun ls hl => ?_)
              refine m_iinc (k0 := 3) (fun v8 => [(3, .int (i32 v8)), (2, .int (i32 v7)), (0, .ref (ad 230)), (1, .int (i32 x1))]) hx hb hf dX6_blockAt_56 hl rfl (by decide) (fun _ => rfl) (fun v8 ls hv8 hf hl => ?_)
              have hl : lv_has ls 4 [(3, .int (i32 v8)), (2, .int (i32 v7)), (0, .ref (ad 230)), (1, .int (i32 x1))] := hl
              refine lv_goto (tgt := 4) hx hb dX6_blockAt_59 (by decide) ?_
              exact ih4 _ _ _ v7 v8 hv7 hv8 hf hWv5 hSv5 (lv_sub hl [2, 3, 1, 0] rfl)
  refine m_const (v := (-1)) hx hb dX6_blockAt_0 rfl ?_
  refine lv_istore_n (lv' := [(2, .int (i32 (-1))), (0, .ref (ad 230)), (1, .int (i32 x1))]) hx hb dX6_blockAt_1 rfl hl (by decide) rfl (fun ls hl => ?_)
  refine m_const (v := 0) hx hb dX6_blockAt_2 rfl ?_
  refine lv_istore_n (lv' := [(3, .int (i32 0)), (2, .int (i32 (-1))), (0, .ref (ad 230)), (1, .int (i32 x1))]) hx hb dX6_blockAt_3 rfl hl (by decide) rfl (fun ls hl => ?_)
  exact hc4 n _ _ _ (-1) 0 (by decide) (by decide) hf hW hS (lv_sub hl [2, 3, 1, 0] rfl)
set_option maxRecDepth 100000 in
set_option maxHeartbeats 4000000 in
theorem ok_X6_blockOf {l : Launch} {D : va_G} {cy : Nat → ClassId} {ad : Nat → Nat} {nm nv sz : Nat} {σ : St} {n : Nat} {x1 : Int} {r : Int} (hx1 : inR x1) (hf : fX6_blockOf n σ x1 = some r) : CI l yX6_blockOf cX6_blockOf 2 (some .int) ({ frames := 2, cells := 0, slots := 0, locals := 44 } : Room) [.ref (ad 230), .int (i32 x1)] D cy ad nm nv sz σ false r σ := by
  refine m_entry RX6 rfl (by decide +kernel) (Nat.le_of_ble_eq_true rfl) ?_
  intro p e s m args below meth c Q hQ hr hlocks X hW hS ls hl
  have hx := X.1
  have hb := X.2.1
  have hl : lv_has ls 2 [(0, .ref (ad 230)), (1, .int (i32 x1))] := hl
  unfold fX6_blockOf at hf
  refine lv_iload_n hx hb dX6_blockOf_0 rfl (lv_at hl 1 rfl) ?_
  refine m_const (v := (-1)) hx hb dX6_blockOf_1 rfl ?_
  refine m_icmp_ne (tgt := 9) hx hb hx1 (by decide) hf dX6_blockOf_2 (by decide) (fun hf => ?_) (fun hf => ?_)
  · skip
    refine lv_aload_n hx hb dX6_blockOf_9 rfl (lv_at hl 0 rfl) ?_
    refine lv_aload_n hx hb dX6_blockOf_10 rfl (lv_at hl 0 rfl) ?_
    refine lv_iload_n hx hb dX6_blockOf_11 rfl (lv_at hl 1 rfl) ?_
    refine m_callVi1 (z := false) (As := [.int (i32 x1)]) (rest := [.ref (ad 230)]) X hW hS hl.1 gc_X6_151 hd_X6_spot ⟨rfl, rfl, Nat.le_of_ble_eq_true rfl, Nat.le_of_ble_eq_true rfl⟩ (rc_X6 X hW) (fun v q => ok_X6_spot hx1 q) hf rfl rfl (Nat.le_of_ble_eq_true rfl) dX6_blockOf_12 ⟨Nat.le_of_ble_eq_true rfl, Nat.le_of_ble_eq_true rfl⟩ (fun v1 H locs hv1 zv1 hWv1 hSv1 hf => ?_)
    refine m_callVi1 (z := false) (As := [.int (i32 v1)]) (rest := []) X hWv1 hSv1 hl.1 gc_X6_155 hd_X6_blockAt ⟨rfl, rfl, Nat.le_of_ble_eq_true rfl, Nat.le_of_ble_eq_true rfl⟩ (rc_X6 X hWv1) (fun v q => ok_X6_blockAt hv1 q) hf rfl rfl (Nat.le_of_ble_eq_true rfl) dX6_blockOf_15 ⟨Nat.le_of_ble_eq_true rfl, Nat.le_of_ble_eq_true rfl⟩ (fun v2 H locs hv2 zv2 hWv2 hSv2 hf => ?_)
    exact m_ireti X hr hlocks rfl hv2 (fun h => Bool.noConfusion h) hWv2 hSv2 (Option.some.inj hf) rfl hQ dX6_blockOf_18
  · skip
    refine m_const (v := (-1)) hx hb dX6_blockOf_5 rfl ?_
    refine lv_goto (tgt := 18) hx hb dX6_blockOf_6 (by decide) ?_
    exact m_ireti X hr hlocks rfl (by decide) (fun h => Bool.noConfusion h) hW hS (Option.some.inj hf) rfl hQ dX6_blockOf_18
set_option maxRecDepth 100000 in
set_option maxHeartbeats 4000000 in
theorem ok_X6_levelIn {l : Launch} {D : va_G} {cy : Nat → ClassId} {ad : Nat → Nat} {nm nv sz : Nat} {σ : St} {x1 : Int} {x2 : Int} {r : Int} (hx1 : inR x1) (hx2 : inR x2) (hf : fX6_levelIn σ x1 x2 = some r) : CI l yX6_levelIn cX6_levelIn 3 (some .int) ({ frames := 0, cells := 0, slots := 0, locals := 0 } : Room) [.ref (ad 230), .int (i32 x1), .int (i32 x2)] D cy ad nm nv sz σ false r σ := by
  refine m_entry RX6 rfl (by decide +kernel) (Nat.le_of_ble_eq_true rfl) ?_
  intro p e s m args below meth c Q hQ hr hlocks X hW hS ls hl
  have hx := X.1
  have hb := X.2.1
  have hl : lv_has ls 3 [(0, .ref (ad 230)), (1, .int (i32 x1)), (2, .int (i32 x2))] := hl
  unfold fX6_levelIn at hf
  refine lv_iload_n hx hb dX6_levelIn_0 rfl (lv_at hl 1 rfl) ?_
  refine m_if_ne (tgt := 8) hx hb hx1 hf dX6_levelIn_1 (by decide) (fun hf => ?_) (fun hf => ?_)
  · skip
    refine lv_aload_n hx hb dX6_levelIn_8 rfl (lv_at hl 0 rfl) ?_
    refine g_X6_levels X hW (X.2.2.2.2.1 _ mw1087) dX6_levelIn_9 ?_
    refine m_sipush (v := 161) hx hb dX6_levelIn_12 (by decide) ?_
    refine lv_iload_n hx hb dX6_levelIn_15 rfl (lv_at hl 1 rfl) ?_
    refine m_imul hx hb hf dX6_levelIn_16 (fun v1 hv1 hf => ?_)
    refine lv_iload_n hx hb dX6_levelIn_17 rfl (lv_at hl 2 rfl) ?_
    refine m_iadd hx hb hf dX6_levelIn_18 (fun v2 hv2 hf => ?_)
    refine m_const (v := 1) hx hb dX6_levelIn_19 rfl ?_
    refine m_iadd hx hb hf dX6_levelIn_20 (fun v3 hv3 hf => ?_)
    refine m_iald X hW a_X6_levels hv3 hf dX6_levelIn_21 (fun v4 hv4 hf => ?_)
    exact m_ireti X hr hlocks rfl hv4 (fun h => Bool.noConfusion h) hW hS (Option.some.inj hf) rfl hQ dX6_levelIn_22
  · skip
    refine m_const (v := 0) hx hb dX6_levelIn_4 rfl ?_
    refine lv_goto (tgt := 22) hx hb dX6_levelIn_5 (by decide) ?_
    exact m_ireti X hr hlocks rfl (by decide) (fun h => Bool.noConfusion h) hW hS (Option.some.inj hf) rfl hQ dX6_levelIn_22
set_option maxRecDepth 100000 in
set_option maxHeartbeats 4000000 in
theorem ok_X6_puts {l : Launch} {D : va_G} {cy : Nat → ClassId} {ad : Nat → Nat} {nm nv sz : Nat} {σ : St} {n : Nat} {x1 : Int} {σ2 : St} (hx1 : inR x1) (hf : fX6_puts n σ x1 = some σ2) : CV l yX6_puts cX6_puts 6 none ({ frames := 3, cells := 0, slots := 0, locals := 65 } : Room) [.ref (ad 230), .int (i32 x1)] D cy ad nm nv sz σ σ2 := by
  refine m_entry RX6 rfl (by decide +kernel) (Nat.le_of_ble_eq_true rfl) ?_
  intro p e s m args below meth c Q hQ hr hlocks X hW hS ls hl
  have hx := X.1
  have hb := X.2.1
  have hl : lv_has ls 6 [(0, .ref (ad 230)), (1, .int (i32 x1))] := hl
  unfold fX6_puts at hf
  have hc192 : ∀ (σ : St) (H : Heap) (locs : List Loc) (ls : Array Slot) (x3 : Int) (x4 : Int) (t0 : Int), inR x3 → inR x4 → inR t0 → fX6_puts_J192 n σ x1 x3 x4 t0 = some σ2 → Wd D cy ad nm nv σ H → va_S (AW ad nm nv sz) s.heap H locs → lv_has ls 6 [(0, .ref (ad 230)), (1, .int (i32 x1)), (3, .int (i32 x3)), (4, .int (i32 x4))] → W p l e ({ frames := 3, cells := 0, slots := 0, locals := 65 } : Room) s m args below meth c H locs 0 0 Q (F0 m 192 ls [.int (i32 t0)]) := by
    intro σ H locs ls x3 x4 t0 hx3 hx4 ht0 hf hW hS hl
    unfold fX6_puts_J192 at hf
    refine lv_istore (lv' := [(5, .int (i32 t0)), (0, .ref (ad 230)), (1, .int (i32 x1)), (3, .int (i32 x3)), (4, .int (i32 x4))]) hx hb dX6_puts_192 hl (by decide) rfl (fun ls hl => ?_)
    refine lv_aload_n hx hb dX6_puts_194 rfl (lv_at hl 1 rfl) ?_
    refine g_X6_marks X hW (X.2.2.2.2.1 _ mw1082) dX6_puts_195 ?_
    refine lv_iload_n hx hb dX6_puts_198 rfl (lv_at hl 2 rfl) ?_
    refine lv_iload hx hb dX6_puts_199 (lv_at hl 4 rfl) ?_
    refine m_const (v := 1) hx hb dX6_puts_201 rfl ?_
    refine m_iand hx hb hf dX6_puts_202 (fun v26 hv26 hf => ?_)
    refine lv_iload hx hb dX6_puts_203 (lv_at hl 4 rfl) ?_
    refine lv_iload hx hb dX6_puts_205 (lv_at hl 0 rfl) ?_
    refine m_iand hx hb hf dX6_puts_207 (fun v27 hv27 hf => ?_)
    refine m_const (v := 2) hx hb dX6_puts_208 rfl ?_
    refine m_iand hx hb hf dX6_puts_209 (fun v28 hv28 hf => ?_)
    refine m_ior hx hb hf dX6_puts_210 (fun v29 hv29 hf => ?_)
    refine m_iast X hW hS a_X6_marks hx1 hv29 hf dX6_puts_211 (fun σ30 H locs hW30 hS30 hf => ?_)
    refine lv_aload_n hx hb dX6_puts_212 rfl (lv_at hl 1 rfl) ?_
    refine g_X6_covers X hW30 (X.2.2.2.2.1 _ mw1083) dX6_puts_213 ?_
    refine lv_iload_n hx hb dX6_puts_216 rfl (lv_at hl 2 rfl) ?_
    refine lv_iload_n hx hb dX6_puts_217 rfl (lv_at hl 3 rfl) ?_
    refine m_if_eq (tgt := 231) hx hb hx3 hf dX6_puts_218 (by decide) (fun hf => ?_) (fun hf => ?_)
    · skip
      refine m_const (v := 0) hx hb dX6_puts_231 rfl ?_
      refine lv_goto (tgt := 262) hx hb dX6_puts_232 (by decide) ?_
      refine m_iast X hW30 hS30 a_X6_covers hx1 (by decide) hf dX6_puts_262 (fun σ31 H locs hW31 hS31 hf => ?_)
      exact m_vret X hr hlocks hW31 hS31 (Option.some.inj hf) hQ dX6_puts_263
    · skip
      refine lv_iload_n hx hb dX6_puts_221 rfl (lv_at hl 3 rfl) ?_
      refine lv_aload_n hx hb dX6_puts_222 rfl (lv_at hl 1 rfl) ?_
      refine g_X6_rowMany X hW30 (X.2.2.2.2.1 _ mw1078) dX6_puts_223 ?_
      refine m_const (v := 1) hx hb dX6_puts_226 rfl ?_
      refine m_isub hx hb hf dX6_puts_227 (fun v32 hv32 hf => ?_)
      refine m_icmp_ne (tgt := 235) hx hb hx3 hv32 hf dX6_puts_228 (by decide) (fun hf => ?_) (fun hf => ?_)
      · skip
        refine lv_aload_n hx hb dX6_puts_235 rfl (lv_at hl 1 rfl) ?_
        refine g_X6_covers X hW30 (X.2.2.2.2.1 _ mw1083) dX6_puts_236 ?_
        refine lv_aload_n hx hb dX6_puts_239 rfl (lv_at hl 1 rfl) ?_
        refine g_X6_row X hW30 (X.2.2.2.2.1 _ mw1079) dX6_puts_240 ?_
        refine lv_iload_n hx hb dX6_puts_243 rfl (lv_at hl 3 rfl) ?_
        refine m_const (v := 1) hx hb dX6_puts_244 rfl ?_
        refine m_isub hx hb hf dX6_puts_245 (fun v33 hv33 hf => ?_)
        refine m_iald X hW30 a_X6_row hv33 hf dX6_puts_246 (fun v34 hv34 hf => ?_)
        refine m_iald X hW30 a_X6_covers hv34 hf dX6_puts_247 (fun v35 hv35 hf => ?_)
        refine lv_aload_n hx hb dX6_puts_248 rfl (lv_at hl 1 rfl) ?_
        refine g_X6_covers X hW30 (X.2.2.2.2.1 _ mw1083) dX6_puts_249 ?_
        refine lv_aload_n hx hb dX6_puts_252 rfl (lv_at hl 1 rfl) ?_
        refine g_X6_row X hW30 (X.2.2.2.2.1 _ mw1079) dX6_puts_253 ?_
        refine lv_iload_n hx hb dX6_puts_256 rfl (lv_at hl 3 rfl) ?_
        refine m_const (v := 1) hx hb dX6_puts_257 rfl ?_
        refine m_iadd hx hb hf dX6_puts_258 (fun v36 hv36 hf => ?_)
        refine m_iald X hW30 a_X6_row hv36 hf dX6_puts_259 (fun v37 hv37 hf => ?_)
        refine m_iald X hW30 a_X6_covers hv37 hf dX6_puts_260 (fun v38 hv38 hf => ?_)
        refine m_iand hx hb hf dX6_puts_261 (fun v39 hv39 hf => ?_)
        refine m_iast X hW30 hS30 a_X6_covers hx1 hv39 hf dX6_puts_262 (fun σ40 H locs hW40 hS40 hf => ?_)
        exact m_vret X hr hlocks hW40 hS40 (Option.some.inj hf) hQ dX6_puts_263
      · skip
        refine m_const (v := 0) hx hb dX6_puts_231 rfl ?_
        refine lv_goto (tgt := 262) hx hb dX6_puts_232 (by decide) ?_
        refine m_iast X hW30 hS30 a_X6_covers hx1 (by decide) hf dX6_puts_262 (fun σ41 H locs hW41 hS41 hf => ?_)
        exact m_vret X hr hlocks hW41 hS41 (Option.some.inj hf) hQ dX6_puts_263
  have hc163 : ∀ (σ : St) (H : Heap) (locs : List Loc) (ls : Array Slot) (x3 : Int) (t0 : Int), inR x3 → inR t0 → fX6_puts_J163 n σ x1 x3 t0 = some σ2 → Wd D cy ad nm nv σ H → va_S (AW ad nm nv sz) s.heap H locs → lv_has ls 6 [(0, .ref (ad 230)), (1, .int (i32 x1)), (3, .int (i32 x3))] → W p l e ({ frames := 3, cells := 0, slots := 0, locals := 65 } : Room) s m args below meth c H locs 0 0 Q (F0 m 163 ls [.int (i32 t0)]) := by
    intro σ H locs ls x3 t0 hx3 ht0 hf hW hS hl
    unfold fX6_puts_J163 at hf
    refine lv_istore (lv' := [(4, .int (i32 t0)), (0, .ref (ad 230)), (1, .int (i32 x1)), (3, .int (i32 x3))]) hx hb dX6_puts_163 hl (by decide) rfl (fun ls hl => ?_)
    refine lv_iload_n hx hb dX6_puts_165 rfl (lv_at hl 3 rfl) ?_
    refine lv_aload_n hx hb dX6_puts_166 rfl (lv_at hl 1 rfl) ?_
    refine g_X6_rowMany X hW (X.2.2.2.2.1 _ mw1078) dX6_puts_167 ?_
    refine m_const (v := 1) hx hb dX6_puts_170 rfl ?_
    refine m_isub hx hb hf dX6_puts_171 (fun v22 hv22 hf => ?_)
    refine m_icmp_ne (tgt := 179) hx hb hx3 hv22 hf dX6_puts_172 (by decide) (fun hf => ?_) (fun hf => ?_)
    · skip
      refine lv_aload_n hx hb dX6_puts_179 rfl (lv_at hl 1 rfl) ?_
      refine g_X6_marks X hW (X.2.2.2.2.1 _ mw1082) dX6_puts_180 ?_
      refine lv_aload_n hx hb dX6_puts_183 rfl (lv_at hl 1 rfl) ?_
      refine g_X6_row X hW (X.2.2.2.2.1 _ mw1079) dX6_puts_184 ?_
      refine lv_iload_n hx hb dX6_puts_187 rfl (lv_at hl 3 rfl) ?_
      refine m_const (v := 1) hx hb dX6_puts_188 rfl ?_
      refine m_iadd hx hb hf dX6_puts_189 (fun v23 hv23 hf => ?_)
      refine m_iald X hW a_X6_row hv23 hf dX6_puts_190 (fun v24 hv24 hf => ?_)
      refine m_iald X hW a_X6_marks hv24 hf dX6_puts_191 (fun v25 hv25 hf => ?_)
      exact hc192 _ _ _ _ x3 t0 v25 hx3 ht0 hv25 hf hW hS (lv_sub hl [1, 2, 3, 0] rfl)
    · skip
      refine m_const (v := 0) hx hb dX6_puts_175 rfl ?_
      refine lv_goto (tgt := 192) hx hb dX6_puts_176 (by decide) ?_
      exact hc192 _ _ _ _ x3 t0 0 hx3 ht0 (by decide) hf hW hS (lv_sub hl [1, 2, 3, 0] rfl)
  have hc97 : ∀ (k97 : Nat) (σ : St) (H : Heap) (locs : List Loc) (ls : Array Slot) (x3 : Int) (x4 : Int), inR x3 → inR x4 → fX6_puts_L97 n x1 x3 k97 σ x4 = some σ2 → Wd D cy ad nm nv σ H → va_S (AW ad nm nv sz) s.heap H locs → lv_has ls 6 [(0, .ref (ad 230)), (1, .int (i32 x1)), (3, .int (i32 x3)), (4, .int (i32 x4))] → W p l e ({ frames := 3, cells := 0, slots := 0, locals := 65 } : Room) s m args below meth c H locs 0 0 Q (F0 m 97 ls []) := by
    intro k97
    induction k97 with
    | zero =>
      intro σ H locs ls x3 x4 hx3 hx4 hf
      have hf : (none : Option St) = some σ2 := hf
      cases hf
    | succ k97 ih97 =>
      intro σ H locs ls x3 x4 hx3 hx4 hf hW hS hl
      have hf : fX6_puts_L97s n x1 x3 (fX6_puts_L97 n x1 x3 k97) σ x4 = some σ2 := hf
      unfold fX6_puts_L97s at hf
      refine lv_iload hx hb dX6_puts_97 (lv_at hl 3 rfl) ?_
      refine lv_iload_n hx hb dX6_puts_99 rfl (lv_at hl 2 rfl) ?_
      refine m_icmp_le (tgt := 125) hx hb hx4 hx3 hf dX6_puts_100 (by decide) (fun hf => ?_) (fun hf => ?_)
      · skip
        refine lv_aload_n hx hb dX6_puts_125 rfl (lv_at hl 0 rfl) ?_
        refine g_X6_row X hW (X.2.2.2.2.1 _ mw1079) dX6_puts_126 ?_
        refine lv_iload_n hx hb dX6_puts_129 rfl (lv_at hl 2 rfl) ?_
        refine lv_iload_n hx hb dX6_puts_130 rfl (lv_at hl 1 rfl) ?_
        refine m_iast X hW hS a_X6_row hx3 hx1 hf dX6_puts_131 (fun σ12 H locs hW12 hS12 hf => ?_)
        refine lv_aload_n hx hb dX6_puts_132 rfl (lv_at hl 0 rfl) ?_
        refine lv_dup hx hb dX6_puts_133 rfl ?_
        refine g_X6_rowMany X hW12 (X.2.2.2.2.1 _ mw1078) dX6_puts_134 ?_
        refine m_const (v := 1) hx hb dX6_puts_137 rfl ?_
        refine m_iadd hx hb hf dX6_puts_138 (fun v13 hv13 hf => ?_)
        refine p_X6_rowMany X hW12 hS12 hv13 hf (X.2.2.2.2.1 _ mw1078) dX6_puts_139 (fun σ14 H locs hW14 hS14 hf => ?_)
        refine lv_iload_n hx hb dX6_puts_142 rfl (lv_at hl 2 rfl) ?_
        refine m_if_ne (tgt := 150) hx hb hx3 hf dX6_puts_143 (by decide) (fun hf => ?_) (fun hf => ?_)
        · skip
          refine lv_aload_n hx hb dX6_puts_150 rfl (lv_at hl 0 rfl) ?_
          refine g_X6_marks X hW14 (X.2.2.2.2.1 _ mw1082) dX6_puts_151 ?_
          refine lv_aload_n hx hb dX6_puts_154 rfl (lv_at hl 0 rfl) ?_
          refine g_X6_row X hW14 (X.2.2.2.2.1 _ mw1079) dX6_puts_155 ?_
          refine lv_iload_n hx hb dX6_puts_158 rfl (lv_at hl 2 rfl) ?_
          refine m_const (v := 1) hx hb dX6_puts_159 rfl ?_
          refine m_isub hx hb hf dX6_puts_160 (fun v15 hv15 hf => ?_)
          refine m_iald X hW14 a_X6_row hv15 hf dX6_puts_161 (fun v16 hv16 hf => ?_)
          refine m_iald X hW14 a_X6_marks hv16 hf dX6_puts_162 (fun v17 hv17 hf => ?_)
          exact hc163 _ _ _ _ x3 v17 hx3 hv17 hf hW14 hS14 (lv_sub hl [0, 1, 2] rfl)
        · skip
          refine m_const (v := 0) hx hb dX6_puts_146 rfl ?_
          refine lv_goto (tgt := 163) hx hb dX6_puts_147 (by decide) ?_
          exact hc163 _ _ _ _ x3 0 hx3 (by decide) hf hW14 hS14 (lv_sub hl [0, 1, 2] rfl)
      · skip
        refine lv_aload_n hx hb dX6_puts_103 rfl (lv_at hl 0 rfl) ?_
        refine g_X6_row X hW (X.2.2.2.2.1 _ mw1079) dX6_puts_104 ?_
        refine lv_iload hx hb dX6_puts_107 (lv_at hl 3 rfl) ?_
        refine lv_aload_n hx hb dX6_puts_109 rfl (lv_at hl 0 rfl) ?_
        refine g_X6_row X hW (X.2.2.2.2.1 _ mw1079) dX6_puts_110 ?_
        refine lv_iload hx hb dX6_puts_113 (lv_at hl 3 rfl) ?_
        refine m_const (v := 1) hx hb dX6_puts_115 rfl ?_
        refine m_isub hx hb hf dX6_puts_116 (fun v18 hv18 hf => ?_)
        refine m_iald X hW a_X6_row hv18 hf dX6_puts_117 (fun v19 hv19 hf => ?_)
        refine m_iast X hW hS a_X6_row hx4 hv19 hf dX6_puts_118 (fun σ20 H locs hW20 hS20 hf => ?_)
        refine m_iinc (k0 := 3) (fun v21 => [(4, .int (i32 v21)), (0, .ref (ad 230)), (1, .int (i32 x1)), (3, .int (i32 x3))]) hx hb hf dX6_puts_119 hl rfl (by decide) (fun _ => rfl) (fun v21 ls hv21 hf hl => ?_)
        have hl : lv_has ls 6 [(4, .int (i32 v21)), (0, .ref (ad 230)), (1, .int (i32 x1)), (3, .int (i32 x3))] := hl
        refine lv_goto (tgt := 97) hx hb dX6_puts_122 (by decide) ?_
        exact ih97 _ _ _ _ x3 v21 hx3 hv21 hf hW20 hS20 (lv_sub hl [1, 2, 3, 0] rfl)
  have hc63 : ∀ (σ : St) (H : Heap) (locs : List Loc) (ls : Array Slot) (t0 : Int) (t1 : Int), inR t0 → inR t1 → fX6_puts_J63 n σ x1 t0 t1 = some σ2 → Wd D cy ad nm nv σ H → va_S (AW ad nm nv sz) s.heap H locs → lv_has ls 6 [(0, .ref (ad 230)), (1, .int (i32 x1))] → W p l e ({ frames := 3, cells := 0, slots := 0, locals := 65 } : Room) s m args below meth c H locs 0 0 Q (F0 m 63 ls [.int (i32 t0), .int (i32 t1), .ref (ad 265)]) := by
    intro σ H locs ls t0 t1 ht0 ht1 hf hW hS hl
    unfold fX6_puts_J63 at hf
    refine m_iast X hW hS a_X6_states ht1 ht0 hf dX6_puts_63 (fun σ7 H locs hW7 hS7 hf => ?_)
    refine lv_aload_n hx hb dX6_puts_64 rfl (lv_at hl 0 rfl) ?_
    refine g_X6_ones X hW7 (X.2.2.2.2.1 _ mw1051) dX6_puts_65 ?_
    refine lv_iload_n hx hb dX6_puts_68 rfl (lv_at hl 1 rfl) ?_
    refine m_iald X hW7 a_X6_ones hx1 hf dX6_puts_69 (fun v8 hv8 hf => ?_)
    refine m_const (v := (-1)) hx hb dX6_puts_70 rfl ?_
    refine m_icmp_ne (tgt := 78) hx hb hv8 (by decide) hf dX6_puts_71 (by decide) (fun hf => ?_) (fun hf => ?_)
    · skip
      refine lv_aload_n hx hb dX6_puts_78 rfl (lv_at hl 0 rfl) ?_
      refine lv_aload_n hx hb dX6_puts_79 rfl (lv_at hl 0 rfl) ?_
      refine g_X6_ones X hW7 (X.2.2.2.2.1 _ mw1051) dX6_puts_80 ?_
      refine lv_iload_n hx hb dX6_puts_83 rfl (lv_at hl 1 rfl) ?_
      refine m_iald X hW7 a_X6_ones hx1 hf dX6_puts_84 (fun v9 hv9 hf => ?_)
      refine m_callVi1 (z := false) (As := [.int (i32 v9)]) (rest := []) X hW7 hS7 hl.1 gc_X6_151 hd_X6_spot ⟨rfl, rfl, Nat.le_of_ble_eq_true rfl, Nat.le_of_ble_eq_true rfl⟩ (rc_X6 X hW7) (fun v q => ok_X6_spot hv9 q) hf rfl rfl (Nat.le_of_ble_eq_true rfl) dX6_puts_85 ⟨Nat.le_of_ble_eq_true rfl, Nat.le_of_ble_eq_true rfl⟩ (fun v10 H locs hv10 zv10 hWv10 hSv10 hf => ?_)
      refine m_const (v := 1) hx hb dX6_puts_88 rfl ?_
      refine m_iadd hx hb hf dX6_puts_89 (fun v11 hv11 hf => ?_)
      refine lv_istore_n (lv' := [(3, .int (i32 v11)), (0, .ref (ad 230)), (1, .int (i32 x1))]) hx hb dX6_puts_90 rfl hl (by decide) rfl (fun ls hl => ?_)
      refine lv_aload_n hx hb dX6_puts_91 rfl (lv_at hl 1 rfl) ?_
      refine g_X6_rowMany X hWv10 (X.2.2.2.2.1 _ mw1078) dX6_puts_92 ?_
      refine lv_istore (lv' := [(4, .int (i32 (σ7 230 32))), (3, .int (i32 v11)), (0, .ref (ad 230)), (1, .int (i32 x1))]) hx hb dX6_puts_95 hl (by decide) rfl (fun ls hl => ?_)
      exact hc97 n _ _ _ _ v11 (σ7 230 32) hv11 (hWv10.2.1 _ _) hf hWv10 hSv10 (lv_sub hl [2, 3, 1, 0] rfl)
    · skip
      refine m_const (v := 0) hx hb dX6_puts_74 rfl ?_
      refine lv_goto (tgt := 90) hx hb dX6_puts_75 (by decide) ?_
      refine lv_istore_n (lv' := [(3, .int (i32 0)), (0, .ref (ad 230)), (1, .int (i32 x1))]) hx hb dX6_puts_90 rfl hl (by decide) rfl (fun ls hl => ?_)
      refine lv_aload_n hx hb dX6_puts_91 rfl (lv_at hl 1 rfl) ?_
      refine g_X6_rowMany X hW7 (X.2.2.2.2.1 _ mw1078) dX6_puts_92 ?_
      refine lv_istore (lv' := [(4, .int (i32 (σ7 230 32))), (3, .int (i32 0)), (0, .ref (ad 230)), (1, .int (i32 x1))]) hx hb dX6_puts_95 hl (by decide) rfl (fun ls hl => ?_)
      exact hc97 n _ _ _ _ 0 (σ7 230 32) (by decide) (hW7.2.1 _ _) hf hW7 hS7 (lv_sub hl [2, 3, 1, 0] rfl)
  have hc40 : ∀ (σ : St) (H : Heap) (locs : List Loc) (ls : Array Slot) (t0 : Int), inR t0 → fX6_puts_J40 n σ x1 t0 = some σ2 → Wd D cy ad nm nv σ H → va_S (AW ad nm nv sz) s.heap H locs → lv_has ls 6 [(0, .ref (ad 230)), (1, .int (i32 x1))] → W p l e ({ frames := 3, cells := 0, slots := 0, locals := 65 } : Room) s m args below meth c H locs 0 0 Q (F0 m 40 ls [.int (i32 t0), .ref (ad 265)]) := by
    intro σ H locs ls t0 ht0 hf hW hS hl
    unfold fX6_puts_J40 at hf
    refine m_const (v := 2) hx hb dX6_puts_40 rfl ?_
    refine lv_goto (tgt := 63) hx hb dX6_puts_41 (by decide) ?_
    exact hc63 _ _ _ _ 2 t0 (by decide) ht0 hf hW hS (lv_sub hl [0, 1] rfl)
  have hc58 : ∀ (σ : St) (H : Heap) (locs : List Loc) (ls : Array Slot) (t0 : Int), inR t0 → fX6_puts_J58 n σ x1 t0 = some σ2 → Wd D cy ad nm nv σ H → va_S (AW ad nm nv sz) s.heap H locs → lv_has ls 6 [(0, .ref (ad 230)), (1, .int (i32 x1))] → W p l e ({ frames := 3, cells := 0, slots := 0, locals := 65 } : Room) s m args below meth c H locs 0 0 Q (F0 m 58 ls [.int (i32 t0), .ref (ad 265)]) := by
    intro σ H locs ls t0 ht0 hf hW hS hl
    unfold fX6_puts_J58 at hf
    refine m_const (v := 1) hx hb dX6_puts_58 rfl ?_
    refine lv_goto (tgt := 63) hx hb dX6_puts_59 (by decide) ?_
    exact hc63 _ _ _ _ 1 t0 (by decide) ht0 hf hW hS (lv_sub hl [0, 1] rfl)
  refine lv_aload_n hx hb dX6_puts_0 rfl (lv_at hl 0 rfl) ?_
  refine lv_aload_n hx hb dX6_puts_1 rfl (lv_at hl 0 rfl) ?_
  refine g_X6_makers X hW (X.2.2.2.2.1 _ mw1048) dX6_puts_2 ?_
  refine lv_iload_n hx hb dX6_puts_5 rfl (lv_at hl 1 rfl) ?_
  refine m_iald X hW a_X6_makers hx1 hf dX6_puts_6 (fun v1 hv1 hf => ?_)
  refine lv_aload_n hx hb dX6_puts_7 rfl (lv_at hl 0 rfl) ?_
  refine lv_aload_n hx hb dX6_puts_8 rfl (lv_at hl 0 rfl) ?_
  refine g_X6_ones X hW (X.2.2.2.2.1 _ mw1051) dX6_puts_9 ?_
  refine lv_iload_n hx hb dX6_puts_12 rfl (lv_at hl 1 rfl) ?_
  refine m_iald X hW a_X6_ones hx1 hf dX6_puts_13 (fun v2 hv2 hf => ?_)
  refine m_callVi1 (z := false) (As := [.int (i32 v2)]) (rest := [.int (i32 v1), .ref (ad 230)]) X hW hS hl.1 gc_X6_172 hd_X6_blockOf ⟨rfl, rfl, Nat.le_of_ble_eq_true rfl, Nat.le_of_ble_eq_true rfl⟩ (rc_X6 X hW) (fun v q => ok_X6_blockOf hv2 q) hf rfl rfl (Nat.le_of_ble_eq_true rfl) dX6_puts_14 ⟨Nat.le_of_ble_eq_true rfl, Nat.le_of_ble_eq_true rfl⟩ (fun v3 H locs hv3 zv3 hWv3 hSv3 hf => ?_)
  refine m_callVi1 (z := false) (As := [.int (i32 v1), .int (i32 v3)]) (rest := []) X hWv3 hSv3 hl.1 gc_X6_175 hd_X6_levelIn ⟨rfl, rfl, Nat.le_of_ble_eq_true rfl, Nat.le_of_ble_eq_true rfl⟩ (rc_X6 X hWv3) (fun v q => ok_X6_levelIn hv1 hv3 q) hf rfl rfl (Nat.le_of_ble_eq_true rfl) dX6_puts_17 ⟨Nat.le_of_ble_eq_true rfl, Nat.le_of_ble_eq_true rfl⟩ (fun v4 H locs hv4 zv4 hWv4 hSv4 hf => ?_)
  refine lv_istore_n (lv' := [(2, .int (i32 v4)), (0, .ref (ad 230)), (1, .int (i32 x1))]) hx hb dX6_puts_20 rfl hl (by decide) rfl (fun ls hl => ?_)
  refine lv_aload_n hx hb dX6_puts_21 rfl (lv_at hl 1 rfl) ?_
  refine g_X6_states X hWv4 (X.2.2.2.2.1 _ mw1080) dX6_puts_22 ?_
  refine lv_iload_n hx hb dX6_puts_25 rfl (lv_at hl 2 rfl) ?_
  refine lv_aload_n hx hb dX6_puts_26 rfl (lv_at hl 1 rfl) ?_
  refine g_X6_undone X hWv4 (X.2.2.2.2.1 _ mw1077) dX6_puts_27 ?_
  refine lv_iload_n hx hb dX6_puts_30 rfl (lv_at hl 2 rfl) ?_
  refine m_zald X hWv4 a_X6_undone hx1 hf dX6_puts_31 (fun v5 hv5 hf => ?_)
  refine m_if_ne (tgt := 40) hx hb hv5 hf dX6_puts_32 (by decide) (fun hf => ?_) (fun hf => ?_)
  · skip
    exact hc40 _ _ _ _ x1 hx1 hf hWv4 hSv4 (lv_sub hl [1, 2] rfl)
  · skip
    refine lv_iload_n hx hb dX6_puts_35 rfl (lv_at hl 0 rfl) ?_
    refine m_const (v := 2) hx hb dX6_puts_36 rfl ?_
    refine m_icmp_ne (tgt := 44) hx hb hv4 (by decide) hf dX6_puts_37 (by decide) (fun hf => ?_) (fun hf => ?_)
    · skip
      refine lv_iload_n hx hb dX6_puts_44 rfl (lv_at hl 0 rfl) ?_
      refine m_const (v := 1) hx hb dX6_puts_45 rfl ?_
      refine m_icmp_eq (tgt := 58) hx hb hv4 (by decide) hf dX6_puts_46 (by decide) (fun hf => ?_) (fun hf => ?_)
      · skip
        exact hc58 _ _ _ _ x1 hx1 hf hWv4 hSv4 (lv_sub hl [1, 2] rfl)
      · skip
        refine lv_aload_n hx hb dX6_puts_49 rfl (lv_at hl 1 rfl) ?_
        refine g_X6_areProposals X hWv4 (X.2.2.2.2.1 _ mw1055) dX6_puts_50 ?_
        refine lv_iload_n hx hb dX6_puts_53 rfl (lv_at hl 2 rfl) ?_
        refine m_zald X hWv4 a_X6_areProposals hx1 hf dX6_puts_54 (fun v6 hv6 hf => ?_)
        refine m_if_eq (tgt := 62) hx hb hv6 hf dX6_puts_55 (by decide) (fun hf => ?_) (fun hf => ?_)
        · skip
          refine m_const (v := 0) hx hb dX6_puts_62 rfl ?_
          exact hc63 _ _ _ _ 0 x1 (by decide) hx1 hf hWv4 hSv4 (lv_sub hl [1, 2] rfl)
        · skip
          exact hc58 _ _ _ _ x1 hx1 hf hWv4 hSv4 (lv_sub hl [1, 2] rfl)
    · skip
      exact hc40 _ _ _ _ x1 hx1 hf hWv4 hSv4 (lv_sub hl [1, 2] rfl)
set_option maxRecDepth 100000 in
set_option maxHeartbeats 4000000 in
theorem ok_X6_removes {l : Launch} {D : va_G} {cy : Nat → ClassId} {ad : Nat → Nat} {nm nv sz : Nat} {σ : St} {n : Nat} {x1 : Int} {σ2 : St} (hx1 : inR x1) (hf : fX6_removes n σ x1 = some σ2) : CV l yX6_removes cX6_removes 5 none ({ frames := 3, cells := 0, slots := 0, locals := 65 } : Room) [.ref (ad 230), .int (i32 x1)] D cy ad nm nv sz σ σ2 := by
  refine m_entry RX6 rfl (by decide +kernel) (Nat.le_of_ble_eq_true rfl) ?_
  intro p e s m args below meth c Q hQ hr hlocks X hW hS ls hl
  have hx := X.1
  have hb := X.2.1
  have hl : lv_has ls 5 [(0, .ref (ad 230)), (1, .int (i32 x1))] := hl
  unfold fX6_removes at hf
  have hc78 : ∀ (σ : St) (H : Heap) (locs : List Loc) (ls : Array Slot) (x2 : Int), inR x2 → fX6_removes_J78 n σ x1 x2 = some σ2 → Wd D cy ad nm nv σ H → va_S (AW ad nm nv sz) s.heap H locs → lv_has ls 5 [(0, .ref (ad 230)), (2, .int (i32 x2))] → W p l e ({ frames := 3, cells := 0, slots := 0, locals := 65 } : Room) s m args below meth c H locs 0 0 Q (F0 m 78 ls []) := by
    intro σ H locs ls x2 hx2 hf hW hS hl
    unfold fX6_removes_J78 at hf
    refine lv_aload_n hx hb dX6_removes_78 rfl (lv_at hl 0 rfl) ?_
    refine g_X6_removed X hW (X.2.2.2.2.1 _ mw1081) dX6_removes_79 ?_
    refine lv_iload_n hx hb dX6_removes_82 rfl (lv_at hl 1 rfl) ?_
    refine m_const (v := 1) hx hb dX6_removes_83 rfl ?_
    refine m_zast X hW hS a_X6_removed hx2 (by decide) hf dX6_removes_84 (fun σ10 H locs hW10 hS10 hf => ?_)
    refine lv_goto (tgt := 95) hx hb dX6_removes_85 (by decide) ?_
    exact m_vret X hr hlocks hW10 hS10 (Option.some.inj hf) hQ dX6_removes_95
  have hc73 : ∀ (σ : St) (H : Heap) (locs : List Loc) (ls : Array Slot) (x2 : Int) (x4 : Int), inR x2 → inR x4 → fX6_removes_J73 n σ x1 x2 x4 = some σ2 → Wd D cy ad nm nv σ H → va_S (AW ad nm nv sz) s.heap H locs → lv_has ls 5 [(0, .ref (ad 230)), (1, .int (i32 x1)), (2, .int (i32 x2)), (4, .int (i32 x4))] → W p l e ({ frames := 3, cells := 0, slots := 0, locals := 65 } : Room) s m args below meth c H locs 0 0 Q (F0 m 73 ls []) := by
    intro σ H locs ls x2 x4 hx2 hx4 hf hW hS hl
    unfold fX6_removes_J73 at hf
    refine lv_iload hx hb dX6_removes_73 (lv_at hl 3 rfl) ?_
    refine m_if_eq (tgt := 88) hx hb hx4 hf dX6_removes_75 (by decide) (fun hf => ?_) (fun hf => ?_)
    · skip
      refine lv_aload_n hx hb dX6_removes_88 rfl (lv_at hl 0 rfl) ?_
      refine g_X6_waits X hW (X.2.2.2.2.1 _ mw1084) dX6_removes_89 ?_
      refine lv_iload_n hx hb dX6_removes_92 rfl (lv_at hl 1 rfl) ?_
      refine m_const (v := 1) hx hb dX6_removes_93 rfl ?_
      refine m_zast X hW hS a_X6_waits hx1 (by decide) hf dX6_removes_94 (fun σ9 H locs hW9 hS9 hf => ?_)
      exact m_vret X hr hlocks hW9 hS9 (Option.some.inj hf) hQ dX6_removes_95
    · skip
      exact hc78 _ _ _ _ x2 hx2 hf hW hS (lv_sub hl [0, 2] rfl)
  have hc58 : ∀ (σ : St) (H : Heap) (locs : List Loc) (ls : Array Slot) (x2 : Int) (x3 : Int) (t0 : Int), inR x2 → inR x3 → inR t0 → fX6_removes_J58 n σ x1 x2 x3 t0 = some σ2 → Wd D cy ad nm nv σ H → va_S (AW ad nm nv sz) s.heap H locs → lv_has ls 5 [(0, .ref (ad 230)), (1, .int (i32 x1)), (2, .int (i32 x2)), (3, .int (i32 x3))] → W p l e ({ frames := 3, cells := 0, slots := 0, locals := 65 } : Room) s m args below meth c H locs 0 0 Q (F0 m 58 ls [.int (i32 t0)]) := by
    intro σ H locs ls x2 x3 t0 hx2 hx3 ht0 hf hW hS hl
    unfold fX6_removes_J58 at hf
    refine lv_istore (lv' := [(4, .int (i32 t0)), (0, .ref (ad 230)), (1, .int (i32 x1)), (2, .int (i32 x2)), (3, .int (i32 x3))]) hx hb dX6_removes_58 hl (by decide) rfl (fun ls hl => ?_)
    refine lv_iload_n hx hb dX6_removes_60 rfl (lv_at hl 4 rfl) ?_
    refine m_if_ne (tgt := 73) hx hb hx3 hf dX6_removes_61 (by decide) (fun hf => ?_) (fun hf => ?_)
    · skip
      exact hc73 _ _ _ _ x2 t0 hx2 ht0 hf hW hS (lv_sub hl [1, 2, 3, 0] rfl)
    · skip
      refine lv_aload_n hx hb dX6_removes_64 rfl (lv_at hl 1 rfl) ?_
      refine g_X6_areProposals X hW (X.2.2.2.2.1 _ mw1055) dX6_removes_65 ?_
      refine lv_iload_n hx hb dX6_removes_68 rfl (lv_at hl 2 rfl) ?_
      refine m_zald X hW a_X6_areProposals hx1 hf dX6_removes_69 (fun v8 hv8 hf => ?_)
      refine m_if_eq (tgt := 78) hx hb hv8 hf dX6_removes_70 (by decide) (fun hf => ?_) (fun hf => ?_)
      · skip
        exact hc78 _ _ _ _ x2 hx2 hf hW hS (lv_sub hl [1, 3] rfl)
      · skip
        exact hc73 _ _ _ _ x2 t0 hx2 ht0 hf hW hS (lv_sub hl [1, 2, 3, 0] rfl)
  have hc57 : ∀ (σ : St) (H : Heap) (locs : List Loc) (ls : Array Slot) (x2 : Int) (x3 : Int), inR x2 → inR x3 → fX6_removes_J57 n σ x1 x2 x3 = some σ2 → Wd D cy ad nm nv σ H → va_S (AW ad nm nv sz) s.heap H locs → lv_has ls 5 [(0, .ref (ad 230)), (1, .int (i32 x1)), (2, .int (i32 x2)), (3, .int (i32 x3))] → W p l e ({ frames := 3, cells := 0, slots := 0, locals := 65 } : Room) s m args below meth c H locs 0 0 Q (F0 m 57 ls []) := by
    intro σ H locs ls x2 x3 hx2 hx3 hf hW hS hl
    unfold fX6_removes_J57 at hf
    refine m_const (v := 0) hx hb dX6_removes_57 rfl ?_
    exact hc58 _ _ _ _ x2 x3 0 hx2 hx3 (by decide) hf hW hS (lv_sub hl [0, 1, 2, 3] rfl)
  refine lv_aload_n hx hb dX6_removes_0 rfl (lv_at hl 0 rfl) ?_
  refine g_X6_ones X hW (X.2.2.2.2.1 _ mw1051) dX6_removes_1 ?_
  refine lv_iload_n hx hb dX6_removes_4 rfl (lv_at hl 1 rfl) ?_
  refine m_iald X hW a_X6_ones hx1 hf dX6_removes_5 (fun v1 hv1 hf => ?_)
  refine lv_istore_n (lv' := [(2, .int (i32 v1)), (0, .ref (ad 230)), (1, .int (i32 x1))]) hx hb dX6_removes_6 rfl hl (by decide) rfl (fun ls hl => ?_)
  refine lv_aload_n hx hb dX6_removes_7 rfl (lv_at hl 1 rfl) ?_
  refine lv_aload_n hx hb dX6_removes_8 rfl (lv_at hl 1 rfl) ?_
  refine g_X6_makers X hW (X.2.2.2.2.1 _ mw1048) dX6_removes_9 ?_
  refine lv_iload_n hx hb dX6_removes_12 rfl (lv_at hl 2 rfl) ?_
  refine m_iald X hW a_X6_makers hx1 hf dX6_removes_13 (fun v2 hv2 hf => ?_)
  refine lv_aload_n hx hb dX6_removes_14 rfl (lv_at hl 1 rfl) ?_
  refine lv_iload_n hx hb dX6_removes_15 rfl (lv_at hl 0 rfl) ?_
  refine m_callVi1 (z := false) (As := [.int (i32 v1)]) (rest := [.int (i32 v2), .ref (ad 230)]) X hW hS hl.1 gc_X6_172 hd_X6_blockOf ⟨rfl, rfl, Nat.le_of_ble_eq_true rfl, Nat.le_of_ble_eq_true rfl⟩ (rc_X6 X hW) (fun v q => ok_X6_blockOf hv1 q) hf rfl rfl (Nat.le_of_ble_eq_true rfl) dX6_removes_16 ⟨Nat.le_of_ble_eq_true rfl, Nat.le_of_ble_eq_true rfl⟩ (fun v3 H locs hv3 zv3 hWv3 hSv3 hf => ?_)
  refine m_callVi1 (z := false) (As := [.int (i32 v2), .int (i32 v3)]) (rest := []) X hWv3 hSv3 hl.1 gc_X6_175 hd_X6_levelIn ⟨rfl, rfl, Nat.le_of_ble_eq_true rfl, Nat.le_of_ble_eq_true rfl⟩ (rc_X6 X hWv3) (fun v q => ok_X6_levelIn hv2 hv3 q) hf rfl rfl (Nat.le_of_ble_eq_true rfl) dX6_removes_19 ⟨Nat.le_of_ble_eq_true rfl, Nat.le_of_ble_eq_true rfl⟩ (fun v4 H locs hv4 zv4 hWv4 hSv4 hf => ?_)
  refine lv_istore_n (lv' := [(3, .int (i32 v4)), (2, .int (i32 v1)), (0, .ref (ad 230)), (1, .int (i32 x1))]) hx hb dX6_removes_22 rfl hl (by decide) rfl (fun ls hl => ?_)
  refine lv_iload_n hx hb dX6_removes_23 rfl (lv_at hl 0 rfl) ?_
  refine m_const (v := 2) hx hb dX6_removes_24 rfl ?_
  refine m_icmp_eq (tgt := 95) hx hb hv4 (by decide) hf dX6_removes_25 (by decide) (fun hf => ?_) (fun hf => ?_)
  · skip
    exact m_vret X hr hlocks hWv4 hSv4 (Option.some.inj hf) hQ dX6_removes_95
  · skip
    refine lv_aload_n hx hb dX6_removes_28 rfl (lv_at hl 2 rfl) ?_
    refine g_X6_states X hWv4 (X.2.2.2.2.1 _ mw1080) dX6_removes_29 ?_
    refine lv_iload_n hx hb dX6_removes_32 rfl (lv_at hl 1 rfl) ?_
    refine m_iald X hWv4 a_X6_states hv1 hf dX6_removes_33 (fun v5 hv5 hf => ?_)
    refine m_const (v := 1) hx hb dX6_removes_34 rfl ?_
    refine m_icmp_ne (tgt := 57) hx hb hv5 (by decide) hf dX6_removes_35 (by decide) (fun hf => ?_) (fun hf => ?_)
    · skip
      exact hc57 _ _ _ _ v1 v4 hv1 hv4 hf hWv4 hSv4 (lv_sub hl [2, 3, 1, 0] rfl)
    · skip
      refine lv_aload_n hx hb dX6_removes_38 rfl (lv_at hl 2 rfl) ?_
      refine g_X6_makers X hWv4 (X.2.2.2.2.1 _ mw1048) dX6_removes_39 ?_
      refine lv_iload_n hx hb dX6_removes_42 rfl (lv_at hl 1 rfl) ?_
      refine m_iald X hWv4 a_X6_makers hv1 hf dX6_removes_43 (fun v6 hv6 hf => ?_)
      refine lv_aload_n hx hb dX6_removes_44 rfl (lv_at hl 2 rfl) ?_
      refine g_X6_makers X hWv4 (X.2.2.2.2.1 _ mw1048) dX6_removes_45 ?_
      refine lv_iload_n hx hb dX6_removes_48 rfl (lv_at hl 3 rfl) ?_
      refine m_iald X hWv4 a_X6_makers hx1 hf dX6_removes_49 (fun v7 hv7 hf => ?_)
      refine m_icmp_ne (tgt := 57) hx hb hv6 hv7 hf dX6_removes_50 (by decide) (fun hf => ?_) (fun hf => ?_)
      · skip
        exact hc57 _ _ _ _ v1 v4 hv1 hv4 hf hWv4 hSv4 (lv_sub hl [2, 3, 1, 0] rfl)
      · skip
        refine m_const (v := 1) hx hb dX6_removes_53 rfl ?_
        refine lv_goto (tgt := 58) hx hb dX6_removes_54 (by decide) ?_
        exact hc58 _ _ _ _ v1 v4 1 hv1 hv4 (by decide) hf hWv4 hSv4 (lv_sub hl [2, 3, 1, 0] rfl)
set_option maxRecDepth 100000 in
set_option maxHeartbeats 4000000 in
theorem ok_X6_spans {l : Launch} {D : va_G} {cy : Nat → ClassId} {ad : Nat → Nat} {nm nv sz : Nat} {σ : St} {n : Nat} {x1 : Int} {σ2 : St} (hx1 : inR x1) (hf : fX6_spans n σ x1 = some σ2) : CV l yX6_spans cX6_spans 5 none ({ frames := 2, cells := 0, slots := 0, locals := 44 } : Room) [.ref (ad 230), .int (i32 x1)] D cy ad nm nv sz σ σ2 := by
  refine m_entry RX6 rfl (by decide +kernel) (Nat.le_of_ble_eq_true rfl) ?_
  intro p e s m args below meth c Q hQ hr hlocks X hW hS ls hl
  have hx := X.1
  have hb := X.2.1
  have hl : lv_has ls 5 [(0, .ref (ad 230)), (1, .int (i32 x1))] := hl
  unfold fX6_spans at hf
  have hc22 : ∀ (k22 : Nat) (σ : St) (H : Heap) (locs : List Loc) (ls : Array Slot) (x2 : Int) (x3 : Int), inR x2 → inR x3 → fX6_spans_L22 n x1 x2 k22 σ x3 = some σ2 → Wd D cy ad nm nv σ H → va_S (AW ad nm nv sz) s.heap H locs → lv_has ls 5 [(0, .ref (ad 230)), (1, .int (i32 x1)), (2, .int (i32 x2)), (3, .int (i32 x3))] → W p l e ({ frames := 2, cells := 0, slots := 0, locals := 44 } : Room) s m args below meth c H locs 0 0 Q (F0 m 22 ls []) := by
    intro k22
    induction k22 with
    | zero =>
      intro σ H locs ls x2 x3 hx2 hx3 hf
      have hf : (none : Option St) = some σ2 := hf
      cases hf
    | succ k22 ih22 =>
      intro σ H locs ls x2 x3 hx2 hx3 hf hW hS hl
      have hf : fX6_spans_L22s n x1 x2 (fX6_spans_L22 n x1 x2 k22) σ x3 = some σ2 := hf
      unfold fX6_spans_L22s at hf
      refine lv_iload_n hx hb dX6_spans_22 rfl (lv_at hl 3 rfl) ?_
      refine lv_iload_n hx hb dX6_spans_23 rfl (lv_at hl 2 rfl) ?_
      refine m_icmp_gt (tgt := 151) hx hb hx3 hx2 hf dX6_spans_24 (by decide) (fun hf => ?_) (fun hf => ?_)
      · skip
        exact m_vret X hr hlocks hW hS (Option.some.inj hf) hQ dX6_spans_151
      · skip
        refine lv_aload_n hx hb dX6_spans_27 rfl (lv_at hl 0 rfl) ?_
        refine g_X6_kinds X hW (X.2.2.2.2.1 _ mw1050) dX6_spans_28 ?_
        refine lv_iload_n hx hb dX6_spans_31 rfl (lv_at hl 1 rfl) ?_
        refine m_iald X hW a_X6_kinds hx1 hf dX6_spans_32 (fun v5 hv5 hf => ?_)
        refine m_bipush (v := 7) hx hb dX6_spans_33 (by decide) ?_
        refine m_icmp_ne (tgt := 63) hx hb hv5 (by decide) hf dX6_spans_35 (by decide) (fun hf => ?_) (fun hf => ?_)
        · skip
          refine lv_aload_n hx hb dX6_spans_63 rfl (lv_at hl 0 rfl) ?_
          refine lv_aload_n hx hb dX6_spans_64 rfl (lv_at hl 0 rfl) ?_
          refine g_X6_makers X hW (X.2.2.2.2.1 _ mw1048) dX6_spans_65 ?_
          refine lv_iload_n hx hb dX6_spans_68 rfl (lv_at hl 1 rfl) ?_
          refine m_iald X hW a_X6_makers hx1 hf dX6_spans_69 (fun v6 hv6 hf => ?_)
          refine lv_aload_n hx hb dX6_spans_70 rfl (lv_at hl 0 rfl) ?_
          refine lv_iload_n hx hb dX6_spans_71 rfl (lv_at hl 3 rfl) ?_
          refine m_callVi1 (z := false) (As := [.int (i32 x3)]) (rest := [.int (i32 v6), .ref (ad 230)]) X hW hS hl.1 gc_X6_155 hd_X6_blockAt ⟨rfl, rfl, Nat.le_of_ble_eq_true rfl, Nat.le_of_ble_eq_true rfl⟩ (rc_X6 X hW) (fun v q => ok_X6_blockAt hx3 q) hf rfl rfl (Nat.le_of_ble_eq_true rfl) dX6_spans_72 ⟨Nat.le_of_ble_eq_true rfl, Nat.le_of_ble_eq_true rfl⟩ (fun v7 H locs hv7 zv7 hWv7 hSv7 hf => ?_)
          refine m_callVi1 (z := false) (As := [.int (i32 v6), .int (i32 v7)]) (rest := []) X hWv7 hSv7 hl.1 gc_X6_175 hd_X6_levelIn ⟨rfl, rfl, Nat.le_of_ble_eq_true rfl, Nat.le_of_ble_eq_true rfl⟩ (rc_X6 X hWv7) (fun v q => ok_X6_levelIn hv6 hv7 q) hf rfl rfl (Nat.le_of_ble_eq_true rfl) dX6_spans_75 ⟨Nat.le_of_ble_eq_true rfl, Nat.le_of_ble_eq_true rfl⟩ (fun v8 H locs hv8 zv8 hWv8 hSv8 hf => ?_)
          refine m_if_ne (tgt := 145) hx hb hv8 hf dX6_spans_78 (by decide) (fun hf => ?_) (fun hf => ?_)
          · skip
            refine m_iinc (k0 := 3) (fun v9 => [(3, .int (i32 v9)), (0, .ref (ad 230)), (1, .int (i32 x1)), (2, .int (i32 x2))]) hx hb hf dX6_spans_145 hl rfl (by decide) (fun _ => rfl) (fun v9 ls hv9 hf hl => ?_)
            have hl : lv_has ls 5 [(3, .int (i32 v9)), (0, .ref (ad 230)), (1, .int (i32 x1)), (2, .int (i32 x2))] := hl
            refine lv_goto (tgt := 22) hx hb dX6_spans_148 (by decide) ?_
            exact ih22 _ _ _ _ x2 v9 hx2 hv9 hf hWv8 hSv8 (lv_sub hl [1, 2, 3, 0] rfl)
          · skip
            refine m_const (v := 1) hx hb dX6_spans_81 rfl ?_
            refine lv_aload_n hx hb dX6_spans_82 rfl (lv_at hl 0 rfl) ?_
            refine g_X6_threes X hWv8 (X.2.2.2.2.1 _ mw1053) dX6_spans_83 ?_
            refine lv_iload_n hx hb dX6_spans_86 rfl (lv_at hl 1 rfl) ?_
            refine m_iald X hWv8 a_X6_threes hx1 hf dX6_spans_87 (fun v10 hv10 hf => ?_)
            refine m_ishl hx hb hf dX6_spans_88 (fun v11 hv11 hf => ?_)
            refine lv_istore (lv' := [(4, .int (i32 v11)), (0, .ref (ad 230)), (1, .int (i32 x1)), (2, .int (i32 x2)), (3, .int (i32 x3))]) hx hb dX6_spans_89 hl (by decide) rfl (fun ls hl => ?_)
            refine lv_aload_n hx hb dX6_spans_91 rfl (lv_at hl 1 rfl) ?_
            refine g_X6_marks X hWv8 (X.2.2.2.2.1 _ mw1082) dX6_spans_92 ?_
            refine lv_aload_n hx hb dX6_spans_95 rfl (lv_at hl 1 rfl) ?_
            refine g_X6_row X hWv8 (X.2.2.2.2.1 _ mw1079) dX6_spans_96 ?_
            refine lv_iload_n hx hb dX6_spans_99 rfl (lv_at hl 4 rfl) ?_
            refine m_iald X hWv8 a_X6_row hx3 hf dX6_spans_100 (fun v12 hv12 hf => ?_)
            refine lv_aload_n hx hb dX6_spans_101 rfl (lv_at hl 1 rfl) ?_
            refine g_X6_fours X hWv8 (X.2.2.2.2.1 _ mw1054) dX6_spans_102 ?_
            refine lv_iload_n hx hb dX6_spans_105 rfl (lv_at hl 2 rfl) ?_
            refine m_iald X hWv8 a_X6_fours hx1 hf dX6_spans_106 (fun v13 hv13 hf => ?_)
            refine m_const (v := 1) hx hb dX6_spans_107 rfl ?_
            refine m_icmp_ne (tgt := 128) hx hb hv13 (by decide) hf dX6_spans_108 (by decide) (fun hf => ?_) (fun hf => ?_)
            · skip
              refine lv_aload_n hx hb dX6_spans_128 rfl (lv_at hl 1 rfl) ?_
              refine g_X6_marks X hWv8 (X.2.2.2.2.1 _ mw1082) dX6_spans_129 ?_
              refine lv_aload_n hx hb dX6_spans_132 rfl (lv_at hl 1 rfl) ?_
              refine g_X6_row X hWv8 (X.2.2.2.2.1 _ mw1079) dX6_spans_133 ?_
              refine lv_iload_n hx hb dX6_spans_136 rfl (lv_at hl 4 rfl) ?_
              refine m_iald X hWv8 a_X6_row hx3 hf dX6_spans_137 (fun v14 hv14 hf => ?_)
              refine m_iald X hWv8 a_X6_marks hv14 hf dX6_spans_138 (fun v15 hv15 hf => ?_)
              refine lv_iload hx hb dX6_spans_139 (lv_at hl 0 rfl) ?_
              refine m_const (v := (-1)) hx hb dX6_spans_141 rfl ?_
              refine m_ixor hx hb hf dX6_spans_142 (fun v16 hv16 hf => ?_)
              refine m_iand hx hb hf dX6_spans_143 (fun v17 hv17 hf => ?_)
              refine m_iast X hWv8 hSv8 a_X6_marks hv12 hv17 hf dX6_spans_144 (fun σ18 H locs hW18 hS18 hf => ?_)
              refine m_iinc (k0 := 4) (fun v19 => [(3, .int (i32 v19)), (4, .int (i32 v11)), (0, .ref (ad 230)), (1, .int (i32 x1)), (2, .int (i32 x2))]) hx hb hf dX6_spans_145 hl rfl (by decide) (fun _ => rfl) (fun v19 ls hv19 hf hl => ?_)
              have hl : lv_has ls 5 [(3, .int (i32 v19)), (4, .int (i32 v11)), (0, .ref (ad 230)), (1, .int (i32 x1)), (2, .int (i32 x2))] := hl
              refine lv_goto (tgt := 22) hx hb dX6_spans_148 (by decide) ?_
              exact ih22 _ _ _ _ x2 v19 hx2 hv19 hf hW18 hS18 (lv_sub hl [2, 3, 4, 0] rfl)
            · skip
              refine lv_aload_n hx hb dX6_spans_111 rfl (lv_at hl 1 rfl) ?_
              refine g_X6_marks X hWv8 (X.2.2.2.2.1 _ mw1082) dX6_spans_112 ?_
              refine lv_aload_n hx hb dX6_spans_115 rfl (lv_at hl 1 rfl) ?_
              refine g_X6_row X hWv8 (X.2.2.2.2.1 _ mw1079) dX6_spans_116 ?_
              refine lv_iload_n hx hb dX6_spans_119 rfl (lv_at hl 4 rfl) ?_
              refine m_iald X hWv8 a_X6_row hx3 hf dX6_spans_120 (fun v20 hv20 hf => ?_)
              refine m_iald X hWv8 a_X6_marks hv20 hf dX6_spans_121 (fun v21 hv21 hf => ?_)
              refine lv_iload hx hb dX6_spans_122 (lv_at hl 0 rfl) ?_
              refine m_ior hx hb hf dX6_spans_124 (fun v22 hv22 hf => ?_)
              refine lv_goto (tgt := 144) hx hb dX6_spans_125 (by decide) ?_
              refine m_iast X hWv8 hSv8 a_X6_marks hv12 hv22 hf dX6_spans_144 (fun σ23 H locs hW23 hS23 hf => ?_)
              refine m_iinc (k0 := 4) (fun v24 => [(3, .int (i32 v24)), (4, .int (i32 v11)), (0, .ref (ad 230)), (1, .int (i32 x1)), (2, .int (i32 x2))]) hx hb hf dX6_spans_145 hl rfl (by decide) (fun _ => rfl) (fun v24 ls hv24 hf hl => ?_)
              have hl : lv_has ls 5 [(3, .int (i32 v24)), (4, .int (i32 v11)), (0, .ref (ad 230)), (1, .int (i32 x1)), (2, .int (i32 x2))] := hl
              refine lv_goto (tgt := 22) hx hb dX6_spans_148 (by decide) ?_
              exact ih22 _ _ _ _ x2 v24 hx2 hv24 hf hW23 hS23 (lv_sub hl [2, 3, 4, 0] rfl)
        · skip
          refine lv_aload_n hx hb dX6_spans_38 rfl (lv_at hl 0 rfl) ?_
          refine g_X6_covers X hW (X.2.2.2.2.1 _ mw1083) dX6_spans_39 ?_
          refine lv_aload_n hx hb dX6_spans_42 rfl (lv_at hl 0 rfl) ?_
          refine g_X6_row X hW (X.2.2.2.2.1 _ mw1079) dX6_spans_43 ?_
          refine lv_iload_n hx hb dX6_spans_46 rfl (lv_at hl 3 rfl) ?_
          refine m_iald X hW a_X6_row hx3 hf dX6_spans_47 (fun v25 hv25 hf => ?_)
          refine lv_dup2_11 hx hb dX6_spans_48 rfl rfl ?_
          refine m_iald X hW a_X6_covers hv25 hf dX6_spans_49 (fun v26 hv26 hf => ?_)
          refine m_const (v := 1) hx hb dX6_spans_50 rfl ?_
          refine lv_aload_n hx hb dX6_spans_51 rfl (lv_at hl 0 rfl) ?_
          refine g_X6_commentOf X hW (X.2.2.2.2.1 _ mw1057) dX6_spans_52 ?_
          refine lv_iload_n hx hb dX6_spans_55 rfl (lv_at hl 1 rfl) ?_
          refine m_iald X hW a_X6_commentOf hx1 hf dX6_spans_56 (fun v27 hv27 hf => ?_)
          refine m_ishl hx hb hf dX6_spans_57 (fun v28 hv28 hf => ?_)
          refine m_ior hx hb hf dX6_spans_58 (fun v29 hv29 hf => ?_)
          refine m_iast X hW hS a_X6_covers hv25 hv29 hf dX6_spans_59 (fun σ30 H locs hW30 hS30 hf => ?_)
          refine lv_goto (tgt := 145) hx hb dX6_spans_60 (by decide) ?_
          refine m_iinc (k0 := 3) (fun v31 => [(3, .int (i32 v31)), (0, .ref (ad 230)), (1, .int (i32 x1)), (2, .int (i32 x2))]) hx hb hf dX6_spans_145 hl rfl (by decide) (fun _ => rfl) (fun v31 ls hv31 hf hl => ?_)
          have hl : lv_has ls 5 [(3, .int (i32 v31)), (0, .ref (ad 230)), (1, .int (i32 x1)), (2, .int (i32 x2))] := hl
          refine lv_goto (tgt := 22) hx hb dX6_spans_148 (by decide) ?_
          exact ih22 _ _ _ _ x2 v31 hx2 hv31 hf hW30 hS30 (lv_sub hl [1, 2, 3, 0] rfl)
  refine lv_aload_n hx hb dX6_spans_0 rfl (lv_at hl 0 rfl) ?_
  refine lv_aload_n hx hb dX6_spans_1 rfl (lv_at hl 0 rfl) ?_
  refine g_X6_twos X hW (X.2.2.2.2.1 _ mw1052) dX6_spans_2 ?_
  refine lv_iload_n hx hb dX6_spans_5 rfl (lv_at hl 1 rfl) ?_
  refine m_iald X hW a_X6_twos hx1 hf dX6_spans_6 (fun v1 hv1 hf => ?_)
  refine m_callVi1 (z := false) (As := [.int (i32 v1)]) (rest := []) X hW hS hl.1 gc_X6_151 hd_X6_spot ⟨rfl, rfl, Nat.le_of_ble_eq_true rfl, Nat.le_of_ble_eq_true rfl⟩ (rc_X6 X hW) (fun v q => ok_X6_spot hv1 q) hf rfl rfl (Nat.le_of_ble_eq_true rfl) dX6_spans_7 ⟨Nat.le_of_ble_eq_true rfl, Nat.le_of_ble_eq_true rfl⟩ (fun v2 H locs hv2 zv2 hWv2 hSv2 hf => ?_)
  refine lv_istore_n (lv' := [(2, .int (i32 v2)), (0, .ref (ad 230)), (1, .int (i32 x1))]) hx hb dX6_spans_10 rfl hl (by decide) rfl (fun ls hl => ?_)
  refine lv_aload_n hx hb dX6_spans_11 rfl (lv_at hl 1 rfl) ?_
  refine lv_aload_n hx hb dX6_spans_12 rfl (lv_at hl 1 rfl) ?_
  refine g_X6_ones X hWv2 (X.2.2.2.2.1 _ mw1051) dX6_spans_13 ?_
  refine lv_iload_n hx hb dX6_spans_16 rfl (lv_at hl 2 rfl) ?_
  refine m_iald X hWv2 a_X6_ones hx1 hf dX6_spans_17 (fun v3 hv3 hf => ?_)
  refine m_callVi1 (z := false) (As := [.int (i32 v3)]) (rest := []) X hWv2 hSv2 hl.1 gc_X6_151 hd_X6_spot ⟨rfl, rfl, Nat.le_of_ble_eq_true rfl, Nat.le_of_ble_eq_true rfl⟩ (rc_X6 X hWv2) (fun v q => ok_X6_spot hv3 q) hf rfl rfl (Nat.le_of_ble_eq_true rfl) dX6_spans_18 ⟨Nat.le_of_ble_eq_true rfl, Nat.le_of_ble_eq_true rfl⟩ (fun v4 H locs hv4 zv4 hWv4 hSv4 hf => ?_)
  refine lv_istore_n (lv' := [(3, .int (i32 v4)), (2, .int (i32 v2)), (0, .ref (ad 230)), (1, .int (i32 x1))]) hx hb dX6_spans_21 rfl hl (by decide) rfl (fun ls hl => ?_)
  exact hc22 n _ _ _ _ v2 v4 hv2 hv4 hf hWv4 hSv4 (lv_sub hl [2, 3, 1, 0] rfl)
set_option maxRecDepth 100000 in
set_option maxHeartbeats 4000000 in
theorem ok_X6_comesTo {l : Launch} {D : va_G} {cy : Nat → ClassId} {ad : Nat → Nat} {nm nv sz : Nat} {σ : St} {n : Nat} {x1 : Int} {x2 : Int} {r : Int} (hx1 : inR x1) (hx2 : inR x2) (hf : fX6_comesTo n σ x1 x2 = some r) : CI l yX6_comesTo cX6_comesTo 4 (some .boolean) ({ frames := 0, cells := 0, slots := 0, locals := 0 } : Room) [.ref (ad 230), .int (i32 x1), .int (i32 x2)] D cy ad nm nv sz σ true r σ := by
  refine m_entry RX6 rfl (by decide +kernel) (Nat.le_of_ble_eq_true rfl) ?_
  intro p e s m args below meth c Q hQ hr hlocks X hW hS ls hl
  have hx := X.1
  have hb := X.2.1
  have hl : lv_has ls 4 [(0, .ref (ad 230)), (1, .int (i32 x1)), (2, .int (i32 x2))] := hl
  unfold fX6_comesTo at hf
  have hc25 : ∀ (H : Heap) (locs : List Loc) (ls : Array Slot) (x3 : Int), inR x3 → fX6_comesTo_J25 n σ x1 x2 x3 = some r → Wd D cy ad nm nv σ H → va_S (AW ad nm nv sz) s.heap H locs → lv_has ls 4 [(3, .int (i32 x3))] → W p l e ({ frames := 0, cells := 0, slots := 0, locals := 0 } : Room) s m args below meth c H locs 0 0 Q (F0 m 25 ls []) := by
    intro H locs ls x3 hx3 hf hW hS hl
    unfold fX6_comesTo_J25 at hf
    refine lv_iload_n hx hb dX6_comesTo_25 rfl (lv_at hl 0 rfl) ?_
    refine m_bipush (v := (-2)) hx hb dX6_comesTo_26 (by decide) ?_
    refine m_icmp_eq (tgt := 35) hx hb hx3 (by decide) hf dX6_comesTo_28 (by decide) (fun hf => ?_) (fun hf => ?_)
    · skip
      refine m_const (v := 0) hx hb dX6_comesTo_35 rfl ?_
      exact m_ireti X hr hlocks (nar_b (Or.inl rfl)).1 (by decide) (fun _ => (Or.inl rfl)) hW hS (Option.some.inj hf) rfl hQ dX6_comesTo_36
    · skip
      refine m_const (v := 1) hx hb dX6_comesTo_31 rfl ?_
      refine lv_goto (tgt := 36) hx hb dX6_comesTo_32 (by decide) ?_
      exact m_ireti X hr hlocks (nar_b (Or.inr rfl)).1 (by decide) (fun _ => (Or.inr rfl)) hW hS (Option.some.inj hf) rfl hQ dX6_comesTo_36
  have hc2 : ∀ (k2 : Nat) (H : Heap) (locs : List Loc) (ls : Array Slot) (x3 : Int), inR x3 → fX6_comesTo_L2 n σ x1 x2 k2 x3 = some r → Wd D cy ad nm nv σ H → va_S (AW ad nm nv sz) s.heap H locs → lv_has ls 4 [(0, .ref (ad 230)), (2, .int (i32 x2)), (3, .int (i32 x3))] → W p l e ({ frames := 0, cells := 0, slots := 0, locals := 0 } : Room) s m args below meth c H locs 0 0 Q (F0 m 2 ls []) := by
    intro k2
    induction k2 with
    | zero =>
      intro H locs ls x3 hx3 hf
      have hf : (none : Option Int) = some r := hf
      cases hf
    | succ k2 ih2 =>
      intro H locs ls x3 hx3 hf hW hS hl
      have hf : fX6_comesTo_L2s n σ x1 x2 (fX6_comesTo_L2 n σ x1 x2 k2) x3 = some r := hf
      unfold fX6_comesTo_L2s at hf
      refine lv_iload_n hx hb dX6_comesTo_2 rfl (lv_at hl 2 rfl) ?_
      refine m_bipush (v := (-2)) hx hb dX6_comesTo_3 (by decide) ?_
      refine m_icmp_eq (tgt := 25) hx hb hx3 (by decide) hf dX6_comesTo_5 (by decide) (fun hf => ?_) (fun hf => ?_)
      · skip
        exact hc25 _ _ _ x3 hx3 hf hW hS (lv_sub hl [2] rfl)
      · skip
        refine lv_iload_n hx hb dX6_comesTo_8 rfl (lv_at hl 2 rfl) ?_
        refine lv_iload_n hx hb dX6_comesTo_9 rfl (lv_at hl 1 rfl) ?_
        refine m_icmp_eq (tgt := 25) hx hb hx3 hx2 hf dX6_comesTo_10 (by decide) (fun hf => ?_) (fun hf => ?_)
        · skip
          exact hc25 _ _ _ x3 hx3 hf hW hS (lv_sub hl [2] rfl)
        · skip
          refine lv_aload_n hx hb dX6_comesTo_13 rfl (lv_at hl 0 rfl) ?_
          refine g_X6_aboves X hW (X.2.2.2.2.1 _ mw1086) dX6_comesTo_14 ?_
          refine lv_iload_n hx hb dX6_comesTo_17 rfl (lv_at hl 2 rfl) ?_
          refine m_const (v := 1) hx hb dX6_comesTo_18 rfl ?_
          refine m_iadd hx hb hf dX6_comesTo_19 (fun v1 hv1 hf => ?_)
          refine m_iald X hW a_X6_aboves hv1 hf dX6_comesTo_20 (fun v2 hv2 hf => ?_)
          refine lv_istore_n (lv' := [(3, .int (i32 v2)), (0, .ref (ad 230)), (2, .int (i32 x2))]) hx hb dX6_comesTo_21 rfl hl (by decide) rfl (fun ls hl => ?_)
          refine lv_goto (tgt := 2) hx hb dX6_comesTo_22 (by decide) ?_
          exact ih2 _ _ _ v2 hv2 hf hW hS (lv_sub hl [1, 2, 0] rfl)
  refine lv_iload_n hx hb dX6_comesTo_0 rfl (lv_at hl 1 rfl) ?_
  refine lv_istore_n (lv' := [(3, .int (i32 x1)), (0, .ref (ad 230)), (1, .int (i32 x1)), (2, .int (i32 x2))]) hx hb dX6_comesTo_1 rfl hl (by decide) rfl (fun ls hl => ?_)
  exact hc2 n _ _ _ x1 hx1 hf hW hS (lv_sub hl [1, 3, 0] rfl)
set_option maxRecDepth 100000 in
set_option maxHeartbeats 4000000 in
theorem ok_X6_isDone {l : Launch} {D : va_G} {cy : Nat → ClassId} {ad : Nat → Nat} {nm nv sz : Nat} {σ : St} {n : Nat} {x1 : Int} {r : Int} (hx1 : inR x1) (hf : fX6_isDone n σ x1 = some r) : CI l yX6_isDone cX6_isDone 2 (some .boolean) ({ frames := 1, cells := 0, slots := 0, locals := 22 } : Room) [.ref (ad 230), .int (i32 x1)] D cy ad nm nv sz σ true r σ := by
  refine m_entry RX6 rfl (by decide +kernel) (Nat.le_of_ble_eq_true rfl) ?_
  intro p e s m args below meth c Q hQ hr hlocks X hW hS ls hl
  have hx := X.1
  have hb := X.2.1
  have hl : lv_has ls 2 [(0, .ref (ad 230)), (1, .int (i32 x1))] := hl
  unfold fX6_isDone at hf
  refine lv_aload_n hx hb dX6_isDone_0 rfl (lv_at hl 0 rfl) ?_
  refine g_X6_kinds X hW (X.2.2.2.2.1 _ mw1050) dX6_isDone_1 ?_
  refine lv_iload_n hx hb dX6_isDone_4 rfl (lv_at hl 1 rfl) ?_
  refine m_iald X hW a_X6_kinds hx1 hf dX6_isDone_5 (fun v1 hv1 hf => ?_)
  refine m_const (v := 2) hx hb dX6_isDone_6 rfl ?_
  refine m_icmp_eq (tgt := 22) hx hb hv1 (by decide) hf dX6_isDone_7 (by decide) (fun hf => ?_) (fun hf => ?_)
  · skip
    refine m_const (v := 1) hx hb dX6_isDone_22 rfl ?_
    refine lv_goto (tgt := 27) hx hb dX6_isDone_23 (by decide) ?_
    exact m_ireti X hr hlocks (nar_b (Or.inr rfl)).1 (by decide) (fun _ => (Or.inr rfl)) hW hS (Option.some.inj hf) rfl hQ dX6_isDone_27
  · skip
    refine lv_aload_n hx hb dX6_isDone_10 rfl (lv_at hl 0 rfl) ?_
    refine lv_iload_n hx hb dX6_isDone_11 rfl (lv_at hl 1 rfl) ?_
    refine m_callVi1 (z := false) (As := [.int (i32 x1)]) (rest := []) X hW hS hl.1 gc_X6_151 hd_X6_spot ⟨rfl, rfl, Nat.le_of_ble_eq_true rfl, Nat.le_of_ble_eq_true rfl⟩ (rc_X6 X hW) (fun v q => ok_X6_spot hx1 q) hf rfl rfl (Nat.le_of_ble_eq_true rfl) dX6_isDone_12 ⟨Nat.le_of_ble_eq_true rfl, Nat.le_of_ble_eq_true rfl⟩ (fun v2 H locs hv2 zv2 hWv2 hSv2 hf => ?_)
    refine lv_aload_n hx hb dX6_isDone_15 rfl (lv_at hl 0 rfl) ?_
    refine g_X6_rowMany X hWv2 (X.2.2.2.2.1 _ mw1078) dX6_isDone_16 ?_
    refine m_icmp_ge (tgt := 26) hx hb hv2 (hWv2.2.1 _ _) hf dX6_isDone_19 (by decide) (fun hf => ?_) (fun hf => ?_)
    · skip
      refine m_const (v := 0) hx hb dX6_isDone_26 rfl ?_
      exact m_ireti X hr hlocks (nar_b (Or.inl rfl)).1 (by decide) (fun _ => (Or.inl rfl)) hWv2 hSv2 (Option.some.inj hf) rfl hQ dX6_isDone_27
    · skip
      refine m_const (v := 1) hx hb dX6_isDone_22 rfl ?_
      refine lv_goto (tgt := 27) hx hb dX6_isDone_23 (by decide) ?_
      exact m_ireti X hr hlocks (nar_b (Or.inr rfl)).1 (by decide) (fun _ => (Or.inr rfl)) hWv2 hSv2 (Option.some.inj hf) rfl hQ dX6_isDone_27
set_option maxRecDepth 100000 in
set_option maxHeartbeats 4000000 in
theorem ok_X6_isOpen {l : Launch} {D : va_G} {cy : Nat → ClassId} {ad : Nat → Nat} {nm nv sz : Nat} {σ : St} {x1 : Int} {r : Int} (hx1 : inR x1) (hf : fX6_isOpen σ x1 = some r) : CI l yX6_isOpen cX6_isOpen 2 (some .boolean) ({ frames := 1, cells := 0, slots := 0, locals := 21 } : Room) [.ref (ad 230), .int (i32 x1)] D cy ad nm nv sz σ true r σ := by
  refine m_entry RX6 rfl (by decide +kernel) (Nat.le_of_ble_eq_true rfl) ?_
  intro p e s m args below meth c Q hQ hr hlocks X hW hS ls hl
  have hx := X.1
  have hb := X.2.1
  have hl : lv_has ls 2 [(0, .ref (ad 230)), (1, .int (i32 x1))] := hl
  unfold fX6_isOpen at hf
  have hc57 : ∀ (H : Heap) (locs : List Loc) (ls : Array Slot), fX6_isOpen_J57 σ x1 = some r → Wd D cy ad nm nv σ H → va_S (AW ad nm nv sz) s.heap H locs → lv_has ls 2 [(0, .ref (ad 230)), (1, .int (i32 x1))] → W p l e ({ frames := 1, cells := 0, slots := 0, locals := 21 } : Room) s m args below meth c H locs 0 0 Q (F0 m 57 ls []) := by
    intro H locs ls hf hW hS hl
    unfold fX6_isOpen_J57 at hf
    refine lv_aload_n hx hb dX6_isOpen_57 rfl (lv_at hl 0 rfl) ?_
    refine g_X6_states X hW (X.2.2.2.2.1 _ mw1080) dX6_isOpen_58 ?_
    refine lv_iload_n hx hb dX6_isOpen_61 rfl (lv_at hl 1 rfl) ?_
    refine m_iald X hW a_X6_states hx1 hf dX6_isOpen_62 (fun v7 hv7 hf => ?_)
    refine m_const (v := 1) hx hb dX6_isOpen_63 rfl ?_
    refine m_icmp_ne (tgt := 80) hx hb hv7 (by decide) hf dX6_isOpen_64 (by decide) (fun hf => ?_) (fun hf => ?_)
    · skip
      refine m_const (v := 0) hx hb dX6_isOpen_80 rfl ?_
      exact m_ireti X hr hlocks (nar_b (Or.inl rfl)).1 (by decide) (fun _ => (Or.inl rfl)) hW hS (Option.some.inj hf) rfl hQ dX6_isOpen_81
    · skip
      refine lv_aload_n hx hb dX6_isOpen_67 rfl (lv_at hl 0 rfl) ?_
      refine g_X6_removed X hW (X.2.2.2.2.1 _ mw1081) dX6_isOpen_68 ?_
      refine lv_iload_n hx hb dX6_isOpen_71 rfl (lv_at hl 1 rfl) ?_
      refine m_zald X hW a_X6_removed hx1 hf dX6_isOpen_72 (fun v8 hv8 hf => ?_)
      refine m_if_ne (tgt := 80) hx hb hv8 hf dX6_isOpen_73 (by decide) (fun hf => ?_) (fun hf => ?_)
      · skip
        refine m_const (v := 0) hx hb dX6_isOpen_80 rfl ?_
        exact m_ireti X hr hlocks (nar_b (Or.inl rfl)).1 (by decide) (fun _ => (Or.inl rfl)) hW hS (Option.some.inj hf) rfl hQ dX6_isOpen_81
      · skip
        refine m_const (v := 1) hx hb dX6_isOpen_76 rfl ?_
        refine lv_goto (tgt := 81) hx hb dX6_isOpen_77 (by decide) ?_
        exact m_ireti X hr hlocks (nar_b (Or.inr rfl)).1 (by decide) (fun _ => (Or.inr rfl)) hW hS (Option.some.inj hf) rfl hQ dX6_isOpen_81
  refine lv_aload_n hx hb dX6_isOpen_0 rfl (lv_at hl 0 rfl) ?_
  refine g_X6_kinds X hW (X.2.2.2.2.1 _ mw1050) dX6_isOpen_1 ?_
  refine lv_iload_n hx hb dX6_isOpen_4 rfl (lv_at hl 1 rfl) ?_
  refine m_iald X hW a_X6_kinds hx1 hf dX6_isOpen_5 (fun v1 hv1 hf => ?_)
  refine m_const (v := 2) hx hb dX6_isOpen_6 rfl ?_
  refine m_icmp_ne (tgt := 38) hx hb hv1 (by decide) hf dX6_isOpen_7 (by decide) (fun hf => ?_) (fun hf => ?_)
  · skip
    refine lv_aload_n hx hb dX6_isOpen_38 rfl (lv_at hl 0 rfl) ?_
    refine g_X6_kinds X hW (X.2.2.2.2.1 _ mw1050) dX6_isOpen_39 ?_
    refine lv_iload_n hx hb dX6_isOpen_42 rfl (lv_at hl 1 rfl) ?_
    refine m_iald X hW a_X6_kinds hx1 hf dX6_isOpen_43 (fun v2 hv2 hf => ?_)
    refine m_if_eq (tgt := 57) hx hb hv2 hf dX6_isOpen_44 (by decide) (fun hf => ?_) (fun hf => ?_)
    · skip
      exact hc57 _ _ _  hf hW hS (lv_sub hl [0, 1] rfl)
    · skip
      refine lv_aload_n hx hb dX6_isOpen_47 rfl (lv_at hl 0 rfl) ?_
      refine g_X6_kinds X hW (X.2.2.2.2.1 _ mw1050) dX6_isOpen_48 ?_
      refine lv_iload_n hx hb dX6_isOpen_51 rfl (lv_at hl 1 rfl) ?_
      refine m_iald X hW a_X6_kinds hx1 hf dX6_isOpen_52 (fun v3 hv3 hf => ?_)
      refine m_const (v := 1) hx hb dX6_isOpen_53 rfl ?_
      refine m_icmp_ne (tgt := 80) hx hb hv3 (by decide) hf dX6_isOpen_54 (by decide) (fun hf => ?_) (fun hf => ?_)
      · skip
        refine m_const (v := 0) hx hb dX6_isOpen_80 rfl ?_
        exact m_ireti X hr hlocks (nar_b (Or.inl rfl)).1 (by decide) (fun _ => (Or.inl rfl)) hW hS (Option.some.inj hf) rfl hQ dX6_isOpen_81
      · skip
        exact hc57 _ _ _  hf hW hS (lv_sub hl [0, 1] rfl)
  · skip
    refine lv_aload_n hx hb dX6_isOpen_10 rfl (lv_at hl 0 rfl) ?_
    refine g_X6_waits X hW (X.2.2.2.2.1 _ mw1084) dX6_isOpen_11 ?_
    refine lv_iload_n hx hb dX6_isOpen_14 rfl (lv_at hl 1 rfl) ?_
    refine m_zald X hW a_X6_waits hx1 hf dX6_isOpen_15 (fun v4 hv4 hf => ?_)
    refine m_if_eq (tgt := 36) hx hb hv4 hf dX6_isOpen_16 (by decide) (fun hf => ?_) (fun hf => ?_)
    · skip
      refine m_const (v := 0) hx hb dX6_isOpen_36 rfl ?_
      exact m_ireti X hr hlocks (nar_b (Or.inl rfl)).1 (by decide) (fun _ => (Or.inl rfl)) hW hS (Option.some.inj hf) rfl hQ dX6_isOpen_37
    · skip
      refine lv_aload_n hx hb dX6_isOpen_19 rfl (lv_at hl 0 rfl) ?_
      refine lv_aload_n hx hb dX6_isOpen_20 rfl (lv_at hl 0 rfl) ?_
      refine g_X6_ones X hW (X.2.2.2.2.1 _ mw1051) dX6_isOpen_21 ?_
      refine lv_iload_n hx hb dX6_isOpen_24 rfl (lv_at hl 1 rfl) ?_
      refine m_iald X hW a_X6_ones hx1 hf dX6_isOpen_25 (fun v5 hv5 hf => ?_)
      refine m_callVi1 (z := true) (As := [.int (i32 v5)]) (rest := []) X hW hS hl.1 gc_X6_189 hd_X6_isSeen ⟨rfl, rfl, Nat.le_of_ble_eq_true rfl, Nat.le_of_ble_eq_true rfl⟩ (rc_X6 X hW) (fun v q => ok_X6_isSeen hv5 q) hf rfl rfl (Nat.le_of_ble_eq_true rfl) dX6_isOpen_26 ⟨Nat.le_of_ble_eq_true rfl, Nat.le_of_ble_eq_true rfl⟩ (fun v6 H locs hv6 zv6 hWv6 hSv6 hf => ?_)
      refine m_if_eq (tgt := 36) hx hb hv6 hf dX6_isOpen_29 (by decide) (fun hf => ?_) (fun hf => ?_)
      · skip
        refine m_const (v := 0) hx hb dX6_isOpen_36 rfl ?_
        exact m_ireti X hr hlocks (nar_b (Or.inl rfl)).1 (by decide) (fun _ => (Or.inl rfl)) hWv6 hSv6 (Option.some.inj hf) rfl hQ dX6_isOpen_37
      · skip
        refine m_const (v := 1) hx hb dX6_isOpen_32 rfl ?_
        refine lv_goto (tgt := 37) hx hb dX6_isOpen_33 (by decide) ?_
        exact m_ireti X hr hlocks (nar_b (Or.inr rfl)).1 (by decide) (fun _ => (Or.inr rfl)) hWv6 hSv6 (Option.some.inj hf) rfl hQ dX6_isOpen_37
set_option maxRecDepth 100000 in
set_option maxHeartbeats 4000000 in
theorem ok_X6_elementOf {l : Launch} {D : va_G} {cy : Nat → ClassId} {ad : Nat → Nat} {nm nv sz : Nat} {σ : St} {x1 : Int} {r : Int} (hx1 : inR x1) (hf : fX6_elementOf σ x1 = some r) : CI l yX6_elementOf cX6_elementOf 2 (some .int) ({ frames := 0, cells := 0, slots := 0, locals := 0 } : Room) [.ref (ad 230), .int (i32 x1)] D cy ad nm nv sz σ false r σ := by
  refine m_entry RX6 rfl (by decide +kernel) (Nat.le_of_ble_eq_true rfl) ?_
  intro p e s m args below meth c Q hQ hr hlocks X hW hS ls hl
  have hx := X.1
  have hb := X.2.1
  have hl : lv_has ls 2 [(0, .ref (ad 230)), (1, .int (i32 x1))] := hl
  unfold fX6_elementOf at hf
  refine lv_aload_n hx hb dX6_elementOf_0 rfl (lv_at hl 0 rfl) ?_
  refine g_X6_kinds X hW (X.2.2.2.2.1 _ mw1050) dX6_elementOf_1 ?_
  refine lv_iload_n hx hb dX6_elementOf_4 rfl (lv_at hl 1 rfl) ?_
  refine m_iald X hW a_X6_kinds hx1 hf dX6_elementOf_5 (fun v1 hv1 hf => ?_)
  refine m_const (v := 2) hx hb dX6_elementOf_6 rfl ?_
  refine m_icmp_ne (tgt := 19) hx hb hv1 (by decide) hf dX6_elementOf_7 (by decide) (fun hf => ?_) (fun hf => ?_)
  · skip
    refine lv_iload_n hx hb dX6_elementOf_19 rfl (lv_at hl 1 rfl) ?_
    exact m_ireti X hr hlocks rfl hx1 (fun h => Bool.noConfusion h) hW hS (Option.some.inj hf) rfl hQ dX6_elementOf_20
  · skip
    refine lv_aload_n hx hb dX6_elementOf_10 rfl (lv_at hl 0 rfl) ?_
    refine g_X6_ones X hW (X.2.2.2.2.1 _ mw1051) dX6_elementOf_11 ?_
    refine lv_iload_n hx hb dX6_elementOf_14 rfl (lv_at hl 1 rfl) ?_
    refine m_iald X hW a_X6_ones hx1 hf dX6_elementOf_15 (fun v2 hv2 hf => ?_)
    refine lv_goto (tgt := 20) hx hb dX6_elementOf_16 (by decide) ?_
    exact m_ireti X hr hlocks rfl hv2 (fun h => Bool.noConfusion h) hW hS (Option.some.inj hf) rfl hQ dX6_elementOf_20
set_option maxRecDepth 100000 in
set_option maxHeartbeats 4000000 in
theorem ok_X6_decides {l : Launch} {D : va_G} {cy : Nat → ClassId} {ad : Nat → Nat} {nm nv sz : Nat} {σ : St} {n : Nat} {x1 : Int} {x2 : Int} {x3 : Int} {σ2 : St} (hx1 : inR x1) (hx2 : inR x2) (hx3 : inR x3) (hf : fX6_decides n σ x1 x2 x3 = some σ2) : CV l yX6_decides cX6_decides 5 none ({ frames := 3, cells := 0, slots := 0, locals := 65 } : Room) [.ref (ad 230), .int (i32 x1), .int (i32 x2), .int (i32 x3)] D cy ad nm nv sz σ σ2 := by
  refine m_entry RX6 rfl (by decide +kernel) (Nat.le_of_ble_eq_true rfl) ?_
  intro p e s m args below meth c Q hQ hr hlocks X hW hS ls hl
  have hx := X.1
  have hb := X.2.1
  have hl : lv_has ls 5 [(0, .ref (ad 230)), (1, .int (i32 x1)), (2, .int (i32 x2)), (3, .int (i32 x3))] := hl
  unfold fX6_decides at hf
  have hc21 : ∀ (σ : St) (H : Heap) (locs : List Loc) (ls : Array Slot) (t0 : Int), inR t0 → fX6_decides_J21 n σ x1 x2 x3 t0 = some σ2 → Wd D cy ad nm nv σ H → va_S (AW ad nm nv sz) s.heap H locs → lv_has ls 5 [(0, .ref (ad 230)), (1, .int (i32 x1)), (2, .int (i32 x2)), (3, .int (i32 x3))] → W p l e ({ frames := 3, cells := 0, slots := 0, locals := 65 } : Room) s m args below meth c H locs 0 0 Q (F0 m 21 ls [.int (i32 t0)]) := by
    intro σ H locs ls t0 ht0 hf hW hS hl
    unfold fX6_decides_J21 at hf
    refine lv_istore (lv' := [(4, .int (i32 t0)), (0, .ref (ad 230)), (1, .int (i32 x1)), (2, .int (i32 x2)), (3, .int (i32 x3))]) hx hb dX6_decides_21 hl (by decide) rfl (fun ls hl => ?_)
    refine lv_iload hx hb dX6_decides_23 (lv_at hl 0 rfl) ?_
    refine m_if_eq (tgt := 114) hx hb ht0 hf dX6_decides_25 (by decide) (fun hf => ?_) (fun hf => ?_)
    · skip
      exact m_vret X hr hlocks hW hS (Option.some.inj hf) hQ dX6_decides_114
    · skip
      refine lv_aload_n hx hb dX6_decides_28 rfl (lv_at hl 1 rfl) ?_
      refine lv_iload_n hx hb dX6_decides_29 rfl (lv_at hl 3 rfl) ?_
      refine lv_aload_n hx hb dX6_decides_30 rfl (lv_at hl 1 rfl) ?_
      refine lv_aload_n hx hb dX6_decides_31 rfl (lv_at hl 1 rfl) ?_
      refine lv_iload_n hx hb dX6_decides_32 rfl (lv_at hl 2 rfl) ?_
      refine m_callVi1 (z := false) (As := [.int (i32 x1)]) (rest := [.ref (ad 230), .int (i32 x2), .ref (ad 230)]) X hW hS hl.1 gc_X6_198 hd_X6_elementOf ⟨rfl, rfl, Nat.le_of_ble_eq_true rfl, Nat.le_of_ble_eq_true rfl⟩ (rc_X6 X hW) (fun v q => ok_X6_elementOf hx1 q) hf rfl rfl (Nat.le_of_ble_eq_true rfl) dX6_decides_33 ⟨Nat.le_of_ble_eq_true rfl, Nat.le_of_ble_eq_true rfl⟩ (fun v3 H locs hv3 zv3 hWv3 hSv3 hf => ?_)
      refine m_callVi1 (z := false) (As := [.int (i32 v3)]) (rest := [.int (i32 x2), .ref (ad 230)]) X hWv3 hSv3 hl.1 gc_X6_172 hd_X6_blockOf ⟨rfl, rfl, Nat.le_of_ble_eq_true rfl, Nat.le_of_ble_eq_true rfl⟩ (rc_X6 X hWv3) (fun v q => ok_X6_blockOf hv3 q) hf rfl rfl (Nat.le_of_ble_eq_true rfl) dX6_decides_36 ⟨Nat.le_of_ble_eq_true rfl, Nat.le_of_ble_eq_true rfl⟩ (fun v4 H locs hv4 zv4 hWv4 hSv4 hf => ?_)
      refine m_callVi1 (z := false) (As := [.int (i32 x2), .int (i32 v4)]) (rest := []) X hWv4 hSv4 hl.1 gc_X6_175 hd_X6_levelIn ⟨rfl, rfl, Nat.le_of_ble_eq_true rfl, Nat.le_of_ble_eq_true rfl⟩ (rc_X6 X hWv4) (fun v q => ok_X6_levelIn hx2 hv4 q) hf rfl rfl (Nat.le_of_ble_eq_true rfl) dX6_decides_39 ⟨Nat.le_of_ble_eq_true rfl, Nat.le_of_ble_eq_true rfl⟩ (fun v5 H locs hv5 zv5 hWv5 hSv5 hf => ?_)
      refine m_if_ne (tgt := 114) hx hb hv5 hf dX6_decides_42 (by decide) (fun hf => ?_) (fun hf => ?_)
      · skip
        exact m_vret X hr hlocks hWv5 hSv5 (Option.some.inj hf) hQ dX6_decides_114
      · skip
        refine lv_aload_n hx hb dX6_decides_45 rfl (lv_at hl 1 rfl) ?_
        refine g_X6_kinds X hWv5 (X.2.2.2.2.1 _ mw1050) dX6_decides_46 ?_
        refine lv_iload_n hx hb dX6_decides_49 rfl (lv_at hl 2 rfl) ?_
        refine m_iald X hWv5 a_X6_kinds hx1 hf dX6_decides_50 (fun v6 hv6 hf => ?_)
        refine m_const (v := 2) hx hb dX6_decides_51 rfl ?_
        refine m_icmp_ne (tgt := 99) hx hb hv6 (by decide) hf dX6_decides_52 (by decide) (fun hf => ?_) (fun hf => ?_)
        · skip
          refine lv_aload_n hx hb dX6_decides_99 rfl (lv_at hl 1 rfl) ?_
          refine g_X6_states X hWv5 (X.2.2.2.2.1 _ mw1080) dX6_decides_100 ?_
          refine lv_iload_n hx hb dX6_decides_103 rfl (lv_at hl 2 rfl) ?_
          refine lv_iload_n hx hb dX6_decides_104 rfl (lv_at hl 4 rfl) ?_
          refine m_if_eq (tgt := 112) hx hb hx3 hf dX6_decides_105 (by decide) (fun hf => ?_) (fun hf => ?_)
          · skip
            refine m_const (v := 2) hx hb dX6_decides_112 rfl ?_
            refine m_iast X hWv5 hSv5 a_X6_states hx1 (by decide) hf dX6_decides_113 (fun σ7 H locs hW7 hS7 hf => ?_)
            exact m_vret X hr hlocks hW7 hS7 (Option.some.inj hf) hQ dX6_decides_114
          · skip
            refine m_const (v := 0) hx hb dX6_decides_108 rfl ?_
            refine lv_goto (tgt := 113) hx hb dX6_decides_109 (by decide) ?_
            refine m_iast X hWv5 hSv5 a_X6_states hx1 (by decide) hf dX6_decides_113 (fun σ8 H locs hW8 hS8 hf => ?_)
            exact m_vret X hr hlocks hW8 hS8 (Option.some.inj hf) hQ dX6_decides_114
        · skip
          refine lv_aload_n hx hb dX6_decides_55 rfl (lv_at hl 1 rfl) ?_
          refine g_X6_waits X hWv5 (X.2.2.2.2.1 _ mw1084) dX6_decides_56 ?_
          refine lv_iload_n hx hb dX6_decides_59 rfl (lv_at hl 2 rfl) ?_
          refine m_const (v := 0) hx hb dX6_decides_60 rfl ?_
          refine m_zast X hWv5 hSv5 a_X6_waits hx1 (by decide) hf dX6_decides_61 (fun σ9 H locs hW9 hS9 hf => ?_)
          refine lv_aload_n hx hb dX6_decides_62 rfl (lv_at hl 1 rfl) ?_
          refine g_X6_removed X hW9 (X.2.2.2.2.1 _ mw1081) dX6_decides_63 ?_
          refine lv_aload_n hx hb dX6_decides_66 rfl (lv_at hl 1 rfl) ?_
          refine g_X6_ones X hW9 (X.2.2.2.2.1 _ mw1051) dX6_decides_67 ?_
          refine lv_iload_n hx hb dX6_decides_70 rfl (lv_at hl 2 rfl) ?_
          refine m_iald X hW9 a_X6_ones hx1 hf dX6_decides_71 (fun v10 hv10 hf => ?_)
          refine lv_aload_n hx hb dX6_decides_72 rfl (lv_at hl 1 rfl) ?_
          refine g_X6_removed X hW9 (X.2.2.2.2.1 _ mw1081) dX6_decides_73 ?_
          refine lv_aload_n hx hb dX6_decides_76 rfl (lv_at hl 1 rfl) ?_
          refine g_X6_ones X hW9 (X.2.2.2.2.1 _ mw1051) dX6_decides_77 ?_
          refine lv_iload_n hx hb dX6_decides_80 rfl (lv_at hl 2 rfl) ?_
          refine m_iald X hW9 a_X6_ones hx1 hf dX6_decides_81 (fun v11 hv11 hf => ?_)
          refine m_zald X hW9 a_X6_removed hv11 hf dX6_decides_82 (fun v12 hv12 hf => ?_)
          refine m_if_ne (tgt := 90) hx hb hv12 hf dX6_decides_83 (by decide) (fun hf => ?_) (fun hf => ?_)
          · skip
            refine m_const (v := 1) hx hb dX6_decides_90 rfl ?_
            refine lv_goto (tgt := 95) hx hb dX6_decides_91 (by decide) ?_
            refine m_zast X hW9 hS9 a_X6_removed hv10 (by decide) hf dX6_decides_95 (fun σ13 H locs hW13 hS13 hf => ?_)
            refine lv_goto (tgt := 114) hx hb dX6_decides_96 (by decide) ?_
            exact m_vret X hr hlocks hW13 hS13 (Option.some.inj hf) hQ dX6_decides_114
          · skip
            refine lv_iload_n hx hb dX6_decides_86 rfl (lv_at hl 4 rfl) ?_
            refine m_if_eq (tgt := 94) hx hb hx3 hf dX6_decides_87 (by decide) (fun hf => ?_) (fun hf => ?_)
            · skip
              refine m_const (v := 0) hx hb dX6_decides_94 rfl ?_
              refine m_zast X hW9 hS9 a_X6_removed hv10 (by decide) hf dX6_decides_95 (fun σ14 H locs hW14 hS14 hf => ?_)
              refine lv_goto (tgt := 114) hx hb dX6_decides_96 (by decide) ?_
              exact m_vret X hr hlocks hW14 hS14 (Option.some.inj hf) hQ dX6_decides_114
            · skip
              refine m_const (v := 1) hx hb dX6_decides_90 rfl ?_
              refine lv_goto (tgt := 95) hx hb dX6_decides_91 (by decide) ?_
              refine m_zast X hW9 hS9 a_X6_removed hv10 (by decide) hf dX6_decides_95 (fun σ15 H locs hW15 hS15 hf => ?_)
              refine lv_goto (tgt := 114) hx hb dX6_decides_96 (by decide) ?_
              exact m_vret X hr hlocks hW15 hS15 (Option.some.inj hf) hQ dX6_decides_114
  have hc20 : ∀ (σ : St) (H : Heap) (locs : List Loc) (ls : Array Slot), fX6_decides_J20 n σ x1 x2 x3 = some σ2 → Wd D cy ad nm nv σ H → va_S (AW ad nm nv sz) s.heap H locs → lv_has ls 5 [(0, .ref (ad 230)), (1, .int (i32 x1)), (2, .int (i32 x2)), (3, .int (i32 x3))] → W p l e ({ frames := 3, cells := 0, slots := 0, locals := 65 } : Room) s m args below meth c H locs 0 0 Q (F0 m 20 ls []) := by
    intro σ H locs ls hf hW hS hl
    unfold fX6_decides_J20 at hf
    refine m_const (v := 0) hx hb dX6_decides_20 rfl ?_
    exact hc21 _ _ _ _ 0 (by decide) hf hW hS (lv_sub hl [0, 1, 2, 3] rfl)
  refine lv_aload_n hx hb dX6_decides_0 rfl (lv_at hl 0 rfl) ?_
  refine lv_iload_n hx hb dX6_decides_1 rfl (lv_at hl 1 rfl) ?_
  refine m_callVi1 (z := true) (As := [.int (i32 x1)]) (rest := []) X hW hS hl.1 gc_X6_192 hd_X6_isDone ⟨rfl, rfl, Nat.le_of_ble_eq_true rfl, Nat.le_of_ble_eq_true rfl⟩ (rc_X6 X hW) (fun v q => ok_X6_isDone hx1 q) hf rfl rfl (Nat.le_of_ble_eq_true rfl) dX6_decides_2 ⟨Nat.le_of_ble_eq_true rfl, Nat.le_of_ble_eq_true rfl⟩ (fun v1 H locs hv1 zv1 hWv1 hSv1 hf => ?_)
  refine m_if_eq (tgt := 20) hx hb hv1 hf dX6_decides_5 (by decide) (fun hf => ?_) (fun hf => ?_)
  · skip
    exact hc20 _ _ _ _  hf hWv1 hSv1 (lv_sub hl [0, 1, 2, 3] rfl)
  · skip
    refine lv_aload_n hx hb dX6_decides_8 rfl (lv_at hl 0 rfl) ?_
    refine lv_iload_n hx hb dX6_decides_9 rfl (lv_at hl 1 rfl) ?_
    refine m_callVi1 (z := true) (As := [.int (i32 x1)]) (rest := []) X hWv1 hSv1 hl.1 gc_X6_195 hd_X6_isOpen ⟨rfl, rfl, Nat.le_of_ble_eq_true rfl, Nat.le_of_ble_eq_true rfl⟩ (rc_X6 X hWv1) (fun v q => ok_X6_isOpen hx1 q) hf rfl rfl (Nat.le_of_ble_eq_true rfl) dX6_decides_10 ⟨Nat.le_of_ble_eq_true rfl, Nat.le_of_ble_eq_true rfl⟩ (fun v2 H locs hv2 zv2 hWv2 hSv2 hf => ?_)
    refine m_if_eq (tgt := 20) hx hb hv2 hf dX6_decides_13 (by decide) (fun hf => ?_) (fun hf => ?_)
    · skip
      exact hc20 _ _ _ _  hf hWv2 hSv2 (lv_sub hl [0, 1, 2, 3] rfl)
    · skip
      refine m_const (v := 1) hx hb dX6_decides_16 rfl ?_
      refine lv_goto (tgt := 21) hx hb dX6_decides_17 (by decide) ?_
      exact hc21 _ _ _ _ 1 (by decide) hf hWv2 hSv2 (lv_sub hl [0, 1, 2, 3] rfl)
set_option maxRecDepth 100000 in
set_option maxHeartbeats 4000000 in
theorem ok_X6_does {l : Launch} {D : va_G} {cy : Nat → ClassId} {ad : Nat → Nat} {nm nv sz : Nat} {σ : St} {n : Nat} {x1 : Int} {σ2 : St} (hx1 : inR x1) (hf : fX6_does n σ x1 = some σ2) : CV l yX6_does cX6_does 3 none ({ frames := 4, cells := 0, slots := 0, locals := 90 } : Room) [.ref (ad 230), .int (i32 x1)] D cy ad nm nv sz σ σ2 := by
  refine m_entry RX6 rfl (by decide +kernel) (Nat.le_of_ble_eq_true rfl) ?_
  intro p e s m args below meth c Q hQ hr hlocks X hW hS ls hl
  have hx := X.1
  have hb := X.2.1
  have hl : lv_has ls 3 [(0, .ref (ad 230)), (1, .int (i32 x1))] := hl
  unfold fX6_does at hf
  have hc16 : ∀ (σ : St) (H : Heap) (locs : List Loc) (ls : Array Slot), fX6_does_J16 n σ x1 = some σ2 → Wd D cy ad nm nv σ H → va_S (AW ad nm nv sz) s.heap H locs → lv_has ls 3 [(0, .ref (ad 230)), (1, .int (i32 x1))] → W p l e ({ frames := 4, cells := 0, slots := 0, locals := 90 } : Room) s m args below meth c H locs 0 0 Q (F0 m 16 ls []) := by
    intro σ H locs ls hf hW hS hl
    unfold fX6_does_J16 at hf
    refine lv_aload_n hx hb dX6_does_16 rfl (lv_at hl 0 rfl) ?_
    refine lv_iload_n hx hb dX6_does_17 rfl (lv_at hl 1 rfl) ?_
    refine m_callVv (As := [.int (i32 x1)]) (rest := []) X hW hS hl.1 gc_X6_166 hd_X6_puts ⟨rfl, rfl, Nat.le_of_ble_eq_true rfl, Nat.le_of_ble_eq_true rfl⟩ (rc_X6 X hW) (fun v q => ok_X6_puts hx1 q) hf rfl rfl (Nat.le_of_ble_eq_true rfl) dX6_does_18 ⟨Nat.le_of_ble_eq_true rfl, Nat.le_of_ble_eq_true rfl⟩ (fun σ21 H locs hW21 hS21 hf => ?_)
    refine lv_goto (tgt := 316) hx hb dX6_does_21 (by decide) ?_
    exact m_vret X hr hlocks hW21 hS21 (Option.some.inj hf) hQ dX6_does_316
  have hc118 : ∀ (σ : St) (H : Heap) (locs : List Loc) (ls : Array Slot), fX6_does_J118 n σ x1 = some σ2 → Wd D cy ad nm nv σ H → va_S (AW ad nm nv sz) s.heap H locs → lv_has ls 3 [(0, .ref (ad 230)), (1, .int (i32 x1))] → W p l e ({ frames := 4, cells := 0, slots := 0, locals := 90 } : Room) s m args below meth c H locs 0 0 Q (F0 m 118 ls []) := by
    intro σ H locs ls hf hW hS hl
    unfold fX6_does_J118 at hf
    refine lv_aload_n hx hb dX6_does_118 rfl (lv_at hl 0 rfl) ?_
    refine lv_iload_n hx hb dX6_does_119 rfl (lv_at hl 1 rfl) ?_
    refine m_callVv (As := [.int (i32 x1)]) (rest := []) X hW hS hl.1 gc_X6_179 hd_X6_spans ⟨rfl, rfl, Nat.le_of_ble_eq_true rfl, Nat.le_of_ble_eq_true rfl⟩ (rc_X6 X hW) (fun v q => ok_X6_spans hx1 q) hf rfl rfl (Nat.le_of_ble_eq_true rfl) dX6_does_120 ⟨Nat.le_of_ble_eq_true rfl, Nat.le_of_ble_eq_true rfl⟩ (fun σ22 H locs hW22 hS22 hf => ?_)
    refine lv_goto (tgt := 316) hx hb dX6_does_123 (by decide) ?_
    exact m_vret X hr hlocks hW22 hS22 (Option.some.inj hf) hQ dX6_does_316
  have hc274 : ∀ (σ : St) (H : Heap) (locs : List Loc) (ls : Array Slot) (t0 : Int) (t1 : Int) (t2 : Int), inR t0 → inR t1 → inR t2 → fX6_does_J274 n σ x1 t0 t1 t2 = some σ2 → Wd D cy ad nm nv σ H → va_S (AW ad nm nv sz) s.heap H locs → lv_has ls 3 [] → W p l e ({ frames := 4, cells := 0, slots := 0, locals := 90 } : Room) s m args below meth c H locs 0 0 Q (F0 m 274 ls [.int (i32 t0), .int (i32 t1), .int (i32 t2), .ref (ad 230)]) := by
    intro σ H locs ls t0 t1 t2 ht0 ht1 ht2 hf hW hS hl
    unfold fX6_does_J274 at hf
    refine m_callVv (As := [.int (i32 t2), .int (i32 t1), .int (i32 t0)]) (rest := []) X hW hS hl.1 gc_X6_185 hd_X6_decides ⟨rfl, rfl, Nat.le_of_ble_eq_true rfl, Nat.le_of_ble_eq_true rfl⟩ (rc_X6 X hW) (fun v q => ok_X6_decides ht2 ht1 ht0 q) hf rfl rfl (Nat.le_of_ble_eq_true rfl) dX6_does_274 ⟨Nat.le_of_ble_eq_true rfl, Nat.le_of_ble_eq_true rfl⟩ (fun σ42 H locs hW42 hS42 hf => ?_)
    refine lv_goto (tgt := 316) hx hb dX6_does_277 (by decide) ?_
    exact m_vret X hr hlocks hW42 hS42 (Option.some.inj hf) hQ dX6_does_316
  have hc250 : ∀ (σ : St) (H : Heap) (locs : List Loc) (ls : Array Slot) (x2 : Int), inR x2 → fX6_does_J250 n σ x1 x2 = some σ2 → Wd D cy ad nm nv σ H → va_S (AW ad nm nv sz) s.heap H locs → lv_has ls 3 [(0, .ref (ad 230)), (1, .int (i32 x1)), (2, .int (i32 x2))] → W p l e ({ frames := 4, cells := 0, slots := 0, locals := 90 } : Room) s m args below meth c H locs 0 0 Q (F0 m 250 ls []) := by
    intro σ H locs ls x2 hx2 hf hW hS hl
    unfold fX6_does_J250 at hf
    refine lv_aload_n hx hb dX6_does_250 rfl (lv_at hl 0 rfl) ?_
    refine lv_aload_n hx hb dX6_does_251 rfl (lv_at hl 0 rfl) ?_
    refine g_X6_ones X hW (X.2.2.2.2.1 _ mw1051) dX6_does_252 ?_
    refine lv_iload_n hx hb dX6_does_255 rfl (lv_at hl 1 rfl) ?_
    refine m_iald X hW a_X6_ones hx1 hf dX6_does_256 (fun v40 hv40 hf => ?_)
    refine lv_aload_n hx hb dX6_does_257 rfl (lv_at hl 0 rfl) ?_
    refine g_X6_makers X hW (X.2.2.2.2.1 _ mw1048) dX6_does_258 ?_
    refine lv_iload_n hx hb dX6_does_261 rfl (lv_at hl 1 rfl) ?_
    refine m_iald X hW a_X6_makers hx1 hf dX6_does_262 (fun v41 hv41 hf => ?_)
    refine lv_iload_n hx hb dX6_does_263 rfl (lv_at hl 2 rfl) ?_
    refine m_bipush (v := 8) hx hb dX6_does_264 (by decide) ?_
    refine m_icmp_ne (tgt := 273) hx hb hx2 (by decide) hf dX6_does_266 (by decide) (fun hf => ?_) (fun hf => ?_)
    · skip
      refine m_const (v := 0) hx hb dX6_does_273 rfl ?_
      exact hc274 _ _ _ _ 0 v41 v40 (by decide) hv41 hv40 hf hW hS (lv_sub hl [] rfl)
    · skip
      refine m_const (v := 1) hx hb dX6_does_269 rfl ?_
      refine lv_goto (tgt := 274) hx hb dX6_does_270 (by decide) ?_
      exact hc274 _ _ _ _ 1 v41 v40 (by decide) hv41 hv40 hf hW hS (lv_sub hl [] rfl)
  have hc238 : ∀ (σ : St) (H : Heap) (locs : List Loc) (ls : Array Slot) (x2 : Int), inR x2 → fX6_does_J238 n σ x1 x2 = some σ2 → Wd D cy ad nm nv σ H → va_S (AW ad nm nv sz) s.heap H locs → lv_has ls 3 [(0, .ref (ad 230)), (1, .int (i32 x1)), (2, .int (i32 x2))] → W p l e ({ frames := 4, cells := 0, slots := 0, locals := 90 } : Room) s m args below meth c H locs 0 0 Q (F0 m 238 ls []) := by
    intro σ H locs ls x2 hx2 hf hW hS hl
    unfold fX6_does_J238 at hf
    refine lv_iload_n hx hb dX6_does_238 rfl (lv_at hl 2 rfl) ?_
    refine m_bipush (v := 8) hx hb dX6_does_239 (by decide) ?_
    refine m_icmp_eq (tgt := 250) hx hb hx2 (by decide) hf dX6_does_241 (by decide) (fun hf => ?_) (fun hf => ?_)
    · skip
      exact hc250 _ _ _ _ x2 hx2 hf hW hS (lv_sub hl [0, 1, 2] rfl)
    · skip
      refine lv_iload_n hx hb dX6_does_244 rfl (lv_at hl 2 rfl) ?_
      refine m_bipush (v := 9) hx hb dX6_does_245 (by decide) ?_
      refine m_icmp_ne (tgt := 280) hx hb hx2 (by decide) hf dX6_does_247 (by decide) (fun hf => ?_) (fun hf => ?_)
      · skip
        refine lv_iload_n hx hb dX6_does_280 rfl (lv_at hl 2 rfl) ?_
        refine m_bipush (v := 10) hx hb dX6_does_281 (by decide) ?_
        refine m_icmp_ne (tgt := 316) hx hb hx2 (by decide) hf dX6_does_283 (by decide) (fun hf => ?_) (fun hf => ?_)
        · skip
          exact m_vret X hr hlocks hW hS (Option.some.inj hf) hQ dX6_does_316
        · skip
          refine lv_aload_n hx hb dX6_does_286 rfl (lv_at hl 0 rfl) ?_
          refine g_X6_levels X hW (X.2.2.2.2.1 _ mw1087) dX6_does_287 ?_
          refine m_sipush (v := 161) hx hb dX6_does_290 (by decide) ?_
          refine lv_aload_n hx hb dX6_does_293 rfl (lv_at hl 0 rfl) ?_
          refine g_X6_ones X hW (X.2.2.2.2.1 _ mw1051) dX6_does_294 ?_
          refine lv_iload_n hx hb dX6_does_297 rfl (lv_at hl 1 rfl) ?_
          refine m_iald X hW a_X6_ones hx1 hf dX6_does_298 (fun v33 hv33 hf => ?_)
          refine m_imul hx hb hf dX6_does_299 (fun v34 hv34 hf => ?_)
          refine lv_aload_n hx hb dX6_does_300 rfl (lv_at hl 0 rfl) ?_
          refine g_X6_twos X hW (X.2.2.2.2.1 _ mw1052) dX6_does_301 ?_
          refine lv_iload_n hx hb dX6_does_304 rfl (lv_at hl 1 rfl) ?_
          refine m_iald X hW a_X6_twos hx1 hf dX6_does_305 (fun v35 hv35 hf => ?_)
          refine m_iadd hx hb hf dX6_does_306 (fun v36 hv36 hf => ?_)
          refine m_const (v := 1) hx hb dX6_does_307 rfl ?_
          refine m_iadd hx hb hf dX6_does_308 (fun v37 hv37 hf => ?_)
          refine lv_aload_n hx hb dX6_does_309 rfl (lv_at hl 0 rfl) ?_
          refine g_X6_threes X hW (X.2.2.2.2.1 _ mw1053) dX6_does_310 ?_
          refine lv_iload_n hx hb dX6_does_313 rfl (lv_at hl 1 rfl) ?_
          refine m_iald X hW a_X6_threes hx1 hf dX6_does_314 (fun v38 hv38 hf => ?_)
          refine m_iast X hW hS a_X6_levels hv37 hv38 hf dX6_does_315 (fun σ39 H locs hW39 hS39 hf => ?_)
          exact m_vret X hr hlocks hW39 hS39 (Option.some.inj hf) hQ dX6_does_316
      · skip
        exact hc250 _ _ _ _ x2 hx2 hf hW hS (lv_sub hl [0, 1, 2] rfl)
  have hc172 : ∀ (σ : St) (H : Heap) (locs : List Loc) (ls : Array Slot) (x2 : Int), inR x2 → fX6_does_J172 n σ x1 x2 = some σ2 → Wd D cy ad nm nv σ H → va_S (AW ad nm nv sz) s.heap H locs → lv_has ls 3 [(0, .ref (ad 230)), (1, .int (i32 x1)), (2, .int (i32 x2))] → W p l e ({ frames := 4, cells := 0, slots := 0, locals := 90 } : Room) s m args below meth c H locs 0 0 Q (F0 m 172 ls []) := by
    intro σ H locs ls x2 hx2 hf hW hS hl
    unfold fX6_does_J172 at hf
    refine lv_iload_n hx hb dX6_does_172 rfl (lv_at hl 2 rfl) ?_
    refine m_bipush (v := 6) hx hb dX6_does_173 (by decide) ?_
    refine m_icmp_ne (tgt := 238) hx hb hx2 (by decide) hf dX6_does_175 (by decide) (fun hf => ?_) (fun hf => ?_)
    · skip
      exact hc238 _ _ _ _ x2 hx2 hf hW hS (lv_sub hl [0, 1, 2] rfl)
    · skip
      refine lv_aload_n hx hb dX6_does_178 rfl (lv_at hl 0 rfl) ?_
      refine lv_aload_n hx hb dX6_does_179 rfl (lv_at hl 0 rfl) ?_
      refine g_X6_makers X hW (X.2.2.2.2.1 _ mw1048) dX6_does_180 ?_
      refine lv_iload_n hx hb dX6_does_183 rfl (lv_at hl 1 rfl) ?_
      refine m_iald X hW a_X6_makers hx1 hf dX6_does_184 (fun v23 hv23 hf => ?_)
      refine lv_aload_n hx hb dX6_does_185 rfl (lv_at hl 0 rfl) ?_
      refine g_X6_ones X hW (X.2.2.2.2.1 _ mw1051) dX6_does_186 ?_
      refine lv_iload_n hx hb dX6_does_189 rfl (lv_at hl 1 rfl) ?_
      refine m_iald X hW a_X6_ones hx1 hf dX6_does_190 (fun v24 hv24 hf => ?_)
      refine m_callVi1 (z := false) (As := [.int (i32 v23), .int (i32 v24)]) (rest := []) X hW hS hl.1 gc_X6_175 hd_X6_levelIn ⟨rfl, rfl, Nat.le_of_ble_eq_true rfl, Nat.le_of_ble_eq_true rfl⟩ (rc_X6 X hW) (fun v q => ok_X6_levelIn hv23 hv24 q) hf rfl rfl (Nat.le_of_ble_eq_true rfl) dX6_does_191 ⟨Nat.le_of_ble_eq_true rfl, Nat.le_of_ble_eq_true rfl⟩ (fun v25 H locs hv25 zv25 hWv25 hSv25 hf => ?_)
      refine m_if_ne (tgt := 238) hx hb hv25 hf dX6_does_194 (by decide) (fun hf => ?_) (fun hf => ?_)
      · skip
        exact hc238 _ _ _ _ x2 hx2 hf hWv25 hSv25 (lv_sub hl [0, 1, 2] rfl)
      · skip
        refine lv_aload_n hx hb dX6_does_197 rfl (lv_at hl 0 rfl) ?_
        refine lv_aload_n hx hb dX6_does_198 rfl (lv_at hl 0 rfl) ?_
        refine g_X6_twos X hWv25 (X.2.2.2.2.1 _ mw1052) dX6_does_199 ?_
        refine lv_iload_n hx hb dX6_does_202 rfl (lv_at hl 1 rfl) ?_
        refine m_iald X hWv25 a_X6_twos hx1 hf dX6_does_203 (fun v26 hv26 hf => ?_)
        refine lv_aload_n hx hb dX6_does_204 rfl (lv_at hl 0 rfl) ?_
        refine g_X6_ones X hWv25 (X.2.2.2.2.1 _ mw1051) dX6_does_205 ?_
        refine lv_iload_n hx hb dX6_does_208 rfl (lv_at hl 1 rfl) ?_
        refine m_iald X hWv25 a_X6_ones hx1 hf dX6_does_209 (fun v27 hv27 hf => ?_)
        refine m_callVi1 (z := true) (As := [.int (i32 v26), .int (i32 v27)]) (rest := []) X hWv25 hSv25 hl.1 gc_X6_182 hd_X6_comesTo ⟨rfl, rfl, Nat.le_of_ble_eq_true rfl, Nat.le_of_ble_eq_true rfl⟩ (rc_X6 X hWv25) (fun v q => ok_X6_comesTo hv26 hv27 q) hf rfl rfl (Nat.le_of_ble_eq_true rfl) dX6_does_210 ⟨Nat.le_of_ble_eq_true rfl, Nat.le_of_ble_eq_true rfl⟩ (fun v28 H locs hv28 zv28 hWv28 hSv28 hf => ?_)
        refine m_if_ne (tgt := 238) hx hb hv28 hf dX6_does_213 (by decide) (fun hf => ?_) (fun hf => ?_)
        · skip
          exact hc238 _ _ _ _ x2 hx2 hf hWv28 hSv28 (lv_sub hl [0, 1, 2] rfl)
        · skip
          refine lv_aload_n hx hb dX6_does_216 rfl (lv_at hl 0 rfl) ?_
          refine g_X6_aboves X hWv28 (X.2.2.2.2.1 _ mw1086) dX6_does_217 ?_
          refine lv_aload_n hx hb dX6_does_220 rfl (lv_at hl 0 rfl) ?_
          refine g_X6_ones X hWv28 (X.2.2.2.2.1 _ mw1051) dX6_does_221 ?_
          refine lv_iload_n hx hb dX6_does_224 rfl (lv_at hl 1 rfl) ?_
          refine m_iald X hWv28 a_X6_ones hx1 hf dX6_does_225 (fun v29 hv29 hf => ?_)
          refine m_const (v := 1) hx hb dX6_does_226 rfl ?_
          refine m_iadd hx hb hf dX6_does_227 (fun v30 hv30 hf => ?_)
          refine lv_aload_n hx hb dX6_does_228 rfl (lv_at hl 0 rfl) ?_
          refine g_X6_twos X hWv28 (X.2.2.2.2.1 _ mw1052) dX6_does_229 ?_
          refine lv_iload_n hx hb dX6_does_232 rfl (lv_at hl 1 rfl) ?_
          refine m_iald X hWv28 a_X6_twos hx1 hf dX6_does_233 (fun v31 hv31 hf => ?_)
          refine m_iast X hWv28 hSv28 a_X6_aboves hv30 hv31 hf dX6_does_234 (fun σ32 H locs hW32 hS32 hf => ?_)
          refine lv_goto (tgt := 316) hx hb dX6_does_235 (by decide) ?_
          exact m_vret X hr hlocks hW32 hS32 (Option.some.inj hf) hQ dX6_does_316
  refine lv_aload_n hx hb dX6_does_0 rfl (lv_at hl 0 rfl) ?_
  refine g_X6_kinds X hW (X.2.2.2.2.1 _ mw1050) dX6_does_1 ?_
  refine lv_iload_n hx hb dX6_does_4 rfl (lv_at hl 1 rfl) ?_
  refine m_iald X hW a_X6_kinds hx1 hf dX6_does_5 (fun v1 hv1 hf => ?_)
  refine lv_istore_n (lv' := [(2, .int (i32 v1)), (0, .ref (ad 230)), (1, .int (i32 x1))]) hx hb dX6_does_6 rfl hl (by decide) rfl (fun ls hl => ?_)
  refine lv_iload_n hx hb dX6_does_7 rfl (lv_at hl 0 rfl) ?_
  refine m_if_eq (tgt := 16) hx hb hv1 hf dX6_does_8 (by decide) (fun hf => ?_) (fun hf => ?_)
  · skip
    exact hc16 _ _ _ _  hf hW hS (lv_sub hl [1, 2] rfl)
  · skip
    refine lv_iload_n hx hb dX6_does_11 rfl (lv_at hl 0 rfl) ?_
    refine m_const (v := 1) hx hb dX6_does_12 rfl ?_
    refine m_icmp_ne (tgt := 24) hx hb hv1 (by decide) hf dX6_does_13 (by decide) (fun hf => ?_) (fun hf => ?_)
    · skip
      refine lv_aload_n hx hb dX6_does_24 rfl (lv_at hl 1 rfl) ?_
      refine g_X6_undone X hW (X.2.2.2.2.1 _ mw1077) dX6_does_25 ?_
      refine lv_iload_n hx hb dX6_does_28 rfl (lv_at hl 2 rfl) ?_
      refine m_zald X hW a_X6_undone hx1 hf dX6_does_29 (fun v2 hv2 hf => ?_)
      refine m_if_ne (tgt := 316) hx hb hv2 hf dX6_does_30 (by decide) (fun hf => ?_) (fun hf => ?_)
      · skip
        exact m_vret X hr hlocks hW hS (Option.some.inj hf) hQ dX6_does_316
      · skip
        refine lv_iload_n hx hb dX6_does_33 rfl (lv_at hl 0 rfl) ?_
        refine m_const (v := 2) hx hb dX6_does_34 rfl ?_
        refine m_icmp_ne (tgt := 46) hx hb hv1 (by decide) hf dX6_does_35 (by decide) (fun hf => ?_) (fun hf => ?_)
        · skip
          refine lv_iload_n hx hb dX6_does_46 rfl (lv_at hl 0 rfl) ?_
          refine m_const (v := 3) hx hb dX6_does_47 rfl ?_
          refine m_icmp_ne (tgt := 107) hx hb hv1 (by decide) hf dX6_does_48 (by decide) (fun hf => ?_) (fun hf => ?_)
          · skip
            refine lv_iload_n hx hb dX6_does_107 rfl (lv_at hl 0 rfl) ?_
            refine m_const (v := 4) hx hb dX6_does_108 rfl ?_
            refine m_icmp_eq (tgt := 118) hx hb hv1 (by decide) hf dX6_does_109 (by decide) (fun hf => ?_) (fun hf => ?_)
            · skip
              exact hc118 _ _ _ _  hf hW hS (lv_sub hl [1, 2] rfl)
            · skip
              refine lv_iload_n hx hb dX6_does_112 rfl (lv_at hl 0 rfl) ?_
              refine m_bipush (v := 7) hx hb dX6_does_113 (by decide) ?_
              refine m_icmp_ne (tgt := 126) hx hb hv1 (by decide) hf dX6_does_115 (by decide) (fun hf => ?_) (fun hf => ?_)
              · skip
                refine lv_iload_n hx hb dX6_does_126 rfl (lv_at hl 0 rfl) ?_
                refine m_const (v := 5) hx hb dX6_does_127 rfl ?_
                refine m_icmp_ne (tgt := 172) hx hb hv1 (by decide) hf dX6_does_128 (by decide) (fun hf => ?_) (fun hf => ?_)
                · skip
                  exact hc172 _ _ _ _ v1 hv1 hf hW hS (lv_sub hl [1, 2, 0] rfl)
                · skip
                  refine lv_aload_n hx hb dX6_does_131 rfl (lv_at hl 1 rfl) ?_
                  refine lv_aload_n hx hb dX6_does_132 rfl (lv_at hl 1 rfl) ?_
                  refine g_X6_makers X hW (X.2.2.2.2.1 _ mw1048) dX6_does_133 ?_
                  refine lv_iload_n hx hb dX6_does_136 rfl (lv_at hl 2 rfl) ?_
                  refine m_iald X hW a_X6_makers hx1 hf dX6_does_137 (fun v3 hv3 hf => ?_)
                  refine lv_aload_n hx hb dX6_does_138 rfl (lv_at hl 1 rfl) ?_
                  refine g_X6_ones X hW (X.2.2.2.2.1 _ mw1051) dX6_does_139 ?_
                  refine lv_iload_n hx hb dX6_does_142 rfl (lv_at hl 2 rfl) ?_
                  refine m_iald X hW a_X6_ones hx1 hf dX6_does_143 (fun v4 hv4 hf => ?_)
                  refine m_callVi1 (z := false) (As := [.int (i32 v3), .int (i32 v4)]) (rest := []) X hW hS hl.1 gc_X6_175 hd_X6_levelIn ⟨rfl, rfl, Nat.le_of_ble_eq_true rfl, Nat.le_of_ble_eq_true rfl⟩ (rc_X6 X hW) (fun v q => ok_X6_levelIn hv3 hv4 q) hf rfl rfl (Nat.le_of_ble_eq_true rfl) dX6_does_144 ⟨Nat.le_of_ble_eq_true rfl, Nat.le_of_ble_eq_true rfl⟩ (fun v5 H locs hv5 zv5 hWv5 hSv5 hf => ?_)
                  refine m_if_ne (tgt := 172) hx hb hv5 hf dX6_does_147 (by decide) (fun hf => ?_) (fun hf => ?_)
                  · skip
                    exact hc172 _ _ _ _ v1 hv1 hf hWv5 hSv5 (lv_sub hl [1, 2, 0] rfl)
                  · skip
                    refine lv_aload_n hx hb dX6_does_150 rfl (lv_at hl 1 rfl) ?_
                    refine g_X6_blockKinds X hWv5 (X.2.2.2.2.1 _ mw1085) dX6_does_151 ?_
                    refine lv_aload_n hx hb dX6_does_154 rfl (lv_at hl 1 rfl) ?_
                    refine g_X6_ones X hWv5 (X.2.2.2.2.1 _ mw1051) dX6_does_155 ?_
                    refine lv_iload_n hx hb dX6_does_158 rfl (lv_at hl 2 rfl) ?_
                    refine m_iald X hWv5 a_X6_ones hx1 hf dX6_does_159 (fun v6 hv6 hf => ?_)
                    refine m_const (v := 1) hx hb dX6_does_160 rfl ?_
                    refine m_iadd hx hb hf dX6_does_161 (fun v7 hv7 hf => ?_)
                    refine lv_aload_n hx hb dX6_does_162 rfl (lv_at hl 1 rfl) ?_
                    refine g_X6_twos X hWv5 (X.2.2.2.2.1 _ mw1052) dX6_does_163 ?_
                    refine lv_iload_n hx hb dX6_does_166 rfl (lv_at hl 2 rfl) ?_
                    refine m_iald X hWv5 a_X6_twos hx1 hf dX6_does_167 (fun v8 hv8 hf => ?_)
                    refine m_iast X hWv5 hSv5 a_X6_blockKinds hv7 hv8 hf dX6_does_168 (fun σ9 H locs hW9 hS9 hf => ?_)
                    refine lv_goto (tgt := 316) hx hb dX6_does_169 (by decide) ?_
                    exact m_vret X hr hlocks hW9 hS9 (Option.some.inj hf) hQ dX6_does_316
              · skip
                exact hc118 _ _ _ _  hf hW hS (lv_sub hl [1, 2] rfl)
          · skip
            refine lv_aload_n hx hb dX6_does_51 rfl (lv_at hl 1 rfl) ?_
            refine g_X6_removed X hW (X.2.2.2.2.1 _ mw1081) dX6_does_52 ?_
            refine lv_aload_n hx hb dX6_does_55 rfl (lv_at hl 1 rfl) ?_
            refine g_X6_ones X hW (X.2.2.2.2.1 _ mw1051) dX6_does_56 ?_
            refine lv_iload_n hx hb dX6_does_59 rfl (lv_at hl 2 rfl) ?_
            refine m_iald X hW a_X6_ones hx1 hf dX6_does_60 (fun v10 hv10 hf => ?_)
            refine lv_aload_n hx hb dX6_does_61 rfl (lv_at hl 1 rfl) ?_
            refine g_X6_removed X hW (X.2.2.2.2.1 _ mw1081) dX6_does_62 ?_
            refine lv_aload_n hx hb dX6_does_65 rfl (lv_at hl 1 rfl) ?_
            refine g_X6_ones X hW (X.2.2.2.2.1 _ mw1051) dX6_does_66 ?_
            refine lv_iload_n hx hb dX6_does_69 rfl (lv_at hl 2 rfl) ?_
            refine m_iald X hW a_X6_ones hx1 hf dX6_does_70 (fun v11 hv11 hf => ?_)
            refine m_zald X hW a_X6_removed hv11 hf dX6_does_71 (fun v12 hv12 hf => ?_)
            refine m_if_eq (tgt := 102) hx hb hv12 hf dX6_does_72 (by decide) (fun hf => ?_) (fun hf => ?_)
            · skip
              refine m_const (v := 0) hx hb dX6_does_102 rfl ?_
              refine m_zast X hW hS a_X6_removed hv10 (by decide) hf dX6_does_103 (fun σ13 H locs hW13 hS13 hf => ?_)
              refine lv_goto (tgt := 316) hx hb dX6_does_104 (by decide) ?_
              exact m_vret X hr hlocks hW13 hS13 (Option.some.inj hf) hQ dX6_does_316
            · skip
              refine lv_aload_n hx hb dX6_does_75 rfl (lv_at hl 1 rfl) ?_
              refine lv_aload_n hx hb dX6_does_76 rfl (lv_at hl 1 rfl) ?_
              refine g_X6_makers X hW (X.2.2.2.2.1 _ mw1048) dX6_does_77 ?_
              refine lv_iload_n hx hb dX6_does_80 rfl (lv_at hl 2 rfl) ?_
              refine m_iald X hW a_X6_makers hx1 hf dX6_does_81 (fun v14 hv14 hf => ?_)
              refine lv_aload_n hx hb dX6_does_82 rfl (lv_at hl 1 rfl) ?_
              refine lv_aload_n hx hb dX6_does_83 rfl (lv_at hl 1 rfl) ?_
              refine g_X6_ones X hW (X.2.2.2.2.1 _ mw1051) dX6_does_84 ?_
              refine lv_iload_n hx hb dX6_does_87 rfl (lv_at hl 2 rfl) ?_
              refine m_iald X hW a_X6_ones hx1 hf dX6_does_88 (fun v15 hv15 hf => ?_)
              refine m_callVi1 (z := false) (As := [.int (i32 v15)]) (rest := [.int (i32 v14), .ref (ad 230), .int (i32 v10), .ref (ad 266)]) X hW hS hl.1 gc_X6_172 hd_X6_blockOf ⟨rfl, rfl, Nat.le_of_ble_eq_true rfl, Nat.le_of_ble_eq_true rfl⟩ (rc_X6 X hW) (fun v q => ok_X6_blockOf hv15 q) hf rfl rfl (Nat.le_of_ble_eq_true rfl) dX6_does_89 ⟨Nat.le_of_ble_eq_true rfl, Nat.le_of_ble_eq_true rfl⟩ (fun v16 H locs hv16 zv16 hWv16 hSv16 hf => ?_)
              refine m_callVi1 (z := false) (As := [.int (i32 v14), .int (i32 v16)]) (rest := [.int (i32 v10), .ref (ad 266)]) X hWv16 hSv16 hl.1 gc_X6_175 hd_X6_levelIn ⟨rfl, rfl, Nat.le_of_ble_eq_true rfl, Nat.le_of_ble_eq_true rfl⟩ (rc_X6 X hWv16) (fun v q => ok_X6_levelIn hv14 hv16 q) hf rfl rfl (Nat.le_of_ble_eq_true rfl) dX6_does_92 ⟨Nat.le_of_ble_eq_true rfl, Nat.le_of_ble_eq_true rfl⟩ (fun v17 H locs hv17 zv17 hWv17 hSv17 hf => ?_)
              refine m_if_eq (tgt := 102) hx hb hv17 hf dX6_does_95 (by decide) (fun hf => ?_) (fun hf => ?_)
              · skip
                refine m_const (v := 0) hx hb dX6_does_102 rfl ?_
                refine m_zast X hWv17 hSv17 a_X6_removed hv10 (by decide) hf dX6_does_103 (fun σ18 H locs hW18 hS18 hf => ?_)
                refine lv_goto (tgt := 316) hx hb dX6_does_104 (by decide) ?_
                exact m_vret X hr hlocks hW18 hS18 (Option.some.inj hf) hQ dX6_does_316
              · skip
                refine m_const (v := 1) hx hb dX6_does_98 rfl ?_
                refine lv_goto (tgt := 103) hx hb dX6_does_99 (by decide) ?_
                refine m_zast X hWv17 hSv17 a_X6_removed hv10 (by decide) hf dX6_does_103 (fun σ19 H locs hW19 hS19 hf => ?_)
                refine lv_goto (tgt := 316) hx hb dX6_does_104 (by decide) ?_
                exact m_vret X hr hlocks hW19 hS19 (Option.some.inj hf) hQ dX6_does_316
        · skip
          refine lv_aload_n hx hb dX6_does_38 rfl (lv_at hl 1 rfl) ?_
          refine lv_iload_n hx hb dX6_does_39 rfl (lv_at hl 2 rfl) ?_
          refine m_callVv (As := [.int (i32 x1)]) (rest := []) X hW hS hl.1 gc_X6_169 hd_X6_removes ⟨rfl, rfl, Nat.le_of_ble_eq_true rfl, Nat.le_of_ble_eq_true rfl⟩ (rc_X6 X hW) (fun v q => ok_X6_removes hx1 q) hf rfl rfl (Nat.le_of_ble_eq_true rfl) dX6_does_40 ⟨Nat.le_of_ble_eq_true rfl, Nat.le_of_ble_eq_true rfl⟩ (fun σ20 H locs hW20 hS20 hf => ?_)
          refine lv_goto (tgt := 316) hx hb dX6_does_43 (by decide) ?_
          exact m_vret X hr hlocks hW20 hS20 (Option.some.inj hf) hQ dX6_does_316
    · skip
      exact hc16 _ _ _ _  hf hW hS (lv_sub hl [1, 2] rfl)
set_option maxRecDepth 100000 in
set_option maxHeartbeats 4000000 in
theorem ok_X6_finds {l : Launch} {D : va_G} {cy : Nat → ClassId} {ad : Nat → Nat} {nm nv sz : Nat} {σ : St} {n : Nat} {o1 : Nat} {x2 : Int} {σ2 : St} (ho1 : arrOK nm nv o1 2 (ln o1)) (hx2 : inR x2) (hf : fX6_finds n σ o1 x2 = some σ2) : CV l yX6_finds cX6_finds 4 none ({ frames := 5, cells := 0, slots := 0, locals := 112 } : Room) [.ref (ad 230), .ref (ad o1), .int (i32 x2)] D cy ad nm nv sz σ σ2 := by
  refine m_entry RX6 rfl (by decide +kernel) (Nat.le_of_ble_eq_true rfl) ?_
  intro p e s m args below meth c Q hQ hr hlocks X hW hS ls hl
  have hx := X.1
  have hb := X.2.1
  have hl : lv_has ls 4 [(0, .ref (ad 230)), (1, .ref (ad o1)), (2, .int (i32 x2))] := hl
  unfold fX6_finds at hf
  have hc108 : ∀ (k108 : Nat) (σ : St) (H : Heap) (locs : List Loc) (ls : Array Slot) (x3 : Int), inR x3 → fX6_finds_L108 n o1 x2 k108 σ x3 = some σ2 → Wd D cy ad nm nv σ H → va_S (AW ad nm nv sz) s.heap H locs → lv_has ls 4 [(0, .ref (ad 230)), (3, .int (i32 x3))] → W p l e ({ frames := 5, cells := 0, slots := 0, locals := 112 } : Room) s m args below meth c H locs 0 0 Q (F0 m 108 ls []) := by
    intro k108
    induction k108 with
    | zero =>
      intro σ H locs ls x3 hx3 hf
      have hf : (none : Option St) = some σ2 := hf
      cases hf
    | succ k108 ih108 =>
      intro σ H locs ls x3 hx3 hf hW hS hl
      have hf : fX6_finds_L108s n o1 x2 (fX6_finds_L108 n o1 x2 k108) σ x3 = some σ2 := hf
      unfold fX6_finds_L108s at hf
      refine lv_iload_n hx hb dX6_finds_108 rfl (lv_at hl 1 rfl) ?_
      refine lv_aload_n hx hb dX6_finds_109 rfl (lv_at hl 0 rfl) ?_
      refine g_X6_orderMany X hW (X.2.2.2.2.1 _ mw1075) dX6_finds_110 ?_
      refine m_icmp_ge (tgt := 132) hx hb hx3 (hW.2.1 _ _) hf dX6_finds_113 (by decide) (fun hf => ?_) (fun hf => ?_)
      · skip
        exact m_vret X hr hlocks hW hS (Option.some.inj hf) hQ dX6_finds_132
      · skip
        refine lv_aload_n hx hb dX6_finds_116 rfl (lv_at hl 0 rfl) ?_
        refine lv_aload_n hx hb dX6_finds_117 rfl (lv_at hl 0 rfl) ?_
        refine g_X6_order X hW (X.2.2.2.2.1 _ mw1076) dX6_finds_118 ?_
        refine lv_iload_n hx hb dX6_finds_121 rfl (lv_at hl 1 rfl) ?_
        refine m_iald X hW a_X6_order hx3 hf dX6_finds_122 (fun v13 hv13 hf => ?_)
        refine m_callVv (As := [.int (i32 v13)]) (rest := []) X hW hS hl.1 gc_X6_162 hd_X6_does ⟨rfl, rfl, Nat.le_of_ble_eq_true rfl, Nat.le_of_ble_eq_true rfl⟩ (rc_X6 X hW) (fun v q => ok_X6_does hv13 q) hf rfl rfl (Nat.le_of_ble_eq_true rfl) dX6_finds_123 ⟨Nat.le_of_ble_eq_true rfl, Nat.le_of_ble_eq_true rfl⟩ (fun σ14 H locs hW14 hS14 hf => ?_)
        refine m_iinc (k0 := 1) (fun v15 => [(3, .int (i32 v15)), (0, .ref (ad 230))]) hx hb hf dX6_finds_126 hl rfl (by decide) (fun _ => rfl) (fun v15 ls hv15 hf hl => ?_)
        have hl : lv_has ls 4 [(3, .int (i32 v15)), (0, .ref (ad 230))] := hl
        refine lv_goto (tgt := 108) hx hb dX6_finds_129 (by decide) ?_
        exact ih108 _ _ _ _ v15 hv15 hf hW14 hS14 (lv_sub hl [1, 0] rfl)
  have hc65 : ∀ (k65 : Nat) (σ : St) (H : Heap) (locs : List Loc) (ls : Array Slot) (x3 : Int), inR x3 → fX6_finds_L65 n o1 x2 k65 σ x3 = some σ2 → Wd D cy ad nm nv σ H → va_S (AW ad nm nv sz) s.heap H locs → lv_has ls 4 [(0, .ref (ad 230)), (3, .int (i32 x3))] → W p l e ({ frames := 5, cells := 0, slots := 0, locals := 112 } : Room) s m args below meth c H locs 0 0 Q (F0 m 65 ls []) := by
    intro k65
    induction k65 with
    | zero =>
      intro σ H locs ls x3 hx3 hf
      have hf : (none : Option St) = some σ2 := hf
      cases hf
    | succ k65 ih65 =>
      intro σ H locs ls x3 hx3 hf hW hS hl
      have hf : fX6_finds_L65s n o1 x2 (fX6_finds_L65 n o1 x2 k65) σ x3 = some σ2 := hf
      unfold fX6_finds_L65s at hf
      refine lv_iload_n hx hb dX6_finds_65 rfl (lv_at hl 1 rfl) ?_
      refine m_sipush (v := 160) hx hb dX6_finds_66 (by decide) ?_
      refine m_icmp_ge (tgt := 106) hx hb hx3 (by decide) hf dX6_finds_69 (by decide) (fun hf => ?_) (fun hf => ?_)
      · skip
        refine m_const (v := 0) hx hb dX6_finds_106 rfl ?_
        refine lv_istore_n (lv' := [(3, .int (i32 0)), (0, .ref (ad 230))]) hx hb dX6_finds_107 rfl hl (by decide) rfl (fun ls hl => ?_)
        exact hc108 n _ _ _ _ 0 (by decide) hf hW hS (lv_sub hl [1, 0] rfl)
      · skip
        refine lv_aload_n hx hb dX6_finds_72 rfl (lv_at hl 0 rfl) ?_
        refine g_X6_removed X hW (X.2.2.2.2.1 _ mw1081) dX6_finds_73 ?_
        refine lv_iload_n hx hb dX6_finds_76 rfl (lv_at hl 1 rfl) ?_
        refine m_const (v := 0) hx hb dX6_finds_77 rfl ?_
        refine m_zast X hW hS a_X6_removed hx3 (by decide) hf dX6_finds_78 (fun σ8 H locs hW8 hS8 hf => ?_)
        refine lv_aload_n hx hb dX6_finds_79 rfl (lv_at hl 0 rfl) ?_
        refine g_X6_marks X hW8 (X.2.2.2.2.1 _ mw1082) dX6_finds_80 ?_
        refine lv_iload_n hx hb dX6_finds_83 rfl (lv_at hl 1 rfl) ?_
        refine m_const (v := 0) hx hb dX6_finds_84 rfl ?_
        refine m_iast X hW8 hS8 a_X6_marks hx3 (by decide) hf dX6_finds_85 (fun σ9 H locs hW9 hS9 hf => ?_)
        refine lv_aload_n hx hb dX6_finds_86 rfl (lv_at hl 0 rfl) ?_
        refine g_X6_covers X hW9 (X.2.2.2.2.1 _ mw1083) dX6_finds_87 ?_
        refine lv_iload_n hx hb dX6_finds_90 rfl (lv_at hl 1 rfl) ?_
        refine m_const (v := 0) hx hb dX6_finds_91 rfl ?_
        refine m_iast X hW9 hS9 a_X6_covers hx3 (by decide) hf dX6_finds_92 (fun σ10 H locs hW10 hS10 hf => ?_)
        refine lv_aload_n hx hb dX6_finds_93 rfl (lv_at hl 0 rfl) ?_
        refine g_X6_waits X hW10 (X.2.2.2.2.1 _ mw1084) dX6_finds_94 ?_
        refine lv_iload_n hx hb dX6_finds_97 rfl (lv_at hl 1 rfl) ?_
        refine m_const (v := 0) hx hb dX6_finds_98 rfl ?_
        refine m_zast X hW10 hS10 a_X6_waits hx3 (by decide) hf dX6_finds_99 (fun σ11 H locs hW11 hS11 hf => ?_)
        refine m_iinc (k0 := 1) (fun v12 => [(3, .int (i32 v12)), (0, .ref (ad 230))]) hx hb hf dX6_finds_100 hl rfl (by decide) (fun _ => rfl) (fun v12 ls hv12 hf hl => ?_)
        have hl : lv_has ls 4 [(3, .int (i32 v12)), (0, .ref (ad 230))] := hl
        refine lv_goto (tgt := 65) hx hb dX6_finds_103 (by decide) ?_
        exact ih65 _ _ _ _ v12 hv12 hf hW11 hS11 (lv_sub hl [1, 0] rfl)
  have hc43 : ∀ (k43 : Nat) (σ : St) (H : Heap) (locs : List Loc) (ls : Array Slot) (x3 : Int), inR x3 → fX6_finds_L43 n o1 x2 k43 σ x3 = some σ2 → Wd D cy ad nm nv σ H → va_S (AW ad nm nv sz) s.heap H locs → lv_has ls 4 [(0, .ref (ad 230)), (3, .int (i32 x3))] → W p l e ({ frames := 5, cells := 0, slots := 0, locals := 112 } : Room) s m args below meth c H locs 0 0 Q (F0 m 43 ls []) := by
    intro k43
    induction k43 with
    | zero =>
      intro σ H locs ls x3 hx3 hf
      have hf : (none : Option St) = some σ2 := hf
      cases hf
    | succ k43 ih43 =>
      intro σ H locs ls x3 hx3 hf hW hS hl
      have hf : fX6_finds_L43s n o1 x2 (fX6_finds_L43 n o1 x2 k43) σ x3 = some σ2 := hf
      unfold fX6_finds_L43s at hf
      refine lv_iload_n hx hb dX6_finds_43 rfl (lv_at hl 1 rfl) ?_
      refine m_sipush (v := 644) hx hb dX6_finds_44 (by decide) ?_
      refine m_icmp_ge (tgt := 63) hx hb hx3 (by decide) hf dX6_finds_47 (by decide) (fun hf => ?_) (fun hf => ?_)
      · skip
        refine m_const (v := 0) hx hb dX6_finds_63 rfl ?_
        refine lv_istore_n (lv' := [(3, .int (i32 0)), (0, .ref (ad 230))]) hx hb dX6_finds_64 rfl hl (by decide) rfl (fun ls hl => ?_)
        exact hc65 n _ _ _ _ 0 (by decide) hf hW hS (lv_sub hl [1, 0] rfl)
      · skip
        refine lv_aload_n hx hb dX6_finds_50 rfl (lv_at hl 0 rfl) ?_
        refine g_X6_levels X hW (X.2.2.2.2.1 _ mw1087) dX6_finds_51 ?_
        refine lv_iload_n hx hb dX6_finds_54 rfl (lv_at hl 1 rfl) ?_
        refine m_const (v := 0) hx hb dX6_finds_55 rfl ?_
        refine m_iast X hW hS a_X6_levels hx3 (by decide) hf dX6_finds_56 (fun σ6 H locs hW6 hS6 hf => ?_)
        refine m_iinc (k0 := 1) (fun v7 => [(3, .int (i32 v7)), (0, .ref (ad 230))]) hx hb hf dX6_finds_57 hl rfl (by decide) (fun _ => rfl) (fun v7 ls hv7 hf hl => ?_)
        have hl : lv_has ls 4 [(3, .int (i32 v7)), (0, .ref (ad 230))] := hl
        refine lv_goto (tgt := 43) hx hb dX6_finds_60 (by decide) ?_
        exact ih43 _ _ _ _ v7 hv7 hf hW6 hS6 (lv_sub hl [1, 0] rfl)
  have hc13 : ∀ (k13 : Nat) (σ : St) (H : Heap) (locs : List Loc) (ls : Array Slot) (x3 : Int), inR x3 → fX6_finds_L13 n o1 x2 k13 σ x3 = some σ2 → Wd D cy ad nm nv σ H → va_S (AW ad nm nv sz) s.heap H locs → lv_has ls 4 [(0, .ref (ad 230)), (3, .int (i32 x3))] → W p l e ({ frames := 5, cells := 0, slots := 0, locals := 112 } : Room) s m args below meth c H locs 0 0 Q (F0 m 13 ls []) := by
    intro k13
    induction k13 with
    | zero =>
      intro σ H locs ls x3 hx3 hf
      have hf : (none : Option St) = some σ2 := hf
      cases hf
    | succ k13 ih13 =>
      intro σ H locs ls x3 hx3 hf hW hS hl
      have hf : fX6_finds_L13s n o1 x2 (fX6_finds_L13 n o1 x2 k13) σ x3 = some σ2 := hf
      unfold fX6_finds_L13s at hf
      refine lv_iload_n hx hb dX6_finds_13 rfl (lv_at hl 1 rfl) ?_
      refine m_sipush (v := 160) hx hb dX6_finds_14 (by decide) ?_
      refine m_icmp_gt (tgt := 41) hx hb hx3 (by decide) hf dX6_finds_17 (by decide) (fun hf => ?_) (fun hf => ?_)
      · skip
        refine m_const (v := 0) hx hb dX6_finds_41 rfl ?_
        refine lv_istore_n (lv' := [(3, .int (i32 0)), (0, .ref (ad 230))]) hx hb dX6_finds_42 rfl hl (by decide) rfl (fun ls hl => ?_)
        exact hc43 n _ _ _ _ 0 (by decide) hf hW hS (lv_sub hl [1, 0] rfl)
      · skip
        refine lv_aload_n hx hb dX6_finds_20 rfl (lv_at hl 0 rfl) ?_
        refine g_X6_blockKinds X hW (X.2.2.2.2.1 _ mw1085) dX6_finds_21 ?_
        refine lv_iload_n hx hb dX6_finds_24 rfl (lv_at hl 1 rfl) ?_
        refine m_const (v := 0) hx hb dX6_finds_25 rfl ?_
        refine m_iast X hW hS a_X6_blockKinds hx3 (by decide) hf dX6_finds_26 (fun σ3 H locs hW3 hS3 hf => ?_)
        refine lv_aload_n hx hb dX6_finds_27 rfl (lv_at hl 0 rfl) ?_
        refine g_X6_aboves X hW3 (X.2.2.2.2.1 _ mw1086) dX6_finds_28 ?_
        refine lv_iload_n hx hb dX6_finds_31 rfl (lv_at hl 1 rfl) ?_
        refine m_bipush (v := (-2)) hx hb dX6_finds_32 (by decide) ?_
        refine m_iast X hW3 hS3 a_X6_aboves hx3 (by decide) hf dX6_finds_34 (fun σ4 H locs hW4 hS4 hf => ?_)
        refine m_iinc (k0 := 1) (fun v5 => [(3, .int (i32 v5)), (0, .ref (ad 230))]) hx hb hf dX6_finds_35 hl rfl (by decide) (fun _ => rfl) (fun v5 ls hv5 hf hl => ?_)
        have hl : lv_has ls 4 [(3, .int (i32 v5)), (0, .ref (ad 230))] := hl
        refine lv_goto (tgt := 13) hx hb dX6_finds_38 (by decide) ?_
        exact ih13 _ _ _ _ v5 hv5 hf hW4 hS4 (lv_sub hl [1, 0] rfl)
  refine lv_aload_n hx hb dX6_finds_0 rfl (lv_at hl 0 rfl) ?_
  refine lv_aload_n hx hb dX6_finds_1 rfl (lv_at hl 1 rfl) ?_
  refine lv_iload_n hx hb dX6_finds_2 rfl (lv_at hl 2 rfl) ?_
  refine m_callVv (As := [.ref (ad o1), .int (i32 x2)]) (rest := []) X hW hS hl.1 gc_X6_158 hd_X6_orders ⟨rfl, rfl, Nat.le_of_ble_eq_true rfl, Nat.le_of_ble_eq_true rfl⟩ (rc_X6 X hW) (fun v q => ok_X6_orders ho1 hx2 q) hf rfl rfl (Nat.le_of_ble_eq_true rfl) dX6_finds_3 ⟨Nat.le_of_ble_eq_true rfl, Nat.le_of_ble_eq_true rfl⟩ (fun σ1 H locs hW1 hS1 hf => ?_)
  refine lv_aload_n hx hb dX6_finds_6 rfl (lv_at hl 0 rfl) ?_
  refine m_const (v := 0) hx hb dX6_finds_7 rfl ?_
  refine p_X6_rowMany X hW1 hS1 (by decide) hf (X.2.2.2.2.1 _ mw1078) dX6_finds_8 (fun σ2 H locs hW2 hS2 hf => ?_)
  refine m_const (v := 0) hx hb dX6_finds_11 rfl ?_
  refine lv_istore_n (lv' := [(3, .int (i32 0)), (0, .ref (ad 230)), (1, .ref (ad o1)), (2, .int (i32 x2))]) hx hb dX6_finds_12 rfl hl (by decide) rfl (fun ls hl => ?_)
  exact hc13 n _ _ _ _ 0 (by decide) hf hW2 hS2 (lv_sub hl [1, 0] rfl)
set_option maxRecDepth 100000 in
set_option maxHeartbeats 4000000 in
theorem ok_X6_findsSite {l : Launch} {D : va_G} {cy : Nat → ClassId} {ad : Nat → Nat} {nm nv sz : Nat} {σ : St} {n : Nat} {x1 : Int} {σ2 : St} (hx1 : inR x1) (hf : fX6_findsSite n σ x1 = some σ2) : CV l yX6_findsSite cX6_findsSite 2 none ({ frames := 6, cells := 0, slots := 0, locals := 135 } : Room) [.ref (ad 230), .int (i32 x1)] D cy ad nm nv sz σ σ2 := by
  refine m_entry RX6 rfl (by decide +kernel) (Nat.le_of_ble_eq_true rfl) ?_
  intro p e s m args below meth c Q hQ hr hlocks X hW hS ls hl
  have hx := X.1
  have hb := X.2.1
  have hl : lv_has ls 2 [(0, .ref (ad 230)), (1, .int (i32 x1))] := hl
  unfold fX6_findsSite at hf
  refine lv_aload_n hx hb dX6_findsSite_0 rfl (lv_at hl 0 rfl) ?_
  refine lv_aload_n hx hb dX6_findsSite_1 rfl (lv_at hl 0 rfl) ?_
  refine g_X6_has X hW (X.2.2.2.2.1 _ mw1058) dX6_findsSite_2 ?_
  refine m_sipush (v := 160) hx hb dX6_findsSite_5 (by decide) ?_
  refine lv_iload_n hx hb dX6_findsSite_8 rfl (lv_at hl 1 rfl) ?_
  refine m_imul hx hb hf dX6_findsSite_9 (fun v1 hv1 hf => ?_)
  refine m_callVv (As := [.ref (ad 243), .int (i32 v1)]) (rest := []) X hW hS hl.1 gc_X6_201 hd_X6_finds ⟨rfl, rfl, Nat.le_of_ble_eq_true rfl, Nat.le_of_ble_eq_true rfl⟩ (rc_X6 X hW) (fun v q => ok_X6_finds (arrL a_X6_has) hv1 q) hf rfl rfl (Nat.le_of_ble_eq_true rfl) dX6_findsSite_10 ⟨Nat.le_of_ble_eq_true rfl, Nat.le_of_ble_eq_true rfl⟩ (fun σ2 H locs hW2 hS2 hf => ?_)
  exact m_vret X hr hlocks hW2 hS2 (Option.some.inj hf) hQ dX6_findsSite_13
set_option maxRecDepth 100000 in
set_option maxHeartbeats 4000000 in
theorem ok_X6_seen {l : Launch} {D : va_G} {cy : Nat → ClassId} {ad : Nat → Nat} {nm nv sz : Nat} {σ : St} {n : Nat} {r : Int} (hf : fX6_seen n σ = some r) : CI l yX6_seen cX6_seen 3 (some .int) ({ frames := 1, cells := 0, slots := 0, locals := 21 } : Room) [.ref (ad 230)] D cy ad nm nv sz σ false r σ := by
  refine m_entry RX6 rfl (by decide +kernel) (Nat.le_of_ble_eq_true rfl) ?_
  intro p e s m args below meth c Q hQ hr hlocks X hW hS ls hl
  have hx := X.1
  have hb := X.2.1
  have hl : lv_has ls 3 [(0, .ref (ad 230))] := hl
  unfold fX6_seen at hf
  have hc4 : ∀ (k4 : Nat) (H : Heap) (locs : List Loc) (ls : Array Slot) (x1 : Int) (x2 : Int), inR x1 → inR x2 → fX6_seen_L4 n σ k4 x1 x2 = some r → Wd D cy ad nm nv σ H → va_S (AW ad nm nv sz) s.heap H locs → lv_has ls 3 [(0, .ref (ad 230)), (1, .int (i32 x1)), (2, .int (i32 x2))] → W p l e ({ frames := 1, cells := 0, slots := 0, locals := 21 } : Room) s m args below meth c H locs 0 0 Q (F0 m 4 ls []) := by
    intro k4
    induction k4 with
    | zero =>
      intro H locs ls x1 x2 hx1 hx2 hf
      have hf : (none : Option Int) = some r := hf
      cases hf
    | succ k4 ih4 =>
      intro H locs ls x1 x2 hx1 hx2 hf hW hS hl
      have hf : fX6_seen_L4s n σ (fX6_seen_L4 n σ k4) x1 x2 = some r := hf
      unfold fX6_seen_L4s at hf
      refine lv_iload_n hx hb dX6_seen_4 rfl (lv_at hl 2 rfl) ?_
      refine lv_aload_n hx hb dX6_seen_5 rfl (lv_at hl 0 rfl) ?_
      refine g_X6_rowMany X hW (X.2.2.2.2.1 _ mw1078) dX6_seen_6 ?_
      refine m_icmp_ge (tgt := 39) hx hb hx2 (hW.2.1 _ _) hf dX6_seen_9 (by decide) (fun hf => ?_) (fun hf => ?_)
      · skip
        refine lv_iload_n hx hb dX6_seen_39 rfl (lv_at hl 1 rfl) ?_
        exact m_ireti X hr hlocks rfl hx1 (fun h => Bool.noConfusion h) hW hS (Option.some.inj hf) rfl hQ dX6_seen_40
      · skip
        refine lv_iload_n hx hb dX6_seen_12 rfl (lv_at hl 1 rfl) ?_
        refine lv_aload_n hx hb dX6_seen_13 rfl (lv_at hl 0 rfl) ?_
        refine lv_aload_n hx hb dX6_seen_14 rfl (lv_at hl 0 rfl) ?_
        refine g_X6_row X hW (X.2.2.2.2.1 _ mw1079) dX6_seen_15 ?_
        refine lv_iload_n hx hb dX6_seen_18 rfl (lv_at hl 2 rfl) ?_
        refine m_iald X hW a_X6_row hx2 hf dX6_seen_19 (fun v1 hv1 hf => ?_)
        refine m_callVi1 (z := true) (As := [.int (i32 v1)]) (rest := [.int (i32 x1)]) X hW hS hl.1 gc_X6_189 hd_X6_isSeen ⟨rfl, rfl, Nat.le_of_ble_eq_true rfl, Nat.le_of_ble_eq_true rfl⟩ (rc_X6 X hW) (fun v q => ok_X6_isSeen hv1 q) hf rfl rfl (Nat.le_of_ble_eq_true rfl) dX6_seen_20 ⟨Nat.le_of_ble_eq_true rfl, Nat.le_of_ble_eq_true rfl⟩ (fun v2 H locs hv2 zv2 hWv2 hSv2 hf => ?_)
        refine m_if_eq (tgt := 30) hx hb hv2 hf dX6_seen_23 (by decide) (fun hf => ?_) (fun hf => ?_)
        · skip
          refine m_const (v := 0) hx hb dX6_seen_30 rfl ?_
          refine m_iadd hx hb hf dX6_seen_31 (fun v3 hv3 hf => ?_)
          refine lv_istore_n (lv' := [(1, .int (i32 v3)), (0, .ref (ad 230)), (2, .int (i32 x2))]) hx hb dX6_seen_32 rfl hl (by decide) rfl (fun ls hl => ?_)
          refine m_iinc (k0 := 2) (fun v4 => [(2, .int (i32 v4)), (1, .int (i32 v3)), (0, .ref (ad 230))]) hx hb hf dX6_seen_33 hl rfl (by decide) (fun _ => rfl) (fun v4 ls hv4 hf hl => ?_)
          have hl : lv_has ls 3 [(2, .int (i32 v4)), (1, .int (i32 v3)), (0, .ref (ad 230))] := hl
          refine lv_goto (tgt := 4) hx hb dX6_seen_36 (by decide) ?_
          exact ih4 _ _ _ v3 v4 hv3 hv4 hf hWv2 hSv2 (lv_sub hl [2, 1, 0] rfl)
        · skip
          refine m_const (v := 1) hx hb dX6_seen_26 rfl ?_
          refine lv_goto (tgt := 31) hx hb dX6_seen_27 (by decide) ?_
          refine m_iadd hx hb hf dX6_seen_31 (fun v5 hv5 hf => ?_)
          refine lv_istore_n (lv' := [(1, .int (i32 v5)), (0, .ref (ad 230)), (2, .int (i32 x2))]) hx hb dX6_seen_32 rfl hl (by decide) rfl (fun ls hl => ?_)
          refine m_iinc (k0 := 2) (fun v6 => [(2, .int (i32 v6)), (1, .int (i32 v5)), (0, .ref (ad 230))]) hx hb hf dX6_seen_33 hl rfl (by decide) (fun _ => rfl) (fun v6 ls hv6 hf hl => ?_)
          have hl : lv_has ls 3 [(2, .int (i32 v6)), (1, .int (i32 v5)), (0, .ref (ad 230))] := hl
          refine lv_goto (tgt := 4) hx hb dX6_seen_36 (by decide) ?_
          exact ih4 _ _ _ v5 v6 hv5 hv6 hf hWv2 hSv2 (lv_sub hl [2, 1, 0] rfl)
  refine m_const (v := 0) hx hb dX6_seen_0 rfl ?_
  refine lv_istore_n (lv' := [(1, .int (i32 0)), (0, .ref (ad 230))]) hx hb dX6_seen_1 rfl hl (by decide) rfl (fun ls hl => ?_)
  refine m_const (v := 0) hx hb dX6_seen_2 rfl ?_
  refine lv_istore_n (lv' := [(2, .int (i32 0)), (1, .int (i32 0)), (0, .ref (ad 230))]) hx hb dX6_seen_3 rfl hl (by decide) rfl (fun ls hl => ?_)
  exact hc4 n _ _ _ 0 0 (by decide) (by decide) hf hW hS (lv_sub hl [2, 1, 0] rfl)
set_option maxRecDepth 100000 in
set_option maxHeartbeats 4000000 in
theorem ok_X6_seenAt {l : Launch} {D : va_G} {cy : Nat → ClassId} {ad : Nat → Nat} {nm nv sz : Nat} {σ : St} {n : Nat} {x1 : Int} {r : Int} (hx1 : inR x1) (hf : fX6_seenAt n σ x1 = some r) : CI l yX6_seenAt cX6_seenAt 4 (some .int) ({ frames := 1, cells := 0, slots := 0, locals := 21 } : Room) [.ref (ad 230), .int (i32 x1)] D cy ad nm nv sz σ false r σ := by
  refine m_entry RX6 rfl (by decide +kernel) (Nat.le_of_ble_eq_true rfl) ?_
  intro p e s m args below meth c Q hQ hr hlocks X hW hS ls hl
  have hx := X.1
  have hb := X.2.1
  have hl : lv_has ls 4 [(0, .ref (ad 230)), (1, .int (i32 x1))] := hl
  unfold fX6_seenAt at hf
  have hc4 : ∀ (k4 : Nat) (H : Heap) (locs : List Loc) (ls : Array Slot) (x2 : Int) (x3 : Int), inR x2 → inR x3 → fX6_seenAt_L4 n σ x1 k4 x2 x3 = some r → Wd D cy ad nm nv σ H → va_S (AW ad nm nv sz) s.heap H locs → lv_has ls 4 [(0, .ref (ad 230)), (1, .int (i32 x1)), (2, .int (i32 x2)), (3, .int (i32 x3))] → W p l e ({ frames := 1, cells := 0, slots := 0, locals := 21 } : Room) s m args below meth c H locs 0 0 Q (F0 m 4 ls []) := by
    intro k4
    induction k4 with
    | zero =>
      intro H locs ls x2 x3 hx2 hx3 hf
      have hf : (none : Option Int) = some r := hf
      cases hf
    | succ k4 ih4 =>
      intro H locs ls x2 x3 hx2 hx3 hf hW hS hl
      have hf : fX6_seenAt_L4s n σ x1 (fX6_seenAt_L4 n σ x1 k4) x2 x3 = some r := hf
      unfold fX6_seenAt_L4s at hf
      refine lv_iload_n hx hb dX6_seenAt_4 rfl (lv_at hl 3 rfl) ?_
      refine lv_aload_n hx hb dX6_seenAt_5 rfl (lv_at hl 0 rfl) ?_
      refine g_X6_rowMany X hW (X.2.2.2.2.1 _ mw1078) dX6_seenAt_6 ?_
      refine m_icmp_ge (tgt := 46) hx hb hx3 (hW.2.1 _ _) hf dX6_seenAt_9 (by decide) (fun hf => ?_) (fun hf => ?_)
      · skip
        refine m_const (v := (-1)) hx hb dX6_seenAt_46 rfl ?_
        exact m_ireti X hr hlocks rfl (by decide) (fun h => Bool.noConfusion h) hW hS (Option.some.inj hf) rfl hQ dX6_seenAt_47
      · skip
        refine lv_aload_n hx hb dX6_seenAt_12 rfl (lv_at hl 0 rfl) ?_
        refine lv_aload_n hx hb dX6_seenAt_13 rfl (lv_at hl 0 rfl) ?_
        refine g_X6_row X hW (X.2.2.2.2.1 _ mw1079) dX6_seenAt_14 ?_
        refine lv_iload_n hx hb dX6_seenAt_17 rfl (lv_at hl 3 rfl) ?_
        refine m_iald X hW a_X6_row hx3 hf dX6_seenAt_18 (fun v1 hv1 hf => ?_)
        refine m_callVi1 (z := true) (As := [.int (i32 v1)]) (rest := []) X hW hS hl.1 gc_X6_189 hd_X6_isSeen ⟨rfl, rfl, Nat.le_of_ble_eq_true rfl, Nat.le_of_ble_eq_true rfl⟩ (rc_X6 X hW) (fun v q => ok_X6_isSeen hv1 q) hf rfl rfl (Nat.le_of_ble_eq_true rfl) dX6_seenAt_19 ⟨Nat.le_of_ble_eq_true rfl, Nat.le_of_ble_eq_true rfl⟩ (fun v2 H locs hv2 zv2 hWv2 hSv2 hf => ?_)
        refine m_if_eq (tgt := 40) hx hb hv2 hf dX6_seenAt_22 (by decide) (fun hf => ?_) (fun hf => ?_)
        · skip
          refine m_iinc (k0 := 3) (fun v3 => [(3, .int (i32 v3)), (0, .ref (ad 230)), (1, .int (i32 x1)), (2, .int (i32 x2))]) hx hb hf dX6_seenAt_40 hl rfl (by decide) (fun _ => rfl) (fun v3 ls hv3 hf hl => ?_)
          have hl : lv_has ls 4 [(3, .int (i32 v3)), (0, .ref (ad 230)), (1, .int (i32 x1)), (2, .int (i32 x2))] := hl
          refine lv_goto (tgt := 4) hx hb dX6_seenAt_43 (by decide) ?_
          exact ih4 _ _ _ x2 v3 hx2 hv3 hf hWv2 hSv2 (lv_sub hl [1, 2, 3, 0] rfl)
        · skip
          refine lv_iload_n hx hb dX6_seenAt_25 rfl (lv_at hl 2 rfl) ?_
          refine lv_iload_n hx hb dX6_seenAt_26 rfl (lv_at hl 1 rfl) ?_
          refine m_icmp_ne (tgt := 37) hx hb hx2 hx1 hf dX6_seenAt_27 (by decide) (fun hf => ?_) (fun hf => ?_)
          · skip
            refine m_iinc (k0 := 2) (fun v4 => [(2, .int (i32 v4)), (0, .ref (ad 230)), (1, .int (i32 x1)), (3, .int (i32 x3))]) hx hb hf dX6_seenAt_37 hl rfl (by decide) (fun _ => rfl) (fun v4 ls hv4 hf hl => ?_)
            have hl : lv_has ls 4 [(2, .int (i32 v4)), (0, .ref (ad 230)), (1, .int (i32 x1)), (3, .int (i32 x3))] := hl
            refine m_iinc (k0 := 3) (fun v5 => [(3, .int (i32 v5)), (2, .int (i32 v4)), (0, .ref (ad 230)), (1, .int (i32 x1))]) hx hb hf dX6_seenAt_40 hl rfl (by decide) (fun _ => rfl) (fun v5 ls hv5 hf hl => ?_)
            have hl : lv_has ls 4 [(3, .int (i32 v5)), (2, .int (i32 v4)), (0, .ref (ad 230)), (1, .int (i32 x1))] := hl
            refine lv_goto (tgt := 4) hx hb dX6_seenAt_43 (by decide) ?_
            exact ih4 _ _ _ v4 v5 hv4 hv5 hf hWv2 hSv2 (lv_sub hl [2, 3, 1, 0] rfl)
          · skip
            refine lv_aload_n hx hb dX6_seenAt_30 rfl (lv_at hl 0 rfl) ?_
            refine g_X6_row X hWv2 (X.2.2.2.2.1 _ mw1079) dX6_seenAt_31 ?_
            refine lv_iload_n hx hb dX6_seenAt_34 rfl (lv_at hl 3 rfl) ?_
            refine m_iald X hWv2 a_X6_row hx3 hf dX6_seenAt_35 (fun v6 hv6 hf => ?_)
            exact m_ireti X hr hlocks rfl hv6 (fun h => Bool.noConfusion h) hWv2 hSv2 (Option.some.inj hf) rfl hQ dX6_seenAt_36
  refine m_const (v := 0) hx hb dX6_seenAt_0 rfl ?_
  refine lv_istore_n (lv' := [(2, .int (i32 0)), (0, .ref (ad 230)), (1, .int (i32 x1))]) hx hb dX6_seenAt_1 rfl hl (by decide) rfl (fun ls hl => ?_)
  refine m_const (v := 0) hx hb dX6_seenAt_2 rfl ?_
  refine lv_istore_n (lv' := [(3, .int (i32 0)), (2, .int (i32 0)), (0, .ref (ad 230)), (1, .int (i32 x1))]) hx hb dX6_seenAt_3 rfl hl (by decide) rfl (fun ls hl => ?_)
  exact hc4 n _ _ _ 0 0 (by decide) (by decide) hf hW hS (lv_sub hl [2, 3, 1, 0] rfl)
set_option maxRecDepth 100000 in
set_option maxHeartbeats 4000000 in
theorem ok_X6_placeOf {l : Launch} {D : va_G} {cy : Nat → ClassId} {ad : Nat → Nat} {nm nv sz : Nat} {σ : St} {n : Nat} {x1 : Int} {r : Int} (hx1 : inR x1) (hf : fX6_placeOf n σ x1 = some r) : CI l yX6_placeOf cX6_placeOf 5 (some .int) ({ frames := 1, cells := 0, slots := 0, locals := 22 } : Room) [.ref (ad 230), .int (i32 x1)] D cy ad nm nv sz σ false r σ := by
  refine m_entry RX6 rfl (by decide +kernel) (Nat.le_of_ble_eq_true rfl) ?_
  intro p e s m args below meth c Q hQ hr hlocks X hW hS ls hl
  have hx := X.1
  have hb := X.2.1
  have hl : lv_has ls 5 [(0, .ref (ad 230)), (1, .int (i32 x1))] := hl
  unfold fX6_placeOf at hf
  have hc20 : ∀ (k20 : Nat) (H : Heap) (locs : List Loc) (ls : Array Slot) (x2 : Int) (x3 : Int) (x4 : Int), inR x2 → inR x3 → inR x4 → fX6_placeOf_L20 n σ x1 x2 k20 x3 x4 = some r → Wd D cy ad nm nv σ H → va_S (AW ad nm nv sz) s.heap H locs → lv_has ls 5 [(0, .ref (ad 230)), (2, .int (i32 x2)), (3, .int (i32 x3)), (4, .int (i32 x4))] → W p l e ({ frames := 1, cells := 0, slots := 0, locals := 22 } : Room) s m args below meth c H locs 0 0 Q (F0 m 20 ls []) := by
    intro k20
    induction k20 with
    | zero =>
      intro H locs ls x2 x3 x4 hx2 hx3 hx4 hf
      have hf : (none : Option Int) = some r := hf
      cases hf
    | succ k20 ih20 =>
      intro H locs ls x2 x3 x4 hx2 hx3 hx4 hf hW hS hl
      have hf : fX6_placeOf_L20s n σ x1 x2 (fX6_placeOf_L20 n σ x1 x2 k20) x3 x4 = some r := hf
      unfold fX6_placeOf_L20s at hf
      refine lv_iload hx hb dX6_placeOf_20 (lv_at hl 3 rfl) ?_
      refine lv_iload_n hx hb dX6_placeOf_22 rfl (lv_at hl 1 rfl) ?_
      refine m_icmp_gt (tgt := 54) hx hb hx4 hx2 hf dX6_placeOf_23 (by decide) (fun hf => ?_) (fun hf => ?_)
      · skip
        refine lv_iload_n hx hb dX6_placeOf_54 rfl (lv_at hl 2 rfl) ?_
        exact m_ireti X hr hlocks rfl hx3 (fun h => Bool.noConfusion h) hW hS (Option.some.inj hf) rfl hQ dX6_placeOf_55
      · skip
        refine lv_iload_n hx hb dX6_placeOf_26 rfl (lv_at hl 2 rfl) ?_
        refine lv_aload_n hx hb dX6_placeOf_27 rfl (lv_at hl 0 rfl) ?_
        refine lv_aload_n hx hb dX6_placeOf_28 rfl (lv_at hl 0 rfl) ?_
        refine g_X6_row X hW (X.2.2.2.2.1 _ mw1079) dX6_placeOf_29 ?_
        refine lv_iload hx hb dX6_placeOf_32 (lv_at hl 3 rfl) ?_
        refine m_iald X hW a_X6_row hx4 hf dX6_placeOf_34 (fun v2 hv2 hf => ?_)
        refine m_callVi1 (z := true) (As := [.int (i32 v2)]) (rest := [.int (i32 x3)]) X hW hS hl.1 gc_X6_189 hd_X6_isSeen ⟨rfl, rfl, Nat.le_of_ble_eq_true rfl, Nat.le_of_ble_eq_true rfl⟩ (rc_X6 X hW) (fun v q => ok_X6_isSeen hv2 q) hf rfl rfl (Nat.le_of_ble_eq_true rfl) dX6_placeOf_35 ⟨Nat.le_of_ble_eq_true rfl, Nat.le_of_ble_eq_true rfl⟩ (fun v3 H locs hv3 zv3 hWv3 hSv3 hf => ?_)
        refine m_if_eq (tgt := 45) hx hb hv3 hf dX6_placeOf_38 (by decide) (fun hf => ?_) (fun hf => ?_)
        · skip
          refine m_const (v := 0) hx hb dX6_placeOf_45 rfl ?_
          refine m_iadd hx hb hf dX6_placeOf_46 (fun v4 hv4 hf => ?_)
          refine lv_istore_n (lv' := [(3, .int (i32 v4)), (0, .ref (ad 230)), (2, .int (i32 x2)), (4, .int (i32 x4))]) hx hb dX6_placeOf_47 rfl hl (by decide) rfl (fun ls hl => ?_)
          refine m_iinc (k0 := 3) (fun v5 => [(4, .int (i32 v5)), (3, .int (i32 v4)), (0, .ref (ad 230)), (2, .int (i32 x2))]) hx hb hf dX6_placeOf_48 hl rfl (by decide) (fun _ => rfl) (fun v5 ls hv5 hf hl => ?_)
          have hl : lv_has ls 5 [(4, .int (i32 v5)), (3, .int (i32 v4)), (0, .ref (ad 230)), (2, .int (i32 x2))] := hl
          refine lv_goto (tgt := 20) hx hb dX6_placeOf_51 (by decide) ?_
          exact ih20 _ _ _ x2 v4 v5 hx2 hv4 hv5 hf hWv3 hSv3 (lv_sub hl [2, 3, 1, 0] rfl)
        · skip
          refine m_const (v := 1) hx hb dX6_placeOf_41 rfl ?_
          refine lv_goto (tgt := 46) hx hb dX6_placeOf_42 (by decide) ?_
          refine m_iadd hx hb hf dX6_placeOf_46 (fun v6 hv6 hf => ?_)
          refine lv_istore_n (lv' := [(3, .int (i32 v6)), (0, .ref (ad 230)), (2, .int (i32 x2)), (4, .int (i32 x4))]) hx hb dX6_placeOf_47 rfl hl (by decide) rfl (fun ls hl => ?_)
          refine m_iinc (k0 := 3) (fun v7 => [(4, .int (i32 v7)), (3, .int (i32 v6)), (0, .ref (ad 230)), (2, .int (i32 x2))]) hx hb hf dX6_placeOf_48 hl rfl (by decide) (fun _ => rfl) (fun v7 ls hv7 hf hl => ?_)
          have hl : lv_has ls 5 [(4, .int (i32 v7)), (3, .int (i32 v6)), (0, .ref (ad 230)), (2, .int (i32 x2))] := hl
          refine lv_goto (tgt := 20) hx hb dX6_placeOf_51 (by decide) ?_
          exact ih20 _ _ _ x2 v6 v7 hx2 hv6 hv7 hf hWv3 hSv3 (lv_sub hl [2, 3, 1, 0] rfl)
  refine lv_iload_n hx hb dX6_placeOf_0 rfl (lv_at hl 1 rfl) ?_
  refine m_const (v := (-1)) hx hb dX6_placeOf_1 rfl ?_
  refine m_icmp_ne (tgt := 9) hx hb hx1 (by decide) hf dX6_placeOf_2 (by decide) (fun hf => ?_) (fun hf => ?_)
  · skip
    refine lv_aload_n hx hb dX6_placeOf_9 rfl (lv_at hl 0 rfl) ?_
    refine lv_iload_n hx hb dX6_placeOf_10 rfl (lv_at hl 1 rfl) ?_
    refine m_callVi1 (z := false) (As := [.int (i32 x1)]) (rest := []) X hW hS hl.1 gc_X6_151 hd_X6_spot ⟨rfl, rfl, Nat.le_of_ble_eq_true rfl, Nat.le_of_ble_eq_true rfl⟩ (rc_X6 X hW) (fun v q => ok_X6_spot hx1 q) hf rfl rfl (Nat.le_of_ble_eq_true rfl) dX6_placeOf_11 ⟨Nat.le_of_ble_eq_true rfl, Nat.le_of_ble_eq_true rfl⟩ (fun v1 H locs hv1 zv1 hWv1 hSv1 hf => ?_)
    refine lv_istore_n (lv' := [(2, .int (i32 v1)), (0, .ref (ad 230)), (1, .int (i32 x1))]) hx hb dX6_placeOf_14 rfl hl (by decide) rfl (fun ls hl => ?_)
    refine m_const (v := 0) hx hb dX6_placeOf_15 rfl ?_
    refine lv_istore_n (lv' := [(3, .int (i32 0)), (2, .int (i32 v1)), (0, .ref (ad 230)), (1, .int (i32 x1))]) hx hb dX6_placeOf_16 rfl hl (by decide) rfl (fun ls hl => ?_)
    refine m_const (v := 0) hx hb dX6_placeOf_17 rfl ?_
    refine lv_istore (lv' := [(4, .int (i32 0)), (3, .int (i32 0)), (2, .int (i32 v1)), (0, .ref (ad 230)), (1, .int (i32 x1))]) hx hb dX6_placeOf_18 hl (by decide) rfl (fun ls hl => ?_)
    exact hc20 n _ _ _ v1 0 0 hv1 (by decide) (by decide) hf hWv1 hSv1 (lv_sub hl [3, 2, 1, 0] rfl)
  · skip
    refine m_const (v := (-1)) hx hb dX6_placeOf_5 rfl ?_
    refine lv_goto (tgt := 14) hx hb dX6_placeOf_6 (by decide) ?_
    refine lv_istore_n (lv' := [(2, .int (i32 (-1))), (0, .ref (ad 230)), (1, .int (i32 x1))]) hx hb dX6_placeOf_14 rfl hl (by decide) rfl (fun ls hl => ?_)
    refine m_const (v := 0) hx hb dX6_placeOf_15 rfl ?_
    refine lv_istore_n (lv' := [(3, .int (i32 0)), (2, .int (i32 (-1))), (0, .ref (ad 230)), (1, .int (i32 x1))]) hx hb dX6_placeOf_16 rfl hl (by decide) rfl (fun ls hl => ?_)
    refine m_const (v := 0) hx hb dX6_placeOf_17 rfl ?_
    refine lv_istore (lv' := [(4, .int (i32 0)), (3, .int (i32 0)), (2, .int (i32 (-1))), (0, .ref (ad 230)), (1, .int (i32 x1))]) hx hb dX6_placeOf_18 hl (by decide) rfl (fun ls hl => ?_)
    exact hc20 n _ _ _ (-1) 0 0 (by decide) (by decide) (by decide) hf hW hS (lv_sub hl [3, 2, 1, 0] rfl)
set_option maxRecDepth 100000 in
set_option maxHeartbeats 4000000 in
theorem ok_X6_gets {l : Launch} {D : va_G} {cy : Nat → ClassId} {ad : Nat → Nat} {nm nv sz : Nat} {σ : St} {x1 : Int} {x2 : Int} {σ2 : St} (hx1 : inR x1) (hx2 : inR x2) (hf : fX6_gets σ x1 x2 = some σ2) : CV l yX6_gets cX6_gets 3 none ({ frames := 0, cells := 0, slots := 0, locals := 0 } : Room) [.ref (ad 230), .int (i32 x1), .int (i32 x2)] D cy ad nm nv sz σ σ2 := by
  refine m_entry RX6 rfl (by decide +kernel) (Nat.le_of_ble_eq_true rfl) ?_
  intro p e s m args below meth c Q hQ hr hlocks X hW hS ls hl
  have hx := X.1
  have hb := X.2.1
  have hl : lv_has ls 3 [(0, .ref (ad 230)), (1, .int (i32 x1)), (2, .int (i32 x2))] := hl
  unfold fX6_gets at hf
  refine lv_aload_n hx hb dX6_gets_0 rfl (lv_at hl 0 rfl) ?_
  refine g_X6_has X hW (X.2.2.2.2.1 _ mw1058) dX6_gets_1 ?_
  refine m_sipush (v := 160) hx hb dX6_gets_4 (by decide) ?_
  refine lv_iload_n hx hb dX6_gets_7 rfl (lv_at hl 1 rfl) ?_
  refine m_imul hx hb hf dX6_gets_8 (fun v1 hv1 hf => ?_)
  refine lv_iload_n hx hb dX6_gets_9 rfl (lv_at hl 2 rfl) ?_
  refine m_iadd hx hb hf dX6_gets_10 (fun v2 hv2 hf => ?_)
  refine m_const (v := 1) hx hb dX6_gets_11 rfl ?_
  refine m_zast X hW hS a_X6_has hv2 (by decide) hf dX6_gets_12 (fun σ3 H locs hW3 hS3 hf => ?_)
  refine lv_aload_n hx hb dX6_gets_13 rfl (lv_at hl 0 rfl) ?_
  refine g_X6_journals X hW3 (X.2.2.2.2.1 _ mw1059) dX6_gets_14 ?_
  refine m_sipush (v := 160) hx hb dX6_gets_17 (by decide) ?_
  refine lv_iload_n hx hb dX6_gets_20 rfl (lv_at hl 1 rfl) ?_
  refine m_imul hx hb hf dX6_gets_21 (fun v4 hv4 hf => ?_)
  refine lv_aload_n hx hb dX6_gets_22 rfl (lv_at hl 0 rfl) ?_
  refine g_X6_journalMany X hW3 (X.2.2.2.2.1 _ mw1060) dX6_gets_23 ?_
  refine lv_iload_n hx hb dX6_gets_26 rfl (lv_at hl 1 rfl) ?_
  refine m_iald X hW3 a_X6_journalMany hx1 hf dX6_gets_27 (fun v5 hv5 hf => ?_)
  refine m_iadd hx hb hf dX6_gets_28 (fun v6 hv6 hf => ?_)
  refine lv_iload_n hx hb dX6_gets_29 rfl (lv_at hl 2 rfl) ?_
  refine m_iast X hW3 hS3 a_X6_journals hv6 hx2 hf dX6_gets_30 (fun σ7 H locs hW7 hS7 hf => ?_)
  refine lv_aload_n hx hb dX6_gets_31 rfl (lv_at hl 0 rfl) ?_
  refine g_X6_journalMany X hW7 (X.2.2.2.2.1 _ mw1060) dX6_gets_32 ?_
  refine lv_iload_n hx hb dX6_gets_35 rfl (lv_at hl 1 rfl) ?_
  refine lv_dup2_11 hx hb dX6_gets_36 rfl rfl ?_
  refine m_iald X hW7 a_X6_journalMany hx1 hf dX6_gets_37 (fun v8 hv8 hf => ?_)
  refine m_const (v := 1) hx hb dX6_gets_38 rfl ?_
  refine m_iadd hx hb hf dX6_gets_39 (fun v9 hv9 hf => ?_)
  refine m_iast X hW7 hS7 a_X6_journalMany hx1 hv9 hf dX6_gets_40 (fun σ10 H locs hW10 hS10 hf => ?_)
  refine lv_aload_n hx hb dX6_gets_41 rfl (lv_at hl 0 rfl) ?_
  refine g_X6_tops X hW10 (X.2.2.2.2.1 _ mw1062) dX6_gets_42 ?_
  refine lv_iload_n hx hb dX6_gets_45 rfl (lv_at hl 1 rfl) ?_
  refine lv_aload_n hx hb dX6_gets_46 rfl (lv_at hl 0 rfl) ?_
  refine g_X6_counts X hW10 (X.2.2.2.2.1 _ mw1049) dX6_gets_47 ?_
  refine lv_iload_n hx hb dX6_gets_50 rfl (lv_at hl 2 rfl) ?_
  refine m_iald X hW10 a_X6_counts hx2 hf dX6_gets_51 (fun v11 hv11 hf => ?_)
  refine lv_aload_n hx hb dX6_gets_52 rfl (lv_at hl 0 rfl) ?_
  refine g_X6_tops X hW10 (X.2.2.2.2.1 _ mw1062) dX6_gets_53 ?_
  refine lv_iload_n hx hb dX6_gets_56 rfl (lv_at hl 1 rfl) ?_
  refine m_iald X hW10 a_X6_tops hx1 hf dX6_gets_57 (fun v12 hv12 hf => ?_)
  refine m_icmp_le (tgt := 70) hx hb hv11 hv12 hf dX6_gets_58 (by decide) (fun hf => ?_) (fun hf => ?_)
  · skip
    refine lv_aload_n hx hb dX6_gets_70 rfl (lv_at hl 0 rfl) ?_
    refine g_X6_tops X hW10 (X.2.2.2.2.1 _ mw1062) dX6_gets_71 ?_
    refine lv_iload_n hx hb dX6_gets_74 rfl (lv_at hl 1 rfl) ?_
    refine m_iald X hW10 a_X6_tops hx1 hf dX6_gets_75 (fun v13 hv13 hf => ?_)
    refine m_iast X hW10 hS10 a_X6_tops hx1 hv13 hf dX6_gets_76 (fun σ14 H locs hW14 hS14 hf => ?_)
    exact m_vret X hr hlocks hW14 hS14 (Option.some.inj hf) hQ dX6_gets_77
  · skip
    refine lv_aload_n hx hb dX6_gets_61 rfl (lv_at hl 0 rfl) ?_
    refine g_X6_counts X hW10 (X.2.2.2.2.1 _ mw1049) dX6_gets_62 ?_
    refine lv_iload_n hx hb dX6_gets_65 rfl (lv_at hl 2 rfl) ?_
    refine m_iald X hW10 a_X6_counts hx2 hf dX6_gets_66 (fun v15 hv15 hf => ?_)
    refine lv_goto (tgt := 76) hx hb dX6_gets_67 (by decide) ?_
    refine m_iast X hW10 hS10 a_X6_tops hx1 hv15 hf dX6_gets_76 (fun σ16 H locs hW16 hS16 hf => ?_)
    exact m_vret X hr hlocks hW16 hS16 (Option.some.inj hf) hQ dX6_gets_77
set_option maxRecDepth 100000 in
set_option maxHeartbeats 4000000 in
theorem ok_X6_makes {l : Launch} {D : va_G} {cy : Nat → ClassId} {ad : Nat → Nat} {nm nv sz : Nat} {σ : St} {x1 : Int} {x2 : Int} {x3 : Int} {x4 : Int} {x5 : Int} {x6 : Int} {x7 : Int} {r : Int} {σ2 : St} (hx1 : inR x1) (hx2 : inR x2) (hx3 : inR x3) (hx4 : inR x4) (hx5 : inR x5) (hx6 : inR x6) (hx7 : inR x7) (hf : fX6_makes σ x1 x2 x3 x4 x5 x6 x7 = some (r, σ2)) : CI l yX6_makes cX6_makes 9 (some .int) ({ frames := 1, cells := 0, slots := 0, locals := 22 } : Room) [.ref (ad 230), .int (i32 x1), .int (i32 x2), .int (i32 x3), .int (i32 x4), .int (i32 x5), .int (i32 x6), .int (i32 x7)] D cy ad nm nv sz σ false r σ2 := by
  refine m_entry RX6 rfl (by decide +kernel) (Nat.le_of_ble_eq_true rfl) ?_
  intro p e s m args below meth c Q hQ hr hlocks X hW hS ls hl
  have hx := X.1
  have hb := X.2.1
  have hl : lv_has ls 9 [(0, .ref (ad 230)), (1, .int (i32 x1)), (2, .int (i32 x2)), (3, .int (i32 x3)), (4, .int (i32 x4)), (5, .int (i32 x5)), (6, .int (i32 x6)), (7, .int (i32 x7))] := hl
  unfold fX6_makes at hf
  refine lv_aload_n hx hb dX6_makes_0 rfl (lv_at hl 0 rfl) ?_
  refine g_X6_actMany X hW (X.2.2.2.2.1 _ mw1047) dX6_makes_1 ?_
  refine lv_istore (lv' := [(8, .int (i32 (σ 230 1))), (0, .ref (ad 230)), (1, .int (i32 x1)), (2, .int (i32 x2)), (3, .int (i32 x3)), (4, .int (i32 x4)), (5, .int (i32 x5)), (6, .int (i32 x6)), (7, .int (i32 x7))]) hx hb dX6_makes_4 hl (by decide) rfl (fun ls hl => ?_)
  refine lv_aload_n hx hb dX6_makes_6 rfl (lv_at hl 1 rfl) ?_
  refine g_X6_makers X hW (X.2.2.2.2.1 _ mw1048) dX6_makes_7 ?_
  refine lv_iload hx hb dX6_makes_10 (lv_at hl 0 rfl) ?_
  refine lv_iload_n hx hb dX6_makes_12 rfl (lv_at hl 2 rfl) ?_
  refine m_iast X hW hS a_X6_makers (hW.2.1 _ _) hx1 hf dX6_makes_13 (fun σ1 H locs hW1 hS1 hf => ?_)
  refine lv_aload_n hx hb dX6_makes_14 rfl (lv_at hl 1 rfl) ?_
  refine g_X6_tops X hW1 (X.2.2.2.2.1 _ mw1062) dX6_makes_15 ?_
  refine lv_iload_n hx hb dX6_makes_18 rfl (lv_at hl 2 rfl) ?_
  refine lv_dup2_11 hx hb dX6_makes_19 rfl rfl ?_
  refine m_iald X hW1 a_X6_tops hx1 hf dX6_makes_20 (fun v2 hv2 hf => ?_)
  refine m_const (v := 1) hx hb dX6_makes_21 rfl ?_
  refine m_iadd hx hb hf dX6_makes_22 (fun v3 hv3 hf => ?_)
  refine m_iast X hW1 hS1 a_X6_tops hx1 hv3 hf dX6_makes_23 (fun σ4 H locs hW4 hS4 hf => ?_)
  refine lv_aload_n hx hb dX6_makes_24 rfl (lv_at hl 1 rfl) ?_
  refine g_X6_counts X hW4 (X.2.2.2.2.1 _ mw1049) dX6_makes_25 ?_
  refine lv_iload hx hb dX6_makes_28 (lv_at hl 0 rfl) ?_
  refine lv_aload_n hx hb dX6_makes_30 rfl (lv_at hl 1 rfl) ?_
  refine g_X6_tops X hW4 (X.2.2.2.2.1 _ mw1062) dX6_makes_31 ?_
  refine lv_iload_n hx hb dX6_makes_34 rfl (lv_at hl 2 rfl) ?_
  refine m_iald X hW4 a_X6_tops hx1 hf dX6_makes_35 (fun v5 hv5 hf => ?_)
  refine m_iast X hW4 hS4 a_X6_counts (hW.2.1 _ _) hv5 hf dX6_makes_36 (fun σ6 H locs hW6 hS6 hf => ?_)
  refine lv_aload_n hx hb dX6_makes_37 rfl (lv_at hl 1 rfl) ?_
  refine g_X6_kinds X hW6 (X.2.2.2.2.1 _ mw1050) dX6_makes_38 ?_
  refine lv_iload hx hb dX6_makes_41 (lv_at hl 0 rfl) ?_
  refine lv_iload_n hx hb dX6_makes_43 rfl (lv_at hl 3 rfl) ?_
  refine m_iast X hW6 hS6 a_X6_kinds (hW.2.1 _ _) hx2 hf dX6_makes_44 (fun σ7 H locs hW7 hS7 hf => ?_)
  refine lv_aload_n hx hb dX6_makes_45 rfl (lv_at hl 1 rfl) ?_
  refine g_X6_ones X hW7 (X.2.2.2.2.1 _ mw1051) dX6_makes_46 ?_
  refine lv_iload hx hb dX6_makes_49 (lv_at hl 0 rfl) ?_
  refine lv_iload_n hx hb dX6_makes_51 rfl (lv_at hl 4 rfl) ?_
  refine m_iast X hW7 hS7 a_X6_ones (hW.2.1 _ _) hx3 hf dX6_makes_52 (fun σ8 H locs hW8 hS8 hf => ?_)
  refine lv_aload_n hx hb dX6_makes_53 rfl (lv_at hl 1 rfl) ?_
  refine g_X6_twos X hW8 (X.2.2.2.2.1 _ mw1052) dX6_makes_54 ?_
  refine lv_iload hx hb dX6_makes_57 (lv_at hl 0 rfl) ?_
  refine lv_iload hx hb dX6_makes_59 (lv_at hl 5 rfl) ?_
  refine m_iast X hW8 hS8 a_X6_twos (hW.2.1 _ _) hx4 hf dX6_makes_61 (fun σ9 H locs hW9 hS9 hf => ?_)
  refine lv_aload_n hx hb dX6_makes_62 rfl (lv_at hl 1 rfl) ?_
  refine g_X6_threes X hW9 (X.2.2.2.2.1 _ mw1053) dX6_makes_63 ?_
  refine lv_iload hx hb dX6_makes_66 (lv_at hl 0 rfl) ?_
  refine lv_iload hx hb dX6_makes_68 (lv_at hl 6 rfl) ?_
  refine m_iast X hW9 hS9 a_X6_threes (hW.2.1 _ _) hx5 hf dX6_makes_70 (fun σ10 H locs hW10 hS10 hf => ?_)
  refine lv_aload_n hx hb dX6_makes_71 rfl (lv_at hl 1 rfl) ?_
  refine g_X6_fours X hW10 (X.2.2.2.2.1 _ mw1054) dX6_makes_72 ?_
  refine lv_iload hx hb dX6_makes_75 (lv_at hl 0 rfl) ?_
  refine lv_iload hx hb dX6_makes_77 (lv_at hl 7 rfl) ?_
  refine m_iast X hW10 hS10 a_X6_fours (hW.2.1 _ _) hx6 hf dX6_makes_79 (fun σ11 H locs hW11 hS11 hf => ?_)
  refine lv_aload_n hx hb dX6_makes_80 rfl (lv_at hl 1 rfl) ?_
  refine g_X6_areProposals X hW11 (X.2.2.2.2.1 _ mw1055) dX6_makes_81 ?_
  refine lv_iload hx hb dX6_makes_84 (lv_at hl 0 rfl) ?_
  refine lv_iload hx hb dX6_makes_86 (lv_at hl 8 rfl) ?_
  refine m_zast X hW11 hS11 a_X6_areProposals (hW.2.1 _ _) hx7 hf dX6_makes_88 (fun σ12 H locs hW12 hS12 hf => ?_)
  refine lv_aload_n hx hb dX6_makes_89 rfl (lv_at hl 1 rfl) ?_
  refine lv_dup hx hb dX6_makes_90 rfl ?_
  refine g_X6_actMany X hW12 (X.2.2.2.2.1 _ mw1047) dX6_makes_91 ?_
  refine m_const (v := 1) hx hb dX6_makes_94 rfl ?_
  refine m_iadd hx hb hf dX6_makes_95 (fun v13 hv13 hf => ?_)
  refine p_X6_actMany X hW12 hS12 hv13 hf (X.2.2.2.2.1 _ mw1047) dX6_makes_96 (fun σ14 H locs hW14 hS14 hf => ?_)
  refine lv_aload_n hx hb dX6_makes_99 rfl (lv_at hl 1 rfl) ?_
  refine lv_iload_n hx hb dX6_makes_100 rfl (lv_at hl 2 rfl) ?_
  refine lv_iload hx hb dX6_makes_101 (lv_at hl 0 rfl) ?_
  refine m_callVv (As := [.int (i32 x1), .int (i32 (σ 230 1))]) (rest := []) X hW14 hS14 hl.1 gc_X6_204 hd_X6_gets ⟨rfl, rfl, Nat.le_of_ble_eq_true rfl, Nat.le_of_ble_eq_true rfl⟩ (rc_X6 X hW14) (fun v q => ok_X6_gets hx1 (hW.2.1 _ _) q) hf rfl rfl (Nat.le_of_ble_eq_true rfl) dX6_makes_103 ⟨Nat.le_of_ble_eq_true rfl, Nat.le_of_ble_eq_true rfl⟩ (fun σ15 H locs hW15 hS15 hf => ?_)
  refine lv_iload hx hb dX6_makes_106 (lv_at hl 0 rfl) ?_
  exact m_ireti X hr hlocks rfl (hW.2.1 _ _) (fun h => Bool.noConfusion h) hW15 hS15 (congrArg Prod.fst (Option.some.inj hf)) (congrArg Prod.snd (Option.some.inj hf)) hQ dX6_makes_108
set_option maxRecDepth 100000 in
set_option maxHeartbeats 4000000 in
theorem ok_X6_writes {l : Launch} {D : va_G} {cy : Nat → ClassId} {ad : Nat → Nat} {nm nv sz : Nat} {σ : St} {n : Nat} {x1 : Int} {x2 : Int} {x3 : Int} {r : Int} {σ2 : St} (hx1 : inR x1) (hx2 : inR x2) (hx3 : inR x3) (hf : fX6_writes n σ x1 x2 x3 = some (r, σ2)) : CI l yX6_writes cX6_writes 5 (some .int) ({ frames := 7, cells := 0, slots := 0, locals := 156 } : Room) [.ref (ad 230), .int (i32 x1), .int (i32 x2), .int (i32 x3)] D cy ad nm nv sz σ false r σ2 := by
  refine m_entry RX6 rfl (by decide +kernel) (Nat.le_of_ble_eq_true rfl) ?_
  intro p e s m args below meth c Q hQ hr hlocks X hW hS ls hl
  have hx := X.1
  have hb := X.2.1
  have hl : lv_has ls 5 [(0, .ref (ad 230)), (1, .int (i32 x1)), (2, .int (i32 x2)), (3, .int (i32 x3))] := hl
  unfold fX6_writes at hf
  have hc48 : ∀ (σ : St) (H : Heap) (locs : List Loc) (ls : Array Slot) (t0 : Int), inR t0 → fX6_writes_J48 n σ x1 x2 x3 t0 = some (r, σ2) → Wd D cy ad nm nv σ H → va_S (AW ad nm nv sz) s.heap H locs → lv_has ls 5 [(0, .ref (ad 230)), (1, .int (i32 x1)), (2, .int (i32 x2)), (3, .int (i32 x3))] → W p l e ({ frames := 7, cells := 0, slots := 0, locals := 156 } : Room) s m args below meth c H locs 0 0 Q (F0 m 48 ls [.int (i32 t0), .ref (ad 230)]) := by
    intro σ H locs ls t0 ht0 hf hW hS hl
    unfold fX6_writes_J48 at hf
    refine p_X6_thrown X hW hS ht0 hf (X.2.2.2.2.1 _ mw1046) dX6_writes_48 (fun σ5 H locs hW5 hS5 hf => ?_)
    refine lv_aload_n hx hb dX6_writes_51 rfl (lv_at hl 0 rfl) ?_
    refine g_X6_thrown X hW5 (X.2.2.2.2.1 _ mw1046) dX6_writes_52 ?_
    refine m_if_le (tgt := 60) hx hb (hW5.2.1 _ _) hf dX6_writes_55 (by decide) (fun hf => ?_) (fun hf => ?_)
    · skip
      refine lv_aload_n hx hb dX6_writes_60 rfl (lv_at hl 0 rfl) ?_
      refine lv_iload_n hx hb dX6_writes_61 rfl (lv_at hl 1 rfl) ?_
      refine lv_iload_n hx hb dX6_writes_62 rfl (lv_at hl 2 rfl) ?_
      refine lv_aload_n hx hb dX6_writes_63 rfl (lv_at hl 0 rfl) ?_
      refine g_X6_cursors X hW5 (X.2.2.2.2.1 _ mw1063) dX6_writes_64 ?_
      refine lv_iload_n hx hb dX6_writes_67 rfl (lv_at hl 1 rfl) ?_
      refine m_iald X hW5 a_X6_cursors hx1 hf dX6_writes_68 (fun v6 hv6 hf => ?_)
      refine lv_iload_n hx hb dX6_writes_69 rfl (lv_at hl 3 rfl) ?_
      refine m_const (v := 0) hx hb dX6_writes_70 rfl ?_
      refine m_const (v := 0) hx hb dX6_writes_71 rfl ?_
      refine lv_aload_n hx hb dX6_writes_72 rfl (lv_at hl 0 rfl) ?_
      refine g_X6_propose X hW5 (X.2.2.2.2.1 _ mw1065) dX6_writes_73 ?_
      refine lv_iload_n hx hb dX6_writes_76 rfl (lv_at hl 1 rfl) ?_
      refine m_zald X hW5 a_X6_propose hx1 hf dX6_writes_77 (fun v7 hv7 hf => ?_)
      refine m_callVi (z := false) (As := [.int (i32 x1), .int (i32 x2), .int (i32 v6), .int (i32 x3), .int (i32 0), .int (i32 0), .int (i32 v7)]) (rest := []) X hW5 hS5 hl.1 gc_X6_211 hd_X6_makes ⟨rfl, rfl, Nat.le_of_ble_eq_true rfl, Nat.le_of_ble_eq_true rfl⟩ (rc_X6 X hW5) (fun v q9 q => ok_X6_makes hx1 hx2 hv6 hx3 (by decide) (by decide) hv7 q) hf rfl rfl (Nat.le_of_ble_eq_true rfl) dX6_writes_78 ⟨Nat.le_of_ble_eq_true rfl, Nat.le_of_ble_eq_true rfl⟩ (fun v9 σ8 H locs hv9 zv9 hW8 hS8 hf => ?_)
      refine lv_istore (lv' := [(4, .int (i32 v9)), (0, .ref (ad 230)), (1, .int (i32 x1)), (2, .int (i32 x2)), (3, .int (i32 x3))]) hx hb dX6_writes_81 hl (by decide) rfl (fun ls hl => ?_)
      refine lv_aload_n hx hb dX6_writes_83 rfl (lv_at hl 1 rfl) ?_
      refine g_X6_cursors X hW8 (X.2.2.2.2.1 _ mw1063) dX6_writes_84 ?_
      refine lv_iload_n hx hb dX6_writes_87 rfl (lv_at hl 2 rfl) ?_
      refine lv_iload hx hb dX6_writes_88 (lv_at hl 0 rfl) ?_
      refine m_iast X hW8 hS8 a_X6_cursors hx1 hv9 hf dX6_writes_90 (fun σ10 H locs hW10 hS10 hf => ?_)
      refine lv_aload_n hx hb dX6_writes_91 rfl (lv_at hl 1 rfl) ?_
      refine g_X6_tails X hW10 (X.2.2.2.2.1 _ mw1064) dX6_writes_92 ?_
      refine lv_iload_n hx hb dX6_writes_95 rfl (lv_at hl 2 rfl) ?_
      refine lv_iload hx hb dX6_writes_96 (lv_at hl 0 rfl) ?_
      refine m_iast X hW10 hS10 a_X6_tails hx1 hv9 hf dX6_writes_98 (fun σ11 H locs hW11 hS11 hf => ?_)
      refine lv_iload hx hb dX6_writes_99 (lv_at hl 0 rfl) ?_
      exact m_ireti X hr hlocks rfl hv9 (fun h => Bool.noConfusion h) hW11 hS11 (congrArg Prod.fst (Option.some.inj hf)) (congrArg Prod.snd (Option.some.inj hf)) hQ dX6_writes_101
    · skip
      refine m_const (v := 0) hx hb dX6_writes_58 rfl ?_
      exact m_ireti X hr hlocks rfl (by decide) (fun h => Bool.noConfusion h) hW5 hS5 (congrArg Prod.fst (Option.some.inj hf)) (congrArg Prod.snd (Option.some.inj hf)) hQ dX6_writes_59
  have hc35 : ∀ (σ : St) (H : Heap) (locs : List Loc) (ls : Array Slot), fX6_writes_J35 n σ x1 x2 x3 = some (r, σ2) → Wd D cy ad nm nv σ H → va_S (AW ad nm nv sz) s.heap H locs → lv_has ls 5 [(0, .ref (ad 230)), (1, .int (i32 x1)), (2, .int (i32 x2)), (3, .int (i32 x3))] → W p l e ({ frames := 7, cells := 0, slots := 0, locals := 156 } : Room) s m args below meth c H locs 0 0 Q (F0 m 35 ls [.ref (ad 230)]) := by
    intro σ H locs ls hf hW hS hl
    unfold fX6_writes_J35 at hf
    refine lv_iload_n hx hb dX6_writes_35 rfl (lv_at hl 2 rfl) ?_
    refine m_if_ne (tgt := 43) hx hb hx2 hf dX6_writes_36 (by decide) (fun hf => ?_) (fun hf => ?_)
    · skip
      refine m_const (v := 2) hx hb dX6_writes_43 rfl ?_
      refine lv_goto (tgt := 48) hx hb dX6_writes_44 (by decide) ?_
      exact hc48 _ _ _ _ 2 (by decide) hf hW hS (lv_sub hl [0, 1, 2, 3] rfl)
    · skip
      refine m_const (v := 3) hx hb dX6_writes_39 rfl ?_
      refine lv_goto (tgt := 48) hx hb dX6_writes_40 (by decide) ?_
      exact hc48 _ _ _ _ 3 (by decide) hf hW hS (lv_sub hl [0, 1, 2, 3] rfl)
  refine lv_aload_n hx hb dX6_writes_0 rfl (lv_at hl 0 rfl) ?_
  refine lv_iload_n hx hb dX6_writes_1 rfl (lv_at hl 1 rfl) ?_
  refine m_callVv (As := [.int (i32 x1)]) (rest := []) X hW hS hl.1 gc_X6_208 hd_X6_findsSite ⟨rfl, rfl, Nat.le_of_ble_eq_true rfl, Nat.le_of_ble_eq_true rfl⟩ (rc_X6 X hW) (fun v q => ok_X6_findsSite hx1 q) hf rfl rfl (Nat.le_of_ble_eq_true rfl) dX6_writes_2 ⟨Nat.le_of_ble_eq_true rfl, Nat.le_of_ble_eq_true rfl⟩ (fun σ1 H locs hW1 hS1 hf => ?_)
  refine lv_aload_n hx hb dX6_writes_5 rfl (lv_at hl 0 rfl) ?_
  refine lv_aload_n hx hb dX6_writes_6 rfl (lv_at hl 0 rfl) ?_
  refine lv_iload_n hx hb dX6_writes_7 rfl (lv_at hl 1 rfl) ?_
  refine lv_aload_n hx hb dX6_writes_8 rfl (lv_at hl 0 rfl) ?_
  refine lv_aload_n hx hb dX6_writes_9 rfl (lv_at hl 0 rfl) ?_
  refine g_X6_cursors X hW1 (X.2.2.2.2.1 _ mw1063) dX6_writes_10 ?_
  refine lv_iload_n hx hb dX6_writes_13 rfl (lv_at hl 1 rfl) ?_
  refine m_iald X hW1 a_X6_cursors hx1 hf dX6_writes_14 (fun v2 hv2 hf => ?_)
  refine m_callVi1 (z := false) (As := [.int (i32 v2)]) (rest := [.int (i32 x1), .ref (ad 230), .ref (ad 230)]) X hW1 hS1 hl.1 gc_X6_172 hd_X6_blockOf ⟨rfl, rfl, Nat.le_of_ble_eq_true rfl, Nat.le_of_ble_eq_true rfl⟩ (rc_X6 X hW1) (fun v q => ok_X6_blockOf hv2 q) hf rfl rfl (Nat.le_of_ble_eq_true rfl) dX6_writes_15 ⟨Nat.le_of_ble_eq_true rfl, Nat.le_of_ble_eq_true rfl⟩ (fun v3 H locs hv3 zv3 hWv3 hSv3 hf => ?_)
  refine m_callVi1 (z := false) (As := [.int (i32 x1), .int (i32 v3)]) (rest := [.ref (ad 230)]) X hWv3 hSv3 hl.1 gc_X6_175 hd_X6_levelIn ⟨rfl, rfl, Nat.le_of_ble_eq_true rfl, Nat.le_of_ble_eq_true rfl⟩ (rc_X6 X hWv3) (fun v q => ok_X6_levelIn hx1 hv3 q) hf rfl rfl (Nat.le_of_ble_eq_true rfl) dX6_writes_18 ⟨Nat.le_of_ble_eq_true rfl, Nat.le_of_ble_eq_true rfl⟩ (fun v4 H locs hv4 zv4 hWv4 hSv4 hf => ?_)
  refine m_const (v := 2) hx hb dX6_writes_21 rfl ?_
  refine m_icmp_eq (tgt := 35) hx hb hv4 (by decide) hf dX6_writes_22 (by decide) (fun hf => ?_) (fun hf => ?_)
  · skip
    exact hc35 _ _ _ _  hf hWv4 hSv4 (lv_sub hl [0, 1, 2, 3] rfl)
  · skip
    refine lv_aload_n hx hb dX6_writes_25 rfl (lv_at hl 0 rfl) ?_
    refine g_X6_actMany X hWv4 (X.2.2.2.2.1 _ mw1047) dX6_writes_26 ?_
    refine m_sipush (v := 160) hx hb dX6_writes_29 (by decide) ?_
    refine m_icmp_ne (tgt := 47) hx hb (hWv4.2.1 _ _) (by decide) hf dX6_writes_32 (by decide) (fun hf => ?_) (fun hf => ?_)
    · skip
      refine m_const (v := 0) hx hb dX6_writes_47 rfl ?_
      exact hc48 _ _ _ _ 0 (by decide) hf hWv4 hSv4 (lv_sub hl [0, 1, 2, 3] rfl)
    · skip
      exact hc35 _ _ _ _  hf hWv4 hSv4 (lv_sub hl [0, 1, 2, 3] rfl)
