/-! the law: cases -/
section LC
variable {p : Program} {l : Launch} {e : Env} {s : State} {m : MethodId} {below : List Frame} {meth : Method} {c : Code} {b L : Nat} {xs : Nat → Int32} {D : va_G} {cy : Nat → ClassId} {ck : ClassId} {u qm : Nat → Nat} {Q : State → Prop} {H : Heap} {locs : List Loc} {cells slots : Nat} {ls : Array Slot} {N k P i : Nat} {qk : Nat → Nat → Nat} {mk : Nat → Nat → Mem} {sm bsa bsb rd di rof pn se fo ro ra vc os li fot rot rat vct ost lit mo : Mem}
set_option maxRecDepth 100000 in
theorem L_round (B : LB p s m meth c b L xs D cy ck) (hl : lv_has ls 4 [(3, .int (nI i)), (2, .ref (qm 0)), (1, .ref (u 0)), (0, .ref b)]) (hi : i + 5 < L) (hL : L ≤ 3072) (hN : N ≤ 512) (hc : cells ≤ 500000 ∧ slots ≤ 7000000) (hI : LI N k P mk sm bsa pn fo ro ra vc os li mo) (hP : va_P D vwCl (LW cy u ck qk mk P qm sm bsa bsb rd di rof pn se fo ro ra vc os li fot rot rat vct ost lit mo) H) (hD : va_D (AA s) (LW cy u ck qk mk P qm sm bsa bsb rd di rof pn se fo ro ra vc os li fot rot rat vct ost lit mo)) (hS : va_S (AA s) s.heap H locs) (kk : LK p l e s m below meth c b D cy ck u qm Q cells slots ls N) : W p l e room_1 s m #[Value.ref b] below meth c H locs cells slots Q (F0 m 1241 ls []) := by
  obtain ⟨hx, hb, hml, hown, hts, hX, hbl, hK, hN9, hQ9⟩ := id B
  have hbA : ¬ AA s b := Nat.not_le.mpr hbl
  have hA : ∀ q, s.heap.size ≤ q → AA s q := fun _ h => h
  obtain ⟨a1, ea1⟩ : ∃ z : Int32, xs (nI i + 1).toNatClampNeg = z := ⟨_, rfl⟩
  obtain ⟨a2, ea2⟩ : ∃ z : Int32, xs (nI i + 2).toNatClampNeg = z := ⟨_, rfl⟩
  obtain ⟨a3, ea3⟩ : ∃ z : Int32, xs (nI i + 3).toNatClampNeg = z := ⟨_, rfl⟩
  obtain ⟨r, fo', os', mo', o1, o2, o3⟩ := s_round (x := a1) (y := a2) (z := a3)  hN hI
  refine lv_aload_n hx hb dL_1241 rfl (lv_at hl 2 rfl) ?_
  refine lv_aload_n hx hb dL_1242 rfl (lv_at hl 3 rfl) ?_
  refine lv_iload_n hx hb dL_1243 rfl (lv_at hl 0 rfl) ?_
  refine lv_iconst (v := 1) hx hb dL_1244 (by decide) ?_
  refine lv_iadd hx hb dL_1245 ?_
  refine va_sld hx hb hX hbl hbA hS (vin2 1 (by omega) (by omega)) dL_1246 ?_
  rw [ea1]
  refine lv_aload_n hx hb dL_1247 rfl (lv_at hl 3 rfl) ?_
  refine lv_iload_n hx hb dL_1248 rfl (lv_at hl 0 rfl) ?_
  refine lv_iconst (v := 2) hx hb dL_1249 (by decide) ?_
  refine lv_iadd hx hb dL_1250 ?_
  refine va_sld hx hb hX hbl hbA hS (vin2 2 (by omega) (by omega)) dL_1251 ?_
  rw [ea2]
  refine lv_aload_n hx hb dL_1252 rfl (lv_at hl 3 rfl) ?_
  refine lv_iload_n hx hb dL_1253 rfl (lv_at hl 0 rfl) ?_
  refine lv_iconst (v := 3) hx hb dL_1254 (by decide) ?_
  refine lv_iadd hx hb dL_1255 ?_
  refine va_sld hx hb hX hbl hbA hS (vin2 3 (by omega) (by omega)) dL_1256 ?_
  rw [ea3]
  refine k_RIV (As := [.int a1, .int a2, .int a3]) (rest := []) ⟨hx, hb, hml, hown, hts⟩ hK hP hD hS hA (wn := LW cy u ck qk mk P qm sm bsa bsb rd di rof pn se fo' ro ra vc os' li fot rot rat vct ost lit mo) (FrS_c rfl) (cw_L_152 (d := 4) hts ⟨Nat.le_of_ble_eq_true rfl, Nat.le_of_ble_eq_true rfl⟩) 0 (ci := 11) rfl rfl rfl (c_X11_round l D cy (fun z => u z) (fun z => u (20 + z)) (fun z => u (40 + z)) (fun z => u (60 + z)) (fun z => u (80 + z)) (fun z => u (100 + z)) (fun z => u (120 + z)) (fun z => u (140 + z)) (fun z => u (160 + z)) (fun z => u (180 + z)) (fun z => u (200 + z)) (fun z => u (220 + z)) (fun z => u (240 + z)) (fun z => u (260 + z)) (fun z => u (280 + z)) (fun z => u (300 + z)) (fun z => u (320 + z)) (fun z => u (340 + z)) (fun z => u (360 + z)) (fun z => u (380 + z)) sm bsa bsb rd di rof pn se fo ro ra vc os li fot rot rat vct ost lit a1 a2 a3 r fo' os' o1) rfl hl.1 (Nat.le_of_ble_eq_true rfl) ⟨by show cells + 0 ≤ 600000; omega, by show slots + 0 ≤ 7302250; omega⟩ dL_1257 (fun H locs hP hD hS => ?_)
  refine lv_aload_n hx hb dL_1260 rfl (lv_at hl 1 rfl) ?_
  refine lv_aload_n hx hb dL_1261 rfl (lv_at hl 3 rfl) ?_
  refine lv_iload_n hx hb dL_1262 rfl (lv_at hl 0 rfl) ?_
  refine lv_iconst (v := 1) hx hb dL_1263 (by decide) ?_
  refine lv_iadd hx hb dL_1264 ?_
  refine va_sld hx hb hX hbl hbA hS (vin2 1 (by omega) (by omega)) dL_1265 ?_
  rw [ea1]
  refine lv_aload_n hx hb dL_1266 rfl (lv_at hl 3 rfl) ?_
  refine lv_iload_n hx hb dL_1267 rfl (lv_at hl 0 rfl) ?_
  refine lv_iconst (v := 2) hx hb dL_1268 (by decide) ?_
  refine lv_iadd hx hb dL_1269 ?_
  refine va_sld hx hb hX hbl hbA hS (vin2 2 (by omega) (by omega)) dL_1270 ?_
  rw [ea2]
  refine lv_aload_n hx hb dL_1271 rfl (lv_at hl 3 rfl) ?_
  refine lv_iload_n hx hb dL_1272 rfl (lv_at hl 0 rfl) ?_
  refine lv_iconst (v := 3) hx hb dL_1273 (by decide) ?_
  refine lv_iadd hx hb dL_1274 ?_
  refine va_sld hx hb hX hbl hbA hS (vin2 3 (by omega) (by omega)) dL_1275 ?_
  rw [ea3]
  refine k_RIV (As := [.int a1, .int a2, .int a3]) (rest := [.int r]) ⟨hx, hb, hml, hown, hts⟩ hK hP hD hS hA (wn := LW cy u ck qk mk P qm sm bsa bsb rd di rof pn se fo' ro ra vc os' li fot rot rat vct ost lit mo') (FrS_m rfl) (cw_L_155 (d := 5) hts ⟨Nat.le_of_ble_eq_true rfl, Nat.le_of_ble_eq_true rfl⟩) 0 (ci := 12) rfl rfl rfl (c_X12_round l D cy qm mo a1 a2 a3 r mo' o2) rfl hl.1 (Nat.le_of_ble_eq_true rfl) ⟨by show cells + 0 ≤ 600000; omega, by show slots + 0 ≤ 7302250; omega⟩ dL_1276 (fun H locs hP hD hS => ?_)
  refine lv_icmp_eq (tgt := 1620) hx hb dL_1279 (by decide) (fun _ => ?_) (fun c1 => absurd rfl c1)
  exact kk _ _ _ _ _ _ _ _ _ _ _ _ _ _ _ _ _ _ _ _ _ _ _ _ _ _ _ _ _ (by omega) (by omega) o3 hP hD hS
set_option maxRecDepth 100000 in
theorem L_cancelAll (B : LB p s m meth c b L xs D cy ck) (hl : lv_has ls 4 [(3, .int (nI i)), (2, .ref (qm 0)), (1, .ref (u 0)), (0, .ref b)]) (hi : i + 5 < L) (hL : L ≤ 3072) (hN : N ≤ 512) (hc : cells ≤ 500000 ∧ slots ≤ 7000000) (hI : LI N k P mk sm bsa pn fo ro ra vc os li mo) (hP : va_P D vwCl (LW cy u ck qk mk P qm sm bsa bsb rd di rof pn se fo ro ra vc os li fot rot rat vct ost lit mo) H) (hD : va_D (AA s) (LW cy u ck qk mk P qm sm bsa bsb rd di rof pn se fo ro ra vc os li fot rot rat vct ost lit mo)) (hS : va_S (AA s) s.heap H locs) (kk : LK p l e s m below meth c b D cy ck u qm Q cells slots ls N) : W p l e room_1 s m #[Value.ref b] below meth c H locs cells slots Q (F0 m 1284 ls []) := by
  obtain ⟨hx, hb, hml, hown, hts, hX, hbl, hK, hN9, hQ9⟩ := id B
  have hbA : ¬ AA s b := Nat.not_le.mpr hbl
  have hA : ∀ q, s.heap.size ≤ q → AA s q := fun _ h => h
  obtain ⟨a1, ea1⟩ : ∃ z : Int32, xs (nI i + 1).toNatClampNeg = z := ⟨_, rfl⟩
  obtain ⟨r, fo', vc', mo', o1, o2, o3⟩ := s_cancelAll (x := a1)  hN hI
  refine lv_aload_n hx hb dL_1284 rfl (lv_at hl 2 rfl) ?_
  refine lv_aload_n hx hb dL_1285 rfl (lv_at hl 3 rfl) ?_
  refine lv_iload_n hx hb dL_1286 rfl (lv_at hl 0 rfl) ?_
  refine lv_iconst (v := 1) hx hb dL_1287 (by decide) ?_
  refine lv_iadd hx hb dL_1288 ?_
  refine va_sld hx hb hX hbl hbA hS (vin2 1 (by omega) (by omega)) dL_1289 ?_
  rw [ea1]
  refine k_RIV (As := [.int a1]) (rest := []) ⟨hx, hb, hml, hown, hts⟩ hK hP hD hS hA (wn := LW cy u ck qk mk P qm sm bsa bsb rd di rof pn se fo' ro ra vc' os li fot rot rat vct ost lit mo) (FrS_c rfl) (cw_L_156 (d := 3) hts ⟨Nat.le_of_ble_eq_true rfl, Nat.le_of_ble_eq_true rfl⟩) 0 (ci := 11) rfl rfl rfl (c_X11_cancelAll l D cy (fun z => u z) (fun z => u (20 + z)) (fun z => u (40 + z)) (fun z => u (60 + z)) (fun z => u (80 + z)) (fun z => u (100 + z)) (fun z => u (120 + z)) (fun z => u (140 + z)) (fun z => u (160 + z)) (fun z => u (180 + z)) (fun z => u (200 + z)) (fun z => u (220 + z)) (fun z => u (240 + z)) (fun z => u (260 + z)) (fun z => u (280 + z)) (fun z => u (300 + z)) (fun z => u (320 + z)) (fun z => u (340 + z)) (fun z => u (360 + z)) (fun z => u (380 + z)) sm bsa bsb rd di rof pn se fo ro ra vc os li fot rot rat vct ost lit a1 r fo' vc' o1) rfl hl.1 (Nat.le_of_ble_eq_true rfl) ⟨by show cells + 0 ≤ 600000; omega, by show slots + 0 ≤ 7302250; omega⟩ dL_1290 (fun H locs hP hD hS => ?_)
  refine lv_aload_n hx hb dL_1293 rfl (lv_at hl 1 rfl) ?_
  refine lv_aload_n hx hb dL_1294 rfl (lv_at hl 3 rfl) ?_
  refine lv_iload_n hx hb dL_1295 rfl (lv_at hl 0 rfl) ?_
  refine lv_iconst (v := 1) hx hb dL_1296 (by decide) ?_
  refine lv_iadd hx hb dL_1297 ?_
  refine va_sld hx hb hX hbl hbA hS (vin2 1 (by omega) (by omega)) dL_1298 ?_
  rw [ea1]
  refine k_RIV (As := [.int a1]) (rest := [.int r]) ⟨hx, hb, hml, hown, hts⟩ hK hP hD hS hA (wn := LW cy u ck qk mk P qm sm bsa bsb rd di rof pn se fo' ro ra vc' os li fot rot rat vct ost lit mo') (FrS_m rfl) (cw_L_159 (d := 4) hts ⟨Nat.le_of_ble_eq_true rfl, Nat.le_of_ble_eq_true rfl⟩) 0 (ci := 12) rfl rfl rfl (c_X12_cancelAll l D cy qm mo a1 r mo' o2) rfl hl.1 (Nat.le_of_ble_eq_true rfl) ⟨by show cells + 0 ≤ 600000; omega, by show slots + 0 ≤ 7302250; omega⟩ dL_1299 (fun H locs hP hD hS => ?_)
  refine lv_icmp_eq (tgt := 1620) hx hb dL_1302 (by decide) (fun _ => ?_) (fun c1 => absurd rfl c1)
  exact kk _ _ _ _ _ _ _ _ _ _ _ _ _ _ _ _ _ _ _ _ _ _ _ _ _ _ _ _ _ (by omega) (by omega) o3 hP hD hS
set_option maxRecDepth 100000 in
theorem L_byRule (B : LB p s m meth c b L xs D cy ck) (hl : lv_has ls 4 [(3, .int (nI i)), (2, .ref (qm 0)), (1, .ref (u 0)), (0, .ref b)]) (hi : i + 5 < L) (hL : L ≤ 3072) (hN : N ≤ 512) (hc : cells ≤ 500000 ∧ slots ≤ 7000000) (hI : LI N k P mk sm bsa pn fo ro ra vc os li mo) (hP : va_P D vwCl (LW cy u ck qk mk P qm sm bsa bsb rd di rof pn se fo ro ra vc os li fot rot rat vct ost lit mo) H) (hD : va_D (AA s) (LW cy u ck qk mk P qm sm bsa bsb rd di rof pn se fo ro ra vc os li fot rot rat vct ost lit mo)) (hS : va_S (AA s) s.heap H locs) (kk : LK p l e s m below meth c b D cy ck u qm Q cells slots ls N) : W p l e room_1 s m #[Value.ref b] below meth c H locs cells slots Q (F0 m 1307 ls []) := by
  obtain ⟨hx, hb, hml, hown, hts, hX, hbl, hK, hN9, hQ9⟩ := id B
  have hbA : ¬ AA s b := Nat.not_le.mpr hbl
  have hA : ∀ q, s.heap.size ≤ q → AA s q := fun _ h => h
  obtain ⟨a1, ea1⟩ : ∃ z : Int32, xs (nI i + 1).toNatClampNeg = z := ⟨_, rfl⟩
  obtain ⟨a2, ea2⟩ : ∃ z : Int32, xs (nI i + 2).toNatClampNeg = z := ⟨_, rfl⟩
  obtain ⟨r, pn', fot', rot', rat', vct', ost', lit', mo', o1, o2, o3⟩ := s_byRule (x := a1) (y := a2) (fot := fot) (rot := rot) (rat := rat) (vct := vct) (ost := ost) (lit := lit) hN hI
  refine lv_aload_n hx hb dL_1307 rfl (lv_at hl 2 rfl) ?_
  refine lv_aload_n hx hb dL_1308 rfl (lv_at hl 3 rfl) ?_
  refine lv_iload_n hx hb dL_1309 rfl (lv_at hl 0 rfl) ?_
  refine lv_iconst (v := 1) hx hb dL_1310 (by decide) ?_
  refine lv_iadd hx hb dL_1311 ?_
  refine va_sld hx hb hX hbl hbA hS (vin2 1 (by omega) (by omega)) dL_1312 ?_
  rw [ea1]
  refine lv_aload_n hx hb dL_1313 rfl (lv_at hl 3 rfl) ?_
  refine lv_iload_n hx hb dL_1314 rfl (lv_at hl 0 rfl) ?_
  refine lv_iconst (v := 2) hx hb dL_1315 (by decide) ?_
  refine lv_iadd hx hb dL_1316 ?_
  refine va_sld hx hb hX hbl hbA hS (vin2 2 (by omega) (by omega)) dL_1317 ?_
  rw [ea2]
  refine k_RIV (As := [.int a1, .int a2]) (rest := []) ⟨hx, hb, hml, hown, hts⟩ hK hP hD hS hA (wn := LW cy u ck qk mk P qm sm bsa bsb rd di rof pn' se fo ro ra vc os li fot' rot' rat' vct' ost' lit' mo) (FrS_c rfl) (cw_L_160 (d := 6) hts ⟨Nat.le_of_ble_eq_true rfl, Nat.le_of_ble_eq_true rfl⟩) 0 (ci := 11) rfl rfl rfl (c_X11_byRule l D cy (fun z => u z) (fun z => u (20 + z)) (fun z => u (40 + z)) (fun z => u (60 + z)) (fun z => u (80 + z)) (fun z => u (100 + z)) (fun z => u (120 + z)) (fun z => u (140 + z)) (fun z => u (160 + z)) (fun z => u (180 + z)) (fun z => u (200 + z)) (fun z => u (220 + z)) (fun z => u (240 + z)) (fun z => u (260 + z)) (fun z => u (280 + z)) (fun z => u (300 + z)) (fun z => u (320 + z)) (fun z => u (340 + z)) (fun z => u (360 + z)) (fun z => u (380 + z)) sm bsa bsb rd di rof pn se fo ro ra vc os li fot rot rat vct ost lit a1 a2 r pn' fot' rot' rat' vct' ost' lit' o1) rfl hl.1 (Nat.le_of_ble_eq_true rfl) ⟨by show cells + 0 ≤ 600000; omega, by show slots + 0 ≤ 7302250; omega⟩ dL_1318 (fun H locs hP hD hS => ?_)
  refine lv_aload_n hx hb dL_1321 rfl (lv_at hl 1 rfl) ?_
  refine lv_aload_n hx hb dL_1322 rfl (lv_at hl 3 rfl) ?_
  refine lv_iload_n hx hb dL_1323 rfl (lv_at hl 0 rfl) ?_
  refine lv_iconst (v := 1) hx hb dL_1324 (by decide) ?_
  refine lv_iadd hx hb dL_1325 ?_
  refine va_sld hx hb hX hbl hbA hS (vin2 1 (by omega) (by omega)) dL_1326 ?_
  rw [ea1]
  refine lv_aload_n hx hb dL_1327 rfl (lv_at hl 3 rfl) ?_
  refine lv_iload_n hx hb dL_1328 rfl (lv_at hl 0 rfl) ?_
  refine lv_iconst (v := 2) hx hb dL_1329 (by decide) ?_
  refine lv_iadd hx hb dL_1330 ?_
  refine va_sld hx hb hX hbl hbA hS (vin2 2 (by omega) (by omega)) dL_1331 ?_
  rw [ea2]
  refine k_RIV (As := [.int a1, .int a2]) (rest := [.int r]) ⟨hx, hb, hml, hown, hts⟩ hK hP hD hS hA (wn := LW cy u ck qk mk P qm sm bsa bsb rd di rof pn' se fo ro ra vc os li fot' rot' rat' vct' ost' lit' mo') (FrS_m rfl) (cw_L_163 (d := 6) hts ⟨Nat.le_of_ble_eq_true rfl, Nat.le_of_ble_eq_true rfl⟩) 0 (ci := 12) rfl rfl rfl (c_X12_byRule l D cy qm mo a1 a2 r mo' o2) rfl hl.1 (Nat.le_of_ble_eq_true rfl) ⟨by show cells + 0 ≤ 600000; omega, by show slots + 0 ≤ 7302250; omega⟩ dL_1332 (fun H locs hP hD hS => ?_)
  refine lv_icmp_eq (tgt := 1620) hx hb dL_1335 (by decide) (fun _ => ?_) (fun c1 => absurd rfl c1)
  exact kk _ _ _ _ _ _ _ _ _ _ _ _ _ _ _ _ _ _ _ _ _ _ _ _ _ _ _ _ _ (by omega) (by omega) o3 hP hD hS
set_option maxRecDepth 100000 in
theorem L_demand (B : LB p s m meth c b L xs D cy ck) (hl : lv_has ls 4 [(3, .int (nI i)), (2, .ref (qm 0)), (1, .ref (u 0)), (0, .ref b)]) (hi : i + 5 < L) (hL : L ≤ 3072) (hN : N ≤ 512) (hc : cells ≤ 500000 ∧ slots ≤ 7000000) (hI : LI N k P mk sm bsa pn fo ro ra vc os li mo) (hP : va_P D vwCl (LW cy u ck qk mk P qm sm bsa bsb rd di rof pn se fo ro ra vc os li fot rot rat vct ost lit mo) H) (hD : va_D (AA s) (LW cy u ck qk mk P qm sm bsa bsb rd di rof pn se fo ro ra vc os li fot rot rat vct ost lit mo)) (hS : va_S (AA s) s.heap H locs) (kk : LK p l e s m below meth c b D cy ck u qm Q cells slots ls N) : W p l e room_1 s m #[Value.ref b] below meth c H locs cells slots Q (F0 m 1340 ls []) := by
  obtain ⟨hx, hb, hml, hown, hts, hX, hbl, hK, hN9, hQ9⟩ := id B
  have hbA : ¬ AA s b := Nat.not_le.mpr hbl
  have hA : ∀ q, s.heap.size ≤ q → AA s q := fun _ h => h
  obtain ⟨a1, ea1⟩ : ∃ z : Int32, xs (nI i + 1).toNatClampNeg = z := ⟨_, rfl⟩
  obtain ⟨a2, ea2⟩ : ∃ z : Int32, xs (nI i + 2).toNatClampNeg = z := ⟨_, rfl⟩
  obtain ⟨r, o1, o2, o3⟩ := s_demand (x := a1) (y := a2)  hN hI
  refine lv_aload_n hx hb dL_1340 rfl (lv_at hl 2 rfl) ?_
  refine lv_aload_n hx hb dL_1341 rfl (lv_at hl 3 rfl) ?_
  refine lv_iload_n hx hb dL_1342 rfl (lv_at hl 0 rfl) ?_
  refine lv_iconst (v := 1) hx hb dL_1343 (by decide) ?_
  refine lv_iadd hx hb dL_1344 ?_
  refine va_sld hx hb hX hbl hbA hS (vin2 1 (by omega) (by omega)) dL_1345 ?_
  rw [ea1]
  refine lv_aload_n hx hb dL_1346 rfl (lv_at hl 3 rfl) ?_
  refine lv_iload_n hx hb dL_1347 rfl (lv_at hl 0 rfl) ?_
  refine lv_iconst (v := 2) hx hb dL_1348 (by decide) ?_
  refine lv_iadd hx hb dL_1349 ?_
  refine va_sld hx hb hX hbl hbA hS (vin2 2 (by omega) (by omega)) dL_1350 ?_
  rw [ea2]
  refine k_ROV (As := [.int a1, .int a2]) (rest := []) ⟨hx, hb, hml, hown, hts⟩ hK (P_c hP) (cw_L_164 (d := 2) hts ⟨Nat.le_of_ble_eq_true rfl, Nat.le_of_ble_eq_true rfl⟩) 0 (ci := 11) rfl rfl rfl (c_X11_demand l D cy (fun z => u z) (fun z => u (20 + z)) (fun z => u (40 + z)) (fun z => u (60 + z)) (fun z => u (80 + z)) (fun z => u (100 + z)) (fun z => u (120 + z)) (fun z => u (140 + z)) (fun z => u (160 + z)) (fun z => u (180 + z)) (fun z => u (200 + z)) (fun z => u (220 + z)) (fun z => u (240 + z)) (fun z => u (260 + z)) (fun z => u (280 + z)) (fun z => u (300 + z)) (fun z => u (320 + z)) (fun z => u (340 + z)) (fun z => u (360 + z)) (fun z => u (380 + z)) sm bsa bsb rd di rof pn se fo ro ra vc os li fot rot rat vct ost lit a1 a2 r o1) rfl hl.1 (Nat.le_of_ble_eq_true rfl) ⟨by show cells + 0 ≤ 600000; omega, by show slots + 0 ≤ 7302250; omega⟩ dL_1351 ?_
  refine lv_aload_n hx hb dL_1354 rfl (lv_at hl 1 rfl) ?_
  refine lv_aload_n hx hb dL_1355 rfl (lv_at hl 3 rfl) ?_
  refine lv_iload_n hx hb dL_1356 rfl (lv_at hl 0 rfl) ?_
  refine lv_iconst (v := 1) hx hb dL_1357 (by decide) ?_
  refine lv_iadd hx hb dL_1358 ?_
  refine va_sld hx hb hX hbl hbA hS (vin2 1 (by omega) (by omega)) dL_1359 ?_
  rw [ea1]
  refine lv_aload_n hx hb dL_1360 rfl (lv_at hl 3 rfl) ?_
  refine lv_iload_n hx hb dL_1361 rfl (lv_at hl 0 rfl) ?_
  refine lv_iconst (v := 2) hx hb dL_1362 (by decide) ?_
  refine lv_iadd hx hb dL_1363 ?_
  refine va_sld hx hb hX hbl hbA hS (vin2 2 (by omega) (by omega)) dL_1364 ?_
  rw [ea2]
  refine k_ROV (As := [.int a1, .int a2]) (rest := [.int r]) ⟨hx, hb, hml, hown, hts⟩ hK (P_m hP) (cw_L_167 (d := 2) hts ⟨Nat.le_of_ble_eq_true rfl, Nat.le_of_ble_eq_true rfl⟩) 0 (ci := 12) rfl rfl rfl (c_X12_demand l D cy qm mo a1 a2 r o2) rfl hl.1 (Nat.le_of_ble_eq_true rfl) ⟨by show cells + 0 ≤ 600000; omega, by show slots + 0 ≤ 7302250; omega⟩ dL_1365 ?_
  refine lv_icmp_eq (tgt := 1620) hx hb dL_1368 (by decide) (fun _ => ?_) (fun c1 => absurd rfl c1)
  exact kk _ _ _ _ _ _ _ _ _ _ _ _ _ _ _ _ _ _ _ _ _ _ _ _ _ _ _ _ _ (by omega) (by omega) o3 hP hD hS
set_option maxRecDepth 100000 in
theorem L_crowded (B : LB p s m meth c b L xs D cy ck) (hl : lv_has ls 4 [(3, .int (nI i)), (2, .ref (qm 0)), (1, .ref (u 0)), (0, .ref b)]) (hi : i + 5 < L) (hL : L ≤ 3072) (hN : N ≤ 512) (hc : cells ≤ 500000 ∧ slots ≤ 7000000) (hI : LI N k P mk sm bsa pn fo ro ra vc os li mo) (hP : va_P D vwCl (LW cy u ck qk mk P qm sm bsa bsb rd di rof pn se fo ro ra vc os li fot rot rat vct ost lit mo) H) (hD : va_D (AA s) (LW cy u ck qk mk P qm sm bsa bsb rd di rof pn se fo ro ra vc os li fot rot rat vct ost lit mo)) (hS : va_S (AA s) s.heap H locs) (kk : LK p l e s m below meth c b D cy ck u qm Q cells slots ls N) : W p l e room_1 s m #[Value.ref b] below meth c H locs cells slots Q (F0 m 1373 ls []) := by
  obtain ⟨hx, hb, hml, hown, hts, hX, hbl, hK, hN9, hQ9⟩ := id B
  have hbA : ¬ AA s b := Nat.not_le.mpr hbl
  have hA : ∀ q, s.heap.size ≤ q → AA s q := fun _ h => h
  obtain ⟨a1, ea1⟩ : ∃ z : Int32, xs (nI i + 1).toNatClampNeg = z := ⟨_, rfl⟩
  obtain ⟨r, o1, o2, o3⟩ := s_crowded (x := a1)  hN hI
  refine lv_aload_n hx hb dL_1373 rfl (lv_at hl 2 rfl) ?_
  refine lv_aload_n hx hb dL_1374 rfl (lv_at hl 3 rfl) ?_
  refine lv_iload_n hx hb dL_1375 rfl (lv_at hl 0 rfl) ?_
  refine lv_iconst (v := 1) hx hb dL_1376 (by decide) ?_
  refine lv_iadd hx hb dL_1377 ?_
  refine va_sld hx hb hX hbl hbA hS (vin2 1 (by omega) (by omega)) dL_1378 ?_
  rw [ea1]
  refine k_ROV (As := [.int a1]) (rest := []) ⟨hx, hb, hml, hown, hts⟩ hK (P_c hP) (cw_L_168 (d := 2) hts ⟨Nat.le_of_ble_eq_true rfl, Nat.le_of_ble_eq_true rfl⟩) 0 (ci := 11) rfl rfl rfl (c_X11_crowded l D cy (fun z => u z) (fun z => u (20 + z)) (fun z => u (40 + z)) (fun z => u (60 + z)) (fun z => u (80 + z)) (fun z => u (100 + z)) (fun z => u (120 + z)) (fun z => u (140 + z)) (fun z => u (160 + z)) (fun z => u (180 + z)) (fun z => u (200 + z)) (fun z => u (220 + z)) (fun z => u (240 + z)) (fun z => u (260 + z)) (fun z => u (280 + z)) (fun z => u (300 + z)) (fun z => u (320 + z)) (fun z => u (340 + z)) (fun z => u (360 + z)) (fun z => u (380 + z)) sm bsa bsb rd di rof pn se fo ro ra vc os li fot rot rat vct ost lit a1 r o1) rfl hl.1 (Nat.le_of_ble_eq_true rfl) ⟨by show cells + 0 ≤ 600000; omega, by show slots + 0 ≤ 7302250; omega⟩ dL_1379 ?_
  refine lv_aload_n hx hb dL_1382 rfl (lv_at hl 1 rfl) ?_
  refine lv_aload_n hx hb dL_1383 rfl (lv_at hl 3 rfl) ?_
  refine lv_iload_n hx hb dL_1384 rfl (lv_at hl 0 rfl) ?_
  refine lv_iconst (v := 1) hx hb dL_1385 (by decide) ?_
  refine lv_iadd hx hb dL_1386 ?_
  refine va_sld hx hb hX hbl hbA hS (vin2 1 (by omega) (by omega)) dL_1387 ?_
  rw [ea1]
  refine k_ROV (As := [.int a1]) (rest := [.int r]) ⟨hx, hb, hml, hown, hts⟩ hK (P_m hP) (cw_L_171 (d := 3) hts ⟨Nat.le_of_ble_eq_true rfl, Nat.le_of_ble_eq_true rfl⟩) 0 (ci := 12) rfl rfl rfl (c_X12_crowded l D cy qm mo a1 r o2) rfl hl.1 (Nat.le_of_ble_eq_true rfl) ⟨by show cells + 0 ≤ 600000; omega, by show slots + 0 ≤ 7302250; omega⟩ dL_1388 ?_
  refine lv_icmp_eq (tgt := 1620) hx hb dL_1391 (by decide) (fun _ => ?_) (fun c1 => absurd rfl c1)
  exact kk _ _ _ _ _ _ _ _ _ _ _ _ _ _ _ _ _ _ _ _ _ _ _ _ _ _ _ _ _ (by omega) (by omega) o3 hP hD hS
set_option maxRecDepth 100000 in
theorem L_would (B : LB p s m meth c b L xs D cy ck) (hl : lv_has ls 4 [(3, .int (nI i)), (2, .ref (qm 0)), (1, .ref (u 0)), (0, .ref b)]) (hi : i + 5 < L) (hL : L ≤ 3072) (hN : N ≤ 512) (hc : cells ≤ 500000 ∧ slots ≤ 7000000) (hI : LI N k P mk sm bsa pn fo ro ra vc os li mo) (hP : va_P D vwCl (LW cy u ck qk mk P qm sm bsa bsb rd di rof pn se fo ro ra vc os li fot rot rat vct ost lit mo) H) (hD : va_D (AA s) (LW cy u ck qk mk P qm sm bsa bsb rd di rof pn se fo ro ra vc os li fot rot rat vct ost lit mo)) (hS : va_S (AA s) s.heap H locs) (kk : LK p l e s m below meth c b D cy ck u qm Q cells slots ls N) : W p l e room_1 s m #[Value.ref b] below meth c H locs cells slots Q (F0 m 1396 ls []) := by
  obtain ⟨hx, hb, hml, hown, hts, hX, hbl, hK, hN9, hQ9⟩ := id B
  have hbA : ¬ AA s b := Nat.not_le.mpr hbl
  have hA : ∀ q, s.heap.size ≤ q → AA s q := fun _ h => h
  obtain ⟨a1, ea1⟩ : ∃ z : Int32, xs (nI i + 1).toNatClampNeg = z := ⟨_, rfl⟩
  obtain ⟨a2, ea2⟩ : ∃ z : Int32, xs (nI i + 2).toNatClampNeg = z := ⟨_, rfl⟩
  obtain ⟨a3, ea3⟩ : ∃ z : Int32, xs (nI i + 3).toNatClampNeg = z := ⟨_, rfl⟩
  obtain ⟨a4, ea4⟩ : ∃ z : Int32, xs (nI i + 4).toNatClampNeg = z := ⟨_, rfl⟩
  obtain ⟨r, pn', fot', rot', rat', vct', ost', lit', mo', o1, o2, o3⟩ := s_would (x := a1) (y := a2) (z := a3) (w := a4) (fot := fot) (rot := rot) (rat := rat) (vct := vct) (ost := ost) (lit := lit) hN hI
  refine lv_aload_n hx hb dL_1396 rfl (lv_at hl 2 rfl) ?_
  refine lv_aload_n hx hb dL_1397 rfl (lv_at hl 3 rfl) ?_
  refine lv_iload_n hx hb dL_1398 rfl (lv_at hl 0 rfl) ?_
  refine lv_iconst (v := 1) hx hb dL_1399 (by decide) ?_
  refine lv_iadd hx hb dL_1400 ?_
  refine va_sld hx hb hX hbl hbA hS (vin2 1 (by omega) (by omega)) dL_1401 ?_
  rw [ea1]
  refine lv_aload_n hx hb dL_1402 rfl (lv_at hl 3 rfl) ?_
  refine lv_iload_n hx hb dL_1403 rfl (lv_at hl 0 rfl) ?_
  refine lv_iconst (v := 2) hx hb dL_1404 (by decide) ?_
  refine lv_iadd hx hb dL_1405 ?_
  refine va_sld hx hb hX hbl hbA hS (vin2 2 (by omega) (by omega)) dL_1406 ?_
  rw [ea2]
  refine lv_aload_n hx hb dL_1407 rfl (lv_at hl 3 rfl) ?_
  refine lv_iload_n hx hb dL_1408 rfl (lv_at hl 0 rfl) ?_
  refine lv_iconst (v := 3) hx hb dL_1409 (by decide) ?_
  refine lv_iadd hx hb dL_1410 ?_
  refine va_sld hx hb hX hbl hbA hS (vin2 3 (by omega) (by omega)) dL_1411 ?_
  rw [ea3]
  refine lv_aload_n hx hb dL_1412 rfl (lv_at hl 3 rfl) ?_
  refine lv_iload_n hx hb dL_1413 rfl (lv_at hl 0 rfl) ?_
  refine lv_iconst (v := 4) hx hb dL_1414 (by decide) ?_
  refine lv_iadd hx hb dL_1415 ?_
  refine va_sld hx hb hX hbl hbA hS (vin2 4 (by omega) (by omega)) dL_1416 ?_
  rw [ea4]
  refine k_RIV (As := [.int a1, .int a2, .int a3, .int a4]) (rest := []) ⟨hx, hb, hml, hown, hts⟩ hK hP hD hS hA (wn := LW cy u ck qk mk P qm sm bsa bsb rd di rof pn' se fo ro ra vc os li fot' rot' rat' vct' ost' lit' mo) (FrS_c rfl) (cw_L_172 (d := 6) hts ⟨Nat.le_of_ble_eq_true rfl, Nat.le_of_ble_eq_true rfl⟩) 0 (ci := 11) rfl rfl rfl (c_X11_would l D cy (fun z => u z) (fun z => u (20 + z)) (fun z => u (40 + z)) (fun z => u (60 + z)) (fun z => u (80 + z)) (fun z => u (100 + z)) (fun z => u (120 + z)) (fun z => u (140 + z)) (fun z => u (160 + z)) (fun z => u (180 + z)) (fun z => u (200 + z)) (fun z => u (220 + z)) (fun z => u (240 + z)) (fun z => u (260 + z)) (fun z => u (280 + z)) (fun z => u (300 + z)) (fun z => u (320 + z)) (fun z => u (340 + z)) (fun z => u (360 + z)) (fun z => u (380 + z)) sm bsa bsb rd di rof pn se fo ro ra vc os li fot rot rat vct ost lit a1 a2 a3 a4 r pn' fot' rot' rat' vct' ost' lit' o1) rfl hl.1 (Nat.le_of_ble_eq_true rfl) ⟨by show cells + 0 ≤ 600000; omega, by show slots + 0 ≤ 7302250; omega⟩ dL_1417 (fun H locs hP hD hS => ?_)
  refine lv_aload_n hx hb dL_1420 rfl (lv_at hl 1 rfl) ?_
  refine lv_aload_n hx hb dL_1421 rfl (lv_at hl 3 rfl) ?_
  refine lv_iload_n hx hb dL_1422 rfl (lv_at hl 0 rfl) ?_
  refine lv_iconst (v := 1) hx hb dL_1423 (by decide) ?_
  refine lv_iadd hx hb dL_1424 ?_
  refine va_sld hx hb hX hbl hbA hS (vin2 1 (by omega) (by omega)) dL_1425 ?_
  rw [ea1]
  refine lv_aload_n hx hb dL_1426 rfl (lv_at hl 3 rfl) ?_
  refine lv_iload_n hx hb dL_1427 rfl (lv_at hl 0 rfl) ?_
  refine lv_iconst (v := 2) hx hb dL_1428 (by decide) ?_
  refine lv_iadd hx hb dL_1429 ?_
  refine va_sld hx hb hX hbl hbA hS (vin2 2 (by omega) (by omega)) dL_1430 ?_
  rw [ea2]
  refine lv_aload_n hx hb dL_1431 rfl (lv_at hl 3 rfl) ?_
  refine lv_iload_n hx hb dL_1432 rfl (lv_at hl 0 rfl) ?_
  refine lv_iconst (v := 3) hx hb dL_1433 (by decide) ?_
  refine lv_iadd hx hb dL_1434 ?_
  refine va_sld hx hb hX hbl hbA hS (vin2 3 (by omega) (by omega)) dL_1435 ?_
  rw [ea3]
  refine lv_aload_n hx hb dL_1436 rfl (lv_at hl 3 rfl) ?_
  refine lv_iload_n hx hb dL_1437 rfl (lv_at hl 0 rfl) ?_
  refine lv_iconst (v := 4) hx hb dL_1438 (by decide) ?_
  refine lv_iadd hx hb dL_1439 ?_
  refine va_sld hx hb hX hbl hbA hS (vin2 4 (by omega) (by omega)) dL_1440 ?_
  rw [ea4]
  refine k_RIV (As := [.int a1, .int a2, .int a3, .int a4]) (rest := [.int r]) ⟨hx, hb, hml, hown, hts⟩ hK hP hD hS hA (wn := LW cy u ck qk mk P qm sm bsa bsb rd di rof pn' se fo ro ra vc os li fot' rot' rat' vct' ost' lit' mo') (FrS_m rfl) (cw_L_175 (d := 6) hts ⟨Nat.le_of_ble_eq_true rfl, Nat.le_of_ble_eq_true rfl⟩) 0 (ci := 12) rfl rfl rfl (c_X12_would l D cy qm mo a1 a2 a3 a4 r mo' o2) rfl hl.1 (Nat.le_of_ble_eq_true rfl) ⟨by show cells + 0 ≤ 600000; omega, by show slots + 0 ≤ 7302250; omega⟩ dL_1441 (fun H locs hP hD hS => ?_)
  refine lv_icmp_eq (tgt := 1620) hx hb dL_1444 (by decide) (fun _ => ?_) (fun c1 => absurd rfl c1)
  exact kk _ _ _ _ _ _ _ _ _ _ _ _ _ _ _ _ _ _ _ _ _ _ _ _ _ _ _ _ _ (by omega) (by omega) o3 hP hD hS
set_option maxRecDepth 100000 in
theorem L_rateFor (B : LB p s m meth c b L xs D cy ck) (hl : lv_has ls 4 [(3, .int (nI i)), (2, .ref (qm 0)), (1, .ref (u 0)), (0, .ref b)]) (hi : i + 5 < L) (hL : L ≤ 3072) (hN : N ≤ 512) (hc : cells ≤ 500000 ∧ slots ≤ 7000000) (hI : LI N k P mk sm bsa pn fo ro ra vc os li mo) (hP : va_P D vwCl (LW cy u ck qk mk P qm sm bsa bsb rd di rof pn se fo ro ra vc os li fot rot rat vct ost lit mo) H) (hD : va_D (AA s) (LW cy u ck qk mk P qm sm bsa bsb rd di rof pn se fo ro ra vc os li fot rot rat vct ost lit mo)) (hS : va_S (AA s) s.heap H locs) (kk : LK p l e s m below meth c b D cy ck u qm Q cells slots ls N) : W p l e room_1 s m #[Value.ref b] below meth c H locs cells slots Q (F0 m 1449 ls []) := by
  obtain ⟨hx, hb, hml, hown, hts, hX, hbl, hK, hN9, hQ9⟩ := id B
  have hbA : ¬ AA s b := Nat.not_le.mpr hbl
  have hA : ∀ q, s.heap.size ≤ q → AA s q := fun _ h => h
  obtain ⟨a1, ea1⟩ : ∃ z : Int32, xs (nI i + 1).toNatClampNeg = z := ⟨_, rfl⟩
  obtain ⟨a2, ea2⟩ : ∃ z : Int32, xs (nI i + 2).toNatClampNeg = z := ⟨_, rfl⟩
  obtain ⟨a3, ea3⟩ : ∃ z : Int32, xs (nI i + 3).toNatClampNeg = z := ⟨_, rfl⟩
  obtain ⟨r, pn', fot', rot', rat', vct', ost', lit', mo', o1, o2, o3⟩ := s_rateFor (x := a1) (y := a2) (z := a3) (fot := fot) (rot := rot) (rat := rat) (vct := vct) (ost := ost) (lit := lit) hN hI
  refine lv_aload_n hx hb dL_1449 rfl (lv_at hl 2 rfl) ?_
  refine lv_aload_n hx hb dL_1450 rfl (lv_at hl 3 rfl) ?_
  refine lv_iload_n hx hb dL_1451 rfl (lv_at hl 0 rfl) ?_
  refine lv_iconst (v := 1) hx hb dL_1452 (by decide) ?_
  refine lv_iadd hx hb dL_1453 ?_
  refine va_sld hx hb hX hbl hbA hS (vin2 1 (by omega) (by omega)) dL_1454 ?_
  rw [ea1]
  refine lv_aload_n hx hb dL_1455 rfl (lv_at hl 3 rfl) ?_
  refine lv_iload_n hx hb dL_1456 rfl (lv_at hl 0 rfl) ?_
  refine lv_iconst (v := 2) hx hb dL_1457 (by decide) ?_
  refine lv_iadd hx hb dL_1458 ?_
  refine va_sld hx hb hX hbl hbA hS (vin2 2 (by omega) (by omega)) dL_1459 ?_
  rw [ea2]
  refine lv_aload_n hx hb dL_1460 rfl (lv_at hl 3 rfl) ?_
  refine lv_iload_n hx hb dL_1461 rfl (lv_at hl 0 rfl) ?_
  refine lv_iconst (v := 3) hx hb dL_1462 (by decide) ?_
  refine lv_iadd hx hb dL_1463 ?_
  refine va_sld hx hb hX hbl hbA hS (vin2 3 (by omega) (by omega)) dL_1464 ?_
  rw [ea3]
  refine k_RIV (As := [.int a1, .int a2, .int a3]) (rest := []) ⟨hx, hb, hml, hown, hts⟩ hK hP hD hS hA (wn := LW cy u ck qk mk P qm sm bsa bsb rd di rof pn' se fo ro ra vc os li fot' rot' rat' vct' ost' lit' mo) (FrS_c rfl) (cw_L_176 (d := 6) hts ⟨Nat.le_of_ble_eq_true rfl, Nat.le_of_ble_eq_true rfl⟩) 0 (ci := 11) rfl rfl rfl (c_X11_rateFor l D cy (fun z => u z) (fun z => u (20 + z)) (fun z => u (40 + z)) (fun z => u (60 + z)) (fun z => u (80 + z)) (fun z => u (100 + z)) (fun z => u (120 + z)) (fun z => u (140 + z)) (fun z => u (160 + z)) (fun z => u (180 + z)) (fun z => u (200 + z)) (fun z => u (220 + z)) (fun z => u (240 + z)) (fun z => u (260 + z)) (fun z => u (280 + z)) (fun z => u (300 + z)) (fun z => u (320 + z)) (fun z => u (340 + z)) (fun z => u (360 + z)) (fun z => u (380 + z)) sm bsa bsb rd di rof pn se fo ro ra vc os li fot rot rat vct ost lit a1 a2 a3 r pn' fot' rot' rat' vct' ost' lit' o1) rfl hl.1 (Nat.le_of_ble_eq_true rfl) ⟨by show cells + 0 ≤ 600000; omega, by show slots + 0 ≤ 7302250; omega⟩ dL_1465 (fun H locs hP hD hS => ?_)
  refine lv_aload_n hx hb dL_1468 rfl (lv_at hl 1 rfl) ?_
  refine lv_aload_n hx hb dL_1469 rfl (lv_at hl 3 rfl) ?_
  refine lv_iload_n hx hb dL_1470 rfl (lv_at hl 0 rfl) ?_
  refine lv_iconst (v := 1) hx hb dL_1471 (by decide) ?_
  refine lv_iadd hx hb dL_1472 ?_
  refine va_sld hx hb hX hbl hbA hS (vin2 1 (by omega) (by omega)) dL_1473 ?_
  rw [ea1]
  refine lv_aload_n hx hb dL_1474 rfl (lv_at hl 3 rfl) ?_
  refine lv_iload_n hx hb dL_1475 rfl (lv_at hl 0 rfl) ?_
  refine lv_iconst (v := 2) hx hb dL_1476 (by decide) ?_
  refine lv_iadd hx hb dL_1477 ?_
  refine va_sld hx hb hX hbl hbA hS (vin2 2 (by omega) (by omega)) dL_1478 ?_
  rw [ea2]
  refine lv_aload_n hx hb dL_1479 rfl (lv_at hl 3 rfl) ?_
  refine lv_iload_n hx hb dL_1480 rfl (lv_at hl 0 rfl) ?_
  refine lv_iconst (v := 3) hx hb dL_1481 (by decide) ?_
  refine lv_iadd hx hb dL_1482 ?_
  refine va_sld hx hb hX hbl hbA hS (vin2 3 (by omega) (by omega)) dL_1483 ?_
  rw [ea3]
  refine k_RIV (As := [.int a1, .int a2, .int a3]) (rest := [.int r]) ⟨hx, hb, hml, hown, hts⟩ hK hP hD hS hA (wn := LW cy u ck qk mk P qm sm bsa bsb rd di rof pn' se fo ro ra vc os li fot' rot' rat' vct' ost' lit' mo') (FrS_m rfl) (cw_L_179 (d := 6) hts ⟨Nat.le_of_ble_eq_true rfl, Nat.le_of_ble_eq_true rfl⟩) 0 (ci := 12) rfl rfl rfl (c_X12_rateFor l D cy qm mo a1 a2 a3 r mo' o2) rfl hl.1 (Nat.le_of_ble_eq_true rfl) ⟨by show cells + 0 ≤ 600000; omega, by show slots + 0 ≤ 7302250; omega⟩ dL_1484 (fun H locs hP hD hS => ?_)
  refine lv_icmp_eq (tgt := 1620) hx hb dL_1487 (by decide) (fun _ => ?_) (fun c1 => absurd rfl c1)
  exact kk _ _ _ _ _ _ _ _ _ _ _ _ _ _ _ _ _ _ _ _ _ _ _ _ _ _ _ _ _ (by omega) (by omega) o3 hP hD hS
set_option maxRecDepth 100000 in
theorem L_ifCut (B : LB p s m meth c b L xs D cy ck) (hl : lv_has ls 4 [(3, .int (nI i)), (2, .ref (qm 0)), (1, .ref (u 0)), (0, .ref b)]) (hi : i + 5 < L) (hL : L ≤ 3072) (hN : N ≤ 512) (hc : cells ≤ 500000 ∧ slots ≤ 7000000) (hI : LI N k P mk sm bsa pn fo ro ra vc os li mo) (hP : va_P D vwCl (LW cy u ck qk mk P qm sm bsa bsb rd di rof pn se fo ro ra vc os li fot rot rat vct ost lit mo) H) (hD : va_D (AA s) (LW cy u ck qk mk P qm sm bsa bsb rd di rof pn se fo ro ra vc os li fot rot rat vct ost lit mo)) (hS : va_S (AA s) s.heap H locs) (kk : LK p l e s m below meth c b D cy ck u qm Q cells slots ls N) : W p l e room_1 s m #[Value.ref b] below meth c H locs cells slots Q (F0 m 1492 ls []) := by
  obtain ⟨hx, hb, hml, hown, hts, hX, hbl, hK, hN9, hQ9⟩ := id B
  have hbA : ¬ AA s b := Nat.not_le.mpr hbl
  have hA : ∀ q, s.heap.size ≤ q → AA s q := fun _ h => h
  obtain ⟨a1, ea1⟩ : ∃ z : Int32, xs (nI i + 1).toNatClampNeg = z := ⟨_, rfl⟩
  obtain ⟨a2, ea2⟩ : ∃ z : Int32, xs (nI i + 2).toNatClampNeg = z := ⟨_, rfl⟩
  obtain ⟨r, pn', fot', rot', rat', vct', ost', lit', mo', o1, o2, o3⟩ := s_ifCut (x := a1) (y := a2) (fot := fot) (rot := rot) (rat := rat) (vct := vct) (ost := ost) (lit := lit) hN hI
  refine lv_aload_n hx hb dL_1492 rfl (lv_at hl 2 rfl) ?_
  refine lv_aload_n hx hb dL_1493 rfl (lv_at hl 3 rfl) ?_
  refine lv_iload_n hx hb dL_1494 rfl (lv_at hl 0 rfl) ?_
  refine lv_iconst (v := 1) hx hb dL_1495 (by decide) ?_
  refine lv_iadd hx hb dL_1496 ?_
  refine va_sld hx hb hX hbl hbA hS (vin2 1 (by omega) (by omega)) dL_1497 ?_
  rw [ea1]
  refine lv_aload_n hx hb dL_1498 rfl (lv_at hl 3 rfl) ?_
  refine lv_iload_n hx hb dL_1499 rfl (lv_at hl 0 rfl) ?_
  refine lv_iconst (v := 2) hx hb dL_1500 (by decide) ?_
  refine lv_iadd hx hb dL_1501 ?_
  refine va_sld hx hb hX hbl hbA hS (vin2 2 (by omega) (by omega)) dL_1502 ?_
  rw [ea2]
  refine k_RIV (As := [.int a1, .int a2]) (rest := []) ⟨hx, hb, hml, hown, hts⟩ hK hP hD hS hA (wn := LW cy u ck qk mk P qm sm bsa bsb rd di rof pn' se fo ro ra vc os li fot' rot' rat' vct' ost' lit' mo) (FrS_c rfl) (cw_L_180 (d := 6) hts ⟨Nat.le_of_ble_eq_true rfl, Nat.le_of_ble_eq_true rfl⟩) 0 (ci := 11) rfl rfl rfl (c_X11_ifCut l D cy (fun z => u z) (fun z => u (20 + z)) (fun z => u (40 + z)) (fun z => u (60 + z)) (fun z => u (80 + z)) (fun z => u (100 + z)) (fun z => u (120 + z)) (fun z => u (140 + z)) (fun z => u (160 + z)) (fun z => u (180 + z)) (fun z => u (200 + z)) (fun z => u (220 + z)) (fun z => u (240 + z)) (fun z => u (260 + z)) (fun z => u (280 + z)) (fun z => u (300 + z)) (fun z => u (320 + z)) (fun z => u (340 + z)) (fun z => u (360 + z)) (fun z => u (380 + z)) sm bsa bsb rd di rof pn se fo ro ra vc os li fot rot rat vct ost lit a1 a2 r pn' fot' rot' rat' vct' ost' lit' o1) rfl hl.1 (Nat.le_of_ble_eq_true rfl) ⟨by show cells + 0 ≤ 600000; omega, by show slots + 0 ≤ 7302250; omega⟩ dL_1503 (fun H locs hP hD hS => ?_)
  refine lv_aload_n hx hb dL_1506 rfl (lv_at hl 1 rfl) ?_
  refine lv_aload_n hx hb dL_1507 rfl (lv_at hl 3 rfl) ?_
  refine lv_iload_n hx hb dL_1508 rfl (lv_at hl 0 rfl) ?_
  refine lv_iconst (v := 1) hx hb dL_1509 (by decide) ?_
  refine lv_iadd hx hb dL_1510 ?_
  refine va_sld hx hb hX hbl hbA hS (vin2 1 (by omega) (by omega)) dL_1511 ?_
  rw [ea1]
  refine lv_aload_n hx hb dL_1512 rfl (lv_at hl 3 rfl) ?_
  refine lv_iload_n hx hb dL_1513 rfl (lv_at hl 0 rfl) ?_
  refine lv_iconst (v := 2) hx hb dL_1514 (by decide) ?_
  refine lv_iadd hx hb dL_1515 ?_
  refine va_sld hx hb hX hbl hbA hS (vin2 2 (by omega) (by omega)) dL_1516 ?_
  rw [ea2]
  refine k_RIV (As := [.int a1, .int a2]) (rest := [.int r]) ⟨hx, hb, hml, hown, hts⟩ hK hP hD hS hA (wn := LW cy u ck qk mk P qm sm bsa bsb rd di rof pn' se fo ro ra vc os li fot' rot' rat' vct' ost' lit' mo') (FrS_m rfl) (cw_L_183 (d := 5) hts ⟨Nat.le_of_ble_eq_true rfl, Nat.le_of_ble_eq_true rfl⟩) 0 (ci := 12) rfl rfl rfl (c_X12_ifCut l D cy qm mo a1 a2 r mo' o2) rfl hl.1 (Nat.le_of_ble_eq_true rfl) ⟨by show cells + 0 ≤ 600000; omega, by show slots + 0 ≤ 7302250; omega⟩ dL_1517 (fun H locs hP hD hS => ?_)
  refine lv_icmp_eq (tgt := 1620) hx hb dL_1520 (by decide) (fun _ => ?_) (fun c1 => absurd rfl c1)
  exact kk _ _ _ _ _ _ _ _ _ _ _ _ _ _ _ _ _ _ _ _ _ _ _ _ _ _ _ _ _ (by omega) (by omega) o3 hP hD hS
set_option maxRecDepth 100000 in
theorem L_airborne (B : LB p s m meth c b L xs D cy ck) (hl : lv_has ls 4 [(3, .int (nI i)), (2, .ref (qm 0)), (1, .ref (u 0)), (0, .ref b)]) (hi : i + 5 < L) (hL : L ≤ 3072) (hN : N ≤ 512) (hc : cells ≤ 500000 ∧ slots ≤ 7000000) (hI : LI N k P mk sm bsa pn fo ro ra vc os li mo) (hP : va_P D vwCl (LW cy u ck qk mk P qm sm bsa bsb rd di rof pn se fo ro ra vc os li fot rot rat vct ost lit mo) H) (hD : va_D (AA s) (LW cy u ck qk mk P qm sm bsa bsb rd di rof pn se fo ro ra vc os li fot rot rat vct ost lit mo)) (hS : va_S (AA s) s.heap H locs) (kk : LK p l e s m below meth c b D cy ck u qm Q cells slots ls N) : W p l e room_1 s m #[Value.ref b] below meth c H locs cells slots Q (F0 m 1525 ls []) := by
  obtain ⟨hx, hb, hml, hown, hts, hX, hbl, hK, hN9, hQ9⟩ := id B
  have hbA : ¬ AA s b := Nat.not_le.mpr hbl
  have hA : ∀ q, s.heap.size ≤ q → AA s q := fun _ h => h
  obtain ⟨a1, ea1⟩ : ∃ z : Int32, xs (nI i + 1).toNatClampNeg = z := ⟨_, rfl⟩
  obtain ⟨r, o1, o2, o3⟩ := s_airborne (x := a1)  hN hI
  refine lv_aload_n hx hb dL_1525 rfl (lv_at hl 2 rfl) ?_
  refine lv_aload_n hx hb dL_1526 rfl (lv_at hl 3 rfl) ?_
  refine lv_iload_n hx hb dL_1527 rfl (lv_at hl 0 rfl) ?_
  refine lv_iconst (v := 1) hx hb dL_1528 (by decide) ?_
  refine lv_iadd hx hb dL_1529 ?_
  refine va_sld hx hb hX hbl hbA hS (vin2 1 (by omega) (by omega)) dL_1530 ?_
  rw [ea1]
  refine k_ROV (As := [.int a1]) (rest := []) ⟨hx, hb, hml, hown, hts⟩ hK (P_c hP) (cw_L_184 (d := 2) hts ⟨Nat.le_of_ble_eq_true rfl, Nat.le_of_ble_eq_true rfl⟩) 0 (ci := 11) rfl rfl rfl (c_X11_airborne l D cy (fun z => u z) (fun z => u (20 + z)) (fun z => u (40 + z)) (fun z => u (60 + z)) (fun z => u (80 + z)) (fun z => u (100 + z)) (fun z => u (120 + z)) (fun z => u (140 + z)) (fun z => u (160 + z)) (fun z => u (180 + z)) (fun z => u (200 + z)) (fun z => u (220 + z)) (fun z => u (240 + z)) (fun z => u (260 + z)) (fun z => u (280 + z)) (fun z => u (300 + z)) (fun z => u (320 + z)) (fun z => u (340 + z)) (fun z => u (360 + z)) (fun z => u (380 + z)) sm bsa bsb rd di rof pn se fo ro ra vc os li fot rot rat vct ost lit a1 r o1) rfl hl.1 (Nat.le_of_ble_eq_true rfl) ⟨by show cells + 0 ≤ 600000; omega, by show slots + 0 ≤ 7302250; omega⟩ dL_1531 ?_
  refine lv_aload_n hx hb dL_1534 rfl (lv_at hl 1 rfl) ?_
  refine lv_aload_n hx hb dL_1535 rfl (lv_at hl 3 rfl) ?_
  refine lv_iload_n hx hb dL_1536 rfl (lv_at hl 0 rfl) ?_
  refine lv_iconst (v := 1) hx hb dL_1537 (by decide) ?_
  refine lv_iadd hx hb dL_1538 ?_
  refine va_sld hx hb hX hbl hbA hS (vin2 1 (by omega) (by omega)) dL_1539 ?_
  rw [ea1]
  refine k_ROV (As := [.int a1]) (rest := [.int r]) ⟨hx, hb, hml, hown, hts⟩ hK (P_m hP) (cw_L_187 (d := 3) hts ⟨Nat.le_of_ble_eq_true rfl, Nat.le_of_ble_eq_true rfl⟩) 0 (ci := 12) rfl rfl rfl (c_X12_airborne l D cy qm mo a1 r o2) rfl hl.1 (Nat.le_of_ble_eq_true rfl) ⟨by show cells + 0 ≤ 600000; omega, by show slots + 0 ≤ 7302250; omega⟩ dL_1540 ?_
  refine lv_icmp_eq (tgt := 1620) hx hb dL_1543 (by decide) (fun _ => ?_) (fun c1 => absurd rfl c1)
  exact kk _ _ _ _ _ _ _ _ _ _ _ _ _ _ _ _ _ _ _ _ _ _ _ _ _ _ _ _ _ (by omega) (by omega) o3 hP hD hS
set_option maxRecDepth 100000 in
theorem L_next (B : LB p s m meth c b L xs D cy ck) (hl : lv_has ls 4 [(3, .int (nI i)), (2, .ref (qm 0)), (1, .ref (u 0)), (0, .ref b)]) (hi : i + 5 < L) (hL : L ≤ 3072) (hN : N ≤ 512) (hc : cells ≤ 500000 ∧ slots ≤ 7000000) (hI : LI N k P mk sm bsa pn fo ro ra vc os li mo) (hP : va_P D vwCl (LW cy u ck qk mk P qm sm bsa bsb rd di rof pn se fo ro ra vc os li fot rot rat vct ost lit mo) H) (hD : va_D (AA s) (LW cy u ck qk mk P qm sm bsa bsb rd di rof pn se fo ro ra vc os li fot rot rat vct ost lit mo)) (hS : va_S (AA s) s.heap H locs) (kk : LK p l e s m below meth c b D cy ck u qm Q cells slots ls N) : W p l e room_1 s m #[Value.ref b] below meth c H locs cells slots Q (F0 m 1548 ls []) := by
  obtain ⟨hx, hb, hml, hown, hts, hX, hbl, hK, hN9, hQ9⟩ := id B
  have hbA : ¬ AA s b := Nat.not_le.mpr hbl
  have hA : ∀ q, s.heap.size ≤ q → AA s q := fun _ h => h
  obtain ⟨a1, ea1⟩ : ∃ z : Int32, xs (nI i + 1).toNatClampNeg = z := ⟨_, rfl⟩
  obtain ⟨r, o1, o2, o3⟩ := s_next (x := a1)  hN hI
  refine lv_aload_n hx hb dL_1548 rfl (lv_at hl 2 rfl) ?_
  refine lv_aload_n hx hb dL_1549 rfl (lv_at hl 3 rfl) ?_
  refine lv_iload_n hx hb dL_1550 rfl (lv_at hl 0 rfl) ?_
  refine lv_iconst (v := 1) hx hb dL_1551 (by decide) ?_
  refine lv_iadd hx hb dL_1552 ?_
  refine va_sld hx hb hX hbl hbA hS (vin2 1 (by omega) (by omega)) dL_1553 ?_
  rw [ea1]
  refine k_ROV (As := [.int a1]) (rest := []) ⟨hx, hb, hml, hown, hts⟩ hK (P_c hP) (cw_L_188 (d := 3) hts ⟨Nat.le_of_ble_eq_true rfl, Nat.le_of_ble_eq_true rfl⟩) 0 (ci := 11) rfl rfl rfl (c_X11_next l D cy (fun z => u z) (fun z => u (20 + z)) (fun z => u (40 + z)) (fun z => u (60 + z)) (fun z => u (80 + z)) (fun z => u (100 + z)) (fun z => u (120 + z)) (fun z => u (140 + z)) (fun z => u (160 + z)) (fun z => u (180 + z)) (fun z => u (200 + z)) (fun z => u (220 + z)) (fun z => u (240 + z)) (fun z => u (260 + z)) (fun z => u (280 + z)) (fun z => u (300 + z)) (fun z => u (320 + z)) (fun z => u (340 + z)) (fun z => u (360 + z)) (fun z => u (380 + z)) sm bsa bsb rd di rof pn se fo ro ra vc os li fot rot rat vct ost lit a1 r o1) rfl hl.1 (Nat.le_of_ble_eq_true rfl) ⟨by show cells + 0 ≤ 600000; omega, by show slots + 0 ≤ 7302250; omega⟩ dL_1554 ?_
  refine lv_aload_n hx hb dL_1557 rfl (lv_at hl 1 rfl) ?_
  refine lv_aload_n hx hb dL_1558 rfl (lv_at hl 3 rfl) ?_
  refine lv_iload_n hx hb dL_1559 rfl (lv_at hl 0 rfl) ?_
  refine lv_iconst (v := 1) hx hb dL_1560 (by decide) ?_
  refine lv_iadd hx hb dL_1561 ?_
  refine va_sld hx hb hX hbl hbA hS (vin2 1 (by omega) (by omega)) dL_1562 ?_
  rw [ea1]
  refine k_ROV (As := [.int a1]) (rest := [.int r]) ⟨hx, hb, hml, hown, hts⟩ hK (P_m hP) (cw_L_191 (d := 2) hts ⟨Nat.le_of_ble_eq_true rfl, Nat.le_of_ble_eq_true rfl⟩) 0 (ci := 12) rfl rfl rfl (c_X12_next l D cy qm mo a1 r o2) rfl hl.1 (Nat.le_of_ble_eq_true rfl) ⟨by show cells + 0 ≤ 600000; omega, by show slots + 0 ≤ 7302250; omega⟩ dL_1563 ?_
  refine lv_icmp_eq (tgt := 1620) hx hb dL_1566 (by decide) (fun _ => ?_) (fun c1 => absurd rfl c1)
  exact kk _ _ _ _ _ _ _ _ _ _ _ _ _ _ _ _ _ _ _ _ _ _ _ _ _ _ _ _ _ (by omega) (by omega) o3 hP hD hS
set_option maxRecDepth 100000 in
theorem L_count (B : LB p s m meth c b L xs D cy ck) (hl : lv_has ls 4 [(3, .int (nI i)), (2, .ref (qm 0)), (1, .ref (u 0)), (0, .ref b)]) (hi : i + 5 < L) (hL : L ≤ 3072) (hN : N ≤ 512) (hc : cells ≤ 500000 ∧ slots ≤ 7000000) (hI : LI N k P mk sm bsa pn fo ro ra vc os li mo) (hP : va_P D vwCl (LW cy u ck qk mk P qm sm bsa bsb rd di rof pn se fo ro ra vc os li fot rot rat vct ost lit mo) H) (hD : va_D (AA s) (LW cy u ck qk mk P qm sm bsa bsb rd di rof pn se fo ro ra vc os li fot rot rat vct ost lit mo)) (hS : va_S (AA s) s.heap H locs) (kk : LK p l e s m below meth c b D cy ck u qm Q cells slots ls N) : W p l e room_1 s m #[Value.ref b] below meth c H locs cells slots Q (F0 m 1571 ls []) := by
  obtain ⟨hx, hb, hml, hown, hts, hX, hbl, hK, hN9, hQ9⟩ := id B
  have hbA : ¬ AA s b := Nat.not_le.mpr hbl
  have hA : ∀ q, s.heap.size ≤ q → AA s q := fun _ h => h
  obtain ⟨a1, ea1⟩ : ∃ z : Int32, xs (nI i + 1).toNatClampNeg = z := ⟨_, rfl⟩
  obtain ⟨r, o1, o2, o3⟩ := s_count (x := a1)  hN hI
  refine lv_aload_n hx hb dL_1571 rfl (lv_at hl 2 rfl) ?_
  refine lv_aload_n hx hb dL_1572 rfl (lv_at hl 3 rfl) ?_
  refine lv_iload_n hx hb dL_1573 rfl (lv_at hl 0 rfl) ?_
  refine lv_iconst (v := 1) hx hb dL_1574 (by decide) ?_
  refine lv_iadd hx hb dL_1575 ?_
  refine va_sld hx hb hX hbl hbA hS (vin2 1 (by omega) (by omega)) dL_1576 ?_
  rw [ea1]
  refine k_ROV (As := [.int a1]) (rest := []) ⟨hx, hb, hml, hown, hts⟩ hK (P_c hP) (cw_L_192 (d := 3) hts ⟨Nat.le_of_ble_eq_true rfl, Nat.le_of_ble_eq_true rfl⟩) 0 (ci := 11) rfl rfl rfl (c_X11_count l D cy (fun z => u z) (fun z => u (20 + z)) (fun z => u (40 + z)) (fun z => u (60 + z)) (fun z => u (80 + z)) (fun z => u (100 + z)) (fun z => u (120 + z)) (fun z => u (140 + z)) (fun z => u (160 + z)) (fun z => u (180 + z)) (fun z => u (200 + z)) (fun z => u (220 + z)) (fun z => u (240 + z)) (fun z => u (260 + z)) (fun z => u (280 + z)) (fun z => u (300 + z)) (fun z => u (320 + z)) (fun z => u (340 + z)) (fun z => u (360 + z)) (fun z => u (380 + z)) sm bsa bsb rd di rof pn se fo ro ra vc os li fot rot rat vct ost lit a1 r o1) rfl hl.1 (Nat.le_of_ble_eq_true rfl) ⟨by show cells + 0 ≤ 600000; omega, by show slots + 0 ≤ 7302250; omega⟩ dL_1577 ?_
  refine lv_aload_n hx hb dL_1580 rfl (lv_at hl 1 rfl) ?_
  refine lv_aload_n hx hb dL_1581 rfl (lv_at hl 3 rfl) ?_
  refine lv_iload_n hx hb dL_1582 rfl (lv_at hl 0 rfl) ?_
  refine lv_iconst (v := 1) hx hb dL_1583 (by decide) ?_
  refine lv_iadd hx hb dL_1584 ?_
  refine va_sld hx hb hX hbl hbA hS (vin2 1 (by omega) (by omega)) dL_1585 ?_
  rw [ea1]
  refine k_ROV (As := [.int a1]) (rest := [.int r]) ⟨hx, hb, hml, hown, hts⟩ hK (P_m hP) (cw_L_195 (d := 4) hts ⟨Nat.le_of_ble_eq_true rfl, Nat.le_of_ble_eq_true rfl⟩) 0 (ci := 12) rfl rfl rfl (c_X12_count l D cy qm mo a1 r o2) rfl hl.1 (Nat.le_of_ble_eq_true rfl) ⟨by show cells + 0 ≤ 600000; omega, by show slots + 0 ≤ 7302250; omega⟩ dL_1586 ?_
  refine lv_icmp_eq (tgt := 1620) hx hb dL_1589 (by decide) (fun _ => ?_) (fun c1 => absurd rfl c1)
  exact kk _ _ _ _ _ _ _ _ _ _ _ _ _ _ _ _ _ _ _ _ _ _ _ _ _ _ _ _ _ (by omega) (by omega) o3 hP hD hS
end LC
