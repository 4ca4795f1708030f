/-! the law: cases -/
section LC
variable {p : Program} {l : Launch} {e : Env} {s : State} {m : MethodId} {below : List Frame} {meth : Method} {c : Code} {b L : Nat} {xs : Nat → Int32} {D : va_G} {cy : Nat → ClassId} {ck : ClassId} {u qm : Nat → Nat} {Q : State → Prop} {H : Heap} {locs : List Loc} {cells slots : Nat} {ls : Array Slot} {N k P i : Nat} {qk : Nat → Nat → Nat} {mk : Nat → Nat → Mem} {sm bsa bsb rd di rof pn se fo ro ra vc os li fot rot rat vct ost lit mo : Mem}
set_option maxRecDepth 100000 in
theorem L_feed (B : LB p s m meth c b L xs D cy ck) (hl : lv_has ls 4 [(3, .int (nI i)), (2, .ref (qm 0)), (1, .ref (u 0)), (0, .ref b)]) (hi : i + 5 < L) (hL : L ≤ 3072) (hN : N ≤ 512) (hc : cells ≤ 500000 ∧ slots ≤ 7000000) (hI : LI N k P mk sm bsa pn fo ro ra vc os li mo) (hP : va_P D vwCl (LW cy u ck qk mk P qm sm bsa bsb rd di rof pn se fo ro ra vc os li fot rot rat vct ost lit mo) H) (hD : va_D (AA s) (LW cy u ck qk mk P qm sm bsa bsb rd di rof pn se fo ro ra vc os li fot rot rat vct ost lit mo)) (hS : va_S (AA s) s.heap H locs) (kk : LK p l e s m below meth c b D cy ck u qm Q cells slots ls N) : W p l e room_1 s m #[Value.ref b] below meth c H locs cells slots Q (F0 m 232 ls []) := by
  obtain ⟨hx, hb, hml, hown, hts, hX, hbl, hK, hN9, hQ9⟩ := id B
  have hbA : ¬ AA s b := Nat.not_le.mpr hbl
  have hA : ∀ q, s.heap.size ≤ q → AA s q := fun _ h => h
  obtain ⟨a1, ea1⟩ : ∃ z : Int32, xs (nI i + 1).toNatClampNeg = z := ⟨_, rfl⟩
  obtain ⟨a2, ea2⟩ : ∃ z : Int32, xs (nI i + 2).toNatClampNeg = z := ⟨_, rfl⟩
  obtain ⟨a3, ea3⟩ : ∃ z : Int32, xs (nI i + 3).toNatClampNeg = z := ⟨_, rfl⟩
  obtain ⟨a4, ea4⟩ : ∃ z : Int32, xs (nI i + 4).toNatClampNeg = z := ⟨_, rfl⟩
  obtain ⟨a5, ea5⟩ : ∃ z : Int32, xs (nI i + 5).toNatClampNeg = z := ⟨_, rfl⟩
  obtain ⟨r, bsa', mo', o1, o2, o3⟩ := s_feed (x := a1) (y := a2) (z := a3) (w := a4) (t := a5)  hN hI
  refine lv_aload_n hx hb dL_232 rfl (lv_at hl 2 rfl) ?_
  refine lv_aload_n hx hb dL_233 rfl (lv_at hl 3 rfl) ?_
  refine lv_iload_n hx hb dL_234 rfl (lv_at hl 0 rfl) ?_
  refine lv_iconst (v := 1) hx hb dL_235 (by decide) ?_
  refine lv_iadd hx hb dL_236 ?_
  refine va_sld hx hb hX hbl hbA hS (vin2 1 (by omega) (by omega)) dL_237 ?_
  rw [ea1]
  refine lv_aload_n hx hb dL_238 rfl (lv_at hl 3 rfl) ?_
  refine lv_iload_n hx hb dL_239 rfl (lv_at hl 0 rfl) ?_
  refine lv_iconst (v := 2) hx hb dL_240 (by decide) ?_
  refine lv_iadd hx hb dL_241 ?_
  refine va_sld hx hb hX hbl hbA hS (vin2 2 (by omega) (by omega)) dL_242 ?_
  rw [ea2]
  refine lv_aload_n hx hb dL_243 rfl (lv_at hl 3 rfl) ?_
  refine lv_iload_n hx hb dL_244 rfl (lv_at hl 0 rfl) ?_
  refine lv_iconst (v := 3) hx hb dL_245 (by decide) ?_
  refine lv_iadd hx hb dL_246 ?_
  refine va_sld hx hb hX hbl hbA hS (vin2 3 (by omega) (by omega)) dL_247 ?_
  rw [ea3]
  refine lv_aload_n hx hb dL_248 rfl (lv_at hl 3 rfl) ?_
  refine lv_iload_n hx hb dL_249 rfl (lv_at hl 0 rfl) ?_
  refine lv_iconst (v := 4) hx hb dL_250 (by decide) ?_
  refine lv_iadd hx hb dL_251 ?_
  refine va_sld hx hb hX hbl hbA hS (vin2 4 (by omega) (by omega)) dL_252 ?_
  rw [ea4]
  refine lv_aload_n hx hb dL_253 rfl (lv_at hl 3 rfl) ?_
  refine lv_iload_n hx hb dL_254 rfl (lv_at hl 0 rfl) ?_
  refine lv_iconst (v := 5) hx hb dL_255 (by decide) ?_
  refine lv_iadd hx hb dL_256 ?_
  refine va_sld hx hb hX hbl hbA hS (vin2 5 (by omega) (by omega)) dL_257 ?_
  rw [ea5]
  refine k_RIV (As := [.int a1, .int a2, .int a3, .int a4, .int a5]) (rest := []) ⟨hx, hb, hml, hown, hts⟩ hK hP hD hS hA (wn := LW cy u ck qk mk P qm sm bsa' bsb rd di rof pn se fo ro ra vc os li fot rot rat vct ost lit mo) (FrS_c rfl) (cw_L_13 (d := 2) hts ⟨Nat.le_of_ble_eq_true rfl, Nat.le_of_ble_eq_true rfl⟩) 0 (ci := 11) rfl rfl rfl (c_X11_feed l D cy (fun z => u z) (fun z => u (20 + z)) (fun z => u (40 + z)) (fun z => u (60 + z)) (fun z => u (80 + z)) (fun z => u (100 + z)) (fun z => u (120 + z)) (fun z => u (140 + z)) (fun z => u (160 + z)) (fun z => u (180 + z)) (fun z => u (200 + z)) (fun z => u (220 + z)) (fun z => u (240 + z)) (fun z => u (260 + z)) (fun z => u (280 + z)) (fun z => u (300 + z)) (fun z => u (320 + z)) (fun z => u (340 + z)) (fun z => u (360 + z)) (fun z => u (380 + z)) sm bsa bsb rd di rof pn se fo ro ra vc os li fot rot rat vct ost lit a1 a2 a3 a4 a5 r bsa' o1) rfl hl.1 (Nat.le_of_ble_eq_true rfl) ⟨by show cells + 0 ≤ 600000; omega, by show slots + 0 ≤ 7302250; omega⟩ dL_258 (fun H locs hP hD hS => ?_)
  refine lv_aload_n hx hb dL_261 rfl (lv_at hl 1 rfl) ?_
  refine lv_aload_n hx hb dL_262 rfl (lv_at hl 3 rfl) ?_
  refine lv_iload_n hx hb dL_263 rfl (lv_at hl 0 rfl) ?_
  refine lv_iconst (v := 1) hx hb dL_264 (by decide) ?_
  refine lv_iadd hx hb dL_265 ?_
  refine va_sld hx hb hX hbl hbA hS (vin2 1 (by omega) (by omega)) dL_266 ?_
  rw [ea1]
  refine lv_aload_n hx hb dL_267 rfl (lv_at hl 3 rfl) ?_
  refine lv_iload_n hx hb dL_268 rfl (lv_at hl 0 rfl) ?_
  refine lv_iconst (v := 2) hx hb dL_269 (by decide) ?_
  refine lv_iadd hx hb dL_270 ?_
  refine va_sld hx hb hX hbl hbA hS (vin2 2 (by omega) (by omega)) dL_271 ?_
  rw [ea2]
  refine lv_aload_n hx hb dL_272 rfl (lv_at hl 3 rfl) ?_
  refine lv_iload_n hx hb dL_273 rfl (lv_at hl 0 rfl) ?_
  refine lv_iconst (v := 3) hx hb dL_274 (by decide) ?_
  refine lv_iadd hx hb dL_275 ?_
  refine va_sld hx hb hX hbl hbA hS (vin2 3 (by omega) (by omega)) dL_276 ?_
  rw [ea3]
  refine lv_aload_n hx hb dL_277 rfl (lv_at hl 3 rfl) ?_
  refine lv_iload_n hx hb dL_278 rfl (lv_at hl 0 rfl) ?_
  refine lv_iconst (v := 4) hx hb dL_279 (by decide) ?_
  refine lv_iadd hx hb dL_280 ?_
  refine va_sld hx hb hX hbl hbA hS (vin2 4 (by omega) (by omega)) dL_281 ?_
  rw [ea4]
  refine lv_aload_n hx hb dL_282 rfl (lv_at hl 3 rfl) ?_
  refine lv_iload_n hx hb dL_283 rfl (lv_at hl 0 rfl) ?_
  refine lv_iconst (v := 5) hx hb dL_284 (by decide) ?_
  refine lv_iadd hx hb dL_285 ?_
  refine va_sld hx hb hX hbl hbA hS (vin2 5 (by omega) (by omega)) dL_286 ?_
  rw [ea5]
  refine k_RIV (As := [.int a1, .int a2, .int a3, .int a4, .int a5]) (rest := [.int r]) ⟨hx, hb, hml, hown, hts⟩ hK hP hD hS hA (wn := LW cy u ck qk mk P qm sm bsa' bsb rd di rof pn se fo ro ra vc os li fot rot rat vct ost lit mo') (FrS_m rfl) (cw_L_17 (d := 1) hts ⟨Nat.le_of_ble_eq_true rfl, Nat.le_of_ble_eq_true rfl⟩) 0 (ci := 12) rfl rfl rfl (c_X12_feed l D cy qm mo a1 a2 a3 a4 a5 r mo' o2) rfl hl.1 (Nat.le_of_ble_eq_true rfl) ⟨by show cells + 0 ≤ 600000; omega, by show slots + 0 ≤ 7302250; omega⟩ dL_287 (fun H locs hP hD hS => ?_)
  refine lv_icmp_eq (tgt := 1620) hx hb dL_290 (by decide) (fun _ => ?_) (fun c1 => absurd rfl c1)
  exact kk _ _ _ _ _ _ _ _ _ _ _ _ _ _ _ _ _ _ _ _ _ _ _ _ _ _ _ _ _ (by omega) (by omega) o3 hP hD hS
set_option maxRecDepth 100000 in
theorem L_schedule (B : LB p s m meth c b L xs D cy ck) (hl : lv_has ls 4 [(3, .int (nI i)), (2, .ref (qm 0)), (1, .ref (u 0)), (0, .ref b)]) (hi : i + 5 < L) (hL : L ≤ 3072) (hN : N ≤ 512) (hc : cells ≤ 500000 ∧ slots ≤ 7000000) (hI : LI N k P mk sm bsa pn fo ro ra vc os li mo) (hP : va_P D vwCl (LW cy u ck qk mk P qm sm bsa bsb rd di rof pn se fo ro ra vc os li fot rot rat vct ost lit mo) H) (hD : va_D (AA s) (LW cy u ck qk mk P qm sm bsa bsb rd di rof pn se fo ro ra vc os li fot rot rat vct ost lit mo)) (hS : va_S (AA s) s.heap H locs) (kk : LK p l e s m below meth c b D cy ck u qm Q cells slots ls N) : W p l e room_1 s m #[Value.ref b] below meth c H locs cells slots Q (F0 m 295 ls []) := by
  obtain ⟨hx, hb, hml, hown, hts, hX, hbl, hK, hN9, hQ9⟩ := id B
  have hbA : ¬ AA s b := Nat.not_le.mpr hbl
  have hA : ∀ q, s.heap.size ≤ q → AA s q := fun _ h => h
  obtain ⟨a1, ea1⟩ : ∃ z : Int32, xs (nI i + 1).toNatClampNeg = z := ⟨_, rfl⟩
  obtain ⟨r, bsa', rd', rof', fo', ro', vc', os', li', mo', o1, o2, o3⟩ := s_schedule (x := a1) (rd := rd) (rof := rof) hN hI
  refine lv_aload_n hx hb dL_295 rfl (lv_at hl 2 rfl) ?_
  refine lv_aload_n hx hb dL_296 rfl (lv_at hl 3 rfl) ?_
  refine lv_iload_n hx hb dL_297 rfl (lv_at hl 0 rfl) ?_
  refine lv_iconst (v := 1) hx hb dL_298 (by decide) ?_
  refine lv_iadd hx hb dL_299 ?_
  refine va_sld hx hb hX hbl hbA hS (vin2 1 (by omega) (by omega)) dL_300 ?_
  rw [ea1]
  refine k_RIV (As := [.int a1]) (rest := []) ⟨hx, hb, hml, hown, hts⟩ hK hP hD hS hA (wn := LW cy u ck qk mk P qm sm bsa' bsb rd' di rof' pn se fo' ro' ra vc' os' li' fot rot rat vct ost lit mo) (FrS_c rfl) (cw_L_18 (d := 6) hts ⟨Nat.le_of_ble_eq_true rfl, Nat.le_of_ble_eq_true rfl⟩) 0 (ci := 11) rfl rfl rfl (c_X11_schedule l D cy (fun z => u z) (fun z => u (20 + z)) (fun z => u (40 + z)) (fun z => u (60 + z)) (fun z => u (80 + z)) (fun z => u (100 + z)) (fun z => u (120 + z)) (fun z => u (140 + z)) (fun z => u (160 + z)) (fun z => u (180 + z)) (fun z => u (200 + z)) (fun z => u (220 + z)) (fun z => u (240 + z)) (fun z => u (260 + z)) (fun z => u (280 + z)) (fun z => u (300 + z)) (fun z => u (320 + z)) (fun z => u (340 + z)) (fun z => u (360 + z)) (fun z => u (380 + z)) sm bsa bsb rd di rof pn se fo ro ra vc os li fot rot rat vct ost lit a1 r bsa' rd' rof' fo' ro' vc' os' li' o1) rfl hl.1 (Nat.le_of_ble_eq_true rfl) ⟨by show cells + 0 ≤ 600000; omega, by show slots + 0 ≤ 7302250; omega⟩ dL_301 (fun H locs hP hD hS => ?_)
  refine lv_aload_n hx hb dL_304 rfl (lv_at hl 1 rfl) ?_
  refine lv_aload_n hx hb dL_305 rfl (lv_at hl 3 rfl) ?_
  refine lv_iload_n hx hb dL_306 rfl (lv_at hl 0 rfl) ?_
  refine lv_iconst (v := 1) hx hb dL_307 (by decide) ?_
  refine lv_iadd hx hb dL_308 ?_
  refine va_sld hx hb hX hbl hbA hS (vin2 1 (by omega) (by omega)) dL_309 ?_
  rw [ea1]
  refine k_RIV (As := [.int a1]) (rest := [.int r]) ⟨hx, hb, hml, hown, hts⟩ hK hP hD hS hA (wn := LW cy u ck qk mk P qm sm bsa' bsb rd' di rof' pn se fo' ro' ra vc' os' li' fot rot rat vct ost lit mo') (FrS_m rfl) (cw_L_22 (d := 4) hts ⟨Nat.le_of_ble_eq_true rfl, Nat.le_of_ble_eq_true rfl⟩) 0 (ci := 12) rfl rfl rfl (c_X12_schedule l D cy qm mo a1 r mo' o2) rfl hl.1 (Nat.le_of_ble_eq_true rfl) ⟨by show cells + 0 ≤ 600000; omega, by show slots + 0 ≤ 7302250; omega⟩ dL_310 (fun H locs hP hD hS => ?_)
  refine lv_icmp_eq (tgt := 1620) hx hb dL_313 (by decide) (fun _ => ?_) (fun c1 => absurd rfl c1)
  exact kk _ _ _ _ _ _ _ _ _ _ _ _ _ _ _ _ _ _ _ _ _ _ _ _ _ _ _ _ _ (by omega) (by omega) o3 hP hD hS
set_option maxRecDepth 100000 in
theorem L_flight (B : LB p s m meth c b L xs D cy ck) (hl : lv_has ls 4 [(3, .int (nI i)), (2, .ref (qm 0)), (1, .ref (u 0)), (0, .ref b)]) (hi : i + 5 < L) (hL : L ≤ 3072) (hN : N ≤ 512) (hc : cells ≤ 500000 ∧ slots ≤ 7000000) (hI : LI N k P mk sm bsa pn fo ro ra vc os li mo) (hP : va_P D vwCl (LW cy u ck qk mk P qm sm bsa bsb rd di rof pn se fo ro ra vc os li fot rot rat vct ost lit mo) H) (hD : va_D (AA s) (LW cy u ck qk mk P qm sm bsa bsb rd di rof pn se fo ro ra vc os li fot rot rat vct ost lit mo)) (hS : va_S (AA s) s.heap H locs) (kk : LK p l e s m below meth c b D cy ck u qm Q cells slots ls N) : W p l e room_1 s m #[Value.ref b] below meth c H locs cells slots Q (F0 m 318 ls []) := by
  obtain ⟨hx, hb, hml, hown, hts, hX, hbl, hK, hN9, hQ9⟩ := id B
  have hbA : ¬ AA s b := Nat.not_le.mpr hbl
  have hA : ∀ q, s.heap.size ≤ q → AA s q := fun _ h => h
  obtain ⟨a1, ea1⟩ : ∃ z : Int32, xs (nI i + 1).toNatClampNeg = z := ⟨_, rfl⟩
  obtain ⟨a2, ea2⟩ : ∃ z : Int32, xs (nI i + 2).toNatClampNeg = z := ⟨_, rfl⟩
  obtain ⟨a3, ea3⟩ : ∃ z : Int32, xs (nI i + 3).toNatClampNeg = z := ⟨_, rfl⟩
  obtain ⟨a4, ea4⟩ : ∃ z : Int32, xs (nI i + 4).toNatClampNeg = z := ⟨_, rfl⟩
  obtain ⟨r, ro', mo', o1, o2, o3⟩ := s_flight (x := a1) (y := a2) (z := a3) (w := a4)  hN hI
  refine lv_aload_n hx hb dL_318 rfl (lv_at hl 2 rfl) ?_
  refine lv_aload_n hx hb dL_319 rfl (lv_at hl 3 rfl) ?_
  refine lv_iload_n hx hb dL_320 rfl (lv_at hl 0 rfl) ?_
  refine lv_iconst (v := 1) hx hb dL_321 (by decide) ?_
  refine lv_iadd hx hb dL_322 ?_
  refine va_sld hx hb hX hbl hbA hS (vin2 1 (by omega) (by omega)) dL_323 ?_
  rw [ea1]
  refine lv_aload_n hx hb dL_324 rfl (lv_at hl 3 rfl) ?_
  refine lv_iload_n hx hb dL_325 rfl (lv_at hl 0 rfl) ?_
  refine lv_iconst (v := 2) hx hb dL_326 (by decide) ?_
  refine lv_iadd hx hb dL_327 ?_
  refine va_sld hx hb hX hbl hbA hS (vin2 2 (by omega) (by omega)) dL_328 ?_
  rw [ea2]
  refine lv_aload_n hx hb dL_329 rfl (lv_at hl 3 rfl) ?_
  refine lv_iload_n hx hb dL_330 rfl (lv_at hl 0 rfl) ?_
  refine lv_iconst (v := 3) hx hb dL_331 (by decide) ?_
  refine lv_iadd hx hb dL_332 ?_
  refine va_sld hx hb hX hbl hbA hS (vin2 3 (by omega) (by omega)) dL_333 ?_
  rw [ea3]
  refine lv_aload_n hx hb dL_334 rfl (lv_at hl 3 rfl) ?_
  refine lv_iload_n hx hb dL_335 rfl (lv_at hl 0 rfl) ?_
  refine lv_iconst (v := 4) hx hb dL_336 (by decide) ?_
  refine lv_iadd hx hb dL_337 ?_
  refine va_sld hx hb hX hbl hbA hS (vin2 4 (by omega) (by omega)) dL_338 ?_
  rw [ea4]
  refine k_RIV (As := [.int a1, .int a2, .int a3, .int a4]) (rest := []) ⟨hx, hb, hml, hown, hts⟩ hK hP hD hS hA (wn := LW cy u ck qk mk P qm sm bsa bsb rd di rof pn se fo ro' ra vc os li fot rot rat vct ost lit mo) (FrS_c rfl) (cw_L_23 (d := 2) hts ⟨Nat.le_of_ble_eq_true rfl, Nat.le_of_ble_eq_true rfl⟩) 0 (ci := 11) rfl rfl rfl (c_X11_flight l D cy (fun z => u z) (fun z => u (20 + z)) (fun z => u (40 + z)) (fun z => u (60 + z)) (fun z => u (80 + z)) (fun z => u (100 + z)) (fun z => u (120 + z)) (fun z => u (140 + z)) (fun z => u (160 + z)) (fun z => u (180 + z)) (fun z => u (200 + z)) (fun z => u (220 + z)) (fun z => u (240 + z)) (fun z => u (260 + z)) (fun z => u (280 + z)) (fun z => u (300 + z)) (fun z => u (320 + z)) (fun z => u (340 + z)) (fun z => u (360 + z)) (fun z => u (380 + z)) sm bsa bsb rd di rof pn se fo ro ra vc os li fot rot rat vct ost lit a1 a2 a3 a4 r ro' o1) rfl hl.1 (Nat.le_of_ble_eq_true rfl) ⟨by show cells + 0 ≤ 600000; omega, by show slots + 0 ≤ 7302250; omega⟩ dL_339 (fun H locs hP hD hS => ?_)
  refine lv_aload_n hx hb dL_342 rfl (lv_at hl 1 rfl) ?_
  refine lv_aload_n hx hb dL_343 rfl (lv_at hl 3 rfl) ?_
  refine lv_iload_n hx hb dL_344 rfl (lv_at hl 0 rfl) ?_
  refine lv_iconst (v := 1) hx hb dL_345 (by decide) ?_
  refine lv_iadd hx hb dL_346 ?_
  refine va_sld hx hb hX hbl hbA hS (vin2 1 (by omega) (by omega)) dL_347 ?_
  rw [ea1]
  refine lv_aload_n hx hb dL_348 rfl (lv_at hl 3 rfl) ?_
  refine lv_iload_n hx hb dL_349 rfl (lv_at hl 0 rfl) ?_
  refine lv_iconst (v := 2) hx hb dL_350 (by decide) ?_
  refine lv_iadd hx hb dL_351 ?_
  refine va_sld hx hb hX hbl hbA hS (vin2 2 (by omega) (by omega)) dL_352 ?_
  rw [ea2]
  refine lv_aload_n hx hb dL_353 rfl (lv_at hl 3 rfl) ?_
  refine lv_iload_n hx hb dL_354 rfl (lv_at hl 0 rfl) ?_
  refine lv_iconst (v := 3) hx hb dL_355 (by decide) ?_
  refine lv_iadd hx hb dL_356 ?_
  refine va_sld hx hb hX hbl hbA hS (vin2 3 (by omega) (by omega)) dL_357 ?_
  rw [ea3]
  refine lv_aload_n hx hb dL_358 rfl (lv_at hl 3 rfl) ?_
  refine lv_iload_n hx hb dL_359 rfl (lv_at hl 0 rfl) ?_
  refine lv_iconst (v := 4) hx hb dL_360 (by decide) ?_
  refine lv_iadd hx hb dL_361 ?_
  refine va_sld hx hb hX hbl hbA hS (vin2 4 (by omega) (by omega)) dL_362 ?_
  rw [ea4]
  refine k_RIV (As := [.int a1, .int a2, .int a3, .int a4]) (rest := [.int r]) ⟨hx, hb, hml, hown, hts⟩ hK hP hD hS hA (wn := LW cy u ck qk mk P qm sm bsa bsb rd di rof pn se fo ro' ra vc os li fot rot rat vct ost lit mo') (FrS_m rfl) (cw_L_27 (d := 2) hts ⟨Nat.le_of_ble_eq_true rfl, Nat.le_of_ble_eq_true rfl⟩) 0 (ci := 12) rfl rfl rfl (c_X12_flight l D cy qm mo a1 a2 a3 a4 r mo' o2) rfl hl.1 (Nat.le_of_ble_eq_true rfl) ⟨by show cells + 0 ≤ 600000; omega, by show slots + 0 ≤ 7302250; omega⟩ dL_363 (fun H locs hP hD hS => ?_)
  refine lv_icmp_eq (tgt := 1620) hx hb dL_366 (by decide) (fun _ => ?_) (fun c1 => absurd rfl c1)
  exact kk _ _ _ _ _ _ _ _ _ _ _ _ _ _ _ _ _ _ _ _ _ _ _ _ _ _ _ _ _ (by omega) (by omega) o3 hP hD hS
set_option maxRecDepth 100000 in
theorem L_draws (B : LB p s m meth c b L xs D cy ck) (hl : lv_has ls 4 [(3, .int (nI i)), (2, .ref (qm 0)), (1, .ref (u 0)), (0, .ref b)]) (hi : i + 5 < L) (hL : L ≤ 3072) (hN : N ≤ 512) (hc : cells ≤ 500000 ∧ slots ≤ 7000000) (hI : LI N k P mk sm bsa pn fo ro ra vc os li mo) (hP : va_P D vwCl (LW cy u ck qk mk P qm sm bsa bsb rd di rof pn se fo ro ra vc os li fot rot rat vct ost lit mo) H) (hD : va_D (AA s) (LW cy u ck qk mk P qm sm bsa bsb rd di rof pn se fo ro ra vc os li fot rot rat vct ost lit mo)) (hS : va_S (AA s) s.heap H locs) (kk : LK p l e s m below meth c b D cy ck u qm Q cells slots ls N) : W p l e room_1 s m #[Value.ref b] below meth c H locs cells slots Q (F0 m 371 ls []) := by
  obtain ⟨hx, hb, hml, hown, hts, hX, hbl, hK, hN9, hQ9⟩ := id B
  have hbA : ¬ AA s b := Nat.not_le.mpr hbl
  have hA : ∀ q, s.heap.size ≤ q → AA s q := fun _ h => h
  obtain ⟨a1, ea1⟩ : ∃ z : Int32, xs (nI i + 1).toNatClampNeg = z := ⟨_, rfl⟩
  obtain ⟨a2, ea2⟩ : ∃ z : Int32, xs (nI i + 2).toNatClampNeg = z := ⟨_, rfl⟩
  obtain ⟨r, di', rof', fo', ro', vc', os', li', mo', o1, o2, o3⟩ := s_draws (x := a1) (y := a2) (di := di) (rof := rof) hN hI
  refine lv_aload_n hx hb dL_371 rfl (lv_at hl 2 rfl) ?_
  refine lv_aload_n hx hb dL_372 rfl (lv_at hl 3 rfl) ?_
  refine lv_iload_n hx hb dL_373 rfl (lv_at hl 0 rfl) ?_
  refine lv_iconst (v := 1) hx hb dL_374 (by decide) ?_
  refine lv_iadd hx hb dL_375 ?_
  refine va_sld hx hb hX hbl hbA hS (vin2 1 (by omega) (by omega)) dL_376 ?_
  rw [ea1]
  refine lv_aload_n hx hb dL_377 rfl (lv_at hl 3 rfl) ?_
  refine lv_iload_n hx hb dL_378 rfl (lv_at hl 0 rfl) ?_
  refine lv_iconst (v := 2) hx hb dL_379 (by decide) ?_
  refine lv_iadd hx hb dL_380 ?_
  refine va_sld hx hb hX hbl hbA hS (vin2 2 (by omega) (by omega)) dL_381 ?_
  rw [ea2]
  refine k_RIV (As := [.int a1, .int a2]) (rest := []) ⟨hx, hb, hml, hown, hts⟩ hK hP hD hS hA (wn := LW cy u ck qk mk P qm sm bsa bsb rd di' rof' pn se fo' ro' ra vc' os' li' fot rot rat vct ost lit mo) (FrS_c rfl) (cw_L_28 (d := 4) hts ⟨Nat.le_of_ble_eq_true rfl, Nat.le_of_ble_eq_true rfl⟩) 0 (ci := 11) rfl rfl rfl (c_X11_draws l D cy (fun z => u z) (fun z => u (20 + z)) (fun z => u (40 + z)) (fun z => u (60 + z)) (fun z => u (80 + z)) (fun z => u (100 + z)) (fun z => u (120 + z)) (fun z => u (140 + z)) (fun z => u (160 + z)) (fun z => u (180 + z)) (fun z => u (200 + z)) (fun z => u (220 + z)) (fun z => u (240 + z)) (fun z => u (260 + z)) (fun z => u (280 + z)) (fun z => u (300 + z)) (fun z => u (320 + z)) (fun z => u (340 + z)) (fun z => u (360 + z)) (fun z => u (380 + z)) sm bsa bsb rd di rof pn se fo ro ra vc os li fot rot rat vct ost lit a1 a2 r di' rof' fo' ro' vc' os' li' o1) rfl hl.1 (Nat.le_of_ble_eq_true rfl) ⟨by show cells + 0 ≤ 600000; omega, by show slots + 0 ≤ 7302250; omega⟩ dL_382 (fun H locs hP hD hS => ?_)
  refine lv_aload_n hx hb dL_385 rfl (lv_at hl 1 rfl) ?_
  refine lv_aload_n hx hb dL_386 rfl (lv_at hl 3 rfl) ?_
  refine lv_iload_n hx hb dL_387 rfl (lv_at hl 0 rfl) ?_
  refine lv_iconst (v := 1) hx hb dL_388 (by decide) ?_
  refine lv_iadd hx hb dL_389 ?_
  refine va_sld hx hb hX hbl hbA hS (vin2 1 (by omega) (by omega)) dL_390 ?_
  rw [ea1]
  refine lv_aload_n hx hb dL_391 rfl (lv_at hl 3 rfl) ?_
  refine lv_iload_n hx hb dL_392 rfl (lv_at hl 0 rfl) ?_
  refine lv_iconst (v := 2) hx hb dL_393 (by decide) ?_
  refine lv_iadd hx hb dL_394 ?_
  refine va_sld hx hb hX hbl hbA hS (vin2 2 (by omega) (by omega)) dL_395 ?_
  rw [ea2]
  refine k_RIV (As := [.int a1, .int a2]) (rest := [.int r]) ⟨hx, hb, hml, hown, hts⟩ hK hP hD hS hA (wn := LW cy u ck qk mk P qm sm bsa bsb rd di' rof' pn se fo' ro' ra vc' os' li' fot rot rat vct ost lit mo') (FrS_m rfl) (cw_L_32 (d := 2) hts ⟨Nat.le_of_ble_eq_true rfl, Nat.le_of_ble_eq_true rfl⟩) 0 (ci := 12) rfl rfl rfl (c_X12_draws l D cy qm mo a1 a2 r mo' o2) rfl hl.1 (Nat.le_of_ble_eq_true rfl) ⟨by show cells + 0 ≤ 600000; omega, by show slots + 0 ≤ 7302250; omega⟩ dL_396 (fun H locs hP hD hS => ?_)
  refine lv_icmp_eq (tgt := 1620) hx hb dL_399 (by decide) (fun _ => ?_) (fun c1 => absurd rfl c1)
  exact kk _ _ _ _ _ _ _ _ _ _ _ _ _ _ _ _ _ _ _ _ _ _ _ _ _ _ _ _ _ (by omega) (by omega) o3 hP hD hS
set_option maxRecDepth 100000 in
theorem L_letter (B : LB p s m meth c b L xs D cy ck) (hl : lv_has ls 4 [(3, .int (nI i)), (2, .ref (qm 0)), (1, .ref (u 0)), (0, .ref b)]) (hi : i + 5 < L) (hL : L ≤ 3072) (hN : N ≤ 512) (hc : cells ≤ 500000 ∧ slots ≤ 7000000) (hI : LI N k P mk sm bsa pn fo ro ra vc os li mo) (hP : va_P D vwCl (LW cy u ck qk mk P qm sm bsa bsb rd di rof pn se fo ro ra vc os li fot rot rat vct ost lit mo) H) (hD : va_D (AA s) (LW cy u ck qk mk P qm sm bsa bsb rd di rof pn se fo ro ra vc os li fot rot rat vct ost lit mo)) (hS : va_S (AA s) s.heap H locs) (kk : LK p l e s m below meth c b D cy ck u qm Q cells slots ls N) : W p l e room_1 s m #[Value.ref b] below meth c H locs cells slots Q (F0 m 404 ls []) := by
  obtain ⟨hx, hb, hml, hown, hts, hX, hbl, hK, hN9, hQ9⟩ := id B
  have hbA : ¬ AA s b := Nat.not_le.mpr hbl
  have hA : ∀ q, s.heap.size ≤ q → AA s q := fun _ h => h
  obtain ⟨a1, ea1⟩ : ∃ z : Int32, xs (nI i + 1).toNatClampNeg = z := ⟨_, rfl⟩
  obtain ⟨r, bsb', mo', o1, o2, o3⟩ := s_letter (x := a1) (bsb := bsb) hN hI
  refine lv_aload_n hx hb dL_404 rfl (lv_at hl 2 rfl) ?_
  refine lv_aload_n hx hb dL_405 rfl (lv_at hl 3 rfl) ?_
  refine lv_iload_n hx hb dL_406 rfl (lv_at hl 0 rfl) ?_
  refine lv_iconst (v := 1) hx hb dL_407 (by decide) ?_
  refine lv_iadd hx hb dL_408 ?_
  refine va_sld hx hb hX hbl hbA hS (vin2 1 (by omega) (by omega)) dL_409 ?_
  rw [ea1]
  refine k_RIV (As := [.int a1]) (rest := []) ⟨hx, hb, hml, hown, hts⟩ hK hP hD hS hA (wn := LW cy u ck qk mk P qm sm bsa bsb' rd di rof pn se fo ro ra vc os li fot rot rat vct ost lit mo) (FrS_c rfl) (cw_L_33 (d := 3) hts ⟨Nat.le_of_ble_eq_true rfl, Nat.le_of_ble_eq_true rfl⟩) 0 (ci := 11) rfl rfl rfl (c_X11_letter l D cy (fun z => u z) (fun z => u (20 + z)) (fun z => u (40 + z)) (fun z => u (60 + z)) (fun z => u (80 + z)) (fun z => u (100 + z)) (fun z => u (120 + z)) (fun z => u (140 + z)) (fun z => u (160 + z)) (fun z => u (180 + z)) (fun z => u (200 + z)) (fun z => u (220 + z)) (fun z => u (240 + z)) (fun z => u (260 + z)) (fun z => u (280 + z)) (fun z => u (300 + z)) (fun z => u (320 + z)) (fun z => u (340 + z)) (fun z => u (360 + z)) (fun z => u (380 + z)) sm bsa bsb rd di rof pn se fo ro ra vc os li fot rot rat vct ost lit a1 r bsb' o1) rfl hl.1 (Nat.le_of_ble_eq_true rfl) ⟨by show cells + 0 ≤ 600000; omega, by show slots + 0 ≤ 7302250; omega⟩ dL_410 (fun H locs hP hD hS => ?_)
  refine lv_aload_n hx hb dL_413 rfl (lv_at hl 1 rfl) ?_
  refine lv_aload_n hx hb dL_414 rfl (lv_at hl 3 rfl) ?_
  refine lv_iload_n hx hb dL_415 rfl (lv_at hl 0 rfl) ?_
  refine lv_iconst (v := 1) hx hb dL_416 (by decide) ?_
  refine lv_iadd hx hb dL_417 ?_
  refine va_sld hx hb hX hbl hbA hS (vin2 1 (by omega) (by omega)) dL_418 ?_
  rw [ea1]
  refine k_RIV (As := [.int a1]) (rest := [.int r]) ⟨hx, hb, hml, hown, hts⟩ hK hP hD hS hA (wn := LW cy u ck qk mk P qm sm bsa bsb' rd di rof pn se fo ro ra vc os li fot rot rat vct ost lit mo') (FrS_m rfl) (cw_L_36 (d := 2) hts ⟨Nat.le_of_ble_eq_true rfl, Nat.le_of_ble_eq_true rfl⟩) 0 (ci := 12) rfl rfl rfl (c_X12_letter l D cy qm mo a1 r mo' o2) rfl hl.1 (Nat.le_of_ble_eq_true rfl) ⟨by show cells + 0 ≤ 600000; omega, by show slots + 0 ≤ 7302250; omega⟩ dL_419 (fun H locs hP hD hS => ?_)
  refine lv_icmp_eq (tgt := 1620) hx hb dL_422 (by decide) (fun _ => ?_) (fun c1 => absurd rfl c1)
  exact kk _ _ _ _ _ _ _ _ _ _ _ _ _ _ _ _ _ _ _ _ _ _ _ _ _ _ _ _ _ (by omega) (by omega) o3 hP hD hS
set_option maxRecDepth 100000 in
theorem L_rate (B : LB p s m meth c b L xs D cy ck) (hl : lv_has ls 4 [(3, .int (nI i)), (2, .ref (qm 0)), (1, .ref (u 0)), (0, .ref b)]) (hi : i + 5 < L) (hL : L ≤ 3072) (hN : N ≤ 512) (hc : cells ≤ 500000 ∧ slots ≤ 7000000) (hI : LI N k P mk sm bsa pn fo ro ra vc os li mo) (hP : va_P D vwCl (LW cy u ck qk mk P qm sm bsa bsb rd di rof pn se fo ro ra vc os li fot rot rat vct ost lit mo) H) (hD : va_D (AA s) (LW cy u ck qk mk P qm sm bsa bsb rd di rof pn se fo ro ra vc os li fot rot rat vct ost lit mo)) (hS : va_S (AA s) s.heap H locs) (kk : LK p l e s m below meth c b D cy ck u qm Q cells slots ls N) : W p l e room_1 s m #[Value.ref b] below meth c H locs cells slots Q (F0 m 427 ls []) := by
  obtain ⟨hx, hb, hml, hown, hts, hX, hbl, hK, hN9, hQ9⟩ := id B
  have hbA : ¬ AA s b := Nat.not_le.mpr hbl
  have hA : ∀ q, s.heap.size ≤ q → AA s q := fun _ h => h
  obtain ⟨a1, ea1⟩ : ∃ z : Int32, xs (nI i + 1).toNatClampNeg = z := ⟨_, rfl⟩
  obtain ⟨a2, ea2⟩ : ∃ z : Int32, xs (nI i + 2).toNatClampNeg = z := ⟨_, rfl⟩
  obtain ⟨r, ra', mo', o1, o2, o3⟩ := s_rate (x := a1) (y := a2)  hN hI
  refine lv_aload_n hx hb dL_427 rfl (lv_at hl 2 rfl) ?_
  refine lv_aload_n hx hb dL_428 rfl (lv_at hl 3 rfl) ?_
  refine lv_iload_n hx hb dL_429 rfl (lv_at hl 0 rfl) ?_
  refine lv_iconst (v := 1) hx hb dL_430 (by decide) ?_
  refine lv_iadd hx hb dL_431 ?_
  refine va_sld hx hb hX hbl hbA hS (vin2 1 (by omega) (by omega)) dL_432 ?_
  rw [ea1]
  refine lv_aload_n hx hb dL_433 rfl (lv_at hl 3 rfl) ?_
  refine lv_iload_n hx hb dL_434 rfl (lv_at hl 0 rfl) ?_
  refine lv_iconst (v := 2) hx hb dL_435 (by decide) ?_
  refine lv_iadd hx hb dL_436 ?_
  refine va_sld hx hb hX hbl hbA hS (vin2 2 (by omega) (by omega)) dL_437 ?_
  rw [ea2]
  refine k_RIV (As := [.int a1, .int a2]) (rest := []) ⟨hx, hb, hml, hown, hts⟩ hK hP hD hS hA (wn := LW cy u ck qk mk P qm sm bsa bsb rd di rof pn se fo ro ra' vc os li fot rot rat vct ost lit mo) (FrS_c rfl) (cw_L_37 (d := 2) hts ⟨Nat.le_of_ble_eq_true rfl, Nat.le_of_ble_eq_true rfl⟩) 0 (ci := 11) rfl rfl rfl (c_X11_rate l D cy (fun z => u z) (fun z => u (20 + z)) (fun z => u (40 + z)) (fun z => u (60 + z)) (fun z => u (80 + z)) (fun z => u (100 + z)) (fun z => u (120 + z)) (fun z => u (140 + z)) (fun z => u (160 + z)) (fun z => u (180 + z)) (fun z => u (200 + z)) (fun z => u (220 + z)) (fun z => u (240 + z)) (fun z => u (260 + z)) (fun z => u (280 + z)) (fun z => u (300 + z)) (fun z => u (320 + z)) (fun z => u (340 + z)) (fun z => u (360 + z)) (fun z => u (380 + z)) sm bsa bsb rd di rof pn se fo ro ra vc os li fot rot rat vct ost lit a1 a2 r ra' o1) rfl hl.1 (Nat.le_of_ble_eq_true rfl) ⟨by show cells + 0 ≤ 600000; omega, by show slots + 0 ≤ 7302250; omega⟩ dL_438 (fun H locs hP hD hS => ?_)
  refine lv_aload_n hx hb dL_441 rfl (lv_at hl 1 rfl) ?_
  refine lv_aload_n hx hb dL_442 rfl (lv_at hl 3 rfl) ?_
  refine lv_iload_n hx hb dL_443 rfl (lv_at hl 0 rfl) ?_
  refine lv_iconst (v := 1) hx hb dL_444 (by decide) ?_
  refine lv_iadd hx hb dL_445 ?_
  refine va_sld hx hb hX hbl hbA hS (vin2 1 (by omega) (by omega)) dL_446 ?_
  rw [ea1]
  refine lv_aload_n hx hb dL_447 rfl (lv_at hl 3 rfl) ?_
  refine lv_iload_n hx hb dL_448 rfl (lv_at hl 0 rfl) ?_
  refine lv_iconst (v := 2) hx hb dL_449 (by decide) ?_
  refine lv_iadd hx hb dL_450 ?_
  refine va_sld hx hb hX hbl hbA hS (vin2 2 (by omega) (by omega)) dL_451 ?_
  rw [ea2]
  refine k_RIV (As := [.int a1, .int a2]) (rest := [.int r]) ⟨hx, hb, hml, hown, hts⟩ hK hP hD hS hA (wn := LW cy u ck qk mk P qm sm bsa bsb rd di rof pn se fo ro ra' vc os li fot rot rat vct ost lit mo') (FrS_m rfl) (cw_L_40 (d := 1) hts ⟨Nat.le_of_ble_eq_true rfl, Nat.le_of_ble_eq_true rfl⟩) 0 (ci := 12) rfl rfl rfl (c_X12_rate l D cy qm mo a1 a2 r mo' o2) rfl hl.1 (Nat.le_of_ble_eq_true rfl) ⟨by show cells + 0 ≤ 600000; omega, by show slots + 0 ≤ 7302250; omega⟩ dL_452 (fun H locs hP hD hS => ?_)
  refine lv_icmp_eq (tgt := 1620) hx hb dL_455 (by decide) (fun _ => ?_) (fun c1 => absurd rfl c1)
  exact kk _ _ _ _ _ _ _ _ _ _ _ _ _ _ _ _ _ _ _ _ _ _ _ _ _ _ _ _ _ (by omega) (by omega) o3 hP hD hS
set_option maxRecDepth 100000 in
theorem L_storm (B : LB p s m meth c b L xs D cy ck) (hl : lv_has ls 4 [(3, .int (nI i)), (2, .ref (qm 0)), (1, .ref (u 0)), (0, .ref b)]) (hi : i + 5 < L) (hL : L ≤ 3072) (hN : N ≤ 512) (hc : cells ≤ 500000 ∧ slots ≤ 7000000) (hI : LI N k P mk sm bsa pn fo ro ra vc os li mo) (hP : va_P D vwCl (LW cy u ck qk mk P qm sm bsa bsb rd di rof pn se fo ro ra vc os li fot rot rat vct ost lit mo) H) (hD : va_D (AA s) (LW cy u ck qk mk P qm sm bsa bsb rd di rof pn se fo ro ra vc os li fot rot rat vct ost lit mo)) (hS : va_S (AA s) s.heap H locs) (kk : LK p l e s m below meth c b D cy ck u qm Q cells slots ls N) : W p l e room_1 s m #[Value.ref b] below meth c H locs cells slots Q (F0 m 460 ls []) := by
  obtain ⟨hx, hb, hml, hown, hts, hX, hbl, hK, hN9, hQ9⟩ := id B
  have hbA : ¬ AA s b := Nat.not_le.mpr hbl
  have hA : ∀ q, s.heap.size ≤ q → AA s q := fun _ h => h
  obtain ⟨a1, ea1⟩ : ∃ z : Int32, xs (nI i + 1).toNatClampNeg = z := ⟨_, rfl⟩
  obtain ⟨a2, ea2⟩ : ∃ z : Int32, xs (nI i + 2).toNatClampNeg = z := ⟨_, rfl⟩
  obtain ⟨a3, ea3⟩ : ∃ z : Int32, xs (nI i + 3).toNatClampNeg = z := ⟨_, rfl⟩
  obtain ⟨a4, ea4⟩ : ∃ z : Int32, xs (nI i + 4).toNatClampNeg = z := ⟨_, rfl⟩
  obtain ⟨r, di', ra', mo', o1, o2, o3⟩ := s_storm (x := a1) (y := a2) (z := a3) (w := a4) (di := di) hN hI
  refine lv_aload_n hx hb dL_460 rfl (lv_at hl 2 rfl) ?_
  refine lv_aload_n hx hb dL_461 rfl (lv_at hl 3 rfl) ?_
  refine lv_iload_n hx hb dL_462 rfl (lv_at hl 0 rfl) ?_
  refine lv_iconst (v := 1) hx hb dL_463 (by decide) ?_
  refine lv_iadd hx hb dL_464 ?_
  refine va_sld hx hb hX hbl hbA hS (vin2 1 (by omega) (by omega)) dL_465 ?_
  rw [ea1]
  refine lv_aload_n hx hb dL_466 rfl (lv_at hl 3 rfl) ?_
  refine lv_iload_n hx hb dL_467 rfl (lv_at hl 0 rfl) ?_
  refine lv_iconst (v := 2) hx hb dL_468 (by decide) ?_
  refine lv_iadd hx hb dL_469 ?_
  refine va_sld hx hb hX hbl hbA hS (vin2 2 (by omega) (by omega)) dL_470 ?_
  rw [ea2]
  refine lv_aload_n hx hb dL_471 rfl (lv_at hl 3 rfl) ?_
  refine lv_iload_n hx hb dL_472 rfl (lv_at hl 0 rfl) ?_
  refine lv_iconst (v := 3) hx hb dL_473 (by decide) ?_
  refine lv_iadd hx hb dL_474 ?_
  refine va_sld hx hb hX hbl hbA hS (vin2 3 (by omega) (by omega)) dL_475 ?_
  rw [ea3]
  refine lv_aload_n hx hb dL_476 rfl (lv_at hl 3 rfl) ?_
  refine lv_iload_n hx hb dL_477 rfl (lv_at hl 0 rfl) ?_
  refine lv_iconst (v := 4) hx hb dL_478 (by decide) ?_
  refine lv_iadd hx hb dL_479 ?_
  refine va_sld hx hb hX hbl hbA hS (vin2 4 (by omega) (by omega)) dL_480 ?_
  rw [ea4]
  refine k_RIV (As := [.int a1, .int a2, .int a3, .int a4]) (rest := []) ⟨hx, hb, hml, hown, hts⟩ hK hP hD hS hA (wn := LW cy u ck qk mk P qm sm bsa bsb rd di' rof pn se fo ro ra' vc os li fot rot rat vct ost lit mo) (FrS_c rfl) (cw_L_41 (d := 2) hts ⟨Nat.le_of_ble_eq_true rfl, Nat.le_of_ble_eq_true rfl⟩) 0 (ci := 11) rfl rfl rfl (c_X11_storm l D cy (fun z => u z) (fun z => u (20 + z)) (fun z => u (40 + z)) (fun z => u (60 + z)) (fun z => u (80 + z)) (fun z => u (100 + z)) (fun z => u (120 + z)) (fun z => u (140 + z)) (fun z => u (160 + z)) (fun z => u (180 + z)) (fun z => u (200 + z)) (fun z => u (220 + z)) (fun z => u (240 + z)) (fun z => u (260 + z)) (fun z => u (280 + z)) (fun z => u (300 + z)) (fun z => u (320 + z)) (fun z => u (340 + z)) (fun z => u (360 + z)) (fun z => u (380 + z)) sm bsa bsb rd di rof pn se fo ro ra vc os li fot rot rat vct ost lit a1 a2 a3 a4 r di' ra' o1) rfl hl.1 (Nat.le_of_ble_eq_true rfl) ⟨by show cells + 0 ≤ 600000; omega, by show slots + 0 ≤ 7302250; omega⟩ dL_481 (fun H locs hP hD hS => ?_)
  refine lv_aload_n hx hb dL_484 rfl (lv_at hl 1 rfl) ?_
  refine lv_aload_n hx hb dL_485 rfl (lv_at hl 3 rfl) ?_
  refine lv_iload_n hx hb dL_486 rfl (lv_at hl 0 rfl) ?_
  refine lv_iconst (v := 1) hx hb dL_487 (by decide) ?_
  refine lv_iadd hx hb dL_488 ?_
  refine va_sld hx hb hX hbl hbA hS (vin2 1 (by omega) (by omega)) dL_489 ?_
  rw [ea1]
  refine lv_aload_n hx hb dL_490 rfl (lv_at hl 3 rfl) ?_
  refine lv_iload_n hx hb dL_491 rfl (lv_at hl 0 rfl) ?_
  refine lv_iconst (v := 2) hx hb dL_492 (by decide) ?_
  refine lv_iadd hx hb dL_493 ?_
  refine va_sld hx hb hX hbl hbA hS (vin2 2 (by omega) (by omega)) dL_494 ?_
  rw [ea2]
  refine lv_aload_n hx hb dL_495 rfl (lv_at hl 3 rfl) ?_
  refine lv_iload_n hx hb dL_496 rfl (lv_at hl 0 rfl) ?_
  refine lv_iconst (v := 3) hx hb dL_497 (by decide) ?_
  refine lv_iadd hx hb dL_498 ?_
  refine va_sld hx hb hX hbl hbA hS (vin2 3 (by omega) (by omega)) dL_499 ?_
  rw [ea3]
  refine lv_aload_n hx hb dL_500 rfl (lv_at hl 3 rfl) ?_
  refine lv_iload_n hx hb dL_501 rfl (lv_at hl 0 rfl) ?_
  refine lv_iconst (v := 4) hx hb dL_502 (by decide) ?_
  refine lv_iadd hx hb dL_503 ?_
  refine va_sld hx hb hX hbl hbA hS (vin2 4 (by omega) (by omega)) dL_504 ?_
  rw [ea4]
  refine k_RIV (As := [.int a1, .int a2, .int a3, .int a4]) (rest := [.int r]) ⟨hx, hb, hml, hown, hts⟩ hK hP hD hS hA (wn := LW cy u ck qk mk P qm sm bsa bsb rd di' rof pn se fo ro ra' vc os li fot rot rat vct ost lit mo') (FrS_m rfl) (cw_L_44 (d := 2) hts ⟨Nat.le_of_ble_eq_true rfl, Nat.le_of_ble_eq_true rfl⟩) 0 (ci := 12) rfl rfl rfl (c_X12_storm l D cy qm mo a1 a2 a3 a4 r mo' o2) rfl hl.1 (Nat.le_of_ble_eq_true rfl) ⟨by show cells + 0 ≤ 600000; omega, by show slots + 0 ≤ 7302250; omega⟩ dL_505 (fun H locs hP hD hS => ?_)
  refine lv_icmp_eq (tgt := 1620) hx hb dL_508 (by decide) (fun _ => ?_) (fun c1 => absurd rfl c1)
  exact kk _ _ _ _ _ _ _ _ _ _ _ _ _ _ _ _ _ _ _ _ _ _ _ _ _ _ _ _ _ (by omega) (by omega) o3 hP hD hS
set_option maxRecDepth 100000 in
theorem L_now (B : LB p s m meth c b L xs D cy ck) (hl : lv_has ls 4 [(3, .int (nI i)), (2, .ref (qm 0)), (1, .ref (u 0)), (0, .ref b)]) (hi : i + 5 < L) (hL : L ≤ 3072) (hN : N ≤ 512) (hc : cells ≤ 500000 ∧ slots ≤ 7000000) (hI : LI N k P mk sm bsa pn fo ro ra vc os li mo) (hP : va_P D vwCl (LW cy u ck qk mk P qm sm bsa bsb rd di rof pn se fo ro ra vc os li fot rot rat vct ost lit mo) H) (hD : va_D (AA s) (LW cy u ck qk mk P qm sm bsa bsb rd di rof pn se fo ro ra vc os li fot rot rat vct ost lit mo)) (hS : va_S (AA s) s.heap H locs) (kk : LK p l e s m below meth c b D cy ck u qm Q cells slots ls N) : W p l e room_1 s m #[Value.ref b] below meth c H locs cells slots Q (F0 m 513 ls []) := by
  obtain ⟨hx, hb, hml, hown, hts, hX, hbl, hK, hN9, hQ9⟩ := id B
  have hbA : ¬ AA s b := Nat.not_le.mpr hbl
  have hA : ∀ q, s.heap.size ≤ q → AA s q := fun _ h => h
  obtain ⟨a1, ea1⟩ : ∃ z : Int32, xs (nI i + 1).toNatClampNeg = z := ⟨_, rfl⟩
  obtain ⟨r, fo', mo', o1, o2, o3⟩ := s_now (x := a1)  hN hI
  refine lv_aload_n hx hb dL_513 rfl (lv_at hl 2 rfl) ?_
  refine lv_aload_n hx hb dL_514 rfl (lv_at hl 3 rfl) ?_
  refine lv_iload_n hx hb dL_515 rfl (lv_at hl 0 rfl) ?_
  refine lv_iconst (v := 1) hx hb dL_516 (by decide) ?_
  refine lv_iadd hx hb dL_517 ?_
  refine va_sld hx hb hX hbl hbA hS (vin2 1 (by omega) (by omega)) dL_518 ?_
  rw [ea1]
  refine k_RIV (As := [.int a1]) (rest := []) ⟨hx, hb, hml, hown, hts⟩ hK hP hD hS hA (wn := LW cy u ck qk mk P qm sm bsa bsb rd di rof pn se fo' ro ra vc os li fot rot rat vct ost lit mo) (FrS_c rfl) (cw_L_45 (d := 1) hts ⟨Nat.le_of_ble_eq_true rfl, Nat.le_of_ble_eq_true rfl⟩) 0 (ci := 11) rfl rfl rfl (c_X11_now l D cy (fun z => u z) (fun z => u (20 + z)) (fun z => u (40 + z)) (fun z => u (60 + z)) (fun z => u (80 + z)) (fun z => u (100 + z)) (fun z => u (120 + z)) (fun z => u (140 + z)) (fun z => u (160 + z)) (fun z => u (180 + z)) (fun z => u (200 + z)) (fun z => u (220 + z)) (fun z => u (240 + z)) (fun z => u (260 + z)) (fun z => u (280 + z)) (fun z => u (300 + z)) (fun z => u (320 + z)) (fun z => u (340 + z)) (fun z => u (360 + z)) (fun z => u (380 + z)) sm bsa bsb rd di rof pn se fo ro ra vc os li fot rot rat vct ost lit a1 r fo' o1) rfl hl.1 (Nat.le_of_ble_eq_true rfl) ⟨by show cells + 0 ≤ 600000; omega, by show slots + 0 ≤ 7302250; omega⟩ dL_519 (fun H locs hP hD hS => ?_)
  refine lv_aload_n hx hb dL_522 rfl (lv_at hl 1 rfl) ?_
  refine lv_aload_n hx hb dL_523 rfl (lv_at hl 3 rfl) ?_
  refine lv_iload_n hx hb dL_524 rfl (lv_at hl 0 rfl) ?_
  refine lv_iconst (v := 1) hx hb dL_525 (by decide) ?_
  refine lv_iadd hx hb dL_526 ?_
  refine va_sld hx hb hX hbl hbA hS (vin2 1 (by omega) (by omega)) dL_527 ?_
  rw [ea1]
  refine k_RIV (As := [.int a1]) (rest := [.int r]) ⟨hx, hb, hml, hown, hts⟩ hK hP hD hS hA (wn := LW cy u ck qk mk P qm sm bsa bsb rd di rof pn se fo' ro ra vc os li fot rot rat vct ost lit mo') (FrS_m rfl) (cw_L_49 (d := 1) hts ⟨Nat.le_of_ble_eq_true rfl, Nat.le_of_ble_eq_true rfl⟩) 0 (ci := 12) rfl rfl rfl (c_X12_now l D cy qm mo a1 r mo' o2) rfl hl.1 (Nat.le_of_ble_eq_true rfl) ⟨by show cells + 0 ≤ 600000; omega, by show slots + 0 ≤ 7302250; omega⟩ dL_528 (fun H locs hP hD hS => ?_)
  refine lv_icmp_eq (tgt := 1620) hx hb dL_531 (by decide) (fun _ => ?_) (fun c1 => absurd rfl c1)
  exact kk _ _ _ _ _ _ _ _ _ _ _ _ _ _ _ _ _ _ _ _ _ _ _ _ _ _ _ _ _ (by omega) (by omega) o3 hP hD hS
set_option maxRecDepth 100000 in
theorem L_told (B : LB p s m meth c b L xs D cy ck) (hl : lv_has ls 4 [(3, .int (nI i)), (2, .ref (qm 0)), (1, .ref (u 0)), (0, .ref b)]) (hi : i + 5 < L) (hL : L ≤ 3072) (hN : N ≤ 512) (hc : cells ≤ 500000 ∧ slots ≤ 7000000) (hI : LI N k P mk sm bsa pn fo ro ra vc os li mo) (hP : va_P D vwCl (LW cy u ck qk mk P qm sm bsa bsb rd di rof pn se fo ro ra vc os li fot rot rat vct ost lit mo) H) (hD : va_D (AA s) (LW cy u ck qk mk P qm sm bsa bsb rd di rof pn se fo ro ra vc os li fot rot rat vct ost lit mo)) (hS : va_S (AA s) s.heap H locs) (kk : LK p l e s m below meth c b D cy ck u qm Q cells slots ls N) : W p l e room_1 s m #[Value.ref b] below meth c H locs cells slots Q (F0 m 536 ls []) := by
  obtain ⟨hx, hb, hml, hown, hts, hX, hbl, hK, hN9, hQ9⟩ := id B
  have hbA : ¬ AA s b := Nat.not_le.mpr hbl
  have hA : ∀ q, s.heap.size ≤ q → AA s q := fun _ h => h
  obtain ⟨a1, ea1⟩ : ∃ z : Int32, xs (nI i + 1).toNatClampNeg = z := ⟨_, rfl⟩
  obtain ⟨a2, ea2⟩ : ∃ z : Int32, xs (nI i + 2).toNatClampNeg = z := ⟨_, rfl⟩
  obtain ⟨r, o1, o2, o3⟩ := s_told (x := a1) (y := a2)  hN hI
  refine lv_aload_n hx hb dL_536 rfl (lv_at hl 2 rfl) ?_
  refine lv_aload_n hx hb dL_537 rfl (lv_at hl 3 rfl) ?_
  refine lv_iload_n hx hb dL_538 rfl (lv_at hl 0 rfl) ?_
  refine lv_iconst (v := 1) hx hb dL_539 (by decide) ?_
  refine lv_iadd hx hb dL_540 ?_
  refine va_sld hx hb hX hbl hbA hS (vin2 1 (by omega) (by omega)) dL_541 ?_
  rw [ea1]
  refine lv_aload_n hx hb dL_542 rfl (lv_at hl 3 rfl) ?_
  refine lv_iload_n hx hb dL_543 rfl (lv_at hl 0 rfl) ?_
  refine lv_iconst (v := 2) hx hb dL_544 (by decide) ?_
  refine lv_iadd hx hb dL_545 ?_
  refine va_sld hx hb hX hbl hbA hS (vin2 2 (by omega) (by omega)) dL_546 ?_
  rw [ea2]
  refine k_ROV (As := [.int a1, .int a2]) (rest := []) ⟨hx, hb, hml, hown, hts⟩ hK (P_c hP) (cw_L_50 (d := 2) hts ⟨Nat.le_of_ble_eq_true rfl, Nat.le_of_ble_eq_true rfl⟩) 0 (ci := 11) rfl rfl rfl (c_X11_told l D cy (fun z => u z) (fun z => u (20 + z)) (fun z => u (40 + z)) (fun z => u (60 + z)) (fun z => u (80 + z)) (fun z => u (100 + z)) (fun z => u (120 + z)) (fun z => u (140 + z)) (fun z => u (160 + z)) (fun z => u (180 + z)) (fun z => u (200 + z)) (fun z => u (220 + z)) (fun z => u (240 + z)) (fun z => u (260 + z)) (fun z => u (280 + z)) (fun z => u (300 + z)) (fun z => u (320 + z)) (fun z => u (340 + z)) (fun z => u (360 + z)) (fun z => u (380 + z)) sm bsa bsb rd di rof pn se fo ro ra vc os li fot rot rat vct ost lit a1 a2 r o1) rfl hl.1 (Nat.le_of_ble_eq_true rfl) ⟨by show cells + 0 ≤ 600000; omega, by show slots + 0 ≤ 7302250; omega⟩ dL_547 ?_
  refine lv_aload_n hx hb dL_550 rfl (lv_at hl 1 rfl) ?_
  refine lv_aload_n hx hb dL_551 rfl (lv_at hl 3 rfl) ?_
  refine lv_iload_n hx hb dL_552 rfl (lv_at hl 0 rfl) ?_
  refine lv_iconst (v := 1) hx hb dL_553 (by decide) ?_
  refine lv_iadd hx hb dL_554 ?_
  refine va_sld hx hb hX hbl hbA hS (vin2 1 (by omega) (by omega)) dL_555 ?_
  rw [ea1]
  refine lv_aload_n hx hb dL_556 rfl (lv_at hl 3 rfl) ?_
  refine lv_iload_n hx hb dL_557 rfl (lv_at hl 0 rfl) ?_
  refine lv_iconst (v := 2) hx hb dL_558 (by decide) ?_
  refine lv_iadd hx hb dL_559 ?_
  refine va_sld hx hb hX hbl hbA hS (vin2 2 (by omega) (by omega)) dL_560 ?_
  rw [ea2]
  refine k_ROV (As := [.int a1, .int a2]) (rest := [.int r]) ⟨hx, hb, hml, hown, hts⟩ hK (P_m hP) (cw_L_53 (d := 3) hts ⟨Nat.le_of_ble_eq_true rfl, Nat.le_of_ble_eq_true rfl⟩) 0 (ci := 12) rfl rfl rfl (c_X12_told l D cy qm mo a1 a2 r o2) rfl hl.1 (Nat.le_of_ble_eq_true rfl) ⟨by show cells + 0 ≤ 600000; omega, by show slots + 0 ≤ 7302250; omega⟩ dL_561 ?_
  refine lv_icmp_eq (tgt := 1620) hx hb dL_564 (by decide) (fun _ => ?_) (fun c1 => absurd rfl c1)
  exact kk _ _ _ _ _ _ _ _ _ _ _ _ _ _ _ _ _ _ _ _ _ _ _ _ _ _ _ _ _ (by omega) (by omega) o3 hP hD hS
set_option maxRecDepth 100000 in
theorem L_slot (B : LB p s m meth c b L xs D cy ck) (hl : lv_has ls 4 [(3, .int (nI i)), (2, .ref (qm 0)), (1, .ref (u 0)), (0, .ref b)]) (hi : i + 5 < L) (hL : L ≤ 3072) (hN : N ≤ 512) (hc : cells ≤ 500000 ∧ slots ≤ 7000000) (hI : LI N k P mk sm bsa pn fo ro ra vc os li mo) (hP : va_P D vwCl (LW cy u ck qk mk P qm sm bsa bsb rd di rof pn se fo ro ra vc os li fot rot rat vct ost lit mo) H) (hD : va_D (AA s) (LW cy u ck qk mk P qm sm bsa bsb rd di rof pn se fo ro ra vc os li fot rot rat vct ost lit mo)) (hS : va_S (AA s) s.heap H locs) (kk : LK p l e s m below meth c b D cy ck u qm Q cells slots ls N) : W p l e room_1 s m #[Value.ref b] below meth c H locs cells slots Q (F0 m 569 ls []) := by
  obtain ⟨hx, hb, hml, hown, hts, hX, hbl, hK, hN9, hQ9⟩ := id B
  have hbA : ¬ AA s b := Nat.not_le.mpr hbl
  have hA : ∀ q, s.heap.size ≤ q → AA s q := fun _ h => h
  obtain ⟨a1, ea1⟩ : ∃ z : Int32, xs (nI i + 1).toNatClampNeg = z := ⟨_, rfl⟩
  obtain ⟨r, o1, o2, o3⟩ := s_slot (x := a1)  hN hI
  refine lv_aload_n hx hb dL_569 rfl (lv_at hl 2 rfl) ?_
  refine lv_aload_n hx hb dL_570 rfl (lv_at hl 3 rfl) ?_
  refine lv_iload_n hx hb dL_571 rfl (lv_at hl 0 rfl) ?_
  refine lv_iconst (v := 1) hx hb dL_572 (by decide) ?_
  refine lv_iadd hx hb dL_573 ?_
  refine va_sld hx hb hX hbl hbA hS (vin2 1 (by omega) (by omega)) dL_574 ?_
  rw [ea1]
  refine k_ROV (As := [.int a1]) (rest := []) ⟨hx, hb, hml, hown, hts⟩ hK (P_c hP) (cw_L_54 (d := 2) hts ⟨Nat.le_of_ble_eq_true rfl, Nat.le_of_ble_eq_true rfl⟩) 0 (ci := 11) rfl rfl rfl (c_X11_slot l D cy (fun z => u z) (fun z => u (20 + z)) (fun z => u (40 + z)) (fun z => u (60 + z)) (fun z => u (80 + z)) (fun z => u (100 + z)) (fun z => u (120 + z)) (fun z => u (140 + z)) (fun z => u (160 + z)) (fun z => u (180 + z)) (fun z => u (200 + z)) (fun z => u (220 + z)) (fun z => u (240 + z)) (fun z => u (260 + z)) (fun z => u (280 + z)) (fun z => u (300 + z)) (fun z => u (320 + z)) (fun z => u (340 + z)) (fun z => u (360 + z)) (fun z => u (380 + z)) sm bsa bsb rd di rof pn se fo ro ra vc os li fot rot rat vct ost lit a1 r o1) rfl hl.1 (Nat.le_of_ble_eq_true rfl) ⟨by show cells + 0 ≤ 600000; omega, by show slots + 0 ≤ 7302250; omega⟩ dL_575 ?_
  refine lv_aload_n hx hb dL_578 rfl (lv_at hl 1 rfl) ?_
  refine lv_aload_n hx hb dL_579 rfl (lv_at hl 3 rfl) ?_
  refine lv_iload_n hx hb dL_580 rfl (lv_at hl 0 rfl) ?_
  refine lv_iconst (v := 1) hx hb dL_581 (by decide) ?_
  refine lv_iadd hx hb dL_582 ?_
  refine va_sld hx hb hX hbl hbA hS (vin2 1 (by omega) (by omega)) dL_583 ?_
  rw [ea1]
  refine k_ROV (As := [.int a1]) (rest := [.int r]) ⟨hx, hb, hml, hown, hts⟩ hK (P_m hP) (cw_L_57 (d := 1) hts ⟨Nat.le_of_ble_eq_true rfl, Nat.le_of_ble_eq_true rfl⟩) 0 (ci := 12) rfl rfl rfl (c_X12_slot l D cy qm mo a1 r o2) rfl hl.1 (Nat.le_of_ble_eq_true rfl) ⟨by show cells + 0 ≤ 600000; omega, by show slots + 0 ≤ 7302250; omega⟩ dL_584 ?_
  refine lv_icmp_eq (tgt := 1620) hx hb dL_587 (by decide) (fun _ => ?_) (fun c1 => absurd rfl c1)
  exact kk _ _ _ _ _ _ _ _ _ _ _ _ _ _ _ _ _ _ _ _ _ _ _ _ _ _ _ _ _ (by omega) (by omega) o3 hP hD hS
set_option maxRecDepth 100000 in
theorem L_at (B : LB p s m meth c b L xs D cy ck) (hl : lv_has ls 4 [(3, .int (nI i)), (2, .ref (qm 0)), (1, .ref (u 0)), (0, .ref b)]) (hi : i + 5 < L) (hL : L ≤ 3072) (hN : N ≤ 512) (hc : cells ≤ 500000 ∧ slots ≤ 7000000) (hI : LI N k P mk sm bsa pn fo ro ra vc os li mo) (hP : va_P D vwCl (LW cy u ck qk mk P qm sm bsa bsb rd di rof pn se fo ro ra vc os li fot rot rat vct ost lit mo) H) (hD : va_D (AA s) (LW cy u ck qk mk P qm sm bsa bsb rd di rof pn se fo ro ra vc os li fot rot rat vct ost lit mo)) (hS : va_S (AA s) s.heap H locs) (kk : LK p l e s m below meth c b D cy ck u qm Q cells slots ls N) : W p l e room_1 s m #[Value.ref b] below meth c H locs cells slots Q (F0 m 592 ls []) := by
  obtain ⟨hx, hb, hml, hown, hts, hX, hbl, hK, hN9, hQ9⟩ := id B
  have hbA : ¬ AA s b := Nat.not_le.mpr hbl
  have hA : ∀ q, s.heap.size ≤ q → AA s q := fun _ h => h
  obtain ⟨a1, ea1⟩ : ∃ z : Int32, xs (nI i + 1).toNatClampNeg = z := ⟨_, rfl⟩
  obtain ⟨r, o1, o2, o3⟩ := s_at (x := a1)  hN hI
  refine lv_aload_n hx hb dL_592 rfl (lv_at hl 2 rfl) ?_
  refine lv_aload_n hx hb dL_593 rfl (lv_at hl 3 rfl) ?_
  refine lv_iload_n hx hb dL_594 rfl (lv_at hl 0 rfl) ?_
  refine lv_iconst (v := 1) hx hb dL_595 (by decide) ?_
  refine lv_iadd hx hb dL_596 ?_
  refine va_sld hx hb hX hbl hbA hS (vin2 1 (by omega) (by omega)) dL_597 ?_
  rw [ea1]
  refine k_ROV (As := [.int a1]) (rest := []) ⟨hx, hb, hml, hown, hts⟩ hK (P_c hP) (cw_L_58 (d := 3) hts ⟨Nat.le_of_ble_eq_true rfl, Nat.le_of_ble_eq_true rfl⟩) 0 (ci := 11) rfl rfl rfl (c_X11_at l D cy (fun z => u z) (fun z => u (20 + z)) (fun z => u (40 + z)) (fun z => u (60 + z)) (fun z => u (80 + z)) (fun z => u (100 + z)) (fun z => u (120 + z)) (fun z => u (140 + z)) (fun z => u (160 + z)) (fun z => u (180 + z)) (fun z => u (200 + z)) (fun z => u (220 + z)) (fun z => u (240 + z)) (fun z => u (260 + z)) (fun z => u (280 + z)) (fun z => u (300 + z)) (fun z => u (320 + z)) (fun z => u (340 + z)) (fun z => u (360 + z)) (fun z => u (380 + z)) sm bsa bsb rd di rof pn se fo ro ra vc os li fot rot rat vct ost lit a1 r o1) rfl hl.1 (Nat.le_of_ble_eq_true rfl) ⟨by show cells + 0 ≤ 600000; omega, by show slots + 0 ≤ 7302250; omega⟩ dL_598 ?_
  refine lv_aload_n hx hb dL_601 rfl (lv_at hl 1 rfl) ?_
  refine lv_aload_n hx hb dL_602 rfl (lv_at hl 3 rfl) ?_
  refine lv_iload_n hx hb dL_603 rfl (lv_at hl 0 rfl) ?_
  refine lv_iconst (v := 1) hx hb dL_604 (by decide) ?_
  refine lv_iadd hx hb dL_605 ?_
  refine va_sld hx hb hX hbl hbA hS (vin2 1 (by omega) (by omega)) dL_606 ?_
  rw [ea1]
  refine k_ROV (As := [.int a1]) (rest := [.int r]) ⟨hx, hb, hml, hown, hts⟩ hK (P_m hP) (cw_L_61 (d := 3) hts ⟨Nat.le_of_ble_eq_true rfl, Nat.le_of_ble_eq_true rfl⟩) 0 (ci := 12) rfl rfl rfl (c_X12_at l D cy qm mo a1 r o2) rfl hl.1 (Nat.le_of_ble_eq_true rfl) ⟨by show cells + 0 ≤ 600000; omega, by show slots + 0 ≤ 7302250; omega⟩ dL_607 ?_
  refine lv_icmp_eq (tgt := 1620) hx hb dL_610 (by decide) (fun _ => ?_) (fun c1 => absurd rfl c1)
  exact kk _ _ _ _ _ _ _ _ _ _ _ _ _ _ _ _ _ _ _ _ _ _ _ _ _ _ _ _ _ (by omega) (by omega) o3 hP hD hS
end LC
