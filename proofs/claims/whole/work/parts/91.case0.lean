/-! the first case -/
section LC
variable {p : Program} {l : Launch} {e : Env} {s : State} {m : MethodId} {below : List Frame} {meth : Method} {c : Code} {b L : Nat} {xs : Nat → Int32} {D : va_G} {cy : Nat → ClassId} {ck : ClassId} {u qm : Nat → Nat} {Q : State → Prop} {H : Heap} {locs : List Loc} {cells slots : Nat} {ls : Array Slot} {N k P i : Nat} {qk : Nat → Nat → Nat} {mk : Nat → Nat → Mem} {sm bsa bsb rd di rof pn se fo ro ra vc os li fot rot rat vct ost lit mo : Mem}
set_option maxRecDepth 100000 in
theorem L_feed (B : LB p s m meth c b L xs D cy ck) (hl : lv_has ls 4 [(3, .int (nI i)), (2, .ref (qm 0)), (1, .ref (u 0)), (0, .ref b)]) (hi : i + 5 < L) (hL : L ≤ 3072) (hN : N ≤ 512) (hc : cells ≤ 500000 ∧ slots ≤ 7000000) (hI : LI N k P mk sm bsa pn fo ro ra vc os li mo) (hP : va_P D vwCl (LW cy u ck qk mk P qm sm bsa bsb rd di rof pn se fo ro ra vc os li fot rot rat vct ost lit mo) H) (hD : va_D (AA s) (LW cy u ck qk mk P qm sm bsa bsb rd di rof pn se fo ro ra vc os li fot rot rat vct ost lit mo)) (hS : va_S (AA s) s.heap H locs) (kk : LK p l e s m below meth c b D cy ck u qm Q cells slots ls N) : W p l e room_1 s m #[Value.ref b] below meth c H locs cells slots Q (F0 m 232 ls []) := by
  obtain ⟨hx, hb, hml, hown, hts, hX, hbl, hK, hN9, hQ9⟩ := id B
  have hbA : ¬ AA s b := Nat.not_le.mpr hbl
  have hA : ∀ q, s.heap.size ≤ q → AA s q := fun _ h => h
  obtain ⟨a1, ea1⟩ : ∃ z : Int32, xs (nI i + 1).toNatClampNeg = z := ⟨_, rfl⟩
  obtain ⟨a2, ea2⟩ : ∃ z : Int32, xs (nI i + 2).toNatClampNeg = z := ⟨_, rfl⟩
  obtain ⟨a3, ea3⟩ : ∃ z : Int32, xs (nI i + 3).toNatClampNeg = z := ⟨_, rfl⟩
  obtain ⟨a4, ea4⟩ : ∃ z : Int32, xs (nI i + 4).toNatClampNeg = z := ⟨_, rfl⟩
  obtain ⟨a5, ea5⟩ : ∃ z : Int32, xs (nI i + 5).toNatClampNeg = z := ⟨_, rfl⟩
  obtain ⟨r, bsa', mo', o1, o2, o3⟩ := s_feed (x := a1) (y := a2) (z := a3) (w := a4) (t := a5)  hN hI
  refine lv_aload_n hx hb dL_232 rfl (lv_at hl 2 rfl) ?_
  refine lv_aload_n hx hb dL_233 rfl (lv_at hl 3 rfl) ?_
  refine lv_iload_n hx hb dL_234 rfl (lv_at hl 0 rfl) ?_
  refine lv_iconst (v := 1) hx hb dL_235 (by decide) ?_
  refine lv_iadd hx hb dL_236 ?_
  refine va_sld hx hb hX hbl hbA hS (vin2 1 (by omega) (by omega)) dL_237 ?_
  rw [ea1]
  refine lv_aload_n hx hb dL_238 rfl (lv_at hl 3 rfl) ?_
  refine lv_iload_n hx hb dL_239 rfl (lv_at hl 0 rfl) ?_
  refine lv_iconst (v := 2) hx hb dL_240 (by decide) ?_
  refine lv_iadd hx hb dL_241 ?_
  refine va_sld hx hb hX hbl hbA hS (vin2 2 (by omega) (by omega)) dL_242 ?_
  rw [ea2]
  refine lv_aload_n hx hb dL_243 rfl (lv_at hl 3 rfl) ?_
  refine lv_iload_n hx hb dL_244 rfl (lv_at hl 0 rfl) ?_
  refine lv_iconst (v := 3) hx hb dL_245 (by decide) ?_
  refine lv_iadd hx hb dL_246 ?_
  refine va_sld hx hb hX hbl hbA hS (vin2 3 (by omega) (by omega)) dL_247 ?_
  rw [ea3]
  refine lv_aload_n hx hb dL_248 rfl (lv_at hl 3 rfl) ?_
  refine lv_iload_n hx hb dL_249 rfl (lv_at hl 0 rfl) ?_
  refine lv_iconst (v := 4) hx hb dL_250 (by decide) ?_
  refine lv_iadd hx hb dL_251 ?_
  refine va_sld hx hb hX hbl hbA hS (vin2 4 (by omega) (by omega)) dL_252 ?_
  rw [ea4]
  refine lv_aload_n hx hb dL_253 rfl (lv_at hl 3 rfl) ?_
  refine lv_iload_n hx hb dL_254 rfl (lv_at hl 0 rfl) ?_
  refine lv_iconst (v := 5) hx hb dL_255 (by decide) ?_
  refine lv_iadd hx hb dL_256 ?_
  refine va_sld hx hb hX hbl hbA hS (vin2 5 (by omega) (by omega)) dL_257 ?_
  rw [ea5]
  refine k_RIV (As := [.int a1, .int a2, .int a3, .int a4, .int a5]) (rest := []) ⟨hx, hb, hml, hown, hts⟩ hK hP hD hS hA (wn := LW cy u ck qk mk P qm sm bsa' bsb rd di rof pn se fo ro ra vc os li fot rot rat vct ost lit mo) (FrS_c rfl) (cw_L_13 (d := 2) hts ⟨Nat.le_of_ble_eq_true rfl, Nat.le_of_ble_eq_true rfl⟩) 0 (ci := 11) rfl rfl rfl (c_X11_feed l D cy (fun z => u z) (fun z => u (20 + z)) (fun z => u (40 + z)) (fun z => u (60 + z)) (fun z => u (80 + z)) (fun z => u (100 + z)) (fun z => u (120 + z)) (fun z => u (140 + z)) (fun z => u (160 + z)) (fun z => u (180 + z)) (fun z => u (200 + z)) (fun z => u (220 + z)) (fun z => u (240 + z)) (fun z => u (260 + z)) (fun z => u (280 + z)) (fun z => u (300 + z)) (fun z => u (320 + z)) (fun z => u (340 + z)) (fun z => u (360 + z)) (fun z => u (380 + z)) sm bsa bsb rd di rof pn se fo ro ra vc os li fot rot rat vct ost lit a1 a2 a3 a4 a5 r bsa' o1) rfl hl.1 (Nat.le_of_ble_eq_true rfl) ⟨by show cells + 0 ≤ 600000; omega, by show slots + 0 ≤ 7302250; omega⟩ dL_258 (fun H locs hP hD hS => ?_)
  refine lv_aload_n hx hb dL_261 rfl (lv_at hl 1 rfl) ?_
  refine lv_aload_n hx hb dL_262 rfl (lv_at hl 3 rfl) ?_
  refine lv_iload_n hx hb dL_263 rfl (lv_at hl 0 rfl) ?_
  refine lv_iconst (v := 1) hx hb dL_264 (by decide) ?_
  refine lv_iadd hx hb dL_265 ?_
  refine va_sld hx hb hX hbl hbA hS (vin2 1 (by omega) (by omega)) dL_266 ?_
  rw [ea1]
  refine lv_aload_n hx hb dL_267 rfl (lv_at hl 3 rfl) ?_
  refine lv_iload_n hx hb dL_268 rfl (lv_at hl 0 rfl) ?_
  refine lv_iconst (v := 2) hx hb dL_269 (by decide) ?_
  refine lv_iadd hx hb dL_270 ?_
  refine va_sld hx hb hX hbl hbA hS (vin2 2 (by omega) (by omega)) dL_271 ?_
  rw [ea2]
  refine lv_aload_n hx hb dL_272 rfl (lv_at hl 3 rfl) ?_
  refine lv_iload_n hx hb dL_273 rfl (lv_at hl 0 rfl) ?_
  refine lv_iconst (v := 3) hx hb dL_274 (by decide) ?_
  refine lv_iadd hx hb dL_275 ?_
  refine va_sld hx hb hX hbl hbA hS (vin2 3 (by omega) (by omega)) dL_276 ?_
  rw [ea3]
  refine lv_aload_n hx hb dL_277 rfl (lv_at hl 3 rfl) ?_
  refine lv_iload_n hx hb dL_278 rfl (lv_at hl 0 rfl) ?_
  refine lv_iconst (v := 4) hx hb dL_279 (by decide) ?_
  refine lv_iadd hx hb dL_280 ?_
  refine va_sld hx hb hX hbl hbA hS (vin2 4 (by omega) (by omega)) dL_281 ?_
  rw [ea4]
  refine lv_aload_n hx hb dL_282 rfl (lv_at hl 3 rfl) ?_
  refine lv_iload_n hx hb dL_283 rfl (lv_at hl 0 rfl) ?_
  refine lv_iconst (v := 5) hx hb dL_284 (by decide) ?_
  refine lv_iadd hx hb dL_285 ?_
  refine va_sld hx hb hX hbl hbA hS (vin2 5 (by omega) (by omega)) dL_286 ?_
  rw [ea5]
  refine k_RIV (As := [.int a1, .int a2, .int a3, .int a4, .int a5]) (rest := [.int r]) ⟨hx, hb, hml, hown, hts⟩ hK hP hD hS hA (wn := LW cy u ck qk mk P qm sm bsa' bsb rd di rof pn se fo ro ra vc os li fot rot rat vct ost lit mo') (FrS_m rfl) (cw_L_17 (d := 1) hts ⟨Nat.le_of_ble_eq_true rfl, Nat.le_of_ble_eq_true rfl⟩) 0 (ci := 12) rfl rfl rfl (c_X12_feed l D cy qm mo a1 a2 a3 a4 a5 r mo' o2) rfl hl.1 (Nat.le_of_ble_eq_true rfl) ⟨by show cells + 0 ≤ 600000; omega, by show slots + 0 ≤ 7302250; omega⟩ dL_287 (fun H locs hP hD hS => ?_)
  refine lv_icmp_eq (tgt := 1620) hx hb dL_290 (by decide) (fun _ => ?_) (fun c1 => absurd rfl c1)
  exact kk _ _ _ _ _ _ _ _ _ _ _ _ _ _ _ _ _ _ _ _ _ _ _ _ _ _ _ _ _ (by omega) (by omega) o3 hP hD hS
end LC
