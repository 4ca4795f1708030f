section SG11fieldb
variable {p : Program} {l : Launch} {e : Env} {s : State} {m : MethodId} {args : Array Value} {below : List Frame} {meth : Method} {c : Code} {D : va_G} {A : Nat → Prop} {cy : Nat → ClassId}
abbrev w_FiFi (cy : Nat → ClassId) (qfo : Nat → Nat) (qro : Nat → Nat) (qra : Nat → Nat) (qvc : Nat → Nat) (qos : Nat → Nat) (qli : Nat → Nat) (qfo2 : Nat → Nat) (qro2 : Nat → Nat) (qra2 : Nat → Nat) (qvc2 : Nat → Nat) (qos2 : Nat → Nat) (qli2 : Nat → Nat) (fo : Mem) (ro : Mem) (ra : Mem) (vc : Mem) (os : Mem) (li : Mem) (fo2 : Mem) (ro2 : Mem) (ra2 : Mem) (vc2 : Mem) (os2 : Mem) (li2 : Mem) : va_W := [(qfo 0, .inr (2, [.ref (qro 0), .ref (qra 0), .ref (qvc 0), .ref (qos 0), .ref (qli 0), .ref (qfo 6), .ref (qfo 7), .ref (qfo 8), .int (fo 8 0), .int (fo 9 0), .int (fo 10 0)])), (qfo 6, .inl (cy 0, 20, .inl (fo 5))), (qfo 7, .inl (cy 0, 20, .inl (fo 6))), (qfo 8, .inl (cy 0, 20, .inl (fo 7))), (qro 0, .inr (9, [.ref (qro 1), .ref (qro 2), .ref (qro 3), .ref (qro 4), .int (ro 4 0)])), (qro 1, .inl (cy 0, 20, .inl (ro 0))), (qro 2, .inl (cy 0, 20, .inl (ro 1))), (qro 3, .inl (cy 0, 20, .inl (ro 2))), (qro 4, .inl (cy 0, 20, .inl (ro 3))), (qra 0, .inr (7, [.ref (qra 1)])), (qra 1, .inl (cy 0, 12, .inl (ra 0))), (qvc 0, .inr (10, [.ref (qvc 1), .ref (qvc 2), .int (vc 2 0)])), (qvc 1, .inl (cy 0, 20, .inl (vc 0))), (qvc 2, .inl (cy 0, 20, .inl (vc 1))), (qos 0, .inr (4, [.ref (qos 1), .ref (qos 2), .ref (qos 3), .ref (qos 4), .int (os 4 0)])), (qos 1, .inl (cy 0, 8, .inl (os 0))), (qos 2, .inl (cy 0, 8, .inl (os 1))), (qos 3, .inl (cy 0, 8, .inl (os 2))), (qos 4, .inl (cy 0, 8, .inl (os 3))), (qli 0, .inr (3, [.ref (qli 1), .ref (qli 2), .ref (qli 3), .int (li 3 0)])), (qli 1, .inl (cy 0, 12, .inl (li 0))), (qli 2, .inl (cy 0, 12, .inl (li 1))), (qli 3, .inl (cy 0, 12, .inl (li 2))), (qfo2 0, .inr (2, [.ref (qro2 0), .ref (qra2 0), .ref (qvc2 0), .ref (qos2 0), .ref (qli2 0), .ref (qfo2 6), .ref (qfo2 7), .ref (qfo2 8), .int (fo2 8 0), .int (fo2 9 0), .int (fo2 10 0)])), (qfo2 6, .inl (cy 0, 20, .inl (fo2 5))), (qfo2 7, .inl (cy 0, 20, .inl (fo2 6))), (qfo2 8, .inl (cy 0, 20, .inl (fo2 7))), (qro2 0, .inr (9, [.ref (qro2 1), .ref (qro2 2), .ref (qro2 3), .ref (qro2 4), .int (ro2 4 0)])), (qro2 1, .inl (cy 0, 20, .inl (ro2 0))), (qro2 2, .inl (cy 0, 20, .inl (ro2 1))), (qro2 3, .inl (cy 0, 20, .inl (ro2 2))), (qro2 4, .inl (cy 0, 20, .inl (ro2 3))), (qra2 0, .inr (7, [.ref (qra2 1)])), (qra2 1, .inl (cy 0, 12, .inl (ra2 0))), (qvc2 0, .inr (10, [.ref (qvc2 1), .ref (qvc2 2), .int (vc2 2 0)])), (qvc2 1, .inl (cy 0, 20, .inl (vc2 0))), (qvc2 2, .inl (cy 0, 20, .inl (vc2 1))), (qos2 0, .inr (4, [.ref (qos2 1), .ref (qos2 2), .ref (qos2 3), .ref (qos2 4), .int (os2 4 0)])), (qos2 1, .inl (cy 0, 8, .inl (os2 0))), (qos2 2, .inl (cy 0, 8, .inl (os2 1))), (qos2 3, .inl (cy 0, 8, .inl (os2 2))), (qos2 4, .inl (cy 0, 8, .inl (os2 3))), (qli2 0, .inr (3, [.ref (qli2 1), .ref (qli2 2), .ref (qli2 3), .int (li2 3 0)])), (qli2 1, .inl (cy 0, 12, .inl (li2 0))), (qli2 2, .inl (cy 0, 12, .inl (li2 1))), (qli2 3, .inl (cy 0, 12, .inl (li2 2)))]
abbrev w_FiRo (cy : Nat → ClassId) (qfo : Nat → Nat) (qro : Nat → Nat) (qra : Nat → Nat) (qvc : Nat → Nat) (qos : Nat → Nat) (qli : Nat → Nat) (qro2 : Nat → Nat) (fo : Mem) (ro : Mem) (ra : Mem) (vc : Mem) (os : Mem) (li : Mem) (ro2 : Mem) : va_W := [(qfo 0, .inr (2, [.ref (qro 0), .ref (qra 0), .ref (qvc 0), .ref (qos 0), .ref (qli 0), .ref (qfo 6), .ref (qfo 7), .ref (qfo 8), .int (fo 8 0), .int (fo 9 0), .int (fo 10 0)])), (qfo 6, .inl (cy 0, 20, .inl (fo 5))), (qfo 7, .inl (cy 0, 20, .inl (fo 6))), (qfo 8, .inl (cy 0, 20, .inl (fo 7))), (qro 0, .inr (9, [.ref (qro 1), .ref (qro 2), .ref (qro 3), .ref (qro 4), .int (ro 4 0)])), (qro 1, .inl (cy 0, 20, .inl (ro 0))), (qro 2, .inl (cy 0, 20, .inl (ro 1))), (qro 3, .inl (cy 0, 20, .inl (ro 2))), (qro 4, .inl (cy 0, 20, .inl (ro 3))), (qra 0, .inr (7, [.ref (qra 1)])), (qra 1, .inl (cy 0, 12, .inl (ra 0))), (qvc 0, .inr (10, [.ref (qvc 1), .ref (qvc 2), .int (vc 2 0)])), (qvc 1, .inl (cy 0, 20, .inl (vc 0))), (qvc 2, .inl (cy 0, 20, .inl (vc 1))), (qos 0, .inr (4, [.ref (qos 1), .ref (qos 2), .ref (qos 3), .ref (qos 4), .int (os 4 0)])), (qos 1, .inl (cy 0, 8, .inl (os 0))), (qos 2, .inl (cy 0, 8, .inl (os 1))), (qos 3, .inl (cy 0, 8, .inl (os 2))), (qos 4, .inl (cy 0, 8, .inl (os 3))), (qli 0, .inr (3, [.ref (qli 1), .ref (qli 2), .ref (qli 3), .int (li 3 0)])), (qli 1, .inl (cy 0, 12, .inl (li 0))), (qli 2, .inl (cy 0, 12, .inl (li 1))), (qli 3, .inl (cy 0, 12, .inl (li 2))), (qro2 0, .inr (9, [.ref (qro2 1), .ref (qro2 2), .ref (qro2 3), .ref (qro2 4), .int (ro2 4 0)])), (qro2 1, .inl (cy 0, 20, .inl (ro2 0))), (qro2 2, .inl (cy 0, 20, .inl (ro2 1))), (qro2 3, .inl (cy 0, 20, .inl (ro2 2))), (qro2 4, .inl (cy 0, 20, .inl (ro2 3)))]
/-! StormSlots$Field.copyFrom(LStormSlots$Field;)V -/
def Fi_copyFrom (fo : Mem) (ro : Mem) (ra : Mem) (vc : Mem) (os : Mem) (li : Mem) (fo2 : Mem) (ro2 : Mem) (ra2 : Mem) (vc2 : Mem) (os2 : Mem) (li2 : Mem) : Option (Mem × Mem × Mem × Mem × Mem × Mem) :=
  bn1 (Ro_copyFrom ro ro2) (fun ro_2 => bn1 (Ra_copyFrom ra ra2) (fun ra_4 => bn1 (Va_copyFrom vc vc2) (fun vc_6 => bn1 (Of_copyFrom os os2) (fun os_8 => bn1 (Li_copyFrom li li2) (fun li_10 => stk (upA fo 5 (va_cpy (fo2 5) (fo 5) (0 : Int32).toNatClampNeg (0 : Int32).toNatClampNeg (20 : Int32).toNatClampNeg)) (fun fo_11 => stk (upA fo_11 6 (va_cpy (fo2 6) (fo_11 6) (0 : Int32).toNatClampNeg (0 : Int32).toNatClampNeg (20 : Int32).toNatClampNeg)) (fun fo_12 => stk (upA fo_12 7 (va_cpy (fo2 7) (fo_12 7) (0 : Int32).toNatClampNeg (0 : Int32).toNatClampNeg (20 : Int32).toNatClampNeg)) (fun fo_13 => stk (upm fo_13 8 0 (fo2 8 0)) (fun fo_14 => stk (upm fo_14 9 0 (fo2 9 0)) (fun fo_15 => ckB (fo2 10 0) (stk (upm fo_15 10 0 (fo2 10 0)) (fun fo_16 => some (fo_16, ro_2, ra_4, vc_6, os_8, li_10)))))))))))))
set_option maxHeartbeats 4000000 in
set_option maxRecDepth 100000 in
theorem c_X2_copyFrom (l : Launch) (D : va_G) (cy : Nat → ClassId) (qfo qro qra qvc qos qli qfo2 qro2 qra2 qvc2 qos2 qli2 : Nat → Nat) (fo ro ra vc os li fo2 ro2 ra2 vc2 os2 li2 : Mem) (fo' ro' ra' vc' os' li' : Mem) (hp : Fi_copyFrom fo ro ra vc os li fo2 ro2 ra2 vc2 os2 li2 = some (fo', ro', ra', vc', os', li')) : RV l yX2_copyFrom cX2_copyFrom 2 2 D cy [.ref (qfo 0), .ref (qfo2 0)] (w_FiFi cy qfo qro qra qvc qos qli qfo2 qro2 qra2 qvc2 qos2 qli2 fo ro ra vc os li fo2 ro2 ra2 vc2 os2 li2) (w_FiFi cy qfo qro qra qvc qos qli qfo2 qro2 qra2 qvc2 qos2 qli2 fo' ro' ra' vc' os' li' fo2 ro2 ra2 vc2 os2 li2) := by
  refine RV_of RX2 rfl (by decide) (Nat.le_of_ble_eq_true rfl) ?_
  intro p e s m below meth c A C0 hK hP hD hS hA ls hl
  obtain ⟨hx, hb, hr, hml, hown, hts, hk⟩ := id C0
  unfold Fi_copyFrom at hp
  have hl : lv_has ls 2 [(0, .ref (qfo 0)), (1, .ref (qfo2 0))] := hl
  refine lv_aload_n hx hb dX2_copyFrom_0 rfl (lv_at hl 0 rfl) ?_
  refine gf_X2_12 hx hb hts hown hK hP 0 rfl rfl dX2_copyFrom_1 ?_
  refine lv_aload_n hx hb dX2_copyFrom_4 rfl (lv_at hl 1 rfl) ?_
  refine gf_X2_12 hx hb hts hown hK hP 23 rfl rfl dX2_copyFrom_5 ?_
  obtain ⟨ro_2, hc_1, hp⟩ := bn1_s hp
  refine k_RVV (As := [.ref (qro2 0)]) (rest := []) ⟨hx, hb, hml, hown, hts⟩ hK hP hD hS hA (FrS_set (ws := (w_FiFi cy qfo qro qra qvc qos qli qfo2 qro2 qra2 qvc2 qos2 qli2 fo ro ra vc os li fo2 ro2 ra2 vc2 os2 li2)) (wc := (w_RoRo cy qro qro2 ro ro2)) (w1 := (w_RoRo cy qro qro2 ro_2 ro2)) (wn := (w_FiFi cy qfo qro qra qvc qos qli qfo2 qro2 qra2 qvc2 qos2 qli2 fo ro_2 ra vc os li fo2 ro2 ra2 vc2 os2 li2)) [4, 5, 6, 7, 8, 27, 28, 29, 30, 31] [none, none, none, none, some 0, some 1, some 2, some 3, some 4, none, none, none, none, none, none, none, none, none, none, none, none, none, none, none, none, none, none, some 5, some 6, some 7, some 8, some 9, none, none, none, none, none, none, none, none, none, none, none, none, none, none] (by decide +kernel) rfl rfl rfl) (cw_X2_56 hts ⟨Nat.le_of_ble_eq_true rfl, Nat.le_of_ble_eq_true rfl⟩) 0 (ci := 9) rfl rfl rfl (c_X9_copyFrom l D cy qro qro2 ro ro2 ro_2 hc_1) rfl hl.1 (Nat.le_of_ble_eq_true rfl) ⟨Nat.le_refl _, Nat.le_refl _⟩ dX2_copyFrom_8 (fun H locs hP hD hS => ?_)
  refine lv_aload_n hx hb dX2_copyFrom_11 rfl (lv_at hl 0 rfl) ?_
  refine gf_X2_21 hx hb hts hown hK hP 0 rfl rfl dX2_copyFrom_12 ?_
  refine lv_aload_n hx hb dX2_copyFrom_15 rfl (lv_at hl 1 rfl) ?_
  refine gf_X2_21 hx hb hts hown hK hP 23 rfl rfl dX2_copyFrom_16 ?_
  obtain ⟨ra_4, hc_3, hp⟩ := bn1_s hp
  refine k_RVV (As := [.ref (qra2 0)]) (rest := []) ⟨hx, hb, hml, hown, hts⟩ hK hP hD hS hA (FrS_set (ws := (w_FiFi cy qfo qro qra qvc qos qli qfo2 qro2 qra2 qvc2 qos2 qli2 fo ro_2 ra vc os li fo2 ro2 ra2 vc2 os2 li2)) (wc := (w_RaRa cy qra qra2 ra ra2)) (w1 := (w_RaRa cy qra qra2 ra_4 ra2)) (wn := (w_FiFi cy qfo qro qra qvc qos qli qfo2 qro2 qra2 qvc2 qos2 qli2 fo ro_2 ra_4 vc os li fo2 ro2 ra2 vc2 os2 li2)) [9, 10, 32, 33] [none, none, none, none, none, none, none, none, none, some 0, some 1, none, none, none, none, none, none, none, none, none, none, none, none, none, none, none, none, none, none, none, none, none, some 2, some 3, none, none, none, none, none, none, none, none, none, none, none, none] (by decide +kernel) rfl rfl rfl) (cw_X2_60 hts ⟨Nat.le_of_ble_eq_true rfl, Nat.le_of_ble_eq_true rfl⟩) 0 (ci := 7) rfl rfl rfl (c_X7_copyFrom l D cy qra qra2 ra ra2 ra_4 hc_3) rfl hl.1 (Nat.le_of_ble_eq_true rfl) ⟨Nat.le_refl _, Nat.le_refl _⟩ dX2_copyFrom_19 (fun H locs hP hD hS => ?_)
  refine lv_aload_n hx hb dX2_copyFrom_22 rfl (lv_at hl 0 rfl) ?_
  refine gf_X2_28 hx hb hts hown hK hP 0 rfl rfl dX2_copyFrom_23 ?_
  refine lv_aload_n hx hb dX2_copyFrom_26 rfl (lv_at hl 1 rfl) ?_
  refine gf_X2_28 hx hb hts hown hK hP 23 rfl rfl dX2_copyFrom_27 ?_
  obtain ⟨vc_6, hc_5, hp⟩ := bn1_s hp
  refine k_RVV (As := [.ref (qvc2 0)]) (rest := []) ⟨hx, hb, hml, hown, hts⟩ hK hP hD hS hA (FrS_set (ws := (w_FiFi cy qfo qro qra qvc qos qli qfo2 qro2 qra2 qvc2 qos2 qli2 fo ro_2 ra_4 vc os li fo2 ro2 ra2 vc2 os2 li2)) (wc := (w_VaVa cy qvc qvc2 vc vc2)) (w1 := (w_VaVa cy qvc qvc2 vc_6 vc2)) (wn := (w_FiFi cy qfo qro qra qvc qos qli qfo2 qro2 qra2 qvc2 qos2 qli2 fo ro_2 ra_4 vc_6 os li fo2 ro2 ra2 vc2 os2 li2)) [11, 12, 13, 34, 35, 36] [none, none, none, none, none, none, none, none, none, none, none, some 0, some 1, some 2, none, none, none, none, none, none, none, none, none, none, none, none, none, none, none, none, none, none, none, none, some 3, some 4, some 5, none, none, none, none, none, none, none, none, none] (by decide +kernel) rfl rfl rfl) (cw_X2_63 hts ⟨Nat.le_of_ble_eq_true rfl, Nat.le_of_ble_eq_true rfl⟩) 0 (ci := 10) rfl rfl rfl (c_X10_copyFrom l D cy qvc qvc2 vc vc2 vc_6 hc_5) rfl hl.1 (Nat.le_of_ble_eq_true rfl) ⟨Nat.le_refl _, Nat.le_refl _⟩ dX2_copyFrom_30 (fun H locs hP hD hS => ?_)
  refine lv_aload_n hx hb dX2_copyFrom_33 rfl (lv_at hl 0 rfl) ?_
  refine gf_X2_35 hx hb hts hown hK hP 0 rfl rfl dX2_copyFrom_34 ?_
  refine lv_aload_n hx hb dX2_copyFrom_37 rfl (lv_at hl 1 rfl) ?_
  refine gf_X2_35 hx hb hts hown hK hP 23 rfl rfl dX2_copyFrom_38 ?_
  obtain ⟨os_8, hc_7, hp⟩ := bn1_s hp
  refine k_RVV (As := [.ref (qos2 0)]) (rest := []) ⟨hx, hb, hml, hown, hts⟩ hK hP hD hS hA (FrS_set (ws := (w_FiFi cy qfo qro qra qvc qos qli qfo2 qro2 qra2 qvc2 qos2 qli2 fo ro_2 ra_4 vc_6 os li fo2 ro2 ra2 vc2 os2 li2)) (wc := (w_OfOf cy qos qos2 os os2)) (w1 := (w_OfOf cy qos qos2 os_8 os2)) (wn := (w_FiFi cy qfo qro qra qvc qos qli qfo2 qro2 qra2 qvc2 qos2 qli2 fo ro_2 ra_4 vc_6 os_8 li fo2 ro2 ra2 vc2 os2 li2)) [14, 15, 16, 17, 18, 37, 38, 39, 40, 41] [none, none, none, none, none, none, none, none, none, none, none, none, none, none, some 0, some 1, some 2, some 3, some 4, none, none, none, none, none, none, none, none, none, none, none, none, none, none, none, none, none, none, some 5, some 6, some 7, some 8, some 9, none, none, none, none] (by decide +kernel) rfl rfl rfl) (cw_X2_66 hts ⟨Nat.le_of_ble_eq_true rfl, Nat.le_of_ble_eq_true rfl⟩) 0 (ci := 4) rfl rfl rfl (c_X4_copyFrom l D cy qos qos2 os os2 os_8 hc_7) rfl hl.1 (Nat.le_of_ble_eq_true rfl) ⟨Nat.le_refl _, Nat.le_refl _⟩ dX2_copyFrom_41 (fun H locs hP hD hS => ?_)
  refine lv_aload_n hx hb dX2_copyFrom_44 rfl (lv_at hl 0 rfl) ?_
  refine gf_X2_42 hx hb hts hown hK hP 0 rfl rfl dX2_copyFrom_45 ?_
  refine lv_aload_n hx hb dX2_copyFrom_48 rfl (lv_at hl 1 rfl) ?_
  refine gf_X2_42 hx hb hts hown hK hP 23 rfl rfl dX2_copyFrom_49 ?_
  obtain ⟨li_10, hc_9, hp⟩ := bn1_s hp
  refine k_RVV (As := [.ref (qli2 0)]) (rest := []) ⟨hx, hb, hml, hown, hts⟩ hK hP hD hS hA (FrS_set (ws := (w_FiFi cy qfo qro qra qvc qos qli qfo2 qro2 qra2 qvc2 qos2 qli2 fo ro_2 ra_4 vc_6 os_8 li fo2 ro2 ra2 vc2 os2 li2)) (wc := (w_LiLi cy qli qli2 li li2)) (w1 := (w_LiLi cy qli qli2 li_10 li2)) (wn := (w_FiFi cy qfo qro qra qvc qos qli qfo2 qro2 qra2 qvc2 qos2 qli2 fo ro_2 ra_4 vc_6 os_8 li_10 fo2 ro2 ra2 vc2 os2 li2)) [19, 20, 21, 22, 42, 43, 44, 45] [none, none, none, none, none, none, none, none, none, none, none, none, none, none, none, none, none, none, none, some 0, some 1, some 2, some 3, none, none, none, none, none, none, none, none, none, none, none, none, none, none, none, none, none, none, none, some 4, some 5, some 6, some 7] (by decide +kernel) rfl rfl rfl) (cw_X2_69 hts ⟨Nat.le_of_ble_eq_true rfl, Nat.le_of_ble_eq_true rfl⟩) 0 (ci := 3) rfl rfl rfl (c_X3_copyFrom l D cy qli qli2 li li2 li_10 hc_9) rfl hl.1 (Nat.le_of_ble_eq_true rfl) ⟨Nat.le_refl _, Nat.le_refl _⟩ dX2_copyFrom_52 (fun H locs hP hD hS => ?_)
  refine lv_aload_n hx hb dX2_copyFrom_55 rfl (lv_at hl 1 rfl) ?_
  refine gf_X2_46 hx hb hts hown hK hP 23 rfl rfl dX2_copyFrom_56 ?_
  refine lv_iconst (v := 0) hx hb dX2_copyFrom_59 (by decide) ?_
  refine lv_aload_n hx hb dX2_copyFrom_60 rfl (lv_at hl 0 rfl) ?_
  refine gf_X2_46 hx hb hts hown hK hP 0 rfl rfl dX2_copyFrom_61 ?_
  refine lv_iconst (v := 0) hx hb dX2_copyFrom_64 (by decide) ?_
  refine lv_bipush (v := 20) hx hb dX2_copyFrom_65 (by decide) ?_
  obtain ⟨fo_11, efo_11⟩ : ∃ y : Mem, y = upA fo 5 (va_cpy (fo2 5) (fo 5) (0 : Int32).toNatClampNeg (0 : Int32).toNatClampNeg (20 : Int32).toNatClampNeg) := ⟨_, rfl⟩
  have hp := stk_e hp efo_11
  refine ac_X2_72 hx hb (by rw [hml]; exact hl.1.symm) hts hown hK hP hD hS (wn := (w_FiFi cy qfo qro qra qvc qos qli qfo2 qro2 qra2 qvc2 qos2 qli2 fo_11 ro_2 ra_4 vc_6 os_8 li_10 fo2 ro2 ra2 vc2 os2 li2)) 24 1 rfl rfl (by decide) (by decide) (by decide) (Nat.le_of_ble_eq_true rfl) (by decide) (by subst efo_11; rfl) dX2_copyFrom_67 (fun H locs hP hD hS => ?_)
  refine lv_aload_n hx hb dX2_copyFrom_70 rfl (lv_at hl 1 rfl) ?_
  refine gf_X2_50 hx hb hts hown hK hP 23 rfl rfl dX2_copyFrom_71 ?_
  refine lv_iconst (v := 0) hx hb dX2_copyFrom_74 (by decide) ?_
  refine lv_aload_n hx hb dX2_copyFrom_75 rfl (lv_at hl 0 rfl) ?_
  refine gf_X2_50 hx hb hts hown hK hP 0 rfl rfl dX2_copyFrom_76 ?_
  refine lv_iconst (v := 0) hx hb dX2_copyFrom_79 (by decide) ?_
  refine lv_bipush (v := 20) hx hb dX2_copyFrom_80 (by decide) ?_
  obtain ⟨fo_12, efo_12⟩ : ∃ y : Mem, y = upA fo_11 6 (va_cpy (fo2 6) (fo_11 6) (0 : Int32).toNatClampNeg (0 : Int32).toNatClampNeg (20 : Int32).toNatClampNeg) := ⟨_, rfl⟩
  have hp := stk_e hp efo_12
  refine ac_X2_72 hx hb (by rw [hml]; exact hl.1.symm) hts hown hK hP hD hS (wn := (w_FiFi cy qfo qro qra qvc qos qli qfo2 qro2 qra2 qvc2 qos2 qli2 fo_12 ro_2 ra_4 vc_6 os_8 li_10 fo2 ro2 ra2 vc2 os2 li2)) 25 2 rfl rfl (by decide) (by decide) (by decide) (Nat.le_of_ble_eq_true rfl) (by decide) (by subst efo_12; rfl) dX2_copyFrom_82 (fun H locs hP hD hS => ?_)
  refine lv_aload_n hx hb dX2_copyFrom_85 rfl (lv_at hl 1 rfl) ?_
  refine gf_X2_53 hx hb hts hown hK hP 23 rfl rfl dX2_copyFrom_86 ?_
  refine lv_iconst (v := 0) hx hb dX2_copyFrom_89 (by decide) ?_
  refine lv_aload_n hx hb dX2_copyFrom_90 rfl (lv_at hl 0 rfl) ?_
  refine gf_X2_53 hx hb hts hown hK hP 0 rfl rfl dX2_copyFrom_91 ?_
  refine lv_iconst (v := 0) hx hb dX2_copyFrom_94 (by decide) ?_
  refine lv_bipush (v := 20) hx hb dX2_copyFrom_95 (by decide) ?_
  obtain ⟨fo_13, efo_13⟩ : ∃ y : Mem, y = upA fo_12 7 (va_cpy (fo2 7) (fo_12 7) (0 : Int32).toNatClampNeg (0 : Int32).toNatClampNeg (20 : Int32).toNatClampNeg) := ⟨_, rfl⟩
  have hp := stk_e hp efo_13
  refine ac_X2_72 hx hb (by rw [hml]; exact hl.1.symm) hts hown hK hP hD hS (wn := (w_FiFi cy qfo qro qra qvc qos qli qfo2 qro2 qra2 qvc2 qos2 qli2 fo_13 ro_2 ra_4 vc_6 os_8 li_10 fo2 ro2 ra2 vc2 os2 li2)) 26 3 rfl rfl (by decide) (by decide) (by decide) (Nat.le_of_ble_eq_true rfl) (by decide) (by subst efo_13; rfl) dX2_copyFrom_97 (fun H locs hP hD hS => ?_)
  refine lv_aload_n hx hb dX2_copyFrom_100 rfl (lv_at hl 0 rfl) ?_
  refine lv_aload_n hx hb dX2_copyFrom_101 rfl (lv_at hl 1 rfl) ?_
  refine gf_X2_78 hx hb hts hown hK hP 23 rfl rfl dX2_copyFrom_102 ?_
  obtain ⟨fo_14, efo_14⟩ : ∃ y : Mem, y = upm fo_13 8 0 (fo2 8 0) := ⟨_, rfl⟩
  have hp := stk_e hp efo_14
  refine pf_X2_78 hx hb hts hown hK hP hD hS (wn := (w_FiFi cy qfo qro qra qvc qos qli qfo2 qro2 qra2 qvc2 qos2 qli2 fo_14 ro_2 ra_4 vc_6 os_8 li_10 fo2 ro2 ra2 vc2 os2 li2)) 0 rfl (Nat.le_of_ble_eq_true rfl) (by subst efo_14; rfl) dX2_copyFrom_105 (fun H locs hP hD hS => ?_)
  refine lv_aload_n hx hb dX2_copyFrom_108 rfl (lv_at hl 0 rfl) ?_
  refine lv_aload_n hx hb dX2_copyFrom_109 rfl (lv_at hl 1 rfl) ?_
  refine gf_X2_82 hx hb hts hown hK hP 23 rfl rfl dX2_copyFrom_110 ?_
  obtain ⟨fo_15, efo_15⟩ : ∃ y : Mem, y = upm fo_14 9 0 (fo2 9 0) := ⟨_, rfl⟩
  have hp := stk_e hp efo_15
  refine pf_X2_82 hx hb hts hown hK hP hD hS (wn := (w_FiFi cy qfo qro qra qvc qos qli qfo2 qro2 qra2 qvc2 qos2 qli2 fo_15 ro_2 ra_4 vc_6 os_8 li_10 fo2 ro2 ra2 vc2 os2 li2)) 0 rfl (Nat.le_of_ble_eq_true rfl) (by subst efo_15; rfl) dX2_copyFrom_113 (fun H locs hP hD hS => ?_)
  refine lv_aload_n hx hb dX2_copyFrom_116 rfl (lv_at hl 0 rfl) ?_
  refine lv_aload_n hx hb dX2_copyFrom_117 rfl (lv_at hl 1 rfl) ?_
  refine gf_X2_85 hx hb hts hown hK hP 23 rfl rfl dX2_copyFrom_118 ?_
  obtain ⟨hz_17, hp⟩ := ckB_s hp
  obtain ⟨fo_16, efo_16⟩ : ∃ y : Mem, y = upm fo_15 10 0 (fo2 10 0) := ⟨_, rfl⟩
  have hp := stk_e hp efo_16
  refine pf_X2_85 hx hb hts hown hK hP hD hS (wn := (w_FiFi cy qfo qro qra qvc qos qli qfo2 qro2 qra2 qvc2 qos2 qli2 fo_16 ro_2 ra_4 vc_6 os_8 li_10 fo2 ro2 ra2 vc2 os2 li2)) 0 rfl (Nat.le_of_ble_eq_true rfl) hz_17 (by subst efo_16; rfl) dX2_copyFrom_121 (fun H locs hP hD hS => ?_)
  simp only [Option.some.injEq, Prod.mk.injEq] at hp
  obtain ⟨rfl, rfl, rfl, rfl, rfl, rfl⟩ := hp
  exact e_RV hx hb hr hk hP hD hS dX2_copyFrom_124
/-! StormSlots$Field.takeRoster(LStormSlots$Roster;)V -/
def Fi_takeRoster (fo : Mem) (ro : Mem) (vc : Mem) (os : Mem) (li : Mem) (ro2 : Mem) : Option (Mem × Mem × Mem × Mem × Mem) :=
  bn1 (Ro_copyFrom ro ro2) (fun ro_2 => bn3 (Fi_clearPlan fo vc os) (fun fo_4 vc_5 os_6 => stk (upm fo_4 10 0 0) (fun fo_7 => stk (upm li 3 0 0) (fun li_8 => some (fo_7, ro_2, vc_5, os_6, li_8)))))
set_option maxHeartbeats 4000000 in
set_option maxRecDepth 100000 in
theorem c_X2_takeRoster (l : Launch) (D : va_G) (cy : Nat → ClassId) (qfo qro qra qvc qos qli qro2 : Nat → Nat) (fo ro ra vc os li ro2 : Mem) (fo' ro' vc' os' li' : Mem) (hp : Fi_takeRoster fo ro vc os li ro2 = some (fo', ro', vc', os', li')) : RV l yX2_takeRoster cX2_takeRoster 2 3 D cy [.ref (qfo 0), .ref (qro2 0)] (w_FiRo cy qfo qro qra qvc qos qli qro2 fo ro ra vc os li ro2) (w_FiRo cy qfo qro qra qvc qos qli qro2 fo' ro' ra vc' os' li' ro2) := by
  refine RV_of RX2 rfl (by decide) (Nat.le_of_ble_eq_true rfl) ?_
  intro p e s m below meth c A C0 hK hP hD hS hA ls hl
  obtain ⟨hx, hb, hr, hml, hown, hts, hk⟩ := id C0
  unfold Fi_takeRoster at hp
  have hl : lv_has ls 2 [(0, .ref (qfo 0)), (1, .ref (qro2 0))] := hl
  refine lv_aload_n hx hb dX2_takeRoster_0 rfl (lv_at hl 0 rfl) ?_
  refine gf_X2_12 hx hb hts hown hK hP 0 rfl rfl dX2_takeRoster_1 ?_
  refine lv_aload_n hx hb dX2_takeRoster_4 rfl (lv_at hl 1 rfl) ?_
  obtain ⟨ro_2, hc_1, hp⟩ := bn1_s hp
  refine k_RVV (As := [.ref (qro2 0)]) (rest := []) ⟨hx, hb, hml, hown, hts⟩ hK hP hD hS hA (FrS_set (ws := (w_FiRo cy qfo qro qra qvc qos qli qro2 fo ro ra vc os li ro2)) (wc := (w_RoRo cy qro qro2 ro ro2)) (w1 := (w_RoRo cy qro qro2 ro_2 ro2)) (wn := (w_FiRo cy qfo qro qra qvc qos qli qro2 fo ro_2 ra vc os li ro2)) [4, 5, 6, 7, 8, 23, 24, 25, 26, 27] [none, none, none, none, some 0, some 1, some 2, some 3, some 4, none, none, none, none, none, none, none, none, none, none, none, none, none, none, some 5, some 6, some 7, some 8, some 9] (by decide +kernel) rfl rfl rfl) (cw_X2_56 hts ⟨Nat.le_of_ble_eq_true rfl, Nat.le_of_ble_eq_true rfl⟩) 0 (ci := 9) rfl rfl rfl (c_X9_copyFrom l D cy qro qro2 ro ro2 ro_2 hc_1) rfl hl.1 (Nat.le_of_ble_eq_true rfl) ⟨Nat.le_refl _, Nat.le_refl _⟩ dX2_takeRoster_5 (fun H locs hP hD hS => ?_)
  refine lv_aload_n hx hb dX2_takeRoster_8 rfl (lv_at hl 0 rfl) ?_
  obtain ⟨fo_4, vc_5, os_6, hc_3, hp⟩ := bn3_s hp
  refine k_RVV (As := []) (rest := []) ⟨hx, hb, hml, hown, hts⟩ hK hP hD hS hA (FrS_set (ws := (w_FiRo cy qfo qro qra qvc qos qli qro2 fo ro_2 ra vc os li ro2)) (wc := (w_Fi cy qfo qro qra qvc qos qli fo ro_2 ra vc os li)) (w1 := (w_Fi cy qfo qro qra qvc qos qli fo_4 ro_2 ra vc_5 os_6 li)) (wn := (w_FiRo cy qfo qro qra qvc qos qli qro2 fo_4 ro_2 ra vc_5 os_6 li ro2)) [0, 1, 2, 3, 4, 5, 6, 7, 8, 9, 10, 11, 12, 13, 14, 15, 16, 17, 18, 19, 20, 21, 22] [some 0, some 1, some 2, some 3, some 4, some 5, some 6, some 7, some 8, some 9, some 10, some 11, some 12, some 13, some 14, some 15, some 16, some 17, some 18, some 19, some 20, some 21, some 22, none, none, none, none, none] (by decide +kernel) rfl rfl rfl) (cw_X2_89 hts ⟨Nat.le_of_ble_eq_true rfl, Nat.le_of_ble_eq_true rfl⟩) 0 (ci := 2) rfl rfl rfl (c_X2_clearPlan l D cy qfo qro qra qvc qos qli fo ro_2 ra vc os li fo_4 vc_5 os_6 hc_3) rfl hl.1 (Nat.le_of_ble_eq_true rfl) ⟨Nat.le_refl _, Nat.le_refl _⟩ dX2_takeRoster_9 (fun H locs hP hD hS => ?_)
  refine lv_aload_n hx hb dX2_takeRoster_12 rfl (lv_at hl 0 rfl) ?_
  refine lv_iconst (v := 0) hx hb dX2_takeRoster_13 (by decide) ?_
  obtain ⟨fo_7, efo_7⟩ : ∃ y : Mem, y = upm fo_4 10 0 0 := ⟨_, rfl⟩
  have hp := stk_e hp efo_7
  refine pf_X2_85 hx hb hts hown hK hP hD hS (wn := (w_FiRo cy qfo qro qra qvc qos qli qro2 fo_7 ro_2 ra vc_5 os_6 li ro2)) 0 rfl (Nat.le_of_ble_eq_true rfl) (Or.inl rfl) (by subst efo_7; rfl) dX2_takeRoster_14 (fun H locs hP hD hS => ?_)
  refine lv_aload_n hx hb dX2_takeRoster_17 rfl (lv_at hl 0 rfl) ?_
  refine gf_X2_42 hx hb hts hown hK hP 0 rfl rfl dX2_takeRoster_18 ?_
  refine lv_iconst (v := 0) hx hb dX2_takeRoster_21 (by decide) ?_
  obtain ⟨li_8, eli_8⟩ : ∃ y : Mem, y = upm li 3 0 0 := ⟨_, rfl⟩
  have hp := stk_e hp eli_8
  refine pf_X2_92 hx hb hts hown hK hP hD hS (wn := (w_FiRo cy qfo qro qra qvc qos qli qro2 fo_7 ro_2 ra vc_5 os_6 li_8 ro2)) 19 rfl (Nat.le_of_ble_eq_true rfl) (by subst eli_8; rfl) dX2_takeRoster_22 (fun H locs hP hD hS => ?_)
  simp only [Option.some.injEq, Prod.mk.injEq] at hp
  obtain ⟨rfl, rfl, rfl, rfl, rfl⟩ := hp
  exact e_RV hx hb hr hk hP hD hS dX2_takeRoster_25
end SG11fieldb
