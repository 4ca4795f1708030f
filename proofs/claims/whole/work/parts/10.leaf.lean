section SG10leaf
variable {p : Program} {l : Launch} {e : Env} {s : State} {m : MethodId} {args : Array Value} {below : List Frame} {meth : Method} {c : Code} {D : va_G} {A : Nat → Prop} {cy : Nat → ClassId}
abbrev w_By (cy : Nat → ClassId) (qbs : Nat → Nat) (bs : Mem) : va_W := [(qbs 0, .inr (0, [.ref (qbs 1), .int (bs 1 0)])), (qbs 1, .inl (cy 1, 320, .inl (bs 0)))]
abbrev w_Di (cy : Nat → ClassId) (qdi : Nat → Nat) (di : Mem) : va_W := [(qdi 0, .inr (1, [.int (di 0 0)]))]
abbrev w_Li (cy : Nat → ClassId) (qli : Nat → Nat) (li : Mem) : va_W := [(qli 0, .inr (3, [.ref (qli 1), .ref (qli 2), .ref (qli 3), .int (li 3 0)])), (qli 1, .inl (cy 0, 12, .inl (li 0))), (qli 2, .inl (cy 0, 12, .inl (li 1))), (qli 3, .inl (cy 0, 12, .inl (li 2)))]
abbrev w_LiLi (cy : Nat → ClassId) (qli : Nat → Nat) (qli2 : Nat → Nat) (li : Mem) (li2 : Mem) : va_W := [(qli 0, .inr (3, [.ref (qli 1), .ref (qli 2), .ref (qli 3), .int (li 3 0)])), (qli 1, .inl (cy 0, 12, .inl (li 0))), (qli 2, .inl (cy 0, 12, .inl (li 1))), (qli 3, .inl (cy 0, 12, .inl (li 2))), (qli2 0, .inr (3, [.ref (qli2 1), .ref (qli2 2), .ref (qli2 3), .int (li2 3 0)])), (qli2 1, .inl (cy 0, 12, .inl (li2 0))), (qli2 2, .inl (cy 0, 12, .inl (li2 1))), (qli2 3, .inl (cy 0, 12, .inl (li2 2)))]
abbrev w_Of (cy : Nat → ClassId) (qos : Nat → Nat) (os : Mem) : va_W := [(qos 0, .inr (4, [.ref (qos 1), .ref (qos 2), .ref (qos 3), .ref (qos 4), .int (os 4 0)])), (qos 1, .inl (cy 0, 8, .inl (os 0))), (qos 2, .inl (cy 0, 8, .inl (os 1))), (qos 3, .inl (cy 0, 8, .inl (os 2))), (qos 4, .inl (cy 0, 8, .inl (os 3)))]
abbrev w_OfOf (cy : Nat → ClassId) (qos : Nat → Nat) (qos2 : Nat → Nat) (os : Mem) (os2 : Mem) : va_W := [(qos 0, .inr (4, [.ref (qos 1), .ref (qos 2), .ref (qos 3), .ref (qos 4), .int (os 4 0)])), (qos 1, .inl (cy 0, 8, .inl (os 0))), (qos 2, .inl (cy 0, 8, .inl (os 1))), (qos 3, .inl (cy 0, 8, .inl (os 2))), (qos 4, .inl (cy 0, 8, .inl (os 3))), (qos2 0, .inr (4, [.ref (qos2 1), .ref (qos2 2), .ref (qos2 3), .ref (qos2 4), .int (os2 4 0)])), (qos2 1, .inl (cy 0, 8, .inl (os2 0))), (qos2 2, .inl (cy 0, 8, .inl (os2 1))), (qos2 3, .inl (cy 0, 8, .inl (os2 2))), (qos2 4, .inl (cy 0, 8, .inl (os2 3)))]
abbrev w_Ra (cy : Nat → ClassId) (qra : Nat → Nat) (ra : Mem) : va_W := [(qra 0, .inr (7, [.ref (qra 1)])), (qra 1, .inl (cy 0, 12, .inl (ra 0)))]
abbrev w_RaRa (cy : Nat → ClassId) (qra : Nat → Nat) (qra2 : Nat → Nat) (ra : Mem) (ra2 : Mem) : va_W := [(qra 0, .inr (7, [.ref (qra 1)])), (qra 1, .inl (cy 0, 12, .inl (ra 0))), (qra2 0, .inr (7, [.ref (qra2 1)])), (qra2 1, .inl (cy 0, 12, .inl (ra2 0)))]
abbrev w_Ro (cy : Nat → ClassId) (qro : Nat → Nat) (ro : Mem) : va_W := [(qro 0, .inr (9, [.ref (qro 1), .ref (qro 2), .ref (qro 3), .ref (qro 4), .int (ro 4 0)])), (qro 1, .inl (cy 0, 20, .inl (ro 0))), (qro 2, .inl (cy 0, 20, .inl (ro 1))), (qro 3, .inl (cy 0, 20, .inl (ro 2))), (qro 4, .inl (cy 0, 20, .inl (ro 3)))]
abbrev w_RdBy (cy : Nat → ClassId) (qrd : Nat → Nat) (qbs : Nat → Nat) (rd : Mem) (bs : Mem) : va_W := [(qrd 0, .inr (8, [.int (rd 0 0), .int (rd 1 0), .int (rd 2 0)])), (qbs 0, .inr (0, [.ref (qbs 1), .int (bs 1 0)])), (qbs 1, .inl (cy 1, 320, .inl (bs 0)))]
abbrev w_Rd (cy : Nat → ClassId) (qrd : Nat → Nat) (rd : Mem) : va_W := [(qrd 0, .inr (8, [.int (rd 0 0), .int (rd 1 0), .int (rd 2 0)]))]
abbrev w_RdByRo (cy : Nat → ClassId) (qrd : Nat → Nat) (qbs : Nat → Nat) (qro : Nat → Nat) (rd : Mem) (bs : Mem) (ro : Mem) : va_W := [(qrd 0, .inr (8, [.int (rd 0 0), .int (rd 1 0), .int (rd 2 0)])), (qbs 0, .inr (0, [.ref (qbs 1), .int (bs 1 0)])), (qbs 1, .inl (cy 1, 320, .inl (bs 0))), (qro 0, .inr (9, [.ref (qro 1), .ref (qro 2), .ref (qro 3), .ref (qro 4), .int (ro 4 0)])), (qro 1, .inl (cy 0, 20, .inl (ro 0))), (qro 2, .inl (cy 0, 20, .inl (ro 1))), (qro 3, .inl (cy 0, 20, .inl (ro 2))), (qro 4, .inl (cy 0, 20, .inl (ro 3)))]
abbrev w_RoBy (cy : Nat → ClassId) (qro : Nat → Nat) (qbs : Nat → Nat) (ro : Mem) (bs : Mem) : va_W := [(qro 0, .inr (9, [.ref (qro 1), .ref (qro 2), .ref (qro 3), .ref (qro 4), .int (ro 4 0)])), (qro 1, .inl (cy 0, 20, .inl (ro 0))), (qro 2, .inl (cy 0, 20, .inl (ro 1))), (qro 3, .inl (cy 0, 20, .inl (ro 2))), (qro 4, .inl (cy 0, 20, .inl (ro 3))), (qbs 0, .inr (0, [.ref (qbs 1), .int (bs 1 0)])), (qbs 1, .inl (cy 1, 320, .inl (bs 0)))]
abbrev w_RoRo (cy : Nat → ClassId) (qro : Nat → Nat) (qro2 : Nat → Nat) (ro : Mem) (ro2 : Mem) : va_W := [(qro 0, .inr (9, [.ref (qro 1), .ref (qro 2), .ref (qro 3), .ref (qro 4), .int (ro 4 0)])), (qro 1, .inl (cy 0, 20, .inl (ro 0))), (qro 2, .inl (cy 0, 20, .inl (ro 1))), (qro 3, .inl (cy 0, 20, .inl (ro 2))), (qro 4, .inl (cy 0, 20, .inl (ro 3))), (qro2 0, .inr (9, [.ref (qro2 1), .ref (qro2 2), .ref (qro2 3), .ref (qro2 4), .int (ro2 4 0)])), (qro2 1, .inl (cy 0, 20, .inl (ro2 0))), (qro2 2, .inl (cy 0, 20, .inl (ro2 1))), (qro2 3, .inl (cy 0, 20, .inl (ro2 2))), (qro2 4, .inl (cy 0, 20, .inl (ro2 3)))]
abbrev w_Va (cy : Nat → ClassId) (qvc : Nat → Nat) (vc : Mem) : va_W := [(qvc 0, .inr (10, [.ref (qvc 1), .ref (qvc 2), .int (vc 2 0)])), (qvc 1, .inl (cy 0, 20, .inl (vc 0))), (qvc 2, .inl (cy 0, 20, .inl (vc 1)))]
abbrev w_VaVa (cy : Nat → ClassId) (qvc : Nat → Nat) (qvc2 : Nat → Nat) (vc : Mem) (vc2 : Mem) : va_W := [(qvc 0, .inr (10, [.ref (qvc 1), .ref (qvc 2), .int (vc 2 0)])), (qvc 1, .inl (cy 0, 20, .inl (vc 0))), (qvc 2, .inl (cy 0, 20, .inl (vc 1))), (qvc2 0, .inr (10, [.ref (qvc2 1), .ref (qvc2 2), .int (vc2 2 0)])), (qvc2 1, .inl (cy 0, 20, .inl (vc2 0))), (qvc2 2, .inl (cy 0, 20, .inl (vc2 1)))]
/-! StormSlots$Bytes.append(I)V -/
def By_append (bs : Mem) (p1 : Int32) : Option (Mem) :=
  if (bs 1 0) < 0 then some bs else if 320 ≤ (bs 1 0) then some bs else ckI (bs 1 0) 320 (stk (upm bs 0 (bs 1 0).toNatClampNeg (vp_nar .byte (p1.toInt8.toInt32))) (fun bs_4 => stk (upm bs_4 1 0 ((bs_4 1 0) + 1)) (fun bs_5 => some bs_5)))
set_option maxHeartbeats 4000000 in
set_option maxRecDepth 100000 in
theorem c_X0_append (l : Launch) (D : va_G) (cy : Nat → ClassId) (qbs : Nat → Nat) (bs : Mem) (p1 : Int32) (bs' : Mem) (hp : By_append bs p1 = some bs') : RV l yX0_append cX0_append 2 0 D cy [.ref (qbs 0), .int p1] (w_By cy qbs bs) (w_By cy qbs bs') := by
  refine RV_of RX0 rfl (by decide) (Nat.le_of_ble_eq_true rfl) ?_
  intro p e s m below meth c A C0 hK hP hD hS hA ls hl
  obtain ⟨hx, hb, hr, hml, hown, hts, hk⟩ := id C0
  unfold By_append at hp
  have hl : lv_has ls 2 [(0, .ref (qbs 0)), (1, .int p1)] := hl
  refine lv_aload_n hx hb dX0_append_0 rfl (lv_at hl 0 rfl) ?_
  refine gf_X0_15 hx hb hts hown hK hP 0 rfl rfl dX0_append_1 ?_
  refine lv_if_lt (tgt := 38) hx hb dX0_append_4 (by decide) (fun c_1 => ?_) (fun c_1 => ?_)
  · have hp := ite_p hp c_1
    simp only [Option.some.injEq, Prod.mk.injEq] at hp
    subst hp
    exact e_RV hx hb hr hk hP hD hS dX0_append_38
  · have hp := ite_n hp c_1
    refine lv_aload_n hx hb dX0_append_7 rfl (lv_at hl 0 rfl) ?_
    refine gf_X0_15 hx hb hts hown hK hP 0 rfl rfl dX0_append_8 ?_
    refine lv_sipush (v := 320) hx hb dX0_append_11 (by decide) ?_
    refine lv_icmp_ge (tgt := 38) hx hb dX0_append_14 (by decide) (fun c_2 => ?_) (fun c_2 => ?_)
    · have hp := ite_p hp c_2
      simp only [Option.some.injEq, Prod.mk.injEq] at hp
      subst hp
      exact e_RV hx hb hr hk hP hD hS dX0_append_38
    · have hp := ite_n hp c_2
      refine lv_aload_n hx hb dX0_append_17 rfl (lv_at hl 0 rfl) ?_
      refine gf_X0_11 hx hb hts hown hK hP 0 rfl rfl dX0_append_18 ?_
      refine lv_aload_n hx hb dX0_append_21 rfl (lv_at hl 0 rfl) ?_
      refine gf_X0_15 hx hb hts hown hK hP 0 rfl rfl dX0_append_22 ?_
      refine lv_iload_n hx hb dX0_append_25 rfl (lv_at hl 1 rfl) ?_
      refine lv_i2b hx hb dX0_append_26 rfl ?_
      obtain ⟨hi_3, hp⟩ := ckI_s hp
      obtain ⟨bs_4, ebs_4⟩ : ∃ y : Mem, y = upm bs 0 (bs 1 0).toNatClampNeg (vp_nar .byte (p1.toInt8.toInt32)) := ⟨_, rfl⟩
      have hp := stk_e hp ebs_4
      refine r_bst hx hb hK hP hD hS (wn := (w_By cy qbs bs_4)) 1 rfl hi_3 (by subst ebs_4; rfl) dX0_append_27 (fun H locs hP hD hS => ?_)
      refine lv_aload_n hx hb dX0_append_28 rfl (lv_at hl 0 rfl) ?_
      refine lv_dup hx hb dX0_append_29 rfl ?_
      refine gf_X0_15 hx hb hts hown hK hP 0 rfl rfl dX0_append_30 ?_
      refine lv_iconst (v := 1) hx hb dX0_append_33 (by decide) ?_
      refine lv_iadd hx hb dX0_append_34 ?_
      obtain ⟨bs_5, ebs_5⟩ : ∃ y : Mem, y = upm bs_4 1 0 ((bs_4 1 0) + 1) := ⟨_, rfl⟩
      have hp := stk_e hp ebs_5
      refine pf_X0_15 hx hb hts hown hK hP hD hS (wn := (w_By cy qbs bs_5)) 0 rfl (Nat.le_of_ble_eq_true rfl) (by subst ebs_5; rfl) dX0_append_35 (fun H locs hP hD hS => ?_)
      simp only [Option.some.injEq, Prod.mk.injEq] at hp
      subst hp
      exact e_RV hx hb hr hk hP hD hS dX0_append_38
/-! StormSlots$Bytes.appendFour(I)V -/
def By_appendFour (bs : Mem) (p1 : Int32) : Option (Mem) :=
  bn1 (By_append bs (p1 >>> (24 &&& 31))) (fun bs_2 => bn1 (By_append bs_2 (p1 >>> (16 &&& 31))) (fun bs_4 => bn1 (By_append bs_4 (p1 >>> (8 &&& 31))) (fun bs_6 => bn1 (By_append bs_6 p1) (fun bs_8 => some bs_8))))
set_option maxHeartbeats 4000000 in
set_option maxRecDepth 100000 in
theorem c_X0_appendFour (l : Launch) (D : va_G) (cy : Nat → ClassId) (qbs : Nat → Nat) (bs : Mem) (p1 : Int32) (bs' : Mem) (hp : By_appendFour bs p1 = some bs') : RV l yX0_appendFour cX0_appendFour 2 1 D cy [.ref (qbs 0), .int p1] (w_By cy qbs bs) (w_By cy qbs bs') := by
  refine RV_of RX0 rfl (by decide) (Nat.le_of_ble_eq_true rfl) ?_
  intro p e s m below meth c A C0 hK hP hD hS hA ls hl
  obtain ⟨hx, hb, hr, hml, hown, hts, hk⟩ := id C0
  unfold By_appendFour at hp
  have hl : lv_has ls 2 [(0, .ref (qbs 0)), (1, .int p1)] := hl
  refine lv_aload_n hx hb dX0_appendFour_0 rfl (lv_at hl 0 rfl) ?_
  refine lv_iload_n hx hb dX0_appendFour_1 rfl (lv_at hl 1 rfl) ?_
  refine lv_bipush (v := 24) hx hb dX0_appendFour_2 (by decide) ?_
  refine lv_ishr hx hb dX0_appendFour_4 ?_
  obtain ⟨bs_2, hc_1, hp⟩ := bn1_s hp
  refine k_RVV (As := [.int (p1 >>> (24 &&& 31))]) (rest := []) ⟨hx, hb, hml, hown, hts⟩ hK hP hD hS hA FrS_rf (cw_X0_19 hts ⟨Nat.le_of_ble_eq_true rfl, Nat.le_of_ble_eq_true rfl⟩) 0 (ci := 0) rfl rfl rfl (c_X0_append l D cy qbs bs (p1 >>> (24 &&& 31)) bs_2 hc_1) rfl hl.1 (Nat.le_of_ble_eq_true rfl) ⟨Nat.le_refl _, Nat.le_refl _⟩ dX0_appendFour_5 (fun H locs hP hD hS => ?_)
  refine lv_aload_n hx hb dX0_appendFour_8 rfl (lv_at hl 0 rfl) ?_
  refine lv_iload_n hx hb dX0_appendFour_9 rfl (lv_at hl 1 rfl) ?_
  refine lv_bipush (v := 16) hx hb dX0_appendFour_10 (by decide) ?_
  refine lv_ishr hx hb dX0_appendFour_12 ?_
  obtain ⟨bs_4, hc_3, hp⟩ := bn1_s hp
  refine k_RVV (As := [.int (p1 >>> (16 &&& 31))]) (rest := []) ⟨hx, hb, hml, hown, hts⟩ hK hP hD hS hA FrS_rf (cw_X0_19 hts ⟨Nat.le_of_ble_eq_true rfl, Nat.le_of_ble_eq_true rfl⟩) 0 (ci := 0) rfl rfl rfl (c_X0_append l D cy qbs bs_2 (p1 >>> (16 &&& 31)) bs_4 hc_3) rfl hl.1 (Nat.le_of_ble_eq_true rfl) ⟨Nat.le_refl _, Nat.le_refl _⟩ dX0_appendFour_13 (fun H locs hP hD hS => ?_)
  refine lv_aload_n hx hb dX0_appendFour_16 rfl (lv_at hl 0 rfl) ?_
  refine lv_iload_n hx hb dX0_appendFour_17 rfl (lv_at hl 1 rfl) ?_
  refine lv_bipush (v := 8) hx hb dX0_appendFour_18 (by decide) ?_
  refine lv_ishr hx hb dX0_appendFour_20 ?_
  obtain ⟨bs_6, hc_5, hp⟩ := bn1_s hp
  refine k_RVV (As := [.int (p1 >>> (8 &&& 31))]) (rest := []) ⟨hx, hb, hml, hown, hts⟩ hK hP hD hS hA FrS_rf (cw_X0_19 hts ⟨Nat.le_of_ble_eq_true rfl, Nat.le_of_ble_eq_true rfl⟩) 0 (ci := 0) rfl rfl rfl (c_X0_append l D cy qbs bs_4 (p1 >>> (8 &&& 31)) bs_6 hc_5) rfl hl.1 (Nat.le_of_ble_eq_true rfl) ⟨Nat.le_refl _, Nat.le_refl _⟩ dX0_appendFour_21 (fun H locs hP hD hS => ?_)
  refine lv_aload_n hx hb dX0_appendFour_24 rfl (lv_at hl 0 rfl) ?_
  refine lv_iload_n hx hb dX0_appendFour_25 rfl (lv_at hl 1 rfl) ?_
  obtain ⟨bs_8, hc_7, hp⟩ := bn1_s hp
  refine k_RVV (As := [.int p1]) (rest := []) ⟨hx, hb, hml, hown, hts⟩ hK hP hD hS hA FrS_rf (cw_X0_19 hts ⟨Nat.le_of_ble_eq_true rfl, Nat.le_of_ble_eq_true rfl⟩) 0 (ci := 0) rfl rfl rfl (c_X0_append l D cy qbs bs_6 p1 bs_8 hc_7) rfl hl.1 (Nat.le_of_ble_eq_true rfl) ⟨Nat.le_refl _, Nat.le_refl _⟩ dX0_appendFour_26 (fun H locs hP hD hS => ?_)
  simp only [Option.some.injEq, Prod.mk.injEq] at hp
  subst hp
  exact e_RV hx hb hr hk hP hD hS dX0_appendFour_29
/-! StormSlots$Bytes.appendNumber(I)V -/
def By_appendNumber_b37 (p1 : Int32) (bs : Mem) : Option (Mem) :=
  bn1 (By_append bs (48 + (p1 - p1 / 10 * 10))) (fun bs_8 => some bs_8)
def By_appendNumber_b17 (p1 : Int32) (bs : Mem) : Option (Mem) :=
  if p1 < 10 then By_appendNumber_b37 p1 bs else bn1 (By_append bs (48 + ((p1 / 10) - (p1 / 10) / 10 * 10))) (fun bs_6 => By_appendNumber_b37 p1 bs_6)
def By_appendNumber (bs : Mem) (p1 : Int32) : Option (Mem) :=
  if p1 < 100 then By_appendNumber_b17 p1 bs else bn1 (By_append bs (48 + (p1 / 100))) (fun bs_3 => By_appendNumber_b17 p1 bs_3)
set_option maxHeartbeats 4000000 in
set_option maxRecDepth 100000 in
theorem By_appendNumber_b37_w (C0 : cX RX0 cX0_appendNumber none 2 p s m args meth c) (hK : kN D cy s) {qbs : Nat → Nat} {p1 : Int32} {bs' : Mem} (hA : ∀ q, s.heap.size ≤ q → A q) {bs : Mem} {H : Heap} {locs : List Loc} (hP : va_P D vwCl (w_By cy qbs bs) H) (hD : va_D A (w_By cy qbs bs)) (hS : va_S A s.heap H locs) {ls : Array Slot} (hl : lv_has ls 2 [(0, .ref (qbs 0)), (1, .int p1)]) (hp : By_appendNumber_b37 p1 bs = some bs') : W p l e (rmD 1) s m args below meth c H locs 0 0 (qRV D below args s A (w_By cy qbs bs')) (F0 m 37 ls []) := by
  obtain ⟨hx, hb, hr, hml, hown, hts, hk⟩ := id C0
  unfold By_appendNumber_b37 at hp
  refine lv_aload_n hx hb dX0_appendNumber_37 rfl (lv_at hl 0 rfl) ?_
  refine lv_bipush (v := 48) hx hb dX0_appendNumber_38 (by decide) ?_
  refine lv_iload_n hx hb dX0_appendNumber_40 rfl (lv_at hl 1 rfl) ?_
  refine lv_bipush (v := 10) hx hb dX0_appendNumber_41 (by decide) ?_
  refine lv_irem hx hb dX0_appendNumber_43 (by decide) ?_
  refine lv_iadd hx hb dX0_appendNumber_44 ?_
  obtain ⟨bs_8, hc_7, hp⟩ := bn1_s hp
  refine k_RVV (As := [.int (48 + (p1 - p1 / 10 * 10))]) (rest := []) ⟨hx, hb, hml, hown, hts⟩ hK hP hD hS hA FrS_rf (cw_X0_19 hts ⟨Nat.le_of_ble_eq_true rfl, Nat.le_of_ble_eq_true rfl⟩) 0 (ci := 0) rfl rfl rfl (c_X0_append l D cy qbs bs (48 + (p1 - p1 / 10 * 10)) bs_8 hc_7) rfl hl.1 (Nat.le_of_ble_eq_true rfl) ⟨Nat.le_refl _, Nat.le_refl _⟩ dX0_appendNumber_45 (fun H locs hP hD hS => ?_)
  simp only [Option.some.injEq, Prod.mk.injEq] at hp
  subst hp
  exact e_RV hx hb hr hk hP hD hS dX0_appendNumber_48
set_option maxHeartbeats 4000000 in
set_option maxRecDepth 100000 in
theorem By_appendNumber_b17_w (C0 : cX RX0 cX0_appendNumber none 2 p s m args meth c) (hK : kN D cy s) {qbs : Nat → Nat} {p1 : Int32} {bs' : Mem} (hA : ∀ q, s.heap.size ≤ q → A q) {bs : Mem} {H : Heap} {locs : List Loc} (hP : va_P D vwCl (w_By cy qbs bs) H) (hD : va_D A (w_By cy qbs bs)) (hS : va_S A s.heap H locs) {ls : Array Slot} (hl : lv_has ls 2 [(0, .ref (qbs 0)), (1, .int p1)]) (hp : By_appendNumber_b17 p1 bs = some bs') : W p l e (rmD 1) s m args below meth c H locs 0 0 (qRV D below args s A (w_By cy qbs bs')) (F0 m 17 ls []) := by
  obtain ⟨hx, hb, hr, hml, hown, hts, hk⟩ := id C0
  unfold By_appendNumber_b17 at hp
  refine lv_iload_n hx hb dX0_appendNumber_17 rfl (lv_at hl 1 rfl) ?_
  refine lv_bipush (v := 10) hx hb dX0_appendNumber_18 (by decide) ?_
  refine lv_icmp_lt (tgt := 37) hx hb dX0_appendNumber_20 (by decide) (fun c_4 => ?_) (fun c_4 => ?_)
  · have hp := ite_p hp c_4
    exact By_appendNumber_b37_w C0 hK hA  hP hD hS hl hp
  · have hp := ite_n hp c_4
    refine lv_aload_n hx hb dX0_appendNumber_23 rfl (lv_at hl 0 rfl) ?_
    refine lv_bipush (v := 48) hx hb dX0_appendNumber_24 (by decide) ?_
    refine lv_iload_n hx hb dX0_appendNumber_26 rfl (lv_at hl 1 rfl) ?_
    refine lv_bipush (v := 10) hx hb dX0_appendNumber_27 (by decide) ?_
    refine lv_idiv hx hb dX0_appendNumber_29 (by decide) ?_
    refine lv_bipush (v := 10) hx hb dX0_appendNumber_30 (by decide) ?_
    refine lv_irem hx hb dX0_appendNumber_32 (by decide) ?_
    refine lv_iadd hx hb dX0_appendNumber_33 ?_
    obtain ⟨bs_6, hc_5, hp⟩ := bn1_s hp
    refine k_RVV (As := [.int (48 + ((p1 / 10) - (p1 / 10) / 10 * 10))]) (rest := []) ⟨hx, hb, hml, hown, hts⟩ hK hP hD hS hA FrS_rf (cw_X0_19 hts ⟨Nat.le_of_ble_eq_true rfl, Nat.le_of_ble_eq_true rfl⟩) 0 (ci := 0) rfl rfl rfl (c_X0_append l D cy qbs bs (48 + ((p1 / 10) - (p1 / 10) / 10 * 10)) bs_6 hc_5) rfl hl.1 (Nat.le_of_ble_eq_true rfl) ⟨Nat.le_refl _, Nat.le_refl _⟩ dX0_appendNumber_34 (fun H locs hP hD hS => ?_)
    exact By_appendNumber_b37_w C0 hK hA  hP hD hS hl hp
set_option maxHeartbeats 4000000 in
set_option maxRecDepth 100000 in
theorem c_X0_appendNumber (l : Launch) (D : va_G) (cy : Nat → ClassId) (qbs : Nat → Nat) (bs : Mem) (p1 : Int32) (bs' : Mem) (hp : By_appendNumber bs p1 = some bs') : RV l yX0_appendNumber cX0_appendNumber 2 1 D cy [.ref (qbs 0), .int p1] (w_By cy qbs bs) (w_By cy qbs bs') := by
  refine RV_of RX0 rfl (by decide) (Nat.le_of_ble_eq_true rfl) ?_
  intro p e s m below meth c A C0 hK hP hD hS hA ls hl
  obtain ⟨hx, hb, hr, hml, hown, hts, hk⟩ := id C0
  unfold By_appendNumber at hp
  have hl : lv_has ls 2 [(0, .ref (qbs 0)), (1, .int p1)] := hl
  refine lv_iload_n hx hb dX0_appendNumber_0 rfl (lv_at hl 1 rfl) ?_
  refine lv_bipush (v := 100) hx hb dX0_appendNumber_1 (by decide) ?_
  refine lv_icmp_lt (tgt := 17) hx hb dX0_appendNumber_3 (by decide) (fun c_1 => ?_) (fun c_1 => ?_)
  · have hp := ite_p hp c_1
    exact By_appendNumber_b17_w C0 hK hA  hP hD hS hl hp
  · have hp := ite_n hp c_1
    refine lv_aload_n hx hb dX0_appendNumber_6 rfl (lv_at hl 0 rfl) ?_
    refine lv_bipush (v := 48) hx hb dX0_appendNumber_7 (by decide) ?_
    refine lv_iload_n hx hb dX0_appendNumber_9 rfl (lv_at hl 1 rfl) ?_
    refine lv_bipush (v := 100) hx hb dX0_appendNumber_10 (by decide) ?_
    refine lv_idiv hx hb dX0_appendNumber_12 (by decide) ?_
    refine lv_iadd hx hb dX0_appendNumber_13 ?_
    obtain ⟨bs_3, hc_2, hp⟩ := bn1_s hp
    refine k_RVV (As := [.int (48 + (p1 / 100))]) (rest := []) ⟨hx, hb, hml, hown, hts⟩ hK hP hD hS hA FrS_rf (cw_X0_19 hts ⟨Nat.le_of_ble_eq_true rfl, Nat.le_of_ble_eq_true rfl⟩) 0 (ci := 0) rfl rfl rfl (c_X0_append l D cy qbs bs (48 + (p1 / 100)) bs_3 hc_2) rfl hl.1 (Nat.le_of_ble_eq_true rfl) ⟨Nat.le_refl _, Nat.le_refl _⟩ dX0_appendNumber_14 (fun H locs hP hD hS => ?_)
    exact By_appendNumber_b17_w C0 hK hA  hP hD hS hl hp
/-! StormSlots$Bytes.byteAt(I)I -/
def By_byteAt (bs : Mem) (p1 : Int32) : Option (Int32) :=
  if p1 < 0 then some (-1) else if (bs 1 0) ≤ p1 then some (-1) else if 320 ≤ p1 then some (-1) else ckI p1 320 (some ((bs 0 p1.toNatClampNeg) &&& 255))
set_option maxHeartbeats 4000000 in
set_option maxRecDepth 100000 in
theorem c_X0_byteAt (l : Launch) (D : va_G) (cy : Nat → ClassId) (qbs : Nat → Nat) (bs : Mem) (p1 : Int32) (r : Int32) (hp : By_byteAt bs p1 = some r) : RO l yX0_byteAt cX0_byteAt 2 (some .int) 0 D cy [.ref (qbs 0), .int p1] (w_By cy qbs bs) r := by
  refine RO_of RX0 rfl (by decide) (Nat.le_of_ble_eq_true rfl) ?_
  intro p e s m below meth c C0 hK hP ls hl
  obtain ⟨hx, hb, hr, hml, hown, hts, hk⟩ := id C0
  unfold By_byteAt at hp
  have hl : lv_has ls 2 [(0, .ref (qbs 0)), (1, .int p1)] := hl
  refine lv_iload_n hx hb dX0_byteAt_0 rfl (lv_at hl 1 rfl) ?_
  refine lv_if_lt (tgt := 32) hx hb dX0_byteAt_1 (by decide) (fun c_1 => ?_) (fun c_1 => ?_)
  · have hp := ite_p hp c_1
    refine lv_iconst (v := (-1)) hx hb dX0_byteAt_32 (by decide) ?_
    exact e_ROi hx hb hr hk dX0_byteAt_33 (Option.some.inj hp)
  · have hp := ite_n hp c_1
    refine lv_iload_n hx hb dX0_byteAt_4 rfl (lv_at hl 1 rfl) ?_
    refine lv_aload_n hx hb dX0_byteAt_5 rfl (lv_at hl 0 rfl) ?_
    refine gf_X0_15 hx hb hts hown hK hP 0 rfl rfl dX0_byteAt_6 ?_
    refine lv_icmp_ge (tgt := 32) hx hb dX0_byteAt_9 (by decide) (fun c_2 => ?_) (fun c_2 => ?_)
    · have hp := ite_p hp c_2
      refine lv_iconst (v := (-1)) hx hb dX0_byteAt_32 (by decide) ?_
      exact e_ROi hx hb hr hk dX0_byteAt_33 (Option.some.inj hp)
    · have hp := ite_n hp c_2
      refine lv_iload_n hx hb dX0_byteAt_12 rfl (lv_at hl 1 rfl) ?_
      refine lv_sipush (v := 320) hx hb dX0_byteAt_13 (by decide) ?_
      refine lv_icmp_ge (tgt := 32) hx hb dX0_byteAt_16 (by decide) (fun c_3 => ?_) (fun c_3 => ?_)
      · have hp := ite_p hp c_3
        refine lv_iconst (v := (-1)) hx hb dX0_byteAt_32 (by decide) ?_
        exact e_ROi hx hb hr hk dX0_byteAt_33 (Option.some.inj hp)
      · have hp := ite_n hp c_3
        refine lv_aload_n hx hb dX0_byteAt_19 rfl (lv_at hl 0 rfl) ?_
        refine gf_X0_11 hx hb hts hown hK hP 0 rfl rfl dX0_byteAt_20 ?_
        refine lv_iload_n hx hb dX0_byteAt_23 rfl (lv_at hl 1 rfl) ?_
        obtain ⟨hi_4, hp⟩ := ckI_s hp
        refine r_bld hx hb hK hP 1 rfl hi_4 dX0_byteAt_24 ?_
        refine lv_sipush (v := 255) hx hb dX0_byteAt_25 (by decide) ?_
        refine lv_iand hx hb dX0_byteAt_28 ?_
        refine lv_goto (tgt := 33) hx hb dX0_byteAt_29 (by decide) ?_
        exact e_ROi hx hb hr hk dX0_byteAt_33 (Option.some.inj hp)
/-! StormSlots$Dice.start(I)V -/
def Di_start (di : Mem) (p1 : Int32) : Option (Mem) :=
  stk (upm di 0 0 (p1 &&& 65535)) (fun di_1 => some di_1)
set_option maxHeartbeats 4000000 in
set_option maxRecDepth 100000 in
theorem c_X1_start (l : Launch) (D : va_G) (cy : Nat → ClassId) (qdi : Nat → Nat) (di : Mem) (p1 : Int32) (di' : Mem) (hp : Di_start di p1 = some di') : RV l yX1_start cX1_start 2 0 D cy [.ref (qdi 0), .int p1] (w_Di cy qdi di) (w_Di cy qdi di') := by
  refine RV_of RX1 rfl (by decide) (Nat.le_of_ble_eq_true rfl) ?_
  intro p e s m below meth c A C0 hK hP hD hS hA ls hl
  obtain ⟨hx, hb, hr, hml, hown, hts, hk⟩ := id C0
  unfold Di_start at hp
  have hl : lv_has ls 2 [(0, .ref (qdi 0)), (1, .int p1)] := hl
  refine lv_aload_n hx hb dX1_start_0 rfl (lv_at hl 0 rfl) ?_
  refine lv_iload_n hx hb dX1_start_1 rfl (lv_at hl 1 rfl) ?_
  refine lc_X1_7 hx hb hts hown dX1_start_2 ?_
  refine lv_iand hx hb dX1_start_4 ?_
  obtain ⟨di_1, edi_1⟩ : ∃ y : Mem, y = upm di 0 0 (p1 &&& 65535) := ⟨_, rfl⟩
  have hp := stk_e hp edi_1
  refine pf_X1_8 hx hb hts hown hK hP hD hS (wn := (w_Di cy qdi di_1)) 0 rfl (Nat.le_of_ble_eq_true rfl) (by subst edi_1; rfl) dX1_start_5 (fun H locs hP hD hS => ?_)
  simp only [Option.some.injEq, Prod.mk.injEq] at hp
  subst hp
  exact e_RV hx hb hr hk hP hD hS dX1_start_8
/-! StormSlots$Dice.roll(I)I -/
def Di_roll (di : Mem) (p1 : Int32) : Option (Int32 × Mem) :=
  stk (upm di 0 0 (((25173 * (di 0 0)) + 13849) &&& 65535)) (fun di_1 => if p1 ≤ 0 then some (0, di_1) else ckD p1 (some ((((di_1 0 0) / 4) - ((di_1 0 0) / 4) / p1 * p1), di_1)))
set_option maxHeartbeats 4000000 in
set_option maxRecDepth 100000 in
theorem c_X1_roll (l : Launch) (D : va_G) (cy : Nat → ClassId) (qdi : Nat → Nat) (di : Mem) (p1 : Int32) (r : Int32) (di' : Mem) (hp : Di_roll di p1 = some (r, di')) : RI l yX1_roll cX1_roll 2 (some .int) 0 D cy [.ref (qdi 0), .int p1] (w_Di cy qdi di) (w_Di cy qdi di') r := by
  refine RI_of RX1 rfl (by decide) (Nat.le_of_ble_eq_true rfl) ?_
  intro p e s m below meth c A C0 hK hP hD hS hA ls hl
  obtain ⟨hx, hb, hr, hml, hown, hts, hk⟩ := id C0
  unfold Di_roll at hp
  have hl : lv_has ls 2 [(0, .ref (qdi 0)), (1, .int p1)] := hl
  refine lv_aload_n hx hb dX1_roll_0 rfl (lv_at hl 0 rfl) ?_
  refine lv_sipush (v := 25173) hx hb dX1_roll_1 (by decide) ?_
  refine lv_aload_n hx hb dX1_roll_4 rfl (lv_at hl 0 rfl) ?_
  refine gf_X1_8 hx hb hts hown hK hP 0 rfl rfl dX1_roll_5 ?_
  refine lv_imul hx hb dX1_roll_8 ?_
  refine lv_sipush (v := 13849) hx hb dX1_roll_9 (by decide) ?_
  refine lv_iadd hx hb dX1_roll_12 ?_
  refine lc_X1_7 hx hb hts hown dX1_roll_13 ?_
  refine lv_iand hx hb dX1_roll_15 ?_
  obtain ⟨di_1, edi_1⟩ : ∃ y : Mem, y = upm di 0 0 (((25173 * (di 0 0)) + 13849) &&& 65535) := ⟨_, rfl⟩
  have hp := stk_e hp edi_1
  refine pf_X1_8 hx hb hts hown hK hP hD hS (wn := (w_Di cy qdi di_1)) 0 rfl (Nat.le_of_ble_eq_true rfl) (by subst edi_1; rfl) dX1_roll_16 (fun H locs hP hD hS => ?_)
  refine lv_iload_n hx hb dX1_roll_19 rfl (lv_at hl 1 rfl) ?_
  refine lv_if_le (tgt := 34) hx hb dX1_roll_20 (by decide) (fun c_2 => ?_) (fun c_2 => ?_)
  · have hp := ite_p hp c_2
    refine lv_iconst (v := 0) hx hb dX1_roll_34 (by decide) ?_
    simp only [Option.some.injEq, Prod.mk.injEq] at hp
    obtain ⟨h0, rfl⟩ := hp
    exact e_RIi hx hb hr hk hP hD hS dX1_roll_35 h0
  · have hp := ite_n hp c_2
    refine lv_aload_n hx hb dX1_roll_23 rfl (lv_at hl 0 rfl) ?_
    refine gf_X1_8 hx hb hts hown hK hP 0 rfl rfl dX1_roll_24 ?_
    refine lv_iconst (v := 4) hx hb dX1_roll_27 (by decide) ?_
    refine lv_idiv hx hb dX1_roll_28 (by decide) ?_
    refine lv_iload_n hx hb dX1_roll_29 rfl (lv_at hl 1 rfl) ?_
    obtain ⟨hd_3, hp⟩ := ckD_s hp
    refine lv_irem hx hb dX1_roll_30 hd_3 ?_
    refine lv_goto (tgt := 35) hx hb dX1_roll_31 (by decide) ?_
    simp only [Option.some.injEq, Prod.mk.injEq] at hp
    obtain ⟨h0, rfl⟩ := hp
    exact e_RIi hx hb hr hk hP hD hS dX1_roll_35 h0
/-! StormSlots$Links.has(I)Z -/
def Li_has (li : Mem) (p1 : Int32) : Option (Int32) :=
  if p1 < 0 then some 0 else if (li 3 0) ≤ p1 then some 0 else if 12 ≤ p1 then some 0 else some 1
set_option maxHeartbeats 4000000 in
set_option maxRecDepth 100000 in
theorem c_X3_has (l : Launch) (D : va_G) (cy : Nat → ClassId) (qli : Nat → Nat) (li : Mem) (p1 : Int32) (r : Int32) (hp : Li_has li p1 = some r) : RO l yX3_has cX3_has 2 (some .boolean) 0 D cy [.ref (qli 0), .int p1] (w_Li cy qli li) r := by
  refine RO_of RX3 rfl (by decide) (Nat.le_of_ble_eq_true rfl) ?_
  intro p e s m below meth c C0 hK hP ls hl
  obtain ⟨hx, hb, hr, hml, hown, hts, hk⟩ := id C0
  unfold Li_has at hp
  have hl : lv_has ls 2 [(0, .ref (qli 0)), (1, .int p1)] := hl
  refine lv_iload_n hx hb dX3_has_0 rfl (lv_at hl 1 rfl) ?_
  refine lv_if_lt (tgt := 22) hx hb dX3_has_1 (by decide) (fun c_1 => ?_) (fun c_1 => ?_)
  · have hp := ite_p hp c_1
    refine lv_iconst (v := 0) hx hb dX3_has_22 (by decide) ?_
    exact e_ROz hx hb hr hk (Or.inl rfl) dX3_has_23 (Option.some.inj hp)
  · have hp := ite_n hp c_1
    refine lv_iload_n hx hb dX3_has_4 rfl (lv_at hl 1 rfl) ?_
    refine lv_aload_n hx hb dX3_has_5 rfl (lv_at hl 0 rfl) ?_
    refine gf_X3_21 hx hb hts hown hK hP 0 rfl rfl dX3_has_6 ?_
    refine lv_icmp_ge (tgt := 22) hx hb dX3_has_9 (by decide) (fun c_2 => ?_) (fun c_2 => ?_)
    · have hp := ite_p hp c_2
      refine lv_iconst (v := 0) hx hb dX3_has_22 (by decide) ?_
      exact e_ROz hx hb hr hk (Or.inl rfl) dX3_has_23 (Option.some.inj hp)
    · have hp := ite_n hp c_2
      refine lv_iload_n hx hb dX3_has_12 rfl (lv_at hl 1 rfl) ?_
      refine lv_bipush (v := 12) hx hb dX3_has_13 (by decide) ?_
      refine lv_icmp_ge (tgt := 22) hx hb dX3_has_15 (by decide) (fun c_3 => ?_) (fun c_3 => ?_)
      · have hp := ite_p hp c_3
        refine lv_iconst (v := 0) hx hb dX3_has_22 (by decide) ?_
        exact e_ROz hx hb hr hk (Or.inl rfl) dX3_has_23 (Option.some.inj hp)
      · have hp := ite_n hp c_3
        refine lv_iconst (v := 1) hx hb dX3_has_18 (by decide) ?_
        refine lv_goto (tgt := 23) hx hb dX3_has_19 (by decide) ?_
        exact e_ROz hx hb hr hk (Or.inr rfl) dX3_has_23 (Option.some.inj hp)
/-! StormSlots$Links.add(III)I -/
def Li_add (li : Mem) (p1 : Int32) (p2 : Int32) (p3 : Int32) : Option (Int32 × Mem) :=
  if (li 3 0) < 0 then some ((-2), li) else if (li 3 0) < 12 then ckI (li 3 0) 12 (stk (upm li 0 (li 3 0).toNatClampNeg p1) (fun li_4 => ckI (li_4 3 0) 12 (stk (upm li_4 1 (li_4 3 0).toNatClampNeg p2) (fun li_6 => ckI (li_6 3 0) 12 (stk (upm li_6 2 (li_6 3 0).toNatClampNeg p3) (fun li_8 => stk (upm li_8 3 0 ((li_8 3 0) + 1)) (fun li_9 => some (((li_9 3 0) - 1), li_9)))))))) else some ((-2), li)
set_option maxHeartbeats 4000000 in
set_option maxRecDepth 100000 in
theorem c_X3_add (l : Launch) (D : va_G) (cy : Nat → ClassId) (qli : Nat → Nat) (li : Mem) (p1 p2 p3 : Int32) (r : Int32) (li' : Mem) (hp : Li_add li p1 p2 p3 = some (r, li')) : RI l yX3_add cX3_add 4 (some .int) 0 D cy [.ref (qli 0), .int p1, .int p2, .int p3] (w_Li cy qli li) (w_Li cy qli li') r := by
  refine RI_of RX3 rfl (by decide) (Nat.le_of_ble_eq_true rfl) ?_
  intro p e s m below meth c A C0 hK hP hD hS hA ls hl
  obtain ⟨hx, hb, hr, hml, hown, hts, hk⟩ := id C0
  unfold Li_add at hp
  have hl : lv_has ls 4 [(0, .ref (qli 0)), (1, .int p1), (2, .int p2), (3, .int p3)] := hl
  refine lv_aload_n hx hb dX3_add_0 rfl (lv_at hl 0 rfl) ?_
  refine gf_X3_21 hx hb hts hown hK hP 0 rfl rfl dX3_add_1 ?_
  refine lv_if_lt (tgt := 16) hx hb dX3_add_4 (by decide) (fun c_1 => ?_) (fun c_1 => ?_)
  · have hp := ite_p hp c_1
    refine lv_bipush (v := (-2)) hx hb dX3_add_16 (by decide) ?_
    simp only [Option.some.injEq, Prod.mk.injEq] at hp
    obtain ⟨h0, rfl⟩ := hp
    exact e_RIi hx hb hr hk hP hD hS dX3_add_18 h0
  · have hp := ite_n hp c_1
    refine lv_aload_n hx hb dX3_add_7 rfl (lv_at hl 0 rfl) ?_
    refine gf_X3_21 hx hb hts hown hK hP 0 rfl rfl dX3_add_8 ?_
    refine lv_bipush (v := 12) hx hb dX3_add_11 (by decide) ?_
    refine lv_icmp_lt (tgt := 19) hx hb dX3_add_13 (by decide) (fun c_2 => ?_) (fun c_2 => ?_)
    · have hp := ite_p hp c_2
      refine lv_aload_n hx hb dX3_add_19 rfl (lv_at hl 0 rfl) ?_
      refine gf_X3_11 hx hb hts hown hK hP 0 rfl rfl dX3_add_20 ?_
      refine lv_aload_n hx hb dX3_add_23 rfl (lv_at hl 0 rfl) ?_
      refine gf_X3_21 hx hb hts hown hK hP 0 rfl rfl dX3_add_24 ?_
      refine lv_iload_n hx hb dX3_add_27 rfl (lv_at hl 1 rfl) ?_
      obtain ⟨hi_3, hp⟩ := ckI_s hp
      obtain ⟨li_4, eli_4⟩ : ∃ y : Mem, y = upm li 0 (li 3 0).toNatClampNeg p1 := ⟨_, rfl⟩
      have hp := stk_e hp eli_4
      refine r_ist hx hb hK hP hD hS (wn := (w_Li cy qli li_4)) 1 rfl hi_3 (by subst eli_4; rfl) dX3_add_28 (fun H locs hP hD hS => ?_)
      refine lv_aload_n hx hb dX3_add_29 rfl (lv_at hl 0 rfl) ?_
      refine gf_X3_15 hx hb hts hown hK hP 0 rfl rfl dX3_add_30 ?_
      refine lv_aload_n hx hb dX3_add_33 rfl (lv_at hl 0 rfl) ?_
      refine gf_X3_21 hx hb hts hown hK hP 0 rfl rfl dX3_add_34 ?_
      refine lv_iload_n hx hb dX3_add_37 rfl (lv_at hl 2 rfl) ?_
      obtain ⟨hi_5, hp⟩ := ckI_s hp
      obtain ⟨li_6, eli_6⟩ : ∃ y : Mem, y = upm li_4 1 (li_4 3 0).toNatClampNeg p2 := ⟨_, rfl⟩
      have hp := stk_e hp eli_6
      refine r_ist hx hb hK hP hD hS (wn := (w_Li cy qli li_6)) 2 rfl hi_5 (by subst eli_6; rfl) dX3_add_38 (fun H locs hP hD hS => ?_)
      refine lv_aload_n hx hb dX3_add_39 rfl (lv_at hl 0 rfl) ?_
      refine gf_X3_18 hx hb hts hown hK hP 0 rfl rfl dX3_add_40 ?_
      refine lv_aload_n hx hb dX3_add_43 rfl (lv_at hl 0 rfl) ?_
      refine gf_X3_21 hx hb hts hown hK hP 0 rfl rfl dX3_add_44 ?_
      refine lv_iload_n hx hb dX3_add_47 rfl (lv_at hl 3 rfl) ?_
      obtain ⟨hi_7, hp⟩ := ckI_s hp
      obtain ⟨li_8, eli_8⟩ : ∃ y : Mem, y = upm li_6 2 (li_6 3 0).toNatClampNeg p3 := ⟨_, rfl⟩
      have hp := stk_e hp eli_8
      refine r_ist hx hb hK hP hD hS (wn := (w_Li cy qli li_8)) 3 rfl hi_7 (by subst eli_8; rfl) dX3_add_48 (fun H locs hP hD hS => ?_)
      refine lv_aload_n hx hb dX3_add_49 rfl (lv_at hl 0 rfl) ?_
      refine lv_dup hx hb dX3_add_50 rfl ?_
      refine gf_X3_21 hx hb hts hown hK hP 0 rfl rfl dX3_add_51 ?_
      refine lv_iconst (v := 1) hx hb dX3_add_54 (by decide) ?_
      refine lv_iadd hx hb dX3_add_55 ?_
      obtain ⟨li_9, eli_9⟩ : ∃ y : Mem, y = upm li_8 3 0 ((li_8 3 0) + 1) := ⟨_, rfl⟩
      have hp := stk_e hp eli_9
      refine pf_X3_21 hx hb hts hown hK hP hD hS (wn := (w_Li cy qli li_9)) 0 rfl (Nat.le_of_ble_eq_true rfl) (by subst eli_9; rfl) dX3_add_56 (fun H locs hP hD hS => ?_)
      refine lv_aload_n hx hb dX3_add_59 rfl (lv_at hl 0 rfl) ?_
      refine gf_X3_21 hx hb hts hown hK hP 0 rfl rfl dX3_add_60 ?_
      refine lv_iconst (v := 1) hx hb dX3_add_63 (by decide) ?_
      refine lv_isub hx hb dX3_add_64 ?_
      simp only [Option.some.injEq, Prod.mk.injEq] at hp
      obtain ⟨h0, rfl⟩ := hp
      exact e_RIi hx hb hr hk hP hD hS dX3_add_65 h0
    · have hp := ite_n hp c_2
      refine lv_bipush (v := (-2)) hx hb dX3_add_16 (by decide) ?_
      simp only [Option.some.injEq, Prod.mk.injEq] at hp
      obtain ⟨h0, rfl⟩ := hp
      exact e_RIi hx hb hr hk hP hD hS dX3_add_18 h0
/-! StormSlots$Links.copyFrom(LStormSlots$Links;)V -/
def Li_copyFrom (li : Mem) (li2 : Mem) : Option (Mem) :=
  stk (upA li 0 (va_cpy (li2 0) (li 0) (0 : Int32).toNatClampNeg (0 : Int32).toNatClampNeg (12 : Int32).toNatClampNeg)) (fun li_1 => stk (upA li_1 1 (va_cpy (li2 1) (li_1 1) (0 : Int32).toNatClampNeg (0 : Int32).toNatClampNeg (12 : Int32).toNatClampNeg)) (fun li_2 => stk (upA li_2 2 (va_cpy (li2 2) (li_2 2) (0 : Int32).toNatClampNeg (0 : Int32).toNatClampNeg (12 : Int32).toNatClampNeg)) (fun li_3 => stk (upm li_3 3 0 (li2 3 0)) (fun li_4 => some li_4))))
set_option maxHeartbeats 4000000 in
set_option maxRecDepth 100000 in
theorem c_X3_copyFrom (l : Launch) (D : va_G) (cy : Nat → ClassId) (qli qli2 : Nat → Nat) (li li2 : Mem) (li' : Mem) (hp : Li_copyFrom li li2 = some li') : RV l yX3_copyFrom cX3_copyFrom 2 1 D cy [.ref (qli 0), .ref (qli2 0)] (w_LiLi cy qli qli2 li li2) (w_LiLi cy qli qli2 li' li2) := by
  refine RV_of RX3 rfl (by decide) (Nat.le_of_ble_eq_true rfl) ?_
  intro p e s m below meth c A C0 hK hP hD hS hA ls hl
  obtain ⟨hx, hb, hr, hml, hown, hts, hk⟩ := id C0
  unfold Li_copyFrom at hp
  have hl : lv_has ls 2 [(0, .ref (qli 0)), (1, .ref (qli2 0))] := hl
  refine lv_aload_n hx hb dX3_copyFrom_0 rfl (lv_at hl 1 rfl) ?_
  refine gf_X3_11 hx hb hts hown hK hP 4 rfl rfl dX3_copyFrom_1 ?_
  refine lv_iconst (v := 0) hx hb dX3_copyFrom_4 (by decide) ?_
  refine lv_aload_n hx hb dX3_copyFrom_5 rfl (lv_at hl 0 rfl) ?_
  refine gf_X3_11 hx hb hts hown hK hP 0 rfl rfl dX3_copyFrom_6 ?_
  refine lv_iconst (v := 0) hx hb dX3_copyFrom_9 (by decide) ?_
  refine lv_bipush (v := 12) hx hb dX3_copyFrom_10 (by decide) ?_
  obtain ⟨li_1, eli_1⟩ : ∃ y : Mem, y = upA li 0 (va_cpy (li2 0) (li 0) (0 : Int32).toNatClampNeg (0 : Int32).toNatClampNeg (12 : Int32).toNatClampNeg) := ⟨_, rfl⟩
  have hp := stk_e hp eli_1
  refine ac_X3_25 hx hb (by rw [hml]; exact hl.1.symm) hts hown hK hP hD hS (wn := (w_LiLi cy qli qli2 li_1 li2)) 5 1 rfl rfl (by decide) (by decide) (by decide) (Nat.le_of_ble_eq_true rfl) (by decide) (by subst eli_1; rfl) dX3_copyFrom_12 (fun H locs hP hD hS => ?_)
  refine lv_aload_n hx hb dX3_copyFrom_15 rfl (lv_at hl 1 rfl) ?_
  refine gf_X3_15 hx hb hts hown hK hP 4 rfl rfl dX3_copyFrom_16 ?_
  refine lv_iconst (v := 0) hx hb dX3_copyFrom_19 (by decide) ?_
  refine lv_aload_n hx hb dX3_copyFrom_20 rfl (lv_at hl 0 rfl) ?_
  refine gf_X3_15 hx hb hts hown hK hP 0 rfl rfl dX3_copyFrom_21 ?_
  refine lv_iconst (v := 0) hx hb dX3_copyFrom_24 (by decide) ?_
  refine lv_bipush (v := 12) hx hb dX3_copyFrom_25 (by decide) ?_
  obtain ⟨li_2, eli_2⟩ : ∃ y : Mem, y = upA li_1 1 (va_cpy (li2 1) (li_1 1) (0 : Int32).toNatClampNeg (0 : Int32).toNatClampNeg (12 : Int32).toNatClampNeg) := ⟨_, rfl⟩
  have hp := stk_e hp eli_2
  refine ac_X3_25 hx hb (by rw [hml]; exact hl.1.symm) hts hown hK hP hD hS (wn := (w_LiLi cy qli qli2 li_2 li2)) 6 2 rfl rfl (by decide) (by decide) (by decide) (Nat.le_of_ble_eq_true rfl) (by decide) (by subst eli_2; rfl) dX3_copyFrom_27 (fun H locs hP hD hS => ?_)
  refine lv_aload_n hx hb dX3_copyFrom_30 rfl (lv_at hl 1 rfl) ?_
  refine gf_X3_18 hx hb hts hown hK hP 4 rfl rfl dX3_copyFrom_31 ?_
  refine lv_iconst (v := 0) hx hb dX3_copyFrom_34 (by decide) ?_
  refine lv_aload_n hx hb dX3_copyFrom_35 rfl (lv_at hl 0 rfl) ?_
  refine gf_X3_18 hx hb hts hown hK hP 0 rfl rfl dX3_copyFrom_36 ?_
  refine lv_iconst (v := 0) hx hb dX3_copyFrom_39 (by decide) ?_
  refine lv_bipush (v := 12) hx hb dX3_copyFrom_40 (by decide) ?_
  obtain ⟨li_3, eli_3⟩ : ∃ y : Mem, y = upA li_2 2 (va_cpy (li2 2) (li_2 2) (0 : Int32).toNatClampNeg (0 : Int32).toNatClampNeg (12 : Int32).toNatClampNeg) := ⟨_, rfl⟩
  have hp := stk_e hp eli_3
  refine ac_X3_25 hx hb (by rw [hml]; exact hl.1.symm) hts hown hK hP hD hS (wn := (w_LiLi cy qli qli2 li_3 li2)) 7 3 rfl rfl (by decide) (by decide) (by decide) (Nat.le_of_ble_eq_true rfl) (by decide) (by subst eli_3; rfl) dX3_copyFrom_42 (fun H locs hP hD hS => ?_)
  refine lv_aload_n hx hb dX3_copyFrom_45 rfl (lv_at hl 0 rfl) ?_
  refine lv_aload_n hx hb dX3_copyFrom_46 rfl (lv_at hl 1 rfl) ?_
  refine gf_X3_21 hx hb hts hown hK hP 4 rfl rfl dX3_copyFrom_47 ?_
  obtain ⟨li_4, eli_4⟩ : ∃ y : Mem, y = upm li_3 3 0 (li2 3 0) := ⟨_, rfl⟩
  have hp := stk_e hp eli_4
  refine pf_X3_21 hx hb hts hown hK hP hD hS (wn := (w_LiLi cy qli qli2 li_4 li2)) 0 rfl (Nat.le_of_ble_eq_true rfl) (by subst eli_4; rfl) dX3_copyFrom_50 (fun H locs hP hD hS => ?_)
  simp only [Option.some.injEq, Prod.mk.injEq] at hp
  subst hp
  exact e_RV hx hb hr hk hP hD hS dX3_copyFrom_53
/-! StormSlots$Offers.has(I)Z -/
def Of_has (os : Mem) (p1 : Int32) : Option (Int32) :=
  if p1 < 0 then some 0 else if 8 ≤ p1 then some 0 else if ((os 4 0) &&& ((1 : Int32) <<< (p1 &&& 31))) = 0 then some 0 else some 1
set_option maxHeartbeats 4000000 in
set_option maxRecDepth 100000 in
theorem c_X4_has (l : Launch) (D : va_G) (cy : Nat → ClassId) (qos : Nat → Nat) (os : Mem) (p1 : Int32) (r : Int32) (hp : Of_has os p1 = some r) : RO l yX4_has cX4_has 2 (some .boolean) 0 D cy [.ref (qos 0), .int p1] (w_Of cy qos os) r := by
  refine RO_of RX4 rfl (by decide) (Nat.le_of_ble_eq_true rfl) ?_
  intro p e s m below meth c C0 hK hP ls hl
  obtain ⟨hx, hb, hr, hml, hown, hts, hk⟩ := id C0
  unfold Of_has at hp
  have hl : lv_has ls 2 [(0, .ref (qos 0)), (1, .int p1)] := hl
  refine lv_iload_n hx hb dX4_has_0 rfl (lv_at hl 1 rfl) ?_
  refine lv_if_lt (tgt := 25) hx hb dX4_has_1 (by decide) (fun c_1 => ?_) (fun c_1 => ?_)
  · have hp := ite_p hp c_1
    refine lv_iconst (v := 0) hx hb dX4_has_25 (by decide) ?_
    exact e_ROz hx hb hr hk (Or.inl rfl) dX4_has_26 (Option.some.inj hp)
  · have hp := ite_n hp c_1
    refine lv_iload_n hx hb dX4_has_4 rfl (lv_at hl 1 rfl) ?_
    refine lv_bipush (v := 8) hx hb dX4_has_5 (by decide) ?_
    refine lv_icmp_ge (tgt := 25) hx hb dX4_has_7 (by decide) (fun c_2 => ?_) (fun c_2 => ?_)
    · have hp := ite_p hp c_2
      refine lv_iconst (v := 0) hx hb dX4_has_25 (by decide) ?_
      exact e_ROz hx hb hr hk (Or.inl rfl) dX4_has_26 (Option.some.inj hp)
    · have hp := ite_n hp c_2
      refine lv_aload_n hx hb dX4_has_10 rfl (lv_at hl 0 rfl) ?_
      refine gf_X4_24 hx hb hts hown hK hP 0 rfl rfl dX4_has_11 ?_
      refine lv_iconst (v := 1) hx hb dX4_has_14 (by decide) ?_
      refine lv_iload_n hx hb dX4_has_15 rfl (lv_at hl 1 rfl) ?_
      refine lv_ishl hx hb dX4_has_16 ?_
      refine lv_iand hx hb dX4_has_17 ?_
      refine lv_if_eq (tgt := 25) hx hb dX4_has_18 (by decide) (fun c_3 => ?_) (fun c_3 => ?_)
      · have hp := ite_p hp c_3
        refine lv_iconst (v := 0) hx hb dX4_has_25 (by decide) ?_
        exact e_ROz hx hb hr hk (Or.inl rfl) dX4_has_26 (Option.some.inj hp)
      · have hp := ite_n hp c_3
        refine lv_iconst (v := 1) hx hb dX4_has_21 (by decide) ?_
        refine lv_goto (tgt := 26) hx hb dX4_has_22 (by decide) ?_
        exact e_ROz hx hb hr hk (Or.inr rfl) dX4_has_26 (Option.some.inj hp)
/-! StormSlots$Offers.lowestFree()I -/
def Of_lowestFree_b2B (os : Mem) (k2 : Int32 → Option (Int32)) (x1 : Int32) : Option (Int32) :=
  if 8 ≤ x1 then some (-1) else bn1 (Of_has os x1) (fun r_3 => if r_3 = 0 then some x1 else stk (x1 + 1) (fun x1_5 => k2 x1_5))
def Of_lowestFree_b2 (os : Mem) : Nat → Int32 → Option (Int32)
  | 0 => fun _ => none
  | n + 1 => Of_lowestFree_b2B os (Of_lowestFree_b2 os n)
def Of_lowestFree (os : Mem) : Option (Int32) :=
  Of_lowestFree_b2 os fl 0
set_option maxHeartbeats 4000000 in
set_option maxRecDepth 100000 in
theorem Of_lowestFree_b2B_w (C0 : cX RX4 cX4_lowestFree (some .int) 2 p s m args meth c) (hK : kN D cy s) {qos : Nat → Nat} {os : Mem} {r : Int32} (hP : va_P D vwCl (w_Of cy qos os) s.heap) {k2 : Int32 → Option (Int32)} (hk2 : ∀ (x1 : Int32) (ls : Array Slot), lv_has ls 2 [(0, .ref (qos 0)), (1, .int x1)] → k2 x1 = some r → W p l e (rmD 1) s m args below meth c s.heap [] 0 0 (qRO below args s r) (F0 m 2 ls [])) {x1 : Int32} {ls : Array Slot} (hl : lv_has ls 2 [(0, .ref (qos 0)), (1, .int x1)]) (hp : Of_lowestFree_b2B os k2 x1 = some r) : W p l e (rmD 1) s m args below meth c s.heap [] 0 0 (qRO below args s r) (F0 m 2 ls []) := by
  obtain ⟨hx, hb, hr, hml, hown, hts, hk⟩ := id C0
  unfold Of_lowestFree_b2B at hp
  refine lv_iload_n hx hb dX4_lowestFree_2 rfl (lv_at hl 1 rfl) ?_
  refine lv_bipush (v := 8) hx hb dX4_lowestFree_3 (by decide) ?_
  refine lv_icmp_ge (tgt := 24) hx hb dX4_lowestFree_5 (by decide) (fun c_1 => ?_) (fun c_1 => ?_)
  · have hp := ite_p hp c_1
    refine lv_iconst (v := (-1)) hx hb dX4_lowestFree_24 (by decide) ?_
    exact e_ROi hx hb hr hk dX4_lowestFree_25 (Option.some.inj hp)
  · have hp := ite_n hp c_1
    refine lv_aload_n hx hb dX4_lowestFree_8 rfl (lv_at hl 0 rfl) ?_
    refine lv_iload_n hx hb dX4_lowestFree_9 rfl (lv_at hl 1 rfl) ?_
    obtain ⟨r_3, hc_2, hp⟩ := bn1_s hp
    refine k_ROV (As := [.int x1]) (rest := []) ⟨hx, hb, hml, hown, hts⟩ hK hP (cw_X4_28 hts ⟨Nat.le_of_ble_eq_true rfl, Nat.le_of_ble_eq_true rfl⟩) 0 (ci := 4) rfl rfl rfl (c_X4_has l D cy qos os x1 r_3 hc_2) rfl hl.1 (Nat.le_of_ble_eq_true rfl) ⟨Nat.le_refl _, Nat.le_refl _⟩ dX4_lowestFree_10 ?_
    refine lv_if_ne (tgt := 18) hx hb dX4_lowestFree_13 (by decide) (fun c_4 => ?_) (fun c_4 => ?_)
    · have hp := ite_n hp c_4
      obtain ⟨x1_5, ex1_5⟩ : ∃ y : Int32, y = x1 + 1 := ⟨_, rfl⟩
      have hp := stk_e hp ex1_5
      refine lv_iinc (v := x1_5) (lv' := [(1, .int x1_5), (0, .ref (qos 0))]) hx hb dX4_lowestFree_18 hl (k := 1) rfl (by rw [ex1_5]; rfl) (by decide) rfl (fun ls hl => ?_)
      refine lv_goto (tgt := 2) hx hb dX4_lowestFree_21 (by decide) ?_
      exact hk2 x1_5 _ (lv_sub hl [1, 0] rfl) hp
    · have hp := ite_p hp c_4
      refine lv_iload_n hx hb dX4_lowestFree_16 rfl (lv_at hl 1 rfl) ?_
      exact e_ROi hx hb hr hk dX4_lowestFree_17 (Option.some.inj hp)
theorem Of_lowestFree_b2_w (C0 : cX RX4 cX4_lowestFree (some .int) 2 p s m args meth c) (hK : kN D cy s) {qos : Nat → Nat} {os : Mem} {r : Int32} (hP : va_P D vwCl (w_Of cy qos os) s.heap) : ∀ (n : Nat) (x1 : Int32) (ls : Array Slot), lv_has ls 2 [(0, .ref (qos 0)), (1, .int x1)] → Of_lowestFree_b2 os n x1 = some r → W p l e (rmD 1) s m args below meth c s.heap [] 0 0 (qRO below args s r) (F0 m 2 ls []) := by
  intro n
  induction n with
  | zero =>
    intro x1 ls hl hp
    cases hp
  | succ n ih =>
    intro x1 ls hl hp
    exact Of_lowestFree_b2B_w C0 hK hP  (fun x1 ls hl hp => ih x1 ls hl hp) hl hp
set_option maxHeartbeats 4000000 in
set_option maxRecDepth 100000 in
theorem c_X4_lowestFree (l : Launch) (D : va_G) (cy : Nat → ClassId) (qos : Nat → Nat) (os : Mem) (r : Int32) (hp : Of_lowestFree os = some r) : RO l yX4_lowestFree cX4_lowestFree 2 (some .int) 1 D cy [.ref (qos 0)] (w_Of cy qos os) r := by
  refine RO_of RX4 rfl (by decide) (Nat.le_of_ble_eq_true rfl) ?_
  intro p e s m below meth c C0 hK hP ls hl
  obtain ⟨hx, hb, hr, hml, hown, hts, hk⟩ := id C0
  unfold Of_lowestFree at hp
  have hl : lv_has ls 2 [(0, .ref (qos 0))] := hl
  refine lv_iconst (v := 0) hx hb dX4_lowestFree_0 (by decide) ?_
  refine lv_istore_n (lv' := [(1, .int 0), (0, .ref (qos 0))]) hx hb dX4_lowestFree_1 rfl hl (by decide) rfl (fun ls hl => ?_)
  exact Of_lowestFree_b2_w C0 hK hP  fl 0 _ (lv_sub hl [1, 0] rfl) hp
/-! java/lang/Integer.bitCount(I)I -/
def Jd_bitCount_0f7a4 (p0 : Int32) : Option (Int32) :=
  stk (p0 - (((p0).toUInt32 >>> (Int32.toUInt32 1 &&& Int32.toUInt32 31)).toInt32 &&& 1431655765)) (fun x0_1 => stk ((x0_1 &&& 858993459) + (((x0_1).toUInt32 >>> (Int32.toUInt32 2 &&& Int32.toUInt32 31)).toInt32 &&& 858993459)) (fun x0_2 => stk ((x0_2 + ((x0_2).toUInt32 >>> (Int32.toUInt32 4 &&& Int32.toUInt32 31)).toInt32) &&& 252645135) (fun x0_3 => stk (x0_3 + ((x0_3).toUInt32 >>> (Int32.toUInt32 8 &&& Int32.toUInt32 31)).toInt32) (fun x0_4 => stk (x0_4 + ((x0_4).toUInt32 >>> (Int32.toUInt32 16 &&& Int32.toUInt32 31)).toInt32) (fun x0_5 => some (x0_5 &&& 63))))))
set_option maxHeartbeats 4000000 in
set_option maxRecDepth 100000 in
theorem c_J6_bitCount_0f7a4 (l : Launch) (D : va_G) (cy : Nat → ClassId) (p0 : Int32) (r : Int32) (hp : Jd_bitCount_0f7a4 p0 = some r) : RO l yJ6_bitCount_0f7a4 cJ6_bitCount_0f7a4 1 (some .int) 0 D cy [.int p0] [] r := by
  refine RO_of RJ6 rfl (by decide) (Nat.le_of_ble_eq_true rfl) ?_
  intro p e s m below meth c C0 hK hP ls hl
  obtain ⟨hx, hb, hr, hml, hown, hts, hk⟩ := id C0
  unfold Jd_bitCount_0f7a4 at hp
  have hl : lv_has ls 1 [(0, .int p0)] := hl
  refine lv_iload_n hx hb dJ6_bitCount_0f7a4_0 rfl (lv_at hl 0 rfl) ?_
  refine lv_iload_n hx hb dJ6_bitCount_0f7a4_1 rfl (lv_at hl 0 rfl) ?_
  refine lv_iconst (v := 1) hx hb dJ6_bitCount_0f7a4_2 (by decide) ?_
  refine lv_iushr hx hb dJ6_bitCount_0f7a4_3 rfl ?_
  refine lc_J6_265 hx hb hts hown dJ6_bitCount_0f7a4_4 ?_
  refine lv_iand hx hb dJ6_bitCount_0f7a4_7 ?_
  refine lv_isub hx hb dJ6_bitCount_0f7a4_8 ?_
  refine lv_topi (fun x0_1 ex0_1 => ?_)
  have hp := stk_e hp ex0_1
  refine lv_istore_n (lv' := [(0, .int x0_1)]) hx hb dJ6_bitCount_0f7a4_9 rfl hl (by decide) rfl (fun ls hl => ?_)
  refine lv_iload_n hx hb dJ6_bitCount_0f7a4_10 rfl (lv_at hl 0 rfl) ?_
  refine lc_J6_266 hx hb hts hown dJ6_bitCount_0f7a4_11 ?_
  refine lv_iand hx hb dJ6_bitCount_0f7a4_14 ?_
  refine lv_iload_n hx hb dJ6_bitCount_0f7a4_15 rfl (lv_at hl 0 rfl) ?_
  refine lv_iconst (v := 2) hx hb dJ6_bitCount_0f7a4_16 (by decide) ?_
  refine lv_iushr hx hb dJ6_bitCount_0f7a4_17 rfl ?_
  refine lc_J6_266 hx hb hts hown dJ6_bitCount_0f7a4_18 ?_
  refine lv_iand hx hb dJ6_bitCount_0f7a4_21 ?_
  refine lv_iadd hx hb dJ6_bitCount_0f7a4_22 ?_
  refine lv_topi (fun x0_2 ex0_2 => ?_)
  have hp := stk_e hp ex0_2
  refine lv_istore_n (lv' := [(0, .int x0_2)]) hx hb dJ6_bitCount_0f7a4_23 rfl hl (by decide) rfl (fun ls hl => ?_)
  refine lv_iload_n hx hb dJ6_bitCount_0f7a4_24 rfl (lv_at hl 0 rfl) ?_
  refine lv_iload_n hx hb dJ6_bitCount_0f7a4_25 rfl (lv_at hl 0 rfl) ?_
  refine lv_iconst (v := 4) hx hb dJ6_bitCount_0f7a4_26 (by decide) ?_
  refine lv_iushr hx hb dJ6_bitCount_0f7a4_27 rfl ?_
  refine lv_iadd hx hb dJ6_bitCount_0f7a4_28 ?_
  refine lc_J6_267 hx hb hts hown dJ6_bitCount_0f7a4_29 ?_
  refine lv_iand hx hb dJ6_bitCount_0f7a4_32 ?_
  refine lv_topi (fun x0_3 ex0_3 => ?_)
  have hp := stk_e hp ex0_3
  refine lv_istore_n (lv' := [(0, .int x0_3)]) hx hb dJ6_bitCount_0f7a4_33 rfl hl (by decide) rfl (fun ls hl => ?_)
  refine lv_iload_n hx hb dJ6_bitCount_0f7a4_34 rfl (lv_at hl 0 rfl) ?_
  refine lv_iload_n hx hb dJ6_bitCount_0f7a4_35 rfl (lv_at hl 0 rfl) ?_
  refine lv_bipush (v := 8) hx hb dJ6_bitCount_0f7a4_36 (by decide) ?_
  refine lv_iushr hx hb dJ6_bitCount_0f7a4_38 rfl ?_
  refine lv_iadd hx hb dJ6_bitCount_0f7a4_39 ?_
  refine lv_topi (fun x0_4 ex0_4 => ?_)
  have hp := stk_e hp ex0_4
  refine lv_istore_n (lv' := [(0, .int x0_4)]) hx hb dJ6_bitCount_0f7a4_40 rfl hl (by decide) rfl (fun ls hl => ?_)
  refine lv_iload_n hx hb dJ6_bitCount_0f7a4_41 rfl (lv_at hl 0 rfl) ?_
  refine lv_iload_n hx hb dJ6_bitCount_0f7a4_42 rfl (lv_at hl 0 rfl) ?_
  refine lv_bipush (v := 16) hx hb dJ6_bitCount_0f7a4_43 (by decide) ?_
  refine lv_iushr hx hb dJ6_bitCount_0f7a4_45 rfl ?_
  refine lv_iadd hx hb dJ6_bitCount_0f7a4_46 ?_
  refine lv_topi (fun x0_5 ex0_5 => ?_)
  have hp := stk_e hp ex0_5
  refine lv_istore_n (lv' := [(0, .int x0_5)]) hx hb dJ6_bitCount_0f7a4_47 rfl hl (by decide) rfl (fun ls hl => ?_)
  refine lv_iload_n hx hb dJ6_bitCount_0f7a4_48 rfl (lv_at hl 0 rfl) ?_
  refine lv_bipush (v := 63) hx hb dJ6_bitCount_0f7a4_49 (by decide) ?_
  refine lv_iand hx hb dJ6_bitCount_0f7a4_51 ?_
  exact e_ROi hx hb hr hk dJ6_bitCount_0f7a4_52 (Option.some.inj hp)
/-! StormSlots$Offers.countMade()I -/
def Of_countMade (os : Mem) : Option (Int32) :=
  bn1 (Jd_bitCount_0f7a4 (os 4 0)) (fun r_2 => some r_2)
set_option maxHeartbeats 4000000 in
set_option maxRecDepth 100000 in
theorem c_X4_countMade (l : Launch) (D : va_G) (cy : Nat → ClassId) (qos : Nat → Nat) (os : Mem) (r : Int32) (hp : Of_countMade os = some r) : RO l yX4_countMade cX4_countMade 1 (some .int) 1 D cy [.ref (qos 0)] (w_Of cy qos os) r := by
  refine RO_of RX4 rfl (by decide) (Nat.le_of_ble_eq_true rfl) ?_
  intro p e s m below meth c C0 hK hP ls hl
  obtain ⟨hx, hb, hr, hml, hown, hts, hk⟩ := id C0
  unfold Of_countMade at hp
  have hl : lv_has ls 1 [(0, .ref (qos 0))] := hl
  refine lv_aload_n hx hb dX4_countMade_0 rfl (lv_at hl 0 rfl) ?_
  refine gf_X4_24 hx hb hts hown hK hP 0 rfl rfl dX4_countMade_1 ?_
  obtain ⟨r_2, hc_1, hp⟩ := bn1_s hp
  refine k_ROS (As := [.int (os 4 0)]) (rest := []) ⟨hx, hb, hml, hown, hts⟩ hK (show va_P D vwCl [] _ from fun k q h => by simp at h) (cw_X4_32 hts ⟨Nat.le_of_ble_eq_true rfl, Nat.le_of_ble_eq_true rfl⟩) (c_J6_bitCount_0f7a4 l D cy (os 4 0) r_2 hc_1) rfl hl.1 (Nat.le_of_ble_eq_true rfl) ⟨Nat.le_refl _, Nat.le_refl _⟩ dX4_countMade_4 ?_
  exact e_ROi hx hb hr hk dX4_countMade_7 (Option.some.inj hp)
/-! StormSlots$Offers.put(IIIII)V -/
def Of_put (os : Mem) (p1 : Int32) (p2 : Int32) (p3 : Int32) (p4 : Int32) (p5 : Int32) : Option (Mem) :=
  if p1 < 0 then some os else if p1 < 8 then stk (upm os 4 0 ((os 4 0) ||| ((1 : Int32) <<< (p1 &&& 31)))) (fun os_3 => ckI p1 8 (stk (upm os_3 0 p1.toNatClampNeg p2) (fun os_5 => stk (upm os_5 1 p1.toNatClampNeg p3) (fun os_6 => stk (upm os_6 2 p1.toNatClampNeg p4) (fun os_7 => stk (upm os_7 3 p1.toNatClampNeg p5) (fun os_8 => some os_8)))))) else some os
set_option maxHeartbeats 4000000 in
set_option maxRecDepth 100000 in
theorem c_X4_put (l : Launch) (D : va_G) (cy : Nat → ClassId) (qos : Nat → Nat) (os : Mem) (p1 p2 p3 p4 p5 : Int32) (os' : Mem) (hp : Of_put os p1 p2 p3 p4 p5 = some os') : RV l yX4_put cX4_put 6 0 D cy [.ref (qos 0), .int p1, .int p2, .int p3, .int p4, .int p5] (w_Of cy qos os) (w_Of cy qos os') := by
  refine RV_of RX4 rfl (by decide) (Nat.le_of_ble_eq_true rfl) ?_
  intro p e s m below meth c A C0 hK hP hD hS hA ls hl
  obtain ⟨hx, hb, hr, hml, hown, hts, hk⟩ := id C0
  unfold Of_put at hp
  have hl : lv_has ls 6 [(0, .ref (qos 0)), (1, .int p1), (2, .int p2), (3, .int p3), (4, .int p4), (5, .int p5)] := hl
  refine lv_iload_n hx hb dX4_put_0 rfl (lv_at hl 1 rfl) ?_
  refine lv_if_lt (tgt := 10) hx hb dX4_put_1 (by decide) (fun c_1 => ?_) (fun c_1 => ?_)
  · have hp := ite_p hp c_1
    simp only [Option.some.injEq, Prod.mk.injEq] at hp
    subst hp
    exact e_RV hx hb hr hk hP hD hS dX4_put_10
  · have hp := ite_n hp c_1
    refine lv_iload_n hx hb dX4_put_4 rfl (lv_at hl 1 rfl) ?_
    refine lv_bipush (v := 8) hx hb dX4_put_5 (by decide) ?_
    refine lv_icmp_lt (tgt := 11) hx hb dX4_put_7 (by decide) (fun c_2 => ?_) (fun c_2 => ?_)
    · have hp := ite_p hp c_2
      refine lv_aload_n hx hb dX4_put_11 rfl (lv_at hl 0 rfl) ?_
      refine lv_dup hx hb dX4_put_12 rfl ?_
      refine gf_X4_24 hx hb hts hown hK hP 0 rfl rfl dX4_put_13 ?_
      refine lv_iconst (v := 1) hx hb dX4_put_16 (by decide) ?_
      refine lv_iload_n hx hb dX4_put_17 rfl (lv_at hl 1 rfl) ?_
      refine lv_ishl hx hb dX4_put_18 ?_
      refine lv_ior hx hb dX4_put_19 ?_
      obtain ⟨os_3, eos_3⟩ : ∃ y : Mem, y = upm os 4 0 ((os 4 0) ||| ((1 : Int32) <<< (p1 &&& 31))) := ⟨_, rfl⟩
      have hp := stk_e hp eos_3
      refine pf_X4_24 hx hb hts hown hK hP hD hS (wn := (w_Of cy qos os_3)) 0 rfl (Nat.le_of_ble_eq_true rfl) (by subst eos_3; rfl) dX4_put_20 (fun H locs hP hD hS => ?_)
      refine lv_aload_n hx hb dX4_put_23 rfl (lv_at hl 0 rfl) ?_
      refine gf_X4_11 hx hb hts hown hK hP 0 rfl rfl dX4_put_24 ?_
      refine lv_iload_n hx hb dX4_put_27 rfl (lv_at hl 1 rfl) ?_
      refine lv_iload_n hx hb dX4_put_28 rfl (lv_at hl 2 rfl) ?_
      obtain ⟨hi_4, hp⟩ := ckI_s hp
      obtain ⟨os_5, eos_5⟩ : ∃ y : Mem, y = upm os_3 0 p1.toNatClampNeg p2 := ⟨_, rfl⟩
      have hp := stk_e hp eos_5
      refine r_ist hx hb hK hP hD hS (wn := (w_Of cy qos os_5)) 1 rfl hi_4 (by subst eos_5; rfl) dX4_put_29 (fun H locs hP hD hS => ?_)
      refine lv_aload_n hx hb dX4_put_30 rfl (lv_at hl 0 rfl) ?_
      refine gf_X4_15 hx hb hts hown hK hP 0 rfl rfl dX4_put_31 ?_
      refine lv_iload_n hx hb dX4_put_34 rfl (lv_at hl 1 rfl) ?_
      refine lv_iload_n hx hb dX4_put_35 rfl (lv_at hl 3 rfl) ?_
      obtain ⟨os_6, eos_6⟩ : ∃ y : Mem, y = upm os_5 1 p1.toNatClampNeg p3 := ⟨_, rfl⟩
      have hp := stk_e hp eos_6
      refine r_ist hx hb hK hP hD hS (wn := (w_Of cy qos os_6)) 2 rfl hi_4 (by subst eos_6; rfl) dX4_put_36 (fun H locs hP hD hS => ?_)
      refine lv_aload_n hx hb dX4_put_37 rfl (lv_at hl 0 rfl) ?_
      refine gf_X4_18 hx hb hts hown hK hP 0 rfl rfl dX4_put_38 ?_
      refine lv_iload_n hx hb dX4_put_41 rfl (lv_at hl 1 rfl) ?_
      refine lv_iload hx hb dX4_put_42 (lv_at hl 4 rfl) ?_
      obtain ⟨os_7, eos_7⟩ : ∃ y : Mem, y = upm os_6 2 p1.toNatClampNeg p4 := ⟨_, rfl⟩
      have hp := stk_e hp eos_7
      refine r_ist hx hb hK hP hD hS (wn := (w_Of cy qos os_7)) 3 rfl hi_4 (by subst eos_7; rfl) dX4_put_44 (fun H locs hP hD hS => ?_)
      refine lv_aload_n hx hb dX4_put_45 rfl (lv_at hl 0 rfl) ?_
      refine gf_X4_21 hx hb hts hown hK hP 0 rfl rfl dX4_put_46 ?_
      refine lv_iload_n hx hb dX4_put_49 rfl (lv_at hl 1 rfl) ?_
      refine lv_iload hx hb dX4_put_50 (lv_at hl 5 rfl) ?_
      obtain ⟨os_8, eos_8⟩ : ∃ y : Mem, y = upm os_7 3 p1.toNatClampNeg p5 := ⟨_, rfl⟩
      have hp := stk_e hp eos_8
      refine r_ist hx hb hK hP hD hS (wn := (w_Of cy qos os_8)) 4 rfl hi_4 (by subst eos_8; rfl) dX4_put_52 (fun H locs hP hD hS => ?_)
      simp only [Option.some.injEq, Prod.mk.injEq] at hp
      subst hp
      exact e_RV hx hb hr hk hP hD hS dX4_put_53
    · have hp := ite_n hp c_2
      simp only [Option.some.injEq, Prod.mk.injEq] at hp
      subst hp
      exact e_RV hx hb hr hk hP hD hS dX4_put_10
/-! StormSlots$Offers.drop(I)V -/
def Of_drop (os : Mem) (p1 : Int32) : Option (Mem) :=
  bn1 (Of_has os p1) (fun r_2 => if r_2 = 0 then some os else stk (upm os 4 0 ((os 4 0) &&& (((1 : Int32) <<< (p1 &&& 31)) ^^^ (-1)))) (fun os_4 => some os_4))
set_option maxHeartbeats 4000000 in
set_option maxRecDepth 100000 in
theorem c_X4_drop (l : Launch) (D : va_G) (cy : Nat → ClassId) (qos : Nat → Nat) (os : Mem) (p1 : Int32) (os' : Mem) (hp : Of_drop os p1 = some os') : RV l yX4_drop cX4_drop 2 1 D cy [.ref (qos 0), .int p1] (w_Of cy qos os) (w_Of cy qos os') := by
  refine RV_of RX4 rfl (by decide) (Nat.le_of_ble_eq_true rfl) ?_
  intro p e s m below meth c A C0 hK hP hD hS hA ls hl
  obtain ⟨hx, hb, hr, hml, hown, hts, hk⟩ := id C0
  unfold Of_drop at hp
  have hl : lv_has ls 2 [(0, .ref (qos 0)), (1, .int p1)] := hl
  refine lv_aload_n hx hb dX4_drop_0 rfl (lv_at hl 0 rfl) ?_
  refine lv_iload_n hx hb dX4_drop_1 rfl (lv_at hl 1 rfl) ?_
  obtain ⟨r_2, hc_1, hp⟩ := bn1_s hp
  refine k_ROV (As := [.int p1]) (rest := []) ⟨hx, hb, hml, hown, hts⟩ hK hP (cw_X4_28 hts ⟨Nat.le_of_ble_eq_true rfl, Nat.le_of_ble_eq_true rfl⟩) 0 (ci := 4) rfl rfl rfl (c_X4_has l D cy qos os p1 r_2 hc_1) rfl hl.1 (Nat.le_of_ble_eq_true rfl) ⟨Nat.le_refl _, Nat.le_refl _⟩ dX4_drop_2 ?_
  refine lv_if_eq (tgt := 22) hx hb dX4_drop_5 (by decide) (fun c_3 => ?_) (fun c_3 => ?_)
  · have hp := ite_p hp c_3
    simp only [Option.some.injEq, Prod.mk.injEq] at hp
    subst hp
    exact e_RV hx hb hr hk hP hD hS dX4_drop_22
  · have hp := ite_n hp c_3
    refine lv_aload_n hx hb dX4_drop_8 rfl (lv_at hl 0 rfl) ?_
    refine lv_dup hx hb dX4_drop_9 rfl ?_
    refine gf_X4_24 hx hb hts hown hK hP 0 rfl rfl dX4_drop_10 ?_
    refine lv_iconst (v := 1) hx hb dX4_drop_13 (by decide) ?_
    refine lv_iload_n hx hb dX4_drop_14 rfl (lv_at hl 1 rfl) ?_
    refine lv_ishl hx hb dX4_drop_15 ?_
    refine lv_iconst (v := (-1)) hx hb dX4_drop_16 (by decide) ?_
    refine lv_ixor hx hb dX4_drop_17 ?_
    refine lv_iand hx hb dX4_drop_18 ?_
    obtain ⟨os_4, eos_4⟩ : ∃ y : Mem, y = upm os 4 0 ((os 4 0) &&& (((1 : Int32) <<< (p1 &&& 31)) ^^^ (-1))) := ⟨_, rfl⟩
    have hp := stk_e hp eos_4
    refine pf_X4_24 hx hb hts hown hK hP hD hS (wn := (w_Of cy qos os_4)) 0 rfl (Nat.le_of_ble_eq_true rfl) (by subst eos_4; rfl) dX4_drop_19 (fun H locs hP hD hS => ?_)
    simp only [Option.some.injEq, Prod.mk.injEq] at hp
    subst hp
    exact e_RV hx hb hr hk hP hD hS dX4_drop_22
/-! StormSlots$Offers.dropAll()V -/
def Of_dropAll (os : Mem) : Option (Mem) :=
  stk (upm os 4 0 0) (fun os_1 => some os_1)
set_option maxHeartbeats 4000000 in
set_option maxRecDepth 100000 in
theorem c_X4_dropAll (l : Launch) (D : va_G) (cy : Nat → ClassId) (qos : Nat → Nat) (os : Mem) (os' : Mem) (hp : Of_dropAll os = some os') : RV l yX4_dropAll cX4_dropAll 1 0 D cy [.ref (qos 0)] (w_Of cy qos os) (w_Of cy qos os') := by
  refine RV_of RX4 rfl (by decide) (Nat.le_of_ble_eq_true rfl) ?_
  intro p e s m below meth c A C0 hK hP hD hS hA ls hl
  obtain ⟨hx, hb, hr, hml, hown, hts, hk⟩ := id C0
  unfold Of_dropAll at hp
  have hl : lv_has ls 1 [(0, .ref (qos 0))] := hl
  refine lv_aload_n hx hb dX4_dropAll_0 rfl (lv_at hl 0 rfl) ?_
  refine lv_iconst (v := 0) hx hb dX4_dropAll_1 (by decide) ?_
  obtain ⟨os_1, eos_1⟩ : ∃ y : Mem, y = upm os 4 0 0 := ⟨_, rfl⟩
  have hp := stk_e hp eos_1
  refine pf_X4_24 hx hb hts hown hK hP hD hS (wn := (w_Of cy qos os_1)) 0 rfl (Nat.le_of_ble_eq_true rfl) (by subst eos_1; rfl) dX4_dropAll_2 (fun H locs hP hD hS => ?_)
  simp only [Option.some.injEq, Prod.mk.injEq] at hp
  subst hp
  exact e_RV hx hb hr hk hP hD hS dX4_dropAll_5
/-! StormSlots$Offers.copyFrom(LStormSlots$Offers;)V -/
def Of_copyFrom (os : Mem) (os2 : Mem) : Option (Mem) :=
  stk (upA os 0 (va_cpy (os2 0) (os 0) (0 : Int32).toNatClampNeg (0 : Int32).toNatClampNeg (8 : Int32).toNatClampNeg)) (fun os_1 => stk (upA os_1 1 (va_cpy (os2 1) (os_1 1) (0 : Int32).toNatClampNeg (0 : Int32).toNatClampNeg (8 : Int32).toNatClampNeg)) (fun os_2 => stk (upA os_2 2 (va_cpy (os2 2) (os_2 2) (0 : Int32).toNatClampNeg (0 : Int32).toNatClampNeg (8 : Int32).toNatClampNeg)) (fun os_3 => stk (upA os_3 3 (va_cpy (os2 3) (os_3 3) (0 : Int32).toNatClampNeg (0 : Int32).toNatClampNeg (8 : Int32).toNatClampNeg)) (fun os_4 => stk (upm os_4 4 0 (os2 4 0)) (fun os_5 => some os_5)))))
set_option maxHeartbeats 4000000 in
set_option maxRecDepth 100000 in
theorem c_X4_copyFrom (l : Launch) (D : va_G) (cy : Nat → ClassId) (qos qos2 : Nat → Nat) (os os2 : Mem) (os' : Mem) (hp : Of_copyFrom os os2 = some os') : RV l yX4_copyFrom cX4_copyFrom 2 1 D cy [.ref (qos 0), .ref (qos2 0)] (w_OfOf cy qos qos2 os os2) (w_OfOf cy qos qos2 os' os2) := by
  refine RV_of RX4 rfl (by decide) (Nat.le_of_ble_eq_true rfl) ?_
  intro p e s m below meth c A C0 hK hP hD hS hA ls hl
  obtain ⟨hx, hb, hr, hml, hown, hts, hk⟩ := id C0
  unfold Of_copyFrom at hp
  have hl : lv_has ls 2 [(0, .ref (qos 0)), (1, .ref (qos2 0))] := hl
  refine lv_aload_n hx hb dX4_copyFrom_0 rfl (lv_at hl 1 rfl) ?_
  refine gf_X4_11 hx hb hts hown hK hP 5 rfl rfl dX4_copyFrom_1 ?_
  refine lv_iconst (v := 0) hx hb dX4_copyFrom_4 (by decide) ?_
  refine lv_aload_n hx hb dX4_copyFrom_5 rfl (lv_at hl 0 rfl) ?_
  refine gf_X4_11 hx hb hts hown hK hP 0 rfl rfl dX4_copyFrom_6 ?_
  refine lv_iconst (v := 0) hx hb dX4_copyFrom_9 (by decide) ?_
  refine lv_bipush (v := 8) hx hb dX4_copyFrom_10 (by decide) ?_
  obtain ⟨os_1, eos_1⟩ : ∃ y : Mem, y = upA os 0 (va_cpy (os2 0) (os 0) (0 : Int32).toNatClampNeg (0 : Int32).toNatClampNeg (8 : Int32).toNatClampNeg) := ⟨_, rfl⟩
  have hp := stk_e hp eos_1
  refine ac_X4_38 hx hb (by rw [hml]; exact hl.1.symm) hts hown hK hP hD hS (wn := (w_OfOf cy qos qos2 os_1 os2)) 6 1 rfl rfl (by decide) (by decide) (by decide) (Nat.le_of_ble_eq_true rfl) (by decide) (by subst eos_1; rfl) dX4_copyFrom_12 (fun H locs hP hD hS => ?_)
  refine lv_aload_n hx hb dX4_copyFrom_15 rfl (lv_at hl 1 rfl) ?_
  refine gf_X4_15 hx hb hts hown hK hP 5 rfl rfl dX4_copyFrom_16 ?_
  refine lv_iconst (v := 0) hx hb dX4_copyFrom_19 (by decide) ?_
  refine lv_aload_n hx hb dX4_copyFrom_20 rfl (lv_at hl 0 rfl) ?_
  refine gf_X4_15 hx hb hts hown hK hP 0 rfl rfl dX4_copyFrom_21 ?_
  refine lv_iconst (v := 0) hx hb dX4_copyFrom_24 (by decide) ?_
  refine lv_bipush (v := 8) hx hb dX4_copyFrom_25 (by decide) ?_
  obtain ⟨os_2, eos_2⟩ : ∃ y : Mem, y = upA os_1 1 (va_cpy (os2 1) (os_1 1) (0 : Int32).toNatClampNeg (0 : Int32).toNatClampNeg (8 : Int32).toNatClampNeg) := ⟨_, rfl⟩
  have hp := stk_e hp eos_2
  refine ac_X4_38 hx hb (by rw [hml]; exact hl.1.symm) hts hown hK hP hD hS (wn := (w_OfOf cy qos qos2 os_2 os2)) 7 2 rfl rfl (by decide) (by decide) (by decide) (Nat.le_of_ble_eq_true rfl) (by decide) (by subst eos_2; rfl) dX4_copyFrom_27 (fun H locs hP hD hS => ?_)
  refine lv_aload_n hx hb dX4_copyFrom_30 rfl (lv_at hl 1 rfl) ?_
  refine gf_X4_18 hx hb hts hown hK hP 5 rfl rfl dX4_copyFrom_31 ?_
  refine lv_iconst (v := 0) hx hb dX4_copyFrom_34 (by decide) ?_
  refine lv_aload_n hx hb dX4_copyFrom_35 rfl (lv_at hl 0 rfl) ?_
  refine gf_X4_18 hx hb hts hown hK hP 0 rfl rfl dX4_copyFrom_36 ?_
  refine lv_iconst (v := 0) hx hb dX4_copyFrom_39 (by decide) ?_
  refine lv_bipush (v := 8) hx hb dX4_copyFrom_40 (by decide) ?_
  obtain ⟨os_3, eos_3⟩ : ∃ y : Mem, y = upA os_2 2 (va_cpy (os2 2) (os_2 2) (0 : Int32).toNatClampNeg (0 : Int32).toNatClampNeg (8 : Int32).toNatClampNeg) := ⟨_, rfl⟩
  have hp := stk_e hp eos_3
  refine ac_X4_38 hx hb (by rw [hml]; exact hl.1.symm) hts hown hK hP hD hS (wn := (w_OfOf cy qos qos2 os_3 os2)) 8 3 rfl rfl (by decide) (by decide) (by decide) (Nat.le_of_ble_eq_true rfl) (by decide) (by subst eos_3; rfl) dX4_copyFrom_42 (fun H locs hP hD hS => ?_)
  refine lv_aload_n hx hb dX4_copyFrom_45 rfl (lv_at hl 1 rfl) ?_
  refine gf_X4_21 hx hb hts hown hK hP 5 rfl rfl dX4_copyFrom_46 ?_
  refine lv_iconst (v := 0) hx hb dX4_copyFrom_49 (by decide) ?_
  refine lv_aload_n hx hb dX4_copyFrom_50 rfl (lv_at hl 0 rfl) ?_
  refine gf_X4_21 hx hb hts hown hK hP 0 rfl rfl dX4_copyFrom_51 ?_
  refine lv_iconst (v := 0) hx hb dX4_copyFrom_54 (by decide) ?_
  refine lv_bipush (v := 8) hx hb dX4_copyFrom_55 (by decide) ?_
  obtain ⟨os_4, eos_4⟩ : ∃ y : Mem, y = upA os_3 3 (va_cpy (os2 3) (os_3 3) (0 : Int32).toNatClampNeg (0 : Int32).toNatClampNeg (8 : Int32).toNatClampNeg) := ⟨_, rfl⟩
  have hp := stk_e hp eos_4
  refine ac_X4_38 hx hb (by rw [hml]; exact hl.1.symm) hts hown hK hP hD hS (wn := (w_OfOf cy qos qos2 os_4 os2)) 9 4 rfl rfl (by decide) (by decide) (by decide) (Nat.le_of_ble_eq_true rfl) (by decide) (by subst eos_4; rfl) dX4_copyFrom_57 (fun H locs hP hD hS => ?_)
  refine lv_aload_n hx hb dX4_copyFrom_60 rfl (lv_at hl 0 rfl) ?_
  refine lv_aload_n hx hb dX4_copyFrom_61 rfl (lv_at hl 1 rfl) ?_
  refine gf_X4_24 hx hb hts hown hK hP 5 rfl rfl dX4_copyFrom_62 ?_
  obtain ⟨os_5, eos_5⟩ : ∃ y : Mem, y = upm os_4 4 0 (os2 4 0) := ⟨_, rfl⟩
  have hp := stk_e hp eos_5
  refine pf_X4_24 hx hb hts hown hK hP hD hS (wn := (w_OfOf cy qos qos2 os_5 os2)) 0 rfl (Nat.le_of_ble_eq_true rfl) (by subst eos_5; rfl) dX4_copyFrom_65 (fun H locs hP hD hS => ?_)
  simp only [Option.some.injEq, Prod.mk.injEq] at hp
  subst hp
  exact e_RV hx hb hr hk hP hD hS dX4_copyFrom_68
/-! StormSlots.isHour(I)Z -/
def St_isHour (p0 : Int32) : Option (Int32) :=
  if p0 < 0 then some 0 else if 12 ≤ p0 then some 0 else some 1
set_option maxHeartbeats 4000000 in
set_option maxRecDepth 100000 in
theorem c_X11_isHour (l : Launch) (D : va_G) (cy : Nat → ClassId) (p0 : Int32) (r : Int32) (hp : St_isHour p0 = some r) : RO l yX11_isHour cX11_isHour 1 (some .boolean) 0 D cy [.int p0] [] r := by
  refine RO_of RX11 rfl (by decide) (Nat.le_of_ble_eq_true rfl) ?_
  intro p e s m below meth c C0 hK hP ls hl
  obtain ⟨hx, hb, hr, hml, hown, hts, hk⟩ := id C0
  unfold St_isHour at hp
  have hl : lv_has ls 1 [(0, .int p0)] := hl
  refine lv_iload_n hx hb dX11_isHour_0 rfl (lv_at hl 0 rfl) ?_
  refine lv_if_lt (tgt := 14) hx hb dX11_isHour_1 (by decide) (fun c_1 => ?_) (fun c_1 => ?_)
  · have hp := ite_p hp c_1
    refine lv_iconst (v := 0) hx hb dX11_isHour_14 (by decide) ?_
    exact e_ROz hx hb hr hk (Or.inl rfl) dX11_isHour_15 (Option.some.inj hp)
  · have hp := ite_n hp c_1
    refine lv_iload_n hx hb dX11_isHour_4 rfl (lv_at hl 0 rfl) ?_
    refine lv_bipush (v := 12) hx hb dX11_isHour_5 (by decide) ?_
    refine lv_icmp_ge (tgt := 14) hx hb dX11_isHour_7 (by decide) (fun c_2 => ?_) (fun c_2 => ?_)
    · have hp := ite_p hp c_2
      refine lv_iconst (v := 0) hx hb dX11_isHour_14 (by decide) ?_
      exact e_ROz hx hb hr hk (Or.inl rfl) dX11_isHour_15 (Option.some.inj hp)
    · have hp := ite_n hp c_2
      refine lv_iconst (v := 1) hx hb dX11_isHour_10 (by decide) ?_
      refine lv_goto (tgt := 15) hx hb dX11_isHour_11 (by decide) ?_
      exact e_ROz hx hb hr hk (Or.inr rfl) dX11_isHour_15 (Option.some.inj hp)
/-! StormSlots$Rates.of(I)I -/
def Ra_of (ra : Mem) (p1 : Int32) : Option (Int32) :=
  bn1 (St_isHour p1) (fun r_2 => if r_2 = 0 then some 0 else ckI p1 12 (some (ra 0 p1.toNatClampNeg)))
set_option maxHeartbeats 4000000 in
set_option maxRecDepth 100000 in
theorem c_X7_of (l : Launch) (D : va_G) (cy : Nat → ClassId) (qra : Nat → Nat) (ra : Mem) (p1 : Int32) (r : Int32) (hp : Ra_of ra p1 = some r) : RO l yX7_of cX7_of 2 (some .int) 1 D cy [.ref (qra 0), .int p1] (w_Ra cy qra ra) r := by
  refine RO_of RX7 rfl (by decide) (Nat.le_of_ble_eq_true rfl) ?_
  intro p e s m below meth c C0 hK hP ls hl
  obtain ⟨hx, hb, hr, hml, hown, hts, hk⟩ := id C0
  unfold Ra_of at hp
  have hl : lv_has ls 2 [(0, .ref (qra 0)), (1, .int p1)] := hl
  refine lv_iload_n hx hb dX7_of_0 rfl (lv_at hl 1 rfl) ?_
  obtain ⟨r_2, hc_1, hp⟩ := bn1_s hp
  refine k_ROSN (As := [.int p1]) (rest := []) ⟨hx, hb, hml, hown, hts⟩ hK (show va_P D vwCl [] _ from fun k q h => by simp at h) (cw_X7_15 hts hK.2 ⟨Nat.le_of_ble_eq_true rfl, Nat.le_of_ble_eq_true rfl⟩) (c_X11_isHour l D cy p1 r_2 hc_1) rfl hl.1 (Nat.le_of_ble_eq_true rfl) ⟨Nat.le_refl _, Nat.le_refl _⟩ dX7_of_1 ?_
  refine lv_if_eq (tgt := 16) hx hb dX7_of_4 (by decide) (fun c_3 => ?_) (fun c_3 => ?_)
  · have hp := ite_p hp c_3
    refine lv_iconst (v := 0) hx hb dX7_of_16 (by decide) ?_
    exact e_ROi hx hb hr hk dX7_of_17 (Option.some.inj hp)
  · have hp := ite_n hp c_3
    refine lv_aload_n hx hb dX7_of_7 rfl (lv_at hl 0 rfl) ?_
    refine gf_X7_9 hx hb hts hown hK hP 0 rfl rfl dX7_of_8 ?_
    refine lv_iload_n hx hb dX7_of_11 rfl (lv_at hl 1 rfl) ?_
    obtain ⟨hi_4, hp⟩ := ckI_s hp
    refine r_ild hx hb hK hP 1 rfl hi_4 dX7_of_12 ?_
    refine lv_goto (tgt := 17) hx hb dX7_of_13 (by decide) ?_
    exact e_ROi hx hb hr hk dX7_of_17 (Option.some.inj hp)
/-! StormSlots$Rates.put(II)V -/
def Ra_put (ra : Mem) (p1 : Int32) (p2 : Int32) : Option (Mem) :=
  bn1 (St_isHour p1) (fun r_2 => if r_2 = 0 then some ra else ckI p1 12 (stk (upm ra 0 p1.toNatClampNeg p2) (fun ra_5 => some ra_5)))
set_option maxHeartbeats 4000000 in
set_option maxRecDepth 100000 in
theorem c_X7_put (l : Launch) (D : va_G) (cy : Nat → ClassId) (qra : Nat → Nat) (ra : Mem) (p1 p2 : Int32) (ra' : Mem) (hp : Ra_put ra p1 p2 = some ra') : RV l yX7_put cX7_put 3 1 D cy [.ref (qra 0), .int p1, .int p2] (w_Ra cy qra ra) (w_Ra cy qra ra') := by
  refine RV_of RX7 rfl (by decide) (Nat.le_of_ble_eq_true rfl) ?_
  intro p e s m below meth c A C0 hK hP hD hS hA ls hl
  obtain ⟨hx, hb, hr, hml, hown, hts, hk⟩ := id C0
  unfold Ra_put at hp
  have hl : lv_has ls 3 [(0, .ref (qra 0)), (1, .int p1), (2, .int p2)] := hl
  refine lv_iload_n hx hb dX7_put_0 rfl (lv_at hl 1 rfl) ?_
  obtain ⟨r_2, hc_1, hp⟩ := bn1_s hp
  refine k_ROSN (As := [.int p1]) (rest := []) ⟨hx, hb, hml, hown, hts⟩ hK (show va_P D vwCl [] _ from fun k q h => by simp at h) (cw_X7_15 hts hK.2 ⟨Nat.le_of_ble_eq_true rfl, Nat.le_of_ble_eq_true rfl⟩) (c_X11_isHour l D cy p1 r_2 hc_1) rfl hl.1 (Nat.le_of_ble_eq_true rfl) ⟨Nat.le_refl _, Nat.le_refl _⟩ dX7_put_1 ?_
  refine lv_if_eq (tgt := 14) hx hb dX7_put_4 (by decide) (fun c_3 => ?_) (fun c_3 => ?_)
  · have hp := ite_p hp c_3
    simp only [Option.some.injEq, Prod.mk.injEq] at hp
    subst hp
    exact e_RV hx hb hr hk hP hD hS dX7_put_14
  · have hp := ite_n hp c_3
    refine lv_aload_n hx hb dX7_put_7 rfl (lv_at hl 0 rfl) ?_
    refine gf_X7_9 hx hb hts hown hK hP 0 rfl rfl dX7_put_8 ?_
    refine lv_iload_n hx hb dX7_put_11 rfl (lv_at hl 1 rfl) ?_
    refine lv_iload_n hx hb dX7_put_12 rfl (lv_at hl 2 rfl) ?_
    obtain ⟨hi_4, hp⟩ := ckI_s hp
    obtain ⟨ra_5, era_5⟩ : ∃ y : Mem, y = upm ra 0 p1.toNatClampNeg p2 := ⟨_, rfl⟩
    have hp := stk_e hp era_5
    refine r_ist hx hb hK hP hD hS (wn := (w_Ra cy qra ra_5)) 1 rfl hi_4 (by subst era_5; rfl) dX7_put_13 (fun H locs hP hD hS => ?_)
    simp only [Option.some.injEq, Prod.mk.injEq] at hp
    subst hp
    exact e_RV hx hb hr hk hP hD hS dX7_put_14
/-! StormSlots$Rates.putAll(III)V -/
def Ra_putAll_b7B (p1 : Int32) (p2 : Int32) (p3 : Int32) (k7 : Mem → Int32 → Option (Mem)) (ra : Mem) (x4 : Int32) : Option (Mem) :=
  if p2 < x4 then some ra else if 12 ≤ x4 then some ra else ckI x4 12 (stk (upm ra 0 x4.toNatClampNeg p3) (fun ra_5 => stk (x4 + 1) (fun x4_6 => k7 ra_5 x4_6)))
def Ra_putAll_b7 (p1 : Int32) (p2 : Int32) (p3 : Int32) : Nat → Mem → Int32 → Option (Mem)
  | 0 => fun _ _ => none
  | n + 1 => Ra_putAll_b7B p1 p2 p3 (Ra_putAll_b7 p1 p2 p3 n)
def Ra_putAll (ra : Mem) (p1 : Int32) (p2 : Int32) (p3 : Int32) : Option (Mem) :=
  stk (if 0 < p1 then p1 else 0) (fun x4_1 => Ra_putAll_b7 p1 p2 p3 fl ra x4_1)
set_option maxHeartbeats 4000000 in
set_option maxRecDepth 100000 in
theorem Ra_putAll_b7B_w (C0 : cX RX7 cX7_putAll none 5 p s m args meth c) (hK : kN D cy s) {qra : Nat → Nat} {p1 p2 p3 : Int32} {ra' : Mem} (hA : ∀ q, s.heap.size ≤ q → A q) {k7 : Mem → Int32 → Option (Mem)} (hk7 : ∀ (ra : Mem) (x4 : Int32) (H : Heap) (locs : List Loc) (ls : Array Slot), va_P D vwCl (w_Ra cy qra ra) H → va_D A (w_Ra cy qra ra) → va_S A s.heap H locs → lv_has ls 5 [(0, .ref (qra 0)), (1, .int p1), (2, .int p2), (3, .int p3), (4, .int x4)] → k7 ra x4 = some ra' → W p l e (rmD 1) s m args below meth c H locs 0 0 (qRV D below args s A (w_Ra cy qra ra')) (F0 m 7 ls [])) {ra : Mem} {x4 : Int32} {H : Heap} {locs : List Loc} (hP : va_P D vwCl (w_Ra cy qra ra) H) (hD : va_D A (w_Ra cy qra ra)) (hS : va_S A s.heap H locs) {ls : Array Slot} (hl : lv_has ls 5 [(0, .ref (qra 0)), (1, .int p1), (2, .int p2), (3, .int p3), (4, .int x4)]) (hp : Ra_putAll_b7B p1 p2 p3 k7 ra x4 = some ra') : W p l e (rmD 1) s m args below meth c H locs 0 0 (qRV D below args s A (w_Ra cy qra ra')) (F0 m 7 ls []) := by
  obtain ⟨hx, hb, hr, hml, hown, hts, hk⟩ := id C0
  unfold Ra_putAll_b7B at hp
  refine lv_iload hx hb dX7_putAll_7 (lv_at hl 4 rfl) ?_
  refine lv_iload_n hx hb dX7_putAll_9 rfl (lv_at hl 2 rfl) ?_
  refine lv_icmp_gt (tgt := 34) hx hb dX7_putAll_10 (by decide) (fun c_2 => ?_) (fun c_2 => ?_)
  · have hp := ite_p hp c_2
    simp only [Option.some.injEq, Prod.mk.injEq] at hp
    subst hp
    exact e_RV hx hb hr hk hP hD hS dX7_putAll_34
  · have hp := ite_n hp c_2
    refine lv_iload hx hb dX7_putAll_13 (lv_at hl 4 rfl) ?_
    refine lv_bipush (v := 12) hx hb dX7_putAll_15 (by decide) ?_
    refine lv_icmp_ge (tgt := 34) hx hb dX7_putAll_17 (by decide) (fun c_3 => ?_) (fun c_3 => ?_)
    · have hp := ite_p hp c_3
      simp only [Option.some.injEq, Prod.mk.injEq] at hp
      subst hp
      exact e_RV hx hb hr hk hP hD hS dX7_putAll_34
    · have hp := ite_n hp c_3
      refine lv_aload_n hx hb dX7_putAll_20 rfl (lv_at hl 0 rfl) ?_
      refine gf_X7_9 hx hb hts hown hK hP 0 rfl rfl dX7_putAll_21 ?_
      refine lv_iload hx hb dX7_putAll_24 (lv_at hl 4 rfl) ?_
      refine lv_iload_n hx hb dX7_putAll_26 rfl (lv_at hl 3 rfl) ?_
      obtain ⟨hi_4, hp⟩ := ckI_s hp
      obtain ⟨ra_5, era_5⟩ : ∃ y : Mem, y = upm ra 0 x4.toNatClampNeg p3 := ⟨_, rfl⟩
      have hp := stk_e hp era_5
      refine r_ist hx hb hK hP hD hS (wn := (w_Ra cy qra ra_5)) 1 rfl hi_4 (by subst era_5; rfl) dX7_putAll_27 (fun H locs hP hD hS => ?_)
      obtain ⟨x4_6, ex4_6⟩ : ∃ y : Int32, y = x4 + 1 := ⟨_, rfl⟩
      have hp := stk_e hp ex4_6
      refine lv_iinc (v := x4_6) (lv' := [(4, .int x4_6), (0, .ref (qra 0)), (1, .int p1), (2, .int p2), (3, .int p3)]) hx hb dX7_putAll_28 hl (k := 4) rfl (by rw [ex4_6]; rfl) (by decide) rfl (fun ls hl => ?_)
      refine lv_goto (tgt := 7) hx hb dX7_putAll_31 (by decide) ?_
      exact hk7 ra_5 x4_6 _ _ _ hP hD hS (lv_sub hl [1, 2, 3, 4, 0] rfl) hp
theorem Ra_putAll_b7_w (C0 : cX RX7 cX7_putAll none 5 p s m args meth c) (hK : kN D cy s) {qra : Nat → Nat} {p1 p2 p3 : Int32} {ra' : Mem} (hA : ∀ q, s.heap.size ≤ q → A q) : ∀ (n : Nat) (ra : Mem) (x4 : Int32) (H : Heap) (locs : List Loc) (ls : Array Slot), va_P D vwCl (w_Ra cy qra ra) H → va_D A (w_Ra cy qra ra) → va_S A s.heap H locs → lv_has ls 5 [(0, .ref (qra 0)), (1, .int p1), (2, .int p2), (3, .int p3), (4, .int x4)] → Ra_putAll_b7 p1 p2 p3 n ra x4 = some ra' → W p l e (rmD 1) s m args below meth c H locs 0 0 (qRV D below args s A (w_Ra cy qra ra')) (F0 m 7 ls []) := by
  intro n
  induction n with
  | zero =>
    intro ra x4 H locs ls hP hD hS hl hp
    cases hp
  | succ n ih =>
    intro ra x4 H locs ls hP hD hS hl hp
    exact Ra_putAll_b7B_w C0 hK hA  (fun ra x4 H locs ls hP hD hS hl hp => ih ra x4 H locs ls hP hD hS hl hp) hP hD hS hl hp
set_option maxHeartbeats 4000000 in
set_option maxRecDepth 100000 in
theorem c_X7_putAll (l : Launch) (D : va_G) (cy : Nat → ClassId) (qra : Nat → Nat) (ra : Mem) (p1 p2 p3 : Int32) (ra' : Mem) (hp : Ra_putAll ra p1 p2 p3 = some ra') : RV l yX7_putAll cX7_putAll 5 1 D cy [.ref (qra 0), .int p1, .int p2, .int p3] (w_Ra cy qra ra) (w_Ra cy qra ra') := by
  refine RV_of RX7 rfl (by decide) (Nat.le_of_ble_eq_true rfl) ?_
  intro p e s m below meth c A C0 hK hP hD hS hA ls hl
  obtain ⟨hx, hb, hr, hml, hown, hts, hk⟩ := id C0
  unfold Ra_putAll at hp
  have hl : lv_has ls 5 [(0, .ref (qra 0)), (1, .int p1), (2, .int p2), (3, .int p3)] := hl
  refine lv_iconst (v := 0) hx hb dX7_putAll_0 (by decide) ?_
  refine lv_iload_n hx hb dX7_putAll_1 rfl (lv_at hl 1 rfl) ?_
  refine mm_X7_19 hx hb (by rw [hml]; exact hl.1.symm) hts hown (Nat.le_of_ble_eq_true rfl) (Nat.le_of_ble_eq_true rfl) (Nat.le_refl _) (Nat.le_refl _) dX7_putAll_2 ?_
  refine lv_topi (fun x4_1 ex4_1 => ?_)
  have hp := stk_e hp ex4_1
  refine lv_istore (lv' := [(4, .int x4_1), (0, .ref (qra 0)), (1, .int p1), (2, .int p2), (3, .int p3)]) hx hb dX7_putAll_5 hl (by decide) rfl (fun ls hl => ?_)
  exact Ra_putAll_b7_w C0 hK hA  fl ra x4_1 _ _ _ hP hD hS (lv_sub hl [1, 2, 3, 4, 0] rfl) hp
/-! StormSlots$Rates.minuteOf(III)I -/
def Ra_minuteOf (p0 : Int32) (p1 : Int32) (p2 : Int32) : Option (Int32) :=
  if p2 ≤ 0 then some (-1) else ckD p2 (some ((60 * p0) + ((60 * p1) / p2)))
set_option maxHeartbeats 4000000 in
set_option maxRecDepth 100000 in
theorem c_X7_minuteOf (l : Launch) (D : va_G) (cy : Nat → ClassId) (p0 p1 p2 : Int32) (r : Int32) (hp : Ra_minuteOf p0 p1 p2 = some r) : RO l yX7_minuteOf cX7_minuteOf 3 (some .int) 0 D cy [.int p0, .int p1, .int p2] [] r := by
  refine RO_of RX7 rfl (by decide) (Nat.le_of_ble_eq_true rfl) ?_
  intro p e s m below meth c C0 hK hP ls hl
  obtain ⟨hx, hb, hr, hml, hown, hts, hk⟩ := id C0
  unfold Ra_minuteOf at hp
  have hl : lv_has ls 3 [(0, .int p0), (1, .int p1), (2, .int p2)] := hl
  refine lv_iload_n hx hb dX7_minuteOf_0 rfl (lv_at hl 2 rfl) ?_
  refine lv_if_le (tgt := 18) hx hb dX7_minuteOf_1 (by decide) (fun c_1 => ?_) (fun c_1 => ?_)
  · have hp := ite_p hp c_1
    refine lv_iconst (v := (-1)) hx hb dX7_minuteOf_18 (by decide) ?_
    exact e_ROi hx hb hr hk dX7_minuteOf_19 (Option.some.inj hp)
  · have hp := ite_n hp c_1
    refine lv_bipush (v := 60) hx hb dX7_minuteOf_4 (by decide) ?_
    refine lv_iload_n hx hb dX7_minuteOf_6 rfl (lv_at hl 0 rfl) ?_
    refine lv_imul hx hb dX7_minuteOf_7 ?_
    refine lv_bipush (v := 60) hx hb dX7_minuteOf_8 (by decide) ?_
    refine lv_iload_n hx hb dX7_minuteOf_10 rfl (lv_at hl 1 rfl) ?_
    refine lv_imul hx hb dX7_minuteOf_11 ?_
    refine lv_iload_n hx hb dX7_minuteOf_12 rfl (lv_at hl 2 rfl) ?_
    obtain ⟨hd_2, hp⟩ := ckD_s hp
    refine lv_idiv hx hb dX7_minuteOf_13 hd_2 ?_
    refine lv_iadd hx hb dX7_minuteOf_14 ?_
    refine lv_goto (tgt := 19) hx hb dX7_minuteOf_15 (by decide) ?_
    exact e_ROi hx hb hr hk dX7_minuteOf_19 (Option.some.inj hp)
/-! StormSlots$Rates.countSlots()I -/
def Ra_countSlots_b5B (ra : Mem) (k5 : Int32 → Int32 → Option (Int32)) (x1 : Int32) (x2 : Int32) : Option (Int32) :=
  if 12 ≤ x2 then some x1 else ckI x2 12 (stk (x1 + (ra 0 x2.toNatClampNeg)) (fun x1_3 => stk (x2 + 1) (fun x2_4 => k5 x1_3 x2_4)))
def Ra_countSlots_b5 (ra : Mem) : Nat → Int32 → Int32 → Option (Int32)
  | 0 => fun _ _ => none
  | n + 1 => Ra_countSlots_b5B ra (Ra_countSlots_b5 ra n)
def Ra_countSlots (ra : Mem) : Option (Int32) :=
  Ra_countSlots_b5 ra fl 96 0
set_option maxHeartbeats 4000000 in
set_option maxRecDepth 100000 in
theorem Ra_countSlots_b5B_w (C0 : cX RX7 cX7_countSlots (some .int) 3 p s m args meth c) (hK : kN D cy s) {qra : Nat → Nat} {ra : Mem} {r : Int32} (hP : va_P D vwCl (w_Ra cy qra ra) s.heap) {k5 : Int32 → Int32 → Option (Int32)} (hk5 : ∀ (x1 x2 : Int32) (ls : Array Slot), lv_has ls 3 [(0, .ref (qra 0)), (1, .int x1), (2, .int x2)] → k5 x1 x2 = some r → W p l e (rmD 0) s m args below meth c s.heap [] 0 0 (qRO below args s r) (F0 m 5 ls [])) {x1 : Int32} {x2 : Int32} {ls : Array Slot} (hl : lv_has ls 3 [(0, .ref (qra 0)), (1, .int x1), (2, .int x2)]) (hp : Ra_countSlots_b5B ra k5 x1 x2 = some r) : W p l e (rmD 0) s m args below meth c s.heap [] 0 0 (qRO below args s r) (F0 m 5 ls []) := by
  obtain ⟨hx, hb, hr, hml, hown, hts, hk⟩ := id C0
  unfold Ra_countSlots_b5B at hp
  refine lv_iload_n hx hb dX7_countSlots_5 rfl (lv_at hl 2 rfl) ?_
  refine lv_bipush (v := 12) hx hb dX7_countSlots_6 (by decide) ?_
  refine lv_icmp_ge (tgt := 26) hx hb dX7_countSlots_8 (by decide) (fun c_1 => ?_) (fun c_1 => ?_)
  · have hp := ite_p hp c_1
    refine lv_iload_n hx hb dX7_countSlots_26 rfl (lv_at hl 1 rfl) ?_
    exact e_ROi hx hb hr hk dX7_countSlots_27 (Option.some.inj hp)
  · have hp := ite_n hp c_1
    refine lv_iload_n hx hb dX7_countSlots_11 rfl (lv_at hl 1 rfl) ?_
    refine lv_aload_n hx hb dX7_countSlots_12 rfl (lv_at hl 0 rfl) ?_
    refine gf_X7_9 hx hb hts hown hK hP 0 rfl rfl dX7_countSlots_13 ?_
    refine lv_iload_n hx hb dX7_countSlots_16 rfl (lv_at hl 2 rfl) ?_
    obtain ⟨hi_2, hp⟩ := ckI_s hp
    refine r_ild hx hb hK hP 1 rfl hi_2 dX7_countSlots_17 ?_
    refine lv_iadd hx hb dX7_countSlots_18 ?_
    refine lv_topi (fun x1_3 ex1_3 => ?_)
    have hp := stk_e hp ex1_3
    refine lv_istore_n (lv' := [(1, .int x1_3), (0, .ref (qra 0)), (2, .int x2)]) hx hb dX7_countSlots_19 rfl hl (by decide) rfl (fun ls hl => ?_)
    obtain ⟨x2_4, ex2_4⟩ : ∃ y : Int32, y = x2 + 1 := ⟨_, rfl⟩
    have hp := stk_e hp ex2_4
    refine lv_iinc (v := x2_4) (lv' := [(2, .int x2_4), (1, .int x1_3), (0, .ref (qra 0))]) hx hb dX7_countSlots_20 hl (k := 2) rfl (by rw [ex2_4]; rfl) (by decide) rfl (fun ls hl => ?_)
    refine lv_goto (tgt := 5) hx hb dX7_countSlots_23 (by decide) ?_
    exact hk5 x1_3 x2_4 _ (lv_sub hl [2, 1, 0] rfl) hp
theorem Ra_countSlots_b5_w (C0 : cX RX7 cX7_countSlots (some .int) 3 p s m args meth c) (hK : kN D cy s) {qra : Nat → Nat} {ra : Mem} {r : Int32} (hP : va_P D vwCl (w_Ra cy qra ra) s.heap) : ∀ (n : Nat) (x1 x2 : Int32) (ls : Array Slot), lv_has ls 3 [(0, .ref (qra 0)), (1, .int x1), (2, .int x2)] → Ra_countSlots_b5 ra n x1 x2 = some r → W p l e (rmD 0) s m args below meth c s.heap [] 0 0 (qRO below args s r) (F0 m 5 ls []) := by
  intro n
  induction n with
  | zero =>
    intro x1 x2 ls hl hp
    cases hp
  | succ n ih =>
    intro x1 x2 ls hl hp
    exact Ra_countSlots_b5B_w C0 hK hP  (fun x1 x2 ls hl hp => ih x1 x2 ls hl hp) hl hp
set_option maxHeartbeats 4000000 in
set_option maxRecDepth 100000 in
theorem c_X7_countSlots (l : Launch) (D : va_G) (cy : Nat → ClassId) (qra : Nat → Nat) (ra : Mem) (r : Int32) (hp : Ra_countSlots ra = some r) : RO l yX7_countSlots cX7_countSlots 3 (some .int) 0 D cy [.ref (qra 0)] (w_Ra cy qra ra) r := by
  refine RO_of RX7 rfl (by decide) (Nat.le_of_ble_eq_true rfl) ?_
  intro p e s m below meth c C0 hK hP ls hl
  obtain ⟨hx, hb, hr, hml, hown, hts, hk⟩ := id C0
  unfold Ra_countSlots at hp
  have hl : lv_has ls 3 [(0, .ref (qra 0))] := hl
  refine lv_bipush (v := 96) hx hb dX7_countSlots_0 (by decide) ?_
  refine lv_istore_n (lv' := [(1, .int 96), (0, .ref (qra 0))]) hx hb dX7_countSlots_2 rfl hl (by decide) rfl (fun ls hl => ?_)
  refine lv_iconst (v := 0) hx hb dX7_countSlots_3 (by decide) ?_
  refine lv_istore_n (lv' := [(2, .int 0), (1, .int 96), (0, .ref (qra 0))]) hx hb dX7_countSlots_4 rfl hl (by decide) rfl (fun ls hl => ?_)
  exact Ra_countSlots_b5_w C0 hK hP  fl 96 0 _ (lv_sub hl [2, 1, 0] rfl) hp
/-! StormSlots$Rates.slotMinute(I)I -/
def Ra_slotMinute_b4B (ra : Mem) (p1 : Int32) (k4 : Int32 → Int32 → Option (Int32)) (x2 : Int32) (x3 : Int32) : Option (Int32) :=
  if 12 ≤ x3 then if 96 ≤ x2 then some (-2) else some (720 + (5 * x2)) else ckI x3 12 (if (ra 0 x3.toNatClampNeg) ≤ x2 then stk (x2 - (ra 0 x3.toNatClampNeg)) (fun x2_5 => stk (x3 + 1) (fun x3_6 => k4 x2_5 x3_6)) else bn1 (Ra_minuteOf x3 x2 (ra 0 x3.toNatClampNeg)) (fun r_8 => some r_8))
def Ra_slotMinute_b4 (ra : Mem) (p1 : Int32) : Nat → Int32 → Int32 → Option (Int32)
  | 0 => fun _ _ => none
  | n + 1 => Ra_slotMinute_b4B ra p1 (Ra_slotMinute_b4 ra p1 n)
def Ra_slotMinute (ra : Mem) (p1 : Int32) : Option (Int32) :=
  Ra_slotMinute_b4 ra p1 fl p1 0
set_option maxHeartbeats 4000000 in
set_option maxRecDepth 100000 in
theorem Ra_slotMinute_b4B_w (C0 : cX RX7 cX7_slotMinute (some .int) 4 p s m args meth c) (hK : kN D cy s) {qra : Nat → Nat} {ra : Mem} {p1 : Int32} {r : Int32} (hP : va_P D vwCl (w_Ra cy qra ra) s.heap) {k4 : Int32 → Int32 → Option (Int32)} (hk4 : ∀ (x2 x3 : Int32) (ls : Array Slot), lv_has ls 4 [(0, .ref (qra 0)), (1, .int p1), (2, .int x2), (3, .int x3)] → k4 x2 x3 = some r → W p l e (rmD 1) s m args below meth c s.heap [] 0 0 (qRO below args s r) (F0 m 4 ls [])) {x2 : Int32} {x3 : Int32} {ls : Array Slot} (hl : lv_has ls 4 [(0, .ref (qra 0)), (1, .int p1), (2, .int x2), (3, .int x3)]) (hp : Ra_slotMinute_b4B ra p1 k4 x2 x3 = some r) : W p l e (rmD 1) s m args below meth c s.heap [] 0 0 (qRO below args s r) (F0 m 4 ls []) := by
  obtain ⟨hx, hb, hr, hml, hown, hts, hk⟩ := id C0
  unfold Ra_slotMinute_b4B at hp
  refine lv_iload_n hx hb dX7_slotMinute_4 rfl (lv_at hl 3 rfl) ?_
  refine lv_bipush (v := 12) hx hb dX7_slotMinute_5 (by decide) ?_
  refine lv_icmp_ge (tgt := 47) hx hb dX7_slotMinute_7 (by decide) (fun c_1 => ?_) (fun c_1 => ?_)
  · have hp := ite_p hp c_1
    refine lv_iload_n hx hb dX7_slotMinute_47 rfl (lv_at hl 2 rfl) ?_
    refine lv_bipush (v := 96) hx hb dX7_slotMinute_48 (by decide) ?_
    refine lv_icmp_ge (tgt := 63) hx hb dX7_slotMinute_50 (by decide) (fun c_2 => ?_) (fun c_2 => ?_)
    · have hp := ite_p hp c_2
      refine lv_bipush (v := (-2)) hx hb dX7_slotMinute_63 (by decide) ?_
      exact e_ROi hx hb hr hk dX7_slotMinute_65 (Option.some.inj hp)
    · have hp := ite_n hp c_2
      refine lv_sipush (v := 720) hx hb dX7_slotMinute_53 (by decide) ?_
      refine lv_iconst (v := 5) hx hb dX7_slotMinute_56 (by decide) ?_
      refine lv_iload_n hx hb dX7_slotMinute_57 rfl (lv_at hl 2 rfl) ?_
      refine lv_imul hx hb dX7_slotMinute_58 ?_
      refine lv_iadd hx hb dX7_slotMinute_59 ?_
      refine lv_goto (tgt := 65) hx hb dX7_slotMinute_60 (by decide) ?_
      exact e_ROi hx hb hr hk dX7_slotMinute_65 (Option.some.inj hp)
  · have hp := ite_n hp c_1
    refine lv_iload_n hx hb dX7_slotMinute_10 rfl (lv_at hl 2 rfl) ?_
    refine lv_aload_n hx hb dX7_slotMinute_11 rfl (lv_at hl 0 rfl) ?_
    refine gf_X7_9 hx hb hts hown hK hP 0 rfl rfl dX7_slotMinute_12 ?_
    refine lv_iload_n hx hb dX7_slotMinute_15 rfl (lv_at hl 3 rfl) ?_
    obtain ⟨hi_3, hp⟩ := ckI_s hp
    refine r_ild hx hb hK hP 1 rfl hi_3 dX7_slotMinute_16 ?_
    refine lv_icmp_ge (tgt := 32) hx hb dX7_slotMinute_17 (by decide) (fun c_4 => ?_) (fun c_4 => ?_)
    · have hp := ite_p hp c_4
      refine lv_iload_n hx hb dX7_slotMinute_32 rfl (lv_at hl 2 rfl) ?_
      refine lv_aload_n hx hb dX7_slotMinute_33 rfl (lv_at hl 0 rfl) ?_
      refine gf_X7_9 hx hb hts hown hK hP 0 rfl rfl dX7_slotMinute_34 ?_
      refine lv_iload_n hx hb dX7_slotMinute_37 rfl (lv_at hl 3 rfl) ?_
      refine r_ild hx hb hK hP 1 rfl hi_3 dX7_slotMinute_38 ?_
      refine lv_isub hx hb dX7_slotMinute_39 ?_
      refine lv_topi (fun x2_5 ex2_5 => ?_)
      have hp := stk_e hp ex2_5
      refine lv_istore_n (lv' := [(2, .int x2_5), (0, .ref (qra 0)), (1, .int p1), (3, .int x3)]) hx hb dX7_slotMinute_40 rfl hl (by decide) rfl (fun ls hl => ?_)
      obtain ⟨x3_6, ex3_6⟩ : ∃ y : Int32, y = x3 + 1 := ⟨_, rfl⟩
      have hp := stk_e hp ex3_6
      refine lv_iinc (v := x3_6) (lv' := [(3, .int x3_6), (2, .int x2_5), (0, .ref (qra 0)), (1, .int p1)]) hx hb dX7_slotMinute_41 hl (k := 3) rfl (by rw [ex3_6]; rfl) (by decide) rfl (fun ls hl => ?_)
      refine lv_goto (tgt := 4) hx hb dX7_slotMinute_44 (by decide) ?_
      exact hk4 x2_5 x3_6 _ (lv_sub hl [2, 3, 1, 0] rfl) hp
    · have hp := ite_n hp c_4
      refine lv_iload_n hx hb dX7_slotMinute_20 rfl (lv_at hl 3 rfl) ?_
      refine lv_iload_n hx hb dX7_slotMinute_21 rfl (lv_at hl 2 rfl) ?_
      refine lv_aload_n hx hb dX7_slotMinute_22 rfl (lv_at hl 0 rfl) ?_
      refine gf_X7_9 hx hb hts hown hK hP 0 rfl rfl dX7_slotMinute_23 ?_
      refine lv_iload_n hx hb dX7_slotMinute_26 rfl (lv_at hl 3 rfl) ?_
      refine r_ild hx hb hK hP 1 rfl hi_3 dX7_slotMinute_27 ?_
      obtain ⟨r_8, hc_7, hp⟩ := bn1_s hp
      refine k_ROS (As := [.int x3, .int x2, .int (ra 0 x3.toNatClampNeg)]) (rest := []) ⟨hx, hb, hml, hown, hts⟩ hK (show va_P D vwCl [] _ from fun k q h => by simp at h) (cw_X7_25 hts ⟨Nat.le_of_ble_eq_true rfl, Nat.le_of_ble_eq_true rfl⟩) (c_X7_minuteOf l D cy x3 x2 (ra 0 x3.toNatClampNeg) r_8 hc_7) rfl hl.1 (Nat.le_of_ble_eq_true rfl) ⟨Nat.le_refl _, Nat.le_refl _⟩ dX7_slotMinute_28 ?_
      exact e_ROi hx hb hr hk dX7_slotMinute_31 (Option.some.inj hp)
theorem Ra_slotMinute_b4_w (C0 : cX RX7 cX7_slotMinute (some .int) 4 p s m args meth c) (hK : kN D cy s) {qra : Nat → Nat} {ra : Mem} {p1 : Int32} {r : Int32} (hP : va_P D vwCl (w_Ra cy qra ra) s.heap) : ∀ (n : Nat) (x2 x3 : Int32) (ls : Array Slot), lv_has ls 4 [(0, .ref (qra 0)), (1, .int p1), (2, .int x2), (3, .int x3)] → Ra_slotMinute_b4 ra p1 n x2 x3 = some r → W p l e (rmD 1) s m args below meth c s.heap [] 0 0 (qRO below args s r) (F0 m 4 ls []) := by
  intro n
  induction n with
  | zero =>
    intro x2 x3 ls hl hp
    cases hp
  | succ n ih =>
    intro x2 x3 ls hl hp
    exact Ra_slotMinute_b4B_w C0 hK hP  (fun x2 x3 ls hl hp => ih x2 x3 ls hl hp) hl hp
set_option maxHeartbeats 4000000 in
set_option maxRecDepth 100000 in
theorem c_X7_slotMinute (l : Launch) (D : va_G) (cy : Nat → ClassId) (qra : Nat → Nat) (ra : Mem) (p1 : Int32) (r : Int32) (hp : Ra_slotMinute ra p1 = some r) : RO l yX7_slotMinute cX7_slotMinute 4 (some .int) 1 D cy [.ref (qra 0), .int p1] (w_Ra cy qra ra) r := by
  refine RO_of RX7 rfl (by decide) (Nat.le_of_ble_eq_true rfl) ?_
  intro p e s m below meth c C0 hK hP ls hl
  obtain ⟨hx, hb, hr, hml, hown, hts, hk⟩ := id C0
  unfold Ra_slotMinute at hp
  have hl : lv_has ls 4 [(0, .ref (qra 0)), (1, .int p1)] := hl
  refine lv_iload_n hx hb dX7_slotMinute_0 rfl (lv_at hl 1 rfl) ?_
  refine lv_istore_n (lv' := [(2, .int p1), (0, .ref (qra 0)), (1, .int p1)]) hx hb dX7_slotMinute_1 rfl hl (by decide) rfl (fun ls hl => ?_)
  refine lv_iconst (v := 0) hx hb dX7_slotMinute_2 (by decide) ?_
  refine lv_istore_n (lv' := [(3, .int 0), (2, .int p1), (0, .ref (qra 0)), (1, .int p1)]) hx hb dX7_slotMinute_3 rfl hl (by decide) rfl (fun ls hl => ?_)
  exact Ra_slotMinute_b4_w C0 hK hP  fl p1 0 _ (lv_sub hl [2, 3, 1, 0] rfl) hp
/-! StormSlots$Rates.hasSlot(I)Z -/
def Ra_hasSlot_b40B (ra : Mem) (p1 : Int32) (k40 : Int32 → Int32 → Int32 → Option (Int32)) (x2 : Int32) (x3 : Int32) (x4 : Int32) : Option (Int32) :=
  if x3 ≤ x4 then some 0 else bn1 (Ra_minuteOf x2 x4 x3) (fun r_9 => if r_9 = p1 then some 1 else stk (x4 + 1) (fun x4_11 => k40 x2 x3 x4_11))
def Ra_hasSlot_b40 (ra : Mem) (p1 : Int32) : Nat → Int32 → Int32 → Int32 → Option (Int32)
  | 0 => fun _ _ _ => none
  | n + 1 => Ra_hasSlot_b40B ra p1 (Ra_hasSlot_b40 ra p1 n)
def Ra_hasSlot (ra : Mem) (p1 : Int32) : Option (Int32) :=
  if p1 < 720 then stk (p1 / 60) (fun x2_2 => bn1 (Ra_of ra x2_2) (fun r_4 => Ra_hasSlot_b40 ra p1 fl x2_2 r_4 0)) else if 1200 ≤ p1 then some 0 else if (p1 - p1 / 5 * 5) = 0 then some 1 else some 0
set_option maxHeartbeats 4000000 in
set_option maxRecDepth 100000 in
theorem Ra_hasSlot_b40B_w (C0 : cX RX7 cX7_hasSlot (some .boolean) 5 p s m args meth c) (hK : kN D cy s) {qra : Nat → Nat} {ra : Mem} {p1 : Int32} {r : Int32} (hP : va_P D vwCl (w_Ra cy qra ra) s.heap) {k40 : Int32 → Int32 → Int32 → Option (Int32)} (hk40 : ∀ (x2 x3 x4 : Int32) (ls : Array Slot), lv_has ls 5 [(0, .ref (qra 0)), (1, .int p1), (2, .int x2), (3, .int x3), (4, .int x4)] → k40 x2 x3 x4 = some r → W p l e (rmD 2) s m args below meth c s.heap [] 0 0 (qRO below args s r) (F0 m 40 ls [])) {x2 : Int32} {x3 : Int32} {x4 : Int32} {ls : Array Slot} (hl : lv_has ls 5 [(0, .ref (qra 0)), (1, .int p1), (2, .int x2), (3, .int x3), (4, .int x4)]) (hp : Ra_hasSlot_b40B ra p1 k40 x2 x3 x4 = some r) : W p l e (rmD 2) s m args below meth c s.heap [] 0 0 (qRO below args s r) (F0 m 40 ls []) := by
  obtain ⟨hx, hb, hr, hml, hown, hts, hk⟩ := id C0
  unfold Ra_hasSlot_b40B at hp
  refine lv_iload hx hb dX7_hasSlot_40 (lv_at hl 4 rfl) ?_
  refine lv_iload_n hx hb dX7_hasSlot_42 rfl (lv_at hl 3 rfl) ?_
  refine lv_icmp_ge (tgt := 65) hx hb dX7_hasSlot_43 (by decide) (fun c_7 => ?_) (fun c_7 => ?_)
  · have hp := ite_p hp c_7
    refine lv_iconst (v := 0) hx hb dX7_hasSlot_65 (by decide) ?_
    exact e_ROz hx hb hr hk (Or.inl rfl) dX7_hasSlot_66 (Option.some.inj hp)
  · have hp := ite_n hp c_7
    refine lv_iload_n hx hb dX7_hasSlot_46 rfl (lv_at hl 2 rfl) ?_
    refine lv_iload hx hb dX7_hasSlot_47 (lv_at hl 4 rfl) ?_
    refine lv_iload_n hx hb dX7_hasSlot_49 rfl (lv_at hl 3 rfl) ?_
    obtain ⟨r_9, hc_8, hp⟩ := bn1_s hp
    refine k_ROS (As := [.int x2, .int x4, .int x3]) (rest := []) ⟨hx, hb, hml, hown, hts⟩ hK (show va_P D vwCl [] _ from fun k q h => by simp at h) (cw_X7_25 hts ⟨Nat.le_of_ble_eq_true rfl, Nat.le_of_ble_eq_true rfl⟩) (c_X7_minuteOf l D cy x2 x4 x3 r_9 hc_8) rfl hl.1 (Nat.le_of_ble_eq_true rfl) ⟨Nat.le_refl _, Nat.le_refl _⟩ dX7_hasSlot_50 ?_
    refine lv_iload_n hx hb dX7_hasSlot_53 rfl (lv_at hl 1 rfl) ?_
    refine lv_icmp_ne (tgt := 59) hx hb dX7_hasSlot_54 (by decide) (fun c_10 => ?_) (fun c_10 => ?_)
    · have hp := ite_n hp c_10
      obtain ⟨x4_11, ex4_11⟩ : ∃ y : Int32, y = x4 + 1 := ⟨_, rfl⟩
      have hp := stk_e hp ex4_11
      refine lv_iinc (v := x4_11) (lv' := [(4, .int x4_11), (0, .ref (qra 0)), (1, .int p1), (2, .int x2), (3, .int x3)]) hx hb dX7_hasSlot_59 hl (k := 4) rfl (by rw [ex4_11]; rfl) (by decide) rfl (fun ls hl => ?_)
      refine lv_goto (tgt := 40) hx hb dX7_hasSlot_62 (by decide) ?_
      exact hk40 x2 x3 x4_11 _ (lv_sub hl [1, 2, 3, 4, 0] rfl) hp
    · have hp := ite_p hp c_10
      refine lv_iconst (v := 1) hx hb dX7_hasSlot_57 (by decide) ?_
      exact e_ROz hx hb hr hk (Or.inr rfl) dX7_hasSlot_58 (Option.some.inj hp)
theorem Ra_hasSlot_b40_w (C0 : cX RX7 cX7_hasSlot (some .boolean) 5 p s m args meth c) (hK : kN D cy s) {qra : Nat → Nat} {ra : Mem} {p1 : Int32} {r : Int32} (hP : va_P D vwCl (w_Ra cy qra ra) s.heap) : ∀ (n : Nat) (x2 x3 x4 : Int32) (ls : Array Slot), lv_has ls 5 [(0, .ref (qra 0)), (1, .int p1), (2, .int x2), (3, .int x3), (4, .int x4)] → Ra_hasSlot_b40 ra p1 n x2 x3 x4 = some r → W p l e (rmD 2) s m args below meth c s.heap [] 0 0 (qRO below args s r) (F0 m 40 ls []) := by
  intro n
  induction n with
  | zero =>
    intro x2 x3 x4 ls hl hp
    cases hp
  | succ n ih =>
    intro x2 x3 x4 ls hl hp
    exact Ra_hasSlot_b40B_w C0 hK hP  (fun x2 x3 x4 ls hl hp => ih x2 x3 x4 ls hl hp) hl hp
set_option maxHeartbeats 4000000 in
set_option maxRecDepth 100000 in
theorem c_X7_hasSlot (l : Launch) (D : va_G) (cy : Nat → ClassId) (qra : Nat → Nat) (ra : Mem) (p1 : Int32) (r : Int32) (hp : Ra_hasSlot ra p1 = some r) : RO l yX7_hasSlot cX7_hasSlot 5 (some .boolean) 2 D cy [.ref (qra 0), .int p1] (w_Ra cy qra ra) r := by
  refine RO_of RX7 rfl (by decide) (Nat.le_of_ble_eq_true rfl) ?_
  intro p e s m below meth c C0 hK hP ls hl
  obtain ⟨hx, hb, hr, hml, hown, hts, hk⟩ := id C0
  unfold Ra_hasSlot at hp
  have hl : lv_has ls 5 [(0, .ref (qra 0)), (1, .int p1)] := hl
  refine lv_iload_n hx hb dX7_hasSlot_0 rfl (lv_at hl 1 rfl) ?_
  refine lv_sipush (v := 720) hx hb dX7_hasSlot_1 (by decide) ?_
  refine lv_icmp_lt (tgt := 26) hx hb dX7_hasSlot_4 (by decide) (fun c_1 => ?_) (fun c_1 => ?_)
  · have hp := ite_p hp c_1
    refine lv_iload_n hx hb dX7_hasSlot_26 rfl (lv_at hl 1 rfl) ?_
    refine lv_bipush (v := 60) hx hb dX7_hasSlot_27 (by decide) ?_
    refine lv_idiv hx hb dX7_hasSlot_29 (by decide) ?_
    refine lv_topi (fun x2_2 ex2_2 => ?_)
    have hp := stk_e hp ex2_2
    refine lv_istore_n (lv' := [(2, .int x2_2), (0, .ref (qra 0)), (1, .int p1)]) hx hb dX7_hasSlot_30 rfl hl (by decide) rfl (fun ls hl => ?_)
    refine lv_aload_n hx hb dX7_hasSlot_31 rfl (lv_at hl 1 rfl) ?_
    refine lv_iload_n hx hb dX7_hasSlot_32 rfl (lv_at hl 0 rfl) ?_
    obtain ⟨r_4, hc_3, hp⟩ := bn1_s hp
    refine k_ROV (As := [.int x2_2]) (rest := []) ⟨hx, hb, hml, hown, hts⟩ hK hP (cw_X7_29 hts ⟨Nat.le_of_ble_eq_true rfl, Nat.le_of_ble_eq_true rfl⟩) 0 (ci := 7) rfl rfl rfl (c_X7_of l D cy qra ra x2_2 r_4 hc_3) rfl hl.1 (Nat.le_of_ble_eq_true rfl) ⟨Nat.le_refl _, Nat.le_refl _⟩ dX7_hasSlot_33 ?_
    refine lv_istore_n (lv' := [(3, .int r_4), (2, .int x2_2), (0, .ref (qra 0)), (1, .int p1)]) hx hb dX7_hasSlot_36 rfl hl (by decide) rfl (fun ls hl => ?_)
    refine lv_iconst (v := 0) hx hb dX7_hasSlot_37 (by decide) ?_
    refine lv_istore (lv' := [(4, .int 0), (3, .int r_4), (2, .int x2_2), (0, .ref (qra 0)), (1, .int p1)]) hx hb dX7_hasSlot_38 hl (by decide) rfl (fun ls hl => ?_)
    exact Ra_hasSlot_b40_w C0 hK hP  fl x2_2 r_4 0 _ (lv_sub hl [3, 4, 2, 1, 0] rfl) hp
  · have hp := ite_n hp c_1
    refine lv_iload_n hx hb dX7_hasSlot_7 rfl (lv_at hl 1 rfl) ?_
    refine lv_sipush (v := 1200) hx hb dX7_hasSlot_8 (by decide) ?_
    refine lv_icmp_ge (tgt := 24) hx hb dX7_hasSlot_11 (by decide) (fun c_5 => ?_) (fun c_5 => ?_)
    · have hp := ite_p hp c_5
      refine lv_iconst (v := 0) hx hb dX7_hasSlot_24 (by decide) ?_
      exact e_ROz hx hb hr hk (Or.inl rfl) dX7_hasSlot_25 (Option.some.inj hp)
    · have hp := ite_n hp c_5
      refine lv_iload_n hx hb dX7_hasSlot_14 rfl (lv_at hl 1 rfl) ?_
      refine lv_iconst (v := 5) hx hb dX7_hasSlot_15 (by decide) ?_
      refine lv_irem hx hb dX7_hasSlot_16 (by decide) ?_
      refine lv_if_ne (tgt := 24) hx hb dX7_hasSlot_17 (by decide) (fun c_6 => ?_) (fun c_6 => ?_)
      · have hp := ite_n hp c_6
        refine lv_iconst (v := 0) hx hb dX7_hasSlot_24 (by decide) ?_
        exact e_ROz hx hb hr hk (Or.inl rfl) dX7_hasSlot_25 (Option.some.inj hp)
      · have hp := ite_p hp c_6
        refine lv_iconst (v := 1) hx hb dX7_hasSlot_20 (by decide) ?_
        refine lv_goto (tgt := 25) hx hb dX7_hasSlot_21 (by decide) ?_
        exact e_ROz hx hb hr hk (Or.inr rfl) dX7_hasSlot_25 (Option.some.inj hp)
/-! StormSlots$Rates.copyFrom(LStormSlots$Rates;)V -/
def Ra_copyFrom (ra : Mem) (ra2 : Mem) : Option (Mem) :=
  stk (upA ra 0 (va_cpy (ra2 0) (ra 0) (0 : Int32).toNatClampNeg (0 : Int32).toNatClampNeg (12 : Int32).toNatClampNeg)) (fun ra_1 => some ra_1)
set_option maxHeartbeats 4000000 in
set_option maxRecDepth 100000 in
theorem c_X7_copyFrom (l : Launch) (D : va_G) (cy : Nat → ClassId) (qra qra2 : Nat → Nat) (ra ra2 : Mem) (ra' : Mem) (hp : Ra_copyFrom ra ra2 = some ra') : RV l yX7_copyFrom cX7_copyFrom 2 1 D cy [.ref (qra 0), .ref (qra2 0)] (w_RaRa cy qra qra2 ra ra2) (w_RaRa cy qra qra2 ra' ra2) := by
  refine RV_of RX7 rfl (by decide) (Nat.le_of_ble_eq_true rfl) ?_
  intro p e s m below meth c A C0 hK hP hD hS hA ls hl
  obtain ⟨hx, hb, hr, hml, hown, hts, hk⟩ := id C0
  unfold Ra_copyFrom at hp
  have hl : lv_has ls 2 [(0, .ref (qra 0)), (1, .ref (qra2 0))] := hl
  refine lv_aload_n hx hb dX7_copyFrom_0 rfl (lv_at hl 1 rfl) ?_
  refine gf_X7_9 hx hb hts hown hK hP 2 rfl rfl dX7_copyFrom_1 ?_
  refine lv_iconst (v := 0) hx hb dX7_copyFrom_4 (by decide) ?_
  refine lv_aload_n hx hb dX7_copyFrom_5 rfl (lv_at hl 0 rfl) ?_
  refine gf_X7_9 hx hb hts hown hK hP 0 rfl rfl dX7_copyFrom_6 ?_
  refine lv_iconst (v := 0) hx hb dX7_copyFrom_9 (by decide) ?_
  refine lv_bipush (v := 12) hx hb dX7_copyFrom_10 (by decide) ?_
  obtain ⟨ra_1, era_1⟩ : ∃ y : Mem, y = upA ra 0 (va_cpy (ra2 0) (ra 0) (0 : Int32).toNatClampNeg (0 : Int32).toNatClampNeg (12 : Int32).toNatClampNeg) := ⟨_, rfl⟩
  have hp := stk_e hp era_1
  refine ac_X7_33 hx hb (by rw [hml]; exact hl.1.symm) hts hown hK hP hD hS (wn := (w_RaRa cy qra qra2 ra_1 ra2)) 3 1 rfl rfl (by decide) (by decide) (by decide) (Nat.le_of_ble_eq_true rfl) (by decide) (by subst era_1; rfl) dX7_copyFrom_12 (fun H locs hP hD hS => ?_)
  simp only [Option.some.injEq, Prod.mk.injEq] at hp
  subst hp
  exact e_RV hx hb hr hk hP hD hS dX7_copyFrom_15
/-! StormSlots$Roster.isFull()Z -/
def Ro_isFull (ro : Mem) : Option (Int32) :=
  if (ro 4 0) < 20 then some 0 else some 1
set_option maxHeartbeats 4000000 in
set_option maxRecDepth 100000 in
theorem c_X9_isFull (l : Launch) (D : va_G) (cy : Nat → ClassId) (qro : Nat → Nat) (ro : Mem) (r : Int32) (hp : Ro_isFull ro = some r) : RO l yX9_isFull cX9_isFull 1 (some .boolean) 0 D cy [.ref (qro 0)] (w_Ro cy qro ro) r := by
  refine RO_of RX9 rfl (by decide) (Nat.le_of_ble_eq_true rfl) ?_
  intro p e s m below meth c C0 hK hP ls hl
  obtain ⟨hx, hb, hr, hml, hown, hts, hk⟩ := id C0
  unfold Ro_isFull at hp
  have hl : lv_has ls 1 [(0, .ref (qro 0))] := hl
  refine lv_aload_n hx hb dX9_isFull_0 rfl (lv_at hl 0 rfl) ?_
  refine gf_X9_24 hx hb hts hown hK hP 0 rfl rfl dX9_isFull_1 ?_
  refine lv_bipush (v := 20) hx hb dX9_isFull_4 (by decide) ?_
  refine lv_icmp_lt (tgt := 13) hx hb dX9_isFull_6 (by decide) (fun c_1 => ?_) (fun c_1 => ?_)
  · have hp := ite_p hp c_1
    refine lv_iconst (v := 0) hx hb dX9_isFull_13 (by decide) ?_
    exact e_ROz hx hb hr hk (Or.inl rfl) dX9_isFull_14 (Option.some.inj hp)
  · have hp := ite_n hp c_1
    refine lv_iconst (v := 1) hx hb dX9_isFull_9 (by decide) ?_
    refine lv_goto (tgt := 14) hx hb dX9_isFull_10 (by decide) ?_
    exact e_ROz hx hb hr hk (Or.inr rfl) dX9_isFull_14 (Option.some.inj hp)
/-! StormSlots$Reader.peek(LStormSlots$Bytes;)I -/
def Rd_peek (rd : Mem) (bs : Mem) : Option (Int32) :=
  if (rd 0 0) ≤ (rd 1 0) then some (-1) else bn1 (By_byteAt bs (rd 1 0)) (fun r_3 => some r_3)
set_option maxHeartbeats 4000000 in
set_option maxRecDepth 100000 in
theorem c_X8_peek (l : Launch) (D : va_G) (cy : Nat → ClassId) (qrd qbs : Nat → Nat) (rd bs : Mem) (r : Int32) (hp : Rd_peek rd bs = some r) : RO l yX8_peek cX8_peek 2 (some .int) 1 D cy [.ref (qrd 0), .ref (qbs 0)] (w_RdBy cy qrd qbs rd bs) r := by
  refine RO_of RX8 rfl (by decide) (Nat.le_of_ble_eq_true rfl) ?_
  intro p e s m below meth c C0 hK hP ls hl
  obtain ⟨hx, hb, hr, hml, hown, hts, hk⟩ := id C0
  unfold Rd_peek at hp
  have hl : lv_has ls 2 [(0, .ref (qrd 0)), (1, .ref (qbs 0))] := hl
  refine lv_aload_n hx hb dX8_peek_0 rfl (lv_at hl 0 rfl) ?_
  refine gf_X8_20 hx hb hts hown hK hP 0 rfl rfl dX8_peek_1 ?_
  refine lv_aload_n hx hb dX8_peek_4 rfl (lv_at hl 0 rfl) ?_
  refine gf_X8_15 hx hb hts hown hK hP 0 rfl rfl dX8_peek_5 ?_
  refine lv_icmp_ge (tgt := 22) hx hb dX8_peek_8 (by decide) (fun c_1 => ?_) (fun c_1 => ?_)
  · have hp := ite_p hp c_1
    refine lv_iconst (v := (-1)) hx hb dX8_peek_22 (by decide) ?_
    exact e_ROi hx hb hr hk dX8_peek_23 (Option.some.inj hp)
  · have hp := ite_n hp c_1
    refine lv_aload_n hx hb dX8_peek_11 rfl (lv_at hl 1 rfl) ?_
    refine lv_aload_n hx hb dX8_peek_12 rfl (lv_at hl 0 rfl) ?_
    refine gf_X8_20 hx hb hts hown hK hP 0 rfl rfl dX8_peek_13 ?_
    obtain ⟨r_3, hc_2, hp⟩ := bn1_s hp
    refine k_ROV (As := [.int (rd 1 0)]) (rest := []) ⟨hx, hb, hml, hown, hts⟩ hK (hP.sub (ws' := (w_By cy qbs bs)) [1, 2] rfl) (cw_X8_69 hts ⟨Nat.le_of_ble_eq_true rfl, Nat.le_of_ble_eq_true rfl⟩) 0 (ci := 0) rfl rfl rfl (c_X0_byteAt l D cy qbs bs (rd 1 0) r_3 hc_2) rfl hl.1 (Nat.le_of_ble_eq_true rfl) ⟨Nat.le_refl _, Nat.le_refl _⟩ dX8_peek_16 ?_
    refine lv_goto (tgt := 23) hx hb dX8_peek_19 (by decide) ?_
    exact e_ROi hx hb hr hk dX8_peek_23 (Option.some.inj hp)
/-! StormSlots$Reader.skipBlanks(LStormSlots$Bytes;)V -/
def Rd_skipBlanks_b0B (bs : Mem) (k0 : Mem → Option (Mem)) (rd : Mem) : Option (Mem) :=
  if (rd 0 0) ≤ (rd 1 0) then some rd else bn1 (Rd_peek rd bs) (fun r_3 => if r_3 = 32 then stk (upm rd 1 0 ((rd 1 0) + 1)) (fun rd_5 => k0 rd_5) else some rd)
def Rd_skipBlanks_b0 (bs : Mem) : Nat → Mem → Option (Mem)
  | 0 => fun _ => none
  | n + 1 => Rd_skipBlanks_b0B bs (Rd_skipBlanks_b0 bs n)
def Rd_skipBlanks (rd : Mem) (bs : Mem) : Option (Mem) :=
  Rd_skipBlanks_b0 bs fl rd
set_option maxHeartbeats 4000000 in
set_option maxRecDepth 100000 in
theorem Rd_skipBlanks_b0B_w (C0 : cX RX8 cX8_skipBlanks none 2 p s m args meth c) (hK : kN D cy s) {qrd qbs : Nat → Nat} {bs : Mem} {rd' : Mem} (hA : ∀ q, s.heap.size ≤ q → A q) {k0 : Mem → Option (Mem)} (hk0 : ∀ (rd : Mem) (H : Heap) (locs : List Loc) (ls : Array Slot), va_P D vwCl (w_RdBy cy qrd qbs rd bs) H → va_D A (w_RdBy cy qrd qbs rd bs) → va_S A s.heap H locs → lv_has ls 2 [(0, .ref (qrd 0)), (1, .ref (qbs 0))] → k0 rd = some rd' → W p l e (rmD 2) s m args below meth c H locs 0 0 (qRV D below args s A (w_RdBy cy qrd qbs rd' bs)) (F0 m 0 ls [])) {rd : Mem} {H : Heap} {locs : List Loc} (hP : va_P D vwCl (w_RdBy cy qrd qbs rd bs) H) (hD : va_D A (w_RdBy cy qrd qbs rd bs)) (hS : va_S A s.heap H locs) {ls : Array Slot} (hl : lv_has ls 2 [(0, .ref (qrd 0)), (1, .ref (qbs 0))]) (hp : Rd_skipBlanks_b0B bs k0 rd = some rd') : W p l e (rmD 2) s m args below meth c H locs 0 0 (qRV D below args s A (w_RdBy cy qrd qbs rd' bs)) (F0 m 0 ls []) := by
  obtain ⟨hx, hb, hr, hml, hown, hts, hk⟩ := id C0
  unfold Rd_skipBlanks_b0B at hp
  refine lv_aload_n hx hb dX8_skipBlanks_0 rfl (lv_at hl 0 rfl) ?_
  refine gf_X8_20 hx hb hts hown hK hP 0 rfl rfl dX8_skipBlanks_1 ?_
  refine lv_aload_n hx hb dX8_skipBlanks_4 rfl (lv_at hl 0 rfl) ?_
  refine gf_X8_15 hx hb hts hown hK hP 0 rfl rfl dX8_skipBlanks_5 ?_
  refine lv_icmp_ge (tgt := 34) hx hb dX8_skipBlanks_8 (by decide) (fun c_1 => ?_) (fun c_1 => ?_)
  · have hp := ite_p hp c_1
    simp only [Option.some.injEq, Prod.mk.injEq] at hp
    subst hp
    exact e_RV hx hb hr hk hP hD hS dX8_skipBlanks_34
  · have hp := ite_n hp c_1
    refine lv_aload_n hx hb dX8_skipBlanks_11 rfl (lv_at hl 0 rfl) ?_
    refine lv_aload_n hx hb dX8_skipBlanks_12 rfl (lv_at hl 1 rfl) ?_
    obtain ⟨r_3, hc_2, hp⟩ := bn1_s hp
    refine k_ROV (As := [.ref (qbs 0)]) (rest := []) ⟨hx, hb, hml, hown, hts⟩ hK hP (cw_X8_58 hts ⟨Nat.le_of_ble_eq_true rfl, Nat.le_of_ble_eq_true rfl⟩) 0 (ci := 8) rfl rfl rfl (c_X8_peek l D cy qrd qbs rd bs r_3 hc_2) rfl hl.1 (Nat.le_of_ble_eq_true rfl) ⟨Nat.le_refl _, Nat.le_refl _⟩ dX8_skipBlanks_13 ?_
    refine lv_bipush (v := 32) hx hb dX8_skipBlanks_16 (by decide) ?_
    refine lv_icmp_ne (tgt := 34) hx hb dX8_skipBlanks_18 (by decide) (fun c_4 => ?_) (fun c_4 => ?_)
    · have hp := ite_n hp c_4
      simp only [Option.some.injEq, Prod.mk.injEq] at hp
      subst hp
      exact e_RV hx hb hr hk hP hD hS dX8_skipBlanks_34
    · have hp := ite_p hp c_4
      refine lv_aload_n hx hb dX8_skipBlanks_21 rfl (lv_at hl 0 rfl) ?_
      refine lv_dup hx hb dX8_skipBlanks_22 rfl ?_
      refine gf_X8_20 hx hb hts hown hK hP 0 rfl rfl dX8_skipBlanks_23 ?_
      refine lv_iconst (v := 1) hx hb dX8_skipBlanks_26 (by decide) ?_
      refine lv_iadd hx hb dX8_skipBlanks_27 ?_
      obtain ⟨rd_5, erd_5⟩ : ∃ y : Mem, y = upm rd 1 0 ((rd 1 0) + 1) := ⟨_, rfl⟩
      have hp := stk_e hp erd_5
      refine pf_X8_20 hx hb hts hown hK hP hD hS (wn := (w_RdBy cy qrd qbs rd_5 bs)) 0 rfl (Nat.le_of_ble_eq_true rfl) (by subst erd_5; rfl) dX8_skipBlanks_28 (fun H locs hP hD hS => ?_)
      refine lv_goto (tgt := 0) hx hb dX8_skipBlanks_31 (by decide) ?_
      exact hk0 rd_5 _ _ _ hP hD hS hl hp
theorem Rd_skipBlanks_b0_w (C0 : cX RX8 cX8_skipBlanks none 2 p s m args meth c) (hK : kN D cy s) {qrd qbs : Nat → Nat} {bs : Mem} {rd' : Mem} (hA : ∀ q, s.heap.size ≤ q → A q) : ∀ (n : Nat) (rd : Mem) (H : Heap) (locs : List Loc) (ls : Array Slot), va_P D vwCl (w_RdBy cy qrd qbs rd bs) H → va_D A (w_RdBy cy qrd qbs rd bs) → va_S A s.heap H locs → lv_has ls 2 [(0, .ref (qrd 0)), (1, .ref (qbs 0))] → Rd_skipBlanks_b0 bs n rd = some rd' → W p l e (rmD 2) s m args below meth c H locs 0 0 (qRV D below args s A (w_RdBy cy qrd qbs rd' bs)) (F0 m 0 ls []) := by
  intro n
  induction n with
  | zero =>
    intro rd H locs ls hP hD hS hl hp
    cases hp
  | succ n ih =>
    intro rd H locs ls hP hD hS hl hp
    exact Rd_skipBlanks_b0B_w C0 hK hA  (fun rd H locs ls hP hD hS hl hp => ih rd H locs ls hP hD hS hl hp) hP hD hS hl hp
set_option maxHeartbeats 4000000 in
set_option maxRecDepth 100000 in
theorem c_X8_skipBlanks (l : Launch) (D : va_G) (cy : Nat → ClassId) (qrd qbs : Nat → Nat) (rd bs : Mem) (rd' : Mem) (hp : Rd_skipBlanks rd bs = some rd') : RV l yX8_skipBlanks cX8_skipBlanks 2 2 D cy [.ref (qrd 0), .ref (qbs 0)] (w_RdBy cy qrd qbs rd bs) (w_RdBy cy qrd qbs rd' bs) := by
  refine RV_of RX8 rfl (by decide) (Nat.le_of_ble_eq_true rfl) ?_
  intro p e s m below meth c A C0 hK hP hD hS hA ls hl
  obtain ⟨hx, hb, hr, hml, hown, hts, hk⟩ := id C0
  unfold Rd_skipBlanks at hp
  have hl : lv_has ls 2 [(0, .ref (qrd 0)), (1, .ref (qbs 0))] := hl
  exact Rd_skipBlanks_b0_w C0 hK hA  fl rd _ _ _ hP hD hS hl hp
/-! StormSlots$Reader.fail(II)V -/
def Rd_fail (rd : Mem) (p1 : Int32) (p2 : Int32) : Option (Mem) :=
  if (rd 2 0) = 0 then stk (upm rd 2 0 (((-1000) * p1) - p2)) (fun rd_2 => some rd_2) else some rd
set_option maxHeartbeats 4000000 in
set_option maxRecDepth 100000 in
theorem c_X8_fail (l : Launch) (D : va_G) (cy : Nat → ClassId) (qrd : Nat → Nat) (rd : Mem) (p1 p2 : Int32) (rd' : Mem) (hp : Rd_fail rd p1 p2 = some rd') : RV l yX8_fail cX8_fail 3 0 D cy [.ref (qrd 0), .int p1, .int p2] (w_Rd cy qrd rd) (w_Rd cy qrd rd') := by
  refine RV_of RX8 rfl (by decide) (Nat.le_of_ble_eq_true rfl) ?_
  intro p e s m below meth c A C0 hK hP hD hS hA ls hl
  obtain ⟨hx, hb, hr, hml, hown, hts, hk⟩ := id C0
  unfold Rd_fail at hp
  have hl : lv_has ls 3 [(0, .ref (qrd 0)), (1, .int p1), (2, .int p2)] := hl
  refine lv_aload_n hx hb dX8_fail_0 rfl (lv_at hl 0 rfl) ?_
  refine gf_X8_23 hx hb hts hown hK hP 0 rfl rfl dX8_fail_1 ?_
  refine lv_if_ne (tgt := 18) hx hb dX8_fail_4 (by decide) (fun c_1 => ?_) (fun c_1 => ?_)
  · have hp := ite_n hp c_1
    simp only [Option.some.injEq, Prod.mk.injEq] at hp
    subst hp
    exact e_RV hx hb hr hk hP hD hS dX8_fail_18
  · have hp := ite_p hp c_1
    refine lv_aload_n hx hb dX8_fail_7 rfl (lv_at hl 0 rfl) ?_
    refine lv_sipush (v := (-1000)) hx hb dX8_fail_8 (by decide) ?_
    refine lv_iload_n hx hb dX8_fail_11 rfl (lv_at hl 1 rfl) ?_
    refine lv_imul hx hb dX8_fail_12 ?_
    refine lv_iload_n hx hb dX8_fail_13 rfl (lv_at hl 2 rfl) ?_
    refine lv_isub hx hb dX8_fail_14 ?_
    obtain ⟨rd_2, erd_2⟩ : ∃ y : Mem, y = upm rd 2 0 (((-1000) * p1) - p2) := ⟨_, rfl⟩
    have hp := stk_e hp erd_2
    refine pf_X8_23 hx hb hts hown hK hP hD hS (wn := (w_Rd cy qrd rd_2)) 0 rfl (Nat.le_of_ble_eq_true rfl) (by subst erd_2; rfl) dX8_fail_15 (fun H locs hP hD hS => ?_)
    simp only [Option.some.injEq, Prod.mk.injEq] at hp
    subst hp
    exact e_RV hx hb hr hk hP hD hS dX8_fail_18
/-! StormSlots$Reader.readLetter(LStormSlots$Bytes;Z)I -/
def Rd_readLetter_b48 (bs : Mem) (p2 : Int32) (rd : Mem) (x3 : Int32) : Option (Int32 × Mem) :=
  stk (upm rd 1 0 ((rd 1 0) + 1)) (fun rd_12 => some ((x3 - 97), rd_12))
def Rd_readLetter_b23 (bs : Mem) (p2 : Int32) (rd : Mem) (x3 : Int32) : Option (Int32 × Mem) :=
  bn1 (Rd_fail rd 1 (rd 1 0)) (fun rd_11 => Rd_readLetter_b48 bs p2 rd_11 x3)
def Rd_readLetter (rd : Mem) (bs : Mem) (p2 : Int32) : Option (Int32 × Mem) :=
  bn1 (Rd_skipBlanks rd bs) (fun rd_2 => bn1 (Rd_peek rd_2 bs) (fun r_4 => if r_4 < 97 then Rd_readLetter_b23 bs p2 rd_2 r_4 else if r_4 ≤ 101 then if p2 = 0 then Rd_readLetter_b48 bs p2 rd_2 r_4 else bn1 (Rd_fail rd_2 3 (rd_2 1 0)) (fun rd_9 => Rd_readLetter_b48 bs p2 rd_9 r_4) else Rd_readLetter_b23 bs p2 rd_2 r_4))
set_option maxHeartbeats 4000000 in
set_option maxRecDepth 100000 in
theorem Rd_readLetter_b48_w (C0 : cX RX8 cX8_readLetter (some .int) 4 p s m args meth c) (hK : kN D cy s) {qrd qbs : Nat → Nat} {bs : Mem} {p2 : Int32} {r : Int32} {rd' : Mem} (hA : ∀ q, s.heap.size ≤ q → A q) {rd : Mem} {x3 : Int32} {H : Heap} {locs : List Loc} (hP : va_P D vwCl (w_RdBy cy qrd qbs rd bs) H) (hD : va_D A (w_RdBy cy qrd qbs rd bs)) (hS : va_S A s.heap H locs) {ls : Array Slot} (hl : lv_has ls 4 [(0, .ref (qrd 0)), (1, .ref (qbs 0)), (2, .int p2), (3, .int x3)]) (hp : Rd_readLetter_b48 bs p2 rd x3 = some (r, rd')) : W p l e (rmD 3) s m args below meth c H locs 0 0 (qRI D below args s A (w_RdBy cy qrd qbs rd' bs) r) (F0 m 48 ls []) := by
  obtain ⟨hx, hb, hr, hml, hown, hts, hk⟩ := id C0
  unfold Rd_readLetter_b48 at hp
  refine lv_aload_n hx hb dX8_readLetter_48 rfl (lv_at hl 0 rfl) ?_
  refine lv_dup hx hb dX8_readLetter_49 rfl ?_
  refine gf_X8_20 hx hb hts hown hK hP 0 rfl rfl dX8_readLetter_50 ?_
  refine lv_iconst (v := 1) hx hb dX8_readLetter_53 (by decide) ?_
  refine lv_iadd hx hb dX8_readLetter_54 ?_
  obtain ⟨rd_12, erd_12⟩ : ∃ y : Mem, y = upm rd 1 0 ((rd 1 0) + 1) := ⟨_, rfl⟩
  have hp := stk_e hp erd_12
  refine pf_X8_20 hx hb hts hown hK hP hD hS (wn := (w_RdBy cy qrd qbs rd_12 bs)) 0 rfl (Nat.le_of_ble_eq_true rfl) (by subst erd_12; rfl) dX8_readLetter_55 (fun H locs hP hD hS => ?_)
  refine lv_iload_n hx hb dX8_readLetter_58 rfl (lv_at hl 3 rfl) ?_
  refine lv_bipush (v := 97) hx hb dX8_readLetter_59 (by decide) ?_
  refine lv_isub hx hb dX8_readLetter_61 ?_
  simp only [Option.some.injEq, Prod.mk.injEq] at hp
  obtain ⟨h0, rfl⟩ := hp
  exact e_RIi hx hb hr hk hP hD hS dX8_readLetter_62 h0
set_option maxHeartbeats 4000000 in
set_option maxRecDepth 100000 in
theorem Rd_readLetter_b23_w (C0 : cX RX8 cX8_readLetter (some .int) 4 p s m args meth c) (hK : kN D cy s) {qrd qbs : Nat → Nat} {bs : Mem} {p2 : Int32} {r : Int32} {rd' : Mem} (hA : ∀ q, s.heap.size ≤ q → A q) {rd : Mem} {x3 : Int32} {H : Heap} {locs : List Loc} (hP : va_P D vwCl (w_RdBy cy qrd qbs rd bs) H) (hD : va_D A (w_RdBy cy qrd qbs rd bs)) (hS : va_S A s.heap H locs) {ls : Array Slot} (hl : lv_has ls 4 [(0, .ref (qrd 0)), (1, .ref (qbs 0)), (2, .int p2), (3, .int x3)]) (hp : Rd_readLetter_b23 bs p2 rd x3 = some (r, rd')) : W p l e (rmD 3) s m args below meth c H locs 0 0 (qRI D below args s A (w_RdBy cy qrd qbs rd' bs) r) (F0 m 23 ls []) := by
  obtain ⟨hx, hb, hr, hml, hown, hts, hk⟩ := id C0
  unfold Rd_readLetter_b23 at hp
  refine lv_aload_n hx hb dX8_readLetter_23 rfl (lv_at hl 0 rfl) ?_
  refine lv_iconst (v := 1) hx hb dX8_readLetter_24 (by decide) ?_
  refine lv_aload_n hx hb dX8_readLetter_25 rfl (lv_at hl 0 rfl) ?_
  refine gf_X8_20 hx hb hts hown hK hP 0 rfl rfl dX8_readLetter_26 ?_
  obtain ⟨rd_11, hc_10, hp⟩ := bn1_s hp
  refine k_RVV (As := [.int 1, .int (rd 1 0)]) (rest := []) ⟨hx, hb, hml, hown, hts⟩ hK hP hD hS hA (FrS_set (ws := (w_RdBy cy qrd qbs rd bs)) (wc := (w_Rd cy qrd rd)) (w1 := (w_Rd cy qrd rd_11)) (wn := (w_RdBy cy qrd qbs rd_11 bs)) [0] [some 0, none, none] (by decide +kernel) rfl rfl rfl) (cw_X8_61 hts ⟨Nat.le_of_ble_eq_true rfl, Nat.le_of_ble_eq_true rfl⟩) 0 (ci := 8) rfl rfl rfl (c_X8_fail l D cy qrd rd 1 (rd 1 0) rd_11 hc_10) rfl hl.1 (Nat.le_of_ble_eq_true rfl) ⟨Nat.le_refl _, Nat.le_refl _⟩ dX8_readLetter_29 (fun H locs hP hD hS => ?_)
  refine lv_goto (tgt := 48) hx hb dX8_readLetter_32 (by decide) ?_
  exact Rd_readLetter_b48_w C0 hK hA  hP hD hS hl hp
set_option maxHeartbeats 4000000 in
set_option maxRecDepth 100000 in
theorem c_X8_readLetter (l : Launch) (D : va_G) (cy : Nat → ClassId) (qrd qbs : Nat → Nat) (rd bs : Mem) (p2 : Int32) (r : Int32) (rd' : Mem) (hp : Rd_readLetter rd bs p2 = some (r, rd')) : RI l yX8_readLetter cX8_readLetter 4 (some .int) 3 D cy [.ref (qrd 0), .ref (qbs 0), .int p2] (w_RdBy cy qrd qbs rd bs) (w_RdBy cy qrd qbs rd' bs) r := by
  refine RI_of RX8 rfl (by decide) (Nat.le_of_ble_eq_true rfl) ?_
  intro p e s m below meth c A C0 hK hP hD hS hA ls hl
  obtain ⟨hx, hb, hr, hml, hown, hts, hk⟩ := id C0
  unfold Rd_readLetter at hp
  have hl : lv_has ls 4 [(0, .ref (qrd 0)), (1, .ref (qbs 0)), (2, .int p2)] := hl
  refine lv_aload_n hx hb dX8_readLetter_0 rfl (lv_at hl 0 rfl) ?_
  refine lv_aload_n hx hb dX8_readLetter_1 rfl (lv_at hl 1 rfl) ?_
  obtain ⟨rd_2, hc_1, hp⟩ := bn1_s hp
  refine k_RVV (As := [.ref (qbs 0)]) (rest := []) ⟨hx, hb, hml, hown, hts⟩ hK hP hD hS hA FrS_rf (cw_X8_30 hts ⟨Nat.le_of_ble_eq_true rfl, Nat.le_of_ble_eq_true rfl⟩) 0 (ci := 8) rfl rfl rfl (c_X8_skipBlanks l D cy qrd qbs rd bs rd_2 hc_1) rfl hl.1 (Nat.le_of_ble_eq_true rfl) ⟨Nat.le_refl _, Nat.le_refl _⟩ dX8_readLetter_2 (fun H locs hP hD hS => ?_)
  refine lv_aload_n hx hb dX8_readLetter_5 rfl (lv_at hl 0 rfl) ?_
  refine lv_aload_n hx hb dX8_readLetter_6 rfl (lv_at hl 1 rfl) ?_
  obtain ⟨r_4, hc_3, hp⟩ := bn1_s hp
  refine k_ROV (As := [.ref (qbs 0)]) (rest := []) ⟨hx, hb, hml, hown, hts⟩ hK hP (cw_X8_58 hts ⟨Nat.le_of_ble_eq_true rfl, Nat.le_of_ble_eq_true rfl⟩) 0 (ci := 8) rfl rfl rfl (c_X8_peek l D cy qrd qbs rd_2 bs r_4 hc_3) rfl hl.1 (Nat.le_of_ble_eq_true rfl) ⟨Nat.le_refl _, Nat.le_refl _⟩ dX8_readLetter_7 ?_
  refine lv_istore_n (lv' := [(3, .int r_4), (0, .ref (qrd 0)), (1, .ref (qbs 0)), (2, .int p2)]) hx hb dX8_readLetter_10 rfl hl (by decide) rfl (fun ls hl => ?_)
  refine lv_iload_n hx hb dX8_readLetter_11 rfl (lv_at hl 0 rfl) ?_
  refine lv_bipush (v := 97) hx hb dX8_readLetter_12 (by decide) ?_
  refine lv_icmp_lt (tgt := 23) hx hb dX8_readLetter_14 (by decide) (fun c_5 => ?_) (fun c_5 => ?_)
  · have hp := ite_p hp c_5
    exact Rd_readLetter_b23_w C0 hK hA  hP hD hS (lv_sub hl [1, 2, 3, 0] rfl) hp
  · have hp := ite_n hp c_5
    refine lv_iload_n hx hb dX8_readLetter_17 rfl (lv_at hl 0 rfl) ?_
    refine lv_bipush (v := 101) hx hb dX8_readLetter_18 (by decide) ?_
    refine lv_icmp_le (tgt := 35) hx hb dX8_readLetter_20 (by decide) (fun c_6 => ?_) (fun c_6 => ?_)
    · have hp := ite_p hp c_6
      refine lv_iload_n hx hb dX8_readLetter_35 rfl (lv_at hl 3 rfl) ?_
      refine lv_if_eq (tgt := 48) hx hb dX8_readLetter_36 (by decide) (fun c_7 => ?_) (fun c_7 => ?_)
      · have hp := ite_p hp c_7
        exact Rd_readLetter_b48_w C0 hK hA  hP hD hS (lv_sub hl [1, 2, 3, 0] rfl) hp
      · have hp := ite_n hp c_7
        refine lv_aload_n hx hb dX8_readLetter_39 rfl (lv_at hl 1 rfl) ?_
        refine lv_iconst (v := 3) hx hb dX8_readLetter_40 (by decide) ?_
        refine lv_aload_n hx hb dX8_readLetter_41 rfl (lv_at hl 1 rfl) ?_
        refine gf_X8_20 hx hb hts hown hK hP 0 rfl rfl dX8_readLetter_42 ?_
        obtain ⟨rd_9, hc_8, hp⟩ := bn1_s hp
        refine k_RVV (As := [.int 3, .int (rd_2 1 0)]) (rest := []) ⟨hx, hb, hml, hown, hts⟩ hK hP hD hS hA (FrS_set (ws := (w_RdBy cy qrd qbs rd_2 bs)) (wc := (w_Rd cy qrd rd_2)) (w1 := (w_Rd cy qrd rd_9)) (wn := (w_RdBy cy qrd qbs rd_9 bs)) [0] [some 0, none, none] (by decide +kernel) rfl rfl rfl) (cw_X8_61 hts ⟨Nat.le_of_ble_eq_true rfl, Nat.le_of_ble_eq_true rfl⟩) 0 (ci := 8) rfl rfl rfl (c_X8_fail l D cy qrd rd_2 3 (rd_2 1 0) rd_9 hc_8) rfl hl.1 (Nat.le_of_ble_eq_true rfl) ⟨Nat.le_refl _, Nat.le_refl _⟩ dX8_readLetter_45 (fun H locs hP hD hS => ?_)
        exact Rd_readLetter_b48_w C0 hK hA  hP hD hS (lv_sub hl [1, 2, 3, 0] rfl) hp
    · have hp := ite_n hp c_6
      exact Rd_readLetter_b23_w C0 hK hA  hP hD hS (lv_sub hl [1, 2, 3, 0] rfl) hp
/-! StormSlots$Reader.isDigit(I)Z -/
def Rd_isDigit (p0 : Int32) : Option (Int32) :=
  if p0 < 48 then some 0 else if 57 < p0 then some 0 else some 1
set_option maxHeartbeats 4000000 in
set_option maxRecDepth 100000 in
theorem c_X8_isDigit (l : Launch) (D : va_G) (cy : Nat → ClassId) (p0 : Int32) (r : Int32) (hp : Rd_isDigit p0 = some r) : RO l yX8_isDigit cX8_isDigit 1 (some .boolean) 0 D cy [.int p0] [] r := by
  refine RO_of RX8 rfl (by decide) (Nat.le_of_ble_eq_true rfl) ?_
  intro p e s m below meth c C0 hK hP ls hl
  obtain ⟨hx, hb, hr, hml, hown, hts, hk⟩ := id C0
  unfold Rd_isDigit at hp
  have hl : lv_has ls 1 [(0, .int p0)] := hl
  refine lv_iload_n hx hb dX8_isDigit_0 rfl (lv_at hl 0 rfl) ?_
  refine lv_bipush (v := 48) hx hb dX8_isDigit_1 (by decide) ?_
  refine lv_icmp_lt (tgt := 16) hx hb dX8_isDigit_3 (by decide) (fun c_1 => ?_) (fun c_1 => ?_)
  · have hp := ite_p hp c_1
    refine lv_iconst (v := 0) hx hb dX8_isDigit_16 (by decide) ?_
    exact e_ROz hx hb hr hk (Or.inl rfl) dX8_isDigit_17 (Option.some.inj hp)
  · have hp := ite_n hp c_1
    refine lv_iload_n hx hb dX8_isDigit_6 rfl (lv_at hl 0 rfl) ?_
    refine lv_bipush (v := 57) hx hb dX8_isDigit_7 (by decide) ?_
    refine lv_icmp_gt (tgt := 16) hx hb dX8_isDigit_9 (by decide) (fun c_2 => ?_) (fun c_2 => ?_)
    · have hp := ite_p hp c_2
      refine lv_iconst (v := 0) hx hb dX8_isDigit_16 (by decide) ?_
      exact e_ROz hx hb hr hk (Or.inl rfl) dX8_isDigit_17 (Option.some.inj hp)
    · have hp := ite_n hp c_2
      refine lv_iconst (v := 1) hx hb dX8_isDigit_12 (by decide) ?_
      refine lv_goto (tgt := 17) hx hb dX8_isDigit_13 (by decide) ?_
      exact e_ROz hx hb hr hk (Or.inr rfl) dX8_isDigit_17 (Option.some.inj hp)
/-! StormSlots$Reader.readNumber(LStormSlots$Bytes;I)I -/
def Rd_readNumber_b84 (bs : Mem) (p2 : Int32) (rd : Mem) (x4 : Int32) : Option (Int32 × Mem) :=
  bn1 (Rd_fail rd 1 (rd 1 0)) (fun rd_25 => some (x4, rd_25))
def Rd_readNumber_b65 (bs : Mem) (p2 : Int32) (rd : Mem) (x3 : Int32) (x4 : Int32) : Option (Int32 × Mem) :=
  if (rd 1 0) = x3 then Rd_readNumber_b84 bs p2 rd x4 else bn1 (Rd_peek rd bs) (fun r_17 => bn1 (Rd_isDigit r_17) (fun r_19 => if r_19 = 0 then if x4 ≤ p2 then some (x4, rd) else bn1 (Rd_fail rd 2 x3) (fun rd_23 => some (x4, rd_23)) else Rd_readNumber_b84 bs p2 rd x4))
def Rd_readNumber_b16B (bs : Mem) (p2 : Int32) (k16 : Mem → Int32 → Int32 → Int32 → Option (Int32 × Mem)) (rd : Mem) (x3 : Int32) (x4 : Int32) (x5 : Int32) : Option (Int32 × Mem) :=
  if 3 ≤ x5 then Rd_readNumber_b65 bs p2 rd x3 x4 else bn1 (Rd_peek rd bs) (fun r_6 => bn1 (Rd_isDigit r_6) (fun r_8 => if r_8 = 0 then Rd_readNumber_b65 bs p2 rd x3 x4 else bn1 (Rd_peek rd bs) (fun r_11 => stk (((10 * x4) + r_11) - 48) (fun x4_12 => stk (upm rd 1 0 ((rd 1 0) + 1)) (fun rd_13 => stk (x5 + 1) (fun x5_14 => k16 rd_13 x3 x4_12 x5_14))))))
def Rd_readNumber_b16 (bs : Mem) (p2 : Int32) : Nat → Mem → Int32 → Int32 → Int32 → Option (Int32 × Mem)
  | 0 => fun _ _ _ _ => none
  | n + 1 => Rd_readNumber_b16B bs p2 (Rd_readNumber_b16 bs p2 n)
def Rd_readNumber (rd : Mem) (bs : Mem) (p2 : Int32) : Option (Int32 × Mem) :=
  bn1 (Rd_skipBlanks rd bs) (fun rd_2 => stk (rd_2 1 0) (fun x3_3 => Rd_readNumber_b16 bs p2 fl rd_2 x3_3 0 0))
set_option maxHeartbeats 4000000 in
set_option maxRecDepth 100000 in
theorem Rd_readNumber_b84_w (C0 : cX RX8 cX8_readNumber (some .int) 6 p s m args meth c) (hK : kN D cy s) {qrd qbs : Nat → Nat} {bs : Mem} {p2 : Int32} {r : Int32} {rd' : Mem} (hA : ∀ q, s.heap.size ≤ q → A q) {rd : Mem} {x4 : Int32} {H : Heap} {locs : List Loc} (hP : va_P D vwCl (w_RdBy cy qrd qbs rd bs) H) (hD : va_D A (w_RdBy cy qrd qbs rd bs)) (hS : va_S A s.heap H locs) {ls : Array Slot} (hl : lv_has ls 6 [(0, .ref (qrd 0)), (1, .ref (qbs 0)), (2, .int p2), (4, .int x4)]) (hp : Rd_readNumber_b84 bs p2 rd x4 = some (r, rd')) : W p l e (rmD 3) s m args below meth c H locs 0 0 (qRI D below args s A (w_RdBy cy qrd qbs rd' bs) r) (F0 m 84 ls []) := by
  obtain ⟨hx, hb, hr, hml, hown, hts, hk⟩ := id C0
  unfold Rd_readNumber_b84 at hp
  refine lv_aload_n hx hb dX8_readNumber_84 rfl (lv_at hl 0 rfl) ?_
  refine lv_iconst (v := 1) hx hb dX8_readNumber_85 (by decide) ?_
  refine lv_aload_n hx hb dX8_readNumber_86 rfl (lv_at hl 0 rfl) ?_
  refine gf_X8_20 hx hb hts hown hK hP 0 rfl rfl dX8_readNumber_87 ?_
  obtain ⟨rd_25, hc_24, hp⟩ := bn1_s hp
  refine k_RVV (As := [.int 1, .int (rd 1 0)]) (rest := []) ⟨hx, hb, hml, hown, hts⟩ hK hP hD hS hA (FrS_set (ws := (w_RdBy cy qrd qbs rd bs)) (wc := (w_Rd cy qrd rd)) (w1 := (w_Rd cy qrd rd_25)) (wn := (w_RdBy cy qrd qbs rd_25 bs)) [0] [some 0, none, none] (by decide +kernel) rfl rfl rfl) (cw_X8_61 hts ⟨Nat.le_of_ble_eq_true rfl, Nat.le_of_ble_eq_true rfl⟩) 0 (ci := 8) rfl rfl rfl (c_X8_fail l D cy qrd rd 1 (rd 1 0) rd_25 hc_24) rfl hl.1 (Nat.le_of_ble_eq_true rfl) ⟨Nat.le_refl _, Nat.le_refl _⟩ dX8_readNumber_90 (fun H locs hP hD hS => ?_)
  refine lv_goto (tgt := 108) hx hb dX8_readNumber_93 (by decide) ?_
  refine lv_iload hx hb dX8_readNumber_108 (lv_at hl 3 rfl) ?_
  simp only [Option.some.injEq, Prod.mk.injEq] at hp
  obtain ⟨h0, rfl⟩ := hp
  exact e_RIi hx hb hr hk hP hD hS dX8_readNumber_110 h0
set_option maxHeartbeats 4000000 in
set_option maxRecDepth 100000 in
theorem Rd_readNumber_b65_w (C0 : cX RX8 cX8_readNumber (some .int) 6 p s m args meth c) (hK : kN D cy s) {qrd qbs : Nat → Nat} {bs : Mem} {p2 : Int32} {r : Int32} {rd' : Mem} (hA : ∀ q, s.heap.size ≤ q → A q) {rd : Mem} {x3 : Int32} {x4 : Int32} {H : Heap} {locs : List Loc} (hP : va_P D vwCl (w_RdBy cy qrd qbs rd bs) H) (hD : va_D A (w_RdBy cy qrd qbs rd bs)) (hS : va_S A s.heap H locs) {ls : Array Slot} (hl : lv_has ls 6 [(0, .ref (qrd 0)), (1, .ref (qbs 0)), (2, .int p2), (3, .int x3), (4, .int x4)]) (hp : Rd_readNumber_b65 bs p2 rd x3 x4 = some (r, rd')) : W p l e (rmD 3) s m args below meth c H locs 0 0 (qRI D below args s A (w_RdBy cy qrd qbs rd' bs) r) (F0 m 65 ls []) := by
  obtain ⟨hx, hb, hr, hml, hown, hts, hk⟩ := id C0
  unfold Rd_readNumber_b65 at hp
  refine lv_aload_n hx hb dX8_readNumber_65 rfl (lv_at hl 0 rfl) ?_
  refine gf_X8_20 hx hb hts hown hK hP 0 rfl rfl dX8_readNumber_66 ?_
  refine lv_iload_n hx hb dX8_readNumber_69 rfl (lv_at hl 3 rfl) ?_
  refine lv_icmp_eq (tgt := 84) hx hb dX8_readNumber_70 (by decide) (fun c_15 => ?_) (fun c_15 => ?_)
  · have hp := ite_p hp c_15
    exact Rd_readNumber_b84_w C0 hK hA  hP hD hS (lv_sub hl [0, 1, 2, 4] rfl) hp
  · have hp := ite_n hp c_15
    refine lv_aload_n hx hb dX8_readNumber_73 rfl (lv_at hl 0 rfl) ?_
    refine lv_aload_n hx hb dX8_readNumber_74 rfl (lv_at hl 1 rfl) ?_
    obtain ⟨r_17, hc_16, hp⟩ := bn1_s hp
    refine k_ROV (As := [.ref (qbs 0)]) (rest := []) ⟨hx, hb, hml, hown, hts⟩ hK hP (cw_X8_58 hts ⟨Nat.le_of_ble_eq_true rfl, Nat.le_of_ble_eq_true rfl⟩) 0 (ci := 8) rfl rfl rfl (c_X8_peek l D cy qrd qbs rd bs r_17 hc_16) rfl hl.1 (Nat.le_of_ble_eq_true rfl) ⟨Nat.le_refl _, Nat.le_refl _⟩ dX8_readNumber_75 ?_
    obtain ⟨r_19, hc_18, hp⟩ := bn1_s hp
    refine k_ROS (As := [.int r_17]) (rest := []) ⟨hx, hb, hml, hown, hts⟩ hK (show va_P D vwCl [] _ from fun k q h => by simp at h) (cw_X8_65 hts ⟨Nat.le_of_ble_eq_true rfl, Nat.le_of_ble_eq_true rfl⟩) (c_X8_isDigit l D cy r_17 r_19 hc_18) rfl hl.1 (Nat.le_of_ble_eq_true rfl) ⟨Nat.le_refl _, Nat.le_refl _⟩ dX8_readNumber_78 ?_
    refine lv_if_eq (tgt := 96) hx hb dX8_readNumber_81 (by decide) (fun c_20 => ?_) (fun c_20 => ?_)
    · have hp := ite_p hp c_20
      refine lv_iload hx hb dX8_readNumber_96 (lv_at hl 4 rfl) ?_
      refine lv_iload_n hx hb dX8_readNumber_98 rfl (lv_at hl 2 rfl) ?_
      refine lv_icmp_le (tgt := 108) hx hb dX8_readNumber_99 (by decide) (fun c_21 => ?_) (fun c_21 => ?_)
      · have hp := ite_p hp c_21
        refine lv_iload hx hb dX8_readNumber_108 (lv_at hl 4 rfl) ?_
        simp only [Option.some.injEq, Prod.mk.injEq] at hp
        obtain ⟨h0, rfl⟩ := hp
        exact e_RIi hx hb hr hk hP hD hS dX8_readNumber_110 h0
      · have hp := ite_n hp c_21
        refine lv_aload_n hx hb dX8_readNumber_102 rfl (lv_at hl 0 rfl) ?_
        refine lv_iconst (v := 2) hx hb dX8_readNumber_103 (by decide) ?_
        refine lv_iload_n hx hb dX8_readNumber_104 rfl (lv_at hl 3 rfl) ?_
        obtain ⟨rd_23, hc_22, hp⟩ := bn1_s hp
        refine k_RVV (As := [.int 2, .int x3]) (rest := []) ⟨hx, hb, hml, hown, hts⟩ hK hP hD hS hA (FrS_set (ws := (w_RdBy cy qrd qbs rd bs)) (wc := (w_Rd cy qrd rd)) (w1 := (w_Rd cy qrd rd_23)) (wn := (w_RdBy cy qrd qbs rd_23 bs)) [0] [some 0, none, none] (by decide +kernel) rfl rfl rfl) (cw_X8_61 hts ⟨Nat.le_of_ble_eq_true rfl, Nat.le_of_ble_eq_true rfl⟩) 0 (ci := 8) rfl rfl rfl (c_X8_fail l D cy qrd rd 2 x3 rd_23 hc_22) rfl hl.1 (Nat.le_of_ble_eq_true rfl) ⟨Nat.le_refl _, Nat.le_refl _⟩ dX8_readNumber_105 (fun H locs hP hD hS => ?_)
        refine lv_iload hx hb dX8_readNumber_108 (lv_at hl 4 rfl) ?_
        simp only [Option.some.injEq, Prod.mk.injEq] at hp
        obtain ⟨h0, rfl⟩ := hp
        exact e_RIi hx hb hr hk hP hD hS dX8_readNumber_110 h0
    · have hp := ite_n hp c_20
      exact Rd_readNumber_b84_w C0 hK hA  hP hD hS (lv_sub hl [0, 1, 2, 4] rfl) hp
set_option maxHeartbeats 4000000 in
set_option maxRecDepth 100000 in
theorem Rd_readNumber_b16B_w (C0 : cX RX8 cX8_readNumber (some .int) 6 p s m args meth c) (hK : kN D cy s) {qrd qbs : Nat → Nat} {bs : Mem} {p2 : Int32} {r : Int32} {rd' : Mem} (hA : ∀ q, s.heap.size ≤ q → A q) {k16 : Mem → Int32 → Int32 → Int32 → Option (Int32 × Mem)} (hk16 : ∀ (rd : Mem) (x3 x4 x5 : Int32) (H : Heap) (locs : List Loc) (ls : Array Slot), va_P D vwCl (w_RdBy cy qrd qbs rd bs) H → va_D A (w_RdBy cy qrd qbs rd bs) → va_S A s.heap H locs → lv_has ls 6 [(0, .ref (qrd 0)), (1, .ref (qbs 0)), (2, .int p2), (3, .int x3), (4, .int x4), (5, .int x5)] → k16 rd x3 x4 x5 = some (r, rd') → W p l e (rmD 3) s m args below meth c H locs 0 0 (qRI D below args s A (w_RdBy cy qrd qbs rd' bs) r) (F0 m 16 ls [])) {rd : Mem} {x3 : Int32} {x4 : Int32} {x5 : Int32} {H : Heap} {locs : List Loc} (hP : va_P D vwCl (w_RdBy cy qrd qbs rd bs) H) (hD : va_D A (w_RdBy cy qrd qbs rd bs)) (hS : va_S A s.heap H locs) {ls : Array Slot} (hl : lv_has ls 6 [(0, .ref (qrd 0)), (1, .ref (qbs 0)), (2, .int p2), (3, .int x3), (4, .int x4), (5, .int x5)]) (hp : Rd_readNumber_b16B bs p2 k16 rd x3 x4 x5 = some (r, rd')) : W p l e (rmD 3) s m args below meth c H locs 0 0 (qRI D below args s A (w_RdBy cy qrd qbs rd' bs) r) (F0 m 16 ls []) := by
  obtain ⟨hx, hb, hr, hml, hown, hts, hk⟩ := id C0
  unfold Rd_readNumber_b16B at hp
  refine lv_iload hx hb dX8_readNumber_16 (lv_at hl 5 rfl) ?_
  refine lv_iconst (v := 3) hx hb dX8_readNumber_18 (by decide) ?_
  refine lv_icmp_ge (tgt := 65) hx hb dX8_readNumber_19 (by decide) (fun c_4 => ?_) (fun c_4 => ?_)
  · have hp := ite_p hp c_4
    exact Rd_readNumber_b65_w C0 hK hA  hP hD hS (lv_sub hl [0, 1, 2, 3, 4] rfl) hp
  · have hp := ite_n hp c_4
    refine lv_aload_n hx hb dX8_readNumber_22 rfl (lv_at hl 0 rfl) ?_
    refine lv_aload_n hx hb dX8_readNumber_23 rfl (lv_at hl 1 rfl) ?_
    obtain ⟨r_6, hc_5, hp⟩ := bn1_s hp
    refine k_ROV (As := [.ref (qbs 0)]) (rest := []) ⟨hx, hb, hml, hown, hts⟩ hK hP (cw_X8_58 hts ⟨Nat.le_of_ble_eq_true rfl, Nat.le_of_ble_eq_true rfl⟩) 0 (ci := 8) rfl rfl rfl (c_X8_peek l D cy qrd qbs rd bs r_6 hc_5) rfl hl.1 (Nat.le_of_ble_eq_true rfl) ⟨Nat.le_refl _, Nat.le_refl _⟩ dX8_readNumber_24 ?_
    obtain ⟨r_8, hc_7, hp⟩ := bn1_s hp
    refine k_ROS (As := [.int r_6]) (rest := []) ⟨hx, hb, hml, hown, hts⟩ hK (show va_P D vwCl [] _ from fun k q h => by simp at h) (cw_X8_65 hts ⟨Nat.le_of_ble_eq_true rfl, Nat.le_of_ble_eq_true rfl⟩) (c_X8_isDigit l D cy r_6 r_8 hc_7) rfl hl.1 (Nat.le_of_ble_eq_true rfl) ⟨Nat.le_refl _, Nat.le_refl _⟩ dX8_readNumber_27 ?_
    refine lv_if_eq (tgt := 65) hx hb dX8_readNumber_30 (by decide) (fun c_9 => ?_) (fun c_9 => ?_)
    · have hp := ite_p hp c_9
      exact Rd_readNumber_b65_w C0 hK hA  hP hD hS (lv_sub hl [0, 1, 2, 3, 4] rfl) hp
    · have hp := ite_n hp c_9
      refine lv_bipush (v := 10) hx hb dX8_readNumber_33 (by decide) ?_
      refine lv_iload hx hb dX8_readNumber_35 (lv_at hl 4 rfl) ?_
      refine lv_imul hx hb dX8_readNumber_37 ?_
      refine lv_aload_n hx hb dX8_readNumber_38 rfl (lv_at hl 0 rfl) ?_
      refine lv_aload_n hx hb dX8_readNumber_39 rfl (lv_at hl 1 rfl) ?_
      obtain ⟨r_11, hc_10, hp⟩ := bn1_s hp
      refine k_ROV (As := [.ref (qbs 0)]) (rest := [.int (10 * x4)]) ⟨hx, hb, hml, hown, hts⟩ hK hP (cw_X8_58 hts ⟨Nat.le_of_ble_eq_true rfl, Nat.le_of_ble_eq_true rfl⟩) 0 (ci := 8) rfl rfl rfl (c_X8_peek l D cy qrd qbs rd bs r_11 hc_10) rfl hl.1 (Nat.le_of_ble_eq_true rfl) ⟨Nat.le_refl _, Nat.le_refl _⟩ dX8_readNumber_40 ?_
      refine lv_iadd hx hb dX8_readNumber_43 ?_
      refine lv_bipush (v := 48) hx hb dX8_readNumber_44 (by decide) ?_
      refine lv_isub hx hb dX8_readNumber_46 ?_
      refine lv_topi (fun x4_12 ex4_12 => ?_)
      have hp := stk_e hp ex4_12
      refine lv_istore (lv' := [(4, .int x4_12), (0, .ref (qrd 0)), (1, .ref (qbs 0)), (2, .int p2), (3, .int x3), (5, .int x5)]) hx hb dX8_readNumber_47 hl (by decide) rfl (fun ls hl => ?_)
      refine lv_aload_n hx hb dX8_readNumber_49 rfl (lv_at hl 1 rfl) ?_
      refine lv_dup hx hb dX8_readNumber_50 rfl ?_
      refine gf_X8_20 hx hb hts hown hK hP 0 rfl rfl dX8_readNumber_51 ?_
      refine lv_iconst (v := 1) hx hb dX8_readNumber_54 (by decide) ?_
      refine lv_iadd hx hb dX8_readNumber_55 ?_
      obtain ⟨rd_13, erd_13⟩ : ∃ y : Mem, y = upm rd 1 0 ((rd 1 0) + 1) := ⟨_, rfl⟩
      have hp := stk_e hp erd_13
      refine pf_X8_20 hx hb hts hown hK hP hD hS (wn := (w_RdBy cy qrd qbs rd_13 bs)) 0 rfl (Nat.le_of_ble_eq_true rfl) (by subst erd_13; rfl) dX8_readNumber_56 (fun H locs hP hD hS => ?_)
      obtain ⟨x5_14, ex5_14⟩ : ∃ y : Int32, y = x5 + 1 := ⟨_, rfl⟩
      have hp := stk_e hp ex5_14
      refine lv_iinc (v := x5_14) (lv' := [(5, .int x5_14), (4, .int x4_12), (0, .ref (qrd 0)), (1, .ref (qbs 0)), (2, .int p2), (3, .int x3)]) hx hb dX8_readNumber_59 hl (k := 5) rfl (by rw [ex5_14]; rfl) (by decide) rfl (fun ls hl => ?_)
      refine lv_goto (tgt := 16) hx hb dX8_readNumber_62 (by decide) ?_
      exact hk16 rd_13 x3 x4_12 x5_14 _ _ _ hP hD hS (lv_sub hl [2, 3, 4, 5, 1, 0] rfl) hp
theorem Rd_readNumber_b16_w (C0 : cX RX8 cX8_readNumber (some .int) 6 p s m args meth c) (hK : kN D cy s) {qrd qbs : Nat → Nat} {bs : Mem} {p2 : Int32} {r : Int32} {rd' : Mem} (hA : ∀ q, s.heap.size ≤ q → A q) : ∀ (n : Nat) (rd : Mem) (x3 x4 x5 : Int32) (H : Heap) (locs : List Loc) (ls : Array Slot), va_P D vwCl (w_RdBy cy qrd qbs rd bs) H → va_D A (w_RdBy cy qrd qbs rd bs) → va_S A s.heap H locs → lv_has ls 6 [(0, .ref (qrd 0)), (1, .ref (qbs 0)), (2, .int p2), (3, .int x3), (4, .int x4), (5, .int x5)] → Rd_readNumber_b16 bs p2 n rd x3 x4 x5 = some (r, rd') → W p l e (rmD 3) s m args below meth c H locs 0 0 (qRI D below args s A (w_RdBy cy qrd qbs rd' bs) r) (F0 m 16 ls []) := by
  intro n
  induction n with
  | zero =>
    intro rd x3 x4 x5 H locs ls hP hD hS hl hp
    cases hp
  | succ n ih =>
    intro rd x3 x4 x5 H locs ls hP hD hS hl hp
    exact Rd_readNumber_b16B_w C0 hK hA  (fun rd x3 x4 x5 H locs ls hP hD hS hl hp => ih rd x3 x4 x5 H locs ls hP hD hS hl hp) hP hD hS hl hp
set_option maxHeartbeats 4000000 in
set_option maxRecDepth 100000 in
theorem c_X8_readNumber (l : Launch) (D : va_G) (cy : Nat → ClassId) (qrd qbs : Nat → Nat) (rd bs : Mem) (p2 : Int32) (r : Int32) (rd' : Mem) (hp : Rd_readNumber rd bs p2 = some (r, rd')) : RI l yX8_readNumber cX8_readNumber 6 (some .int) 3 D cy [.ref (qrd 0), .ref (qbs 0), .int p2] (w_RdBy cy qrd qbs rd bs) (w_RdBy cy qrd qbs rd' bs) r := by
  refine RI_of RX8 rfl (by decide) (Nat.le_of_ble_eq_true rfl) ?_
  intro p e s m below meth c A C0 hK hP hD hS hA ls hl
  obtain ⟨hx, hb, hr, hml, hown, hts, hk⟩ := id C0
  unfold Rd_readNumber at hp
  have hl : lv_has ls 6 [(0, .ref (qrd 0)), (1, .ref (qbs 0)), (2, .int p2)] := hl
  refine lv_aload_n hx hb dX8_readNumber_0 rfl (lv_at hl 0 rfl) ?_
  refine lv_aload_n hx hb dX8_readNumber_1 rfl (lv_at hl 1 rfl) ?_
  obtain ⟨rd_2, hc_1, hp⟩ := bn1_s hp
  refine k_RVV (As := [.ref (qbs 0)]) (rest := []) ⟨hx, hb, hml, hown, hts⟩ hK hP hD hS hA FrS_rf (cw_X8_30 hts ⟨Nat.le_of_ble_eq_true rfl, Nat.le_of_ble_eq_true rfl⟩) 0 (ci := 8) rfl rfl rfl (c_X8_skipBlanks l D cy qrd qbs rd bs rd_2 hc_1) rfl hl.1 (Nat.le_of_ble_eq_true rfl) ⟨Nat.le_refl _, Nat.le_refl _⟩ dX8_readNumber_2 (fun H locs hP hD hS => ?_)
  refine lv_aload_n hx hb dX8_readNumber_5 rfl (lv_at hl 0 rfl) ?_
  refine gf_X8_20 hx hb hts hown hK hP 0 rfl rfl dX8_readNumber_6 ?_
  refine lv_topi (fun x3_3 ex3_3 => ?_)
  have hp := stk_e hp ex3_3
  refine lv_istore_n (lv' := [(3, .int x3_3), (0, .ref (qrd 0)), (1, .ref (qbs 0)), (2, .int p2)]) hx hb dX8_readNumber_9 rfl hl (by decide) rfl (fun ls hl => ?_)
  refine lv_iconst (v := 0) hx hb dX8_readNumber_10 (by decide) ?_
  refine lv_istore (lv' := [(4, .int 0), (3, .int x3_3), (0, .ref (qrd 0)), (1, .ref (qbs 0)), (2, .int p2)]) hx hb dX8_readNumber_11 hl (by decide) rfl (fun ls hl => ?_)
  refine lv_iconst (v := 0) hx hb dX8_readNumber_13 (by decide) ?_
  refine lv_istore (lv' := [(5, .int 0), (4, .int 0), (3, .int x3_3), (0, .ref (qrd 0)), (1, .ref (qbs 0)), (2, .int p2)]) hx hb dX8_readNumber_14 hl (by decide) rfl (fun ls hl => ?_)
  exact Rd_readNumber_b16_w C0 hK hA  fl rd_2 x3_3 0 0 _ _ _ hP hD hS (lv_sub hl [3, 4, 5, 2, 1, 0] rfl) hp
/-! StormSlots$Reader.expect(LStormSlots$Bytes;I)V -/
def Rd_expect_b18 (bs : Mem) (p2 : Int32) (rd : Mem) : Option (Mem) :=
  stk (upm rd 1 0 ((rd 1 0) + 1)) (fun rd_6 => some rd_6)
def Rd_expect (rd : Mem) (bs : Mem) (p2 : Int32) : Option (Mem) :=
  bn1 (Rd_peek rd bs) (fun r_2 => if r_2 = p2 then Rd_expect_b18 bs p2 rd else bn1 (Rd_fail rd 1 (rd 1 0)) (fun rd_5 => Rd_expect_b18 bs p2 rd_5))
set_option maxHeartbeats 4000000 in
set_option maxRecDepth 100000 in
theorem Rd_expect_b18_w (C0 : cX RX8 cX8_expect none 3 p s m args meth c) (hK : kN D cy s) {qrd qbs : Nat → Nat} {bs : Mem} {p2 : Int32} {rd' : Mem} (hA : ∀ q, s.heap.size ≤ q → A q) {rd : Mem} {H : Heap} {locs : List Loc} (hP : va_P D vwCl (w_RdBy cy qrd qbs rd bs) H) (hD : va_D A (w_RdBy cy qrd qbs rd bs)) (hS : va_S A s.heap H locs) {ls : Array Slot} (hl : lv_has ls 3 [(0, .ref (qrd 0)), (1, .ref (qbs 0)), (2, .int p2)]) (hp : Rd_expect_b18 bs p2 rd = some rd') : W p l e (rmD 2) s m args below meth c H locs 0 0 (qRV D below args s A (w_RdBy cy qrd qbs rd' bs)) (F0 m 18 ls []) := by
  obtain ⟨hx, hb, hr, hml, hown, hts, hk⟩ := id C0
  unfold Rd_expect_b18 at hp
  refine lv_aload_n hx hb dX8_expect_18 rfl (lv_at hl 0 rfl) ?_
  refine lv_dup hx hb dX8_expect_19 rfl ?_
  refine gf_X8_20 hx hb hts hown hK hP 0 rfl rfl dX8_expect_20 ?_
  refine lv_iconst (v := 1) hx hb dX8_expect_23 (by decide) ?_
  refine lv_iadd hx hb dX8_expect_24 ?_
  obtain ⟨rd_6, erd_6⟩ : ∃ y : Mem, y = upm rd 1 0 ((rd 1 0) + 1) := ⟨_, rfl⟩
  have hp := stk_e hp erd_6
  refine pf_X8_20 hx hb hts hown hK hP hD hS (wn := (w_RdBy cy qrd qbs rd_6 bs)) 0 rfl (Nat.le_of_ble_eq_true rfl) (by subst erd_6; rfl) dX8_expect_25 (fun H locs hP hD hS => ?_)
  simp only [Option.some.injEq, Prod.mk.injEq] at hp
  subst hp
  exact e_RV hx hb hr hk hP hD hS dX8_expect_28
set_option maxHeartbeats 4000000 in
set_option maxRecDepth 100000 in
theorem c_X8_expect (l : Launch) (D : va_G) (cy : Nat → ClassId) (qrd qbs : Nat → Nat) (rd bs : Mem) (p2 : Int32) (rd' : Mem) (hp : Rd_expect rd bs p2 = some rd') : RV l yX8_expect cX8_expect 3 2 D cy [.ref (qrd 0), .ref (qbs 0), .int p2] (w_RdBy cy qrd qbs rd bs) (w_RdBy cy qrd qbs rd' bs) := by
  refine RV_of RX8 rfl (by decide) (Nat.le_of_ble_eq_true rfl) ?_
  intro p e s m below meth c A C0 hK hP hD hS hA ls hl
  obtain ⟨hx, hb, hr, hml, hown, hts, hk⟩ := id C0
  unfold Rd_expect at hp
  have hl : lv_has ls 3 [(0, .ref (qrd 0)), (1, .ref (qbs 0)), (2, .int p2)] := hl
  refine lv_aload_n hx hb dX8_expect_0 rfl (lv_at hl 0 rfl) ?_
  refine lv_aload_n hx hb dX8_expect_1 rfl (lv_at hl 1 rfl) ?_
  obtain ⟨r_2, hc_1, hp⟩ := bn1_s hp
  refine k_ROV (As := [.ref (qbs 0)]) (rest := []) ⟨hx, hb, hml, hown, hts⟩ hK hP (cw_X8_58 hts ⟨Nat.le_of_ble_eq_true rfl, Nat.le_of_ble_eq_true rfl⟩) 0 (ci := 8) rfl rfl rfl (c_X8_peek l D cy qrd qbs rd bs r_2 hc_1) rfl hl.1 (Nat.le_of_ble_eq_true rfl) ⟨Nat.le_refl _, Nat.le_refl _⟩ dX8_expect_2 ?_
  refine lv_iload_n hx hb dX8_expect_5 rfl (lv_at hl 2 rfl) ?_
  refine lv_icmp_eq (tgt := 18) hx hb dX8_expect_6 (by decide) (fun c_3 => ?_) (fun c_3 => ?_)
  · have hp := ite_p hp c_3
    exact Rd_expect_b18_w C0 hK hA  hP hD hS hl hp
  · have hp := ite_n hp c_3
    refine lv_aload_n hx hb dX8_expect_9 rfl (lv_at hl 0 rfl) ?_
    refine lv_iconst (v := 1) hx hb dX8_expect_10 (by decide) ?_
    refine lv_aload_n hx hb dX8_expect_11 rfl (lv_at hl 0 rfl) ?_
    refine gf_X8_20 hx hb hts hown hK hP 0 rfl rfl dX8_expect_12 ?_
    obtain ⟨rd_5, hc_4, hp⟩ := bn1_s hp
    refine k_RVV (As := [.int 1, .int (rd 1 0)]) (rest := []) ⟨hx, hb, hml, hown, hts⟩ hK hP hD hS hA (FrS_set (ws := (w_RdBy cy qrd qbs rd bs)) (wc := (w_Rd cy qrd rd)) (w1 := (w_Rd cy qrd rd_5)) (wn := (w_RdBy cy qrd qbs rd_5 bs)) [0] [some 0, none, none] (by decide +kernel) rfl rfl rfl) (cw_X8_61 hts ⟨Nat.le_of_ble_eq_true rfl, Nat.le_of_ble_eq_true rfl⟩) 0 (ci := 8) rfl rfl rfl (c_X8_fail l D cy qrd rd 1 (rd 1 0) rd_5 hc_4) rfl hl.1 (Nat.le_of_ble_eq_true rfl) ⟨Nat.le_refl _, Nat.le_refl _⟩ dX8_expect_15 (fun H locs hP hD hS => ?_)
    exact Rd_expect_b18_w C0 hK hA  hP hD hS hl hp
/-! StormSlots$Reader.readWeight(LStormSlots$Bytes;)I -/
def Rd_readWeight_b72 (bs : Mem) (rd : Mem) (x2 : Int32) : Option (Int32 × Mem) :=
  stk (upm rd 1 0 ((rd 1 0) + 1)) (fun rd_19 => some ((x2 - 48), rd_19))
def Rd_readWeight (rd : Mem) (bs : Mem) : Option (Int32 × Mem) :=
  bn1 (Rd_skipBlanks rd bs) (fun rd_2 => bn1 (Rd_peek rd_2 bs) (fun r_4 => if r_4 = 42 then stk (upm rd_2 1 0 ((rd_2 1 0) + 1)) (fun rd_6 => bn1 (Rd_skipBlanks rd_6 bs) (fun rd_8 => bn1 (Rd_peek rd_8 bs) (fun r_10 => bn1 (Rd_isDigit r_10) (fun r_12 => if r_12 = 0 then bn1 (Rd_fail rd_8 1 (rd_8 1 0)) (fun rd_18 => Rd_readWeight_b72 bs rd_18 r_10) else if r_10 = 48 then bn1 (Rd_fail rd_8 2 (rd_8 1 0)) (fun rd_16 => Rd_readWeight_b72 bs rd_16 r_10) else Rd_readWeight_b72 bs rd_8 r_10)))) else some (1, rd_2)))
set_option maxHeartbeats 4000000 in
set_option maxRecDepth 100000 in
theorem Rd_readWeight_b72_w (C0 : cX RX8 cX8_readWeight (some .int) 3 p s m args meth c) (hK : kN D cy s) {qrd qbs : Nat → Nat} {bs : Mem} {r : Int32} {rd' : Mem} (hA : ∀ q, s.heap.size ≤ q → A q) {rd : Mem} {x2 : Int32} {H : Heap} {locs : List Loc} (hP : va_P D vwCl (w_RdBy cy qrd qbs rd bs) H) (hD : va_D A (w_RdBy cy qrd qbs rd bs)) (hS : va_S A s.heap H locs) {ls : Array Slot} (hl : lv_has ls 3 [(0, .ref (qrd 0)), (1, .ref (qbs 0)), (2, .int x2)]) (hp : Rd_readWeight_b72 bs rd x2 = some (r, rd')) : W p l e (rmD 3) s m args below meth c H locs 0 0 (qRI D below args s A (w_RdBy cy qrd qbs rd' bs) r) (F0 m 72 ls []) := by
  obtain ⟨hx, hb, hr, hml, hown, hts, hk⟩ := id C0
  unfold Rd_readWeight_b72 at hp
  refine lv_aload_n hx hb dX8_readWeight_72 rfl (lv_at hl 0 rfl) ?_
  refine lv_dup hx hb dX8_readWeight_73 rfl ?_
  refine gf_X8_20 hx hb hts hown hK hP 0 rfl rfl dX8_readWeight_74 ?_
  refine lv_iconst (v := 1) hx hb dX8_readWeight_77 (by decide) ?_
  refine lv_iadd hx hb dX8_readWeight_78 ?_
  obtain ⟨rd_19, erd_19⟩ : ∃ y : Mem, y = upm rd 1 0 ((rd 1 0) + 1) := ⟨_, rfl⟩
  have hp := stk_e hp erd_19
  refine pf_X8_20 hx hb hts hown hK hP hD hS (wn := (w_RdBy cy qrd qbs rd_19 bs)) 0 rfl (Nat.le_of_ble_eq_true rfl) (by subst erd_19; rfl) dX8_readWeight_79 (fun H locs hP hD hS => ?_)
  refine lv_iload_n hx hb dX8_readWeight_82 rfl (lv_at hl 2 rfl) ?_
  refine lv_bipush (v := 48) hx hb dX8_readWeight_83 (by decide) ?_
  refine lv_isub hx hb dX8_readWeight_85 ?_
  simp only [Option.some.injEq, Prod.mk.injEq] at hp
  obtain ⟨h0, rfl⟩ := hp
  exact e_RIi hx hb hr hk hP hD hS dX8_readWeight_86 h0
set_option maxHeartbeats 4000000 in
set_option maxRecDepth 100000 in
theorem c_X8_readWeight (l : Launch) (D : va_G) (cy : Nat → ClassId) (qrd qbs : Nat → Nat) (rd bs : Mem) (r : Int32) (rd' : Mem) (hp : Rd_readWeight rd bs = some (r, rd')) : RI l yX8_readWeight cX8_readWeight 3 (some .int) 3 D cy [.ref (qrd 0), .ref (qbs 0)] (w_RdBy cy qrd qbs rd bs) (w_RdBy cy qrd qbs rd' bs) r := by
  refine RI_of RX8 rfl (by decide) (Nat.le_of_ble_eq_true rfl) ?_
  intro p e s m below meth c A C0 hK hP hD hS hA ls hl
  obtain ⟨hx, hb, hr, hml, hown, hts, hk⟩ := id C0
  unfold Rd_readWeight at hp
  have hl : lv_has ls 3 [(0, .ref (qrd 0)), (1, .ref (qbs 0))] := hl
  refine lv_aload_n hx hb dX8_readWeight_0 rfl (lv_at hl 0 rfl) ?_
  refine lv_aload_n hx hb dX8_readWeight_1 rfl (lv_at hl 1 rfl) ?_
  obtain ⟨rd_2, hc_1, hp⟩ := bn1_s hp
  refine k_RVV (As := [.ref (qbs 0)]) (rest := []) ⟨hx, hb, hml, hown, hts⟩ hK hP hD hS hA FrS_rf (cw_X8_30 hts ⟨Nat.le_of_ble_eq_true rfl, Nat.le_of_ble_eq_true rfl⟩) 0 (ci := 8) rfl rfl rfl (c_X8_skipBlanks l D cy qrd qbs rd bs rd_2 hc_1) rfl hl.1 (Nat.le_of_ble_eq_true rfl) ⟨Nat.le_refl _, Nat.le_refl _⟩ dX8_readWeight_2 (fun H locs hP hD hS => ?_)
  refine lv_aload_n hx hb dX8_readWeight_5 rfl (lv_at hl 0 rfl) ?_
  refine lv_aload_n hx hb dX8_readWeight_6 rfl (lv_at hl 1 rfl) ?_
  obtain ⟨r_4, hc_3, hp⟩ := bn1_s hp
  refine k_ROV (As := [.ref (qbs 0)]) (rest := []) ⟨hx, hb, hml, hown, hts⟩ hK hP (cw_X8_58 hts ⟨Nat.le_of_ble_eq_true rfl, Nat.le_of_ble_eq_true rfl⟩) 0 (ci := 8) rfl rfl rfl (c_X8_peek l D cy qrd qbs rd_2 bs r_4 hc_3) rfl hl.1 (Nat.le_of_ble_eq_true rfl) ⟨Nat.le_refl _, Nat.le_refl _⟩ dX8_readWeight_7 ?_
  refine lv_bipush (v := 42) hx hb dX8_readWeight_10 (by decide) ?_
  refine lv_icmp_eq (tgt := 17) hx hb dX8_readWeight_12 (by decide) (fun c_5 => ?_) (fun c_5 => ?_)
  · have hp := ite_p hp c_5
    refine lv_aload_n hx hb dX8_readWeight_17 rfl (lv_at hl 0 rfl) ?_
    refine lv_dup hx hb dX8_readWeight_18 rfl ?_
    refine gf_X8_20 hx hb hts hown hK hP 0 rfl rfl dX8_readWeight_19 ?_
    refine lv_iconst (v := 1) hx hb dX8_readWeight_22 (by decide) ?_
    refine lv_iadd hx hb dX8_readWeight_23 ?_
    obtain ⟨rd_6, erd_6⟩ : ∃ y : Mem, y = upm rd_2 1 0 ((rd_2 1 0) + 1) := ⟨_, rfl⟩
    have hp := stk_e hp erd_6
    refine pf_X8_20 hx hb hts hown hK hP hD hS (wn := (w_RdBy cy qrd qbs rd_6 bs)) 0 rfl (Nat.le_of_ble_eq_true rfl) (by subst erd_6; rfl) dX8_readWeight_24 (fun H locs hP hD hS => ?_)
    refine lv_aload_n hx hb dX8_readWeight_27 rfl (lv_at hl 0 rfl) ?_
    refine lv_aload_n hx hb dX8_readWeight_28 rfl (lv_at hl 1 rfl) ?_
    obtain ⟨rd_8, hc_7, hp⟩ := bn1_s hp
    refine k_RVV (As := [.ref (qbs 0)]) (rest := []) ⟨hx, hb, hml, hown, hts⟩ hK hP hD hS hA FrS_rf (cw_X8_30 hts ⟨Nat.le_of_ble_eq_true rfl, Nat.le_of_ble_eq_true rfl⟩) 0 (ci := 8) rfl rfl rfl (c_X8_skipBlanks l D cy qrd qbs rd_6 bs rd_8 hc_7) rfl hl.1 (Nat.le_of_ble_eq_true rfl) ⟨Nat.le_refl _, Nat.le_refl _⟩ dX8_readWeight_29 (fun H locs hP hD hS => ?_)
    refine lv_aload_n hx hb dX8_readWeight_32 rfl (lv_at hl 0 rfl) ?_
    refine lv_aload_n hx hb dX8_readWeight_33 rfl (lv_at hl 1 rfl) ?_
    obtain ⟨r_10, hc_9, hp⟩ := bn1_s hp
    refine k_ROV (As := [.ref (qbs 0)]) (rest := []) ⟨hx, hb, hml, hown, hts⟩ hK hP (cw_X8_58 hts ⟨Nat.le_of_ble_eq_true rfl, Nat.le_of_ble_eq_true rfl⟩) 0 (ci := 8) rfl rfl rfl (c_X8_peek l D cy qrd qbs rd_8 bs r_10 hc_9) rfl hl.1 (Nat.le_of_ble_eq_true rfl) ⟨Nat.le_refl _, Nat.le_refl _⟩ dX8_readWeight_34 ?_
    refine lv_istore_n (lv' := [(2, .int r_10), (0, .ref (qrd 0)), (1, .ref (qbs 0))]) hx hb dX8_readWeight_37 rfl hl (by decide) rfl (fun ls hl => ?_)
    refine lv_iload_n hx hb dX8_readWeight_38 rfl (lv_at hl 0 rfl) ?_
    obtain ⟨r_12, hc_11, hp⟩ := bn1_s hp
    refine k_ROS (As := [.int r_10]) (rest := []) ⟨hx, hb, hml, hown, hts⟩ hK (show va_P D vwCl [] _ from fun k q h => by simp at h) (cw_X8_65 hts ⟨Nat.le_of_ble_eq_true rfl, Nat.le_of_ble_eq_true rfl⟩) (c_X8_isDigit l D cy r_10 r_12 hc_11) rfl hl.1 (Nat.le_of_ble_eq_true rfl) ⟨Nat.le_refl _, Nat.le_refl _⟩ dX8_readWeight_39 ?_
    refine lv_if_ne (tgt := 57) hx hb dX8_readWeight_42 (by decide) (fun c_13 => ?_) (fun c_13 => ?_)
    · have hp := ite_n hp c_13
      refine lv_iload_n hx hb dX8_readWeight_57 rfl (lv_at hl 0 rfl) ?_
      refine lv_bipush (v := 48) hx hb dX8_readWeight_58 (by decide) ?_
      refine lv_icmp_ne (tgt := 72) hx hb dX8_readWeight_60 (by decide) (fun c_14 => ?_) (fun c_14 => ?_)
      · have hp := ite_n hp c_14
        exact Rd_readWeight_b72_w C0 hK hA  hP hD hS (lv_sub hl [1, 2, 0] rfl) hp
      · have hp := ite_p hp c_14
        refine lv_aload_n hx hb dX8_readWeight_63 rfl (lv_at hl 1 rfl) ?_
        refine lv_iconst (v := 2) hx hb dX8_readWeight_64 (by decide) ?_
        refine lv_aload_n hx hb dX8_readWeight_65 rfl (lv_at hl 1 rfl) ?_
        refine gf_X8_20 hx hb hts hown hK hP 0 rfl rfl dX8_readWeight_66 ?_
        obtain ⟨rd_16, hc_15, hp⟩ := bn1_s hp
        refine k_RVV (As := [.int 2, .int (rd_8 1 0)]) (rest := []) ⟨hx, hb, hml, hown, hts⟩ hK hP hD hS hA (FrS_set (ws := (w_RdBy cy qrd qbs rd_8 bs)) (wc := (w_Rd cy qrd rd_8)) (w1 := (w_Rd cy qrd rd_16)) (wn := (w_RdBy cy qrd qbs rd_16 bs)) [0] [some 0, none, none] (by decide +kernel) rfl rfl rfl) (cw_X8_61 hts ⟨Nat.le_of_ble_eq_true rfl, Nat.le_of_ble_eq_true rfl⟩) 0 (ci := 8) rfl rfl rfl (c_X8_fail l D cy qrd rd_8 2 (rd_8 1 0) rd_16 hc_15) rfl hl.1 (Nat.le_of_ble_eq_true rfl) ⟨Nat.le_refl _, Nat.le_refl _⟩ dX8_readWeight_69 (fun H locs hP hD hS => ?_)
        exact Rd_readWeight_b72_w C0 hK hA  hP hD hS (lv_sub hl [1, 2, 0] rfl) hp
    · have hp := ite_p hp c_13
      refine lv_aload_n hx hb dX8_readWeight_45 rfl (lv_at hl 1 rfl) ?_
      refine lv_iconst (v := 1) hx hb dX8_readWeight_46 (by decide) ?_
      refine lv_aload_n hx hb dX8_readWeight_47 rfl (lv_at hl 1 rfl) ?_
      refine gf_X8_20 hx hb hts hown hK hP 0 rfl rfl dX8_readWeight_48 ?_
      obtain ⟨rd_18, hc_17, hp⟩ := bn1_s hp
      refine k_RVV (As := [.int 1, .int (rd_8 1 0)]) (rest := []) ⟨hx, hb, hml, hown, hts⟩ hK hP hD hS hA (FrS_set (ws := (w_RdBy cy qrd qbs rd_8 bs)) (wc := (w_Rd cy qrd rd_8)) (w1 := (w_Rd cy qrd rd_18)) (wn := (w_RdBy cy qrd qbs rd_18 bs)) [0] [some 0, none, none] (by decide +kernel) rfl rfl rfl) (cw_X8_61 hts ⟨Nat.le_of_ble_eq_true rfl, Nat.le_of_ble_eq_true rfl⟩) 0 (ci := 8) rfl rfl rfl (c_X8_fail l D cy qrd rd_8 1 (rd_8 1 0) rd_18 hc_17) rfl hl.1 (Nat.le_of_ble_eq_true rfl) ⟨Nat.le_refl _, Nat.le_refl _⟩ dX8_readWeight_51 (fun H locs hP hD hS => ?_)
      refine lv_goto (tgt := 72) hx hb dX8_readWeight_54 (by decide) ?_
      exact Rd_readWeight_b72_w C0 hK hA  hP hD hS (lv_sub hl [1, 2, 0] rfl) hp
  · have hp := ite_n hp c_5
    refine lv_iconst (v := 1) hx hb dX8_readWeight_15 (by decide) ?_
    simp only [Option.some.injEq, Prod.mk.injEq] at hp
    obtain ⟨h0, rfl⟩ := hp
    exact e_RIi hx hb hr hk hP hD hS dX8_readWeight_16 h0
/-! StormSlots$Roster.add(IIII)I -/
def Ro_add (ro : Mem) (p1 : Int32) (p2 : Int32) (p3 : Int32) (p4 : Int32) : Option (Int32 × Mem) :=
  if (ro 4 0) < 0 then some ((-2), ro) else bn1 (Ro_isFull ro) (fun r_3 => if r_3 = 0 then ckI (ro 4 0) 20 (stk (upm ro 0 (ro 4 0).toNatClampNeg p1) (fun ro_6 => ckI (ro_6 4 0) 20 (stk (upm ro_6 1 (ro_6 4 0).toNatClampNeg p2) (fun ro_8 => ckI (ro_8 4 0) 20 (stk (upm ro_8 2 (ro_8 4 0).toNatClampNeg p3) (fun ro_10 => ckI (ro_10 4 0) 20 (stk (upm ro_10 3 (ro_10 4 0).toNatClampNeg p4) (fun ro_12 => stk (upm ro_12 4 0 ((ro_12 4 0) + 1)) (fun ro_13 => some (((ro_13 4 0) - 1), ro_13)))))))))) else some ((-2), ro))
set_option maxHeartbeats 4000000 in
set_option maxRecDepth 100000 in
theorem c_X9_add (l : Launch) (D : va_G) (cy : Nat → ClassId) (qro : Nat → Nat) (ro : Mem) (p1 p2 p3 p4 : Int32) (r : Int32) (ro' : Mem) (hp : Ro_add ro p1 p2 p3 p4 = some (r, ro')) : RI l yX9_add cX9_add 5 (some .int) 1 D cy [.ref (qro 0), .int p1, .int p2, .int p3, .int p4] (w_Ro cy qro ro) (w_Ro cy qro ro') r := by
  refine RI_of RX9 rfl (by decide) (Nat.le_of_ble_eq_true rfl) ?_
  intro p e s m below meth c A C0 hK hP hD hS hA ls hl
  obtain ⟨hx, hb, hr, hml, hown, hts, hk⟩ := id C0
  unfold Ro_add at hp
  have hl : lv_has ls 5 [(0, .ref (qro 0)), (1, .int p1), (2, .int p2), (3, .int p3), (4, .int p4)] := hl
  refine lv_aload_n hx hb dX9_add_0 rfl (lv_at hl 0 rfl) ?_
  refine gf_X9_24 hx hb hts hown hK hP 0 rfl rfl dX9_add_1 ?_
  refine lv_if_lt (tgt := 14) hx hb dX9_add_4 (by decide) (fun c_1 => ?_) (fun c_1 => ?_)
  · have hp := ite_p hp c_1
    refine lv_bipush (v := (-2)) hx hb dX9_add_14 (by decide) ?_
    simp only [Option.some.injEq, Prod.mk.injEq] at hp
    obtain ⟨h0, rfl⟩ := hp
    exact e_RIi hx hb hr hk hP hD hS dX9_add_16 h0
  · have hp := ite_n hp c_1
    refine lv_aload_n hx hb dX9_add_7 rfl (lv_at hl 0 rfl) ?_
    obtain ⟨r_3, hc_2, hp⟩ := bn1_s hp
    refine k_ROV (As := []) (rest := []) ⟨hx, hb, hml, hown, hts⟩ hK hP (cw_X9_28 hts ⟨Nat.le_of_ble_eq_true rfl, Nat.le_of_ble_eq_true rfl⟩) 0 (ci := 9) rfl rfl rfl (c_X9_isFull l D cy qro ro r_3 hc_2) rfl hl.1 (Nat.le_of_ble_eq_true rfl) ⟨Nat.le_refl _, Nat.le_refl _⟩ dX9_add_8 ?_
    refine lv_if_eq (tgt := 17) hx hb dX9_add_11 (by decide) (fun c_4 => ?_) (fun c_4 => ?_)
    · have hp := ite_p hp c_4
      refine lv_aload_n hx hb dX9_add_17 rfl (lv_at hl 0 rfl) ?_
      refine gf_X9_9 hx hb hts hown hK hP 0 rfl rfl dX9_add_18 ?_
      refine lv_aload_n hx hb dX9_add_21 rfl (lv_at hl 0 rfl) ?_
      refine gf_X9_24 hx hb hts hown hK hP 0 rfl rfl dX9_add_22 ?_
      refine lv_iload_n hx hb dX9_add_25 rfl (lv_at hl 1 rfl) ?_
      obtain ⟨hi_5, hp⟩ := ckI_s hp
      obtain ⟨ro_6, ero_6⟩ : ∃ y : Mem, y = upm ro 0 (ro 4 0).toNatClampNeg p1 := ⟨_, rfl⟩
      have hp := stk_e hp ero_6
      refine r_ist hx hb hK hP hD hS (wn := (w_Ro cy qro ro_6)) 1 rfl hi_5 (by subst ero_6; rfl) dX9_add_26 (fun H locs hP hD hS => ?_)
      refine lv_aload_n hx hb dX9_add_27 rfl (lv_at hl 0 rfl) ?_
      refine gf_X9_15 hx hb hts hown hK hP 0 rfl rfl dX9_add_28 ?_
      refine lv_aload_n hx hb dX9_add_31 rfl (lv_at hl 0 rfl) ?_
      refine gf_X9_24 hx hb hts hown hK hP 0 rfl rfl dX9_add_32 ?_
      refine lv_iload_n hx hb dX9_add_35 rfl (lv_at hl 2 rfl) ?_
      obtain ⟨hi_7, hp⟩ := ckI_s hp
      obtain ⟨ro_8, ero_8⟩ : ∃ y : Mem, y = upm ro_6 1 (ro_6 4 0).toNatClampNeg p2 := ⟨_, rfl⟩
      have hp := stk_e hp ero_8
      refine r_ist hx hb hK hP hD hS (wn := (w_Ro cy qro ro_8)) 2 rfl hi_7 (by subst ero_8; rfl) dX9_add_36 (fun H locs hP hD hS => ?_)
      refine lv_aload_n hx hb dX9_add_37 rfl (lv_at hl 0 rfl) ?_
      refine gf_X9_18 hx hb hts hown hK hP 0 rfl rfl dX9_add_38 ?_
      refine lv_aload_n hx hb dX9_add_41 rfl (lv_at hl 0 rfl) ?_
      refine gf_X9_24 hx hb hts hown hK hP 0 rfl rfl dX9_add_42 ?_
      refine lv_iload_n hx hb dX9_add_45 rfl (lv_at hl 3 rfl) ?_
      obtain ⟨hi_9, hp⟩ := ckI_s hp
      obtain ⟨ro_10, ero_10⟩ : ∃ y : Mem, y = upm ro_8 2 (ro_8 4 0).toNatClampNeg p3 := ⟨_, rfl⟩
      have hp := stk_e hp ero_10
      refine r_ist hx hb hK hP hD hS (wn := (w_Ro cy qro ro_10)) 3 rfl hi_9 (by subst ero_10; rfl) dX9_add_46 (fun H locs hP hD hS => ?_)
      refine lv_aload_n hx hb dX9_add_47 rfl (lv_at hl 0 rfl) ?_
      refine gf_X9_21 hx hb hts hown hK hP 0 rfl rfl dX9_add_48 ?_
      refine lv_aload_n hx hb dX9_add_51 rfl (lv_at hl 0 rfl) ?_
      refine gf_X9_24 hx hb hts hown hK hP 0 rfl rfl dX9_add_52 ?_
      refine lv_iload hx hb dX9_add_55 (lv_at hl 4 rfl) ?_
      obtain ⟨hi_11, hp⟩ := ckI_s hp
      obtain ⟨ro_12, ero_12⟩ : ∃ y : Mem, y = upm ro_10 3 (ro_10 4 0).toNatClampNeg p4 := ⟨_, rfl⟩
      have hp := stk_e hp ero_12
      refine r_ist hx hb hK hP hD hS (wn := (w_Ro cy qro ro_12)) 4 rfl hi_11 (by subst ero_12; rfl) dX9_add_57 (fun H locs hP hD hS => ?_)
      refine lv_aload_n hx hb dX9_add_58 rfl (lv_at hl 0 rfl) ?_
      refine lv_dup hx hb dX9_add_59 rfl ?_
      refine gf_X9_24 hx hb hts hown hK hP 0 rfl rfl dX9_add_60 ?_
      refine lv_iconst (v := 1) hx hb dX9_add_63 (by decide) ?_
      refine lv_iadd hx hb dX9_add_64 ?_
      obtain ⟨ro_13, ero_13⟩ : ∃ y : Mem, y = upm ro_12 4 0 ((ro_12 4 0) + 1) := ⟨_, rfl⟩
      have hp := stk_e hp ero_13
      refine pf_X9_24 hx hb hts hown hK hP hD hS (wn := (w_Ro cy qro ro_13)) 0 rfl (Nat.le_of_ble_eq_true rfl) (by subst ero_13; rfl) dX9_add_65 (fun H locs hP hD hS => ?_)
      refine lv_aload_n hx hb dX9_add_68 rfl (lv_at hl 0 rfl) ?_
      refine gf_X9_24 hx hb hts hown hK hP 0 rfl rfl dX9_add_69 ?_
      refine lv_iconst (v := 1) hx hb dX9_add_72 (by decide) ?_
      refine lv_isub hx hb dX9_add_73 ?_
      simp only [Option.some.injEq, Prod.mk.injEq] at hp
      obtain ⟨h0, rfl⟩ := hp
      exact e_RIi hx hb hr hk hP hD hS dX9_add_74 h0
    · have hp := ite_n hp c_4
      refine lv_bipush (v := (-2)) hx hb dX9_add_14 (by decide) ?_
      simp only [Option.some.injEq, Prod.mk.injEq] at hp
      obtain ⟨h0, rfl⟩ := hp
      exact e_RIi hx hb hr hk hP hD hS dX9_add_16 h0
/-! StormSlots$Reader.readFlight(LStormSlots$Bytes;LStormSlots$Roster;)V -/
def Rd_readFlight (rd : Mem) (bs : Mem) (ro : Mem) : Option (Mem × Mem) :=
  bn1 (Ro_isFull ro) (fun r_2 => bn2 (Rd_readLetter rd bs r_2) (fun r_4 rd_5 => bn2 (Rd_readNumber rd_5 bs 719) (fun r_7 rd_8 => bn1 (Rd_skipBlanks rd_8 bs) (fun rd_10 => bn1 (Rd_expect rd_10 bs 47) (fun rd_12 => bn2 (Rd_readNumber rd_12 bs 300) (fun r_14 rd_15 => bn2 (Rd_readWeight rd_15 bs) (fun r_17 rd_18 => if (rd_18 2 0) = 0 then bn2 (Ro_add ro r_4 r_7 r_14 r_17) (fun r_21 ro_22 => some (rd_18, ro_22)) else some (rd_18, ro))))))))
set_option maxHeartbeats 4000000 in
set_option maxRecDepth 100000 in
theorem c_X8_readFlight (l : Launch) (D : va_G) (cy : Nat → ClassId) (qrd qbs qro : Nat → Nat) (rd bs ro : Mem) (rd' ro' : Mem) (hp : Rd_readFlight rd bs ro = some (rd', ro')) : RV l yX8_readFlight cX8_readFlight 7 4 D cy [.ref (qrd 0), .ref (qbs 0), .ref (qro 0)] (w_RdByRo cy qrd qbs qro rd bs ro) (w_RdByRo cy qrd qbs qro rd' bs ro') := by
  refine RV_of RX8 rfl (by decide) (Nat.le_of_ble_eq_true rfl) ?_
  intro p e s m below meth c A C0 hK hP hD hS hA ls hl
  obtain ⟨hx, hb, hr, hml, hown, hts, hk⟩ := id C0
  unfold Rd_readFlight at hp
  have hl : lv_has ls 7 [(0, .ref (qrd 0)), (1, .ref (qbs 0)), (2, .ref (qro 0))] := hl
  refine lv_aload_n hx hb dX8_readFlight_0 rfl (lv_at hl 0 rfl) ?_
  refine lv_aload_n hx hb dX8_readFlight_1 rfl (lv_at hl 1 rfl) ?_
  refine lv_aload_n hx hb dX8_readFlight_2 rfl (lv_at hl 2 rfl) ?_
  obtain ⟨r_2, hc_1, hp⟩ := bn1_s hp
  refine k_ROV (As := []) (rest := [.ref (qbs 0), .ref (qrd 0)]) ⟨hx, hb, hml, hown, hts⟩ hK (hP.sub (ws' := (w_Ro cy qro ro)) [3, 4, 5, 6, 7] rfl) (cw_X8_38 hts ⟨Nat.le_of_ble_eq_true rfl, Nat.le_of_ble_eq_true rfl⟩) 0 (ci := 9) rfl rfl rfl (c_X9_isFull l D cy qro ro r_2 hc_1) rfl hl.1 (Nat.le_of_ble_eq_true rfl) ⟨Nat.le_refl _, Nat.le_refl _⟩ dX8_readFlight_3 ?_
  obtain ⟨r_4, rd_5, hc_3, hp⟩ := bn2_s hp
  refine k_RIV (As := [.ref (qbs 0), .int r_2]) (rest := []) ⟨hx, hb, hml, hown, hts⟩ hK hP hD hS hA (FrS_set (ws := (w_RdByRo cy qrd qbs qro rd bs ro)) (wc := (w_RdBy cy qrd qbs rd bs)) (w1 := (w_RdBy cy qrd qbs rd_5 bs)) (wn := (w_RdByRo cy qrd qbs qro rd_5 bs ro)) [0, 1, 2] [some 0, some 1, some 2, none, none, none, none, none] (by decide +kernel) rfl rfl rfl) (cw_X8_42 hts ⟨Nat.le_of_ble_eq_true rfl, Nat.le_of_ble_eq_true rfl⟩) 0 (ci := 8) rfl rfl rfl (c_X8_readLetter l D cy qrd qbs rd bs r_2 r_4 rd_5 hc_3) rfl hl.1 (Nat.le_of_ble_eq_true rfl) ⟨Nat.le_refl _, Nat.le_refl _⟩ dX8_readFlight_6 (fun H locs hP hD hS => ?_)
  refine lv_istore_n (lv' := [(3, .int r_4), (0, .ref (qrd 0)), (1, .ref (qbs 0)), (2, .ref (qro 0))]) hx hb dX8_readFlight_9 rfl hl (by decide) rfl (fun ls hl => ?_)
  refine lv_aload_n hx hb dX8_readFlight_10 rfl (lv_at hl 1 rfl) ?_
  refine lv_aload_n hx hb dX8_readFlight_11 rfl (lv_at hl 2 rfl) ?_
  refine lv_sipush (v := 719) hx hb dX8_readFlight_12 (by decide) ?_
  obtain ⟨r_7, rd_8, hc_6, hp⟩ := bn2_s hp
  refine k_RIV (As := [.ref (qbs 0), .int 719]) (rest := []) ⟨hx, hb, hml, hown, hts⟩ hK hP hD hS hA (FrS_set (ws := (w_RdByRo cy qrd qbs qro rd_5 bs ro)) (wc := (w_RdBy cy qrd qbs rd_5 bs)) (w1 := (w_RdBy cy qrd qbs rd_8 bs)) (wn := (w_RdByRo cy qrd qbs qro rd_8 bs ro)) [0, 1, 2] [some 0, some 1, some 2, none, none, none, none, none] (by decide +kernel) rfl rfl rfl) (cw_X8_46 hts ⟨Nat.le_of_ble_eq_true rfl, Nat.le_of_ble_eq_true rfl⟩) 0 (ci := 8) rfl rfl rfl (c_X8_readNumber l D cy qrd qbs rd_5 bs 719 r_7 rd_8 hc_6) rfl hl.1 (Nat.le_of_ble_eq_true rfl) ⟨Nat.le_refl _, Nat.le_refl _⟩ dX8_readFlight_15 (fun H locs hP hD hS => ?_)
  refine lv_istore (lv' := [(4, .int r_7), (3, .int r_4), (0, .ref (qrd 0)), (1, .ref (qbs 0)), (2, .ref (qro 0))]) hx hb dX8_readFlight_18 hl (by decide) rfl (fun ls hl => ?_)
  refine lv_aload_n hx hb dX8_readFlight_20 rfl (lv_at hl 2 rfl) ?_
  refine lv_aload_n hx hb dX8_readFlight_21 rfl (lv_at hl 3 rfl) ?_
  obtain ⟨rd_10, hc_9, hp⟩ := bn1_s hp
  refine k_RVV (As := [.ref (qbs 0)]) (rest := []) ⟨hx, hb, hml, hown, hts⟩ hK hP hD hS hA (FrS_set (ws := (w_RdByRo cy qrd qbs qro rd_8 bs ro)) (wc := (w_RdBy cy qrd qbs rd_8 bs)) (w1 := (w_RdBy cy qrd qbs rd_10 bs)) (wn := (w_RdByRo cy qrd qbs qro rd_10 bs ro)) [0, 1, 2] [some 0, some 1, some 2, none, none, none, none, none] (by decide +kernel) rfl rfl rfl) (cw_X8_30 hts ⟨Nat.le_of_ble_eq_true rfl, Nat.le_of_ble_eq_true rfl⟩) 0 (ci := 8) rfl rfl rfl (c_X8_skipBlanks l D cy qrd qbs rd_8 bs rd_10 hc_9) rfl hl.1 (Nat.le_of_ble_eq_true rfl) ⟨Nat.le_refl _, Nat.le_refl _⟩ dX8_readFlight_22 (fun H locs hP hD hS => ?_)
  refine lv_aload_n hx hb dX8_readFlight_25 rfl (lv_at hl 2 rfl) ?_
  refine lv_aload_n hx hb dX8_readFlight_26 rfl (lv_at hl 3 rfl) ?_
  refine lv_bipush (v := 47) hx hb dX8_readFlight_27 (by decide) ?_
  obtain ⟨rd_12, hc_11, hp⟩ := bn1_s hp
  refine k_RVV (As := [.ref (qbs 0), .int 47]) (rest := []) ⟨hx, hb, hml, hown, hts⟩ hK hP hD hS hA (FrS_set (ws := (w_RdByRo cy qrd qbs qro rd_10 bs ro)) (wc := (w_RdBy cy qrd qbs rd_10 bs)) (w1 := (w_RdBy cy qrd qbs rd_12 bs)) (wn := (w_RdByRo cy qrd qbs qro rd_12 bs ro)) [0, 1, 2] [some 0, some 1, some 2, none, none, none, none, none] (by decide +kernel) rfl rfl rfl) (cw_X8_34 hts ⟨Nat.le_of_ble_eq_true rfl, Nat.le_of_ble_eq_true rfl⟩) 0 (ci := 8) rfl rfl rfl (c_X8_expect l D cy qrd qbs rd_10 bs 47 rd_12 hc_11) rfl hl.1 (Nat.le_of_ble_eq_true rfl) ⟨Nat.le_refl _, Nat.le_refl _⟩ dX8_readFlight_29 (fun H locs hP hD hS => ?_)
  refine lv_aload_n hx hb dX8_readFlight_32 rfl (lv_at hl 2 rfl) ?_
  refine lv_aload_n hx hb dX8_readFlight_33 rfl (lv_at hl 3 rfl) ?_
  refine lv_sipush (v := 300) hx hb dX8_readFlight_34 (by decide) ?_
  obtain ⟨r_14, rd_15, hc_13, hp⟩ := bn2_s hp
  refine k_RIV (As := [.ref (qbs 0), .int 300]) (rest := []) ⟨hx, hb, hml, hown, hts⟩ hK hP hD hS hA (FrS_set (ws := (w_RdByRo cy qrd qbs qro rd_12 bs ro)) (wc := (w_RdBy cy qrd qbs rd_12 bs)) (w1 := (w_RdBy cy qrd qbs rd_15 bs)) (wn := (w_RdByRo cy qrd qbs qro rd_15 bs ro)) [0, 1, 2] [some 0, some 1, some 2, none, none, none, none, none] (by decide +kernel) rfl rfl rfl) (cw_X8_46 hts ⟨Nat.le_of_ble_eq_true rfl, Nat.le_of_ble_eq_true rfl⟩) 0 (ci := 8) rfl rfl rfl (c_X8_readNumber l D cy qrd qbs rd_12 bs 300 r_14 rd_15 hc_13) rfl hl.1 (Nat.le_of_ble_eq_true rfl) ⟨Nat.le_refl _, Nat.le_refl _⟩ dX8_readFlight_37 (fun H locs hP hD hS => ?_)
  refine lv_istore (lv' := [(5, .int r_14), (4, .int r_7), (3, .int r_4), (0, .ref (qrd 0)), (1, .ref (qbs 0)), (2, .ref (qro 0))]) hx hb dX8_readFlight_40 hl (by decide) rfl (fun ls hl => ?_)
  refine lv_aload_n hx hb dX8_readFlight_42 rfl (lv_at hl 3 rfl) ?_
  refine lv_aload_n hx hb dX8_readFlight_43 rfl (lv_at hl 4 rfl) ?_
  obtain ⟨r_17, rd_18, hc_16, hp⟩ := bn2_s hp
  refine k_RIV (As := [.ref (qbs 0)]) (rest := []) ⟨hx, hb, hml, hown, hts⟩ hK hP hD hS hA (FrS_set (ws := (w_RdByRo cy qrd qbs qro rd_15 bs ro)) (wc := (w_RdBy cy qrd qbs rd_15 bs)) (w1 := (w_RdBy cy qrd qbs rd_18 bs)) (wn := (w_RdByRo cy qrd qbs qro rd_18 bs ro)) [0, 1, 2] [some 0, some 1, some 2, none, none, none, none, none] (by decide +kernel) rfl rfl rfl) (cw_X8_50 hts ⟨Nat.le_of_ble_eq_true rfl, Nat.le_of_ble_eq_true rfl⟩) 0 (ci := 8) rfl rfl rfl (c_X8_readWeight l D cy qrd qbs rd_15 bs r_17 rd_18 hc_16) rfl hl.1 (Nat.le_of_ble_eq_true rfl) ⟨Nat.le_refl _, Nat.le_refl _⟩ dX8_readFlight_44 (fun H locs hP hD hS => ?_)
  refine lv_istore (lv' := [(6, .int r_17), (5, .int r_14), (4, .int r_7), (3, .int r_4), (0, .ref (qrd 0)), (1, .ref (qbs 0)), (2, .ref (qro 0))]) hx hb dX8_readFlight_47 hl (by decide) rfl (fun ls hl => ?_)
  refine lv_aload_n hx hb dX8_readFlight_49 rfl (lv_at hl 4 rfl) ?_
  refine gf_X8_23 hx hb hts hown hK hP 0 rfl rfl dX8_readFlight_50 ?_
  refine lv_if_ne (tgt := 68) hx hb dX8_readFlight_53 (by decide) (fun c_19 => ?_) (fun c_19 => ?_)
  · have hp := ite_n hp c_19
    simp only [Option.some.injEq, Prod.mk.injEq] at hp
    obtain ⟨rfl, rfl⟩ := hp
    exact e_RV hx hb hr hk hP hD hS dX8_readFlight_68
  · have hp := ite_p hp c_19
    refine lv_aload_n hx hb dX8_readFlight_56 rfl (lv_at hl 6 rfl) ?_
    refine lv_iload_n hx hb dX8_readFlight_57 rfl (lv_at hl 3 rfl) ?_
    refine lv_iload hx hb dX8_readFlight_58 (lv_at hl 2 rfl) ?_
    refine lv_iload hx hb dX8_readFlight_60 (lv_at hl 1 rfl) ?_
    refine lv_iload hx hb dX8_readFlight_62 (lv_at hl 0 rfl) ?_
    obtain ⟨r_21, ro_22, hc_20, hp⟩ := bn2_s hp
    refine k_RIV (As := [.int r_4, .int r_7, .int r_14, .int r_17]) (rest := []) ⟨hx, hb, hml, hown, hts⟩ hK hP hD hS hA (FrS_set (ws := (w_RdByRo cy qrd qbs qro rd_18 bs ro)) (wc := (w_Ro cy qro ro)) (w1 := (w_Ro cy qro ro_22)) (wn := (w_RdByRo cy qrd qbs qro rd_18 bs ro_22)) [3, 4, 5, 6, 7] [none, none, none, some 0, some 1, some 2, some 3, some 4] (by decide +kernel) rfl rfl rfl) (cw_X8_54 hts ⟨Nat.le_of_ble_eq_true rfl, Nat.le_of_ble_eq_true rfl⟩) 0 (ci := 9) rfl rfl rfl (c_X9_add l D cy qro ro r_4 r_7 r_14 r_17 r_21 ro_22 hc_20) rfl hl.1 (Nat.le_of_ble_eq_true rfl) ⟨Nat.le_refl _, Nat.le_refl _⟩ dX8_readFlight_64 (fun H locs hP hD hS => ?_)
    refine lv_pop hx hb dX8_readFlight_67 rfl ?_
    simp only [Option.some.injEq, Prod.mk.injEq] at hp
    obtain ⟨rfl, rfl⟩ := hp
    exact e_RV hx hb hr hk hP hD hS dX8_readFlight_68
/-! StormSlots$Reader.read(LStormSlots$Bytes;ILStormSlots$Roster;)I -/
def Rd_read_b23B (bs : Mem) (p2 : Int32) (k23 : Mem → Mem → Int32 → Option (Int32 × Mem × Mem)) (rd : Mem) (ro : Mem) (x4 : Int32) : Option (Int32 × Mem × Mem) :=
  if 20 < x4 then some ((rd 2 0), rd, ro) else bn2 (Rd_readFlight rd bs ro) (fun rd_7 ro_8 => bn1 (Rd_skipBlanks rd_7 bs) (fun rd_10 => if (rd_10 2 0) = 0 then if (rd_10 1 0) < (rd_10 0 0) then bn1 (Rd_expect rd_10 bs 59) (fun rd_14 => stk (x4 + 1) (fun x4_15 => k23 rd_14 ro_8 x4_15)) else some ((rd_10 2 0), rd_10, ro_8) else some ((rd_10 2 0), rd_10, ro_8)))
def Rd_read_b23 (bs : Mem) (p2 : Int32) : Nat → Mem → Mem → Int32 → Option (Int32 × Mem × Mem)
  | 0 => fun _ _ _ => none
  | n + 1 => Rd_read_b23B bs p2 (Rd_read_b23 bs p2 n)
def Rd_read (rd : Mem) (bs : Mem) (ro : Mem) (p2 : Int32) : Option (Int32 × Mem × Mem) :=
  stk (upm ro 4 0 0) (fun ro_1 => stk (upm rd 0 0 p2) (fun rd_2 => stk (upm rd_2 1 0 0) (fun rd_3 => stk (upm rd_3 2 0 0) (fun rd_4 => Rd_read_b23 bs p2 fl rd_4 ro_1 0))))
set_option maxHeartbeats 4000000 in
set_option maxRecDepth 100000 in
theorem Rd_read_b23B_w (C0 : cX RX8 cX8_read (some .int) 5 p s m args meth c) (hK : kN D cy s) {qrd qbs qro : Nat → Nat} {bs : Mem} {p2 : Int32} {r : Int32} {rd' ro' : Mem} (hA : ∀ q, s.heap.size ≤ q → A q) {k23 : Mem → Mem → Int32 → Option (Int32 × Mem × Mem)} (hk23 : ∀ (rd ro : Mem) (x4 : Int32) (H : Heap) (locs : List Loc) (ls : Array Slot), va_P D vwCl (w_RdByRo cy qrd qbs qro rd bs ro) H → va_D A (w_RdByRo cy qrd qbs qro rd bs ro) → va_S A s.heap H locs → lv_has ls 5 [(0, .ref (qrd 0)), (1, .ref (qbs 0)), (2, .int p2), (3, .ref (qro 0)), (4, .int x4)] → k23 rd ro x4 = some (r, rd', ro') → W p l e (rmD 5) s m args below meth c H locs 0 0 (qRI D below args s A (w_RdByRo cy qrd qbs qro rd' bs ro') r) (F0 m 23 ls [])) {rd : Mem} {ro : Mem} {x4 : Int32} {H : Heap} {locs : List Loc} (hP : va_P D vwCl (w_RdByRo cy qrd qbs qro rd bs ro) H) (hD : va_D A (w_RdByRo cy qrd qbs qro rd bs ro)) (hS : va_S A s.heap H locs) {ls : Array Slot} (hl : lv_has ls 5 [(0, .ref (qrd 0)), (1, .ref (qbs 0)), (2, .int p2), (3, .ref (qro 0)), (4, .int x4)]) (hp : Rd_read_b23B bs p2 k23 rd ro x4 = some (r, rd', ro')) : W p l e (rmD 5) s m args below meth c H locs 0 0 (qRI D below args s A (w_RdByRo cy qrd qbs qro rd' bs ro') r) (F0 m 23 ls []) := by
  obtain ⟨hx, hb, hr, hml, hown, hts, hk⟩ := id C0
  unfold Rd_read_b23B at hp
  refine lv_iload hx hb dX8_read_23 (lv_at hl 4 rfl) ?_
  refine lv_bipush (v := 20) hx hb dX8_read_25 (by decide) ?_
  refine lv_icmp_gt (tgt := 77) hx hb dX8_read_27 (by decide) (fun c_5 => ?_) (fun c_5 => ?_)
  · have hp := ite_p hp c_5
    refine lv_aload_n hx hb dX8_read_77 rfl (lv_at hl 0 rfl) ?_
    refine gf_X8_23 hx hb hts hown hK hP 0 rfl rfl dX8_read_78 ?_
    simp only [Option.some.injEq, Prod.mk.injEq] at hp
    obtain ⟨h0, rfl, rfl⟩ := hp
    exact e_RIi hx hb hr hk hP hD hS dX8_read_81 h0
  · have hp := ite_n hp c_5
    refine lv_aload_n hx hb dX8_read_30 rfl (lv_at hl 0 rfl) ?_
    refine lv_aload_n hx hb dX8_read_31 rfl (lv_at hl 1 rfl) ?_
    refine lv_aload_n hx hb dX8_read_32 rfl (lv_at hl 3 rfl) ?_
    obtain ⟨rd_7, ro_8, hc_6, hp⟩ := bn2_s hp
    refine k_RVV (As := [.ref (qbs 0), .ref (qro 0)]) (rest := []) ⟨hx, hb, hml, hown, hts⟩ hK hP hD hS hA FrS_rf (cw_X8_26 hts ⟨Nat.le_of_ble_eq_true rfl, Nat.le_of_ble_eq_true rfl⟩) 0 (ci := 8) rfl rfl rfl (c_X8_readFlight l D cy qrd qbs qro rd bs ro rd_7 ro_8 hc_6) rfl hl.1 (Nat.le_of_ble_eq_true rfl) ⟨Nat.le_refl _, Nat.le_refl _⟩ dX8_read_33 (fun H locs hP hD hS => ?_)
    refine lv_aload_n hx hb dX8_read_36 rfl (lv_at hl 0 rfl) ?_
    refine lv_aload_n hx hb dX8_read_37 rfl (lv_at hl 1 rfl) ?_
    obtain ⟨rd_10, hc_9, hp⟩ := bn1_s hp
    refine k_RVV (As := [.ref (qbs 0)]) (rest := []) ⟨hx, hb, hml, hown, hts⟩ hK hP hD hS hA (FrS_set (ws := (w_RdByRo cy qrd qbs qro rd_7 bs ro_8)) (wc := (w_RdBy cy qrd qbs rd_7 bs)) (w1 := (w_RdBy cy qrd qbs rd_10 bs)) (wn := (w_RdByRo cy qrd qbs qro rd_10 bs ro_8)) [0, 1, 2] [some 0, some 1, some 2, none, none, none, none, none] (by decide +kernel) rfl rfl rfl) (cw_X8_30 hts ⟨Nat.le_of_ble_eq_true rfl, Nat.le_of_ble_eq_true rfl⟩) 0 (ci := 8) rfl rfl rfl (c_X8_skipBlanks l D cy qrd qbs rd_7 bs rd_10 hc_9) rfl hl.1 (Nat.le_of_ble_eq_true rfl) ⟨Nat.le_refl _, Nat.le_refl _⟩ dX8_read_38 (fun H locs hP hD hS => ?_)
    refine lv_aload_n hx hb dX8_read_41 rfl (lv_at hl 0 rfl) ?_
    refine gf_X8_23 hx hb hts hown hK hP 0 rfl rfl dX8_read_42 ?_
    refine lv_if_ne (tgt := 59) hx hb dX8_read_45 (by decide) (fun c_11 => ?_) (fun c_11 => ?_)
    · have hp := ite_n hp c_11
      refine lv_aload_n hx hb dX8_read_59 rfl (lv_at hl 0 rfl) ?_
      refine gf_X8_23 hx hb hts hown hK hP 0 rfl rfl dX8_read_60 ?_
      simp only [Option.some.injEq, Prod.mk.injEq] at hp
      obtain ⟨h0, rfl, rfl⟩ := hp
      exact e_RIi hx hb hr hk hP hD hS dX8_read_63 h0
    · have hp := ite_p hp c_11
      refine lv_aload_n hx hb dX8_read_48 rfl (lv_at hl 0 rfl) ?_
      refine gf_X8_20 hx hb hts hown hK hP 0 rfl rfl dX8_read_49 ?_
      refine lv_aload_n hx hb dX8_read_52 rfl (lv_at hl 0 rfl) ?_
      refine gf_X8_15 hx hb hts hown hK hP 0 rfl rfl dX8_read_53 ?_
      refine lv_icmp_lt (tgt := 64) hx hb dX8_read_56 (by decide) (fun c_12 => ?_) (fun c_12 => ?_)
      · have hp := ite_p hp c_12
        refine lv_aload_n hx hb dX8_read_64 rfl (lv_at hl 0 rfl) ?_
        refine lv_aload_n hx hb dX8_read_65 rfl (lv_at hl 1 rfl) ?_
        refine lv_bipush (v := 59) hx hb dX8_read_66 (by decide) ?_
        obtain ⟨rd_14, hc_13, hp⟩ := bn1_s hp
        refine k_RVV (As := [.ref (qbs 0), .int 59]) (rest := []) ⟨hx, hb, hml, hown, hts⟩ hK hP hD hS hA (FrS_set (ws := (w_RdByRo cy qrd qbs qro rd_10 bs ro_8)) (wc := (w_RdBy cy qrd qbs rd_10 bs)) (w1 := (w_RdBy cy qrd qbs rd_14 bs)) (wn := (w_RdByRo cy qrd qbs qro rd_14 bs ro_8)) [0, 1, 2] [some 0, some 1, some 2, none, none, none, none, none] (by decide +kernel) rfl rfl rfl) (cw_X8_34 hts ⟨Nat.le_of_ble_eq_true rfl, Nat.le_of_ble_eq_true rfl⟩) 0 (ci := 8) rfl rfl rfl (c_X8_expect l D cy qrd qbs rd_10 bs 59 rd_14 hc_13) rfl hl.1 (Nat.le_of_ble_eq_true rfl) ⟨Nat.le_refl _, Nat.le_refl _⟩ dX8_read_68 (fun H locs hP hD hS => ?_)
        obtain ⟨x4_15, ex4_15⟩ : ∃ y : Int32, y = x4 + 1 := ⟨_, rfl⟩
        have hp := stk_e hp ex4_15
        refine lv_iinc (v := x4_15) (lv' := [(4, .int x4_15), (0, .ref (qrd 0)), (1, .ref (qbs 0)), (2, .int p2), (3, .ref (qro 0))]) hx hb dX8_read_71 hl (k := 4) rfl (by rw [ex4_15]; rfl) (by decide) rfl (fun ls hl => ?_)
        refine lv_goto (tgt := 23) hx hb dX8_read_74 (by decide) ?_
        exact hk23 rd_14 ro_8 x4_15 _ _ _ hP hD hS (lv_sub hl [1, 2, 3, 4, 0] rfl) hp
      · have hp := ite_n hp c_12
        refine lv_aload_n hx hb dX8_read_59 rfl (lv_at hl 0 rfl) ?_
        refine gf_X8_23 hx hb hts hown hK hP 0 rfl rfl dX8_read_60 ?_
        simp only [Option.some.injEq, Prod.mk.injEq] at hp
        obtain ⟨h0, rfl, rfl⟩ := hp
        exact e_RIi hx hb hr hk hP hD hS dX8_read_63 h0
theorem Rd_read_b23_w (C0 : cX RX8 cX8_read (some .int) 5 p s m args meth c) (hK : kN D cy s) {qrd qbs qro : Nat → Nat} {bs : Mem} {p2 : Int32} {r : Int32} {rd' ro' : Mem} (hA : ∀ q, s.heap.size ≤ q → A q) : ∀ (n : Nat) (rd ro : Mem) (x4 : Int32) (H : Heap) (locs : List Loc) (ls : Array Slot), va_P D vwCl (w_RdByRo cy qrd qbs qro rd bs ro) H → va_D A (w_RdByRo cy qrd qbs qro rd bs ro) → va_S A s.heap H locs → lv_has ls 5 [(0, .ref (qrd 0)), (1, .ref (qbs 0)), (2, .int p2), (3, .ref (qro 0)), (4, .int x4)] → Rd_read_b23 bs p2 n rd ro x4 = some (r, rd', ro') → W p l e (rmD 5) s m args below meth c H locs 0 0 (qRI D below args s A (w_RdByRo cy qrd qbs qro rd' bs ro') r) (F0 m 23 ls []) := by
  intro n
  induction n with
  | zero =>
    intro rd ro x4 H locs ls hP hD hS hl hp
    cases hp
  | succ n ih =>
    intro rd ro x4 H locs ls hP hD hS hl hp
    exact Rd_read_b23B_w C0 hK hA  (fun rd ro x4 H locs ls hP hD hS hl hp => ih rd ro x4 H locs ls hP hD hS hl hp) hP hD hS hl hp
set_option maxHeartbeats 4000000 in
set_option maxRecDepth 100000 in
theorem c_X8_read (l : Launch) (D : va_G) (cy : Nat → ClassId) (qrd qbs qro : Nat → Nat) (rd bs ro : Mem) (p2 : Int32) (r : Int32) (rd' ro' : Mem) (hp : Rd_read rd bs ro p2 = some (r, rd', ro')) : RI l yX8_read cX8_read 5 (some .int) 5 D cy [.ref (qrd 0), .ref (qbs 0), .int p2, .ref (qro 0)] (w_RdByRo cy qrd qbs qro rd bs ro) (w_RdByRo cy qrd qbs qro rd' bs ro') r := by
  refine RI_of RX8 rfl (by decide) (Nat.le_of_ble_eq_true rfl) ?_
  intro p e s m below meth c A C0 hK hP hD hS hA ls hl
  obtain ⟨hx, hb, hr, hml, hown, hts, hk⟩ := id C0
  unfold Rd_read at hp
  have hl : lv_has ls 5 [(0, .ref (qrd 0)), (1, .ref (qbs 0)), (2, .int p2), (3, .ref (qro 0))] := hl
  refine lv_aload_n hx hb dX8_read_0 rfl (lv_at hl 3 rfl) ?_
  refine lv_iconst (v := 0) hx hb dX8_read_1 (by decide) ?_
  obtain ⟨ro_1, ero_1⟩ : ∃ y : Mem, y = upm ro 4 0 0 := ⟨_, rfl⟩
  have hp := stk_e hp ero_1
  refine pf_X8_9 hx hb hts hown hK hP hD hS (wn := (w_RdByRo cy qrd qbs qro rd bs ro_1)) 3 rfl (Nat.le_of_ble_eq_true rfl) (by subst ero_1; rfl) dX8_read_2 (fun H locs hP hD hS => ?_)
  refine lv_aload_n hx hb dX8_read_5 rfl (lv_at hl 0 rfl) ?_
  refine lv_iload_n hx hb dX8_read_6 rfl (lv_at hl 2 rfl) ?_
  obtain ⟨rd_2, erd_2⟩ : ∃ y : Mem, y = upm rd 0 0 p2 := ⟨_, rfl⟩
  have hp := stk_e hp erd_2
  refine pf_X8_15 hx hb hts hown hK hP hD hS (wn := (w_RdByRo cy qrd qbs qro rd_2 bs ro_1)) 0 rfl (Nat.le_of_ble_eq_true rfl) (by subst erd_2; rfl) dX8_read_7 (fun H locs hP hD hS => ?_)
  refine lv_aload_n hx hb dX8_read_10 rfl (lv_at hl 0 rfl) ?_
  refine lv_iconst (v := 0) hx hb dX8_read_11 (by decide) ?_
  obtain ⟨rd_3, erd_3⟩ : ∃ y : Mem, y = upm rd_2 1 0 0 := ⟨_, rfl⟩
  have hp := stk_e hp erd_3
  refine pf_X8_20 hx hb hts hown hK hP hD hS (wn := (w_RdByRo cy qrd qbs qro rd_3 bs ro_1)) 0 rfl (Nat.le_of_ble_eq_true rfl) (by subst erd_3; rfl) dX8_read_12 (fun H locs hP hD hS => ?_)
  refine lv_aload_n hx hb dX8_read_15 rfl (lv_at hl 0 rfl) ?_
  refine lv_iconst (v := 0) hx hb dX8_read_16 (by decide) ?_
  obtain ⟨rd_4, erd_4⟩ : ∃ y : Mem, y = upm rd_3 2 0 0 := ⟨_, rfl⟩
  have hp := stk_e hp erd_4
  refine pf_X8_23 hx hb hts hown hK hP hD hS (wn := (w_RdByRo cy qrd qbs qro rd_4 bs ro_1)) 0 rfl (Nat.le_of_ble_eq_true rfl) (by subst erd_4; rfl) dX8_read_17 (fun H locs hP hD hS => ?_)
  refine lv_iconst (v := 0) hx hb dX8_read_20 (by decide) ?_
  refine lv_istore (lv' := [(4, .int 0), (0, .ref (qrd 0)), (1, .ref (qbs 0)), (2, .int p2), (3, .ref (qro 0))]) hx hb dX8_read_21 hl (by decide) rfl (fun ls hl => ?_)
  exact Rd_read_b23_w C0 hK hA  fl rd_4 ro_1 0 _ _ _ hP hD hS (lv_sub hl [1, 2, 3, 4, 0] rfl) hp
/-! StormSlots$Roster.has(I)Z -/
def Ro_has (ro : Mem) (p1 : Int32) : Option (Int32) :=
  if p1 < 0 then some 0 else if (ro 4 0) ≤ p1 then some 0 else if 20 ≤ p1 then some 0 else some 1
set_option maxHeartbeats 4000000 in
set_option maxRecDepth 100000 in
theorem c_X9_has (l : Launch) (D : va_G) (cy : Nat → ClassId) (qro : Nat → Nat) (ro : Mem) (p1 : Int32) (r : Int32) (hp : Ro_has ro p1 = some r) : RO l yX9_has cX9_has 2 (some .boolean) 0 D cy [.ref (qro 0), .int p1] (w_Ro cy qro ro) r := by
  refine RO_of RX9 rfl (by decide) (Nat.le_of_ble_eq_true rfl) ?_
  intro p e s m below meth c C0 hK hP ls hl
  obtain ⟨hx, hb, hr, hml, hown, hts, hk⟩ := id C0
  unfold Ro_has at hp
  have hl : lv_has ls 2 [(0, .ref (qro 0)), (1, .int p1)] := hl
  refine lv_iload_n hx hb dX9_has_0 rfl (lv_at hl 1 rfl) ?_
  refine lv_if_lt (tgt := 22) hx hb dX9_has_1 (by decide) (fun c_1 => ?_) (fun c_1 => ?_)
  · have hp := ite_p hp c_1
    refine lv_iconst (v := 0) hx hb dX9_has_22 (by decide) ?_
    exact e_ROz hx hb hr hk (Or.inl rfl) dX9_has_23 (Option.some.inj hp)
  · have hp := ite_n hp c_1
    refine lv_iload_n hx hb dX9_has_4 rfl (lv_at hl 1 rfl) ?_
    refine lv_aload_n hx hb dX9_has_5 rfl (lv_at hl 0 rfl) ?_
    refine gf_X9_24 hx hb hts hown hK hP 0 rfl rfl dX9_has_6 ?_
    refine lv_icmp_ge (tgt := 22) hx hb dX9_has_9 (by decide) (fun c_2 => ?_) (fun c_2 => ?_)
    · have hp := ite_p hp c_2
      refine lv_iconst (v := 0) hx hb dX9_has_22 (by decide) ?_
      exact e_ROz hx hb hr hk (Or.inl rfl) dX9_has_23 (Option.some.inj hp)
    · have hp := ite_n hp c_2
      refine lv_iload_n hx hb dX9_has_12 rfl (lv_at hl 1 rfl) ?_
      refine lv_bipush (v := 20) hx hb dX9_has_13 (by decide) ?_
      refine lv_icmp_ge (tgt := 22) hx hb dX9_has_15 (by decide) (fun c_3 => ?_) (fun c_3 => ?_)
      · have hp := ite_p hp c_3
        refine lv_iconst (v := 0) hx hb dX9_has_22 (by decide) ?_
        exact e_ROz hx hb hr hk (Or.inl rfl) dX9_has_23 (Option.some.inj hp)
      · have hp := ite_n hp c_3
        refine lv_iconst (v := 1) hx hb dX9_has_18 (by decide) ?_
        refine lv_goto (tgt := 23) hx hb dX9_has_19 (by decide) ?_
        exact e_ROz hx hb hr hk (Or.inr rfl) dX9_has_23 (Option.some.inj hp)
/-! StormSlots$Roster.sameLine(II)Z -/
def Ro_sameLine (ro : Mem) (p1 : Int32) (p2 : Int32) : Option (Int32) :=
  bn1 (Ro_has ro p1) (fun r_2 => if r_2 = 0 then some 0 else bn1 (Ro_has ro p2) (fun r_5 => if r_5 = 0 then some 0 else ckI p1 20 (ckI p2 20 (if (ro 0 p1.toNatClampNeg) = (ro 0 p2.toNatClampNeg) then some 1 else some 0))))
set_option maxHeartbeats 4000000 in
set_option maxRecDepth 100000 in
theorem c_X9_sameLine (l : Launch) (D : va_G) (cy : Nat → ClassId) (qro : Nat → Nat) (ro : Mem) (p1 p2 : Int32) (r : Int32) (hp : Ro_sameLine ro p1 p2 = some r) : RO l yX9_sameLine cX9_sameLine 3 (some .boolean) 1 D cy [.ref (qro 0), .int p1, .int p2] (w_Ro cy qro ro) r := by
  refine RO_of RX9 rfl (by decide) (Nat.le_of_ble_eq_true rfl) ?_
  intro p e s m below meth c C0 hK hP ls hl
  obtain ⟨hx, hb, hr, hml, hown, hts, hk⟩ := id C0
  unfold Ro_sameLine at hp
  have hl : lv_has ls 3 [(0, .ref (qro 0)), (1, .int p1), (2, .int p2)] := hl
  refine lv_aload_n hx hb dX9_sameLine_0 rfl (lv_at hl 0 rfl) ?_
  refine lv_iload_n hx hb dX9_sameLine_1 rfl (lv_at hl 1 rfl) ?_
  obtain ⟨r_2, hc_1, hp⟩ := bn1_s hp
  refine k_ROV (As := [.int p1]) (rest := []) ⟨hx, hb, hml, hown, hts⟩ hK hP (cw_X9_32 hts ⟨Nat.le_of_ble_eq_true rfl, Nat.le_of_ble_eq_true rfl⟩) 0 (ci := 9) rfl rfl rfl (c_X9_has l D cy qro ro p1 r_2 hc_1) rfl hl.1 (Nat.le_of_ble_eq_true rfl) ⟨Nat.le_refl _, Nat.le_refl _⟩ dX9_sameLine_2 ?_
  refine lv_if_eq (tgt := 35) hx hb dX9_sameLine_5 (by decide) (fun c_3 => ?_) (fun c_3 => ?_)
  · have hp := ite_p hp c_3
    refine lv_iconst (v := 0) hx hb dX9_sameLine_35 (by decide) ?_
    exact e_ROz hx hb hr hk (Or.inl rfl) dX9_sameLine_36 (Option.some.inj hp)
  · have hp := ite_n hp c_3
    refine lv_aload_n hx hb dX9_sameLine_8 rfl (lv_at hl 0 rfl) ?_
    refine lv_iload_n hx hb dX9_sameLine_9 rfl (lv_at hl 2 rfl) ?_
    obtain ⟨r_5, hc_4, hp⟩ := bn1_s hp
    refine k_ROV (As := [.int p2]) (rest := []) ⟨hx, hb, hml, hown, hts⟩ hK hP (cw_X9_32 hts ⟨Nat.le_of_ble_eq_true rfl, Nat.le_of_ble_eq_true rfl⟩) 0 (ci := 9) rfl rfl rfl (c_X9_has l D cy qro ro p2 r_5 hc_4) rfl hl.1 (Nat.le_of_ble_eq_true rfl) ⟨Nat.le_refl _, Nat.le_refl _⟩ dX9_sameLine_10 ?_
    refine lv_if_eq (tgt := 35) hx hb dX9_sameLine_13 (by decide) (fun c_6 => ?_) (fun c_6 => ?_)
    · have hp := ite_p hp c_6
      refine lv_iconst (v := 0) hx hb dX9_sameLine_35 (by decide) ?_
      exact e_ROz hx hb hr hk (Or.inl rfl) dX9_sameLine_36 (Option.some.inj hp)
    · have hp := ite_n hp c_6
      refine lv_aload_n hx hb dX9_sameLine_16 rfl (lv_at hl 0 rfl) ?_
      refine gf_X9_9 hx hb hts hown hK hP 0 rfl rfl dX9_sameLine_17 ?_
      refine lv_iload_n hx hb dX9_sameLine_20 rfl (lv_at hl 1 rfl) ?_
      obtain ⟨hi_7, hp⟩ := ckI_s hp
      refine r_ild hx hb hK hP 1 rfl hi_7 dX9_sameLine_21 ?_
      refine lv_aload_n hx hb dX9_sameLine_22 rfl (lv_at hl 0 rfl) ?_
      refine gf_X9_9 hx hb hts hown hK hP 0 rfl rfl dX9_sameLine_23 ?_
      refine lv_iload_n hx hb dX9_sameLine_26 rfl (lv_at hl 2 rfl) ?_
      obtain ⟨hi_8, hp⟩ := ckI_s hp
      refine r_ild hx hb hK hP 1 rfl hi_8 dX9_sameLine_27 ?_
      refine lv_icmp_ne (tgt := 35) hx hb dX9_sameLine_28 (by decide) (fun c_9 => ?_) (fun c_9 => ?_)
      · have hp := ite_n hp c_9
        refine lv_iconst (v := 0) hx hb dX9_sameLine_35 (by decide) ?_
        exact e_ROz hx hb hr hk (Or.inl rfl) dX9_sameLine_36 (Option.some.inj hp)
      · have hp := ite_p hp c_9
        refine lv_iconst (v := 1) hx hb dX9_sameLine_31 (by decide) ?_
        refine lv_goto (tgt := 36) hx hb dX9_sameLine_32 (by decide) ?_
        exact e_ROz hx hb hr hk (Or.inr rfl) dX9_sameLine_36 (Option.some.inj hp)
/-! StormSlots$Roster.writeTo(LStormSlots$Bytes;)V -/
def Ro_writeTo_b31 (ro : Mem) (k7 : Mem → Int32 → Option (Mem)) (bs : Mem) (x2 : Int32) : Option (Mem) :=
  ckI x2 20 (bn1 (By_append bs (97 + (ro 0 x2.toNatClampNeg))) (fun bs_9 => bn1 (By_appendNumber bs_9 (ro 1 x2.toNatClampNeg)) (fun bs_11 => bn1 (By_append bs_11 47) (fun bs_13 => bn1 (By_appendNumber bs_13 (ro 2 x2.toNatClampNeg)) (fun bs_15 => if (ro 3 x2.toNatClampNeg) ≤ 1 then stk (x2 + 1) (fun x2_17 => k7 bs_15 x2_17) else bn1 (By_append bs_15 42) (fun bs_19 => bn1 (By_appendNumber bs_19 (ro 3 x2.toNatClampNeg)) (fun bs_21 => stk (x2 + 1) (fun x2_22 => k7 bs_21 x2_22))))))))
def Ro_writeTo_b7B (ro : Mem) (k7 : Mem → Int32 → Option (Mem)) (bs : Mem) (x2 : Int32) : Option (Mem) :=
  if (ro 4 0) ≤ x2 then some bs else if 20 ≤ x2 then some bs else if x2 ≤ 0 then Ro_writeTo_b31 ro k7 bs x2 else bn1 (By_append bs 59) (fun bs_6 => Ro_writeTo_b31 ro k7 bs_6 x2)
def Ro_writeTo_b7 (ro : Mem) : Nat → Mem → Int32 → Option (Mem)
  | 0 => fun _ _ => none
  | n + 1 => Ro_writeTo_b7B ro (Ro_writeTo_b7 ro n)
def Ro_writeTo (ro : Mem) (bs : Mem) : Option (Mem) :=
  stk (upm bs 1 0 0) (fun bs_1 => Ro_writeTo_b7 ro fl bs_1 0)
set_option maxHeartbeats 4000000 in
set_option maxRecDepth 100000 in
theorem Ro_writeTo_b31_w (C0 : cX RX9 cX9_writeTo none 3 p s m args meth c) (hK : kN D cy s) {qro qbs : Nat → Nat} {ro : Mem} {bs' : Mem} (hA : ∀ q, s.heap.size ≤ q → A q) {k7 : Mem → Int32 → Option (Mem)} (hk7 : ∀ (bs : Mem) (x2 : Int32) (H : Heap) (locs : List Loc) (ls : Array Slot), va_P D vwCl (w_RoBy cy qro qbs ro bs) H → va_D A (w_RoBy cy qro qbs ro bs) → va_S A s.heap H locs → lv_has ls 3 [(0, .ref (qro 0)), (1, .ref (qbs 0)), (2, .int x2)] → k7 bs x2 = some bs' → W p l e (rmD 2) s m args below meth c H locs 0 0 (qRV D below args s A (w_RoBy cy qro qbs ro bs')) (F0 m 7 ls [])) {bs : Mem} {x2 : Int32} {H : Heap} {locs : List Loc} (hP : va_P D vwCl (w_RoBy cy qro qbs ro bs) H) (hD : va_D A (w_RoBy cy qro qbs ro bs)) (hS : va_S A s.heap H locs) {ls : Array Slot} (hl : lv_has ls 3 [(0, .ref (qro 0)), (1, .ref (qbs 0)), (2, .int x2)]) (hp : Ro_writeTo_b31 ro k7 bs x2 = some bs') : W p l e (rmD 2) s m args below meth c H locs 0 0 (qRV D below args s A (w_RoBy cy qro qbs ro bs')) (F0 m 31 ls []) := by
  obtain ⟨hx, hb, hr, hml, hown, hts, hk⟩ := id C0
  unfold Ro_writeTo_b31 at hp
  refine lv_aload_n hx hb dX9_writeTo_31 rfl (lv_at hl 1 rfl) ?_
  refine lv_bipush (v := 97) hx hb dX9_writeTo_32 (by decide) ?_
  refine lv_aload_n hx hb dX9_writeTo_34 rfl (lv_at hl 0 rfl) ?_
  refine gf_X9_9 hx hb hts hown hK hP 0 rfl rfl dX9_writeTo_35 ?_
  refine lv_iload_n hx hb dX9_writeTo_38 rfl (lv_at hl 2 rfl) ?_
  obtain ⟨hi_7, hp⟩ := ckI_s hp
  refine r_ild hx hb hK hP 1 rfl hi_7 dX9_writeTo_39 ?_
  refine lv_iadd hx hb dX9_writeTo_40 ?_
  obtain ⟨bs_9, hc_8, hp⟩ := bn1_s hp
  refine k_RVV (As := [.int (97 + (ro 0 x2.toNatClampNeg))]) (rest := []) ⟨hx, hb, hml, hown, hts⟩ hK hP hD hS hA (FrS_set (ws := (w_RoBy cy qro qbs ro bs)) (wc := (w_By cy qbs bs)) (w1 := (w_By cy qbs bs_9)) (wn := (w_RoBy cy qro qbs ro bs_9)) [5, 6] [none, none, none, none, none, some 0, some 1] (by decide +kernel) rfl rfl rfl) (cw_X9_39 hts ⟨Nat.le_of_ble_eq_true rfl, Nat.le_of_ble_eq_true rfl⟩) 0 (ci := 0) rfl rfl rfl (c_X0_append l D cy qbs bs (97 + (ro 0 x2.toNatClampNeg)) bs_9 hc_8) rfl hl.1 (Nat.le_of_ble_eq_true rfl) ⟨Nat.le_refl _, Nat.le_refl _⟩ dX9_writeTo_41 (fun H locs hP hD hS => ?_)
  refine lv_aload_n hx hb dX9_writeTo_44 rfl (lv_at hl 1 rfl) ?_
  refine lv_aload_n hx hb dX9_writeTo_45 rfl (lv_at hl 0 rfl) ?_
  refine gf_X9_15 hx hb hts hown hK hP 0 rfl rfl dX9_writeTo_46 ?_
  refine lv_iload_n hx hb dX9_writeTo_49 rfl (lv_at hl 2 rfl) ?_
  refine r_ild hx hb hK hP 2 rfl hi_7 dX9_writeTo_50 ?_
  obtain ⟨bs_11, hc_10, hp⟩ := bn1_s hp
  refine k_RVV (As := [.int (ro 1 x2.toNatClampNeg)]) (rest := []) ⟨hx, hb, hml, hown, hts⟩ hK hP hD hS hA (FrS_set (ws := (w_RoBy cy qro qbs ro bs_9)) (wc := (w_By cy qbs bs_9)) (w1 := (w_By cy qbs bs_11)) (wn := (w_RoBy cy qro qbs ro bs_11)) [5, 6] [none, none, none, none, none, some 0, some 1] (by decide +kernel) rfl rfl rfl) (cw_X9_43 hts ⟨Nat.le_of_ble_eq_true rfl, Nat.le_of_ble_eq_true rfl⟩) 0 (ci := 0) rfl rfl rfl (c_X0_appendNumber l D cy qbs bs_9 (ro 1 x2.toNatClampNeg) bs_11 hc_10) rfl hl.1 (Nat.le_of_ble_eq_true rfl) ⟨Nat.le_refl _, Nat.le_refl _⟩ dX9_writeTo_51 (fun H locs hP hD hS => ?_)
  refine lv_aload_n hx hb dX9_writeTo_54 rfl (lv_at hl 1 rfl) ?_
  refine lv_bipush (v := 47) hx hb dX9_writeTo_55 (by decide) ?_
  obtain ⟨bs_13, hc_12, hp⟩ := bn1_s hp
  refine k_RVV (As := [.int 47]) (rest := []) ⟨hx, hb, hml, hown, hts⟩ hK hP hD hS hA (FrS_set (ws := (w_RoBy cy qro qbs ro bs_11)) (wc := (w_By cy qbs bs_11)) (w1 := (w_By cy qbs bs_13)) (wn := (w_RoBy cy qro qbs ro bs_13)) [5, 6] [none, none, none, none, none, some 0, some 1] (by decide +kernel) rfl rfl rfl) (cw_X9_39 hts ⟨Nat.le_of_ble_eq_true rfl, Nat.le_of_ble_eq_true rfl⟩) 0 (ci := 0) rfl rfl rfl (c_X0_append l D cy qbs bs_11 47 bs_13 hc_12) rfl hl.1 (Nat.le_of_ble_eq_true rfl) ⟨Nat.le_refl _, Nat.le_refl _⟩ dX9_writeTo_57 (fun H locs hP hD hS => ?_)
  refine lv_aload_n hx hb dX9_writeTo_60 rfl (lv_at hl 1 rfl) ?_
  refine lv_aload_n hx hb dX9_writeTo_61 rfl (lv_at hl 0 rfl) ?_
  refine gf_X9_18 hx hb hts hown hK hP 0 rfl rfl dX9_writeTo_62 ?_
  refine lv_iload_n hx hb dX9_writeTo_65 rfl (lv_at hl 2 rfl) ?_
  refine r_ild hx hb hK hP 3 rfl hi_7 dX9_writeTo_66 ?_
  obtain ⟨bs_15, hc_14, hp⟩ := bn1_s hp
  refine k_RVV (As := [.int (ro 2 x2.toNatClampNeg)]) (rest := []) ⟨hx, hb, hml, hown, hts⟩ hK hP hD hS hA (FrS_set (ws := (w_RoBy cy qro qbs ro bs_13)) (wc := (w_By cy qbs bs_13)) (w1 := (w_By cy qbs bs_15)) (wn := (w_RoBy cy qro qbs ro bs_15)) [5, 6] [none, none, none, none, none, some 0, some 1] (by decide +kernel) rfl rfl rfl) (cw_X9_43 hts ⟨Nat.le_of_ble_eq_true rfl, Nat.le_of_ble_eq_true rfl⟩) 0 (ci := 0) rfl rfl rfl (c_X0_appendNumber l D cy qbs bs_13 (ro 2 x2.toNatClampNeg) bs_15 hc_14) rfl hl.1 (Nat.le_of_ble_eq_true rfl) ⟨Nat.le_refl _, Nat.le_refl _⟩ dX9_writeTo_67 (fun H locs hP hD hS => ?_)
  refine lv_aload_n hx hb dX9_writeTo_70 rfl (lv_at hl 0 rfl) ?_
  refine gf_X9_21 hx hb hts hown hK hP 0 rfl rfl dX9_writeTo_71 ?_
  refine lv_iload_n hx hb dX9_writeTo_74 rfl (lv_at hl 2 rfl) ?_
  refine r_ild hx hb hK hP 4 rfl hi_7 dX9_writeTo_75 ?_
  refine lv_iconst (v := 1) hx hb dX9_writeTo_76 (by decide) ?_
  refine lv_icmp_le (tgt := 96) hx hb dX9_writeTo_77 (by decide) (fun c_16 => ?_) (fun c_16 => ?_)
  · have hp := ite_p hp c_16
    obtain ⟨x2_17, ex2_17⟩ : ∃ y : Int32, y = x2 + 1 := ⟨_, rfl⟩
    have hp := stk_e hp ex2_17
    refine lv_iinc (v := x2_17) (lv' := [(2, .int x2_17), (0, .ref (qro 0)), (1, .ref (qbs 0))]) hx hb dX9_writeTo_96 hl (k := 2) rfl (by rw [ex2_17]; rfl) (by decide) rfl (fun ls hl => ?_)
    refine lv_goto (tgt := 7) hx hb dX9_writeTo_99 (by decide) ?_
    exact hk7 bs_15 x2_17 _ _ _ hP hD hS (lv_sub hl [1, 2, 0] rfl) hp
  · have hp := ite_n hp c_16
    refine lv_aload_n hx hb dX9_writeTo_80 rfl (lv_at hl 1 rfl) ?_
    refine lv_bipush (v := 42) hx hb dX9_writeTo_81 (by decide) ?_
    obtain ⟨bs_19, hc_18, hp⟩ := bn1_s hp
    refine k_RVV (As := [.int 42]) (rest := []) ⟨hx, hb, hml, hown, hts⟩ hK hP hD hS hA (FrS_set (ws := (w_RoBy cy qro qbs ro bs_15)) (wc := (w_By cy qbs bs_15)) (w1 := (w_By cy qbs bs_19)) (wn := (w_RoBy cy qro qbs ro bs_19)) [5, 6] [none, none, none, none, none, some 0, some 1] (by decide +kernel) rfl rfl rfl) (cw_X9_39 hts ⟨Nat.le_of_ble_eq_true rfl, Nat.le_of_ble_eq_true rfl⟩) 0 (ci := 0) rfl rfl rfl (c_X0_append l D cy qbs bs_15 42 bs_19 hc_18) rfl hl.1 (Nat.le_of_ble_eq_true rfl) ⟨Nat.le_refl _, Nat.le_refl _⟩ dX9_writeTo_83 (fun H locs hP hD hS => ?_)
    refine lv_aload_n hx hb dX9_writeTo_86 rfl (lv_at hl 1 rfl) ?_
    refine lv_aload_n hx hb dX9_writeTo_87 rfl (lv_at hl 0 rfl) ?_
    refine gf_X9_21 hx hb hts hown hK hP 0 rfl rfl dX9_writeTo_88 ?_
    refine lv_iload_n hx hb dX9_writeTo_91 rfl (lv_at hl 2 rfl) ?_
    refine r_ild hx hb hK hP 4 rfl hi_7 dX9_writeTo_92 ?_
    obtain ⟨bs_21, hc_20, hp⟩ := bn1_s hp
    refine k_RVV (As := [.int (ro 3 x2.toNatClampNeg)]) (rest := []) ⟨hx, hb, hml, hown, hts⟩ hK hP hD hS hA (FrS_set (ws := (w_RoBy cy qro qbs ro bs_19)) (wc := (w_By cy qbs bs_19)) (w1 := (w_By cy qbs bs_21)) (wn := (w_RoBy cy qro qbs ro bs_21)) [5, 6] [none, none, none, none, none, some 0, some 1] (by decide +kernel) rfl rfl rfl) (cw_X9_43 hts ⟨Nat.le_of_ble_eq_true rfl, Nat.le_of_ble_eq_true rfl⟩) 0 (ci := 0) rfl rfl rfl (c_X0_appendNumber l D cy qbs bs_19 (ro 3 x2.toNatClampNeg) bs_21 hc_20) rfl hl.1 (Nat.le_of_ble_eq_true rfl) ⟨Nat.le_refl _, Nat.le_refl _⟩ dX9_writeTo_93 (fun H locs hP hD hS => ?_)
    obtain ⟨x2_22, ex2_22⟩ : ∃ y : Int32, y = x2 + 1 := ⟨_, rfl⟩
    have hp := stk_e hp ex2_22
    refine lv_iinc (v := x2_22) (lv' := [(2, .int x2_22), (0, .ref (qro 0)), (1, .ref (qbs 0))]) hx hb dX9_writeTo_96 hl (k := 2) rfl (by rw [ex2_22]; rfl) (by decide) rfl (fun ls hl => ?_)
    refine lv_goto (tgt := 7) hx hb dX9_writeTo_99 (by decide) ?_
    exact hk7 bs_21 x2_22 _ _ _ hP hD hS (lv_sub hl [1, 2, 0] rfl) hp
set_option maxHeartbeats 4000000 in
set_option maxRecDepth 100000 in
theorem Ro_writeTo_b7B_w (C0 : cX RX9 cX9_writeTo none 3 p s m args meth c) (hK : kN D cy s) {qro qbs : Nat → Nat} {ro : Mem} {bs' : Mem} (hA : ∀ q, s.heap.size ≤ q → A q) {k7 : Mem → Int32 → Option (Mem)} (hk7 : ∀ (bs : Mem) (x2 : Int32) (H : Heap) (locs : List Loc) (ls : Array Slot), va_P D vwCl (w_RoBy cy qro qbs ro bs) H → va_D A (w_RoBy cy qro qbs ro bs) → va_S A s.heap H locs → lv_has ls 3 [(0, .ref (qro 0)), (1, .ref (qbs 0)), (2, .int x2)] → k7 bs x2 = some bs' → W p l e (rmD 2) s m args below meth c H locs 0 0 (qRV D below args s A (w_RoBy cy qro qbs ro bs')) (F0 m 7 ls [])) {bs : Mem} {x2 : Int32} {H : Heap} {locs : List Loc} (hP : va_P D vwCl (w_RoBy cy qro qbs ro bs) H) (hD : va_D A (w_RoBy cy qro qbs ro bs)) (hS : va_S A s.heap H locs) {ls : Array Slot} (hl : lv_has ls 3 [(0, .ref (qro 0)), (1, .ref (qbs 0)), (2, .int x2)]) (hp : Ro_writeTo_b7B ro k7 bs x2 = some bs') : W p l e (rmD 2) s m args below meth c H locs 0 0 (qRV D below args s A (w_RoBy cy qro qbs ro bs')) (F0 m 7 ls []) := by
  obtain ⟨hx, hb, hr, hml, hown, hts, hk⟩ := id C0
  unfold Ro_writeTo_b7B at hp
  refine lv_iload_n hx hb dX9_writeTo_7 rfl (lv_at hl 2 rfl) ?_
  refine lv_aload_n hx hb dX9_writeTo_8 rfl (lv_at hl 0 rfl) ?_
  refine gf_X9_24 hx hb hts hown hK hP 0 rfl rfl dX9_writeTo_9 ?_
  refine lv_icmp_ge (tgt := 102) hx hb dX9_writeTo_12 (by decide) (fun c_2 => ?_) (fun c_2 => ?_)
  · have hp := ite_p hp c_2
    simp only [Option.some.injEq, Prod.mk.injEq] at hp
    subst hp
    exact e_RV hx hb hr hk hP hD hS dX9_writeTo_102
  · have hp := ite_n hp c_2
    refine lv_iload_n hx hb dX9_writeTo_15 rfl (lv_at hl 2 rfl) ?_
    refine lv_bipush (v := 20) hx hb dX9_writeTo_16 (by decide) ?_
    refine lv_icmp_ge (tgt := 102) hx hb dX9_writeTo_18 (by decide) (fun c_3 => ?_) (fun c_3 => ?_)
    · have hp := ite_p hp c_3
      simp only [Option.some.injEq, Prod.mk.injEq] at hp
      subst hp
      exact e_RV hx hb hr hk hP hD hS dX9_writeTo_102
    · have hp := ite_n hp c_3
      refine lv_iload_n hx hb dX9_writeTo_21 rfl (lv_at hl 2 rfl) ?_
      refine lv_if_le (tgt := 31) hx hb dX9_writeTo_22 (by decide) (fun c_4 => ?_) (fun c_4 => ?_)
      · have hp := ite_p hp c_4
        exact Ro_writeTo_b31_w C0 hK hA hk7 hP hD hS hl hp
      · have hp := ite_n hp c_4
        refine lv_aload_n hx hb dX9_writeTo_25 rfl (lv_at hl 1 rfl) ?_
        refine lv_bipush (v := 59) hx hb dX9_writeTo_26 (by decide) ?_
        obtain ⟨bs_6, hc_5, hp⟩ := bn1_s hp
        refine k_RVV (As := [.int 59]) (rest := []) ⟨hx, hb, hml, hown, hts⟩ hK hP hD hS hA (FrS_set (ws := (w_RoBy cy qro qbs ro bs)) (wc := (w_By cy qbs bs)) (w1 := (w_By cy qbs bs_6)) (wn := (w_RoBy cy qro qbs ro bs_6)) [5, 6] [none, none, none, none, none, some 0, some 1] (by decide +kernel) rfl rfl rfl) (cw_X9_39 hts ⟨Nat.le_of_ble_eq_true rfl, Nat.le_of_ble_eq_true rfl⟩) 0 (ci := 0) rfl rfl rfl (c_X0_append l D cy qbs bs 59 bs_6 hc_5) rfl hl.1 (Nat.le_of_ble_eq_true rfl) ⟨Nat.le_refl _, Nat.le_refl _⟩ dX9_writeTo_28 (fun H locs hP hD hS => ?_)
        exact Ro_writeTo_b31_w C0 hK hA hk7 hP hD hS hl hp
theorem Ro_writeTo_b7_w (C0 : cX RX9 cX9_writeTo none 3 p s m args meth c) (hK : kN D cy s) {qro qbs : Nat → Nat} {ro : Mem} {bs' : Mem} (hA : ∀ q, s.heap.size ≤ q → A q) : ∀ (n : Nat) (bs : Mem) (x2 : Int32) (H : Heap) (locs : List Loc) (ls : Array Slot), va_P D vwCl (w_RoBy cy qro qbs ro bs) H → va_D A (w_RoBy cy qro qbs ro bs) → va_S A s.heap H locs → lv_has ls 3 [(0, .ref (qro 0)), (1, .ref (qbs 0)), (2, .int x2)] → Ro_writeTo_b7 ro n bs x2 = some bs' → W p l e (rmD 2) s m args below meth c H locs 0 0 (qRV D below args s A (w_RoBy cy qro qbs ro bs')) (F0 m 7 ls []) := by
  intro n
  induction n with
  | zero =>
    intro bs x2 H locs ls hP hD hS hl hp
    cases hp
  | succ n ih =>
    intro bs x2 H locs ls hP hD hS hl hp
    exact Ro_writeTo_b7B_w C0 hK hA  (fun bs x2 H locs ls hP hD hS hl hp => ih bs x2 H locs ls hP hD hS hl hp) hP hD hS hl hp
set_option maxHeartbeats 4000000 in
set_option maxRecDepth 100000 in
theorem c_X9_writeTo (l : Launch) (D : va_G) (cy : Nat → ClassId) (qro qbs : Nat → Nat) (ro bs : Mem) (bs' : Mem) (hp : Ro_writeTo ro bs = some bs') : RV l yX9_writeTo cX9_writeTo 3 2 D cy [.ref (qro 0), .ref (qbs 0)] (w_RoBy cy qro qbs ro bs) (w_RoBy cy qro qbs ro bs') := by
  refine RV_of RX9 rfl (by decide) (Nat.le_of_ble_eq_true rfl) ?_
  intro p e s m below meth c A C0 hK hP hD hS hA ls hl
  obtain ⟨hx, hb, hr, hml, hown, hts, hk⟩ := id C0
  unfold Ro_writeTo at hp
  have hl : lv_has ls 3 [(0, .ref (qro 0)), (1, .ref (qbs 0))] := hl
  refine lv_aload_n hx hb dX9_writeTo_0 rfl (lv_at hl 1 rfl) ?_
  refine lv_iconst (v := 0) hx hb dX9_writeTo_1 (by decide) ?_
  obtain ⟨bs_1, ebs_1⟩ : ∃ y : Mem, y = upm bs 1 0 0 := ⟨_, rfl⟩
  have hp := stk_e hp ebs_1
  refine pf_X9_36 hx hb hts hown hK hP hD hS (wn := (w_RoBy cy qro qbs ro bs_1)) 5 rfl (Nat.le_of_ble_eq_true rfl) (by subst ebs_1; rfl) dX9_writeTo_2 (fun H locs hP hD hS => ?_)
  refine lv_iconst (v := 0) hx hb dX9_writeTo_5 (by decide) ?_
  refine lv_istore_n (lv' := [(2, .int 0), (0, .ref (qro 0)), (1, .ref (qbs 0))]) hx hb dX9_writeTo_6 rfl hl (by decide) rfl (fun ls hl => ?_)
  exact Ro_writeTo_b7_w C0 hK hA  fl bs_1 0 _ _ _ hP hD hS (lv_sub hl [1, 2, 0] rfl) hp
/-! StormSlots$Roster.copyFrom(LStormSlots$Roster;)V -/
def Ro_copyFrom (ro : Mem) (ro2 : Mem) : Option (Mem) :=
  stk (upA ro 0 (va_cpy (ro2 0) (ro 0) (0 : Int32).toNatClampNeg (0 : Int32).toNatClampNeg (20 : Int32).toNatClampNeg)) (fun ro_1 => stk (upA ro_1 1 (va_cpy (ro2 1) (ro_1 1) (0 : Int32).toNatClampNeg (0 : Int32).toNatClampNeg (20 : Int32).toNatClampNeg)) (fun ro_2 => stk (upA ro_2 2 (va_cpy (ro2 2) (ro_2 2) (0 : Int32).toNatClampNeg (0 : Int32).toNatClampNeg (20 : Int32).toNatClampNeg)) (fun ro_3 => stk (upA ro_3 3 (va_cpy (ro2 3) (ro_3 3) (0 : Int32).toNatClampNeg (0 : Int32).toNatClampNeg (20 : Int32).toNatClampNeg)) (fun ro_4 => stk (upm ro_4 4 0 (ro2 4 0)) (fun ro_5 => some ro_5)))))
set_option maxHeartbeats 4000000 in
set_option maxRecDepth 100000 in
theorem c_X9_copyFrom (l : Launch) (D : va_G) (cy : Nat → ClassId) (qro qro2 : Nat → Nat) (ro ro2 : Mem) (ro' : Mem) (hp : Ro_copyFrom ro ro2 = some ro') : RV l yX9_copyFrom cX9_copyFrom 2 1 D cy [.ref (qro 0), .ref (qro2 0)] (w_RoRo cy qro qro2 ro ro2) (w_RoRo cy qro qro2 ro' ro2) := by
  refine RV_of RX9 rfl (by decide) (Nat.le_of_ble_eq_true rfl) ?_
  intro p e s m below meth c A C0 hK hP hD hS hA ls hl
  obtain ⟨hx, hb, hr, hml, hown, hts, hk⟩ := id C0
  unfold Ro_copyFrom at hp
  have hl : lv_has ls 2 [(0, .ref (qro 0)), (1, .ref (qro2 0))] := hl
  refine lv_aload_n hx hb dX9_copyFrom_0 rfl (lv_at hl 1 rfl) ?_
  refine gf_X9_9 hx hb hts hown hK hP 5 rfl rfl dX9_copyFrom_1 ?_
  refine lv_iconst (v := 0) hx hb dX9_copyFrom_4 (by decide) ?_
  refine lv_aload_n hx hb dX9_copyFrom_5 rfl (lv_at hl 0 rfl) ?_
  refine gf_X9_9 hx hb hts hown hK hP 0 rfl rfl dX9_copyFrom_6 ?_
  refine lv_iconst (v := 0) hx hb dX9_copyFrom_9 (by decide) ?_
  refine lv_bipush (v := 20) hx hb dX9_copyFrom_10 (by decide) ?_
  obtain ⟨ro_1, ero_1⟩ : ∃ y : Mem, y = upA ro 0 (va_cpy (ro2 0) (ro 0) (0 : Int32).toNatClampNeg (0 : Int32).toNatClampNeg (20 : Int32).toNatClampNeg) := ⟨_, rfl⟩
  have hp := stk_e hp ero_1
  refine ac_X9_46 hx hb (by rw [hml]; exact hl.1.symm) hts hown hK hP hD hS (wn := (w_RoRo cy qro qro2 ro_1 ro2)) 6 1 rfl rfl (by decide) (by decide) (by decide) (Nat.le_of_ble_eq_true rfl) (by decide) (by subst ero_1; rfl) dX9_copyFrom_12 (fun H locs hP hD hS => ?_)
  refine lv_aload_n hx hb dX9_copyFrom_15 rfl (lv_at hl 1 rfl) ?_
  refine gf_X9_15 hx hb hts hown hK hP 5 rfl rfl dX9_copyFrom_16 ?_
  refine lv_iconst (v := 0) hx hb dX9_copyFrom_19 (by decide) ?_
  refine lv_aload_n hx hb dX9_copyFrom_20 rfl (lv_at hl 0 rfl) ?_
  refine gf_X9_15 hx hb hts hown hK hP 0 rfl rfl dX9_copyFrom_21 ?_
  refine lv_iconst (v := 0) hx hb dX9_copyFrom_24 (by decide) ?_
  refine lv_bipush (v := 20) hx hb dX9_copyFrom_25 (by decide) ?_
  obtain ⟨ro_2, ero_2⟩ : ∃ y : Mem, y = upA ro_1 1 (va_cpy (ro2 1) (ro_1 1) (0 : Int32).toNatClampNeg (0 : Int32).toNatClampNeg (20 : Int32).toNatClampNeg) := ⟨_, rfl⟩
  have hp := stk_e hp ero_2
  refine ac_X9_46 hx hb (by rw [hml]; exact hl.1.symm) hts hown hK hP hD hS (wn := (w_RoRo cy qro qro2 ro_2 ro2)) 7 2 rfl rfl (by decide) (by decide) (by decide) (Nat.le_of_ble_eq_true rfl) (by decide) (by subst ero_2; rfl) dX9_copyFrom_27 (fun H locs hP hD hS => ?_)
  refine lv_aload_n hx hb dX9_copyFrom_30 rfl (lv_at hl 1 rfl) ?_
  refine gf_X9_18 hx hb hts hown hK hP 5 rfl rfl dX9_copyFrom_31 ?_
  refine lv_iconst (v := 0) hx hb dX9_copyFrom_34 (by decide) ?_
  refine lv_aload_n hx hb dX9_copyFrom_35 rfl (lv_at hl 0 rfl) ?_
  refine gf_X9_18 hx hb hts hown hK hP 0 rfl rfl dX9_copyFrom_36 ?_
  refine lv_iconst (v := 0) hx hb dX9_copyFrom_39 (by decide) ?_
  refine lv_bipush (v := 20) hx hb dX9_copyFrom_40 (by decide) ?_
  obtain ⟨ro_3, ero_3⟩ : ∃ y : Mem, y = upA ro_2 2 (va_cpy (ro2 2) (ro_2 2) (0 : Int32).toNatClampNeg (0 : Int32).toNatClampNeg (20 : Int32).toNatClampNeg) := ⟨_, rfl⟩
  have hp := stk_e hp ero_3
  refine ac_X9_46 hx hb (by rw [hml]; exact hl.1.symm) hts hown hK hP hD hS (wn := (w_RoRo cy qro qro2 ro_3 ro2)) 8 3 rfl rfl (by decide) (by decide) (by decide) (Nat.le_of_ble_eq_true rfl) (by decide) (by subst ero_3; rfl) dX9_copyFrom_42 (fun H locs hP hD hS => ?_)
  refine lv_aload_n hx hb dX9_copyFrom_45 rfl (lv_at hl 1 rfl) ?_
  refine gf_X9_21 hx hb hts hown hK hP 5 rfl rfl dX9_copyFrom_46 ?_
  refine lv_iconst (v := 0) hx hb dX9_copyFrom_49 (by decide) ?_
  refine lv_aload_n hx hb dX9_copyFrom_50 rfl (lv_at hl 0 rfl) ?_
  refine gf_X9_21 hx hb hts hown hK hP 0 rfl rfl dX9_copyFrom_51 ?_
  refine lv_iconst (v := 0) hx hb dX9_copyFrom_54 (by decide) ?_
  refine lv_bipush (v := 20) hx hb dX9_copyFrom_55 (by decide) ?_
  obtain ⟨ro_4, ero_4⟩ : ∃ y : Mem, y = upA ro_3 3 (va_cpy (ro2 3) (ro_3 3) (0 : Int32).toNatClampNeg (0 : Int32).toNatClampNeg (20 : Int32).toNatClampNeg) := ⟨_, rfl⟩
  have hp := stk_e hp ero_4
  refine ac_X9_46 hx hb (by rw [hml]; exact hl.1.symm) hts hown hK hP hD hS (wn := (w_RoRo cy qro qro2 ro_4 ro2)) 9 4 rfl rfl (by decide) (by decide) (by decide) (Nat.le_of_ble_eq_true rfl) (by decide) (by subst ero_4; rfl) dX9_copyFrom_57 (fun H locs hP hD hS => ?_)
  refine lv_aload_n hx hb dX9_copyFrom_60 rfl (lv_at hl 0 rfl) ?_
  refine lv_aload_n hx hb dX9_copyFrom_61 rfl (lv_at hl 1 rfl) ?_
  refine gf_X9_24 hx hb hts hown hK hP 5 rfl rfl dX9_copyFrom_62 ?_
  obtain ⟨ro_5, ero_5⟩ : ∃ y : Mem, y = upm ro_4 4 0 (ro2 4 0) := ⟨_, rfl⟩
  have hp := stk_e hp ero_5
  refine pf_X9_24 hx hb hts hown hK hP hD hS (wn := (w_RoRo cy qro qro2 ro_5 ro2)) 0 rfl (Nat.le_of_ble_eq_true rfl) (by subst ero_5; rfl) dX9_copyFrom_65 (fun H locs hP hD hS => ?_)
  simp only [Option.some.injEq, Prod.mk.injEq] at hp
  subst hp
  exact e_RV hx hb hr hk hP hD hS dX9_copyFrom_68
/-! StormSlots$Vacancies.has(I)Z -/
def Va_has (vc : Mem) (p1 : Int32) : Option (Int32) :=
  if p1 < 0 then some 0 else if (vc 2 0) ≤ p1 then some 0 else if 20 ≤ p1 then some 0 else some 1
set_option maxHeartbeats 4000000 in
set_option maxRecDepth 100000 in
theorem c_X10_has (l : Launch) (D : va_G) (cy : Nat → ClassId) (qvc : Nat → Nat) (vc : Mem) (p1 : Int32) (r : Int32) (hp : Va_has vc p1 = some r) : RO l yX10_has cX10_has 2 (some .boolean) 0 D cy [.ref (qvc 0), .int p1] (w_Va cy qvc vc) r := by
  refine RO_of RX10 rfl (by decide) (Nat.le_of_ble_eq_true rfl) ?_
  intro p e s m below meth c C0 hK hP ls hl
  obtain ⟨hx, hb, hr, hml, hown, hts, hk⟩ := id C0
  unfold Va_has at hp
  have hl : lv_has ls 2 [(0, .ref (qvc 0)), (1, .int p1)] := hl
  refine lv_iload_n hx hb dX10_has_0 rfl (lv_at hl 1 rfl) ?_
  refine lv_if_lt (tgt := 22) hx hb dX10_has_1 (by decide) (fun c_1 => ?_) (fun c_1 => ?_)
  · have hp := ite_p hp c_1
    refine lv_iconst (v := 0) hx hb dX10_has_22 (by decide) ?_
    exact e_ROz hx hb hr hk (Or.inl rfl) dX10_has_23 (Option.some.inj hp)
  · have hp := ite_n hp c_1
    refine lv_iload_n hx hb dX10_has_4 rfl (lv_at hl 1 rfl) ?_
    refine lv_aload_n hx hb dX10_has_5 rfl (lv_at hl 0 rfl) ?_
    refine gf_X10_22 hx hb hts hown hK hP 0 rfl rfl dX10_has_6 ?_
    refine lv_icmp_ge (tgt := 22) hx hb dX10_has_9 (by decide) (fun c_2 => ?_) (fun c_2 => ?_)
    · have hp := ite_p hp c_2
      refine lv_iconst (v := 0) hx hb dX10_has_22 (by decide) ?_
      exact e_ROz hx hb hr hk (Or.inl rfl) dX10_has_23 (Option.some.inj hp)
    · have hp := ite_n hp c_2
      refine lv_iload_n hx hb dX10_has_12 rfl (lv_at hl 1 rfl) ?_
      refine lv_bipush (v := 20) hx hb dX10_has_13 (by decide) ?_
      refine lv_icmp_ge (tgt := 22) hx hb dX10_has_15 (by decide) (fun c_3 => ?_) (fun c_3 => ?_)
      · have hp := ite_p hp c_3
        refine lv_iconst (v := 0) hx hb dX10_has_22 (by decide) ?_
        exact e_ROz hx hb hr hk (Or.inl rfl) dX10_has_23 (Option.some.inj hp)
      · have hp := ite_n hp c_3
        refine lv_iconst (v := 1) hx hb dX10_has_18 (by decide) ?_
        refine lv_goto (tgt := 23) hx hb dX10_has_19 (by decide) ?_
        exact e_ROz hx hb hr hk (Or.inr rfl) dX10_has_23 (Option.some.inj hp)
/-! StormSlots$Vacancies.minuteOf(I)I -/
def Va_minuteOf (vc : Mem) (p1 : Int32) : Option (Int32) :=
  bn1 (Va_has vc p1) (fun r_2 => if r_2 = 0 then some (-1) else ckI p1 20 (some (vc 0 p1.toNatClampNeg)))
set_option maxHeartbeats 4000000 in
set_option maxRecDepth 100000 in
theorem c_X10_minuteOf (l : Launch) (D : va_G) (cy : Nat → ClassId) (qvc : Nat → Nat) (vc : Mem) (p1 : Int32) (r : Int32) (hp : Va_minuteOf vc p1 = some r) : RO l yX10_minuteOf cX10_minuteOf 2 (some .int) 1 D cy [.ref (qvc 0), .int p1] (w_Va cy qvc vc) r := by
  refine RO_of RX10 rfl (by decide) (Nat.le_of_ble_eq_true rfl) ?_
  intro p e s m below meth c C0 hK hP ls hl
  obtain ⟨hx, hb, hr, hml, hown, hts, hk⟩ := id C0
  unfold Va_minuteOf at hp
  have hl : lv_has ls 2 [(0, .ref (qvc 0)), (1, .int p1)] := hl
  refine lv_aload_n hx hb dX10_minuteOf_0 rfl (lv_at hl 0 rfl) ?_
  refine lv_iload_n hx hb dX10_minuteOf_1 rfl (lv_at hl 1 rfl) ?_
  obtain ⟨r_2, hc_1, hp⟩ := bn1_s hp
  refine k_ROV (As := [.int p1]) (rest := []) ⟨hx, hb, hml, hown, hts⟩ hK hP (cw_X10_18 hts ⟨Nat.le_of_ble_eq_true rfl, Nat.le_of_ble_eq_true rfl⟩) 0 (ci := 10) rfl rfl rfl (c_X10_has l D cy qvc vc p1 r_2 hc_1) rfl hl.1 (Nat.le_of_ble_eq_true rfl) ⟨Nat.le_refl _, Nat.le_refl _⟩ dX10_minuteOf_2 ?_
  refine lv_if_eq (tgt := 17) hx hb dX10_minuteOf_5 (by decide) (fun c_3 => ?_) (fun c_3 => ?_)
  · have hp := ite_p hp c_3
    refine lv_iconst (v := (-1)) hx hb dX10_minuteOf_17 (by decide) ?_
    exact e_ROi hx hb hr hk dX10_minuteOf_18 (Option.some.inj hp)
  · have hp := ite_n hp c_3
    refine lv_aload_n hx hb dX10_minuteOf_8 rfl (lv_at hl 0 rfl) ?_
    refine gf_X10_9 hx hb hts hown hK hP 0 rfl rfl dX10_minuteOf_9 ?_
    refine lv_iload_n hx hb dX10_minuteOf_12 rfl (lv_at hl 1 rfl) ?_
    obtain ⟨hi_4, hp⟩ := ckI_s hp
    refine r_ild hx hb hK hP 1 rfl hi_4 dX10_minuteOf_13 ?_
    refine lv_goto (tgt := 18) hx hb dX10_minuteOf_14 (by decide) ?_
    exact e_ROi hx hb hr hk dX10_minuteOf_18 (Option.some.inj hp)
/-! StormSlots$Vacancies.keeperOf(I)I -/
def Va_keeperOf (vc : Mem) (p1 : Int32) : Option (Int32) :=
  bn1 (Va_has vc p1) (fun r_2 => if r_2 = 0 then some (-1) else ckI p1 20 (some (vc 1 p1.toNatClampNeg)))
set_option maxHeartbeats 4000000 in
set_option maxRecDepth 100000 in
theorem c_X10_keeperOf (l : Launch) (D : va_G) (cy : Nat → ClassId) (qvc : Nat → Nat) (vc : Mem) (p1 : Int32) (r : Int32) (hp : Va_keeperOf vc p1 = some r) : RO l yX10_keeperOf cX10_keeperOf 2 (some .int) 1 D cy [.ref (qvc 0), .int p1] (w_Va cy qvc vc) r := by
  refine RO_of RX10 rfl (by decide) (Nat.le_of_ble_eq_true rfl) ?_
  intro p e s m below meth c C0 hK hP ls hl
  obtain ⟨hx, hb, hr, hml, hown, hts, hk⟩ := id C0
  unfold Va_keeperOf at hp
  have hl : lv_has ls 2 [(0, .ref (qvc 0)), (1, .int p1)] := hl
  refine lv_aload_n hx hb dX10_keeperOf_0 rfl (lv_at hl 0 rfl) ?_
  refine lv_iload_n hx hb dX10_keeperOf_1 rfl (lv_at hl 1 rfl) ?_
  obtain ⟨r_2, hc_1, hp⟩ := bn1_s hp
  refine k_ROV (As := [.int p1]) (rest := []) ⟨hx, hb, hml, hown, hts⟩ hK hP (cw_X10_18 hts ⟨Nat.le_of_ble_eq_true rfl, Nat.le_of_ble_eq_true rfl⟩) 0 (ci := 10) rfl rfl rfl (c_X10_has l D cy qvc vc p1 r_2 hc_1) rfl hl.1 (Nat.le_of_ble_eq_true rfl) ⟨Nat.le_refl _, Nat.le_refl _⟩ dX10_keeperOf_2 ?_
  refine lv_if_eq (tgt := 17) hx hb dX10_keeperOf_5 (by decide) (fun c_3 => ?_) (fun c_3 => ?_)
  · have hp := ite_p hp c_3
    refine lv_iconst (v := (-1)) hx hb dX10_keeperOf_17 (by decide) ?_
    exact e_ROi hx hb hr hk dX10_keeperOf_18 (Option.some.inj hp)
  · have hp := ite_n hp c_3
    refine lv_aload_n hx hb dX10_keeperOf_8 rfl (lv_at hl 0 rfl) ?_
    refine gf_X10_15 hx hb hts hown hK hP 0 rfl rfl dX10_keeperOf_9 ?_
    refine lv_iload_n hx hb dX10_keeperOf_12 rfl (lv_at hl 1 rfl) ?_
    obtain ⟨hi_4, hp⟩ := ckI_s hp
    refine r_ild hx hb hK hP 2 rfl hi_4 dX10_keeperOf_13 ?_
    refine lv_goto (tgt := 18) hx hb dX10_keeperOf_14 (by decide) ?_
    exact e_ROi hx hb hr hk dX10_keeperOf_18 (Option.some.inj hp)
/-! StormSlots$Vacancies.find(I)I -/
def Va_find_b2B (vc : Mem) (p1 : Int32) (k2 : Int32 → Option (Int32)) (x2 : Int32) : Option (Int32) :=
  if (vc 2 0) ≤ x2 then some (-1) else if 20 ≤ x2 then some (-1) else ckI x2 20 (if (vc 0 x2.toNatClampNeg) = p1 then some x2 else stk (x2 + 1) (fun x2_5 => k2 x2_5))
def Va_find_b2 (vc : Mem) (p1 : Int32) : Nat → Int32 → Option (Int32)
  | 0 => fun _ => none
  | n + 1 => Va_find_b2B vc p1 (Va_find_b2 vc p1 n)
def Va_find (vc : Mem) (p1 : Int32) : Option (Int32) :=
  Va_find_b2 vc p1 fl 0
set_option maxHeartbeats 4000000 in
set_option maxRecDepth 100000 in
theorem Va_find_b2B_w (C0 : cX RX10 cX10_find (some .int) 3 p s m args meth c) (hK : kN D cy s) {qvc : Nat → Nat} {vc : Mem} {p1 : Int32} {r : Int32} (hP : va_P D vwCl (w_Va cy qvc vc) s.heap) {k2 : Int32 → Option (Int32)} (hk2 : ∀ (x2 : Int32) (ls : Array Slot), lv_has ls 3 [(0, .ref (qvc 0)), (1, .int p1), (2, .int x2)] → k2 x2 = some r → W p l e (rmD 0) s m args below meth c s.heap [] 0 0 (qRO below args s r) (F0 m 2 ls [])) {x2 : Int32} {ls : Array Slot} (hl : lv_has ls 3 [(0, .ref (qvc 0)), (1, .int p1), (2, .int x2)]) (hp : Va_find_b2B vc p1 k2 x2 = some r) : W p l e (rmD 0) s m args below meth c s.heap [] 0 0 (qRO below args s r) (F0 m 2 ls []) := by
  obtain ⟨hx, hb, hr, hml, hown, hts, hk⟩ := id C0
  unfold Va_find_b2B at hp
  refine lv_iload_n hx hb dX10_find_2 rfl (lv_at hl 2 rfl) ?_
  refine lv_aload_n hx hb dX10_find_3 rfl (lv_at hl 0 rfl) ?_
  refine gf_X10_22 hx hb hts hown hK hP 0 rfl rfl dX10_find_4 ?_
  refine lv_icmp_ge (tgt := 34) hx hb dX10_find_7 (by decide) (fun c_1 => ?_) (fun c_1 => ?_)
  · have hp := ite_p hp c_1
    refine lv_iconst (v := (-1)) hx hb dX10_find_34 (by decide) ?_
    exact e_ROi hx hb hr hk dX10_find_35 (Option.some.inj hp)
  · have hp := ite_n hp c_1
    refine lv_iload_n hx hb dX10_find_10 rfl (lv_at hl 2 rfl) ?_
    refine lv_bipush (v := 20) hx hb dX10_find_11 (by decide) ?_
    refine lv_icmp_ge (tgt := 34) hx hb dX10_find_13 (by decide) (fun c_2 => ?_) (fun c_2 => ?_)
    · have hp := ite_p hp c_2
      refine lv_iconst (v := (-1)) hx hb dX10_find_34 (by decide) ?_
      exact e_ROi hx hb hr hk dX10_find_35 (Option.some.inj hp)
    · have hp := ite_n hp c_2
      refine lv_aload_n hx hb dX10_find_16 rfl (lv_at hl 0 rfl) ?_
      refine gf_X10_9 hx hb hts hown hK hP 0 rfl rfl dX10_find_17 ?_
      refine lv_iload_n hx hb dX10_find_20 rfl (lv_at hl 2 rfl) ?_
      obtain ⟨hi_3, hp⟩ := ckI_s hp
      refine r_ild hx hb hK hP 1 rfl hi_3 dX10_find_21 ?_
      refine lv_iload_n hx hb dX10_find_22 rfl (lv_at hl 1 rfl) ?_
      refine lv_icmp_ne (tgt := 28) hx hb dX10_find_23 (by decide) (fun c_4 => ?_) (fun c_4 => ?_)
      · have hp := ite_n hp c_4
        obtain ⟨x2_5, ex2_5⟩ : ∃ y : Int32, y = x2 + 1 := ⟨_, rfl⟩
        have hp := stk_e hp ex2_5
        refine lv_iinc (v := x2_5) (lv' := [(2, .int x2_5), (0, .ref (qvc 0)), (1, .int p1)]) hx hb dX10_find_28 hl (k := 2) rfl (by rw [ex2_5]; rfl) (by decide) rfl (fun ls hl => ?_)
        refine lv_goto (tgt := 2) hx hb dX10_find_31 (by decide) ?_
        exact hk2 x2_5 _ (lv_sub hl [1, 2, 0] rfl) hp
      · have hp := ite_p hp c_4
        refine lv_iload_n hx hb dX10_find_26 rfl (lv_at hl 2 rfl) ?_
        exact e_ROi hx hb hr hk dX10_find_27 (Option.some.inj hp)
theorem Va_find_b2_w (C0 : cX RX10 cX10_find (some .int) 3 p s m args meth c) (hK : kN D cy s) {qvc : Nat → Nat} {vc : Mem} {p1 : Int32} {r : Int32} (hP : va_P D vwCl (w_Va cy qvc vc) s.heap) : ∀ (n : Nat) (x2 : Int32) (ls : Array Slot), lv_has ls 3 [(0, .ref (qvc 0)), (1, .int p1), (2, .int x2)] → Va_find_b2 vc p1 n x2 = some r → W p l e (rmD 0) s m args below meth c s.heap [] 0 0 (qRO below args s r) (F0 m 2 ls []) := by
  intro n
  induction n with
  | zero =>
    intro x2 ls hl hp
    cases hp
  | succ n ih =>
    intro x2 ls hl hp
    exact Va_find_b2B_w C0 hK hP  (fun x2 ls hl hp => ih x2 ls hl hp) hl hp
set_option maxHeartbeats 4000000 in
set_option maxRecDepth 100000 in
theorem c_X10_find (l : Launch) (D : va_G) (cy : Nat → ClassId) (qvc : Nat → Nat) (vc : Mem) (p1 : Int32) (r : Int32) (hp : Va_find vc p1 = some r) : RO l yX10_find cX10_find 3 (some .int) 0 D cy [.ref (qvc 0), .int p1] (w_Va cy qvc vc) r := by
  refine RO_of RX10 rfl (by decide) (Nat.le_of_ble_eq_true rfl) ?_
  intro p e s m below meth c C0 hK hP ls hl
  obtain ⟨hx, hb, hr, hml, hown, hts, hk⟩ := id C0
  unfold Va_find at hp
  have hl : lv_has ls 3 [(0, .ref (qvc 0)), (1, .int p1)] := hl
  refine lv_iconst (v := 0) hx hb dX10_find_0 (by decide) ?_
  refine lv_istore_n (lv' := [(2, .int 0), (0, .ref (qvc 0)), (1, .int p1)]) hx hb dX10_find_1 rfl hl (by decide) rfl (fun ls hl => ?_)
  exact Va_find_b2_w C0 hK hP  fl 0 _ (lv_sub hl [1, 2, 0] rfl) hp
/-! StormSlots$Vacancies.keptBy(I)I -/
def Va_keptBy_b4B (vc : Mem) (p1 : Int32) (k4 : Int32 → Int32 → Option (Int32)) (x2 : Int32) (x3 : Int32) : Option (Int32) :=
  if (vc 2 0) ≤ x3 then some x2 else if 20 ≤ x3 then some x2 else ckI x3 20 (if (vc 1 x3.toNatClampNeg) = p1 then stk (x2 + 1) (fun x2_6 => stk (x3 + 1) (fun x3_7 => k4 x2_6 x3_7)) else stk (x3 + 1) (fun x3_5 => k4 x2 x3_5))
def Va_keptBy_b4 (vc : Mem) (p1 : Int32) : Nat → Int32 → Int32 → Option (Int32)
  | 0 => fun _ _ => none
  | n + 1 => Va_keptBy_b4B vc p1 (Va_keptBy_b4 vc p1 n)
def Va_keptBy (vc : Mem) (p1 : Int32) : Option (Int32) :=
  Va_keptBy_b4 vc p1 fl 0 0
set_option maxHeartbeats 4000000 in
set_option maxRecDepth 100000 in
theorem Va_keptBy_b4B_w (C0 : cX RX10 cX10_keptBy (some .int) 4 p s m args meth c) (hK : kN D cy s) {qvc : Nat → Nat} {vc : Mem} {p1 : Int32} {r : Int32} (hP : va_P D vwCl (w_Va cy qvc vc) s.heap) {k4 : Int32 → Int32 → Option (Int32)} (hk4 : ∀ (x2 x3 : Int32) (ls : Array Slot), lv_has ls 4 [(0, .ref (qvc 0)), (1, .int p1), (2, .int x2), (3, .int x3)] → k4 x2 x3 = some r → W p l e (rmD 0) s m args below meth c s.heap [] 0 0 (qRO below args s r) (F0 m 4 ls [])) {x2 : Int32} {x3 : Int32} {ls : Array Slot} (hl : lv_has ls 4 [(0, .ref (qvc 0)), (1, .int p1), (2, .int x2), (3, .int x3)]) (hp : Va_keptBy_b4B vc p1 k4 x2 x3 = some r) : W p l e (rmD 0) s m args below meth c s.heap [] 0 0 (qRO below args s r) (F0 m 4 ls []) := by
  obtain ⟨hx, hb, hr, hml, hown, hts, hk⟩ := id C0
  unfold Va_keptBy_b4B at hp
  refine lv_iload_n hx hb dX10_keptBy_4 rfl (lv_at hl 3 rfl) ?_
  refine lv_aload_n hx hb dX10_keptBy_5 rfl (lv_at hl 0 rfl) ?_
  refine gf_X10_22 hx hb hts hown hK hP 0 rfl rfl dX10_keptBy_6 ?_
  refine lv_icmp_ge (tgt := 37) hx hb dX10_keptBy_9 (by decide) (fun c_1 => ?_) (fun c_1 => ?_)
  · have hp := ite_p hp c_1
    refine lv_iload_n hx hb dX10_keptBy_37 rfl (lv_at hl 2 rfl) ?_
    exact e_ROi hx hb hr hk dX10_keptBy_38 (Option.some.inj hp)
  · have hp := ite_n hp c_1
    refine lv_iload_n hx hb dX10_keptBy_12 rfl (lv_at hl 3 rfl) ?_
    refine lv_bipush (v := 20) hx hb dX10_keptBy_13 (by decide) ?_
    refine lv_icmp_ge (tgt := 37) hx hb dX10_keptBy_15 (by decide) (fun c_2 => ?_) (fun c_2 => ?_)
    · have hp := ite_p hp c_2
      refine lv_iload_n hx hb dX10_keptBy_37 rfl (lv_at hl 2 rfl) ?_
      exact e_ROi hx hb hr hk dX10_keptBy_38 (Option.some.inj hp)
    · have hp := ite_n hp c_2
      refine lv_aload_n hx hb dX10_keptBy_18 rfl (lv_at hl 0 rfl) ?_
      refine gf_X10_15 hx hb hts hown hK hP 0 rfl rfl dX10_keptBy_19 ?_
      refine lv_iload_n hx hb dX10_keptBy_22 rfl (lv_at hl 3 rfl) ?_
      obtain ⟨hi_3, hp⟩ := ckI_s hp
      refine r_ild hx hb hK hP 2 rfl hi_3 dX10_keptBy_23 ?_
      refine lv_iload_n hx hb dX10_keptBy_24 rfl (lv_at hl 1 rfl) ?_
      refine lv_icmp_ne (tgt := 31) hx hb dX10_keptBy_25 (by decide) (fun c_4 => ?_) (fun c_4 => ?_)
      · have hp := ite_n hp c_4
        obtain ⟨x3_5, ex3_5⟩ : ∃ y : Int32, y = x3 + 1 := ⟨_, rfl⟩
        have hp := stk_e hp ex3_5
        refine lv_iinc (v := x3_5) (lv' := [(3, .int x3_5), (0, .ref (qvc 0)), (1, .int p1), (2, .int x2)]) hx hb dX10_keptBy_31 hl (k := 3) rfl (by rw [ex3_5]; rfl) (by decide) rfl (fun ls hl => ?_)
        refine lv_goto (tgt := 4) hx hb dX10_keptBy_34 (by decide) ?_
        exact hk4 x2 x3_5 _ (lv_sub hl [1, 2, 3, 0] rfl) hp
      · have hp := ite_p hp c_4
        obtain ⟨x2_6, ex2_6⟩ : ∃ y : Int32, y = x2 + 1 := ⟨_, rfl⟩
        have hp := stk_e hp ex2_6
        refine lv_iinc (v := x2_6) (lv' := [(2, .int x2_6), (0, .ref (qvc 0)), (1, .int p1), (3, .int x3)]) hx hb dX10_keptBy_28 hl (k := 2) rfl (by rw [ex2_6]; rfl) (by decide) rfl (fun ls hl => ?_)
        obtain ⟨x3_7, ex3_7⟩ : ∃ y : Int32, y = x3 + 1 := ⟨_, rfl⟩
        have hp := stk_e hp ex3_7
        refine lv_iinc (v := x3_7) (lv' := [(3, .int x3_7), (2, .int x2_6), (0, .ref (qvc 0)), (1, .int p1)]) hx hb dX10_keptBy_31 hl (k := 3) rfl (by rw [ex3_7]; rfl) (by decide) rfl (fun ls hl => ?_)
        refine lv_goto (tgt := 4) hx hb dX10_keptBy_34 (by decide) ?_
        exact hk4 x2_6 x3_7 _ (lv_sub hl [2, 3, 1, 0] rfl) hp
theorem Va_keptBy_b4_w (C0 : cX RX10 cX10_keptBy (some .int) 4 p s m args meth c) (hK : kN D cy s) {qvc : Nat → Nat} {vc : Mem} {p1 : Int32} {r : Int32} (hP : va_P D vwCl (w_Va cy qvc vc) s.heap) : ∀ (n : Nat) (x2 x3 : Int32) (ls : Array Slot), lv_has ls 4 [(0, .ref (qvc 0)), (1, .int p1), (2, .int x2), (3, .int x3)] → Va_keptBy_b4 vc p1 n x2 x3 = some r → W p l e (rmD 0) s m args below meth c s.heap [] 0 0 (qRO below args s r) (F0 m 4 ls []) := by
  intro n
  induction n with
  | zero =>
    intro x2 x3 ls hl hp
    cases hp
  | succ n ih =>
    intro x2 x3 ls hl hp
    exact Va_keptBy_b4B_w C0 hK hP  (fun x2 x3 ls hl hp => ih x2 x3 ls hl hp) hl hp
set_option maxHeartbeats 4000000 in
set_option maxRecDepth 100000 in
theorem c_X10_keptBy (l : Launch) (D : va_G) (cy : Nat → ClassId) (qvc : Nat → Nat) (vc : Mem) (p1 : Int32) (r : Int32) (hp : Va_keptBy vc p1 = some r) : RO l yX10_keptBy cX10_keptBy 4 (some .int) 0 D cy [.ref (qvc 0), .int p1] (w_Va cy qvc vc) r := by
  refine RO_of RX10 rfl (by decide) (Nat.le_of_ble_eq_true rfl) ?_
  intro p e s m below meth c C0 hK hP ls hl
  obtain ⟨hx, hb, hr, hml, hown, hts, hk⟩ := id C0
  unfold Va_keptBy at hp
  have hl : lv_has ls 4 [(0, .ref (qvc 0)), (1, .int p1)] := hl
  refine lv_iconst (v := 0) hx hb dX10_keptBy_0 (by decide) ?_
  refine lv_istore_n (lv' := [(2, .int 0), (0, .ref (qvc 0)), (1, .int p1)]) hx hb dX10_keptBy_1 rfl hl (by decide) rfl (fun ls hl => ?_)
  refine lv_iconst (v := 0) hx hb dX10_keptBy_2 (by decide) ?_
  refine lv_istore_n (lv' := [(3, .int 0), (2, .int 0), (0, .ref (qvc 0)), (1, .int p1)]) hx hb dX10_keptBy_3 rfl hl (by decide) rfl (fun ls hl => ?_)
  exact Va_keptBy_b4_w C0 hK hP  fl 0 0 _ (lv_sub hl [2, 3, 1, 0] rfl) hp
/-! StormSlots$Vacancies.add(II)V -/
def Va_add_b72 (p1 : Int32) (p2 : Int32) (vc : Mem) (x3 : Int32) : Option (Mem) :=
  ckI x3 20 (stk (upm vc 0 x3.toNatClampNeg p1) (fun vc_12 => stk (upm vc_12 1 x3.toNatClampNeg p2) (fun vc_13 => stk (upm vc_13 2 0 ((vc_13 2 0) + 1)) (fun vc_14 => some vc_14))))
def Va_add_b22B (p1 : Int32) (p2 : Int32) (k22 : Mem → Int32 → Option (Mem)) (vc : Mem) (x3 : Int32) : Option (Mem) :=
  if x3 ≤ 0 then Va_add_b72 p1 p2 vc x3 else ckI (x3 - 1) 20 (if (vc 0 (x3 - 1).toNatClampNeg) ≤ p1 then Va_add_b72 p1 p2 vc x3 else ckI x3 20 (stk (upm vc 0 x3.toNatClampNeg (vc 0 (x3 - 1).toNatClampNeg)) (fun vc_8 => stk (upm vc_8 1 x3.toNatClampNeg (vc_8 1 (x3 - 1).toNatClampNeg)) (fun vc_9 => stk (x3 + (-1)) (fun x3_10 => k22 vc_9 x3_10)))))
def Va_add_b22 (p1 : Int32) (p2 : Int32) : Nat → Mem → Int32 → Option (Mem)
  | 0 => fun _ _ => none
  | n + 1 => Va_add_b22B p1 p2 (Va_add_b22 p1 p2 n)
def Va_add (vc : Mem) (p1 : Int32) (p2 : Int32) : Option (Mem) :=
  if (vc 2 0) < 0 then some vc else if (vc 2 0) < 20 then stk (vc 2 0) (fun x3_3 => Va_add_b22 p1 p2 fl vc x3_3) else some vc
set_option maxHeartbeats 4000000 in
set_option maxRecDepth 100000 in
theorem Va_add_b72_w (C0 : cX RX10 cX10_add none 4 p s m args meth c) (hK : kN D cy s) {qvc : Nat → Nat} {p1 p2 : Int32} {vc' : Mem} (hA : ∀ q, s.heap.size ≤ q → A q) {vc : Mem} {x3 : Int32} {H : Heap} {locs : List Loc} (hP : va_P D vwCl (w_Va cy qvc vc) H) (hD : va_D A (w_Va cy qvc vc)) (hS : va_S A s.heap H locs) {ls : Array Slot} (hl : lv_has ls 4 [(0, .ref (qvc 0)), (1, .int p1), (2, .int p2), (3, .int x3)]) (hp : Va_add_b72 p1 p2 vc x3 = some vc') : W p l e (rmD 0) s m args below meth c H locs 0 0 (qRV D below args s A (w_Va cy qvc vc')) (F0 m 72 ls []) := by
  obtain ⟨hx, hb, hr, hml, hown, hts, hk⟩ := id C0
  unfold Va_add_b72 at hp
  refine lv_aload_n hx hb dX10_add_72 rfl (lv_at hl 0 rfl) ?_
  refine gf_X10_9 hx hb hts hown hK hP 0 rfl rfl dX10_add_73 ?_
  refine lv_iload_n hx hb dX10_add_76 rfl (lv_at hl 3 rfl) ?_
  refine lv_iload_n hx hb dX10_add_77 rfl (lv_at hl 1 rfl) ?_
  obtain ⟨hi_11, hp⟩ := ckI_s hp
  obtain ⟨vc_12, evc_12⟩ : ∃ y : Mem, y = upm vc 0 x3.toNatClampNeg p1 := ⟨_, rfl⟩
  have hp := stk_e hp evc_12
  refine r_ist hx hb hK hP hD hS (wn := (w_Va cy qvc vc_12)) 1 rfl hi_11 (by subst evc_12; rfl) dX10_add_78 (fun H locs hP hD hS => ?_)
  refine lv_aload_n hx hb dX10_add_79 rfl (lv_at hl 0 rfl) ?_
  refine gf_X10_15 hx hb hts hown hK hP 0 rfl rfl dX10_add_80 ?_
  refine lv_iload_n hx hb dX10_add_83 rfl (lv_at hl 3 rfl) ?_
  refine lv_iload_n hx hb dX10_add_84 rfl (lv_at hl 2 rfl) ?_
  obtain ⟨vc_13, evc_13⟩ : ∃ y : Mem, y = upm vc_12 1 x3.toNatClampNeg p2 := ⟨_, rfl⟩
  have hp := stk_e hp evc_13
  refine r_ist hx hb hK hP hD hS (wn := (w_Va cy qvc vc_13)) 2 rfl hi_11 (by subst evc_13; rfl) dX10_add_85 (fun H locs hP hD hS => ?_)
  refine lv_aload_n hx hb dX10_add_86 rfl (lv_at hl 0 rfl) ?_
  refine lv_dup hx hb dX10_add_87 rfl ?_
  refine gf_X10_22 hx hb hts hown hK hP 0 rfl rfl dX10_add_88 ?_
  refine lv_iconst (v := 1) hx hb dX10_add_91 (by decide) ?_
  refine lv_iadd hx hb dX10_add_92 ?_
  obtain ⟨vc_14, evc_14⟩ : ∃ y : Mem, y = upm vc_13 2 0 ((vc_13 2 0) + 1) := ⟨_, rfl⟩
  have hp := stk_e hp evc_14
  refine pf_X10_22 hx hb hts hown hK hP hD hS (wn := (w_Va cy qvc vc_14)) 0 rfl (Nat.le_of_ble_eq_true rfl) (by subst evc_14; rfl) dX10_add_93 (fun H locs hP hD hS => ?_)
  simp only [Option.some.injEq, Prod.mk.injEq] at hp
  subst hp
  exact e_RV hx hb hr hk hP hD hS dX10_add_96
set_option maxHeartbeats 4000000 in
set_option maxRecDepth 100000 in
theorem Va_add_b22B_w (C0 : cX RX10 cX10_add none 4 p s m args meth c) (hK : kN D cy s) {qvc : Nat → Nat} {p1 p2 : Int32} {vc' : Mem} (hA : ∀ q, s.heap.size ≤ q → A q) {k22 : Mem → Int32 → Option (Mem)} (hk22 : ∀ (vc : Mem) (x3 : Int32) (H : Heap) (locs : List Loc) (ls : Array Slot), va_P D vwCl (w_Va cy qvc vc) H → va_D A (w_Va cy qvc vc) → va_S A s.heap H locs → lv_has ls 4 [(0, .ref (qvc 0)), (1, .int p1), (2, .int p2), (3, .int x3)] → k22 vc x3 = some vc' → W p l e (rmD 0) s m args below meth c H locs 0 0 (qRV D below args s A (w_Va cy qvc vc')) (F0 m 22 ls [])) {vc : Mem} {x3 : Int32} {H : Heap} {locs : List Loc} (hP : va_P D vwCl (w_Va cy qvc vc) H) (hD : va_D A (w_Va cy qvc vc)) (hS : va_S A s.heap H locs) {ls : Array Slot} (hl : lv_has ls 4 [(0, .ref (qvc 0)), (1, .int p1), (2, .int p2), (3, .int x3)]) (hp : Va_add_b22B p1 p2 k22 vc x3 = some vc') : W p l e (rmD 0) s m args below meth c H locs 0 0 (qRV D below args s A (w_Va cy qvc vc')) (F0 m 22 ls []) := by
  obtain ⟨hx, hb, hr, hml, hown, hts, hk⟩ := id C0
  unfold Va_add_b22B at hp
  refine lv_iload_n hx hb dX10_add_22 rfl (lv_at hl 3 rfl) ?_
  refine lv_if_le (tgt := 72) hx hb dX10_add_23 (by decide) (fun c_4 => ?_) (fun c_4 => ?_)
  · have hp := ite_p hp c_4
    exact Va_add_b72_w C0 hK hA  hP hD hS hl hp
  · have hp := ite_n hp c_4
    refine lv_aload_n hx hb dX10_add_26 rfl (lv_at hl 0 rfl) ?_
    refine gf_X10_9 hx hb hts hown hK hP 0 rfl rfl dX10_add_27 ?_
    refine lv_iload_n hx hb dX10_add_30 rfl (lv_at hl 3 rfl) ?_
    refine lv_iconst (v := 1) hx hb dX10_add_31 (by decide) ?_
    refine lv_isub hx hb dX10_add_32 ?_
    obtain ⟨hi_5, hp⟩ := ckI_s hp
    refine r_ild hx hb hK hP 1 rfl hi_5 dX10_add_33 ?_
    refine lv_iload_n hx hb dX10_add_34 rfl (lv_at hl 1 rfl) ?_
    refine lv_icmp_le (tgt := 72) hx hb dX10_add_35 (by decide) (fun c_6 => ?_) (fun c_6 => ?_)
    · have hp := ite_p hp c_6
      exact Va_add_b72_w C0 hK hA  hP hD hS hl hp
    · have hp := ite_n hp c_6
      refine lv_aload_n hx hb dX10_add_38 rfl (lv_at hl 0 rfl) ?_
      refine gf_X10_9 hx hb hts hown hK hP 0 rfl rfl dX10_add_39 ?_
      refine lv_iload_n hx hb dX10_add_42 rfl (lv_at hl 3 rfl) ?_
      refine lv_aload_n hx hb dX10_add_43 rfl (lv_at hl 0 rfl) ?_
      refine gf_X10_9 hx hb hts hown hK hP 0 rfl rfl dX10_add_44 ?_
      refine lv_iload_n hx hb dX10_add_47 rfl (lv_at hl 3 rfl) ?_
      refine lv_iconst (v := 1) hx hb dX10_add_48 (by decide) ?_
      refine lv_isub hx hb dX10_add_49 ?_
      refine r_ild hx hb hK hP 1 rfl hi_5 dX10_add_50 ?_
      obtain ⟨hi_7, hp⟩ := ckI_s hp
      obtain ⟨vc_8, evc_8⟩ : ∃ y : Mem, y = upm vc 0 x3.toNatClampNeg (vc 0 (x3 - 1).toNatClampNeg) := ⟨_, rfl⟩
      have hp := stk_e hp evc_8
      refine r_ist hx hb hK hP hD hS (wn := (w_Va cy qvc vc_8)) 1 rfl hi_7 (by subst evc_8; rfl) dX10_add_51 (fun H locs hP hD hS => ?_)
      refine lv_aload_n hx hb dX10_add_52 rfl (lv_at hl 0 rfl) ?_
      refine gf_X10_15 hx hb hts hown hK hP 0 rfl rfl dX10_add_53 ?_
      refine lv_iload_n hx hb dX10_add_56 rfl (lv_at hl 3 rfl) ?_
      refine lv_aload_n hx hb dX10_add_57 rfl (lv_at hl 0 rfl) ?_
      refine gf_X10_15 hx hb hts hown hK hP 0 rfl rfl dX10_add_58 ?_
      refine lv_iload_n hx hb dX10_add_61 rfl (lv_at hl 3 rfl) ?_
      refine lv_iconst (v := 1) hx hb dX10_add_62 (by decide) ?_
      refine lv_isub hx hb dX10_add_63 ?_
      refine r_ild hx hb hK hP 2 rfl hi_5 dX10_add_64 ?_
      obtain ⟨vc_9, evc_9⟩ : ∃ y : Mem, y = upm vc_8 1 x3.toNatClampNeg (vc_8 1 (x3 - 1).toNatClampNeg) := ⟨_, rfl⟩
      have hp := stk_e hp evc_9
      refine r_ist hx hb hK hP hD hS (wn := (w_Va cy qvc vc_9)) 2 rfl hi_7 (by subst evc_9; rfl) dX10_add_65 (fun H locs hP hD hS => ?_)
      obtain ⟨x3_10, ex3_10⟩ : ∃ y : Int32, y = x3 + (-1) := ⟨_, rfl⟩
      have hp := stk_e hp ex3_10
      refine lv_iinc (v := x3_10) (lv' := [(3, .int x3_10), (0, .ref (qvc 0)), (1, .int p1), (2, .int p2)]) hx hb dX10_add_66 hl (k := 3) rfl (by rw [ex3_10]; rfl) (by decide) rfl (fun ls hl => ?_)
      refine lv_goto (tgt := 22) hx hb dX10_add_69 (by decide) ?_
      exact hk22 vc_9 x3_10 _ _ _ hP hD hS (lv_sub hl [1, 2, 3, 0] rfl) hp
theorem Va_add_b22_w (C0 : cX RX10 cX10_add none 4 p s m args meth c) (hK : kN D cy s) {qvc : Nat → Nat} {p1 p2 : Int32} {vc' : Mem} (hA : ∀ q, s.heap.size ≤ q → A q) : ∀ (n : Nat) (vc : Mem) (x3 : Int32) (H : Heap) (locs : List Loc) (ls : Array Slot), va_P D vwCl (w_Va cy qvc vc) H → va_D A (w_Va cy qvc vc) → va_S A s.heap H locs → lv_has ls 4 [(0, .ref (qvc 0)), (1, .int p1), (2, .int p2), (3, .int x3)] → Va_add_b22 p1 p2 n vc x3 = some vc' → W p l e (rmD 0) s m args below meth c H locs 0 0 (qRV D below args s A (w_Va cy qvc vc')) (F0 m 22 ls []) := by
  intro n
  induction n with
  | zero =>
    intro vc x3 H locs ls hP hD hS hl hp
    cases hp
  | succ n ih =>
    intro vc x3 H locs ls hP hD hS hl hp
    exact Va_add_b22B_w C0 hK hA  (fun vc x3 H locs ls hP hD hS hl hp => ih vc x3 H locs ls hP hD hS hl hp) hP hD hS hl hp
set_option maxHeartbeats 4000000 in
set_option maxRecDepth 100000 in
theorem c_X10_add (l : Launch) (D : va_G) (cy : Nat → ClassId) (qvc : Nat → Nat) (vc : Mem) (p1 p2 : Int32) (vc' : Mem) (hp : Va_add vc p1 p2 = some vc') : RV l yX10_add cX10_add 4 0 D cy [.ref (qvc 0), .int p1, .int p2] (w_Va cy qvc vc) (w_Va cy qvc vc') := by
  refine RV_of RX10 rfl (by decide) (Nat.le_of_ble_eq_true rfl) ?_
  intro p e s m below meth c A C0 hK hP hD hS hA ls hl
  obtain ⟨hx, hb, hr, hml, hown, hts, hk⟩ := id C0
  unfold Va_add at hp
  have hl : lv_has ls 4 [(0, .ref (qvc 0)), (1, .int p1), (2, .int p2)] := hl
  refine lv_aload_n hx hb dX10_add_0 rfl (lv_at hl 0 rfl) ?_
  refine gf_X10_22 hx hb hts hown hK hP 0 rfl rfl dX10_add_1 ?_
  refine lv_if_lt (tgt := 16) hx hb dX10_add_4 (by decide) (fun c_1 => ?_) (fun c_1 => ?_)
  · have hp := ite_p hp c_1
    simp only [Option.some.injEq, Prod.mk.injEq] at hp
    subst hp
    exact e_RV hx hb hr hk hP hD hS dX10_add_16
  · have hp := ite_n hp c_1
    refine lv_aload_n hx hb dX10_add_7 rfl (lv_at hl 0 rfl) ?_
    refine gf_X10_22 hx hb hts hown hK hP 0 rfl rfl dX10_add_8 ?_
    refine lv_bipush (v := 20) hx hb dX10_add_11 (by decide) ?_
    refine lv_icmp_lt (tgt := 17) hx hb dX10_add_13 (by decide) (fun c_2 => ?_) (fun c_2 => ?_)
    · have hp := ite_p hp c_2
      refine lv_aload_n hx hb dX10_add_17 rfl (lv_at hl 0 rfl) ?_
      refine gf_X10_22 hx hb hts hown hK hP 0 rfl rfl dX10_add_18 ?_
      refine lv_topi (fun x3_3 ex3_3 => ?_)
      have hp := stk_e hp ex3_3
      refine lv_istore_n (lv' := [(3, .int x3_3), (0, .ref (qvc 0)), (1, .int p1), (2, .int p2)]) hx hb dX10_add_21 rfl hl (by decide) rfl (fun ls hl => ?_)
      exact Va_add_b22_w C0 hK hA  fl vc x3_3 _ _ _ hP hD hS (lv_sub hl [1, 2, 3, 0] rfl) hp
    · have hp := ite_n hp c_2
      simp only [Option.some.injEq, Prod.mk.injEq] at hp
      subst hp
      exact e_RV hx hb hr hk hP hD hS dX10_add_16
/-! StormSlots$Vacancies.removeAt(I)V -/
def Va_removeAt_b63 (p1 : Int32) (vc : Mem) : Option (Mem) :=
  stk (upm vc 2 0 ((vc 2 0) - 1)) (fun vc_11 => some vc_11)
def Va_removeAt_b11B (p1 : Int32) (k11 : Mem → Int32 → Option (Mem)) (vc : Mem) (x2 : Int32) : Option (Mem) :=
  if (vc 2 0) ≤ (x2 + 1) then Va_removeAt_b63 p1 vc else if 20 ≤ (x2 + 1) then Va_removeAt_b63 p1 vc else ckI (x2 + 1) 20 (ckI x2 20 (stk (upm vc 0 x2.toNatClampNeg (vc 0 (x2 + 1).toNatClampNeg)) (fun vc_8 => stk (upm vc_8 1 x2.toNatClampNeg (vc_8 1 (x2 + 1).toNatClampNeg)) (fun vc_9 => stk (x2 + 1) (fun x2_10 => k11 vc_9 x2_10)))))
def Va_removeAt_b11 (p1 : Int32) : Nat → Mem → Int32 → Option (Mem)
  | 0 => fun _ _ => none
  | n + 1 => Va_removeAt_b11B p1 (Va_removeAt_b11 p1 n)
def Va_removeAt (vc : Mem) (p1 : Int32) : Option (Mem) :=
  bn1 (Va_has vc p1) (fun r_2 => if r_2 = 0 then some vc else Va_removeAt_b11 p1 fl vc p1)
set_option maxHeartbeats 4000000 in
set_option maxRecDepth 100000 in
theorem Va_removeAt_b63_w (C0 : cX RX10 cX10_removeAt none 3 p s m args meth c) (hK : kN D cy s) {qvc : Nat → Nat} {p1 : Int32} {vc' : Mem} (hA : ∀ q, s.heap.size ≤ q → A q) {vc : Mem} {H : Heap} {locs : List Loc} (hP : va_P D vwCl (w_Va cy qvc vc) H) (hD : va_D A (w_Va cy qvc vc)) (hS : va_S A s.heap H locs) {ls : Array Slot} (hl : lv_has ls 3 [(0, .ref (qvc 0)), (1, .int p1)]) (hp : Va_removeAt_b63 p1 vc = some vc') : W p l e (rmD 1) s m args below meth c H locs 0 0 (qRV D below args s A (w_Va cy qvc vc')) (F0 m 63 ls []) := by
  obtain ⟨hx, hb, hr, hml, hown, hts, hk⟩ := id C0
  unfold Va_removeAt_b63 at hp
  refine lv_aload_n hx hb dX10_removeAt_63 rfl (lv_at hl 0 rfl) ?_
  refine lv_dup hx hb dX10_removeAt_64 rfl ?_
  refine gf_X10_22 hx hb hts hown hK hP 0 rfl rfl dX10_removeAt_65 ?_
  refine lv_iconst (v := 1) hx hb dX10_removeAt_68 (by decide) ?_
  refine lv_isub hx hb dX10_removeAt_69 ?_
  obtain ⟨vc_11, evc_11⟩ : ∃ y : Mem, y = upm vc 2 0 ((vc 2 0) - 1) := ⟨_, rfl⟩
  have hp := stk_e hp evc_11
  refine pf_X10_22 hx hb hts hown hK hP hD hS (wn := (w_Va cy qvc vc_11)) 0 rfl (Nat.le_of_ble_eq_true rfl) (by subst evc_11; rfl) dX10_removeAt_70 (fun H locs hP hD hS => ?_)
  simp only [Option.some.injEq, Prod.mk.injEq] at hp
  subst hp
  exact e_RV hx hb hr hk hP hD hS dX10_removeAt_73
set_option maxHeartbeats 4000000 in
set_option maxRecDepth 100000 in
theorem Va_removeAt_b11B_w (C0 : cX RX10 cX10_removeAt none 3 p s m args meth c) (hK : kN D cy s) {qvc : Nat → Nat} {p1 : Int32} {vc' : Mem} (hA : ∀ q, s.heap.size ≤ q → A q) {k11 : Mem → Int32 → Option (Mem)} (hk11 : ∀ (vc : Mem) (x2 : Int32) (H : Heap) (locs : List Loc) (ls : Array Slot), va_P D vwCl (w_Va cy qvc vc) H → va_D A (w_Va cy qvc vc) → va_S A s.heap H locs → lv_has ls 3 [(0, .ref (qvc 0)), (1, .int p1), (2, .int x2)] → k11 vc x2 = some vc' → W p l e (rmD 1) s m args below meth c H locs 0 0 (qRV D below args s A (w_Va cy qvc vc')) (F0 m 11 ls [])) {vc : Mem} {x2 : Int32} {H : Heap} {locs : List Loc} (hP : va_P D vwCl (w_Va cy qvc vc) H) (hD : va_D A (w_Va cy qvc vc)) (hS : va_S A s.heap H locs) {ls : Array Slot} (hl : lv_has ls 3 [(0, .ref (qvc 0)), (1, .int p1), (2, .int x2)]) (hp : Va_removeAt_b11B p1 k11 vc x2 = some vc') : W p l e (rmD 1) s m args below meth c H locs 0 0 (qRV D below args s A (w_Va cy qvc vc')) (F0 m 11 ls []) := by
  obtain ⟨hx, hb, hr, hml, hown, hts, hk⟩ := id C0
  unfold Va_removeAt_b11B at hp
  refine lv_iload_n hx hb dX10_removeAt_11 rfl (lv_at hl 2 rfl) ?_
  refine lv_iconst (v := 1) hx hb dX10_removeAt_12 (by decide) ?_
  refine lv_iadd hx hb dX10_removeAt_13 ?_
  refine lv_aload_n hx hb dX10_removeAt_14 rfl (lv_at hl 0 rfl) ?_
  refine gf_X10_22 hx hb hts hown hK hP 0 rfl rfl dX10_removeAt_15 ?_
  refine lv_icmp_ge (tgt := 63) hx hb dX10_removeAt_18 (by decide) (fun c_4 => ?_) (fun c_4 => ?_)
  · have hp := ite_p hp c_4
    exact Va_removeAt_b63_w C0 hK hA  hP hD hS (lv_sub hl [0, 1] rfl) hp
  · have hp := ite_n hp c_4
    refine lv_iload_n hx hb dX10_removeAt_21 rfl (lv_at hl 2 rfl) ?_
    refine lv_iconst (v := 1) hx hb dX10_removeAt_22 (by decide) ?_
    refine lv_iadd hx hb dX10_removeAt_23 ?_
    refine lv_bipush (v := 20) hx hb dX10_removeAt_24 (by decide) ?_
    refine lv_icmp_ge (tgt := 63) hx hb dX10_removeAt_26 (by decide) (fun c_5 => ?_) (fun c_5 => ?_)
    · have hp := ite_p hp c_5
      exact Va_removeAt_b63_w C0 hK hA  hP hD hS (lv_sub hl [0, 1] rfl) hp
    · have hp := ite_n hp c_5
      refine lv_aload_n hx hb dX10_removeAt_29 rfl (lv_at hl 0 rfl) ?_
      refine gf_X10_9 hx hb hts hown hK hP 0 rfl rfl dX10_removeAt_30 ?_
      refine lv_iload_n hx hb dX10_removeAt_33 rfl (lv_at hl 2 rfl) ?_
      refine lv_aload_n hx hb dX10_removeAt_34 rfl (lv_at hl 0 rfl) ?_
      refine gf_X10_9 hx hb hts hown hK hP 0 rfl rfl dX10_removeAt_35 ?_
      refine lv_iload_n hx hb dX10_removeAt_38 rfl (lv_at hl 2 rfl) ?_
      refine lv_iconst (v := 1) hx hb dX10_removeAt_39 (by decide) ?_
      refine lv_iadd hx hb dX10_removeAt_40 ?_
      obtain ⟨hi_6, hp⟩ := ckI_s hp
      refine r_ild hx hb hK hP 1 rfl hi_6 dX10_removeAt_41 ?_
      obtain ⟨hi_7, hp⟩ := ckI_s hp
      obtain ⟨vc_8, evc_8⟩ : ∃ y : Mem, y = upm vc 0 x2.toNatClampNeg (vc 0 (x2 + 1).toNatClampNeg) := ⟨_, rfl⟩
      have hp := stk_e hp evc_8
      refine r_ist hx hb hK hP hD hS (wn := (w_Va cy qvc vc_8)) 1 rfl hi_7 (by subst evc_8; rfl) dX10_removeAt_42 (fun H locs hP hD hS => ?_)
      refine lv_aload_n hx hb dX10_removeAt_43 rfl (lv_at hl 0 rfl) ?_
      refine gf_X10_15 hx hb hts hown hK hP 0 rfl rfl dX10_removeAt_44 ?_
      refine lv_iload_n hx hb dX10_removeAt_47 rfl (lv_at hl 2 rfl) ?_
      refine lv_aload_n hx hb dX10_removeAt_48 rfl (lv_at hl 0 rfl) ?_
      refine gf_X10_15 hx hb hts hown hK hP 0 rfl rfl dX10_removeAt_49 ?_
      refine lv_iload_n hx hb dX10_removeAt_52 rfl (lv_at hl 2 rfl) ?_
      refine lv_iconst (v := 1) hx hb dX10_removeAt_53 (by decide) ?_
      refine lv_iadd hx hb dX10_removeAt_54 ?_
      refine r_ild hx hb hK hP 2 rfl hi_6 dX10_removeAt_55 ?_
      obtain ⟨vc_9, evc_9⟩ : ∃ y : Mem, y = upm vc_8 1 x2.toNatClampNeg (vc_8 1 (x2 + 1).toNatClampNeg) := ⟨_, rfl⟩
      have hp := stk_e hp evc_9
      refine r_ist hx hb hK hP hD hS (wn := (w_Va cy qvc vc_9)) 2 rfl hi_7 (by subst evc_9; rfl) dX10_removeAt_56 (fun H locs hP hD hS => ?_)
      obtain ⟨x2_10, ex2_10⟩ : ∃ y : Int32, y = x2 + 1 := ⟨_, rfl⟩
      have hp := stk_e hp ex2_10
      refine lv_iinc (v := x2_10) (lv' := [(2, .int x2_10), (0, .ref (qvc 0)), (1, .int p1)]) hx hb dX10_removeAt_57 hl (k := 2) rfl (by rw [ex2_10]; rfl) (by decide) rfl (fun ls hl => ?_)
      refine lv_goto (tgt := 11) hx hb dX10_removeAt_60 (by decide) ?_
      exact hk11 vc_9 x2_10 _ _ _ hP hD hS (lv_sub hl [1, 2, 0] rfl) hp
theorem Va_removeAt_b11_w (C0 : cX RX10 cX10_removeAt none 3 p s m args meth c) (hK : kN D cy s) {qvc : Nat → Nat} {p1 : Int32} {vc' : Mem} (hA : ∀ q, s.heap.size ≤ q → A q) : ∀ (n : Nat) (vc : Mem) (x2 : Int32) (H : Heap) (locs : List Loc) (ls : Array Slot), va_P D vwCl (w_Va cy qvc vc) H → va_D A (w_Va cy qvc vc) → va_S A s.heap H locs → lv_has ls 3 [(0, .ref (qvc 0)), (1, .int p1), (2, .int x2)] → Va_removeAt_b11 p1 n vc x2 = some vc' → W p l e (rmD 1) s m args below meth c H locs 0 0 (qRV D below args s A (w_Va cy qvc vc')) (F0 m 11 ls []) := by
  intro n
  induction n with
  | zero =>
    intro vc x2 H locs ls hP hD hS hl hp
    cases hp
  | succ n ih =>
    intro vc x2 H locs ls hP hD hS hl hp
    exact Va_removeAt_b11B_w C0 hK hA  (fun vc x2 H locs ls hP hD hS hl hp => ih vc x2 H locs ls hP hD hS hl hp) hP hD hS hl hp
set_option maxHeartbeats 4000000 in
set_option maxRecDepth 100000 in
theorem c_X10_removeAt (l : Launch) (D : va_G) (cy : Nat → ClassId) (qvc : Nat → Nat) (vc : Mem) (p1 : Int32) (vc' : Mem) (hp : Va_removeAt vc p1 = some vc') : RV l yX10_removeAt cX10_removeAt 3 1 D cy [.ref (qvc 0), .int p1] (w_Va cy qvc vc) (w_Va cy qvc vc') := by
  refine RV_of RX10 rfl (by decide) (Nat.le_of_ble_eq_true rfl) ?_
  intro p e s m below meth c A C0 hK hP hD hS hA ls hl
  obtain ⟨hx, hb, hr, hml, hown, hts, hk⟩ := id C0
  unfold Va_removeAt at hp
  have hl : lv_has ls 3 [(0, .ref (qvc 0)), (1, .int p1)] := hl
  refine lv_aload_n hx hb dX10_removeAt_0 rfl (lv_at hl 0 rfl) ?_
  refine lv_iload_n hx hb dX10_removeAt_1 rfl (lv_at hl 1 rfl) ?_
  obtain ⟨r_2, hc_1, hp⟩ := bn1_s hp
  refine k_ROV (As := [.int p1]) (rest := []) ⟨hx, hb, hml, hown, hts⟩ hK hP (cw_X10_18 hts ⟨Nat.le_of_ble_eq_true rfl, Nat.le_of_ble_eq_true rfl⟩) 0 (ci := 10) rfl rfl rfl (c_X10_has l D cy qvc vc p1 r_2 hc_1) rfl hl.1 (Nat.le_of_ble_eq_true rfl) ⟨Nat.le_refl _, Nat.le_refl _⟩ dX10_removeAt_2 ?_
  refine lv_if_ne (tgt := 9) hx hb dX10_removeAt_5 (by decide) (fun c_3 => ?_) (fun c_3 => ?_)
  · have hp := ite_n hp c_3
    refine lv_iload_n hx hb dX10_removeAt_9 rfl (lv_at hl 1 rfl) ?_
    refine lv_istore_n (lv' := [(2, .int p1), (0, .ref (qvc 0)), (1, .int p1)]) hx hb dX10_removeAt_10 rfl hl (by decide) rfl (fun ls hl => ?_)
    exact Va_removeAt_b11_w C0 hK hA  fl vc p1 _ _ _ hP hD hS (lv_sub hl [1, 2, 0] rfl) hp
  · have hp := ite_p hp c_3
    simp only [Option.some.injEq, Prod.mk.injEq] at hp
    subst hp
    exact e_RV hx hb hr hk hP hD hS dX10_removeAt_8
/-! StormSlots$Vacancies.copyFrom(LStormSlots$Vacancies;)V -/
def Va_copyFrom (vc : Mem) (vc2 : Mem) : Option (Mem) :=
  stk (upA vc 0 (va_cpy (vc2 0) (vc 0) (0 : Int32).toNatClampNeg (0 : Int32).toNatClampNeg (20 : Int32).toNatClampNeg)) (fun vc_1 => stk (upA vc_1 1 (va_cpy (vc2 1) (vc_1 1) (0 : Int32).toNatClampNeg (0 : Int32).toNatClampNeg (20 : Int32).toNatClampNeg)) (fun vc_2 => stk (upm vc_2 2 0 (vc2 2 0)) (fun vc_3 => some vc_3)))
set_option maxHeartbeats 4000000 in
set_option maxRecDepth 100000 in
theorem c_X10_copyFrom (l : Launch) (D : va_G) (cy : Nat → ClassId) (qvc qvc2 : Nat → Nat) (vc vc2 : Mem) (vc' : Mem) (hp : Va_copyFrom vc vc2 = some vc') : RV l yX10_copyFrom cX10_copyFrom 2 1 D cy [.ref (qvc 0), .ref (qvc2 0)] (w_VaVa cy qvc qvc2 vc vc2) (w_VaVa cy qvc qvc2 vc' vc2) := by
  refine RV_of RX10 rfl (by decide) (Nat.le_of_ble_eq_true rfl) ?_
  intro p e s m below meth c A C0 hK hP hD hS hA ls hl
  obtain ⟨hx, hb, hr, hml, hown, hts, hk⟩ := id C0
  unfold Va_copyFrom at hp
  have hl : lv_has ls 2 [(0, .ref (qvc 0)), (1, .ref (qvc2 0))] := hl
  refine lv_aload_n hx hb dX10_copyFrom_0 rfl (lv_at hl 1 rfl) ?_
  refine gf_X10_9 hx hb hts hown hK hP 3 rfl rfl dX10_copyFrom_1 ?_
  refine lv_iconst (v := 0) hx hb dX10_copyFrom_4 (by decide) ?_
  refine lv_aload_n hx hb dX10_copyFrom_5 rfl (lv_at hl 0 rfl) ?_
  refine gf_X10_9 hx hb hts hown hK hP 0 rfl rfl dX10_copyFrom_6 ?_
  refine lv_iconst (v := 0) hx hb dX10_copyFrom_9 (by decide) ?_
  refine lv_bipush (v := 20) hx hb dX10_copyFrom_10 (by decide) ?_
  obtain ⟨vc_1, evc_1⟩ : ∃ y : Mem, y = upA vc 0 (va_cpy (vc2 0) (vc 0) (0 : Int32).toNatClampNeg (0 : Int32).toNatClampNeg (20 : Int32).toNatClampNeg) := ⟨_, rfl⟩
  have hp := stk_e hp evc_1
  refine ac_X10_26 hx hb (by rw [hml]; exact hl.1.symm) hts hown hK hP hD hS (wn := (w_VaVa cy qvc qvc2 vc_1 vc2)) 4 1 rfl rfl (by decide) (by decide) (by decide) (Nat.le_of_ble_eq_true rfl) (by decide) (by subst evc_1; rfl) dX10_copyFrom_12 (fun H locs hP hD hS => ?_)
  refine lv_aload_n hx hb dX10_copyFrom_15 rfl (lv_at hl 1 rfl) ?_
  refine gf_X10_15 hx hb hts hown hK hP 3 rfl rfl dX10_copyFrom_16 ?_
  refine lv_iconst (v := 0) hx hb dX10_copyFrom_19 (by decide) ?_
  refine lv_aload_n hx hb dX10_copyFrom_20 rfl (lv_at hl 0 rfl) ?_
  refine gf_X10_15 hx hb hts hown hK hP 0 rfl rfl dX10_copyFrom_21 ?_
  refine lv_iconst (v := 0) hx hb dX10_copyFrom_24 (by decide) ?_
  refine lv_bipush (v := 20) hx hb dX10_copyFrom_25 (by decide) ?_
  obtain ⟨vc_2, evc_2⟩ : ∃ y : Mem, y = upA vc_1 1 (va_cpy (vc2 1) (vc_1 1) (0 : Int32).toNatClampNeg (0 : Int32).toNatClampNeg (20 : Int32).toNatClampNeg) := ⟨_, rfl⟩
  have hp := stk_e hp evc_2
  refine ac_X10_26 hx hb (by rw [hml]; exact hl.1.symm) hts hown hK hP hD hS (wn := (w_VaVa cy qvc qvc2 vc_2 vc2)) 5 2 rfl rfl (by decide) (by decide) (by decide) (Nat.le_of_ble_eq_true rfl) (by decide) (by subst evc_2; rfl) dX10_copyFrom_27 (fun H locs hP hD hS => ?_)
  refine lv_aload_n hx hb dX10_copyFrom_30 rfl (lv_at hl 0 rfl) ?_
  refine lv_aload_n hx hb dX10_copyFrom_31 rfl (lv_at hl 1 rfl) ?_
  refine gf_X10_22 hx hb hts hown hK hP 3 rfl rfl dX10_copyFrom_32 ?_
  obtain ⟨vc_3, evc_3⟩ : ∃ y : Mem, y = upm vc_2 2 0 (vc2 2 0) := ⟨_, rfl⟩
  have hp := stk_e hp evc_3
  refine pf_X10_22 hx hb hts hown hK hP hD hS (wn := (w_VaVa cy qvc qvc2 vc_3 vc2)) 0 rfl (Nat.le_of_ble_eq_true rfl) (by subst evc_3; rfl) dX10_copyFrom_35 (fun H locs hP hD hS => ?_)
  simp only [Option.some.injEq, Prod.mk.injEq] at hp
  subst hp
  exact e_RV hx hb hr hk hP hD hS dX10_copyFrom_38
/-! StormSlots.isLine(I)Z -/
def St_isLine (p0 : Int32) : Option (Int32) :=
  if p0 < 0 then some 0 else if 5 ≤ p0 then some 0 else some 1
set_option maxHeartbeats 4000000 in
set_option maxRecDepth 100000 in
theorem c_X11_isLine (l : Launch) (D : va_G) (cy : Nat → ClassId) (p0 : Int32) (r : Int32) (hp : St_isLine p0 = some r) : RO l yX11_isLine cX11_isLine 1 (some .boolean) 0 D cy [.int p0] [] r := by
  refine RO_of RX11 rfl (by decide) (Nat.le_of_ble_eq_true rfl) ?_
  intro p e s m below meth c C0 hK hP ls hl
  obtain ⟨hx, hb, hr, hml, hown, hts, hk⟩ := id C0
  unfold St_isLine at hp
  have hl : lv_has ls 1 [(0, .int p0)] := hl
  refine lv_iload_n hx hb dX11_isLine_0 rfl (lv_at hl 0 rfl) ?_
  refine lv_if_lt (tgt := 13) hx hb dX11_isLine_1 (by decide) (fun c_1 => ?_) (fun c_1 => ?_)
  · have hp := ite_p hp c_1
    refine lv_iconst (v := 0) hx hb dX11_isLine_13 (by decide) ?_
    exact e_ROz hx hb hr hk (Or.inl rfl) dX11_isLine_14 (Option.some.inj hp)
  · have hp := ite_n hp c_1
    refine lv_iload_n hx hb dX11_isLine_4 rfl (lv_at hl 0 rfl) ?_
    refine lv_iconst (v := 5) hx hb dX11_isLine_5 (by decide) ?_
    refine lv_icmp_ge (tgt := 13) hx hb dX11_isLine_6 (by decide) (fun c_2 => ?_) (fun c_2 => ?_)
    · have hp := ite_p hp c_2
      refine lv_iconst (v := 0) hx hb dX11_isLine_13 (by decide) ?_
      exact e_ROz hx hb hr hk (Or.inl rfl) dX11_isLine_14 (Option.some.inj hp)
    · have hp := ite_n hp c_2
      refine lv_iconst (v := 1) hx hb dX11_isLine_9 (by decide) ?_
      refine lv_goto (tgt := 14) hx hb dX11_isLine_10 (by decide) ?_
      exact e_ROz hx hb hr hk (Or.inr rfl) dX11_isLine_14 (Option.some.inj hp)
/-! StormSlots.areHours(II)Z -/
def St_areHours (p0 : Int32) (p1 : Int32) : Option (Int32) :=
  bn1 (St_isHour p0) (fun r_2 => if r_2 = 0 then some 0 else bn1 (St_isHour p1) (fun r_5 => if r_5 = 0 then some 0 else if p1 < p0 then some 0 else some 1))
set_option maxHeartbeats 4000000 in
set_option maxRecDepth 100000 in
theorem c_X11_areHours (l : Launch) (D : va_G) (cy : Nat → ClassId) (p0 p1 : Int32) (r : Int32) (hp : St_areHours p0 p1 = some r) : RO l yX11_areHours cX11_areHours 2 (some .boolean) 1 D cy [.int p0, .int p1] [] r := by
  refine RO_of RX11 rfl (by decide) (Nat.le_of_ble_eq_true rfl) ?_
  intro p e s m below meth c C0 hK hP ls hl
  obtain ⟨hx, hb, hr, hml, hown, hts, hk⟩ := id C0
  unfold St_areHours at hp
  have hl : lv_has ls 2 [(0, .int p0), (1, .int p1)] := hl
  refine lv_iload_n hx hb dX11_areHours_0 rfl (lv_at hl 0 rfl) ?_
  obtain ⟨r_2, hc_1, hp⟩ := bn1_s hp
  refine k_ROS (As := [.int p0]) (rest := []) ⟨hx, hb, hml, hown, hts⟩ hK (show va_P D vwCl [] _ from fun k q h => by simp at h) (cw_X11_119 hts ⟨Nat.le_of_ble_eq_true rfl, Nat.le_of_ble_eq_true rfl⟩) (c_X11_isHour l D cy p0 r_2 hc_1) rfl hl.1 (Nat.le_of_ble_eq_true rfl) ⟨Nat.le_refl _, Nat.le_refl _⟩ dX11_areHours_1 ?_
  refine lv_if_eq (tgt := 23) hx hb dX11_areHours_4 (by decide) (fun c_3 => ?_) (fun c_3 => ?_)
  · have hp := ite_p hp c_3
    refine lv_iconst (v := 0) hx hb dX11_areHours_23 (by decide) ?_
    exact e_ROz hx hb hr hk (Or.inl rfl) dX11_areHours_24 (Option.some.inj hp)
  · have hp := ite_n hp c_3
    refine lv_iload_n hx hb dX11_areHours_7 rfl (lv_at hl 1 rfl) ?_
    obtain ⟨r_5, hc_4, hp⟩ := bn1_s hp
    refine k_ROS (As := [.int p1]) (rest := []) ⟨hx, hb, hml, hown, hts⟩ hK (show va_P D vwCl [] _ from fun k q h => by simp at h) (cw_X11_119 hts ⟨Nat.le_of_ble_eq_true rfl, Nat.le_of_ble_eq_true rfl⟩) (c_X11_isHour l D cy p1 r_5 hc_4) rfl hl.1 (Nat.le_of_ble_eq_true rfl) ⟨Nat.le_refl _, Nat.le_refl _⟩ dX11_areHours_8 ?_
    refine lv_if_eq (tgt := 23) hx hb dX11_areHours_11 (by decide) (fun c_6 => ?_) (fun c_6 => ?_)
    · have hp := ite_p hp c_6
      refine lv_iconst (v := 0) hx hb dX11_areHours_23 (by decide) ?_
      exact e_ROz hx hb hr hk (Or.inl rfl) dX11_areHours_24 (Option.some.inj hp)
    · have hp := ite_n hp c_6
      refine lv_iload_n hx hb dX11_areHours_14 rfl (lv_at hl 0 rfl) ?_
      refine lv_iload_n hx hb dX11_areHours_15 rfl (lv_at hl 1 rfl) ?_
      refine lv_icmp_gt (tgt := 23) hx hb dX11_areHours_16 (by decide) (fun c_7 => ?_) (fun c_7 => ?_)
      · have hp := ite_p hp c_7
        refine lv_iconst (v := 0) hx hb dX11_areHours_23 (by decide) ?_
        exact e_ROz hx hb hr hk (Or.inl rfl) dX11_areHours_24 (Option.some.inj hp)
      · have hp := ite_n hp c_7
        refine lv_iconst (v := 1) hx hb dX11_areHours_19 (by decide) ?_
        refine lv_goto (tgt := 24) hx hb dX11_areHours_20 (by decide) ?_
        exact e_ROz hx hb hr hk (Or.inr rfl) dX11_areHours_24 (Option.some.inj hp)
/-! StormSlots.isRate(I)Z -/
def St_isRate (p0 : Int32) : Option (Int32) :=
  if p0 < 0 then some 0 else if 12 < p0 then some 0 else some 1
set_option maxHeartbeats 4000000 in
set_option maxRecDepth 100000 in
theorem c_X11_isRate (l : Launch) (D : va_G) (cy : Nat → ClassId) (p0 : Int32) (r : Int32) (hp : St_isRate p0 = some r) : RO l yX11_isRate cX11_isRate 1 (some .boolean) 0 D cy [.int p0] [] r := by
  refine RO_of RX11 rfl (by decide) (Nat.le_of_ble_eq_true rfl) ?_
  intro p e s m below meth c C0 hK hP ls hl
  obtain ⟨hx, hb, hr, hml, hown, hts, hk⟩ := id C0
  unfold St_isRate at hp
  have hl : lv_has ls 1 [(0, .int p0)] := hl
  refine lv_iload_n hx hb dX11_isRate_0 rfl (lv_at hl 0 rfl) ?_
  refine lv_if_lt (tgt := 14) hx hb dX11_isRate_1 (by decide) (fun c_1 => ?_) (fun c_1 => ?_)
  · have hp := ite_p hp c_1
    refine lv_iconst (v := 0) hx hb dX11_isRate_14 (by decide) ?_
    exact e_ROz hx hb hr hk (Or.inl rfl) dX11_isRate_15 (Option.some.inj hp)
  · have hp := ite_n hp c_1
    refine lv_iload_n hx hb dX11_isRate_4 rfl (lv_at hl 0 rfl) ?_
    refine lv_bipush (v := 12) hx hb dX11_isRate_5 (by decide) ?_
    refine lv_icmp_gt (tgt := 14) hx hb dX11_isRate_7 (by decide) (fun c_2 => ?_) (fun c_2 => ?_)
    · have hp := ite_p hp c_2
      refine lv_iconst (v := 0) hx hb dX11_isRate_14 (by decide) ?_
      exact e_ROz hx hb hr hk (Or.inl rfl) dX11_isRate_15 (Option.some.inj hp)
    · have hp := ite_n hp c_2
      refine lv_iconst (v := 1) hx hb dX11_isRate_10 (by decide) ?_
      refine lv_goto (tgt := 15) hx hb dX11_isRate_11 (by decide) ?_
      exact e_ROz hx hb hr hk (Or.inr rfl) dX11_isRate_15 (Option.some.inj hp)
/-! StormSlots.isDayMinute(I)Z -/
def St_isDayMinute (p0 : Int32) : Option (Int32) :=
  if p0 < 0 then some 0 else if 720 ≤ p0 then some 0 else some 1
set_option maxHeartbeats 4000000 in
set_option maxRecDepth 100000 in
theorem c_X11_isDayMinute (l : Launch) (D : va_G) (cy : Nat → ClassId) (p0 : Int32) (r : Int32) (hp : St_isDayMinute p0 = some r) : RO l yX11_isDayMinute cX11_isDayMinute 1 (some .boolean) 0 D cy [.int p0] [] r := by
  refine RO_of RX11 rfl (by decide) (Nat.le_of_ble_eq_true rfl) ?_
  intro p e s m below meth c C0 hK hP ls hl
  obtain ⟨hx, hb, hr, hml, hown, hts, hk⟩ := id C0
  unfold St_isDayMinute at hp
  have hl : lv_has ls 1 [(0, .int p0)] := hl
  refine lv_iload_n hx hb dX11_isDayMinute_0 rfl (lv_at hl 0 rfl) ?_
  refine lv_if_lt (tgt := 15) hx hb dX11_isDayMinute_1 (by decide) (fun c_1 => ?_) (fun c_1 => ?_)
  · have hp := ite_p hp c_1
    refine lv_iconst (v := 0) hx hb dX11_isDayMinute_15 (by decide) ?_
    exact e_ROz hx hb hr hk (Or.inl rfl) dX11_isDayMinute_16 (Option.some.inj hp)
  · have hp := ite_n hp c_1
    refine lv_iload_n hx hb dX11_isDayMinute_4 rfl (lv_at hl 0 rfl) ?_
    refine lv_sipush (v := 720) hx hb dX11_isDayMinute_5 (by decide) ?_
    refine lv_icmp_ge (tgt := 15) hx hb dX11_isDayMinute_8 (by decide) (fun c_2 => ?_) (fun c_2 => ?_)
    · have hp := ite_p hp c_2
      refine lv_iconst (v := 0) hx hb dX11_isDayMinute_15 (by decide) ?_
      exact e_ROz hx hb hr hk (Or.inl rfl) dX11_isDayMinute_16 (Option.some.inj hp)
    · have hp := ite_n hp c_2
      refine lv_iconst (v := 1) hx hb dX11_isDayMinute_11 (by decide) ?_
      refine lv_goto (tgt := 16) hx hb dX11_isDayMinute_12 (by decide) ?_
      exact e_ROz hx hb hr hk (Or.inr rfl) dX11_isDayMinute_16 (Option.some.inj hp)
/-! StormSlots.isMinute(I)Z -/
def St_isMinute (p0 : Int32) : Option (Int32) :=
  if p0 < 0 then some 0 else if 1200 ≤ p0 then some 0 else some 1
set_option maxHeartbeats 4000000 in
set_option maxRecDepth 100000 in
theorem c_X11_isMinute (l : Launch) (D : va_G) (cy : Nat → ClassId) (p0 : Int32) (r : Int32) (hp : St_isMinute p0 = some r) : RO l yX11_isMinute cX11_isMinute 1 (some .boolean) 0 D cy [.int p0] [] r := by
  refine RO_of RX11 rfl (by decide) (Nat.le_of_ble_eq_true rfl) ?_
  intro p e s m below meth c C0 hK hP ls hl
  obtain ⟨hx, hb, hr, hml, hown, hts, hk⟩ := id C0
  unfold St_isMinute at hp
  have hl : lv_has ls 1 [(0, .int p0)] := hl
  refine lv_iload_n hx hb dX11_isMinute_0 rfl (lv_at hl 0 rfl) ?_
  refine lv_if_lt (tgt := 15) hx hb dX11_isMinute_1 (by decide) (fun c_1 => ?_) (fun c_1 => ?_)
  · have hp := ite_p hp c_1
    refine lv_iconst (v := 0) hx hb dX11_isMinute_15 (by decide) ?_
    exact e_ROz hx hb hr hk (Or.inl rfl) dX11_isMinute_16 (Option.some.inj hp)
  · have hp := ite_n hp c_1
    refine lv_iload_n hx hb dX11_isMinute_4 rfl (lv_at hl 0 rfl) ?_
    refine lv_sipush (v := 1200) hx hb dX11_isMinute_5 (by decide) ?_
    refine lv_icmp_ge (tgt := 15) hx hb dX11_isMinute_8 (by decide) (fun c_2 => ?_) (fun c_2 => ?_)
    · have hp := ite_p hp c_2
      refine lv_iconst (v := 0) hx hb dX11_isMinute_15 (by decide) ?_
      exact e_ROz hx hb hr hk (Or.inl rfl) dX11_isMinute_16 (Option.some.inj hp)
    · have hp := ite_n hp c_2
      refine lv_iconst (v := 1) hx hb dX11_isMinute_11 (by decide) ?_
      refine lv_goto (tgt := 16) hx hb dX11_isMinute_12 (by decide) ?_
      exact e_ROz hx hb hr hk (Or.inr rfl) dX11_isMinute_16 (Option.some.inj hp)
end SG10leaf
