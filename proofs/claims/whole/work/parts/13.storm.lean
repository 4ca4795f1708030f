section SG13storm
variable {p : Program} {l : Launch} {e : Env} {s : State} {m : MethodId} {args : Array Value} {below : List Frame} {meth : Method} {c : Code} {D : va_G} {A : Nat → Prop} {cy : Nat → ClassId}
abbrev w_All (cy : Nat → ClassId) (qsm : Nat → Nat) (qbsa : Nat → Nat) (qbsb : Nat → Nat) (qrd : Nat → Nat) (qdi : Nat → Nat) (qrof : Nat → Nat) (qpn : Nat → Nat) (qse : Nat → Nat) (qfo : Nat → Nat) (qro : Nat → Nat) (qra : Nat → Nat) (qvc : Nat → Nat) (qos : Nat → Nat) (qli : Nat → Nat) (qfot : Nat → Nat) (qrot : Nat → Nat) (qrat : Nat → Nat) (qvct : Nat → Nat) (qost : Nat → Nat) (qlit : Nat → Nat) (sm : Mem) (bsa : Mem) (bsb : Mem) (rd : Mem) (di : Mem) (rof : Mem) (pn : Mem) (se : Mem) (fo : Mem) (ro : Mem) (ra : Mem) (vc : Mem) (os : Mem) (li : Mem) (fot : Mem) (rot : Mem) (rat : Mem) (vct : Mem) (ost : Mem) (lit : Mem) : va_W := [(qsm 0, .inr (11, [.ref (qbsa 0), .ref (qbsb 0), .ref (qrd 0), .ref (qdi 0), .ref (qrof 0), .ref (qpn 0), .ref (qse 0), .ref (qfo 0), .ref (qfot 0), .ref (qsm 10), .int (sm 10 0)])), (qbsa 0, .inr (0, [.ref (qbsa 1), .int (bsa 1 0)])), (qbsa 1, .inl (cy 1, 320, .inl (bsa 0))), (qbsb 0, .inr (0, [.ref (qbsb 1), .int (bsb 1 0)])), (qbsb 1, .inl (cy 1, 320, .inl (bsb 0))), (qrd 0, .inr (8, [.int (rd 0 0), .int (rd 1 0), .int (rd 2 0)])), (qdi 0, .inr (1, [.int (di 0 0)])), (qrof 0, .inr (9, [.ref (qrof 1), .ref (qrof 2), .ref (qrof 3), .ref (qrof 4), .int (rof 4 0)])), (qrof 1, .inl (cy 0, 20, .inl (rof 0))), (qrof 2, .inl (cy 0, 20, .inl (rof 1))), (qrof 3, .inl (cy 0, 20, .inl (rof 2))), (qrof 4, .inl (cy 0, 20, .inl (rof 3))), (qpn 0, .inr (6, [.ref (qpn 1), .int (pn 1 0), .ref (qpn 3), .int (pn 3 0)])), (qpn 1, .inl (cy 0, 20, .inl (pn 0))), (qpn 3, .inl (cy 0, 1200, .inl (pn 2))), (qse 0, .inr (5, [.ref (qse 1), .ref (qse 2), .int (se 2 0), .ref (qse 4), .ref (qse 5), .int (se 5 0), .int (se 6 0), .int (se 7 0)])), (qse 1, .inl (cy 0, 6, .inl (se 0))), (qse 2, .inl (cy 0, 6, .inl (se 1))), (qse 4, .inl (cy 0, 6, .inl (se 3))), (qse 5, .inl (cy 0, 6, .inl (se 4))), (qfo 0, .inr (2, [.ref (qro 0), .ref (qra 0), .ref (qvc 0), .ref (qos 0), .ref (qli 0), .ref (qfo 6), .ref (qfo 7), .ref (qfo 8), .int (fo 8 0), .int (fo 9 0), .int (fo 10 0)])), (qfo 6, .inl (cy 0, 20, .inl (fo 5))), (qfo 7, .inl (cy 0, 20, .inl (fo 6))), (qfo 8, .inl (cy 0, 20, .inl (fo 7))), (qro 0, .inr (9, [.ref (qro 1), .ref (qro 2), .ref (qro 3), .ref (qro 4), .int (ro 4 0)])), (qro 1, .inl (cy 0, 20, .inl (ro 0))), (qro 2, .inl (cy 0, 20, .inl (ro 1))), (qro 3, .inl (cy 0, 20, .inl (ro 2))), (qro 4, .inl (cy 0, 20, .inl (ro 3))), (qra 0, .inr (7, [.ref (qra 1)])), (qra 1, .inl (cy 0, 12, .inl (ra 0))), (qvc 0, .inr (10, [.ref (qvc 1), .ref (qvc 2), .int (vc 2 0)])), (qvc 1, .inl (cy 0, 20, .inl (vc 0))), (qvc 2, .inl (cy 0, 20, .inl (vc 1))), (qos 0, .inr (4, [.ref (qos 1), .ref (qos 2), .ref (qos 3), .ref (qos 4), .int (os 4 0)])), (qos 1, .inl (cy 0, 8, .inl (os 0))), (qos 2, .inl (cy 0, 8, .inl (os 1))), (qos 3, .inl (cy 0, 8, .inl (os 2))), (qos 4, .inl (cy 0, 8, .inl (os 3))), (qli 0, .inr (3, [.ref (qli 1), .ref (qli 2), .ref (qli 3), .int (li 3 0)])), (qli 1, .inl (cy 0, 12, .inl (li 0))), (qli 2, .inl (cy 0, 12, .inl (li 1))), (qli 3, .inl (cy 0, 12, .inl (li 2))), (qfot 0, .inr (2, [.ref (qrot 0), .ref (qrat 0), .ref (qvct 0), .ref (qost 0), .ref (qlit 0), .ref (qfot 6), .ref (qfot 7), .ref (qfot 8), .int (fot 8 0), .int (fot 9 0), .int (fot 10 0)])), (qfot 6, .inl (cy 0, 20, .inl (fot 5))), (qfot 7, .inl (cy 0, 20, .inl (fot 6))), (qfot 8, .inl (cy 0, 20, .inl (fot 7))), (qrot 0, .inr (9, [.ref (qrot 1), .ref (qrot 2), .ref (qrot 3), .ref (qrot 4), .int (rot 4 0)])), (qrot 1, .inl (cy 0, 20, .inl (rot 0))), (qrot 2, .inl (cy 0, 20, .inl (rot 1))), (qrot 3, .inl (cy 0, 20, .inl (rot 2))), (qrot 4, .inl (cy 0, 20, .inl (rot 3))), (qrat 0, .inr (7, [.ref (qrat 1)])), (qrat 1, .inl (cy 0, 12, .inl (rat 0))), (qvct 0, .inr (10, [.ref (qvct 1), .ref (qvct 2), .int (vct 2 0)])), (qvct 1, .inl (cy 0, 20, .inl (vct 0))), (qvct 2, .inl (cy 0, 20, .inl (vct 1))), (qost 0, .inr (4, [.ref (qost 1), .ref (qost 2), .ref (qost 3), .ref (qost 4), .int (ost 4 0)])), (qost 1, .inl (cy 0, 8, .inl (ost 0))), (qost 2, .inl (cy 0, 8, .inl (ost 1))), (qost 3, .inl (cy 0, 8, .inl (ost 2))), (qost 4, .inl (cy 0, 8, .inl (ost 3))), (qlit 0, .inr (3, [.ref (qlit 1), .ref (qlit 2), .ref (qlit 3), .int (lit 3 0)])), (qlit 1, .inl (cy 0, 12, .inl (lit 0))), (qlit 2, .inl (cy 0, 12, .inl (lit 1))), (qlit 3, .inl (cy 0, 12, .inl (lit 2)))]
/-! StormSlots.feed(IIIII)I -/
def St_feed (bsa : Mem) (p1 : Int32) (p2 : Int32) (p3 : Int32) (p4 : Int32) (p5 : Int32) : Option (Int32 × Mem) :=
  if ((bsa 1 0) + 20) ≤ 320 then bn1 (By_appendFour bsa p1) (fun bsa_3 => bn1 (By_appendFour bsa_3 p2) (fun bsa_5 => bn1 (By_appendFour bsa_5 p3) (fun bsa_7 => bn1 (By_appendFour bsa_7 p4) (fun bsa_9 => bn1 (By_appendFour bsa_9 p5) (fun bsa_11 => some ((bsa_11 1 0), bsa_11)))))) else some ((-1), bsa)
set_option maxHeartbeats 4000000 in
set_option maxRecDepth 100000 in
theorem c_X11_feed (l : Launch) (D : va_G) (cy : Nat → ClassId) (qsm qbsa qbsb qrd qdi qrof qpn qse qfo qro qra qvc qos qli qfot qrot qrat qvct qost qlit : Nat → Nat) (sm bsa bsb rd di rof pn se fo ro ra vc os li fot rot rat vct ost lit : Mem) (p1 p2 p3 p4 p5 : Int32) (r : Int32) (bsa' : Mem) (hp : St_feed bsa p1 p2 p3 p4 p5 = some (r, bsa')) : RI l yX11_feed cX11_feed 6 (some .int) 2 D cy [.ref (qsm 0), .int p1, .int p2, .int p3, .int p4, .int p5] (w_All cy qsm qbsa qbsb qrd qdi qrof qpn qse qfo qro qra qvc qos qli qfot qrot qrat qvct qost qlit sm bsa bsb rd di rof pn se fo ro ra vc os li fot rot rat vct ost lit) (w_All cy qsm qbsa qbsb qrd qdi qrof qpn qse qfo qro qra qvc qos qli qfot qrot qrat qvct qost qlit sm bsa' bsb rd di rof pn se fo ro ra vc os li fot rot rat vct ost lit) r := by
  refine RI_of RX11 rfl (by decide) (Nat.le_of_ble_eq_true rfl) ?_
  intro p e s m below meth c A C0 hK hP hD hS hA ls hl
  obtain ⟨hx, hb, hr, hml, hown, hts, hk⟩ := id C0
  unfold St_feed at hp
  have hl : lv_has ls 6 [(0, .ref (qsm 0)), (1, .int p1), (2, .int p2), (3, .int p3), (4, .int p4), (5, .int p5)] := hl
  refine lv_aload_n hx hb dX11_feed_0 rfl (lv_at hl 0 rfl) ?_
  refine gf_X11_10 hx hb hts hown hK hP 0 rfl rfl dX11_feed_1 ?_
  refine gf_X11_72 hx hb hts hown hK hP 1 rfl rfl dX11_feed_4 ?_
  refine lv_bipush (v := 20) hx hb dX11_feed_7 (by decide) ?_
  refine lv_iadd hx hb dX11_feed_9 ?_
  refine lv_sipush (v := 320) hx hb dX11_feed_10 (by decide) ?_
  refine lv_icmp_le (tgt := 18) hx hb dX11_feed_13 (by decide) (fun c_1 => ?_) (fun c_1 => ?_)
  · have hp := ite_p hp c_1
    refine lv_aload_n hx hb dX11_feed_18 rfl (lv_at hl 0 rfl) ?_
    refine gf_X11_10 hx hb hts hown hK hP 0 rfl rfl dX11_feed_19 ?_
    refine lv_iload_n hx hb dX11_feed_22 rfl (lv_at hl 1 rfl) ?_
    obtain ⟨bsa_3, hc_2, hp⟩ := bn1_s hp
    refine k_RVV (As := [.int p1]) (rest := []) ⟨hx, hb, hml, hown, hts⟩ hK hP hD hS hA (FrS_set (ws := (w_All cy qsm qbsa qbsb qrd qdi qrof qpn qse qfo qro qra qvc qos qli qfot qrot qrat qvct qost qlit sm bsa bsb rd di rof pn se fo ro ra vc os li fot rot rat vct ost lit)) (wc := (w_By cy qbsa bsa)) (w1 := (w_By cy qbsa bsa_3)) (wn := (w_All cy qsm qbsa qbsb qrd qdi qrof qpn qse qfo qro qra qvc qos qli qfot qrot qrat qvct qost qlit sm bsa_3 bsb rd di rof pn se fo ro ra vc os li fot rot rat vct ost lit)) [1, 2] [none, some 0, some 1, none, none, none, none, none, none, none, none, none, none, none, none, none, none, none, none, none, none, none, none, none, none, none, none, none, none, none, none, none, none, none, none, none, none, none, none, none, none, none, none, none, none, none, none, none, none, none, none, none, none, none, none, none, none, none, none, none, none, none, none, none, none, none] (by decide +kernel) rfl rfl rfl) (cw_X11_75 hts ⟨Nat.le_of_ble_eq_true rfl, Nat.le_of_ble_eq_true rfl⟩) 0 (ci := 0) rfl rfl rfl (c_X0_appendFour l D cy qbsa bsa p1 bsa_3 hc_2) rfl hl.1 (Nat.le_of_ble_eq_true rfl) ⟨Nat.le_refl _, Nat.le_refl _⟩ dX11_feed_23 (fun H locs hP hD hS => ?_)
    refine lv_aload_n hx hb dX11_feed_26 rfl (lv_at hl 0 rfl) ?_
    refine gf_X11_10 hx hb hts hown hK hP 0 rfl rfl dX11_feed_27 ?_
    refine lv_iload_n hx hb dX11_feed_30 rfl (lv_at hl 2 rfl) ?_
    obtain ⟨bsa_5, hc_4, hp⟩ := bn1_s hp
    refine k_RVV (As := [.int p2]) (rest := []) ⟨hx, hb, hml, hown, hts⟩ hK hP hD hS hA (FrS_set (ws := (w_All cy qsm qbsa qbsb qrd qdi qrof qpn qse qfo qro qra qvc qos qli qfot qrot qrat qvct qost qlit sm bsa_3 bsb rd di rof pn se fo ro ra vc os li fot rot rat vct ost lit)) (wc := (w_By cy qbsa bsa_3)) (w1 := (w_By cy qbsa bsa_5)) (wn := (w_All cy qsm qbsa qbsb qrd qdi qrof qpn qse qfo qro qra qvc qos qli qfot qrot qrat qvct qost qlit sm bsa_5 bsb rd di rof pn se fo ro ra vc os li fot rot rat vct ost lit)) [1, 2] [none, some 0, some 1, none, none, none, none, none, none, none, none, none, none, none, none, none, none, none, none, none, none, none, none, none, none, none, none, none, none, none, none, none, none, none, none, none, none, none, none, none, none, none, none, none, none, none, none, none, none, none, none, none, none, none, none, none, none, none, none, none, none, none, none, none, none, none] (by decide +kernel) rfl rfl rfl) (cw_X11_75 hts ⟨Nat.le_of_ble_eq_true rfl, Nat.le_of_ble_eq_true rfl⟩) 0 (ci := 0) rfl rfl rfl (c_X0_appendFour l D cy qbsa bsa_3 p2 bsa_5 hc_4) rfl hl.1 (Nat.le_of_ble_eq_true rfl) ⟨Nat.le_refl _, Nat.le_refl _⟩ dX11_feed_31 (fun H locs hP hD hS => ?_)
    refine lv_aload_n hx hb dX11_feed_34 rfl (lv_at hl 0 rfl) ?_
    refine gf_X11_10 hx hb hts hown hK hP 0 rfl rfl dX11_feed_35 ?_
    refine lv_iload_n hx hb dX11_feed_38 rfl (lv_at hl 3 rfl) ?_
    obtain ⟨bsa_7, hc_6, hp⟩ := bn1_s hp
    refine k_RVV (As := [.int p3]) (rest := []) ⟨hx, hb, hml, hown, hts⟩ hK hP hD hS hA (FrS_set (ws := (w_All cy qsm qbsa qbsb qrd qdi qrof qpn qse qfo qro qra qvc qos qli qfot qrot qrat qvct qost qlit sm bsa_5 bsb rd di rof pn se fo ro ra vc os li fot rot rat vct ost lit)) (wc := (w_By cy qbsa bsa_5)) (w1 := (w_By cy qbsa bsa_7)) (wn := (w_All cy qsm qbsa qbsb qrd qdi qrof qpn qse qfo qro qra qvc qos qli qfot qrot qrat qvct qost qlit sm bsa_7 bsb rd di rof pn se fo ro ra vc os li fot rot rat vct ost lit)) [1, 2] [none, some 0, some 1, none, none, none, none, none, none, none, none, none, none, none, none, none, none, none, none, none, none, none, none, none, none, none, none, none, none, none, none, none, none, none, none, none, none, none, none, none, none, none, none, none, none, none, none, none, none, none, none, none, none, none, none, none, none, none, none, none, none, none, none, none, none, none] (by decide +kernel) rfl rfl rfl) (cw_X11_75 hts ⟨Nat.le_of_ble_eq_true rfl, Nat.le_of_ble_eq_true rfl⟩) 0 (ci := 0) rfl rfl rfl (c_X0_appendFour l D cy qbsa bsa_5 p3 bsa_7 hc_6) rfl hl.1 (Nat.le_of_ble_eq_true rfl) ⟨Nat.le_refl _, Nat.le_refl _⟩ dX11_feed_39 (fun H locs hP hD hS => ?_)
    refine lv_aload_n hx hb dX11_feed_42 rfl (lv_at hl 0 rfl) ?_
    refine gf_X11_10 hx hb hts hown hK hP 0 rfl rfl dX11_feed_43 ?_
    refine lv_iload hx hb dX11_feed_46 (lv_at hl 4 rfl) ?_
    obtain ⟨bsa_9, hc_8, hp⟩ := bn1_s hp
    refine k_RVV (As := [.int p4]) (rest := []) ⟨hx, hb, hml, hown, hts⟩ hK hP hD hS hA (FrS_set (ws := (w_All cy qsm qbsa qbsb qrd qdi qrof qpn qse qfo qro qra qvc qos qli qfot qrot qrat qvct qost qlit sm bsa_7 bsb rd di rof pn se fo ro ra vc os li fot rot rat vct ost lit)) (wc := (w_By cy qbsa bsa_7)) (w1 := (w_By cy qbsa bsa_9)) (wn := (w_All cy qsm qbsa qbsb qrd qdi qrof qpn qse qfo qro qra qvc qos qli qfot qrot qrat qvct qost qlit sm bsa_9 bsb rd di rof pn se fo ro ra vc os li fot rot rat vct ost lit)) [1, 2] [none, some 0, some 1, none, none, none, none, none, none, none, none, none, none, none, none, none, none, none, none, none, none, none, none, none, none, none, none, none, none, none, none, none, none, none, none, none, none, none, none, none, none, none, none, none, none, none, none, none, none, none, none, none, none, none, none, none, none, none, none, none, none, none, none, none, none, none] (by decide +kernel) rfl rfl rfl) (cw_X11_75 hts ⟨Nat.le_of_ble_eq_true rfl, Nat.le_of_ble_eq_true rfl⟩) 0 (ci := 0) rfl rfl rfl (c_X0_appendFour l D cy qbsa bsa_7 p4 bsa_9 hc_8) rfl hl.1 (Nat.le_of_ble_eq_true rfl) ⟨Nat.le_refl _, Nat.le_refl _⟩ dX11_feed_48 (fun H locs hP hD hS => ?_)
    refine lv_aload_n hx hb dX11_feed_51 rfl (lv_at hl 0 rfl) ?_
    refine gf_X11_10 hx hb hts hown hK hP 0 rfl rfl dX11_feed_52 ?_
    refine lv_iload hx hb dX11_feed_55 (lv_at hl 5 rfl) ?_
    obtain ⟨bsa_11, hc_10, hp⟩ := bn1_s hp
    refine k_RVV (As := [.int p5]) (rest := []) ⟨hx, hb, hml, hown, hts⟩ hK hP hD hS hA (FrS_set (ws := (w_All cy qsm qbsa qbsb qrd qdi qrof qpn qse qfo qro qra qvc qos qli qfot qrot qrat qvct qost qlit sm bsa_9 bsb rd di rof pn se fo ro ra vc os li fot rot rat vct ost lit)) (wc := (w_By cy qbsa bsa_9)) (w1 := (w_By cy qbsa bsa_11)) (wn := (w_All cy qsm qbsa qbsb qrd qdi qrof qpn qse qfo qro qra qvc qos qli qfot qrot qrat qvct qost qlit sm bsa_11 bsb rd di rof pn se fo ro ra vc os li fot rot rat vct ost lit)) [1, 2] [none, some 0, some 1, none, none, none, none, none, none, none, none, none, none, none, none, none, none, none, none, none, none, none, none, none, none, none, none, none, none, none, none, none, none, none, none, none, none, none, none, none, none, none, none, none, none, none, none, none, none, none, none, none, none, none, none, none, none, none, none, none, none, none, none, none, none, none] (by decide +kernel) rfl rfl rfl) (cw_X11_75 hts ⟨Nat.le_of_ble_eq_true rfl, Nat.le_of_ble_eq_true rfl⟩) 0 (ci := 0) rfl rfl rfl (c_X0_appendFour l D cy qbsa bsa_9 p5 bsa_11 hc_10) rfl hl.1 (Nat.le_of_ble_eq_true rfl) ⟨Nat.le_refl _, Nat.le_refl _⟩ dX11_feed_57 (fun H locs hP hD hS => ?_)
    refine lv_aload_n hx hb dX11_feed_60 rfl (lv_at hl 0 rfl) ?_
    refine gf_X11_10 hx hb hts hown hK hP 0 rfl rfl dX11_feed_61 ?_
    refine gf_X11_72 hx hb hts hown hK hP 1 rfl rfl dX11_feed_64 ?_
    simp only [Option.some.injEq, Prod.mk.injEq] at hp
    obtain ⟨h0, rfl⟩ := hp
    exact e_RIi hx hb hr hk hP hD hS dX11_feed_67 h0
  · have hp := ite_n hp c_1
    refine lv_iconst (v := (-1)) hx hb dX11_feed_16 (by decide) ?_
    simp only [Option.some.injEq, Prod.mk.injEq] at hp
    obtain ⟨h0, rfl⟩ := hp
    exact e_RIi hx hb hr hk hP hD hS dX11_feed_17 h0
/-! StormSlots.schedule(I)I -/
def St_schedule (bsa : Mem) (rd : Mem) (rof : Mem) (fo : Mem) (ro : Mem) (vc : Mem) (os : Mem) (li : Mem) (p1 : Int32) : Option (Int32 × Mem × Mem × Mem × Mem × Mem × Mem × Mem × Mem) :=
  if p1 < 1 then some ((-1), bsa, rd, rof, fo, ro, vc, os, li) else if 160 < p1 then some ((-1), bsa, rd, rof, fo, ro, vc, os, li) else if p1 ≤ (bsa 1 0) then bn3 (Rd_read rd bsa rof p1) (fun r_5 rd_6 rof_7 => stk (upm bsa 1 0 0) (fun bsa_8 => if r_5 = 0 then bn5 (Fi_takeRoster fo ro vc os li rof_7) (fun fo_11 ro_12 vc_13 os_14 li_15 => some ((ro_12 4 0), bsa_8, rd_6, rof_7, fo_11, ro_12, vc_13, os_14, li_15)) else some (r_5, bsa_8, rd_6, rof_7, fo, ro, vc, os, li))) else some ((-1), bsa, rd, rof, fo, ro, vc, os, li)
set_option maxHeartbeats 4000000 in
set_option maxRecDepth 100000 in
theorem c_X11_schedule (l : Launch) (D : va_G) (cy : Nat → ClassId) (qsm qbsa qbsb qrd qdi qrof qpn qse qfo qro qra qvc qos qli qfot qrot qrat qvct qost qlit : Nat → Nat) (sm bsa bsb rd di rof pn se fo ro ra vc os li fot rot rat vct ost lit : Mem) (p1 : Int32) (r : Int32) (bsa' rd' rof' fo' ro' vc' os' li' : Mem) (hp : St_schedule bsa rd rof fo ro vc os li p1 = some (r, bsa', rd', rof', fo', ro', vc', os', li')) : RI l yX11_schedule cX11_schedule 3 (some .int) 6 D cy [.ref (qsm 0), .int p1] (w_All cy qsm qbsa qbsb qrd qdi qrof qpn qse qfo qro qra qvc qos qli qfot qrot qrat qvct qost qlit sm bsa bsb rd di rof pn se fo ro ra vc os li fot rot rat vct ost lit) (w_All cy qsm qbsa qbsb qrd qdi qrof qpn qse qfo qro qra qvc qos qli qfot qrot qrat qvct qost qlit sm bsa' bsb rd' di rof' pn se fo' ro' ra vc' os' li' fot rot rat vct ost lit) r := by
  refine RI_of RX11 rfl (by decide) (Nat.le_of_ble_eq_true rfl) ?_
  intro p e s m below meth c A C0 hK hP hD hS hA ls hl
  obtain ⟨hx, hb, hr, hml, hown, hts, hk⟩ := id C0
  unfold St_schedule at hp
  have hl : lv_has ls 3 [(0, .ref (qsm 0)), (1, .int p1)] := hl
  refine lv_iload_n hx hb dX11_schedule_0 rfl (lv_at hl 1 rfl) ?_
  refine lv_iconst (v := 1) hx hb dX11_schedule_1 (by decide) ?_
  refine lv_icmp_lt (tgt := 23) hx hb dX11_schedule_2 (by decide) (fun c_1 => ?_) (fun c_1 => ?_)
  · have hp := ite_p hp c_1
    refine lv_iconst (v := (-1)) hx hb dX11_schedule_23 (by decide) ?_
    simp only [Option.some.injEq, Prod.mk.injEq] at hp
    obtain ⟨h0, rfl, rfl, rfl, rfl, rfl, rfl, rfl, rfl⟩ := hp
    exact e_RIi hx hb hr hk hP hD hS dX11_schedule_24 h0
  · have hp := ite_n hp c_1
    refine lv_iload_n hx hb dX11_schedule_5 rfl (lv_at hl 1 rfl) ?_
    refine lv_sipush (v := 160) hx hb dX11_schedule_6 (by decide) ?_
    refine lv_icmp_gt (tgt := 23) hx hb dX11_schedule_9 (by decide) (fun c_2 => ?_) (fun c_2 => ?_)
    · have hp := ite_p hp c_2
      refine lv_iconst (v := (-1)) hx hb dX11_schedule_23 (by decide) ?_
      simp only [Option.some.injEq, Prod.mk.injEq] at hp
      obtain ⟨h0, rfl, rfl, rfl, rfl, rfl, rfl, rfl, rfl⟩ := hp
      exact e_RIi hx hb hr hk hP hD hS dX11_schedule_24 h0
    · have hp := ite_n hp c_2
      refine lv_iload_n hx hb dX11_schedule_12 rfl (lv_at hl 1 rfl) ?_
      refine lv_aload_n hx hb dX11_schedule_13 rfl (lv_at hl 0 rfl) ?_
      refine gf_X11_10 hx hb hts hown hK hP 0 rfl rfl dX11_schedule_14 ?_
      refine gf_X11_72 hx hb hts hown hK hP 1 rfl rfl dX11_schedule_17 ?_
      refine lv_icmp_le (tgt := 25) hx hb dX11_schedule_20 (by decide) (fun c_3 => ?_) (fun c_3 => ?_)
      · have hp := ite_p hp c_3
        refine lv_aload_n hx hb dX11_schedule_25 rfl (lv_at hl 0 rfl) ?_
        refine gf_X11_22 hx hb hts hown hK hP 0 rfl rfl dX11_schedule_26 ?_
        refine lv_aload_n hx hb dX11_schedule_29 rfl (lv_at hl 0 rfl) ?_
        refine gf_X11_10 hx hb hts hown hK hP 0 rfl rfl dX11_schedule_30 ?_
        refine lv_iload_n hx hb dX11_schedule_33 rfl (lv_at hl 1 rfl) ?_
        refine lv_aload_n hx hb dX11_schedule_34 rfl (lv_at hl 0 rfl) ?_
        refine gf_X11_36 hx hb hts hown hK hP 0 rfl rfl dX11_schedule_35 ?_
        obtain ⟨r_5, rd_6, rof_7, hc_4, hp⟩ := bn3_s hp
        refine k_RIV (As := [.ref (qbsa 0), .int p1, .ref (qrof 0)]) (rest := []) ⟨hx, hb, hml, hown, hts⟩ hK hP hD hS hA (FrS_set (ws := (w_All cy qsm qbsa qbsb qrd qdi qrof qpn qse qfo qro qra qvc qos qli qfot qrot qrat qvct qost qlit sm bsa bsb rd di rof pn se fo ro ra vc os li fot rot rat vct ost lit)) (wc := (w_RdByRo cy qrd qbsa qrof rd bsa rof)) (w1 := (w_RdByRo cy qrd qbsa qrof rd_6 bsa rof_7)) (wn := (w_All cy qsm qbsa qbsb qrd qdi qrof qpn qse qfo qro qra qvc qos qli qfot qrot qrat qvct qost qlit sm bsa bsb rd_6 di rof_7 pn se fo ro ra vc os li fot rot rat vct ost lit)) [5, 1, 2, 7, 8, 9, 10, 11] [none, some 1, some 2, none, none, some 0, none, some 3, some 4, some 5, some 6, some 7, none, none, none, none, none, none, none, none, none, none, none, none, none, none, none, none, none, none, none, none, none, none, none, none, none, none, none, none, none, none, none, none, none, none, none, none, none, none, none, none, none, none, none, none, none, none, none, none, none, none, none, none, none, none] (by decide +kernel) rfl rfl rfl) (cw_X11_79 hts ⟨Nat.le_of_ble_eq_true rfl, Nat.le_of_ble_eq_true rfl⟩) 0 (ci := 8) rfl rfl rfl (c_X8_read l D cy qrd qbsa qrof rd bsa rof p1 r_5 rd_6 rof_7 hc_4) rfl hl.1 (Nat.le_of_ble_eq_true rfl) ⟨Nat.le_refl _, Nat.le_refl _⟩ dX11_schedule_38 (fun H locs hP hD hS => ?_)
        refine lv_istore_n (lv' := [(2, .int r_5), (0, .ref (qsm 0)), (1, .int p1)]) hx hb dX11_schedule_41 rfl hl (by decide) rfl (fun ls hl => ?_)
        refine lv_aload_n hx hb dX11_schedule_42 rfl (lv_at hl 1 rfl) ?_
        refine gf_X11_10 hx hb hts hown hK hP 0 rfl rfl dX11_schedule_43 ?_
        refine lv_iconst (v := 0) hx hb dX11_schedule_46 (by decide) ?_
        obtain ⟨bsa_8, ebsa_8⟩ : ∃ y : Mem, y = upm bsa 1 0 0 := ⟨_, rfl⟩
        have hp := stk_e hp ebsa_8
        refine pf_X11_72 hx hb hts hown hK hP hD hS (wn := (w_All cy qsm qbsa qbsb qrd qdi qrof qpn qse qfo qro qra qvc qos qli qfot qrot qrat qvct qost qlit sm bsa_8 bsb rd_6 di rof_7 pn se fo ro ra vc os li fot rot rat vct ost lit)) 1 rfl (Nat.le_of_ble_eq_true rfl) (by subst ebsa_8; rfl) dX11_schedule_47 (fun H locs hP hD hS => ?_)
        refine lv_iload_n hx hb dX11_schedule_50 rfl (lv_at hl 0 rfl) ?_
        refine lv_if_eq (tgt := 56) hx hb dX11_schedule_51 (by decide) (fun c_9 => ?_) (fun c_9 => ?_)
        · have hp := ite_p hp c_9
          refine lv_aload_n hx hb dX11_schedule_56 rfl (lv_at hl 1 rfl) ?_
          refine gf_X11_57 hx hb hts hown hK hP 0 rfl rfl dX11_schedule_57 ?_
          refine lv_aload_n hx hb dX11_schedule_60 rfl (lv_at hl 1 rfl) ?_
          refine gf_X11_36 hx hb hts hown hK hP 0 rfl rfl dX11_schedule_61 ?_
          obtain ⟨fo_11, ro_12, vc_13, os_14, li_15, hc_10, hp⟩ := bn5_s hp
          refine k_RVV (As := [.ref (qrof 0)]) (rest := []) ⟨hx, hb, hml, hown, hts⟩ hK hP hD hS hA (FrS_set (ws := (w_All cy qsm qbsa qbsb qrd qdi qrof qpn qse qfo qro qra qvc qos qli qfot qrot qrat qvct qost qlit sm bsa_8 bsb rd_6 di rof_7 pn se fo ro ra vc os li fot rot rat vct ost lit)) (wc := (w_FiRo cy qfo qro qra qvc qos qli qrof fo ro ra vc os li rof_7)) (w1 := (w_FiRo cy qfo qro qra qvc qos qli qrof fo_11 ro_12 ra vc_13 os_14 li_15 rof_7)) (wn := (w_All cy qsm qbsa qbsb qrd qdi qrof qpn qse qfo qro qra qvc qos qli qfot qrot qrat qvct qost qlit sm bsa_8 bsb rd_6 di rof_7 pn se fo_11 ro_12 ra vc_13 os_14 li_15 fot rot rat vct ost lit)) [20, 21, 22, 23, 24, 25, 26, 27, 28, 29, 30, 31, 32, 33, 34, 35, 36, 37, 38, 39, 40, 41, 42, 7, 8, 9, 10, 11] [none, none, none, none, none, none, none, some 23, some 24, some 25, some 26, some 27, none, none, none, none, none, none, none, none, some 0, some 1, some 2, some 3, some 4, some 5, some 6, some 7, some 8, some 9, some 10, some 11, some 12, some 13, some 14, some 15, some 16, some 17, some 18, some 19, some 20, some 21, some 22, none, none, none, none, none, none, none, none, none, none, none, none, none, none, none, none, none, none, none, none, none, none, none] (by decide +kernel) rfl rfl rfl) (cw_X11_83 hts ⟨Nat.le_of_ble_eq_true rfl, Nat.le_of_ble_eq_true rfl⟩) 0 (ci := 2) rfl rfl rfl (c_X2_takeRoster l D cy qfo qro qra qvc qos qli qrof fo ro ra vc os li rof_7 fo_11 ro_12 vc_13 os_14 li_15 hc_10) rfl hl.1 (Nat.le_of_ble_eq_true rfl) ⟨Nat.le_refl _, Nat.le_refl _⟩ dX11_schedule_64 (fun H locs hP hD hS => ?_)
          refine lv_aload_n hx hb dX11_schedule_67 rfl (lv_at hl 1 rfl) ?_
          refine gf_X11_57 hx hb hts hown hK hP 0 rfl rfl dX11_schedule_68 ?_
          refine gf_X11_87 hx hb hts hown hK hP 20 rfl rfl dX11_schedule_71 ?_
          refine gf_X11_90 hx hb hts hown hK hP 24 rfl rfl dX11_schedule_74 ?_
          simp only [Option.some.injEq, Prod.mk.injEq] at hp
          obtain ⟨h0, rfl, rfl, rfl, rfl, rfl, rfl, rfl, rfl⟩ := hp
          exact e_RIi hx hb hr hk hP hD hS dX11_schedule_77 h0
        · have hp := ite_n hp c_9
          refine lv_iload_n hx hb dX11_schedule_54 rfl (lv_at hl 0 rfl) ?_
          simp only [Option.some.injEq, Prod.mk.injEq] at hp
          obtain ⟨h0, rfl, rfl, rfl, rfl, rfl, rfl, rfl, rfl⟩ := hp
          exact e_RIi hx hb hr hk hP hD hS dX11_schedule_55 h0
      · have hp := ite_n hp c_3
        refine lv_iconst (v := (-1)) hx hb dX11_schedule_23 (by decide) ?_
        simp only [Option.some.injEq, Prod.mk.injEq] at hp
        obtain ⟨h0, rfl, rfl, rfl, rfl, rfl, rfl, rfl, rfl⟩ := hp
        exact e_RIi hx hb hr hk hP hD hS dX11_schedule_24 h0
/-! StormSlots.flight(IIII)I -/
def St_flight (ro : Mem) (p1 : Int32) (p2 : Int32) (p3 : Int32) (p4 : Int32) : Option (Int32 × Mem) :=
  bn1 (St_isLine p1) (fun r_2 => if r_2 = 0 then some ((-1), ro) else bn1 (St_isDayMinute p2) (fun r_5 => if r_5 = 0 then some ((-1), ro) else if p3 < 0 then some ((-1), ro) else if 300 < p3 then some ((-1), ro) else if p4 < 1 then some ((-1), ro) else if p4 ≤ 9 then bn2 (Ro_add ro p1 p2 p3 p4) (fun r_12 ro_13 => some (r_12, ro_13)) else some ((-1), ro)))
set_option maxHeartbeats 4000000 in
set_option maxRecDepth 100000 in
theorem c_X11_flight (l : Launch) (D : va_G) (cy : Nat → ClassId) (qsm qbsa qbsb qrd qdi qrof qpn qse qfo qro qra qvc qos qli qfot qrot qrat qvct qost qlit : Nat → Nat) (sm bsa bsb rd di rof pn se fo ro ra vc os li fot rot rat vct ost lit : Mem) (p1 p2 p3 p4 : Int32) (r : Int32) (ro' : Mem) (hp : St_flight ro p1 p2 p3 p4 = some (r, ro')) : RI l yX11_flight cX11_flight 5 (some .int) 2 D cy [.ref (qsm 0), .int p1, .int p2, .int p3, .int p4] (w_All cy qsm qbsa qbsb qrd qdi qrof qpn qse qfo qro qra qvc qos qli qfot qrot qrat qvct qost qlit sm bsa bsb rd di rof pn se fo ro ra vc os li fot rot rat vct ost lit) (w_All cy qsm qbsa qbsb qrd qdi qrof qpn qse qfo qro qra qvc qos qli qfot qrot qrat qvct qost qlit sm bsa bsb rd di rof pn se fo ro' ra vc os li fot rot rat vct ost lit) r := by
  refine RI_of RX11 rfl (by decide) (Nat.le_of_ble_eq_true rfl) ?_
  intro p e s m below meth c A C0 hK hP hD hS hA ls hl
  obtain ⟨hx, hb, hr, hml, hown, hts, hk⟩ := id C0
  unfold St_flight at hp
  have hl : lv_has ls 5 [(0, .ref (qsm 0)), (1, .int p1), (2, .int p2), (3, .int p3), (4, .int p4)] := hl
  refine lv_iload_n hx hb dX11_flight_0 rfl (lv_at hl 1 rfl) ?_
  obtain ⟨r_2, hc_1, hp⟩ := bn1_s hp
  refine k_ROS (As := [.int p1]) (rest := []) ⟨hx, hb, hml, hown, hts⟩ hK (show va_P D vwCl [] _ from fun k q h => by simp at h) (cw_X11_91 hts ⟨Nat.le_of_ble_eq_true rfl, Nat.le_of_ble_eq_true rfl⟩) (c_X11_isLine l D cy p1 r_2 hc_1) rfl hl.1 (Nat.le_of_ble_eq_true rfl) ⟨Nat.le_refl _, Nat.le_refl _⟩ dX11_flight_1 ?_
  refine lv_if_eq (tgt := 14) hx hb dX11_flight_4 (by decide) (fun c_3 => ?_) (fun c_3 => ?_)
  · have hp := ite_p hp c_3
    refine lv_iconst (v := (-1)) hx hb dX11_flight_14 (by decide) ?_
    simp only [Option.some.injEq, Prod.mk.injEq] at hp
    obtain ⟨h0, rfl⟩ := hp
    exact e_RIi hx hb hr hk hP hD hS dX11_flight_15 h0
  · have hp := ite_n hp c_3
    refine lv_iload_n hx hb dX11_flight_7 rfl (lv_at hl 2 rfl) ?_
    obtain ⟨r_5, hc_4, hp⟩ := bn1_s hp
    refine k_ROS (As := [.int p2]) (rest := []) ⟨hx, hb, hml, hown, hts⟩ hK (show va_P D vwCl [] _ from fun k q h => by simp at h) (cw_X11_95 hts ⟨Nat.le_of_ble_eq_true rfl, Nat.le_of_ble_eq_true rfl⟩) (c_X11_isDayMinute l D cy p2 r_5 hc_4) rfl hl.1 (Nat.le_of_ble_eq_true rfl) ⟨Nat.le_refl _, Nat.le_refl _⟩ dX11_flight_8 ?_
    refine lv_if_ne (tgt := 16) hx hb dX11_flight_11 (by decide) (fun c_6 => ?_) (fun c_6 => ?_)
    · have hp := ite_n hp c_6
      refine lv_iload_n hx hb dX11_flight_16 rfl (lv_at hl 3 rfl) ?_
      refine lv_if_lt (tgt := 40) hx hb dX11_flight_17 (by decide) (fun c_7 => ?_) (fun c_7 => ?_)
      · have hp := ite_p hp c_7
        refine lv_iconst (v := (-1)) hx hb dX11_flight_40 (by decide) ?_
        simp only [Option.some.injEq, Prod.mk.injEq] at hp
        obtain ⟨h0, rfl⟩ := hp
        exact e_RIi hx hb hr hk hP hD hS dX11_flight_41 h0
      · have hp := ite_n hp c_7
        refine lv_iload_n hx hb dX11_flight_20 rfl (lv_at hl 3 rfl) ?_
        refine lv_sipush (v := 300) hx hb dX11_flight_21 (by decide) ?_
        refine lv_icmp_gt (tgt := 40) hx hb dX11_flight_24 (by decide) (fun c_8 => ?_) (fun c_8 => ?_)
        · have hp := ite_p hp c_8
          refine lv_iconst (v := (-1)) hx hb dX11_flight_40 (by decide) ?_
          simp only [Option.some.injEq, Prod.mk.injEq] at hp
          obtain ⟨h0, rfl⟩ := hp
          exact e_RIi hx hb hr hk hP hD hS dX11_flight_41 h0
        · have hp := ite_n hp c_8
          refine lv_iload hx hb dX11_flight_27 (lv_at hl 4 rfl) ?_
          refine lv_iconst (v := 1) hx hb dX11_flight_29 (by decide) ?_
          refine lv_icmp_lt (tgt := 40) hx hb dX11_flight_30 (by decide) (fun c_9 => ?_) (fun c_9 => ?_)
          · have hp := ite_p hp c_9
            refine lv_iconst (v := (-1)) hx hb dX11_flight_40 (by decide) ?_
            simp only [Option.some.injEq, Prod.mk.injEq] at hp
            obtain ⟨h0, rfl⟩ := hp
            exact e_RIi hx hb hr hk hP hD hS dX11_flight_41 h0
          · have hp := ite_n hp c_9
            refine lv_iload hx hb dX11_flight_33 (lv_at hl 4 rfl) ?_
            refine lv_bipush (v := 9) hx hb dX11_flight_35 (by decide) ?_
            refine lv_icmp_le (tgt := 42) hx hb dX11_flight_37 (by decide) (fun c_10 => ?_) (fun c_10 => ?_)
            · have hp := ite_p hp c_10
              refine lv_aload_n hx hb dX11_flight_42 rfl (lv_at hl 0 rfl) ?_
              refine gf_X11_57 hx hb hts hown hK hP 0 rfl rfl dX11_flight_43 ?_
              refine gf_X11_87 hx hb hts hown hK hP 20 rfl rfl dX11_flight_46 ?_
              refine lv_iload_n hx hb dX11_flight_49 rfl (lv_at hl 1 rfl) ?_
              refine lv_iload_n hx hb dX11_flight_50 rfl (lv_at hl 2 rfl) ?_
              refine lv_iload_n hx hb dX11_flight_51 rfl (lv_at hl 3 rfl) ?_
              refine lv_iload hx hb dX11_flight_52 (lv_at hl 4 rfl) ?_
              obtain ⟨r_12, ro_13, hc_11, hp⟩ := bn2_s hp
              refine k_RIV (As := [.int p1, .int p2, .int p3, .int p4]) (rest := []) ⟨hx, hb, hml, hown, hts⟩ hK hP hD hS hA (FrS_set (ws := (w_All cy qsm qbsa qbsb qrd qdi qrof qpn qse qfo qro qra qvc qos qli qfot qrot qrat qvct qost qlit sm bsa bsb rd di rof pn se fo ro ra vc os li fot rot rat vct ost lit)) (wc := (w_Ro cy qro ro)) (w1 := (w_Ro cy qro ro_13)) (wn := (w_All cy qsm qbsa qbsb qrd qdi qrof qpn qse qfo qro qra qvc qos qli qfot qrot qrat qvct qost qlit sm bsa bsb rd di rof pn se fo ro_13 ra vc os li fot rot rat vct ost lit)) [24, 25, 26, 27, 28] [none, none, none, none, none, none, none, none, none, none, none, none, none, none, none, none, none, none, none, none, none, none, none, none, some 0, some 1, some 2, some 3, some 4, none, none, none, none, none, none, none, none, none, none, none, none, none, none, none, none, none, none, none, none, none, none, none, none, none, none, none, none, none, none, none, none, none, none, none, none, none] (by decide +kernel) rfl rfl rfl) (cw_X11_98 hts ⟨Nat.le_of_ble_eq_true rfl, Nat.le_of_ble_eq_true rfl⟩) 0 (ci := 9) rfl rfl rfl (c_X9_add l D cy qro ro p1 p2 p3 p4 r_12 ro_13 hc_11) rfl hl.1 (Nat.le_of_ble_eq_true rfl) ⟨Nat.le_refl _, Nat.le_refl _⟩ dX11_flight_54 (fun H locs hP hD hS => ?_)
              simp only [Option.some.injEq, Prod.mk.injEq] at hp
              obtain ⟨h0, rfl⟩ := hp
              exact e_RIi hx hb hr hk hP hD hS dX11_flight_57 h0
            · have hp := ite_n hp c_10
              refine lv_iconst (v := (-1)) hx hb dX11_flight_40 (by decide) ?_
              simp only [Option.some.injEq, Prod.mk.injEq] at hp
              obtain ⟨h0, rfl⟩ := hp
              exact e_RIi hx hb hr hk hP hD hS dX11_flight_41 h0
    · have hp := ite_p hp c_6
      refine lv_iconst (v := (-1)) hx hb dX11_flight_14 (by decide) ?_
      simp only [Option.some.injEq, Prod.mk.injEq] at hp
      obtain ⟨h0, rfl⟩ := hp
      exact e_RIi hx hb hr hk hP hD hS dX11_flight_15 h0
/-! StormSlots.draws(II)I -/
def St_draws_b31B (p1 : Int32) (p2 : Int32) (k31 : Mem → Mem → Mem → Mem → Mem → Mem → Mem → Int32 → Option (Int32 × Mem × Mem × Mem × Mem × Mem × Mem × Mem)) (di : Mem) (rof : Mem) (fo : Mem) (ro : Mem) (vc : Mem) (os : Mem) (li : Mem) (x3 : Int32) : Option (Int32 × Mem × Mem × Mem × Mem × Mem × Mem × Mem) :=
  if p2 ≤ x3 then bn5 (Fi_takeRoster fo ro vc os li rof) (fun fo_8 ro_9 vc_10 os_11 li_12 => some ((di 0 0), di, rof, fo_8, ro_9, vc_10, os_11, li_12)) else bn2 (Di_roll di 5) (fun r_14 di_15 => bn2 (Di_roll di_15 720) (fun r_17 di_18 => bn2 (Di_roll di_18 301) (fun r_20 di_21 => bn2 (Di_roll di_21 9) (fun r_23 di_24 => stk (r_23 + 1) (fun x7_25 => bn2 (Ro_add rof r_14 r_17 r_20 x7_25) (fun r_27 rof_28 => stk (x3 + 1) (fun x3_29 => k31 di_24 rof_28 fo ro vc os li x3_29)))))))
def St_draws_b31 (p1 : Int32) (p2 : Int32) : Nat → Mem → Mem → Mem → Mem → Mem → Mem → Mem → Int32 → Option (Int32 × Mem × Mem × Mem × Mem × Mem × Mem × Mem)
  | 0 => fun _ _ _ _ _ _ _ _ => none
  | n + 1 => St_draws_b31B p1 p2 (St_draws_b31 p1 p2 n)
def St_draws (di : Mem) (rof : Mem) (fo : Mem) (ro : Mem) (vc : Mem) (os : Mem) (li : Mem) (p1 : Int32) (p2 : Int32) : Option (Int32 × Mem × Mem × Mem × Mem × Mem × Mem × Mem) :=
  if p2 < 1 then some ((-1), di, rof, fo, ro, vc, os, li) else if p2 ≤ 20 then bn1 (Di_start di p1) (fun di_4 => stk (upm rof 4 0 0) (fun rof_5 => St_draws_b31 p1 p2 fl di_4 rof_5 fo ro vc os li 0)) else some ((-1), di, rof, fo, ro, vc, os, li)
set_option maxHeartbeats 4000000 in
set_option maxRecDepth 100000 in
theorem St_draws_b31B_w (C0 : cX RX11 cX11_draws (some .int) 8 p s m args meth c) (hK : kN D cy s) {qsm qbsa qbsb qrd qdi qrof qpn qse qfo qro qra qvc qos qli qfot qrot qrat qvct qost qlit : Nat → Nat} {sm bsa bsb rd pn se ra fot rot rat vct ost lit : Mem} {p1 p2 : Int32} {r : Int32} {di' rof' fo' ro' vc' os' li' : Mem} (hA : ∀ q, s.heap.size ≤ q → A q) {k31 : Mem → Mem → Mem → Mem → Mem → Mem → Mem → Int32 → Option (Int32 × Mem × Mem × Mem × Mem × Mem × Mem × Mem)} (hk31 : ∀ (di rof fo ro vc os li : Mem) (x3 : Int32) (H : Heap) (locs : List Loc) (ls : Array Slot), va_P D vwCl (w_All cy qsm qbsa qbsb qrd qdi qrof qpn qse qfo qro qra qvc qos qli qfot qrot qrat qvct qost qlit sm bsa bsb rd di rof pn se fo ro ra vc os li fot rot rat vct ost lit) H → va_D A (w_All cy qsm qbsa qbsb qrd qdi qrof qpn qse qfo qro qra qvc qos qli qfot qrot qrat qvct qost qlit sm bsa bsb rd di rof pn se fo ro ra vc os li fot rot rat vct ost lit) → va_S A s.heap H locs → lv_has ls 8 [(0, .ref (qsm 0)), (1, .int p1), (2, .int p2), (3, .int x3)] → k31 di rof fo ro vc os li x3 = some (r, di', rof', fo', ro', vc', os', li') → W p l e (rmD 4) s m args below meth c H locs 0 0 (qRI D below args s A (w_All cy qsm qbsa qbsb qrd qdi qrof qpn qse qfo qro qra qvc qos qli qfot qrot qrat qvct qost qlit sm bsa bsb rd di' rof' pn se fo' ro' ra vc' os' li' fot rot rat vct ost lit) r) (F0 m 31 ls [])) {di : Mem} {rof : Mem} {fo : Mem} {ro : Mem} {vc : Mem} {os : Mem} {li : Mem} {x3 : Int32} {H : Heap} {locs : List Loc} (hP : va_P D vwCl (w_All cy qsm qbsa qbsb qrd qdi qrof qpn qse qfo qro qra qvc qos qli qfot qrot qrat qvct qost qlit sm bsa bsb rd di rof pn se fo ro ra vc os li fot rot rat vct ost lit) H) (hD : va_D A (w_All cy qsm qbsa qbsb qrd qdi qrof qpn qse qfo qro qra qvc qos qli qfot qrot qrat qvct qost qlit sm bsa bsb rd di rof pn se fo ro ra vc os li fot rot rat vct ost lit)) (hS : va_S A s.heap H locs) {ls : Array Slot} (hl : lv_has ls 8 [(0, .ref (qsm 0)), (1, .int p1), (2, .int p2), (3, .int x3)]) (hp : St_draws_b31B p1 p2 k31 di rof fo ro vc os li x3 = some (r, di', rof', fo', ro', vc', os', li')) : W p l e (rmD 4) s m args below meth c H locs 0 0 (qRI D below args s A (w_All cy qsm qbsa qbsb qrd qdi qrof qpn qse qfo qro qra qvc qos qli qfot qrot qrat qvct qost qlit sm bsa bsb rd di' rof' pn se fo' ro' ra vc' os' li' fot rot rat vct ost lit) r) (F0 m 31 ls []) := by
  obtain ⟨hx, hb, hr, hml, hown, hts, hk⟩ := id C0
  unfold St_draws_b31B at hp
  refine lv_iload_n hx hb dX11_draws_31 rfl (lv_at hl 3 rfl) ?_
  refine lv_iload_n hx hb dX11_draws_32 rfl (lv_at hl 2 rfl) ?_
  refine lv_icmp_ge (tgt := 105) hx hb dX11_draws_33 (by decide) (fun c_6 => ?_) (fun c_6 => ?_)
  · have hp := ite_p hp c_6
    refine lv_aload_n hx hb dX11_draws_105 rfl (lv_at hl 0 rfl) ?_
    refine gf_X11_57 hx hb hts hown hK hP 0 rfl rfl dX11_draws_106 ?_
    refine lv_aload_n hx hb dX11_draws_109 rfl (lv_at hl 0 rfl) ?_
    refine gf_X11_36 hx hb hts hown hK hP 0 rfl rfl dX11_draws_110 ?_
    obtain ⟨fo_8, ro_9, vc_10, os_11, li_12, hc_7, hp⟩ := bn5_s hp
    refine k_RVV (As := [.ref (qrof 0)]) (rest := []) ⟨hx, hb, hml, hown, hts⟩ hK hP hD hS hA (FrS_set (ws := (w_All cy qsm qbsa qbsb qrd qdi qrof qpn qse qfo qro qra qvc qos qli qfot qrot qrat qvct qost qlit sm bsa bsb rd di rof pn se fo ro ra vc os li fot rot rat vct ost lit)) (wc := (w_FiRo cy qfo qro qra qvc qos qli qrof fo ro ra vc os li rof)) (w1 := (w_FiRo cy qfo qro qra qvc qos qli qrof fo_8 ro_9 ra vc_10 os_11 li_12 rof)) (wn := (w_All cy qsm qbsa qbsb qrd qdi qrof qpn qse qfo qro qra qvc qos qli qfot qrot qrat qvct qost qlit sm bsa bsb rd di rof pn se fo_8 ro_9 ra vc_10 os_11 li_12 fot rot rat vct ost lit)) [20, 21, 22, 23, 24, 25, 26, 27, 28, 29, 30, 31, 32, 33, 34, 35, 36, 37, 38, 39, 40, 41, 42, 7, 8, 9, 10, 11] [none, none, none, none, none, none, none, some 23, some 24, some 25, some 26, some 27, none, none, none, none, none, none, none, none, some 0, some 1, some 2, some 3, some 4, some 5, some 6, some 7, some 8, some 9, some 10, some 11, some 12, some 13, some 14, some 15, some 16, some 17, some 18, some 19, some 20, some 21, some 22, none, none, none, none, none, none, none, none, none, none, none, none, none, none, none, none, none, none, none, none, none, none, none] (by decide +kernel) rfl rfl rfl) (cw_X11_83 hts ⟨Nat.le_of_ble_eq_true rfl, Nat.le_of_ble_eq_true rfl⟩) 0 (ci := 2) rfl rfl rfl (c_X2_takeRoster l D cy qfo qro qra qvc qos qli qrof fo ro ra vc os li rof fo_8 ro_9 vc_10 os_11 li_12 hc_7) rfl hl.1 (Nat.le_of_ble_eq_true rfl) ⟨Nat.le_refl _, Nat.le_refl _⟩ dX11_draws_113 (fun H locs hP hD hS => ?_)
    refine lv_aload_n hx hb dX11_draws_116 rfl (lv_at hl 0 rfl) ?_
    refine gf_X11_29 hx hb hts hown hK hP 0 rfl rfl dX11_draws_117 ?_
    refine gf_X11_109 hx hb hts hown hK hP 6 rfl rfl dX11_draws_120 ?_
    simp only [Option.some.injEq, Prod.mk.injEq] at hp
    obtain ⟨h0, rfl, rfl, rfl, rfl, rfl, rfl, rfl⟩ := hp
    exact e_RIi hx hb hr hk hP hD hS dX11_draws_123 h0
  · have hp := ite_n hp c_6
    refine lv_aload_n hx hb dX11_draws_36 rfl (lv_at hl 0 rfl) ?_
    refine gf_X11_29 hx hb hts hown hK hP 0 rfl rfl dX11_draws_37 ?_
    refine lv_iconst (v := 5) hx hb dX11_draws_40 (by decide) ?_
    obtain ⟨r_14, di_15, hc_13, hp⟩ := bn2_s hp
    refine k_RIV (As := [.int 5]) (rest := []) ⟨hx, hb, hml, hown, hts⟩ hK hP hD hS hA (FrS_set (ws := (w_All cy qsm qbsa qbsb qrd qdi qrof qpn qse qfo qro qra qvc qos qli qfot qrot qrat qvct qost qlit sm bsa bsb rd di rof pn se fo ro ra vc os li fot rot rat vct ost lit)) (wc := (w_Di cy qdi di)) (w1 := (w_Di cy qdi di_15)) (wn := (w_All cy qsm qbsa qbsb qrd qdi qrof qpn qse qfo qro qra qvc qos qli qfot qrot qrat qvct qost qlit sm bsa bsb rd di_15 rof pn se fo ro ra vc os li fot rot rat vct ost lit)) [6] [none, none, none, none, none, none, some 0, none, none, none, none, none, none, none, none, none, none, none, none, none, none, none, none, none, none, none, none, none, none, none, none, none, none, none, none, none, none, none, none, none, none, none, none, none, none, none, none, none, none, none, none, none, none, none, none, none, none, none, none, none, none, none, none, none, none, none] (by decide +kernel) rfl rfl rfl) (cw_X11_105 hts ⟨Nat.le_of_ble_eq_true rfl, Nat.le_of_ble_eq_true rfl⟩) 0 (ci := 1) rfl rfl rfl (c_X1_roll l D cy qdi di 5 r_14 di_15 hc_13) rfl hl.1 (Nat.le_of_ble_eq_true rfl) ⟨Nat.le_refl _, Nat.le_refl _⟩ dX11_draws_41 (fun H locs hP hD hS => ?_)
    refine lv_istore (lv' := [(4, .int r_14), (0, .ref (qsm 0)), (1, .int p1), (2, .int p2), (3, .int x3)]) hx hb dX11_draws_44 hl (by decide) rfl (fun ls hl => ?_)
    refine lv_aload_n hx hb dX11_draws_46 rfl (lv_at hl 1 rfl) ?_
    refine gf_X11_29 hx hb hts hown hK hP 0 rfl rfl dX11_draws_47 ?_
    refine lv_sipush (v := 720) hx hb dX11_draws_50 (by decide) ?_
    obtain ⟨r_17, di_18, hc_16, hp⟩ := bn2_s hp
    refine k_RIV (As := [.int 720]) (rest := []) ⟨hx, hb, hml, hown, hts⟩ hK hP hD hS hA (FrS_set (ws := (w_All cy qsm qbsa qbsb qrd qdi qrof qpn qse qfo qro qra qvc qos qli qfot qrot qrat qvct qost qlit sm bsa bsb rd di_15 rof pn se fo ro ra vc os li fot rot rat vct ost lit)) (wc := (w_Di cy qdi di_15)) (w1 := (w_Di cy qdi di_18)) (wn := (w_All cy qsm qbsa qbsb qrd qdi qrof qpn qse qfo qro qra qvc qos qli qfot qrot qrat qvct qost qlit sm bsa bsb rd di_18 rof pn se fo ro ra vc os li fot rot rat vct ost lit)) [6] [none, none, none, none, none, none, some 0, none, none, none, none, none, none, none, none, none, none, none, none, none, none, none, none, none, none, none, none, none, none, none, none, none, none, none, none, none, none, none, none, none, none, none, none, none, none, none, none, none, none, none, none, none, none, none, none, none, none, none, none, none, none, none, none, none, none, none] (by decide +kernel) rfl rfl rfl) (cw_X11_105 hts ⟨Nat.le_of_ble_eq_true rfl, Nat.le_of_ble_eq_true rfl⟩) 0 (ci := 1) rfl rfl rfl (c_X1_roll l D cy qdi di_15 720 r_17 di_18 hc_16) rfl hl.1 (Nat.le_of_ble_eq_true rfl) ⟨Nat.le_refl _, Nat.le_refl _⟩ dX11_draws_53 (fun H locs hP hD hS => ?_)
    refine lv_istore (lv' := [(5, .int r_17), (4, .int r_14), (0, .ref (qsm 0)), (1, .int p1), (2, .int p2), (3, .int x3)]) hx hb dX11_draws_56 hl (by decide) rfl (fun ls hl => ?_)
    refine lv_aload_n hx hb dX11_draws_58 rfl (lv_at hl 2 rfl) ?_
    refine gf_X11_29 hx hb hts hown hK hP 0 rfl rfl dX11_draws_59 ?_
    refine lv_sipush (v := 301) hx hb dX11_draws_62 (by decide) ?_
    obtain ⟨r_20, di_21, hc_19, hp⟩ := bn2_s hp
    refine k_RIV (As := [.int 301]) (rest := []) ⟨hx, hb, hml, hown, hts⟩ hK hP hD hS hA (FrS_set (ws := (w_All cy qsm qbsa qbsb qrd qdi qrof qpn qse qfo qro qra qvc qos qli qfot qrot qrat qvct qost qlit sm bsa bsb rd di_18 rof pn se fo ro ra vc os li fot rot rat vct ost lit)) (wc := (w_Di cy qdi di_18)) (w1 := (w_Di cy qdi di_21)) (wn := (w_All cy qsm qbsa qbsb qrd qdi qrof qpn qse qfo qro qra qvc qos qli qfot qrot qrat qvct qost qlit sm bsa bsb rd di_21 rof pn se fo ro ra vc os li fot rot rat vct ost lit)) [6] [none, none, none, none, none, none, some 0, none, none, none, none, none, none, none, none, none, none, none, none, none, none, none, none, none, none, none, none, none, none, none, none, none, none, none, none, none, none, none, none, none, none, none, none, none, none, none, none, none, none, none, none, none, none, none, none, none, none, none, none, none, none, none, none, none, none, none] (by decide +kernel) rfl rfl rfl) (cw_X11_105 hts ⟨Nat.le_of_ble_eq_true rfl, Nat.le_of_ble_eq_true rfl⟩) 0 (ci := 1) rfl rfl rfl (c_X1_roll l D cy qdi di_18 301 r_20 di_21 hc_19) rfl hl.1 (Nat.le_of_ble_eq_true rfl) ⟨Nat.le_refl _, Nat.le_refl _⟩ dX11_draws_65 (fun H locs hP hD hS => ?_)
    refine lv_istore (lv' := [(6, .int r_20), (5, .int r_17), (4, .int r_14), (0, .ref (qsm 0)), (1, .int p1), (2, .int p2), (3, .int x3)]) hx hb dX11_draws_68 hl (by decide) rfl (fun ls hl => ?_)
    refine lv_aload_n hx hb dX11_draws_70 rfl (lv_at hl 3 rfl) ?_
    refine gf_X11_29 hx hb hts hown hK hP 0 rfl rfl dX11_draws_71 ?_
    refine lv_bipush (v := 9) hx hb dX11_draws_74 (by decide) ?_
    obtain ⟨r_23, di_24, hc_22, hp⟩ := bn2_s hp
    refine k_RIV (As := [.int 9]) (rest := []) ⟨hx, hb, hml, hown, hts⟩ hK hP hD hS hA (FrS_set (ws := (w_All cy qsm qbsa qbsb qrd qdi qrof qpn qse qfo qro qra qvc qos qli qfot qrot qrat qvct qost qlit sm bsa bsb rd di_21 rof pn se fo ro ra vc os li fot rot rat vct ost lit)) (wc := (w_Di cy qdi di_21)) (w1 := (w_Di cy qdi di_24)) (wn := (w_All cy qsm qbsa qbsb qrd qdi qrof qpn qse qfo qro qra qvc qos qli qfot qrot qrat qvct qost qlit sm bsa bsb rd di_24 rof pn se fo ro ra vc os li fot rot rat vct ost lit)) [6] [none, none, none, none, none, none, some 0, none, none, none, none, none, none, none, none, none, none, none, none, none, none, none, none, none, none, none, none, none, none, none, none, none, none, none, none, none, none, none, none, none, none, none, none, none, none, none, none, none, none, none, none, none, none, none, none, none, none, none, none, none, none, none, none, none, none, none] (by decide +kernel) rfl rfl rfl) (cw_X11_105 hts ⟨Nat.le_of_ble_eq_true rfl, Nat.le_of_ble_eq_true rfl⟩) 0 (ci := 1) rfl rfl rfl (c_X1_roll l D cy qdi di_21 9 r_23 di_24 hc_22) rfl hl.1 (Nat.le_of_ble_eq_true rfl) ⟨Nat.le_refl _, Nat.le_refl _⟩ dX11_draws_76 (fun H locs hP hD hS => ?_)
    refine lv_iconst (v := 1) hx hb dX11_draws_79 (by decide) ?_
    refine lv_iadd hx hb dX11_draws_80 ?_
    refine lv_topi (fun x7_25 ex7_25 => ?_)
    have hp := stk_e hp ex7_25
    refine lv_istore (lv' := [(7, .int x7_25), (6, .int r_20), (5, .int r_17), (4, .int r_14), (0, .ref (qsm 0)), (1, .int p1), (2, .int p2), (3, .int x3)]) hx hb dX11_draws_81 hl (by decide) rfl (fun ls hl => ?_)
    refine lv_aload_n hx hb dX11_draws_83 rfl (lv_at hl 4 rfl) ?_
    refine gf_X11_36 hx hb hts hown hK hP 0 rfl rfl dX11_draws_84 ?_
    refine lv_iload hx hb dX11_draws_87 (lv_at hl 3 rfl) ?_
    refine lv_iload hx hb dX11_draws_89 (lv_at hl 2 rfl) ?_
    refine lv_iload hx hb dX11_draws_91 (lv_at hl 1 rfl) ?_
    refine lv_iload hx hb dX11_draws_93 (lv_at hl 0 rfl) ?_
    obtain ⟨r_27, rof_28, hc_26, hp⟩ := bn2_s hp
    refine k_RIV (As := [.int r_14, .int r_17, .int r_20, .int x7_25]) (rest := []) ⟨hx, hb, hml, hown, hts⟩ hK hP hD hS hA (FrS_set (ws := (w_All cy qsm qbsa qbsb qrd qdi qrof qpn qse qfo qro qra qvc qos qli qfot qrot qrat qvct qost qlit sm bsa bsb rd di_24 rof pn se fo ro ra vc os li fot rot rat vct ost lit)) (wc := (w_Ro cy qrof rof)) (w1 := (w_Ro cy qrof rof_28)) (wn := (w_All cy qsm qbsa qbsb qrd qdi qrof qpn qse qfo qro qra qvc qos qli qfot qrot qrat qvct qost qlit sm bsa bsb rd di_24 rof_28 pn se fo ro ra vc os li fot rot rat vct ost lit)) [7, 8, 9, 10, 11] [none, none, none, none, none, none, none, some 0, some 1, some 2, some 3, some 4, none, none, none, none, none, none, none, none, none, none, none, none, none, none, none, none, none, none, none, none, none, none, none, none, none, none, none, none, none, none, none, none, none, none, none, none, none, none, none, none, none, none, none, none, none, none, none, none, none, none, none, none, none, none] (by decide +kernel) rfl rfl rfl) (cw_X11_98 hts ⟨Nat.le_of_ble_eq_true rfl, Nat.le_of_ble_eq_true rfl⟩) 0 (ci := 9) rfl rfl rfl (c_X9_add l D cy qrof rof r_14 r_17 r_20 x7_25 r_27 rof_28 hc_26) rfl hl.1 (Nat.le_of_ble_eq_true rfl) ⟨Nat.le_refl _, Nat.le_refl _⟩ dX11_draws_95 (fun H locs hP hD hS => ?_)
    refine lv_pop hx hb dX11_draws_98 rfl ?_
    obtain ⟨x3_29, ex3_29⟩ : ∃ y : Int32, y = x3 + 1 := ⟨_, rfl⟩
    have hp := stk_e hp ex3_29
    refine lv_iinc (v := x3_29) (lv' := [(3, .int x3_29), (7, .int x7_25), (6, .int r_20), (5, .int r_17), (4, .int r_14), (0, .ref (qsm 0)), (1, .int p1), (2, .int p2)]) hx hb dX11_draws_99 hl (k := 7) rfl (by rw [ex3_29]; rfl) (by decide) rfl (fun ls hl => ?_)
    refine lv_goto (tgt := 31) hx hb dX11_draws_102 (by decide) ?_
    exact hk31 di_24 rof_28 fo ro vc os li x3_29 _ _ _ hP hD hS (lv_sub hl [5, 6, 7, 0] rfl) hp
theorem St_draws_b31_w (C0 : cX RX11 cX11_draws (some .int) 8 p s m args meth c) (hK : kN D cy s) {qsm qbsa qbsb qrd qdi qrof qpn qse qfo qro qra qvc qos qli qfot qrot qrat qvct qost qlit : Nat → Nat} {sm bsa bsb rd pn se ra fot rot rat vct ost lit : Mem} {p1 p2 : Int32} {r : Int32} {di' rof' fo' ro' vc' os' li' : Mem} (hA : ∀ q, s.heap.size ≤ q → A q) : ∀ (n : Nat) (di rof fo ro vc os li : Mem) (x3 : Int32) (H : Heap) (locs : List Loc) (ls : Array Slot), va_P D vwCl (w_All cy qsm qbsa qbsb qrd qdi qrof qpn qse qfo qro qra qvc qos qli qfot qrot qrat qvct qost qlit sm bsa bsb rd di rof pn se fo ro ra vc os li fot rot rat vct ost lit) H → va_D A (w_All cy qsm qbsa qbsb qrd qdi qrof qpn qse qfo qro qra qvc qos qli qfot qrot qrat qvct qost qlit sm bsa bsb rd di rof pn se fo ro ra vc os li fot rot rat vct ost lit) → va_S A s.heap H locs → lv_has ls 8 [(0, .ref (qsm 0)), (1, .int p1), (2, .int p2), (3, .int x3)] → St_draws_b31 p1 p2 n di rof fo ro vc os li x3 = some (r, di', rof', fo', ro', vc', os', li') → W p l e (rmD 4) s m args below meth c H locs 0 0 (qRI D below args s A (w_All cy qsm qbsa qbsb qrd qdi qrof qpn qse qfo qro qra qvc qos qli qfot qrot qrat qvct qost qlit sm bsa bsb rd di' rof' pn se fo' ro' ra vc' os' li' fot rot rat vct ost lit) r) (F0 m 31 ls []) := by
  intro n
  induction n with
  | zero =>
    intro di rof fo ro vc os li x3 H locs ls hP hD hS hl hp
    cases hp
  | succ n ih =>
    intro di rof fo ro vc os li x3 H locs ls hP hD hS hl hp
    exact St_draws_b31B_w C0 hK hA  (fun di rof fo ro vc os li x3 H locs ls hP hD hS hl hp => ih di rof fo ro vc os li x3 H locs ls hP hD hS hl hp) hP hD hS hl hp
set_option maxHeartbeats 4000000 in
set_option maxRecDepth 100000 in
theorem c_X11_draws (l : Launch) (D : va_G) (cy : Nat → ClassId) (qsm qbsa qbsb qrd qdi qrof qpn qse qfo qro qra qvc qos qli qfot qrot qrat qvct qost qlit : Nat → Nat) (sm bsa bsb rd di rof pn se fo ro ra vc os li fot rot rat vct ost lit : Mem) (p1 p2 : Int32) (r : Int32) (di' rof' fo' ro' vc' os' li' : Mem) (hp : St_draws di rof fo ro vc os li p1 p2 = some (r, di', rof', fo', ro', vc', os', li')) : RI l yX11_draws cX11_draws 8 (some .int) 4 D cy [.ref (qsm 0), .int p1, .int p2] (w_All cy qsm qbsa qbsb qrd qdi qrof qpn qse qfo qro qra qvc qos qli qfot qrot qrat qvct qost qlit sm bsa bsb rd di rof pn se fo ro ra vc os li fot rot rat vct ost lit) (w_All cy qsm qbsa qbsb qrd qdi qrof qpn qse qfo qro qra qvc qos qli qfot qrot qrat qvct qost qlit sm bsa bsb rd di' rof' pn se fo' ro' ra vc' os' li' fot rot rat vct ost lit) r := by
  refine RI_of RX11 rfl (by decide) (Nat.le_of_ble_eq_true rfl) ?_
  intro p e s m below meth c A C0 hK hP hD hS hA ls hl
  obtain ⟨hx, hb, hr, hml, hown, hts, hk⟩ := id C0
  unfold St_draws at hp
  have hl : lv_has ls 8 [(0, .ref (qsm 0)), (1, .int p1), (2, .int p2)] := hl
  refine lv_iload_n hx hb dX11_draws_0 rfl (lv_at hl 2 rfl) ?_
  refine lv_iconst (v := 1) hx hb dX11_draws_1 (by decide) ?_
  refine lv_icmp_lt (tgt := 11) hx hb dX11_draws_2 (by decide) (fun c_1 => ?_) (fun c_1 => ?_)
  · have hp := ite_p hp c_1
    refine lv_iconst (v := (-1)) hx hb dX11_draws_11 (by decide) ?_
    simp only [Option.some.injEq, Prod.mk.injEq] at hp
    obtain ⟨h0, rfl, rfl, rfl, rfl, rfl, rfl, rfl⟩ := hp
    exact e_RIi hx hb hr hk hP hD hS dX11_draws_12 h0
  · have hp := ite_n hp c_1
    refine lv_iload_n hx hb dX11_draws_5 rfl (lv_at hl 2 rfl) ?_
    refine lv_bipush (v := 20) hx hb dX11_draws_6 (by decide) ?_
    refine lv_icmp_le (tgt := 13) hx hb dX11_draws_8 (by decide) (fun c_2 => ?_) (fun c_2 => ?_)
    · have hp := ite_p hp c_2
      refine lv_aload_n hx hb dX11_draws_13 rfl (lv_at hl 0 rfl) ?_
      refine gf_X11_29 hx hb hts hown hK hP 0 rfl rfl dX11_draws_14 ?_
      refine lv_iload_n hx hb dX11_draws_17 rfl (lv_at hl 1 rfl) ?_
      obtain ⟨di_4, hc_3, hp⟩ := bn1_s hp
      refine k_RVV (As := [.int p1]) (rest := []) ⟨hx, hb, hml, hown, hts⟩ hK hP hD hS hA (FrS_set (ws := (w_All cy qsm qbsa qbsb qrd qdi qrof qpn qse qfo qro qra qvc qos qli qfot qrot qrat qvct qost qlit sm bsa bsb rd di rof pn se fo ro ra vc os li fot rot rat vct ost lit)) (wc := (w_Di cy qdi di)) (w1 := (w_Di cy qdi di_4)) (wn := (w_All cy qsm qbsa qbsb qrd qdi qrof qpn qse qfo qro qra qvc qos qli qfot qrot qrat qvct qost qlit sm bsa bsb rd di_4 rof pn se fo ro ra vc os li fot rot rat vct ost lit)) [6] [none, none, none, none, none, none, some 0, none, none, none, none, none, none, none, none, none, none, none, none, none, none, none, none, none, none, none, none, none, none, none, none, none, none, none, none, none, none, none, none, none, none, none, none, none, none, none, none, none, none, none, none, none, none, none, none, none, none, none, none, none, none, none, none, none, none, none] (by decide +kernel) rfl rfl rfl) (cw_X11_102 hts ⟨Nat.le_of_ble_eq_true rfl, Nat.le_of_ble_eq_true rfl⟩) 0 (ci := 1) rfl rfl rfl (c_X1_start l D cy qdi di p1 di_4 hc_3) rfl hl.1 (Nat.le_of_ble_eq_true rfl) ⟨Nat.le_refl _, Nat.le_refl _⟩ dX11_draws_18 (fun H locs hP hD hS => ?_)
      refine lv_aload_n hx hb dX11_draws_21 rfl (lv_at hl 0 rfl) ?_
      refine gf_X11_36 hx hb hts hown hK hP 0 rfl rfl dX11_draws_22 ?_
      refine lv_iconst (v := 0) hx hb dX11_draws_25 (by decide) ?_
      obtain ⟨rof_5, erof_5⟩ : ∃ y : Mem, y = upm rof 4 0 0 := ⟨_, rfl⟩
      have hp := stk_e hp erof_5
      refine pf_X11_90 hx hb hts hown hK hP hD hS (wn := (w_All cy qsm qbsa qbsb qrd qdi qrof qpn qse qfo qro qra qvc qos qli qfot qrot qrat qvct qost qlit sm bsa bsb rd di_4 rof_5 pn se fo ro ra vc os li fot rot rat vct ost lit)) 7 rfl (Nat.le_of_ble_eq_true rfl) (by subst erof_5; rfl) dX11_draws_26 (fun H locs hP hD hS => ?_)
      refine lv_iconst (v := 0) hx hb dX11_draws_29 (by decide) ?_
      refine lv_istore_n (lv' := [(3, .int 0), (0, .ref (qsm 0)), (1, .int p1), (2, .int p2)]) hx hb dX11_draws_30 rfl hl (by decide) rfl (fun ls hl => ?_)
      exact St_draws_b31_w C0 hK hA  fl di_4 rof_5 fo ro vc os li 0 _ _ _ hP hD hS (lv_sub hl [1, 2, 3, 0] rfl) hp
    · have hp := ite_n hp c_2
      refine lv_iconst (v := (-1)) hx hb dX11_draws_11 (by decide) ?_
      simp only [Option.some.injEq, Prod.mk.injEq] at hp
      obtain ⟨h0, rfl, rfl, rfl, rfl, rfl, rfl, rfl⟩ := hp
      exact e_RIi hx hb hr hk hP hD hS dX11_draws_12 h0
/-! StormSlots.letter(I)I -/
def St_letter (bsb : Mem) (ro : Mem) (p1 : Int32) : Option (Int32 × Mem) :=
  if (-1) ≤ p1 then bn1 (Ro_writeTo ro bsb) (fun bsb_3 => if p1 = (-1) then some ((bsb_3 1 0), bsb_3) else if (bsb_3 1 0) ≤ p1 then some ((-2), bsb_3) else bn1 (By_byteAt bsb_3 p1) (fun r_7 => some (r_7, bsb_3))) else some ((-1), bsb)
set_option maxHeartbeats 4000000 in
set_option maxRecDepth 100000 in
theorem c_X11_letter (l : Launch) (D : va_G) (cy : Nat → ClassId) (qsm qbsa qbsb qrd qdi qrof qpn qse qfo qro qra qvc qos qli qfot qrot qrat qvct qost qlit : Nat → Nat) (sm bsa bsb rd di rof pn se fo ro ra vc os li fot rot rat vct ost lit : Mem) (p1 : Int32) (r : Int32) (bsb' : Mem) (hp : St_letter bsb ro p1 = some (r, bsb')) : RI l yX11_letter cX11_letter 2 (some .int) 3 D cy [.ref (qsm 0), .int p1] (w_All cy qsm qbsa qbsb qrd qdi qrof qpn qse qfo qro qra qvc qos qli qfot qrot qrat qvct qost qlit sm bsa bsb rd di rof pn se fo ro ra vc os li fot rot rat vct ost lit) (w_All cy qsm qbsa qbsb qrd qdi qrof qpn qse qfo qro qra qvc qos qli qfot qrot qrat qvct qost qlit sm bsa bsb' rd di rof pn se fo ro ra vc os li fot rot rat vct ost lit) r := by
  refine RI_of RX11 rfl (by decide) (Nat.le_of_ble_eq_true rfl) ?_
  intro p e s m below meth c A C0 hK hP hD hS hA ls hl
  obtain ⟨hx, hb, hr, hml, hown, hts, hk⟩ := id C0
  unfold St_letter at hp
  have hl : lv_has ls 2 [(0, .ref (qsm 0)), (1, .int p1)] := hl
  refine lv_iload_n hx hb dX11_letter_0 rfl (lv_at hl 1 rfl) ?_
  refine lv_iconst (v := (-1)) hx hb dX11_letter_1 (by decide) ?_
  refine lv_icmp_ge (tgt := 7) hx hb dX11_letter_2 (by decide) (fun c_1 => ?_) (fun c_1 => ?_)
  · have hp := ite_p hp c_1
    refine lv_aload_n hx hb dX11_letter_7 rfl (lv_at hl 0 rfl) ?_
    refine gf_X11_57 hx hb hts hown hK hP 0 rfl rfl dX11_letter_8 ?_
    refine gf_X11_87 hx hb hts hown hK hP 20 rfl rfl dX11_letter_11 ?_
    refine lv_aload_n hx hb dX11_letter_14 rfl (lv_at hl 0 rfl) ?_
    refine gf_X11_16 hx hb hts hown hK hP 0 rfl rfl dX11_letter_15 ?_
    obtain ⟨bsb_3, hc_2, hp⟩ := bn1_s hp
    refine k_RVV (As := [.ref (qbsb 0)]) (rest := []) ⟨hx, hb, hml, hown, hts⟩ hK hP hD hS hA (FrS_set (ws := (w_All cy qsm qbsa qbsb qrd qdi qrof qpn qse qfo qro qra qvc qos qli qfot qrot qrat qvct qost qlit sm bsa bsb rd di rof pn se fo ro ra vc os li fot rot rat vct ost lit)) (wc := (w_RoBy cy qro qbsb ro bsb)) (w1 := (w_RoBy cy qro qbsb ro bsb_3)) (wn := (w_All cy qsm qbsa qbsb qrd qdi qrof qpn qse qfo qro qra qvc qos qli qfot qrot qrat qvct qost qlit sm bsa bsb_3 rd di rof pn se fo ro ra vc os li fot rot rat vct ost lit)) [24, 25, 26, 27, 28, 3, 4] [none, none, none, some 5, some 6, none, none, none, none, none, none, none, none, none, none, none, none, none, none, none, none, none, none, none, some 0, some 1, some 2, some 3, some 4, none, none, none, none, none, none, none, none, none, none, none, none, none, none, none, none, none, none, none, none, none, none, none, none, none, none, none, none, none, none, none, none, none, none, none, none, none] (by decide +kernel) rfl rfl rfl) (cw_X11_112 hts ⟨Nat.le_of_ble_eq_true rfl, Nat.le_of_ble_eq_true rfl⟩) 0 (ci := 9) rfl rfl rfl (c_X9_writeTo l D cy qro qbsb ro bsb bsb_3 hc_2) rfl hl.1 (Nat.le_of_ble_eq_true rfl) ⟨Nat.le_refl _, Nat.le_refl _⟩ dX11_letter_18 (fun H locs hP hD hS => ?_)
    refine lv_iload_n hx hb dX11_letter_21 rfl (lv_at hl 1 rfl) ?_
    refine lv_iconst (v := (-1)) hx hb dX11_letter_22 (by decide) ?_
    refine lv_icmp_ne (tgt := 34) hx hb dX11_letter_23 (by decide) (fun c_4 => ?_) (fun c_4 => ?_)
    · have hp := ite_n hp c_4
      refine lv_iload_n hx hb dX11_letter_34 rfl (lv_at hl 1 rfl) ?_
      refine lv_aload_n hx hb dX11_letter_35 rfl (lv_at hl 0 rfl) ?_
      refine gf_X11_16 hx hb hts hown hK hP 0 rfl rfl dX11_letter_36 ?_
      refine gf_X11_72 hx hb hts hown hK hP 3 rfl rfl dX11_letter_39 ?_
      refine lv_icmp_ge (tgt := 56) hx hb dX11_letter_42 (by decide) (fun c_5 => ?_) (fun c_5 => ?_)
      · have hp := ite_p hp c_5
        refine lv_bipush (v := (-2)) hx hb dX11_letter_56 (by decide) ?_
        simp only [Option.some.injEq, Prod.mk.injEq] at hp
        obtain ⟨h0, rfl⟩ := hp
        exact e_RIi hx hb hr hk hP hD hS dX11_letter_58 h0
      · have hp := ite_n hp c_5
        refine lv_aload_n hx hb dX11_letter_45 rfl (lv_at hl 0 rfl) ?_
        refine gf_X11_16 hx hb hts hown hK hP 0 rfl rfl dX11_letter_46 ?_
        refine lv_iload_n hx hb dX11_letter_49 rfl (lv_at hl 1 rfl) ?_
        obtain ⟨r_7, hc_6, hp⟩ := bn1_s hp
        refine k_ROV (As := [.int p1]) (rest := []) ⟨hx, hb, hml, hown, hts⟩ hK (hP.sub (ws' := (w_By cy qbsb bsb_3)) [3, 4] rfl) (cw_X11_116 hts ⟨Nat.le_of_ble_eq_true rfl, Nat.le_of_ble_eq_true rfl⟩) 0 (ci := 0) rfl rfl rfl (c_X0_byteAt l D cy qbsb bsb_3 p1 r_7 hc_6) rfl hl.1 (Nat.le_of_ble_eq_true rfl) ⟨Nat.le_refl _, Nat.le_refl _⟩ dX11_letter_50 ?_
        refine lv_goto (tgt := 58) hx hb dX11_letter_53 (by decide) ?_
        simp only [Option.some.injEq, Prod.mk.injEq] at hp
        obtain ⟨h0, rfl⟩ := hp
        exact e_RIi hx hb hr hk hP hD hS dX11_letter_58 h0
    · have hp := ite_p hp c_4
      refine lv_aload_n hx hb dX11_letter_26 rfl (lv_at hl 0 rfl) ?_
      refine gf_X11_16 hx hb hts hown hK hP 0 rfl rfl dX11_letter_27 ?_
      refine gf_X11_72 hx hb hts hown hK hP 3 rfl rfl dX11_letter_30 ?_
      simp only [Option.some.injEq, Prod.mk.injEq] at hp
      obtain ⟨h0, rfl⟩ := hp
      exact e_RIi hx hb hr hk hP hD hS dX11_letter_33 h0
  · have hp := ite_n hp c_1
    refine lv_iconst (v := (-1)) hx hb dX11_letter_5 (by decide) ?_
    simp only [Option.some.injEq, Prod.mk.injEq] at hp
    obtain ⟨h0, rfl⟩ := hp
    exact e_RIi hx hb hr hk hP hD hS dX11_letter_6 h0
/-! StormSlots.rate(II)I -/
def St_rate (ra : Mem) (p1 : Int32) (p2 : Int32) : Option (Int32 × Mem) :=
  bn1 (St_isHour p1) (fun r_2 => if r_2 = 0 then some ((-1), ra) else bn1 (St_isRate p2) (fun r_5 => if r_5 = 0 then some ((-1), ra) else bn1 (Ra_of ra p1) (fun r_8 => bn1 (Ra_put ra p1 p2) (fun ra_10 => some (r_8, ra_10)))))
set_option maxHeartbeats 4000000 in
set_option maxRecDepth 100000 in
theorem c_X11_rate (l : Launch) (D : va_G) (cy : Nat → ClassId) (qsm qbsa qbsb qrd qdi qrof qpn qse qfo qro qra qvc qos qli qfot qrot qrat qvct qost qlit : Nat → Nat) (sm bsa bsb rd di rof pn se fo ro ra vc os li fot rot rat vct ost lit : Mem) (p1 p2 : Int32) (r : Int32) (ra' : Mem) (hp : St_rate ra p1 p2 = some (r, ra')) : RI l yX11_rate cX11_rate 4 (some .int) 2 D cy [.ref (qsm 0), .int p1, .int p2] (w_All cy qsm qbsa qbsb qrd qdi qrof qpn qse qfo qro qra qvc qos qli qfot qrot qrat qvct qost qlit sm bsa bsb rd di rof pn se fo ro ra vc os li fot rot rat vct ost lit) (w_All cy qsm qbsa qbsb qrd qdi qrof qpn qse qfo qro qra qvc qos qli qfot qrot qrat qvct qost qlit sm bsa bsb rd di rof pn se fo ro ra' vc os li fot rot rat vct ost lit) r := by
  refine RI_of RX11 rfl (by decide) (Nat.le_of_ble_eq_true rfl) ?_
  intro p e s m below meth c A C0 hK hP hD hS hA ls hl
  obtain ⟨hx, hb, hr, hml, hown, hts, hk⟩ := id C0
  unfold St_rate at hp
  have hl : lv_has ls 4 [(0, .ref (qsm 0)), (1, .int p1), (2, .int p2)] := hl
  refine lv_iload_n hx hb dX11_rate_0 rfl (lv_at hl 1 rfl) ?_
  obtain ⟨r_2, hc_1, hp⟩ := bn1_s hp
  refine k_ROS (As := [.int p1]) (rest := []) ⟨hx, hb, hml, hown, hts⟩ hK (show va_P D vwCl [] _ from fun k q h => by simp at h) (cw_X11_119 hts ⟨Nat.le_of_ble_eq_true rfl, Nat.le_of_ble_eq_true rfl⟩) (c_X11_isHour l D cy p1 r_2 hc_1) rfl hl.1 (Nat.le_of_ble_eq_true rfl) ⟨Nat.le_refl _, Nat.le_refl _⟩ dX11_rate_1 ?_
  refine lv_if_eq (tgt := 14) hx hb dX11_rate_4 (by decide) (fun c_3 => ?_) (fun c_3 => ?_)
  · have hp := ite_p hp c_3
    refine lv_iconst (v := (-1)) hx hb dX11_rate_14 (by decide) ?_
    simp only [Option.some.injEq, Prod.mk.injEq] at hp
    obtain ⟨h0, rfl⟩ := hp
    exact e_RIi hx hb hr hk hP hD hS dX11_rate_15 h0
  · have hp := ite_n hp c_3
    refine lv_iload_n hx hb dX11_rate_7 rfl (lv_at hl 2 rfl) ?_
    obtain ⟨r_5, hc_4, hp⟩ := bn1_s hp
    refine k_ROS (As := [.int p2]) (rest := []) ⟨hx, hb, hml, hown, hts⟩ hK (show va_P D vwCl [] _ from fun k q h => by simp at h) (cw_X11_122 hts ⟨Nat.le_of_ble_eq_true rfl, Nat.le_of_ble_eq_true rfl⟩) (c_X11_isRate l D cy p2 r_5 hc_4) rfl hl.1 (Nat.le_of_ble_eq_true rfl) ⟨Nat.le_refl _, Nat.le_refl _⟩ dX11_rate_8 ?_
    refine lv_if_ne (tgt := 16) hx hb dX11_rate_11 (by decide) (fun c_6 => ?_) (fun c_6 => ?_)
    · have hp := ite_n hp c_6
      refine lv_aload_n hx hb dX11_rate_16 rfl (lv_at hl 0 rfl) ?_
      refine gf_X11_57 hx hb hts hown hK hP 0 rfl rfl dX11_rate_17 ?_
      refine gf_X11_125 hx hb hts hown hK hP 20 rfl rfl dX11_rate_20 ?_
      refine lv_iload_n hx hb dX11_rate_23 rfl (lv_at hl 1 rfl) ?_
      obtain ⟨r_8, hc_7, hp⟩ := bn1_s hp
      refine k_ROV (As := [.int p1]) (rest := []) ⟨hx, hb, hml, hown, hts⟩ hK (hP.sub (ws' := (w_Ra cy qra ra)) [29, 30] rfl) (cw_X11_129 hts ⟨Nat.le_of_ble_eq_true rfl, Nat.le_of_ble_eq_true rfl⟩) 0 (ci := 7) rfl rfl rfl (c_X7_of l D cy qra ra p1 r_8 hc_7) rfl hl.1 (Nat.le_of_ble_eq_true rfl) ⟨Nat.le_refl _, Nat.le_refl _⟩ dX11_rate_24 ?_
      refine lv_istore_n (lv' := [(3, .int r_8), (0, .ref (qsm 0)), (1, .int p1), (2, .int p2)]) hx hb dX11_rate_27 rfl hl (by decide) rfl (fun ls hl => ?_)
      refine lv_aload_n hx hb dX11_rate_28 rfl (lv_at hl 1 rfl) ?_
      refine gf_X11_57 hx hb hts hown hK hP 0 rfl rfl dX11_rate_29 ?_
      refine gf_X11_125 hx hb hts hown hK hP 20 rfl rfl dX11_rate_32 ?_
      refine lv_iload_n hx hb dX11_rate_35 rfl (lv_at hl 2 rfl) ?_
      refine lv_iload_n hx hb dX11_rate_36 rfl (lv_at hl 3 rfl) ?_
      obtain ⟨ra_10, hc_9, hp⟩ := bn1_s hp
      refine k_RVV (As := [.int p1, .int p2]) (rest := []) ⟨hx, hb, hml, hown, hts⟩ hK hP hD hS hA (FrS_set (ws := (w_All cy qsm qbsa qbsb qrd qdi qrof qpn qse qfo qro qra qvc qos qli qfot qrot qrat qvct qost qlit sm bsa bsb rd di rof pn se fo ro ra vc os li fot rot rat vct ost lit)) (wc := (w_Ra cy qra ra)) (w1 := (w_Ra cy qra ra_10)) (wn := (w_All cy qsm qbsa qbsb qrd qdi qrof qpn qse qfo qro qra qvc qos qli qfot qrot qrat qvct qost qlit sm bsa bsb rd di rof pn se fo ro ra_10 vc os li fot rot rat vct ost lit)) [29, 30] [none, none, none, none, none, none, none, none, none, none, none, none, none, none, none, none, none, none, none, none, none, none, none, none, none, none, none, none, none, some 0, some 1, none, none, none, none, none, none, none, none, none, none, none, none, none, none, none, none, none, none, none, none, none, none, none, none, none, none, none, none, none, none, none, none, none, none, none] (by decide +kernel) rfl rfl rfl) (cw_X11_134 hts ⟨Nat.le_of_ble_eq_true rfl, Nat.le_of_ble_eq_true rfl⟩) 0 (ci := 7) rfl rfl rfl (c_X7_put l D cy qra ra p1 p2 ra_10 hc_9) rfl hl.1 (Nat.le_of_ble_eq_true rfl) ⟨Nat.le_refl _, Nat.le_refl _⟩ dX11_rate_37 (fun H locs hP hD hS => ?_)
      refine lv_iload_n hx hb dX11_rate_40 rfl (lv_at hl 0 rfl) ?_
      simp only [Option.some.injEq, Prod.mk.injEq] at hp
      obtain ⟨h0, rfl⟩ := hp
      exact e_RIi hx hb hr hk hP hD hS dX11_rate_41 h0
    · have hp := ite_p hp c_6
      refine lv_iconst (v := (-1)) hx hb dX11_rate_14 (by decide) ?_
      simp only [Option.some.injEq, Prod.mk.injEq] at hp
      obtain ⟨h0, rfl⟩ := hp
      exact e_RIi hx hb hr hk hP hD hS dX11_rate_15 h0
/-! StormSlots.storm(IIII)I -/
def St_storm_b29B (p1 : Int32) (p2 : Int32) (p3 : Int32) (p4 : Int32) (k29 : Mem → Mem → Int32 → Option (Int32 × Mem × Mem)) (di : Mem) (ra : Mem) (x5 : Int32) : Option (Int32 × Mem × Mem) :=
  if p3 < x5 then some ((di 0 0), di, ra) else bn2 (Di_roll di (p4 + 1)) (fun r_11 di_12 => bn1 (Ra_put ra x5 r_11) (fun ra_14 => stk (x5 + 1) (fun x5_15 => k29 di_12 ra_14 x5_15)))
def St_storm_b29 (p1 : Int32) (p2 : Int32) (p3 : Int32) (p4 : Int32) : Nat → Mem → Mem → Int32 → Option (Int32 × Mem × Mem)
  | 0 => fun _ _ _ => none
  | n + 1 => St_storm_b29B p1 p2 p3 p4 (St_storm_b29 p1 p2 p3 p4 n)
def St_storm (di : Mem) (ra : Mem) (p1 : Int32) (p2 : Int32) (p3 : Int32) (p4 : Int32) : Option (Int32 × Mem × Mem) :=
  bn1 (St_areHours p2 p3) (fun r_2 => if r_2 = 0 then some ((-1), di, ra) else bn1 (St_isRate p4) (fun r_5 => if r_5 = 0 then some ((-1), di, ra) else bn1 (Di_start di p1) (fun di_8 => St_storm_b29 p1 p2 p3 p4 fl di_8 ra p2)))
set_option maxHeartbeats 4000000 in
set_option maxRecDepth 100000 in
theorem St_storm_b29B_w (C0 : cX RX11 cX11_storm (some .int) 6 p s m args meth c) (hK : kN D cy s) {qsm qbsa qbsb qrd qdi qrof qpn qse qfo qro qra qvc qos qli qfot qrot qrat qvct qost qlit : Nat → Nat} {sm bsa bsb rd rof pn se fo ro vc os li fot rot rat vct ost lit : Mem} {p1 p2 p3 p4 : Int32} {r : Int32} {di' ra' : Mem} (hA : ∀ q, s.heap.size ≤ q → A q) {k29 : Mem → Mem → Int32 → Option (Int32 × Mem × Mem)} (hk29 : ∀ (di ra : Mem) (x5 : Int32) (H : Heap) (locs : List Loc) (ls : Array Slot), va_P D vwCl (w_All cy qsm qbsa qbsb qrd qdi qrof qpn qse qfo qro qra qvc qos qli qfot qrot qrat qvct qost qlit sm bsa bsb rd di rof pn se fo ro ra vc os li fot rot rat vct ost lit) H → va_D A (w_All cy qsm qbsa qbsb qrd qdi qrof qpn qse qfo qro qra qvc qos qli qfot qrot qrat qvct qost qlit sm bsa bsb rd di rof pn se fo ro ra vc os li fot rot rat vct ost lit) → va_S A s.heap H locs → lv_has ls 6 [(0, .ref (qsm 0)), (1, .int p1), (2, .int p2), (3, .int p3), (4, .int p4), (5, .int x5)] → k29 di ra x5 = some (r, di', ra') → W p l e (rmD 2) s m args below meth c H locs 0 0 (qRI D below args s A (w_All cy qsm qbsa qbsb qrd qdi qrof qpn qse qfo qro qra qvc qos qli qfot qrot qrat qvct qost qlit sm bsa bsb rd di' rof pn se fo ro ra' vc os li fot rot rat vct ost lit) r) (F0 m 29 ls [])) {di : Mem} {ra : Mem} {x5 : Int32} {H : Heap} {locs : List Loc} (hP : va_P D vwCl (w_All cy qsm qbsa qbsb qrd qdi qrof qpn qse qfo qro qra qvc qos qli qfot qrot qrat qvct qost qlit sm bsa bsb rd di rof pn se fo ro ra vc os li fot rot rat vct ost lit) H) (hD : va_D A (w_All cy qsm qbsa qbsb qrd qdi qrof qpn qse qfo qro qra qvc qos qli qfot qrot qrat qvct qost qlit sm bsa bsb rd di rof pn se fo ro ra vc os li fot rot rat vct ost lit)) (hS : va_S A s.heap H locs) {ls : Array Slot} (hl : lv_has ls 6 [(0, .ref (qsm 0)), (1, .int p1), (2, .int p2), (3, .int p3), (4, .int p4), (5, .int x5)]) (hp : St_storm_b29B p1 p2 p3 p4 k29 di ra x5 = some (r, di', ra')) : W p l e (rmD 2) s m args below meth c H locs 0 0 (qRI D below args s A (w_All cy qsm qbsa qbsb qrd qdi qrof qpn qse qfo qro qra qvc qos qli qfot qrot qrat qvct qost qlit sm bsa bsb rd di' rof pn se fo ro ra' vc os li fot rot rat vct ost lit) r) (F0 m 29 ls []) := by
  obtain ⟨hx, hb, hr, hml, hown, hts, hk⟩ := id C0
  unfold St_storm_b29B at hp
  refine lv_iload hx hb dX11_storm_29 (lv_at hl 5 rfl) ?_
  refine lv_iload_n hx hb dX11_storm_31 rfl (lv_at hl 3 rfl) ?_
  refine lv_icmp_gt (tgt := 64) hx hb dX11_storm_32 (by decide) (fun c_9 => ?_) (fun c_9 => ?_)
  · have hp := ite_p hp c_9
    refine lv_aload_n hx hb dX11_storm_64 rfl (lv_at hl 0 rfl) ?_
    refine gf_X11_29 hx hb hts hown hK hP 0 rfl rfl dX11_storm_65 ?_
    refine gf_X11_109 hx hb hts hown hK hP 6 rfl rfl dX11_storm_68 ?_
    simp only [Option.some.injEq, Prod.mk.injEq] at hp
    obtain ⟨h0, rfl, rfl⟩ := hp
    exact e_RIi hx hb hr hk hP hD hS dX11_storm_71 h0
  · have hp := ite_n hp c_9
    refine lv_aload_n hx hb dX11_storm_35 rfl (lv_at hl 0 rfl) ?_
    refine gf_X11_57 hx hb hts hown hK hP 0 rfl rfl dX11_storm_36 ?_
    refine gf_X11_125 hx hb hts hown hK hP 20 rfl rfl dX11_storm_39 ?_
    refine lv_iload hx hb dX11_storm_42 (lv_at hl 5 rfl) ?_
    refine lv_aload_n hx hb dX11_storm_44 rfl (lv_at hl 0 rfl) ?_
    refine gf_X11_29 hx hb hts hown hK hP 0 rfl rfl dX11_storm_45 ?_
    refine lv_iload hx hb dX11_storm_48 (lv_at hl 4 rfl) ?_
    refine lv_iconst (v := 1) hx hb dX11_storm_50 (by decide) ?_
    refine lv_iadd hx hb dX11_storm_51 ?_
    obtain ⟨r_11, di_12, hc_10, hp⟩ := bn2_s hp
    refine k_RIV (As := [.int (p4 + 1)]) (rest := [.int x5, .ref (qra 0)]) ⟨hx, hb, hml, hown, hts⟩ hK hP hD hS hA (FrS_set (ws := (w_All cy qsm qbsa qbsb qrd qdi qrof qpn qse qfo qro qra qvc qos qli qfot qrot qrat qvct qost qlit sm bsa bsb rd di rof pn se fo ro ra vc os li fot rot rat vct ost lit)) (wc := (w_Di cy qdi di)) (w1 := (w_Di cy qdi di_12)) (wn := (w_All cy qsm qbsa qbsb qrd qdi qrof qpn qse qfo qro qra qvc qos qli qfot qrot qrat qvct qost qlit sm bsa bsb rd di_12 rof pn se fo ro ra vc os li fot rot rat vct ost lit)) [6] [none, none, none, none, none, none, some 0, none, none, none, none, none, none, none, none, none, none, none, none, none, none, none, none, none, none, none, none, none, none, none, none, none, none, none, none, none, none, none, none, none, none, none, none, none, none, none, none, none, none, none, none, none, none, none, none, none, none, none, none, none, none, none, none, none, none, none] (by decide +kernel) rfl rfl rfl) (cw_X11_105 hts ⟨Nat.le_of_ble_eq_true rfl, Nat.le_of_ble_eq_true rfl⟩) 0 (ci := 1) rfl rfl rfl (c_X1_roll l D cy qdi di (p4 + 1) r_11 di_12 hc_10) rfl hl.1 (Nat.le_of_ble_eq_true rfl) ⟨Nat.le_refl _, Nat.le_refl _⟩ dX11_storm_52 (fun H locs hP hD hS => ?_)
    obtain ⟨ra_14, hc_13, hp⟩ := bn1_s hp
    refine k_RVV (As := [.int x5, .int r_11]) (rest := []) ⟨hx, hb, hml, hown, hts⟩ hK hP hD hS hA (FrS_set (ws := (w_All cy qsm qbsa qbsb qrd qdi qrof qpn qse qfo qro qra qvc qos qli qfot qrot qrat qvct qost qlit sm bsa bsb rd di_12 rof pn se fo ro ra vc os li fot rot rat vct ost lit)) (wc := (w_Ra cy qra ra)) (w1 := (w_Ra cy qra ra_14)) (wn := (w_All cy qsm qbsa qbsb qrd qdi qrof qpn qse qfo qro qra qvc qos qli qfot qrot qrat qvct qost qlit sm bsa bsb rd di_12 rof pn se fo ro ra_14 vc os li fot rot rat vct ost lit)) [29, 30] [none, none, none, none, none, none, none, none, none, none, none, none, none, none, none, none, none, none, none, none, none, none, none, none, none, none, none, none, none, some 0, some 1, none, none, none, none, none, none, none, none, none, none, none, none, none, none, none, none, none, none, none, none, none, none, none, none, none, none, none, none, none, none, none, none, none, none, none] (by decide +kernel) rfl rfl rfl) (cw_X11_134 hts ⟨Nat.le_of_ble_eq_true rfl, Nat.le_of_ble_eq_true rfl⟩) 0 (ci := 7) rfl rfl rfl (c_X7_put l D cy qra ra x5 r_11 ra_14 hc_13) rfl hl.1 (Nat.le_of_ble_eq_true rfl) ⟨Nat.le_refl _, Nat.le_refl _⟩ dX11_storm_55 (fun H locs hP hD hS => ?_)
    obtain ⟨x5_15, ex5_15⟩ : ∃ y : Int32, y = x5 + 1 := ⟨_, rfl⟩
    have hp := stk_e hp ex5_15
    refine lv_iinc (v := x5_15) (lv' := [(5, .int x5_15), (0, .ref (qsm 0)), (1, .int p1), (2, .int p2), (3, .int p3), (4, .int p4)]) hx hb dX11_storm_58 hl (k := 5) rfl (by rw [ex5_15]; rfl) (by decide) rfl (fun ls hl => ?_)
    refine lv_goto (tgt := 29) hx hb dX11_storm_61 (by decide) ?_
    exact hk29 di_12 ra_14 x5_15 _ _ _ hP hD hS (lv_sub hl [1, 2, 3, 4, 5, 0] rfl) hp
theorem St_storm_b29_w (C0 : cX RX11 cX11_storm (some .int) 6 p s m args meth c) (hK : kN D cy s) {qsm qbsa qbsb qrd qdi qrof qpn qse qfo qro qra qvc qos qli qfot qrot qrat qvct qost qlit : Nat → Nat} {sm bsa bsb rd rof pn se fo ro vc os li fot rot rat vct ost lit : Mem} {p1 p2 p3 p4 : Int32} {r : Int32} {di' ra' : Mem} (hA : ∀ q, s.heap.size ≤ q → A q) : ∀ (n : Nat) (di ra : Mem) (x5 : Int32) (H : Heap) (locs : List Loc) (ls : Array Slot), va_P D vwCl (w_All cy qsm qbsa qbsb qrd qdi qrof qpn qse qfo qro qra qvc qos qli qfot qrot qrat qvct qost qlit sm bsa bsb rd di rof pn se fo ro ra vc os li fot rot rat vct ost lit) H → va_D A (w_All cy qsm qbsa qbsb qrd qdi qrof qpn qse qfo qro qra qvc qos qli qfot qrot qrat qvct qost qlit sm bsa bsb rd di rof pn se fo ro ra vc os li fot rot rat vct ost lit) → va_S A s.heap H locs → lv_has ls 6 [(0, .ref (qsm 0)), (1, .int p1), (2, .int p2), (3, .int p3), (4, .int p4), (5, .int x5)] → St_storm_b29 p1 p2 p3 p4 n di ra x5 = some (r, di', ra') → W p l e (rmD 2) s m args below meth c H locs 0 0 (qRI D below args s A (w_All cy qsm qbsa qbsb qrd qdi qrof qpn qse qfo qro qra qvc qos qli qfot qrot qrat qvct qost qlit sm bsa bsb rd di' rof pn se fo ro ra' vc os li fot rot rat vct ost lit) r) (F0 m 29 ls []) := by
  intro n
  induction n with
  | zero =>
    intro di ra x5 H locs ls hP hD hS hl hp
    cases hp
  | succ n ih =>
    intro di ra x5 H locs ls hP hD hS hl hp
    exact St_storm_b29B_w C0 hK hA  (fun di ra x5 H locs ls hP hD hS hl hp => ih di ra x5 H locs ls hP hD hS hl hp) hP hD hS hl hp
set_option maxHeartbeats 4000000 in
set_option maxRecDepth 100000 in
theorem c_X11_storm (l : Launch) (D : va_G) (cy : Nat → ClassId) (qsm qbsa qbsb qrd qdi qrof qpn qse qfo qro qra qvc qos qli qfot qrot qrat qvct qost qlit : Nat → Nat) (sm bsa bsb rd di rof pn se fo ro ra vc os li fot rot rat vct ost lit : Mem) (p1 p2 p3 p4 : Int32) (r : Int32) (di' ra' : Mem) (hp : St_storm di ra p1 p2 p3 p4 = some (r, di', ra')) : RI l yX11_storm cX11_storm 6 (some .int) 2 D cy [.ref (qsm 0), .int p1, .int p2, .int p3, .int p4] (w_All cy qsm qbsa qbsb qrd qdi qrof qpn qse qfo qro qra qvc qos qli qfot qrot qrat qvct qost qlit sm bsa bsb rd di rof pn se fo ro ra vc os li fot rot rat vct ost lit) (w_All cy qsm qbsa qbsb qrd qdi qrof qpn qse qfo qro qra qvc qos qli qfot qrot qrat qvct qost qlit sm bsa bsb rd di' rof pn se fo ro ra' vc os li fot rot rat vct ost lit) r := by
  refine RI_of RX11 rfl (by decide) (Nat.le_of_ble_eq_true rfl) ?_
  intro p e s m below meth c A C0 hK hP hD hS hA ls hl
  obtain ⟨hx, hb, hr, hml, hown, hts, hk⟩ := id C0
  unfold St_storm at hp
  have hl : lv_has ls 6 [(0, .ref (qsm 0)), (1, .int p1), (2, .int p2), (3, .int p3), (4, .int p4)] := hl
  refine lv_iload_n hx hb dX11_storm_0 rfl (lv_at hl 2 rfl) ?_
  refine lv_iload_n hx hb dX11_storm_1 rfl (lv_at hl 3 rfl) ?_
  obtain ⟨r_2, hc_1, hp⟩ := bn1_s hp
  refine k_ROS (As := [.int p2, .int p3]) (rest := []) ⟨hx, hb, hml, hown, hts⟩ hK (show va_P D vwCl [] _ from fun k q h => by simp at h) (cw_X11_138 hts ⟨Nat.le_of_ble_eq_true rfl, Nat.le_of_ble_eq_true rfl⟩) (c_X11_areHours l D cy p2 p3 r_2 hc_1) rfl hl.1 (Nat.le_of_ble_eq_true rfl) ⟨Nat.le_refl _, Nat.le_refl _⟩ dX11_storm_2 ?_
  refine lv_if_eq (tgt := 16) hx hb dX11_storm_5 (by decide) (fun c_3 => ?_) (fun c_3 => ?_)
  · have hp := ite_p hp c_3
    refine lv_iconst (v := (-1)) hx hb dX11_storm_16 (by decide) ?_
    simp only [Option.some.injEq, Prod.mk.injEq] at hp
    obtain ⟨h0, rfl, rfl⟩ := hp
    exact e_RIi hx hb hr hk hP hD hS dX11_storm_17 h0
  · have hp := ite_n hp c_3
    refine lv_iload hx hb dX11_storm_8 (lv_at hl 4 rfl) ?_
    obtain ⟨r_5, hc_4, hp⟩ := bn1_s hp
    refine k_ROS (As := [.int p4]) (rest := []) ⟨hx, hb, hml, hown, hts⟩ hK (show va_P D vwCl [] _ from fun k q h => by simp at h) (cw_X11_122 hts ⟨Nat.le_of_ble_eq_true rfl, Nat.le_of_ble_eq_true rfl⟩) (c_X11_isRate l D cy p4 r_5 hc_4) rfl hl.1 (Nat.le_of_ble_eq_true rfl) ⟨Nat.le_refl _, Nat.le_refl _⟩ dX11_storm_10 ?_
    refine lv_if_ne (tgt := 18) hx hb dX11_storm_13 (by decide) (fun c_6 => ?_) (fun c_6 => ?_)
    · have hp := ite_n hp c_6
      refine lv_aload_n hx hb dX11_storm_18 rfl (lv_at hl 0 rfl) ?_
      refine gf_X11_29 hx hb hts hown hK hP 0 rfl rfl dX11_storm_19 ?_
      refine lv_iload_n hx hb dX11_storm_22 rfl (lv_at hl 1 rfl) ?_
      obtain ⟨di_8, hc_7, hp⟩ := bn1_s hp
      refine k_RVV (As := [.int p1]) (rest := []) ⟨hx, hb, hml, hown, hts⟩ hK hP hD hS hA (FrS_set (ws := (w_All cy qsm qbsa qbsb qrd qdi qrof qpn qse qfo qro qra qvc qos qli qfot qrot qrat qvct qost qlit sm bsa bsb rd di rof pn se fo ro ra vc os li fot rot rat vct ost lit)) (wc := (w_Di cy qdi di)) (w1 := (w_Di cy qdi di_8)) (wn := (w_All cy qsm qbsa qbsb qrd qdi qrof qpn qse qfo qro qra qvc qos qli qfot qrot qrat qvct qost qlit sm bsa bsb rd di_8 rof pn se fo ro ra vc os li fot rot rat vct ost lit)) [6] [none, none, none, none, none, none, some 0, none, none, none, none, none, none, none, none, none, none, none, none, none, none, none, none, none, none, none, none, none, none, none, none, none, none, none, none, none, none, none, none, none, none, none, none, none, none, none, none, none, none, none, none, none, none, none, none, none, none, none, none, none, none, none, none, none, none, none] (by decide +kernel) rfl rfl rfl) (cw_X11_102 hts ⟨Nat.le_of_ble_eq_true rfl, Nat.le_of_ble_eq_true rfl⟩) 0 (ci := 1) rfl rfl rfl (c_X1_start l D cy qdi di p1 di_8 hc_7) rfl hl.1 (Nat.le_of_ble_eq_true rfl) ⟨Nat.le_refl _, Nat.le_refl _⟩ dX11_storm_23 (fun H locs hP hD hS => ?_)
      refine lv_iload_n hx hb dX11_storm_26 rfl (lv_at hl 2 rfl) ?_
      refine lv_istore (lv' := [(5, .int p2), (0, .ref (qsm 0)), (1, .int p1), (2, .int p2), (3, .int p3), (4, .int p4)]) hx hb dX11_storm_27 hl (by decide) rfl (fun ls hl => ?_)
      exact St_storm_b29_w C0 hK hA  fl di_8 ra p2 _ _ _ hP hD hS (lv_sub hl [1, 2, 3, 4, 5, 0] rfl) hp
    · have hp := ite_p hp c_6
      refine lv_iconst (v := (-1)) hx hb dX11_storm_16 (by decide) ?_
      simp only [Option.some.injEq, Prod.mk.injEq] at hp
      obtain ⟨h0, rfl, rfl⟩ := hp
      exact e_RIi hx hb hr hk hP hD hS dX11_storm_17 h0
/-! StormSlots.now(I)Z -/
def St_now (fo : Mem) (p1 : Int32) : Option (Int32 × Mem) :=
  bn1 (St_isDayMinute p1) (fun r_2 => if r_2 = 0 then some (0, fo) else if (fo 9 0) ≤ p1 then stk (upm fo 9 0 p1) (fun fo_5 => some (1, fo_5)) else some (0, fo))
set_option maxHeartbeats 4000000 in
set_option maxRecDepth 100000 in
theorem c_X11_now (l : Launch) (D : va_G) (cy : Nat → ClassId) (qsm qbsa qbsb qrd qdi qrof qpn qse qfo qro qra qvc qos qli qfot qrot qrat qvct qost qlit : Nat → Nat) (sm bsa bsb rd di rof pn se fo ro ra vc os li fot rot rat vct ost lit : Mem) (p1 : Int32) (r : Int32) (fo' : Mem) (hp : St_now fo p1 = some (r, fo')) : RI l yX11_now cX11_now 2 (some .boolean) 1 D cy [.ref (qsm 0), .int p1] (w_All cy qsm qbsa qbsb qrd qdi qrof qpn qse qfo qro qra qvc qos qli qfot qrot qrat qvct qost qlit sm bsa bsb rd di rof pn se fo ro ra vc os li fot rot rat vct ost lit) (w_All cy qsm qbsa qbsb qrd qdi qrof qpn qse qfo qro qra qvc qos qli qfot qrot qrat qvct qost qlit sm bsa bsb rd di rof pn se fo' ro ra vc os li fot rot rat vct ost lit) r := by
  refine RI_of RX11 rfl (by decide) (Nat.le_of_ble_eq_true rfl) ?_
  intro p e s m below meth c A C0 hK hP hD hS hA ls hl
  obtain ⟨hx, hb, hr, hml, hown, hts, hk⟩ := id C0
  unfold St_now at hp
  have hl : lv_has ls 2 [(0, .ref (qsm 0)), (1, .int p1)] := hl
  refine lv_iload_n hx hb dX11_now_0 rfl (lv_at hl 1 rfl) ?_
  obtain ⟨r_2, hc_1, hp⟩ := bn1_s hp
  refine k_ROS (As := [.int p1]) (rest := []) ⟨hx, hb, hml, hown, hts⟩ hK (show va_P D vwCl [] _ from fun k q h => by simp at h) (cw_X11_95 hts ⟨Nat.le_of_ble_eq_true rfl, Nat.le_of_ble_eq_true rfl⟩) (c_X11_isDayMinute l D cy p1 r_2 hc_1) rfl hl.1 (Nat.le_of_ble_eq_true rfl) ⟨Nat.le_refl _, Nat.le_refl _⟩ dX11_now_1 ?_
  refine lv_if_eq (tgt := 18) hx hb dX11_now_4 (by decide) (fun c_3 => ?_) (fun c_3 => ?_)
  · have hp := ite_p hp c_3
    refine lv_iconst (v := 0) hx hb dX11_now_18 (by decide) ?_
    simp only [Option.some.injEq, Prod.mk.injEq] at hp
    obtain ⟨h0, rfl⟩ := hp
    exact e_RIz hx hb hr hk (Or.inl rfl) hP hD hS dX11_now_19 h0
  · have hp := ite_n hp c_3
    refine lv_iload_n hx hb dX11_now_7 rfl (lv_at hl 1 rfl) ?_
    refine lv_aload_n hx hb dX11_now_8 rfl (lv_at hl 0 rfl) ?_
    refine gf_X11_57 hx hb hts hown hK hP 0 rfl rfl dX11_now_9 ?_
    refine gf_X11_142 hx hb hts hown hK hP 20 rfl rfl dX11_now_12 ?_
    refine lv_icmp_ge (tgt := 20) hx hb dX11_now_15 (by decide) (fun c_4 => ?_) (fun c_4 => ?_)
    · have hp := ite_p hp c_4
      refine lv_aload_n hx hb dX11_now_20 rfl (lv_at hl 0 rfl) ?_
      refine gf_X11_57 hx hb hts hown hK hP 0 rfl rfl dX11_now_21 ?_
      refine lv_iload_n hx hb dX11_now_24 rfl (lv_at hl 1 rfl) ?_
      obtain ⟨fo_5, efo_5⟩ : ∃ y : Mem, y = upm fo 9 0 p1 := ⟨_, rfl⟩
      have hp := stk_e hp efo_5
      refine pf_X11_142 hx hb hts hown hK hP hD hS (wn := (w_All cy qsm qbsa qbsb qrd qdi qrof qpn qse qfo qro qra qvc qos qli qfot qrot qrat qvct qost qlit sm bsa bsb rd di rof pn se fo_5 ro ra vc os li fot rot rat vct ost lit)) 20 rfl (Nat.le_of_ble_eq_true rfl) (by subst efo_5; rfl) dX11_now_25 (fun H locs hP hD hS => ?_)
      refine lv_iconst (v := 1) hx hb dX11_now_28 (by decide) ?_
      simp only [Option.some.injEq, Prod.mk.injEq] at hp
      obtain ⟨h0, rfl⟩ := hp
      exact e_RIz hx hb hr hk (Or.inr rfl) hP hD hS dX11_now_29 h0
    · have hp := ite_n hp c_4
      refine lv_iconst (v := 0) hx hb dX11_now_18 (by decide) ?_
      simp only [Option.some.injEq, Prod.mk.injEq] at hp
      obtain ⟨h0, rfl⟩ := hp
      exact e_RIz hx hb hr hk (Or.inl rfl) hP hD hS dX11_now_19 h0
/-! StormSlots.told(II)I -/
def St_told (fo : Mem) (ro : Mem) (p1 : Int32) (p2 : Int32) : Option (Int32) :=
  bn1 (Fi_isFlight ro p1) (fun r_2 => if r_2 = 0 then some (-1) else if p2 = 0 then ckI p1 20 (some (ro 0 p1.toNatClampNeg)) else if p2 = 1 then ckI p1 20 (some (ro 1 p1.toNatClampNeg)) else if p2 = 2 then ckI p1 20 (some (ro 2 p1.toNatClampNeg)) else if p2 = 3 then ckI p1 20 (some (ro 3 p1.toNatClampNeg)) else if p2 = 4 then bn1 (Fi_earliest fo ro p1) (fun r_14 => some r_14) else if p2 = 5 then bn1 (Fi_isSeated fo p1) (fun r_17 => if r_17 = 0 then some (-2) else ckI p1 20 (some (fo 5 p1.toNatClampNeg))) else if p2 = 6 then bn1 (Fi_isSeated fo p1) (fun r_22 => if r_22 = 0 then some (-2) else ckI p1 20 (some (fo 6 p1.toNatClampNeg))) else if p2 = 7 then bn1 (Fi_isSeated fo p1) (fun r_27 => if r_27 = 0 then some (-2) else ckI p1 20 (some (fo 7 p1.toNatClampNeg))) else if p2 = 8 then bn1 (Fi_isAloft fo ro p1) (fun r_32 => if r_32 = 0 then some 0 else some 1) else if p2 = 9 then bn1 (Fi_isCancelled fo ro p1) (fun r_36 => if r_36 = 0 then some 0 else some 1) else if p2 = 10 then bn1 (Fi_isSeated fo p1) (fun r_40 => if r_40 = 0 then some (-2) else bn1 (Fi_costOf fo ro p1) (fun r_43 => some r_43)) else some (-1))
set_option maxHeartbeats 4000000 in
set_option maxRecDepth 100000 in
theorem c_X11_told (l : Launch) (D : va_G) (cy : Nat → ClassId) (qsm qbsa qbsb qrd qdi qrof qpn qse qfo qro qra qvc qos qli qfot qrot qrat qvct qost qlit : Nat → Nat) (sm bsa bsb rd di rof pn se fo ro ra vc os li fot rot rat vct ost lit : Mem) (p1 p2 : Int32) (r : Int32) (hp : St_told fo ro p1 p2 = some r) : RO l yX11_told cX11_told 3 (some .int) 2 D cy [.ref (qsm 0), .int p1, .int p2] (w_All cy qsm qbsa qbsb qrd qdi qrof qpn qse qfo qro qra qvc qos qli qfot qrot qrat qvct qost qlit sm bsa bsb rd di rof pn se fo ro ra vc os li fot rot rat vct ost lit) r := by
  refine RO_of RX11 rfl (by decide) (Nat.le_of_ble_eq_true rfl) ?_
  intro p e s m below meth c C0 hK hP ls hl
  obtain ⟨hx, hb, hr, hml, hown, hts, hk⟩ := id C0
  unfold St_told at hp
  have hl : lv_has ls 3 [(0, .ref (qsm 0)), (1, .int p1), (2, .int p2)] := hl
  refine lv_aload_n hx hb dX11_told_0 rfl (lv_at hl 0 rfl) ?_
  refine gf_X11_57 hx hb hts hown hK hP 0 rfl rfl dX11_told_1 ?_
  refine lv_iload_n hx hb dX11_told_4 rfl (lv_at hl 1 rfl) ?_
  obtain ⟨r_2, hc_1, hp⟩ := bn1_s hp
  refine k_ROV (As := [.int p1]) (rest := []) ⟨hx, hb, hml, hown, hts⟩ hK (hP.sub (ws' := (w_Fi cy qfo qro qra qvc qos qli fo ro ra vc os li)) [20, 21, 22, 23, 24, 25, 26, 27, 28, 29, 30, 31, 32, 33, 34, 35, 36, 37, 38, 39, 40, 41, 42] rfl) (cw_X11_145 hts ⟨Nat.le_of_ble_eq_true rfl, Nat.le_of_ble_eq_true rfl⟩) 0 (ci := 2) rfl rfl rfl (c_X2_isFlight l D cy qfo qro qra qvc qos qli fo ro ra vc os li p1 r_2 hc_1) rfl hl.1 (Nat.le_of_ble_eq_true rfl) ⟨Nat.le_refl _, Nat.le_refl _⟩ dX11_told_5 ?_
  refine lv_if_ne (tgt := 13) hx hb dX11_told_8 (by decide) (fun c_3 => ?_) (fun c_3 => ?_)
  · have hp := ite_n hp c_3
    refine lv_iload_n hx hb dX11_told_13 rfl (lv_at hl 2 rfl) ?_
    by_cases c_4 : p2 = 0
    · have hp := ite_p hp c_4
      refine r_tab (tgt := 72) (off := 58) 0 hx hb dX11_told_14 c_4 (by decide) (by decide) ?_
      refine lv_aload_n hx hb dX11_told_72 rfl (lv_at hl 0 rfl) ?_
      refine gf_X11_57 hx hb hts hown hK hP 0 rfl rfl dX11_told_73 ?_
      refine gf_X11_87 hx hb hts hown hK hP 20 rfl rfl dX11_told_76 ?_
      refine gf_X11_148 hx hb hts hown hK hP 24 rfl rfl dX11_told_79 ?_
      refine lv_iload_n hx hb dX11_told_82 rfl (lv_at hl 1 rfl) ?_
      obtain ⟨hi_5, hp⟩ := ckI_s hp
      refine r_ild hx hb hK hP 25 rfl hi_5 dX11_told_83 ?_
      exact e_ROi hx hb hr hk dX11_told_84 (Option.some.inj hp)
    have hp := ite_n hp c_4
    by_cases c_6 : p2 = 1
    · have hp := ite_p hp c_6
      refine r_tab (tgt := 85) (off := 71) 1 hx hb dX11_told_14 c_6 (by decide) (by decide) ?_
      refine lv_aload_n hx hb dX11_told_85 rfl (lv_at hl 0 rfl) ?_
      refine gf_X11_57 hx hb hts hown hK hP 0 rfl rfl dX11_told_86 ?_
      refine gf_X11_87 hx hb hts hown hK hP 20 rfl rfl dX11_told_89 ?_
      refine gf_X11_152 hx hb hts hown hK hP 24 rfl rfl dX11_told_92 ?_
      refine lv_iload_n hx hb dX11_told_95 rfl (lv_at hl 1 rfl) ?_
      obtain ⟨hi_7, hp⟩ := ckI_s hp
      refine r_ild hx hb hK hP 26 rfl hi_7 dX11_told_96 ?_
      exact e_ROi hx hb hr hk dX11_told_97 (Option.some.inj hp)
    have hp := ite_n hp c_6
    by_cases c_8 : p2 = 2
    · have hp := ite_p hp c_8
      refine r_tab (tgt := 98) (off := 84) 2 hx hb dX11_told_14 c_8 (by decide) (by decide) ?_
      refine lv_aload_n hx hb dX11_told_98 rfl (lv_at hl 0 rfl) ?_
      refine gf_X11_57 hx hb hts hown hK hP 0 rfl rfl dX11_told_99 ?_
      refine gf_X11_87 hx hb hts hown hK hP 20 rfl rfl dX11_told_102 ?_
      refine gf_X11_155 hx hb hts hown hK hP 24 rfl rfl dX11_told_105 ?_
      refine lv_iload_n hx hb dX11_told_108 rfl (lv_at hl 1 rfl) ?_
      obtain ⟨hi_9, hp⟩ := ckI_s hp
      refine r_ild hx hb hK hP 27 rfl hi_9 dX11_told_109 ?_
      exact e_ROi hx hb hr hk dX11_told_110 (Option.some.inj hp)
    have hp := ite_n hp c_8
    by_cases c_10 : p2 = 3
    · have hp := ite_p hp c_10
      refine r_tab (tgt := 111) (off := 97) 3 hx hb dX11_told_14 c_10 (by decide) (by decide) ?_
      refine lv_aload_n hx hb dX11_told_111 rfl (lv_at hl 0 rfl) ?_
      refine gf_X11_57 hx hb hts hown hK hP 0 rfl rfl dX11_told_112 ?_
      refine gf_X11_87 hx hb hts hown hK hP 20 rfl rfl dX11_told_115 ?_
      refine gf_X11_158 hx hb hts hown hK hP 24 rfl rfl dX11_told_118 ?_
      refine lv_iload_n hx hb dX11_told_121 rfl (lv_at hl 1 rfl) ?_
      obtain ⟨hi_11, hp⟩ := ckI_s hp
      refine r_ild hx hb hK hP 28 rfl hi_11 dX11_told_122 ?_
      exact e_ROi hx hb hr hk dX11_told_123 (Option.some.inj hp)
    have hp := ite_n hp c_10
    by_cases c_12 : p2 = 4
    · have hp := ite_p hp c_12
      refine r_tab (tgt := 124) (off := 110) 4 hx hb dX11_told_14 c_12 (by decide) (by decide) ?_
      refine lv_aload_n hx hb dX11_told_124 rfl (lv_at hl 0 rfl) ?_
      refine gf_X11_57 hx hb hts hown hK hP 0 rfl rfl dX11_told_125 ?_
      refine lv_iload_n hx hb dX11_told_128 rfl (lv_at hl 1 rfl) ?_
      obtain ⟨r_14, hc_13, hp⟩ := bn1_s hp
      refine k_ROV (As := [.int p1]) (rest := []) ⟨hx, hb, hml, hown, hts⟩ hK (hP.sub (ws' := (w_Fi cy qfo qro qra qvc qos qli fo ro ra vc os li)) [20, 21, 22, 23, 24, 25, 26, 27, 28, 29, 30, 31, 32, 33, 34, 35, 36, 37, 38, 39, 40, 41, 42] rfl) (cw_X11_161 hts ⟨Nat.le_of_ble_eq_true rfl, Nat.le_of_ble_eq_true rfl⟩) 0 (ci := 2) rfl rfl rfl (c_X2_earliest l D cy qfo qro qra qvc qos qli fo ro ra vc os li p1 r_14 hc_13) rfl hl.1 (Nat.le_of_ble_eq_true rfl) ⟨Nat.le_refl _, Nat.le_refl _⟩ dX11_told_129 ?_
      exact e_ROi hx hb hr hk dX11_told_132 (Option.some.inj hp)
    have hp := ite_n hp c_12
    by_cases c_15 : p2 = 5
    · have hp := ite_p hp c_15
      refine r_tab (tgt := 133) (off := 119) 5 hx hb dX11_told_14 c_15 (by decide) (by decide) ?_
      refine lv_aload_n hx hb dX11_told_133 rfl (lv_at hl 0 rfl) ?_
      refine gf_X11_57 hx hb hts hown hK hP 0 rfl rfl dX11_told_134 ?_
      refine lv_iload_n hx hb dX11_told_137 rfl (lv_at hl 1 rfl) ?_
      obtain ⟨r_17, hc_16, hp⟩ := bn1_s hp
      refine k_ROV (As := [.int p1]) (rest := []) ⟨hx, hb, hml, hown, hts⟩ hK (hP.sub (ws' := (w_Fi cy qfo qro qra qvc qos qli fo ro ra vc os li)) [20, 21, 22, 23, 24, 25, 26, 27, 28, 29, 30, 31, 32, 33, 34, 35, 36, 37, 38, 39, 40, 41, 42] rfl) (cw_X11_164 hts ⟨Nat.le_of_ble_eq_true rfl, Nat.le_of_ble_eq_true rfl⟩) 0 (ci := 2) rfl rfl rfl (c_X2_isSeated l D cy qfo qro qra qvc qos qli fo ro ra vc os li p1 r_17 hc_16) rfl hl.1 (Nat.le_of_ble_eq_true rfl) ⟨Nat.le_refl _, Nat.le_refl _⟩ dX11_told_138 ?_
      refine lv_if_eq (tgt := 156) hx hb dX11_told_141 (by decide) (fun c_18 => ?_) (fun c_18 => ?_)
      · have hp := ite_p hp c_18
        refine lv_bipush (v := (-2)) hx hb dX11_told_156 (by decide) ?_
        exact e_ROi hx hb hr hk dX11_told_158 (Option.some.inj hp)
      · have hp := ite_n hp c_18
        refine lv_aload_n hx hb dX11_told_144 rfl (lv_at hl 0 rfl) ?_
        refine gf_X11_57 hx hb hts hown hK hP 0 rfl rfl dX11_told_145 ?_
        refine gf_X11_167 hx hb hts hown hK hP 20 rfl rfl dX11_told_148 ?_
        refine lv_iload_n hx hb dX11_told_151 rfl (lv_at hl 1 rfl) ?_
        obtain ⟨hi_19, hp⟩ := ckI_s hp
        refine r_ild hx hb hK hP 21 rfl hi_19 dX11_told_152 ?_
        refine lv_goto (tgt := 158) hx hb dX11_told_153 (by decide) ?_
        exact e_ROi hx hb hr hk dX11_told_158 (Option.some.inj hp)
    have hp := ite_n hp c_15
    by_cases c_20 : p2 = 6
    · have hp := ite_p hp c_20
      refine r_tab (tgt := 159) (off := 145) 6 hx hb dX11_told_14 c_20 (by decide) (by decide) ?_
      refine lv_aload_n hx hb dX11_told_159 rfl (lv_at hl 0 rfl) ?_
      refine gf_X11_57 hx hb hts hown hK hP 0 rfl rfl dX11_told_160 ?_
      refine lv_iload_n hx hb dX11_told_163 rfl (lv_at hl 1 rfl) ?_
      obtain ⟨r_22, hc_21, hp⟩ := bn1_s hp
      refine k_ROV (As := [.int p1]) (rest := []) ⟨hx, hb, hml, hown, hts⟩ hK (hP.sub (ws' := (w_Fi cy qfo qro qra qvc qos qli fo ro ra vc os li)) [20, 21, 22, 23, 24, 25, 26, 27, 28, 29, 30, 31, 32, 33, 34, 35, 36, 37, 38, 39, 40, 41, 42] rfl) (cw_X11_164 hts ⟨Nat.le_of_ble_eq_true rfl, Nat.le_of_ble_eq_true rfl⟩) 0 (ci := 2) rfl rfl rfl (c_X2_isSeated l D cy qfo qro qra qvc qos qli fo ro ra vc os li p1 r_22 hc_21) rfl hl.1 (Nat.le_of_ble_eq_true rfl) ⟨Nat.le_refl _, Nat.le_refl _⟩ dX11_told_164 ?_
      refine lv_if_eq (tgt := 182) hx hb dX11_told_167 (by decide) (fun c_23 => ?_) (fun c_23 => ?_)
      · have hp := ite_p hp c_23
        refine lv_bipush (v := (-2)) hx hb dX11_told_182 (by decide) ?_
        exact e_ROi hx hb hr hk dX11_told_184 (Option.some.inj hp)
      · have hp := ite_n hp c_23
        refine lv_aload_n hx hb dX11_told_170 rfl (lv_at hl 0 rfl) ?_
        refine gf_X11_57 hx hb hts hown hK hP 0 rfl rfl dX11_told_171 ?_
        refine gf_X11_170 hx hb hts hown hK hP 20 rfl rfl dX11_told_174 ?_
        refine lv_iload_n hx hb dX11_told_177 rfl (lv_at hl 1 rfl) ?_
        obtain ⟨hi_24, hp⟩ := ckI_s hp
        refine r_ild hx hb hK hP 22 rfl hi_24 dX11_told_178 ?_
        refine lv_goto (tgt := 184) hx hb dX11_told_179 (by decide) ?_
        exact e_ROi hx hb hr hk dX11_told_184 (Option.some.inj hp)
    have hp := ite_n hp c_20
    by_cases c_25 : p2 = 7
    · have hp := ite_p hp c_25
      refine r_tab (tgt := 185) (off := 171) 7 hx hb dX11_told_14 c_25 (by decide) (by decide) ?_
      refine lv_aload_n hx hb dX11_told_185 rfl (lv_at hl 0 rfl) ?_
      refine gf_X11_57 hx hb hts hown hK hP 0 rfl rfl dX11_told_186 ?_
      refine lv_iload_n hx hb dX11_told_189 rfl (lv_at hl 1 rfl) ?_
      obtain ⟨r_27, hc_26, hp⟩ := bn1_s hp
      refine k_ROV (As := [.int p1]) (rest := []) ⟨hx, hb, hml, hown, hts⟩ hK (hP.sub (ws' := (w_Fi cy qfo qro qra qvc qos qli fo ro ra vc os li)) [20, 21, 22, 23, 24, 25, 26, 27, 28, 29, 30, 31, 32, 33, 34, 35, 36, 37, 38, 39, 40, 41, 42] rfl) (cw_X11_164 hts ⟨Nat.le_of_ble_eq_true rfl, Nat.le_of_ble_eq_true rfl⟩) 0 (ci := 2) rfl rfl rfl (c_X2_isSeated l D cy qfo qro qra qvc qos qli fo ro ra vc os li p1 r_27 hc_26) rfl hl.1 (Nat.le_of_ble_eq_true rfl) ⟨Nat.le_refl _, Nat.le_refl _⟩ dX11_told_190 ?_
      refine lv_if_eq (tgt := 208) hx hb dX11_told_193 (by decide) (fun c_28 => ?_) (fun c_28 => ?_)
      · have hp := ite_p hp c_28
        refine lv_bipush (v := (-2)) hx hb dX11_told_208 (by decide) ?_
        exact e_ROi hx hb hr hk dX11_told_210 (Option.some.inj hp)
      · have hp := ite_n hp c_28
        refine lv_aload_n hx hb dX11_told_196 rfl (lv_at hl 0 rfl) ?_
        refine gf_X11_57 hx hb hts hown hK hP 0 rfl rfl dX11_told_197 ?_
        refine gf_X11_173 hx hb hts hown hK hP 20 rfl rfl dX11_told_200 ?_
        refine lv_iload_n hx hb dX11_told_203 rfl (lv_at hl 1 rfl) ?_
        obtain ⟨hi_29, hp⟩ := ckI_s hp
        refine r_ild hx hb hK hP 23 rfl hi_29 dX11_told_204 ?_
        refine lv_goto (tgt := 210) hx hb dX11_told_205 (by decide) ?_
        exact e_ROi hx hb hr hk dX11_told_210 (Option.some.inj hp)
    have hp := ite_n hp c_25
    by_cases c_30 : p2 = 8
    · have hp := ite_p hp c_30
      refine r_tab (tgt := 211) (off := 197) 8 hx hb dX11_told_14 c_30 (by decide) (by decide) ?_
      refine lv_aload_n hx hb dX11_told_211 rfl (lv_at hl 0 rfl) ?_
      refine gf_X11_57 hx hb hts hown hK hP 0 rfl rfl dX11_told_212 ?_
      refine lv_iload_n hx hb dX11_told_215 rfl (lv_at hl 1 rfl) ?_
      obtain ⟨r_32, hc_31, hp⟩ := bn1_s hp
      refine k_ROV (As := [.int p1]) (rest := []) ⟨hx, hb, hml, hown, hts⟩ hK (hP.sub (ws' := (w_Fi cy qfo qro qra qvc qos qli fo ro ra vc os li)) [20, 21, 22, 23, 24, 25, 26, 27, 28, 29, 30, 31, 32, 33, 34, 35, 36, 37, 38, 39, 40, 41, 42] rfl) (cw_X11_176 hts ⟨Nat.le_of_ble_eq_true rfl, Nat.le_of_ble_eq_true rfl⟩) 0 (ci := 2) rfl rfl rfl (c_X2_isAloft l D cy qfo qro qra qvc qos qli fo ro ra vc os li p1 r_32 hc_31) rfl hl.1 (Nat.le_of_ble_eq_true rfl) ⟨Nat.le_refl _, Nat.le_refl _⟩ dX11_told_216 ?_
      refine lv_if_eq (tgt := 226) hx hb dX11_told_219 (by decide) (fun c_33 => ?_) (fun c_33 => ?_)
      · have hp := ite_p hp c_33
        refine lv_iconst (v := 0) hx hb dX11_told_226 (by decide) ?_
        exact e_ROi hx hb hr hk dX11_told_227 (Option.some.inj hp)
      · have hp := ite_n hp c_33
        refine lv_iconst (v := 1) hx hb dX11_told_222 (by decide) ?_
        refine lv_goto (tgt := 227) hx hb dX11_told_223 (by decide) ?_
        exact e_ROi hx hb hr hk dX11_told_227 (Option.some.inj hp)
    have hp := ite_n hp c_30
    by_cases c_34 : p2 = 9
    · have hp := ite_p hp c_34
      refine r_tab (tgt := 228) (off := 214) 9 hx hb dX11_told_14 c_34 (by decide) (by decide) ?_
      refine lv_aload_n hx hb dX11_told_228 rfl (lv_at hl 0 rfl) ?_
      refine gf_X11_57 hx hb hts hown hK hP 0 rfl rfl dX11_told_229 ?_
      refine lv_iload_n hx hb dX11_told_232 rfl (lv_at hl 1 rfl) ?_
      obtain ⟨r_36, hc_35, hp⟩ := bn1_s hp
      refine k_ROV (As := [.int p1]) (rest := []) ⟨hx, hb, hml, hown, hts⟩ hK (hP.sub (ws' := (w_Fi cy qfo qro qra qvc qos qli fo ro ra vc os li)) [20, 21, 22, 23, 24, 25, 26, 27, 28, 29, 30, 31, 32, 33, 34, 35, 36, 37, 38, 39, 40, 41, 42] rfl) (cw_X11_179 hts ⟨Nat.le_of_ble_eq_true rfl, Nat.le_of_ble_eq_true rfl⟩) 0 (ci := 2) rfl rfl rfl (c_X2_isCancelled l D cy qfo qro qra qvc qos qli fo ro ra vc os li p1 r_36 hc_35) rfl hl.1 (Nat.le_of_ble_eq_true rfl) ⟨Nat.le_refl _, Nat.le_refl _⟩ dX11_told_233 ?_
      refine lv_if_eq (tgt := 243) hx hb dX11_told_236 (by decide) (fun c_37 => ?_) (fun c_37 => ?_)
      · have hp := ite_p hp c_37
        refine lv_iconst (v := 0) hx hb dX11_told_243 (by decide) ?_
        exact e_ROi hx hb hr hk dX11_told_244 (Option.some.inj hp)
      · have hp := ite_n hp c_37
        refine lv_iconst (v := 1) hx hb dX11_told_239 (by decide) ?_
        refine lv_goto (tgt := 244) hx hb dX11_told_240 (by decide) ?_
        exact e_ROi hx hb hr hk dX11_told_244 (Option.some.inj hp)
    have hp := ite_n hp c_34
    by_cases c_38 : p2 = 10
    · have hp := ite_p hp c_38
      refine r_tab (tgt := 245) (off := 231) 10 hx hb dX11_told_14 c_38 (by decide) (by decide) ?_
      refine lv_aload_n hx hb dX11_told_245 rfl (lv_at hl 0 rfl) ?_
      refine gf_X11_57 hx hb hts hown hK hP 0 rfl rfl dX11_told_246 ?_
      refine lv_iload_n hx hb dX11_told_249 rfl (lv_at hl 1 rfl) ?_
      obtain ⟨r_40, hc_39, hp⟩ := bn1_s hp
      refine k_ROV (As := [.int p1]) (rest := []) ⟨hx, hb, hml, hown, hts⟩ hK (hP.sub (ws' := (w_Fi cy qfo qro qra qvc qos qli fo ro ra vc os li)) [20, 21, 22, 23, 24, 25, 26, 27, 28, 29, 30, 31, 32, 33, 34, 35, 36, 37, 38, 39, 40, 41, 42] rfl) (cw_X11_164 hts ⟨Nat.le_of_ble_eq_true rfl, Nat.le_of_ble_eq_true rfl⟩) 0 (ci := 2) rfl rfl rfl (c_X2_isSeated l D cy qfo qro qra qvc qos qli fo ro ra vc os li p1 r_40 hc_39) rfl hl.1 (Nat.le_of_ble_eq_true rfl) ⟨Nat.le_refl _, Nat.le_refl _⟩ dX11_told_250 ?_
      refine lv_if_eq (tgt := 267) hx hb dX11_told_253 (by decide) (fun c_41 => ?_) (fun c_41 => ?_)
      · have hp := ite_p hp c_41
        refine lv_bipush (v := (-2)) hx hb dX11_told_267 (by decide) ?_
        exact e_ROi hx hb hr hk dX11_told_269 (Option.some.inj hp)
      · have hp := ite_n hp c_41
        refine lv_aload_n hx hb dX11_told_256 rfl (lv_at hl 0 rfl) ?_
        refine gf_X11_57 hx hb hts hown hK hP 0 rfl rfl dX11_told_257 ?_
        refine lv_iload_n hx hb dX11_told_260 rfl (lv_at hl 1 rfl) ?_
        obtain ⟨r_43, hc_42, hp⟩ := bn1_s hp
        refine k_ROV (As := [.int p1]) (rest := []) ⟨hx, hb, hml, hown, hts⟩ hK (hP.sub (ws' := (w_Fi cy qfo qro qra qvc qos qli fo ro ra vc os li)) [20, 21, 22, 23, 24, 25, 26, 27, 28, 29, 30, 31, 32, 33, 34, 35, 36, 37, 38, 39, 40, 41, 42] rfl) (cw_X11_182 hts ⟨Nat.le_of_ble_eq_true rfl, Nat.le_of_ble_eq_true rfl⟩) 0 (ci := 2) rfl rfl rfl (c_X2_costOf l D cy qfo qro qra qvc qos qli fo ro ra vc os li p1 r_43 hc_42) rfl hl.1 (Nat.le_of_ble_eq_true rfl) ⟨Nat.le_refl _, Nat.le_refl _⟩ dX11_told_261 ?_
        refine lv_goto (tgt := 269) hx hb dX11_told_264 (by decide) ?_
        exact e_ROi hx hb hr hk dX11_told_269 (Option.some.inj hp)
    have hp := ite_n hp c_38
    refine lv_tableOut (tgt := 270) hx hb dX11_told_14 (by have zc_4 : (p2).toInt ≠ 0 := ne_toInt c_4; have zc_6 : (p2).toInt ≠ 1 := ne_toInt c_6; have zc_8 : (p2).toInt ≠ 2 := ne_toInt c_8; have zc_10 : (p2).toInt ≠ 3 := ne_toInt c_10; have zc_12 : (p2).toInt ≠ 4 := ne_toInt c_12; have zc_15 : (p2).toInt ≠ 5 := ne_toInt c_15; have zc_20 : (p2).toInt ≠ 6 := ne_toInt c_20; have zc_25 : (p2).toInt ≠ 7 := ne_toInt c_25; have zc_30 : (p2).toInt ≠ 8 := ne_toInt c_30; have zc_34 : (p2).toInt ≠ 9 := ne_toInt c_34; have zc_38 : (p2).toInt ≠ 10 := ne_toInt c_38; omega) (by decide) ?_
    refine lv_iconst (v := (-1)) hx hb dX11_told_270 (by decide) ?_
    exact e_ROi hx hb hr hk dX11_told_271 (Option.some.inj hp)
  · have hp := ite_p hp c_3
    refine lv_iconst (v := (-1)) hx hb dX11_told_11 (by decide) ?_
    exact e_ROi hx hb hr hk dX11_told_12 (Option.some.inj hp)
/-! StormSlots.slot(I)I -/
def St_slot (ra : Mem) (p1 : Int32) : Option (Int32) :=
  if 0 ≤ p1 then bn1 (Ra_slotMinute ra p1) (fun r_3 => some r_3) else some (-1)
set_option maxHeartbeats 4000000 in
set_option maxRecDepth 100000 in
theorem c_X11_slot (l : Launch) (D : va_G) (cy : Nat → ClassId) (qsm qbsa qbsb qrd qdi qrof qpn qse qfo qro qra qvc qos qli qfot qrot qrat qvct qost qlit : Nat → Nat) (sm bsa bsb rd di rof pn se fo ro ra vc os li fot rot rat vct ost lit : Mem) (p1 : Int32) (r : Int32) (hp : St_slot ra p1 = some r) : RO l yX11_slot cX11_slot 2 (some .int) 2 D cy [.ref (qsm 0), .int p1] (w_All cy qsm qbsa qbsb qrd qdi qrof qpn qse qfo qro qra qvc qos qli qfot qrot qrat qvct qost qlit sm bsa bsb rd di rof pn se fo ro ra vc os li fot rot rat vct ost lit) r := by
  refine RO_of RX11 rfl (by decide) (Nat.le_of_ble_eq_true rfl) ?_
  intro p e s m below meth c C0 hK hP ls hl
  obtain ⟨hx, hb, hr, hml, hown, hts, hk⟩ := id C0
  unfold St_slot at hp
  have hl : lv_has ls 2 [(0, .ref (qsm 0)), (1, .int p1)] := hl
  refine lv_iload_n hx hb dX11_slot_0 rfl (lv_at hl 1 rfl) ?_
  refine lv_if_ge (tgt := 6) hx hb dX11_slot_1 (by decide) (fun c_1 => ?_) (fun c_1 => ?_)
  · have hp := ite_p hp c_1
    refine lv_aload_n hx hb dX11_slot_6 rfl (lv_at hl 0 rfl) ?_
    refine gf_X11_57 hx hb hts hown hK hP 0 rfl rfl dX11_slot_7 ?_
    refine gf_X11_125 hx hb hts hown hK hP 20 rfl rfl dX11_slot_10 ?_
    refine lv_iload_n hx hb dX11_slot_13 rfl (lv_at hl 1 rfl) ?_
    obtain ⟨r_3, hc_2, hp⟩ := bn1_s hp
    refine k_ROV (As := [.int p1]) (rest := []) ⟨hx, hb, hml, hown, hts⟩ hK (hP.sub (ws' := (w_Ra cy qra ra)) [29, 30] rfl) (cw_X11_185 hts ⟨Nat.le_of_ble_eq_true rfl, Nat.le_of_ble_eq_true rfl⟩) 0 (ci := 7) rfl rfl rfl (c_X7_slotMinute l D cy qra ra p1 r_3 hc_2) rfl hl.1 (Nat.le_of_ble_eq_true rfl) ⟨Nat.le_refl _, Nat.le_refl _⟩ dX11_slot_14 ?_
    exact e_ROi hx hb hr hk dX11_slot_17 (Option.some.inj hp)
  · have hp := ite_n hp c_1
    refine lv_iconst (v := (-1)) hx hb dX11_slot_4 (by decide) ?_
    exact e_ROi hx hb hr hk dX11_slot_5 (Option.some.inj hp)
/-! StormSlots.at(I)I -/
def St_at (fo : Mem) (ra : Mem) (vc : Mem) (p1 : Int32) : Option (Int32) :=
  bn1 (St_isMinute p1) (fun r_2 => if r_2 = 0 then some (-1) else bn1 (Fi_flightIn fo p1) (fun r_5 => if r_5 = (-1) then bn1 (Va_find vc p1) (fun r_8 => if r_8 = (-1) then bn1 (Ra_hasSlot ra p1) (fun r_11 => if r_11 = 0 then some (-4) else some (-2)) else some (-3)) else some r_5))
set_option maxHeartbeats 4000000 in
set_option maxRecDepth 100000 in
theorem c_X11_at (l : Launch) (D : va_G) (cy : Nat → ClassId) (qsm qbsa qbsb qrd qdi qrof qpn qse qfo qro qra qvc qos qli qfot qrot qrat qvct qost qlit : Nat → Nat) (sm bsa bsb rd di rof pn se fo ro ra vc os li fot rot rat vct ost lit : Mem) (p1 : Int32) (r : Int32) (hp : St_at fo ra vc p1 = some r) : RO l yX11_at cX11_at 3 (some .int) 3 D cy [.ref (qsm 0), .int p1] (w_All cy qsm qbsa qbsb qrd qdi qrof qpn qse qfo qro qra qvc qos qli qfot qrot qrat qvct qost qlit sm bsa bsb rd di rof pn se fo ro ra vc os li fot rot rat vct ost lit) r := by
  refine RO_of RX11 rfl (by decide) (Nat.le_of_ble_eq_true rfl) ?_
  intro p e s m below meth c C0 hK hP ls hl
  obtain ⟨hx, hb, hr, hml, hown, hts, hk⟩ := id C0
  unfold St_at at hp
  have hl : lv_has ls 3 [(0, .ref (qsm 0)), (1, .int p1)] := hl
  refine lv_iload_n hx hb dX11_at_0 rfl (lv_at hl 1 rfl) ?_
  obtain ⟨r_2, hc_1, hp⟩ := bn1_s hp
  refine k_ROS (As := [.int p1]) (rest := []) ⟨hx, hb, hml, hown, hts⟩ hK (show va_P D vwCl [] _ from fun k q h => by simp at h) (cw_X11_188 hts ⟨Nat.le_of_ble_eq_true rfl, Nat.le_of_ble_eq_true rfl⟩) (c_X11_isMinute l D cy p1 r_2 hc_1) rfl hl.1 (Nat.le_of_ble_eq_true rfl) ⟨Nat.le_refl _, Nat.le_refl _⟩ dX11_at_1 ?_
  refine lv_if_ne (tgt := 9) hx hb dX11_at_4 (by decide) (fun c_3 => ?_) (fun c_3 => ?_)
  · have hp := ite_n hp c_3
    refine lv_aload_n hx hb dX11_at_9 rfl (lv_at hl 0 rfl) ?_
    refine gf_X11_57 hx hb hts hown hK hP 0 rfl rfl dX11_at_10 ?_
    refine lv_iload_n hx hb dX11_at_13 rfl (lv_at hl 1 rfl) ?_
    obtain ⟨r_5, hc_4, hp⟩ := bn1_s hp
    refine k_ROV (As := [.int p1]) (rest := []) ⟨hx, hb, hml, hown, hts⟩ hK (hP.sub (ws' := (w_Fi cy qfo qro qra qvc qos qli fo ro ra vc os li)) [20, 21, 22, 23, 24, 25, 26, 27, 28, 29, 30, 31, 32, 33, 34, 35, 36, 37, 38, 39, 40, 41, 42] rfl) (cw_X11_191 hts ⟨Nat.le_of_ble_eq_true rfl, Nat.le_of_ble_eq_true rfl⟩) 0 (ci := 2) rfl rfl rfl (c_X2_flightIn l D cy qfo qro qra qvc qos qli fo ro ra vc os li p1 r_5 hc_4) rfl hl.1 (Nat.le_of_ble_eq_true rfl) ⟨Nat.le_refl _, Nat.le_refl _⟩ dX11_at_14 ?_
    refine lv_istore_n (lv' := [(2, .int r_5), (0, .ref (qsm 0)), (1, .int p1)]) hx hb dX11_at_17 rfl hl (by decide) rfl (fun ls hl => ?_)
    refine lv_iload_n hx hb dX11_at_18 rfl (lv_at hl 0 rfl) ?_
    refine lv_iconst (v := (-1)) hx hb dX11_at_19 (by decide) ?_
    refine lv_icmp_eq (tgt := 25) hx hb dX11_at_20 (by decide) (fun c_6 => ?_) (fun c_6 => ?_)
    · have hp := ite_p hp c_6
      refine lv_aload_n hx hb dX11_at_25 rfl (lv_at hl 1 rfl) ?_
      refine gf_X11_57 hx hb hts hown hK hP 0 rfl rfl dX11_at_26 ?_
      refine gf_X11_194 hx hb hts hown hK hP 20 rfl rfl dX11_at_29 ?_
      refine lv_iload_n hx hb dX11_at_32 rfl (lv_at hl 2 rfl) ?_
      obtain ⟨r_8, hc_7, hp⟩ := bn1_s hp
      refine k_ROV (As := [.int p1]) (rest := []) ⟨hx, hb, hml, hown, hts⟩ hK (hP.sub (ws' := (w_Va cy qvc vc)) [31, 32, 33] rfl) (cw_X11_198 hts ⟨Nat.le_of_ble_eq_true rfl, Nat.le_of_ble_eq_true rfl⟩) 0 (ci := 10) rfl rfl rfl (c_X10_find l D cy qvc vc p1 r_8 hc_7) rfl hl.1 (Nat.le_of_ble_eq_true rfl) ⟨Nat.le_refl _, Nat.le_refl _⟩ dX11_at_33 ?_
      refine lv_iconst (v := (-1)) hx hb dX11_at_36 (by decide) ?_
      refine lv_icmp_eq (tgt := 43) hx hb dX11_at_37 (by decide) (fun c_9 => ?_) (fun c_9 => ?_)
      · have hp := ite_p hp c_9
        refine lv_aload_n hx hb dX11_at_43 rfl (lv_at hl 1 rfl) ?_
        refine gf_X11_57 hx hb hts hown hK hP 0 rfl rfl dX11_at_44 ?_
        refine gf_X11_125 hx hb hts hown hK hP 20 rfl rfl dX11_at_47 ?_
        refine lv_iload_n hx hb dX11_at_50 rfl (lv_at hl 2 rfl) ?_
        obtain ⟨r_11, hc_10, hp⟩ := bn1_s hp
        refine k_ROV (As := [.int p1]) (rest := []) ⟨hx, hb, hml, hown, hts⟩ hK (hP.sub (ws' := (w_Ra cy qra ra)) [29, 30] rfl) (cw_X11_203 hts ⟨Nat.le_of_ble_eq_true rfl, Nat.le_of_ble_eq_true rfl⟩) 0 (ci := 7) rfl rfl rfl (c_X7_hasSlot l D cy qra ra p1 r_11 hc_10) rfl hl.1 (Nat.le_of_ble_eq_true rfl) ⟨Nat.le_refl _, Nat.le_refl _⟩ dX11_at_51 ?_
        refine lv_if_eq (tgt := 62) hx hb dX11_at_54 (by decide) (fun c_12 => ?_) (fun c_12 => ?_)
        · have hp := ite_p hp c_12
          refine lv_bipush (v := (-4)) hx hb dX11_at_62 (by decide) ?_
          exact e_ROi hx hb hr hk dX11_at_64 (Option.some.inj hp)
        · have hp := ite_n hp c_12
          refine lv_bipush (v := (-2)) hx hb dX11_at_57 (by decide) ?_
          refine lv_goto (tgt := 64) hx hb dX11_at_59 (by decide) ?_
          exact e_ROi hx hb hr hk dX11_at_64 (Option.some.inj hp)
      · have hp := ite_n hp c_9
        refine lv_bipush (v := (-3)) hx hb dX11_at_40 (by decide) ?_
        exact e_ROi hx hb hr hk dX11_at_42 (Option.some.inj hp)
    · have hp := ite_n hp c_6
      refine lv_iload_n hx hb dX11_at_23 rfl (lv_at hl 0 rfl) ?_
      exact e_ROi hx hb hr hk dX11_at_24 (Option.some.inj hp)
  · have hp := ite_p hp c_3
    refine lv_iconst (v := (-1)) hx hb dX11_at_7 (by decide) ?_
    exact e_ROi hx hb hr hk dX11_at_8 (Option.some.inj hp)
/-! StormSlots.plan()I -/
def St_plan (pn : Mem) (fo : Mem) (ro : Mem) (ra : Mem) (vc : Mem) (os : Mem) : Option (Int32 × Mem × Mem × Mem × Mem) :=
  if (ro 4 0) = 0 then some ((-2), pn, fo, vc, os) else bn4 (Pl_planAnew pn fo ro ra vc os 0) (fun pn_3 fo_4 vc_5 os_6 => bn1 (Fi_countWaiting fo_4) (fun r_8 => some (r_8, pn_3, fo_4, vc_5, os_6)))
set_option maxHeartbeats 4000000 in
set_option maxRecDepth 100000 in
theorem c_X11_plan (l : Launch) (D : va_G) (cy : Nat → ClassId) (qsm qbsa qbsb qrd qdi qrof qpn qse qfo qro qra qvc qos qli qfot qrot qrat qvct qost qlit : Nat → Nat) (sm bsa bsb rd di rof pn se fo ro ra vc os li fot rot rat vct ost lit : Mem) (r : Int32) (pn' fo' vc' os' : Mem) (hp : St_plan pn fo ro ra vc os = some (r, pn', fo', vc', os')) : RI l yX11_plan cX11_plan 1 (some .int) 6 D cy [.ref (qsm 0)] (w_All cy qsm qbsa qbsb qrd qdi qrof qpn qse qfo qro qra qvc qos qli qfot qrot qrat qvct qost qlit sm bsa bsb rd di rof pn se fo ro ra vc os li fot rot rat vct ost lit) (w_All cy qsm qbsa qbsb qrd qdi qrof qpn qse qfo qro qra qvc qos qli qfot qrot qrat qvct qost qlit sm bsa bsb rd di rof pn' se fo' ro ra vc' os' li fot rot rat vct ost lit) r := by
  refine RI_of RX11 rfl (by decide) (Nat.le_of_ble_eq_true rfl) ?_
  intro p e s m below meth c A C0 hK hP hD hS hA ls hl
  obtain ⟨hx, hb, hr, hml, hown, hts, hk⟩ := id C0
  unfold St_plan at hp
  have hl : lv_has ls 1 [(0, .ref (qsm 0))] := hl
  refine lv_aload_n hx hb dX11_plan_0 rfl (lv_at hl 0 rfl) ?_
  refine gf_X11_57 hx hb hts hown hK hP 0 rfl rfl dX11_plan_1 ?_
  refine gf_X11_87 hx hb hts hown hK hP 20 rfl rfl dX11_plan_4 ?_
  refine gf_X11_90 hx hb hts hown hK hP 24 rfl rfl dX11_plan_7 ?_
  refine lv_if_ne (tgt := 16) hx hb dX11_plan_10 (by decide) (fun c_1 => ?_) (fun c_1 => ?_)
  · have hp := ite_n hp c_1
    refine lv_aload_n hx hb dX11_plan_16 rfl (lv_at hl 0 rfl) ?_
    refine gf_X11_43 hx hb hts hown hK hP 0 rfl rfl dX11_plan_17 ?_
    refine lv_aload_n hx hb dX11_plan_20 rfl (lv_at hl 0 rfl) ?_
    refine gf_X11_57 hx hb hts hown hK hP 0 rfl rfl dX11_plan_21 ?_
    refine lv_iconst (v := 0) hx hb dX11_plan_24 (by decide) ?_
    obtain ⟨pn_3, fo_4, vc_5, os_6, hc_2, hp⟩ := bn4_s hp
    refine k_RVV (As := [.ref (qfo 0), .int 0]) (rest := []) ⟨hx, hb, hml, hown, hts⟩ hK hP hD hS hA (FrS_set (ws := (w_All cy qsm qbsa qbsb qrd qdi qrof qpn qse qfo qro qra qvc qos qli qfot qrot qrat qvct qost qlit sm bsa bsb rd di rof pn se fo ro ra vc os li fot rot rat vct ost lit)) (wc := (w_PlFi cy qpn qfo qro qra qvc qos qli pn fo ro ra vc os li)) (w1 := (w_PlFi cy qpn qfo qro qra qvc qos qli pn_3 fo_4 ro ra vc_5 os_6 li)) (wn := (w_All cy qsm qbsa qbsb qrd qdi qrof qpn qse qfo qro qra qvc qos qli qfot qrot qrat qvct qost qlit sm bsa bsb rd di rof pn_3 se fo_4 ro ra vc_5 os_6 li fot rot rat vct ost lit)) [12, 13, 14, 20, 21, 22, 23, 24, 25, 26, 27, 28, 29, 30, 31, 32, 33, 34, 35, 36, 37, 38, 39, 40, 41, 42] [none, none, none, none, none, none, none, none, none, none, none, none, some 0, some 1, some 2, none, none, none, none, none, some 3, some 4, some 5, some 6, some 7, some 8, some 9, some 10, some 11, some 12, some 13, some 14, some 15, some 16, some 17, some 18, some 19, some 20, some 21, some 22, some 23, some 24, some 25, none, none, none, none, none, none, none, none, none, none, none, none, none, none, none, none, none, none, none, none, none, none, none] (by decide +kernel) rfl rfl rfl) (cw_X11_206 hts ⟨Nat.le_of_ble_eq_true rfl, Nat.le_of_ble_eq_true rfl⟩) 0 (ci := 6) rfl rfl rfl (c_X6_planAnew l D cy qpn qfo qro qra qvc qos qli pn fo ro ra vc os li 0 pn_3 fo_4 vc_5 os_6 hc_2) rfl hl.1 (Nat.le_of_ble_eq_true rfl) ⟨Nat.le_refl _, Nat.le_refl _⟩ dX11_plan_25 (fun H locs hP hD hS => ?_)
    refine lv_aload_n hx hb dX11_plan_28 rfl (lv_at hl 0 rfl) ?_
    refine gf_X11_57 hx hb hts hown hK hP 0 rfl rfl dX11_plan_29 ?_
    obtain ⟨r_8, hc_7, hp⟩ := bn1_s hp
    refine k_ROV (As := []) (rest := []) ⟨hx, hb, hml, hown, hts⟩ hK (hP.sub (ws' := (w_Fi cy qfo qro qra qvc qos qli fo_4 ro ra vc_5 os_6 li)) [20, 21, 22, 23, 24, 25, 26, 27, 28, 29, 30, 31, 32, 33, 34, 35, 36, 37, 38, 39, 40, 41, 42] rfl) (cw_X11_210 hts ⟨Nat.le_of_ble_eq_true rfl, Nat.le_of_ble_eq_true rfl⟩) 0 (ci := 2) rfl rfl rfl (c_X2_countWaiting l D cy qfo qro qra qvc qos qli fo_4 ro ra vc_5 os_6 li r_8 hc_7) rfl hl.1 (Nat.le_of_ble_eq_true rfl) ⟨Nat.le_refl _, Nat.le_refl _⟩ dX11_plan_32 ?_
    simp only [Option.some.injEq, Prod.mk.injEq] at hp
    obtain ⟨h0, rfl, rfl, rfl, rfl⟩ := hp
    exact e_RIi hx hb hr hk hP hD hS dX11_plan_35 h0
  · have hp := ite_p hp c_1
    refine lv_bipush (v := (-2)) hx hb dX11_plan_13 (by decide) ?_
    simp only [Option.some.injEq, Prod.mk.injEq] at hp
    obtain ⟨h0, rfl, rfl, rfl, rfl⟩ := hp
    exact e_RIi hx hb hr hk hP hD hS dX11_plan_15 h0
/-! StormSlots.revise()I -/
def St_revise (pn : Mem) (fo : Mem) (ro : Mem) (ra : Mem) (vc : Mem) (os : Mem) : Option (Int32 × Mem × Mem × Mem × Mem) :=
  if (fo 10 0) = 0 then some ((-2), pn, fo, vc, os) else bn5 (Pl_planOn pn fo ro ra vc os) (fun r_3 pn_4 fo_5 vc_6 os_7 => some (r_3, pn_4, fo_5, vc_6, os_7))
set_option maxHeartbeats 4000000 in
set_option maxRecDepth 100000 in
theorem c_X11_revise (l : Launch) (D : va_G) (cy : Nat → ClassId) (qsm qbsa qbsb qrd qdi qrof qpn qse qfo qro qra qvc qos qli qfot qrot qrat qvct qost qlit : Nat → Nat) (sm bsa bsb rd di rof pn se fo ro ra vc os li fot rot rat vct ost lit : Mem) (r : Int32) (pn' fo' vc' os' : Mem) (hp : St_revise pn fo ro ra vc os = some (r, pn', fo', vc', os')) : RI l yX11_revise cX11_revise 1 (some .int) 6 D cy [.ref (qsm 0)] (w_All cy qsm qbsa qbsb qrd qdi qrof qpn qse qfo qro qra qvc qos qli qfot qrot qrat qvct qost qlit sm bsa bsb rd di rof pn se fo ro ra vc os li fot rot rat vct ost lit) (w_All cy qsm qbsa qbsb qrd qdi qrof qpn qse qfo qro qra qvc qos qli qfot qrot qrat qvct qost qlit sm bsa bsb rd di rof pn' se fo' ro ra vc' os' li fot rot rat vct ost lit) r := by
  refine RI_of RX11 rfl (by decide) (Nat.le_of_ble_eq_true rfl) ?_
  intro p e s m below meth c A C0 hK hP hD hS hA ls hl
  obtain ⟨hx, hb, hr, hml, hown, hts, hk⟩ := id C0
  unfold St_revise at hp
  have hl : lv_has ls 1 [(0, .ref (qsm 0))] := hl
  refine lv_aload_n hx hb dX11_revise_0 rfl (lv_at hl 0 rfl) ?_
  refine gf_X11_57 hx hb hts hown hK hP 0 rfl rfl dX11_revise_1 ?_
  refine gf_X11_214 hx hb hts hown hK hP 20 rfl rfl dX11_revise_4 ?_
  refine lv_if_ne (tgt := 13) hx hb dX11_revise_7 (by decide) (fun c_1 => ?_) (fun c_1 => ?_)
  · have hp := ite_n hp c_1
    refine lv_aload_n hx hb dX11_revise_13 rfl (lv_at hl 0 rfl) ?_
    refine gf_X11_43 hx hb hts hown hK hP 0 rfl rfl dX11_revise_14 ?_
    refine lv_aload_n hx hb dX11_revise_17 rfl (lv_at hl 0 rfl) ?_
    refine gf_X11_57 hx hb hts hown hK hP 0 rfl rfl dX11_revise_18 ?_
    obtain ⟨r_3, pn_4, fo_5, vc_6, os_7, hc_2, hp⟩ := bn5_s hp
    refine k_RIV (As := [.ref (qfo 0)]) (rest := []) ⟨hx, hb, hml, hown, hts⟩ hK hP hD hS hA (FrS_set (ws := (w_All cy qsm qbsa qbsb qrd qdi qrof qpn qse qfo qro qra qvc qos qli qfot qrot qrat qvct qost qlit sm bsa bsb rd di rof pn se fo ro ra vc os li fot rot rat vct ost lit)) (wc := (w_PlFi cy qpn qfo qro qra qvc qos qli pn fo ro ra vc os li)) (w1 := (w_PlFi cy qpn qfo qro qra qvc qos qli pn_4 fo_5 ro ra vc_6 os_7 li)) (wn := (w_All cy qsm qbsa qbsb qrd qdi qrof qpn qse qfo qro qra qvc qos qli qfot qrot qrat qvct qost qlit sm bsa bsb rd di rof pn_4 se fo_5 ro ra vc_6 os_7 li fot rot rat vct ost lit)) [12, 13, 14, 20, 21, 22, 23, 24, 25, 26, 27, 28, 29, 30, 31, 32, 33, 34, 35, 36, 37, 38, 39, 40, 41, 42] [none, none, none, none, none, none, none, none, none, none, none, none, some 0, some 1, some 2, none, none, none, none, none, some 3, some 4, some 5, some 6, some 7, some 8, some 9, some 10, some 11, some 12, some 13, some 14, some 15, some 16, some 17, some 18, some 19, some 20, some 21, some 22, some 23, some 24, some 25, none, none, none, none, none, none, none, none, none, none, none, none, none, none, none, none, none, none, none, none, none, none, none] (by decide +kernel) rfl rfl rfl) (cw_X11_218 hts ⟨Nat.le_of_ble_eq_true rfl, Nat.le_of_ble_eq_true rfl⟩) 0 (ci := 6) rfl rfl rfl (c_X6_planOn l D cy qpn qfo qro qra qvc qos qli pn fo ro ra vc os li r_3 pn_4 fo_5 vc_6 os_7 hc_2) rfl hl.1 (Nat.le_of_ble_eq_true rfl) ⟨Nat.le_refl _, Nat.le_refl _⟩ dX11_revise_21 (fun H locs hP hD hS => ?_)
    simp only [Option.some.injEq, Prod.mk.injEq] at hp
    obtain ⟨h0, rfl, rfl, rfl, rfl⟩ := hp
    exact e_RIi hx hb hr hk hP hD hS dX11_revise_24 h0
  · have hp := ite_p hp c_1
    refine lv_bipush (v := (-2)) hx hb dX11_revise_10 (by decide) ?_
    simp only [Option.some.injEq, Prod.mk.injEq] at hp
    obtain ⟨h0, rfl, rfl, rfl, rfl⟩ := hp
    exact e_RIi hx hb hr hk hP hD hS dX11_revise_12 h0
/-! StormSlots.cancel(I)I -/
def St_cancel (fo : Mem) (ro : Mem) (vc : Mem) (p1 : Int32) : Option (Int32 × Mem × Mem) :=
  bn1 (Fi_isFlight ro p1) (fun r_2 => if r_2 = 0 then some ((-1), fo, vc) else bn1 (Fi_isSeated fo p1) (fun r_5 => if r_5 = 0 then some ((-2), fo, vc) else bn1 (Fi_isAloft fo ro p1) (fun r_8 => if r_8 = 0 then bn3 (Fi_callOff fo ro vc p1) (fun r_11 fo_12 vc_13 => some (r_11, fo_12, vc_13)) else some ((-3), fo, vc))))
set_option maxHeartbeats 4000000 in
set_option maxRecDepth 100000 in
theorem c_X11_cancel (l : Launch) (D : va_G) (cy : Nat → ClassId) (qsm qbsa qbsb qrd qdi qrof qpn qse qfo qro qra qvc qos qli qfot qrot qrat qvct qost qlit : Nat → Nat) (sm bsa bsb rd di rof pn se fo ro ra vc os li fot rot rat vct ost lit : Mem) (p1 : Int32) (r : Int32) (fo' vc' : Mem) (hp : St_cancel fo ro vc p1 = some (r, fo', vc')) : RI l yX11_cancel cX11_cancel 2 (some .int) 3 D cy [.ref (qsm 0), .int p1] (w_All cy qsm qbsa qbsb qrd qdi qrof qpn qse qfo qro qra qvc qos qli qfot qrot qrat qvct qost qlit sm bsa bsb rd di rof pn se fo ro ra vc os li fot rot rat vct ost lit) (w_All cy qsm qbsa qbsb qrd qdi qrof qpn qse qfo qro qra qvc qos qli qfot qrot qrat qvct qost qlit sm bsa bsb rd di rof pn se fo' ro ra vc' os li fot rot rat vct ost lit) r := by
  refine RI_of RX11 rfl (by decide) (Nat.le_of_ble_eq_true rfl) ?_
  intro p e s m below meth c A C0 hK hP hD hS hA ls hl
  obtain ⟨hx, hb, hr, hml, hown, hts, hk⟩ := id C0
  unfold St_cancel at hp
  have hl : lv_has ls 2 [(0, .ref (qsm 0)), (1, .int p1)] := hl
  refine lv_aload_n hx hb dX11_cancel_0 rfl (lv_at hl 0 rfl) ?_
  refine gf_X11_57 hx hb hts hown hK hP 0 rfl rfl dX11_cancel_1 ?_
  refine lv_iload_n hx hb dX11_cancel_4 rfl (lv_at hl 1 rfl) ?_
  obtain ⟨r_2, hc_1, hp⟩ := bn1_s hp
  refine k_ROV (As := [.int p1]) (rest := []) ⟨hx, hb, hml, hown, hts⟩ hK (hP.sub (ws' := (w_Fi cy qfo qro qra qvc qos qli fo ro ra vc os li)) [20, 21, 22, 23, 24, 25, 26, 27, 28, 29, 30, 31, 32, 33, 34, 35, 36, 37, 38, 39, 40, 41, 42] rfl) (cw_X11_145 hts ⟨Nat.le_of_ble_eq_true rfl, Nat.le_of_ble_eq_true rfl⟩) 0 (ci := 2) rfl rfl rfl (c_X2_isFlight l D cy qfo qro qra qvc qos qli fo ro ra vc os li p1 r_2 hc_1) rfl hl.1 (Nat.le_of_ble_eq_true rfl) ⟨Nat.le_refl _, Nat.le_refl _⟩ dX11_cancel_5 ?_
  refine lv_if_ne (tgt := 13) hx hb dX11_cancel_8 (by decide) (fun c_3 => ?_) (fun c_3 => ?_)
  · have hp := ite_n hp c_3
    refine lv_aload_n hx hb dX11_cancel_13 rfl (lv_at hl 0 rfl) ?_
    refine gf_X11_57 hx hb hts hown hK hP 0 rfl rfl dX11_cancel_14 ?_
    refine lv_iload_n hx hb dX11_cancel_17 rfl (lv_at hl 1 rfl) ?_
    obtain ⟨r_5, hc_4, hp⟩ := bn1_s hp
    refine k_ROV (As := [.int p1]) (rest := []) ⟨hx, hb, hml, hown, hts⟩ hK (hP.sub (ws' := (w_Fi cy qfo qro qra qvc qos qli fo ro ra vc os li)) [20, 21, 22, 23, 24, 25, 26, 27, 28, 29, 30, 31, 32, 33, 34, 35, 36, 37, 38, 39, 40, 41, 42] rfl) (cw_X11_164 hts ⟨Nat.le_of_ble_eq_true rfl, Nat.le_of_ble_eq_true rfl⟩) 0 (ci := 2) rfl rfl rfl (c_X2_isSeated l D cy qfo qro qra qvc qos qli fo ro ra vc os li p1 r_5 hc_4) rfl hl.1 (Nat.le_of_ble_eq_true rfl) ⟨Nat.le_refl _, Nat.le_refl _⟩ dX11_cancel_18 ?_
    refine lv_if_ne (tgt := 27) hx hb dX11_cancel_21 (by decide) (fun c_6 => ?_) (fun c_6 => ?_)
    · have hp := ite_n hp c_6
      refine lv_aload_n hx hb dX11_cancel_27 rfl (lv_at hl 0 rfl) ?_
      refine gf_X11_57 hx hb hts hown hK hP 0 rfl rfl dX11_cancel_28 ?_
      refine lv_iload_n hx hb dX11_cancel_31 rfl (lv_at hl 1 rfl) ?_
      obtain ⟨r_8, hc_7, hp⟩ := bn1_s hp
      refine k_ROV (As := [.int p1]) (rest := []) ⟨hx, hb, hml, hown, hts⟩ hK (hP.sub (ws' := (w_Fi cy qfo qro qra qvc qos qli fo ro ra vc os li)) [20, 21, 22, 23, 24, 25, 26, 27, 28, 29, 30, 31, 32, 33, 34, 35, 36, 37, 38, 39, 40, 41, 42] rfl) (cw_X11_176 hts ⟨Nat.le_of_ble_eq_true rfl, Nat.le_of_ble_eq_true rfl⟩) 0 (ci := 2) rfl rfl rfl (c_X2_isAloft l D cy qfo qro qra qvc qos qli fo ro ra vc os li p1 r_8 hc_7) rfl hl.1 (Nat.le_of_ble_eq_true rfl) ⟨Nat.le_refl _, Nat.le_refl _⟩ dX11_cancel_32 ?_
      refine lv_if_eq (tgt := 41) hx hb dX11_cancel_35 (by decide) (fun c_9 => ?_) (fun c_9 => ?_)
      · have hp := ite_p hp c_9
        refine lv_aload_n hx hb dX11_cancel_41 rfl (lv_at hl 0 rfl) ?_
        refine gf_X11_57 hx hb hts hown hK hP 0 rfl rfl dX11_cancel_42 ?_
        refine lv_iload_n hx hb dX11_cancel_45 rfl (lv_at hl 1 rfl) ?_
        obtain ⟨r_11, fo_12, vc_13, hc_10, hp⟩ := bn3_s hp
        refine k_RIV (As := [.int p1]) (rest := []) ⟨hx, hb, hml, hown, hts⟩ hK hP hD hS hA (FrS_set (ws := (w_All cy qsm qbsa qbsb qrd qdi qrof qpn qse qfo qro qra qvc qos qli qfot qrot qrat qvct qost qlit sm bsa bsb rd di rof pn se fo ro ra vc os li fot rot rat vct ost lit)) (wc := (w_Fi cy qfo qro qra qvc qos qli fo ro ra vc os li)) (w1 := (w_Fi cy qfo qro qra qvc qos qli fo_12 ro ra vc_13 os li)) (wn := (w_All cy qsm qbsa qbsb qrd qdi qrof qpn qse qfo qro qra qvc qos qli qfot qrot qrat qvct qost qlit sm bsa bsb rd di rof pn se fo_12 ro ra vc_13 os li fot rot rat vct ost lit)) [20, 21, 22, 23, 24, 25, 26, 27, 28, 29, 30, 31, 32, 33, 34, 35, 36, 37, 38, 39, 40, 41, 42] [none, none, none, none, none, none, none, none, none, none, none, none, none, none, none, none, none, none, none, none, some 0, some 1, some 2, some 3, some 4, some 5, some 6, some 7, some 8, some 9, some 10, some 11, some 12, some 13, some 14, some 15, some 16, some 17, some 18, some 19, some 20, some 21, some 22, none, none, none, none, none, none, none, none, none, none, none, none, none, none, none, none, none, none, none, none, none, none, none] (by decide +kernel) rfl rfl rfl) (cw_X11_222 hts ⟨Nat.le_of_ble_eq_true rfl, Nat.le_of_ble_eq_true rfl⟩) 0 (ci := 2) rfl rfl rfl (c_X2_callOff l D cy qfo qro qra qvc qos qli fo ro ra vc os li p1 r_11 fo_12 vc_13 hc_10) rfl hl.1 (Nat.le_of_ble_eq_true rfl) ⟨Nat.le_refl _, Nat.le_refl _⟩ dX11_cancel_46 (fun H locs hP hD hS => ?_)
        simp only [Option.some.injEq, Prod.mk.injEq] at hp
        obtain ⟨h0, rfl, rfl⟩ := hp
        exact e_RIi hx hb hr hk hP hD hS dX11_cancel_49 h0
      · have hp := ite_n hp c_9
        refine lv_bipush (v := (-3)) hx hb dX11_cancel_38 (by decide) ?_
        simp only [Option.some.injEq, Prod.mk.injEq] at hp
        obtain ⟨h0, rfl, rfl⟩ := hp
        exact e_RIi hx hb hr hk hP hD hS dX11_cancel_40 h0
    · have hp := ite_p hp c_6
      refine lv_bipush (v := (-2)) hx hb dX11_cancel_24 (by decide) ?_
      simp only [Option.some.injEq, Prod.mk.injEq] at hp
      obtain ⟨h0, rfl, rfl⟩ := hp
      exact e_RIi hx hb hr hk hP hD hS dX11_cancel_26 h0
  · have hp := ite_p hp c_3
    refine lv_iconst (v := (-1)) hx hb dX11_cancel_11 (by decide) ?_
    simp only [Option.some.injEq, Prod.mk.injEq] at hp
    obtain ⟨h0, rfl, rfl⟩ := hp
    exact e_RIi hx hb hr hk hP hD hS dX11_cancel_12 h0
/-! StormSlots.exchange(II)I -/
def St_exchange (fo : Mem) (ro : Mem) (p1 : Int32) (p2 : Int32) : Option (Int32 × Mem) :=
  bn1 (Fi_canSwap fo ro p1 p2) (fun r_2 => if r_2 = 0 then some ((-1000000), fo) else bn1 (Fi_costOf fo ro p1) (fun r_5 => bn1 (Fi_costOf fo ro p2) (fun r_7 => stk (r_5 + r_7) (fun x3_8 => bn1 (Fi_swap fo ro p1 p2) (fun fo_10 => bn1 (Fi_costOf fo_10 ro p1) (fun r_12 => bn1 (Fi_costOf fo_10 ro p2) (fun r_14 => some (((x3_8 - r_12) - r_14), fo_10))))))))
set_option maxHeartbeats 4000000 in
set_option maxRecDepth 100000 in
theorem c_X11_exchange (l : Launch) (D : va_G) (cy : Nat → ClassId) (qsm qbsa qbsb qrd qdi qrof qpn qse qfo qro qra qvc qos qli qfot qrot qrat qvct qost qlit : Nat → Nat) (sm bsa bsb rd di rof pn se fo ro ra vc os li fot rot rat vct ost lit : Mem) (p1 p2 : Int32) (r : Int32) (fo' : Mem) (hp : St_exchange fo ro p1 p2 = some (r, fo')) : RI l yX11_exchange cX11_exchange 4 (some .int) 3 D cy [.ref (qsm 0), .int p1, .int p2] (w_All cy qsm qbsa qbsb qrd qdi qrof qpn qse qfo qro qra qvc qos qli qfot qrot qrat qvct qost qlit sm bsa bsb rd di rof pn se fo ro ra vc os li fot rot rat vct ost lit) (w_All cy qsm qbsa qbsb qrd qdi qrof qpn qse qfo qro qra qvc qos qli qfot qrot qrat qvct qost qlit sm bsa bsb rd di rof pn se fo' ro ra vc os li fot rot rat vct ost lit) r := by
  refine RI_of RX11 rfl (by decide) (Nat.le_of_ble_eq_true rfl) ?_
  intro p e s m below meth c A C0 hK hP hD hS hA ls hl
  obtain ⟨hx, hb, hr, hml, hown, hts, hk⟩ := id C0
  unfold St_exchange at hp
  have hl : lv_has ls 4 [(0, .ref (qsm 0)), (1, .int p1), (2, .int p2)] := hl
  refine lv_aload_n hx hb dX11_exchange_0 rfl (lv_at hl 0 rfl) ?_
  refine gf_X11_57 hx hb hts hown hK hP 0 rfl rfl dX11_exchange_1 ?_
  refine lv_iload_n hx hb dX11_exchange_4 rfl (lv_at hl 1 rfl) ?_
  refine lv_iload_n hx hb dX11_exchange_5 rfl (lv_at hl 2 rfl) ?_
  obtain ⟨r_2, hc_1, hp⟩ := bn1_s hp
  refine k_ROV (As := [.int p1, .int p2]) (rest := []) ⟨hx, hb, hml, hown, hts⟩ hK (hP.sub (ws' := (w_Fi cy qfo qro qra qvc qos qli fo ro ra vc os li)) [20, 21, 22, 23, 24, 25, 26, 27, 28, 29, 30, 31, 32, 33, 34, 35, 36, 37, 38, 39, 40, 41, 42] rfl) (cw_X11_225 hts ⟨Nat.le_of_ble_eq_true rfl, Nat.le_of_ble_eq_true rfl⟩) 0 (ci := 2) rfl rfl rfl (c_X2_canSwap l D cy qfo qro qra qvc qos qli fo ro ra vc os li p1 p2 r_2 hc_1) rfl hl.1 (Nat.le_of_ble_eq_true rfl) ⟨Nat.le_refl _, Nat.le_refl _⟩ dX11_exchange_6 ?_
  refine lv_if_ne (tgt := 15) hx hb dX11_exchange_9 (by decide) (fun c_3 => ?_) (fun c_3 => ?_)
  · have hp := ite_n hp c_3
    refine lv_aload_n hx hb dX11_exchange_15 rfl (lv_at hl 0 rfl) ?_
    refine gf_X11_57 hx hb hts hown hK hP 0 rfl rfl dX11_exchange_16 ?_
    refine lv_iload_n hx hb dX11_exchange_19 rfl (lv_at hl 1 rfl) ?_
    obtain ⟨r_5, hc_4, hp⟩ := bn1_s hp
    refine k_ROV (As := [.int p1]) (rest := []) ⟨hx, hb, hml, hown, hts⟩ hK (hP.sub (ws' := (w_Fi cy qfo qro qra qvc qos qli fo ro ra vc os li)) [20, 21, 22, 23, 24, 25, 26, 27, 28, 29, 30, 31, 32, 33, 34, 35, 36, 37, 38, 39, 40, 41, 42] rfl) (cw_X11_182 hts ⟨Nat.le_of_ble_eq_true rfl, Nat.le_of_ble_eq_true rfl⟩) 0 (ci := 2) rfl rfl rfl (c_X2_costOf l D cy qfo qro qra qvc qos qli fo ro ra vc os li p1 r_5 hc_4) rfl hl.1 (Nat.le_of_ble_eq_true rfl) ⟨Nat.le_refl _, Nat.le_refl _⟩ dX11_exchange_20 ?_
    refine lv_aload_n hx hb dX11_exchange_23 rfl (lv_at hl 0 rfl) ?_
    refine gf_X11_57 hx hb hts hown hK hP 0 rfl rfl dX11_exchange_24 ?_
    refine lv_iload_n hx hb dX11_exchange_27 rfl (lv_at hl 2 rfl) ?_
    obtain ⟨r_7, hc_6, hp⟩ := bn1_s hp
    refine k_ROV (As := [.int p2]) (rest := [.int r_5]) ⟨hx, hb, hml, hown, hts⟩ hK (hP.sub (ws' := (w_Fi cy qfo qro qra qvc qos qli fo ro ra vc os li)) [20, 21, 22, 23, 24, 25, 26, 27, 28, 29, 30, 31, 32, 33, 34, 35, 36, 37, 38, 39, 40, 41, 42] rfl) (cw_X11_182 hts ⟨Nat.le_of_ble_eq_true rfl, Nat.le_of_ble_eq_true rfl⟩) 0 (ci := 2) rfl rfl rfl (c_X2_costOf l D cy qfo qro qra qvc qos qli fo ro ra vc os li p2 r_7 hc_6) rfl hl.1 (Nat.le_of_ble_eq_true rfl) ⟨Nat.le_refl _, Nat.le_refl _⟩ dX11_exchange_28 ?_
    refine lv_iadd hx hb dX11_exchange_31 ?_
    refine lv_topi (fun x3_8 ex3_8 => ?_)
    have hp := stk_e hp ex3_8
    refine lv_istore_n (lv' := [(3, .int x3_8), (0, .ref (qsm 0)), (1, .int p1), (2, .int p2)]) hx hb dX11_exchange_32 rfl hl (by decide) rfl (fun ls hl => ?_)
    refine lv_aload_n hx hb dX11_exchange_33 rfl (lv_at hl 1 rfl) ?_
    refine gf_X11_57 hx hb hts hown hK hP 0 rfl rfl dX11_exchange_34 ?_
    refine lv_iload_n hx hb dX11_exchange_37 rfl (lv_at hl 2 rfl) ?_
    refine lv_iload_n hx hb dX11_exchange_38 rfl (lv_at hl 3 rfl) ?_
    obtain ⟨fo_10, hc_9, hp⟩ := bn1_s hp
    refine k_RVV (As := [.int p1, .int p2]) (rest := []) ⟨hx, hb, hml, hown, hts⟩ hK hP hD hS hA (FrS_set (ws := (w_All cy qsm qbsa qbsb qrd qdi qrof qpn qse qfo qro qra qvc qos qli qfot qrot qrat qvct qost qlit sm bsa bsb rd di rof pn se fo ro ra vc os li fot rot rat vct ost lit)) (wc := (w_Fi cy qfo qro qra qvc qos qli fo ro ra vc os li)) (w1 := (w_Fi cy qfo qro qra qvc qos qli fo_10 ro ra vc os li)) (wn := (w_All cy qsm qbsa qbsb qrd qdi qrof qpn qse qfo qro qra qvc qos qli qfot qrot qrat qvct qost qlit sm bsa bsb rd di rof pn se fo_10 ro ra vc os li fot rot rat vct ost lit)) [20, 21, 22, 23, 24, 25, 26, 27, 28, 29, 30, 31, 32, 33, 34, 35, 36, 37, 38, 39, 40, 41, 42] [none, none, none, none, none, none, none, none, none, none, none, none, none, none, none, none, none, none, none, none, some 0, some 1, some 2, some 3, some 4, some 5, some 6, some 7, some 8, some 9, some 10, some 11, some 12, some 13, some 14, some 15, some 16, some 17, some 18, some 19, some 20, some 21, some 22, none, none, none, none, none, none, none, none, none, none, none, none, none, none, none, none, none, none, none, none, none, none, none] (by decide +kernel) rfl rfl rfl) (cw_X11_229 hts ⟨Nat.le_of_ble_eq_true rfl, Nat.le_of_ble_eq_true rfl⟩) 0 (ci := 2) rfl rfl rfl (c_X2_swap l D cy qfo qro qra qvc qos qli fo ro ra vc os li p1 p2 fo_10 hc_9) rfl hl.1 (Nat.le_of_ble_eq_true rfl) ⟨Nat.le_refl _, Nat.le_refl _⟩ dX11_exchange_39 (fun H locs hP hD hS => ?_)
    refine lv_iload_n hx hb dX11_exchange_42 rfl (lv_at hl 0 rfl) ?_
    refine lv_aload_n hx hb dX11_exchange_43 rfl (lv_at hl 1 rfl) ?_
    refine gf_X11_57 hx hb hts hown hK hP 0 rfl rfl dX11_exchange_44 ?_
    refine lv_iload_n hx hb dX11_exchange_47 rfl (lv_at hl 2 rfl) ?_
    obtain ⟨r_12, hc_11, hp⟩ := bn1_s hp
    refine k_ROV (As := [.int p1]) (rest := [.int x3_8]) ⟨hx, hb, hml, hown, hts⟩ hK (hP.sub (ws' := (w_Fi cy qfo qro qra qvc qos qli fo_10 ro ra vc os li)) [20, 21, 22, 23, 24, 25, 26, 27, 28, 29, 30, 31, 32, 33, 34, 35, 36, 37, 38, 39, 40, 41, 42] rfl) (cw_X11_182 hts ⟨Nat.le_of_ble_eq_true rfl, Nat.le_of_ble_eq_true rfl⟩) 0 (ci := 2) rfl rfl rfl (c_X2_costOf l D cy qfo qro qra qvc qos qli fo_10 ro ra vc os li p1 r_12 hc_11) rfl hl.1 (Nat.le_of_ble_eq_true rfl) ⟨Nat.le_refl _, Nat.le_refl _⟩ dX11_exchange_48 ?_
    refine lv_isub hx hb dX11_exchange_51 ?_
    refine lv_aload_n hx hb dX11_exchange_52 rfl (lv_at hl 1 rfl) ?_
    refine gf_X11_57 hx hb hts hown hK hP 0 rfl rfl dX11_exchange_53 ?_
    refine lv_iload_n hx hb dX11_exchange_56 rfl (lv_at hl 3 rfl) ?_
    obtain ⟨r_14, hc_13, hp⟩ := bn1_s hp
    refine k_ROV (As := [.int p2]) (rest := [.int (x3_8 - r_12)]) ⟨hx, hb, hml, hown, hts⟩ hK (hP.sub (ws' := (w_Fi cy qfo qro qra qvc qos qli fo_10 ro ra vc os li)) [20, 21, 22, 23, 24, 25, 26, 27, 28, 29, 30, 31, 32, 33, 34, 35, 36, 37, 38, 39, 40, 41, 42] rfl) (cw_X11_182 hts ⟨Nat.le_of_ble_eq_true rfl, Nat.le_of_ble_eq_true rfl⟩) 0 (ci := 2) rfl rfl rfl (c_X2_costOf l D cy qfo qro qra qvc qos qli fo_10 ro ra vc os li p2 r_14 hc_13) rfl hl.1 (Nat.le_of_ble_eq_true rfl) ⟨Nat.le_refl _, Nat.le_refl _⟩ dX11_exchange_57 ?_
    refine lv_isub hx hb dX11_exchange_60 ?_
    simp only [Option.some.injEq, Prod.mk.injEq] at hp
    obtain ⟨h0, rfl⟩ := hp
    exact e_RIi hx hb hr hk hP hD hS dX11_exchange_61 h0
  · have hp := ite_p hp c_3
    refine lc_X11_228 hx hb hts hown dX11_exchange_12 ?_
    simp only [Option.some.injEq, Prod.mk.injEq] at hp
    obtain ⟨h0, rfl⟩ := hp
    exact e_RIi hx hb hr hk hP hD hS dX11_exchange_14 h0
/-! StormSlots.move(II)I -/
def St_move (fo : Mem) (ro : Mem) (vc : Mem) (p1 : Int32) (p2 : Int32) : Option (Int32 × Mem × Mem) :=
  bn1 (Fi_isFlight ro p1) (fun r_2 => if r_2 = 0 then some ((-1), fo, vc) else bn1 (St_isMinute p2) (fun r_5 => if r_5 = 0 then some ((-1), fo, vc) else bn1 (Va_find vc p2) (fun r_8 => if r_8 = (-1) then some ((-2), fo, vc) else bn1 (Fi_isGrounded fo ro p1) (fun r_11 => if r_11 = 0 then some ((-2), fo, vc) else bn1 (Fi_earliest fo ro p1) (fun r_14 => if r_14 ≤ p2 then bn1 (Va_keeperOf vc r_8) (fun r_17 => bn1 (Fi_isOf ro p1 r_17) (fun r_19 => if r_19 = 0 then some ((-2), fo, vc) else bn3 (Fi_takeVacancy fo ro vc p1 r_8) (fun r_22 fo_23 vc_24 => some (r_22, fo_23, vc_24)))) else some ((-2), fo, vc))))))
set_option maxHeartbeats 4000000 in
set_option maxRecDepth 100000 in
theorem c_X11_move (l : Launch) (D : va_G) (cy : Nat → ClassId) (qsm qbsa qbsb qrd qdi qrof qpn qse qfo qro qra qvc qos qli qfot qrot qrat qvct qost qlit : Nat → Nat) (sm bsa bsb rd di rof pn se fo ro ra vc os li fot rot rat vct ost lit : Mem) (p1 p2 : Int32) (r : Int32) (fo' vc' : Mem) (hp : St_move fo ro vc p1 p2 = some (r, fo', vc')) : RI l yX11_move cX11_move 4 (some .int) 3 D cy [.ref (qsm 0), .int p1, .int p2] (w_All cy qsm qbsa qbsb qrd qdi qrof qpn qse qfo qro qra qvc qos qli qfot qrot qrat qvct qost qlit sm bsa bsb rd di rof pn se fo ro ra vc os li fot rot rat vct ost lit) (w_All cy qsm qbsa qbsb qrd qdi qrof qpn qse qfo qro qra qvc qos qli qfot qrot qrat qvct qost qlit sm bsa bsb rd di rof pn se fo' ro ra vc' os li fot rot rat vct ost lit) r := by
  refine RI_of RX11 rfl (by decide) (Nat.le_of_ble_eq_true rfl) ?_
  intro p e s m below meth c A C0 hK hP hD hS hA ls hl
  obtain ⟨hx, hb, hr, hml, hown, hts, hk⟩ := id C0
  unfold St_move at hp
  have hl : lv_has ls 4 [(0, .ref (qsm 0)), (1, .int p1), (2, .int p2)] := hl
  refine lv_aload_n hx hb dX11_move_0 rfl (lv_at hl 0 rfl) ?_
  refine gf_X11_57 hx hb hts hown hK hP 0 rfl rfl dX11_move_1 ?_
  refine lv_iload_n hx hb dX11_move_4 rfl (lv_at hl 1 rfl) ?_
  obtain ⟨r_2, hc_1, hp⟩ := bn1_s hp
  refine k_ROV (As := [.int p1]) (rest := []) ⟨hx, hb, hml, hown, hts⟩ hK (hP.sub (ws' := (w_Fi cy qfo qro qra qvc qos qli fo ro ra vc os li)) [20, 21, 22, 23, 24, 25, 26, 27, 28, 29, 30, 31, 32, 33, 34, 35, 36, 37, 38, 39, 40, 41, 42] rfl) (cw_X11_145 hts ⟨Nat.le_of_ble_eq_true rfl, Nat.le_of_ble_eq_true rfl⟩) 0 (ci := 2) rfl rfl rfl (c_X2_isFlight l D cy qfo qro qra qvc qos qli fo ro ra vc os li p1 r_2 hc_1) rfl hl.1 (Nat.le_of_ble_eq_true rfl) ⟨Nat.le_refl _, Nat.le_refl _⟩ dX11_move_5 ?_
  refine lv_if_eq (tgt := 18) hx hb dX11_move_8 (by decide) (fun c_3 => ?_) (fun c_3 => ?_)
  · have hp := ite_p hp c_3
    refine lv_iconst (v := (-1)) hx hb dX11_move_18 (by decide) ?_
    simp only [Option.some.injEq, Prod.mk.injEq] at hp
    obtain ⟨h0, rfl, rfl⟩ := hp
    exact e_RIi hx hb hr hk hP hD hS dX11_move_19 h0
  · have hp := ite_n hp c_3
    refine lv_iload_n hx hb dX11_move_11 rfl (lv_at hl 2 rfl) ?_
    obtain ⟨r_5, hc_4, hp⟩ := bn1_s hp
    refine k_ROS (As := [.int p2]) (rest := []) ⟨hx, hb, hml, hown, hts⟩ hK (show va_P D vwCl [] _ from fun k q h => by simp at h) (cw_X11_188 hts ⟨Nat.le_of_ble_eq_true rfl, Nat.le_of_ble_eq_true rfl⟩) (c_X11_isMinute l D cy p2 r_5 hc_4) rfl hl.1 (Nat.le_of_ble_eq_true rfl) ⟨Nat.le_refl _, Nat.le_refl _⟩ dX11_move_12 ?_
    refine lv_if_ne (tgt := 20) hx hb dX11_move_15 (by decide) (fun c_6 => ?_) (fun c_6 => ?_)
    · have hp := ite_n hp c_6
      refine lv_aload_n hx hb dX11_move_20 rfl (lv_at hl 0 rfl) ?_
      refine gf_X11_57 hx hb hts hown hK hP 0 rfl rfl dX11_move_21 ?_
      refine gf_X11_194 hx hb hts hown hK hP 20 rfl rfl dX11_move_24 ?_
      refine lv_iload_n hx hb dX11_move_27 rfl (lv_at hl 2 rfl) ?_
      obtain ⟨r_8, hc_7, hp⟩ := bn1_s hp
      refine k_ROV (As := [.int p2]) (rest := []) ⟨hx, hb, hml, hown, hts⟩ hK (hP.sub (ws' := (w_Va cy qvc vc)) [31, 32, 33] rfl) (cw_X11_198 hts ⟨Nat.le_of_ble_eq_true rfl, Nat.le_of_ble_eq_true rfl⟩) 0 (ci := 10) rfl rfl rfl (c_X10_find l D cy qvc vc p2 r_8 hc_7) rfl hl.1 (Nat.le_of_ble_eq_true rfl) ⟨Nat.le_refl _, Nat.le_refl _⟩ dX11_move_28 ?_
      refine lv_istore_n (lv' := [(3, .int r_8), (0, .ref (qsm 0)), (1, .int p1), (2, .int p2)]) hx hb dX11_move_31 rfl hl (by decide) rfl (fun ls hl => ?_)
      refine lv_iload_n hx hb dX11_move_32 rfl (lv_at hl 0 rfl) ?_
      refine lv_iconst (v := (-1)) hx hb dX11_move_33 (by decide) ?_
      refine lv_icmp_eq (tgt := 60) hx hb dX11_move_34 (by decide) (fun c_9 => ?_) (fun c_9 => ?_)
      · have hp := ite_p hp c_9
        refine lv_bipush (v := (-2)) hx hb dX11_move_60 (by decide) ?_
        simp only [Option.some.injEq, Prod.mk.injEq] at hp
        obtain ⟨h0, rfl, rfl⟩ := hp
        exact e_RIi hx hb hr hk hP hD hS dX11_move_62 h0
      · have hp := ite_n hp c_9
        refine lv_aload_n hx hb dX11_move_37 rfl (lv_at hl 1 rfl) ?_
        refine gf_X11_57 hx hb hts hown hK hP 0 rfl rfl dX11_move_38 ?_
        refine lv_iload_n hx hb dX11_move_41 rfl (lv_at hl 2 rfl) ?_
        obtain ⟨r_11, hc_10, hp⟩ := bn1_s hp
        refine k_ROV (As := [.int p1]) (rest := []) ⟨hx, hb, hml, hown, hts⟩ hK (hP.sub (ws' := (w_Fi cy qfo qro qra qvc qos qli fo ro ra vc os li)) [20, 21, 22, 23, 24, 25, 26, 27, 28, 29, 30, 31, 32, 33, 34, 35, 36, 37, 38, 39, 40, 41, 42] rfl) (cw_X11_232 hts ⟨Nat.le_of_ble_eq_true rfl, Nat.le_of_ble_eq_true rfl⟩) 0 (ci := 2) rfl rfl rfl (c_X2_isGrounded l D cy qfo qro qra qvc qos qli fo ro ra vc os li p1 r_11 hc_10) rfl hl.1 (Nat.le_of_ble_eq_true rfl) ⟨Nat.le_refl _, Nat.le_refl _⟩ dX11_move_42 ?_
        refine lv_if_eq (tgt := 60) hx hb dX11_move_45 (by decide) (fun c_12 => ?_) (fun c_12 => ?_)
        · have hp := ite_p hp c_12
          refine lv_bipush (v := (-2)) hx hb dX11_move_60 (by decide) ?_
          simp only [Option.some.injEq, Prod.mk.injEq] at hp
          obtain ⟨h0, rfl, rfl⟩ := hp
          exact e_RIi hx hb hr hk hP hD hS dX11_move_62 h0
        · have hp := ite_n hp c_12
          refine lv_iload_n hx hb dX11_move_48 rfl (lv_at hl 3 rfl) ?_
          refine lv_aload_n hx hb dX11_move_49 rfl (lv_at hl 1 rfl) ?_
          refine gf_X11_57 hx hb hts hown hK hP 0 rfl rfl dX11_move_50 ?_
          refine lv_iload_n hx hb dX11_move_53 rfl (lv_at hl 2 rfl) ?_
          obtain ⟨r_14, hc_13, hp⟩ := bn1_s hp
          refine k_ROV (As := [.int p1]) (rest := [.int p2]) ⟨hx, hb, hml, hown, hts⟩ hK (hP.sub (ws' := (w_Fi cy qfo qro qra qvc qos qli fo ro ra vc os li)) [20, 21, 22, 23, 24, 25, 26, 27, 28, 29, 30, 31, 32, 33, 34, 35, 36, 37, 38, 39, 40, 41, 42] rfl) (cw_X11_161 hts ⟨Nat.le_of_ble_eq_true rfl, Nat.le_of_ble_eq_true rfl⟩) 0 (ci := 2) rfl rfl rfl (c_X2_earliest l D cy qfo qro qra qvc qos qli fo ro ra vc os li p1 r_14 hc_13) rfl hl.1 (Nat.le_of_ble_eq_true rfl) ⟨Nat.le_refl _, Nat.le_refl _⟩ dX11_move_54 ?_
          refine lv_icmp_ge (tgt := 63) hx hb dX11_move_57 (by decide) (fun c_15 => ?_) (fun c_15 => ?_)
          · have hp := ite_p hp c_15
            refine lv_aload_n hx hb dX11_move_63 rfl (lv_at hl 1 rfl) ?_
            refine gf_X11_57 hx hb hts hown hK hP 0 rfl rfl dX11_move_64 ?_
            refine lv_iload_n hx hb dX11_move_67 rfl (lv_at hl 2 rfl) ?_
            refine lv_aload_n hx hb dX11_move_68 rfl (lv_at hl 1 rfl) ?_
            refine gf_X11_57 hx hb hts hown hK hP 0 rfl rfl dX11_move_69 ?_
            refine gf_X11_194 hx hb hts hown hK hP 20 rfl rfl dX11_move_72 ?_
            refine lv_iload_n hx hb dX11_move_75 rfl (lv_at hl 0 rfl) ?_
            obtain ⟨r_17, hc_16, hp⟩ := bn1_s hp
            refine k_ROV (As := [.int r_8]) (rest := [.int p1, .ref (qfo 0)]) ⟨hx, hb, hml, hown, hts⟩ hK (hP.sub (ws' := (w_Va cy qvc vc)) [31, 32, 33] rfl) (cw_X11_235 hts ⟨Nat.le_of_ble_eq_true rfl, Nat.le_of_ble_eq_true rfl⟩) 0 (ci := 10) rfl rfl rfl (c_X10_keeperOf l D cy qvc vc r_8 r_17 hc_16) rfl hl.1 (Nat.le_of_ble_eq_true rfl) ⟨Nat.le_refl _, Nat.le_refl _⟩ dX11_move_76 ?_
            obtain ⟨r_19, hc_18, hp⟩ := bn1_s hp
            refine k_ROV (As := [.int p1, .int r_17]) (rest := []) ⟨hx, hb, hml, hown, hts⟩ hK (hP.sub (ws' := (w_Fi cy qfo qro qra qvc qos qli fo ro ra vc os li)) [20, 21, 22, 23, 24, 25, 26, 27, 28, 29, 30, 31, 32, 33, 34, 35, 36, 37, 38, 39, 40, 41, 42] rfl) (cw_X11_238 hts ⟨Nat.le_of_ble_eq_true rfl, Nat.le_of_ble_eq_true rfl⟩) 0 (ci := 2) rfl rfl rfl (c_X2_isOf l D cy qfo qro qra qvc qos qli fo ro ra vc os li p1 r_17 r_19 hc_18) rfl hl.1 (Nat.le_of_ble_eq_true rfl) ⟨Nat.le_refl _, Nat.le_refl _⟩ dX11_move_79 ?_
            refine lv_if_ne (tgt := 88) hx hb dX11_move_82 (by decide) (fun c_20 => ?_) (fun c_20 => ?_)
            · have hp := ite_n hp c_20
              refine lv_aload_n hx hb dX11_move_88 rfl (lv_at hl 1 rfl) ?_
              refine gf_X11_57 hx hb hts hown hK hP 0 rfl rfl dX11_move_89 ?_
              refine lv_iload_n hx hb dX11_move_92 rfl (lv_at hl 2 rfl) ?_
              refine lv_iload_n hx hb dX11_move_93 rfl (lv_at hl 0 rfl) ?_
              obtain ⟨r_22, fo_23, vc_24, hc_21, hp⟩ := bn3_s hp
              refine k_RIV (As := [.int p1, .int r_8]) (rest := []) ⟨hx, hb, hml, hown, hts⟩ hK hP hD hS hA (FrS_set (ws := (w_All cy qsm qbsa qbsb qrd qdi qrof qpn qse qfo qro qra qvc qos qli qfot qrot qrat qvct qost qlit sm bsa bsb rd di rof pn se fo ro ra vc os li fot rot rat vct ost lit)) (wc := (w_Fi cy qfo qro qra qvc qos qli fo ro ra vc os li)) (w1 := (w_Fi cy qfo qro qra qvc qos qli fo_23 ro ra vc_24 os li)) (wn := (w_All cy qsm qbsa qbsb qrd qdi qrof qpn qse qfo qro qra qvc qos qli qfot qrot qrat qvct qost qlit sm bsa bsb rd di rof pn se fo_23 ro ra vc_24 os li fot rot rat vct ost lit)) [20, 21, 22, 23, 24, 25, 26, 27, 28, 29, 30, 31, 32, 33, 34, 35, 36, 37, 38, 39, 40, 41, 42] [none, none, none, none, none, none, none, none, none, none, none, none, none, none, none, none, none, none, none, none, some 0, some 1, some 2, some 3, some 4, some 5, some 6, some 7, some 8, some 9, some 10, some 11, some 12, some 13, some 14, some 15, some 16, some 17, some 18, some 19, some 20, some 21, some 22, none, none, none, none, none, none, none, none, none, none, none, none, none, none, none, none, none, none, none, none, none, none, none] (by decide +kernel) rfl rfl rfl) (cw_X11_241 hts ⟨Nat.le_of_ble_eq_true rfl, Nat.le_of_ble_eq_true rfl⟩) 0 (ci := 2) rfl rfl rfl (c_X2_takeVacancy l D cy qfo qro qra qvc qos qli fo ro ra vc os li p1 r_8 r_22 fo_23 vc_24 hc_21) rfl hl.1 (Nat.le_of_ble_eq_true rfl) ⟨Nat.le_refl _, Nat.le_refl _⟩ dX11_move_94 (fun H locs hP hD hS => ?_)
              simp only [Option.some.injEq, Prod.mk.injEq] at hp
              obtain ⟨h0, rfl, rfl⟩ := hp
              exact e_RIi hx hb hr hk hP hD hS dX11_move_97 h0
            · have hp := ite_p hp c_20
              refine lv_bipush (v := (-2)) hx hb dX11_move_85 (by decide) ?_
              simp only [Option.some.injEq, Prod.mk.injEq] at hp
              obtain ⟨h0, rfl, rfl⟩ := hp
              exact e_RIi hx hb hr hk hP hD hS dX11_move_87 h0
          · have hp := ite_n hp c_15
            refine lv_bipush (v := (-2)) hx hb dX11_move_60 (by decide) ?_
            simp only [Option.some.injEq, Prod.mk.injEq] at hp
            obtain ⟨h0, rfl, rfl⟩ := hp
            exact e_RIi hx hb hr hk hP hD hS dX11_move_62 h0
    · have hp := ite_p hp c_6
      refine lv_iconst (v := (-1)) hx hb dX11_move_18 (by decide) ?_
      simp only [Option.some.injEq, Prod.mk.injEq] at hp
      obtain ⟨h0, rfl, rfl⟩ := hp
      exact e_RIi hx hb hr hk hP hD hS dX11_move_19 h0
/-! StormSlots.fill()I -/
def St_fill (fo : Mem) (ro : Mem) (vc : Mem) : Option (Int32 × Mem × Mem) :=
  bn3 (Fi_fillVacancies fo ro vc) (fun r_2 fo_3 vc_4 => some (r_2, fo_3, vc_4))
set_option maxHeartbeats 4000000 in
set_option maxRecDepth 100000 in
theorem c_X11_fill (l : Launch) (D : va_G) (cy : Nat → ClassId) (qsm qbsa qbsb qrd qdi qrof qpn qse qfo qro qra qvc qos qli qfot qrot qrat qvct qost qlit : Nat → Nat) (sm bsa bsb rd di rof pn se fo ro ra vc os li fot rot rat vct ost lit : Mem) (r : Int32) (fo' vc' : Mem) (hp : St_fill fo ro vc = some (r, fo', vc')) : RI l yX11_fill cX11_fill 1 (some .int) 5 D cy [.ref (qsm 0)] (w_All cy qsm qbsa qbsb qrd qdi qrof qpn qse qfo qro qra qvc qos qli qfot qrot qrat qvct qost qlit sm bsa bsb rd di rof pn se fo ro ra vc os li fot rot rat vct ost lit) (w_All cy qsm qbsa qbsb qrd qdi qrof qpn qse qfo qro qra qvc qos qli qfot qrot qrat qvct qost qlit sm bsa bsb rd di rof pn se fo' ro ra vc' os li fot rot rat vct ost lit) r := by
  refine RI_of RX11 rfl (by decide) (Nat.le_of_ble_eq_true rfl) ?_
  intro p e s m below meth c A C0 hK hP hD hS hA ls hl
  obtain ⟨hx, hb, hr, hml, hown, hts, hk⟩ := id C0
  unfold St_fill at hp
  have hl : lv_has ls 1 [(0, .ref (qsm 0))] := hl
  refine lv_aload_n hx hb dX11_fill_0 rfl (lv_at hl 0 rfl) ?_
  refine gf_X11_57 hx hb hts hown hK hP 0 rfl rfl dX11_fill_1 ?_
  obtain ⟨r_2, fo_3, vc_4, hc_1, hp⟩ := bn3_s hp
  refine k_RIV (As := []) (rest := []) ⟨hx, hb, hml, hown, hts⟩ hK hP hD hS hA (FrS_set (ws := (w_All cy qsm qbsa qbsb qrd qdi qrof qpn qse qfo qro qra qvc qos qli qfot qrot qrat qvct qost qlit sm bsa bsb rd di rof pn se fo ro ra vc os li fot rot rat vct ost lit)) (wc := (w_Fi cy qfo qro qra qvc qos qli fo ro ra vc os li)) (w1 := (w_Fi cy qfo qro qra qvc qos qli fo_3 ro ra vc_4 os li)) (wn := (w_All cy qsm qbsa qbsb qrd qdi qrof qpn qse qfo qro qra qvc qos qli qfot qrot qrat qvct qost qlit sm bsa bsb rd di rof pn se fo_3 ro ra vc_4 os li fot rot rat vct ost lit)) [20, 21, 22, 23, 24, 25, 26, 27, 28, 29, 30, 31, 32, 33, 34, 35, 36, 37, 38, 39, 40, 41, 42] [none, none, none, none, none, none, none, none, none, none, none, none, none, none, none, none, none, none, none, none, some 0, some 1, some 2, some 3, some 4, some 5, some 6, some 7, some 8, some 9, some 10, some 11, some 12, some 13, some 14, some 15, some 16, some 17, some 18, some 19, some 20, some 21, some 22, none, none, none, none, none, none, none, none, none, none, none, none, none, none, none, none, none, none, none, none, none, none, none] (by decide +kernel) rfl rfl rfl) (cw_X11_245 hts ⟨Nat.le_of_ble_eq_true rfl, Nat.le_of_ble_eq_true rfl⟩) 0 (ci := 2) rfl rfl rfl (c_X2_fillVacancies l D cy qfo qro qra qvc qos qli fo ro ra vc os li r_2 fo_3 vc_4 hc_1) rfl hl.1 (Nat.le_of_ble_eq_true rfl) ⟨Nat.le_refl _, Nat.le_refl _⟩ dX11_fill_4 (fun H locs hP hD hS => ?_)
  simp only [Option.some.injEq, Prod.mk.injEq] at hp
  obtain ⟨h0, rfl, rfl⟩ := hp
  exact e_RIi hx hb hr hk hP hD hS dX11_fill_7 h0
/-! StormSlots.vacant(II)I -/
def St_vacant (vc : Mem) (p1 : Int32) (p2 : Int32) : Option (Int32) :=
  if p1 < 0 then some (-1) else if p2 < 0 then some (-1) else if p2 ≤ 1 then if p1 < (vc 2 0) then if p2 = 0 then bn1 (Va_minuteOf vc p1) (fun r_9 => some r_9) else bn1 (Va_keeperOf vc p1) (fun r_7 => some r_7) else some (-2) else some (-1)
set_option maxHeartbeats 4000000 in
set_option maxRecDepth 100000 in
theorem c_X11_vacant (l : Launch) (D : va_G) (cy : Nat → ClassId) (qsm qbsa qbsb qrd qdi qrof qpn qse qfo qro qra qvc qos qli qfot qrot qrat qvct qost qlit : Nat → Nat) (sm bsa bsb rd di rof pn se fo ro ra vc os li fot rot rat vct ost lit : Mem) (p1 p2 : Int32) (r : Int32) (hp : St_vacant vc p1 p2 = some r) : RO l yX11_vacant cX11_vacant 3 (some .int) 2 D cy [.ref (qsm 0), .int p1, .int p2] (w_All cy qsm qbsa qbsb qrd qdi qrof qpn qse qfo qro qra qvc qos qli qfot qrot qrat qvct qost qlit sm bsa bsb rd di rof pn se fo ro ra vc os li fot rot rat vct ost lit) r := by
  refine RO_of RX11 rfl (by decide) (Nat.le_of_ble_eq_true rfl) ?_
  intro p e s m below meth c C0 hK hP ls hl
  obtain ⟨hx, hb, hr, hml, hown, hts, hk⟩ := id C0
  unfold St_vacant at hp
  have hl : lv_has ls 3 [(0, .ref (qsm 0)), (1, .int p1), (2, .int p2)] := hl
  refine lv_iload_n hx hb dX11_vacant_0 rfl (lv_at hl 1 rfl) ?_
  refine lv_if_lt (tgt := 13) hx hb dX11_vacant_1 (by decide) (fun c_1 => ?_) (fun c_1 => ?_)
  · have hp := ite_p hp c_1
    refine lv_iconst (v := (-1)) hx hb dX11_vacant_13 (by decide) ?_
    exact e_ROi hx hb hr hk dX11_vacant_14 (Option.some.inj hp)
  · have hp := ite_n hp c_1
    refine lv_iload_n hx hb dX11_vacant_4 rfl (lv_at hl 2 rfl) ?_
    refine lv_if_lt (tgt := 13) hx hb dX11_vacant_5 (by decide) (fun c_2 => ?_) (fun c_2 => ?_)
    · have hp := ite_p hp c_2
      refine lv_iconst (v := (-1)) hx hb dX11_vacant_13 (by decide) ?_
      exact e_ROi hx hb hr hk dX11_vacant_14 (Option.some.inj hp)
    · have hp := ite_n hp c_2
      refine lv_iload_n hx hb dX11_vacant_8 rfl (lv_at hl 2 rfl) ?_
      refine lv_iconst (v := 1) hx hb dX11_vacant_9 (by decide) ?_
      refine lv_icmp_le (tgt := 15) hx hb dX11_vacant_10 (by decide) (fun c_3 => ?_) (fun c_3 => ?_)
      · have hp := ite_p hp c_3
        refine lv_iload_n hx hb dX11_vacant_15 rfl (lv_at hl 1 rfl) ?_
        refine lv_aload_n hx hb dX11_vacant_16 rfl (lv_at hl 0 rfl) ?_
        refine gf_X11_57 hx hb hts hown hK hP 0 rfl rfl dX11_vacant_17 ?_
        refine gf_X11_194 hx hb hts hown hK hP 20 rfl rfl dX11_vacant_20 ?_
        refine gf_X11_248 hx hb hts hown hK hP 31 rfl rfl dX11_vacant_23 ?_
        refine lv_icmp_lt (tgt := 32) hx hb dX11_vacant_26 (by decide) (fun c_4 => ?_) (fun c_4 => ?_)
        · have hp := ite_p hp c_4
          refine lv_iload_n hx hb dX11_vacant_32 rfl (lv_at hl 2 rfl) ?_
          refine lv_if_ne (tgt := 50) hx hb dX11_vacant_33 (by decide) (fun c_5 => ?_) (fun c_5 => ?_)
          · have hp := ite_n hp c_5
            refine lv_aload_n hx hb dX11_vacant_50 rfl (lv_at hl 0 rfl) ?_
            refine gf_X11_57 hx hb hts hown hK hP 0 rfl rfl dX11_vacant_51 ?_
            refine gf_X11_194 hx hb hts hown hK hP 20 rfl rfl dX11_vacant_54 ?_
            refine lv_iload_n hx hb dX11_vacant_57 rfl (lv_at hl 1 rfl) ?_
            obtain ⟨r_7, hc_6, hp⟩ := bn1_s hp
            refine k_ROV (As := [.int p1]) (rest := []) ⟨hx, hb, hml, hown, hts⟩ hK (hP.sub (ws' := (w_Va cy qvc vc)) [31, 32, 33] rfl) (cw_X11_235 hts ⟨Nat.le_of_ble_eq_true rfl, Nat.le_of_ble_eq_true rfl⟩) 0 (ci := 10) rfl rfl rfl (c_X10_keeperOf l D cy qvc vc p1 r_7 hc_6) rfl hl.1 (Nat.le_of_ble_eq_true rfl) ⟨Nat.le_refl _, Nat.le_refl _⟩ dX11_vacant_58 ?_
            exact e_ROi hx hb hr hk dX11_vacant_61 (Option.some.inj hp)
          · have hp := ite_p hp c_5
            refine lv_aload_n hx hb dX11_vacant_36 rfl (lv_at hl 0 rfl) ?_
            refine gf_X11_57 hx hb hts hown hK hP 0 rfl rfl dX11_vacant_37 ?_
            refine gf_X11_194 hx hb hts hown hK hP 20 rfl rfl dX11_vacant_40 ?_
            refine lv_iload_n hx hb dX11_vacant_43 rfl (lv_at hl 1 rfl) ?_
            obtain ⟨r_9, hc_8, hp⟩ := bn1_s hp
            refine k_ROV (As := [.int p1]) (rest := []) ⟨hx, hb, hml, hown, hts⟩ hK (hP.sub (ws' := (w_Va cy qvc vc)) [31, 32, 33] rfl) (cw_X11_249 hts ⟨Nat.le_of_ble_eq_true rfl, Nat.le_of_ble_eq_true rfl⟩) 0 (ci := 10) rfl rfl rfl (c_X10_minuteOf l D cy qvc vc p1 r_9 hc_8) rfl hl.1 (Nat.le_of_ble_eq_true rfl) ⟨Nat.le_refl _, Nat.le_refl _⟩ dX11_vacant_44 ?_
            refine lv_goto (tgt := 61) hx hb dX11_vacant_47 (by decide) ?_
            exact e_ROi hx hb hr hk dX11_vacant_61 (Option.some.inj hp)
        · have hp := ite_n hp c_4
          refine lv_bipush (v := (-2)) hx hb dX11_vacant_29 (by decide) ?_
          exact e_ROi hx hb hr hk dX11_vacant_31 (Option.some.inj hp)
      · have hp := ite_n hp c_3
        refine lv_iconst (v := (-1)) hx hb dX11_vacant_13 (by decide) ?_
        exact e_ROi hx hb hr hk dX11_vacant_14 (Option.some.inj hp)
/-! StormSlots.offer(IIII)I -/
def St_offer (fo : Mem) (ro : Mem) (os : Mem) (p1 : Int32) (p2 : Int32) (p3 : Int32) (p4 : Int32) : Option (Int32 × Mem) :=
  bn1 (Fi_isFlight ro p1) (fun r_2 => if r_2 = 0 then some ((-1), os) else bn1 (Fi_isFlight ro p3) (fun r_5 => if r_5 = 0 then some ((-1), os) else if p1 = p3 then some ((-1), os) else bn1 (St_isMinute p2) (fun r_9 => if r_9 = 0 then some ((-1), os) else bn1 (St_isMinute p4) (fun r_12 => if r_12 = 0 then some ((-1), os) else bn1 (Fi_isGrounded fo ro p1) (fun r_15 => if r_15 = 0 then some ((-2), os) else bn1 (Fi_isGrounded fo ro p3) (fun r_18 => if r_18 = 0 then some ((-2), os) else bn1 (Ro_sameLine ro p1 p3) (fun r_21 => if r_21 = 0 then some ((-2), os) else bn1 (Of_lowestFree os) (fun r_24 => if r_24 = (-1) then some ((-3), os) else bn1 (Of_put os r_24 p1 p2 p3 p4) (fun os_27 => some (r_24, os_27))))))))))
set_option maxHeartbeats 4000000 in
set_option maxRecDepth 100000 in
theorem c_X11_offer (l : Launch) (D : va_G) (cy : Nat → ClassId) (qsm qbsa qbsb qrd qdi qrof qpn qse qfo qro qra qvc qos qli qfot qrot qrat qvct qost qlit : Nat → Nat) (sm bsa bsb rd di rof pn se fo ro ra vc os li fot rot rat vct ost lit : Mem) (p1 p2 p3 p4 : Int32) (r : Int32) (os' : Mem) (hp : St_offer fo ro os p1 p2 p3 p4 = some (r, os')) : RI l yX11_offer cX11_offer 6 (some .int) 2 D cy [.ref (qsm 0), .int p1, .int p2, .int p3, .int p4] (w_All cy qsm qbsa qbsb qrd qdi qrof qpn qse qfo qro qra qvc qos qli qfot qrot qrat qvct qost qlit sm bsa bsb rd di rof pn se fo ro ra vc os li fot rot rat vct ost lit) (w_All cy qsm qbsa qbsb qrd qdi qrof qpn qse qfo qro qra qvc qos qli qfot qrot qrat qvct qost qlit sm bsa bsb rd di rof pn se fo ro ra vc os' li fot rot rat vct ost lit) r := by
  refine RI_of RX11 rfl (by decide) (Nat.le_of_ble_eq_true rfl) ?_
  intro p e s m below meth c A C0 hK hP hD hS hA ls hl
  obtain ⟨hx, hb, hr, hml, hown, hts, hk⟩ := id C0
  unfold St_offer at hp
  have hl : lv_has ls 6 [(0, .ref (qsm 0)), (1, .int p1), (2, .int p2), (3, .int p3), (4, .int p4)] := hl
  refine lv_aload_n hx hb dX11_offer_0 rfl (lv_at hl 0 rfl) ?_
  refine gf_X11_57 hx hb hts hown hK hP 0 rfl rfl dX11_offer_1 ?_
  refine lv_iload_n hx hb dX11_offer_4 rfl (lv_at hl 1 rfl) ?_
  obtain ⟨r_2, hc_1, hp⟩ := bn1_s hp
  refine k_ROV (As := [.int p1]) (rest := []) ⟨hx, hb, hml, hown, hts⟩ hK (hP.sub (ws' := (w_Fi cy qfo qro qra qvc qos qli fo ro ra vc os li)) [20, 21, 22, 23, 24, 25, 26, 27, 28, 29, 30, 31, 32, 33, 34, 35, 36, 37, 38, 39, 40, 41, 42] rfl) (cw_X11_145 hts ⟨Nat.le_of_ble_eq_true rfl, Nat.le_of_ble_eq_true rfl⟩) 0 (ci := 2) rfl rfl rfl (c_X2_isFlight l D cy qfo qro qra qvc qos qli fo ro ra vc os li p1 r_2 hc_1) rfl hl.1 (Nat.le_of_ble_eq_true rfl) ⟨Nat.le_refl _, Nat.le_refl _⟩ dX11_offer_5 ?_
  refine lv_if_eq (tgt := 27) hx hb dX11_offer_8 (by decide) (fun c_3 => ?_) (fun c_3 => ?_)
  · have hp := ite_p hp c_3
    refine lv_iconst (v := (-1)) hx hb dX11_offer_27 (by decide) ?_
    simp only [Option.some.injEq, Prod.mk.injEq] at hp
    obtain ⟨h0, rfl⟩ := hp
    exact e_RIi hx hb hr hk hP hD hS dX11_offer_28 h0
  · have hp := ite_n hp c_3
    refine lv_aload_n hx hb dX11_offer_11 rfl (lv_at hl 0 rfl) ?_
    refine gf_X11_57 hx hb hts hown hK hP 0 rfl rfl dX11_offer_12 ?_
    refine lv_iload_n hx hb dX11_offer_15 rfl (lv_at hl 3 rfl) ?_
    obtain ⟨r_5, hc_4, hp⟩ := bn1_s hp
    refine k_ROV (As := [.int p3]) (rest := []) ⟨hx, hb, hml, hown, hts⟩ hK (hP.sub (ws' := (w_Fi cy qfo qro qra qvc qos qli fo ro ra vc os li)) [20, 21, 22, 23, 24, 25, 26, 27, 28, 29, 30, 31, 32, 33, 34, 35, 36, 37, 38, 39, 40, 41, 42] rfl) (cw_X11_145 hts ⟨Nat.le_of_ble_eq_true rfl, Nat.le_of_ble_eq_true rfl⟩) 0 (ci := 2) rfl rfl rfl (c_X2_isFlight l D cy qfo qro qra qvc qos qli fo ro ra vc os li p3 r_5 hc_4) rfl hl.1 (Nat.le_of_ble_eq_true rfl) ⟨Nat.le_refl _, Nat.le_refl _⟩ dX11_offer_16 ?_
    refine lv_if_eq (tgt := 27) hx hb dX11_offer_19 (by decide) (fun c_6 => ?_) (fun c_6 => ?_)
    · have hp := ite_p hp c_6
      refine lv_iconst (v := (-1)) hx hb dX11_offer_27 (by decide) ?_
      simp only [Option.some.injEq, Prod.mk.injEq] at hp
      obtain ⟨h0, rfl⟩ := hp
      exact e_RIi hx hb hr hk hP hD hS dX11_offer_28 h0
    · have hp := ite_n hp c_6
      refine lv_iload_n hx hb dX11_offer_22 rfl (lv_at hl 1 rfl) ?_
      refine lv_iload_n hx hb dX11_offer_23 rfl (lv_at hl 3 rfl) ?_
      refine lv_icmp_ne (tgt := 29) hx hb dX11_offer_24 (by decide) (fun c_7 => ?_) (fun c_7 => ?_)
      · have hp := ite_n hp c_7
        refine lv_iload_n hx hb dX11_offer_29 rfl (lv_at hl 2 rfl) ?_
        obtain ⟨r_9, hc_8, hp⟩ := bn1_s hp
        refine k_ROS (As := [.int p2]) (rest := []) ⟨hx, hb, hml, hown, hts⟩ hK (show va_P D vwCl [] _ from fun k q h => by simp at h) (cw_X11_188 hts ⟨Nat.le_of_ble_eq_true rfl, Nat.le_of_ble_eq_true rfl⟩) (c_X11_isMinute l D cy p2 r_9 hc_8) rfl hl.1 (Nat.le_of_ble_eq_true rfl) ⟨Nat.le_refl _, Nat.le_refl _⟩ dX11_offer_30 ?_
        refine lv_if_eq (tgt := 44) hx hb dX11_offer_33 (by decide) (fun c_10 => ?_) (fun c_10 => ?_)
        · have hp := ite_p hp c_10
          refine lv_iconst (v := (-1)) hx hb dX11_offer_44 (by decide) ?_
          simp only [Option.some.injEq, Prod.mk.injEq] at hp
          obtain ⟨h0, rfl⟩ := hp
          exact e_RIi hx hb hr hk hP hD hS dX11_offer_45 h0
        · have hp := ite_n hp c_10
          refine lv_iload hx hb dX11_offer_36 (lv_at hl 4 rfl) ?_
          obtain ⟨r_12, hc_11, hp⟩ := bn1_s hp
          refine k_ROS (As := [.int p4]) (rest := []) ⟨hx, hb, hml, hown, hts⟩ hK (show va_P D vwCl [] _ from fun k q h => by simp at h) (cw_X11_188 hts ⟨Nat.le_of_ble_eq_true rfl, Nat.le_of_ble_eq_true rfl⟩) (c_X11_isMinute l D cy p4 r_12 hc_11) rfl hl.1 (Nat.le_of_ble_eq_true rfl) ⟨Nat.le_refl _, Nat.le_refl _⟩ dX11_offer_38 ?_
          refine lv_if_ne (tgt := 46) hx hb dX11_offer_41 (by decide) (fun c_13 => ?_) (fun c_13 => ?_)
          · have hp := ite_n hp c_13
            refine lv_aload_n hx hb dX11_offer_46 rfl (lv_at hl 0 rfl) ?_
            refine gf_X11_57 hx hb hts hown hK hP 0 rfl rfl dX11_offer_47 ?_
            refine lv_iload_n hx hb dX11_offer_50 rfl (lv_at hl 1 rfl) ?_
            obtain ⟨r_15, hc_14, hp⟩ := bn1_s hp
            refine k_ROV (As := [.int p1]) (rest := []) ⟨hx, hb, hml, hown, hts⟩ hK (hP.sub (ws' := (w_Fi cy qfo qro qra qvc qos qli fo ro ra vc os li)) [20, 21, 22, 23, 24, 25, 26, 27, 28, 29, 30, 31, 32, 33, 34, 35, 36, 37, 38, 39, 40, 41, 42] rfl) (cw_X11_232 hts ⟨Nat.le_of_ble_eq_true rfl, Nat.le_of_ble_eq_true rfl⟩) 0 (ci := 2) rfl rfl rfl (c_X2_isGrounded l D cy qfo qro qra qvc qos qli fo ro ra vc os li p1 r_15 hc_14) rfl hl.1 (Nat.le_of_ble_eq_true rfl) ⟨Nat.le_refl _, Nat.le_refl _⟩ dX11_offer_51 ?_
            refine lv_if_eq (tgt := 83) hx hb dX11_offer_54 (by decide) (fun c_16 => ?_) (fun c_16 => ?_)
            · have hp := ite_p hp c_16
              refine lv_bipush (v := (-2)) hx hb dX11_offer_83 (by decide) ?_
              simp only [Option.some.injEq, Prod.mk.injEq] at hp
              obtain ⟨h0, rfl⟩ := hp
              exact e_RIi hx hb hr hk hP hD hS dX11_offer_85 h0
            · have hp := ite_n hp c_16
              refine lv_aload_n hx hb dX11_offer_57 rfl (lv_at hl 0 rfl) ?_
              refine gf_X11_57 hx hb hts hown hK hP 0 rfl rfl dX11_offer_58 ?_
              refine lv_iload_n hx hb dX11_offer_61 rfl (lv_at hl 3 rfl) ?_
              obtain ⟨r_18, hc_17, hp⟩ := bn1_s hp
              refine k_ROV (As := [.int p3]) (rest := []) ⟨hx, hb, hml, hown, hts⟩ hK (hP.sub (ws' := (w_Fi cy qfo qro qra qvc qos qli fo ro ra vc os li)) [20, 21, 22, 23, 24, 25, 26, 27, 28, 29, 30, 31, 32, 33, 34, 35, 36, 37, 38, 39, 40, 41, 42] rfl) (cw_X11_232 hts ⟨Nat.le_of_ble_eq_true rfl, Nat.le_of_ble_eq_true rfl⟩) 0 (ci := 2) rfl rfl rfl (c_X2_isGrounded l D cy qfo qro qra qvc qos qli fo ro ra vc os li p3 r_18 hc_17) rfl hl.1 (Nat.le_of_ble_eq_true rfl) ⟨Nat.le_refl _, Nat.le_refl _⟩ dX11_offer_62 ?_
              refine lv_if_eq (tgt := 83) hx hb dX11_offer_65 (by decide) (fun c_19 => ?_) (fun c_19 => ?_)
              · have hp := ite_p hp c_19
                refine lv_bipush (v := (-2)) hx hb dX11_offer_83 (by decide) ?_
                simp only [Option.some.injEq, Prod.mk.injEq] at hp
                obtain ⟨h0, rfl⟩ := hp
                exact e_RIi hx hb hr hk hP hD hS dX11_offer_85 h0
              · have hp := ite_n hp c_19
                refine lv_aload_n hx hb dX11_offer_68 rfl (lv_at hl 0 rfl) ?_
                refine gf_X11_57 hx hb hts hown hK hP 0 rfl rfl dX11_offer_69 ?_
                refine gf_X11_87 hx hb hts hown hK hP 20 rfl rfl dX11_offer_72 ?_
                refine lv_iload_n hx hb dX11_offer_75 rfl (lv_at hl 1 rfl) ?_
                refine lv_iload_n hx hb dX11_offer_76 rfl (lv_at hl 3 rfl) ?_
                obtain ⟨r_21, hc_20, hp⟩ := bn1_s hp
                refine k_ROV (As := [.int p1, .int p3]) (rest := []) ⟨hx, hb, hml, hown, hts⟩ hK (hP.sub (ws' := (w_Ro cy qro ro)) [24, 25, 26, 27, 28] rfl) (cw_X11_252 hts ⟨Nat.le_of_ble_eq_true rfl, Nat.le_of_ble_eq_true rfl⟩) 0 (ci := 9) rfl rfl rfl (c_X9_sameLine l D cy qro ro p1 p3 r_21 hc_20) rfl hl.1 (Nat.le_of_ble_eq_true rfl) ⟨Nat.le_refl _, Nat.le_refl _⟩ dX11_offer_77 ?_
                refine lv_if_ne (tgt := 86) hx hb dX11_offer_80 (by decide) (fun c_22 => ?_) (fun c_22 => ?_)
                · have hp := ite_n hp c_22
                  refine lv_aload_n hx hb dX11_offer_86 rfl (lv_at hl 0 rfl) ?_
                  refine gf_X11_57 hx hb hts hown hK hP 0 rfl rfl dX11_offer_87 ?_
                  refine gf_X11_255 hx hb hts hown hK hP 20 rfl rfl dX11_offer_90 ?_
                  obtain ⟨r_24, hc_23, hp⟩ := bn1_s hp
                  refine k_ROV (As := []) (rest := []) ⟨hx, hb, hml, hown, hts⟩ hK (hP.sub (ws' := (w_Of cy qos os)) [34, 35, 36, 37, 38] rfl) (cw_X11_259 hts ⟨Nat.le_of_ble_eq_true rfl, Nat.le_of_ble_eq_true rfl⟩) 0 (ci := 4) rfl rfl rfl (c_X4_lowestFree l D cy qos os r_24 hc_23) rfl hl.1 (Nat.le_of_ble_eq_true rfl) ⟨Nat.le_refl _, Nat.le_refl _⟩ dX11_offer_93 ?_
                  refine lv_istore (lv' := [(5, .int r_24), (0, .ref (qsm 0)), (1, .int p1), (2, .int p2), (3, .int p3), (4, .int p4)]) hx hb dX11_offer_96 hl (by decide) rfl (fun ls hl => ?_)
                  refine lv_iload hx hb dX11_offer_98 (lv_at hl 0 rfl) ?_
                  refine lv_iconst (v := (-1)) hx hb dX11_offer_100 (by decide) ?_
                  refine lv_icmp_ne (tgt := 107) hx hb dX11_offer_101 (by decide) (fun c_25 => ?_) (fun c_25 => ?_)
                  · have hp := ite_n hp c_25
                    refine lv_aload_n hx hb dX11_offer_107 rfl (lv_at hl 1 rfl) ?_
                    refine gf_X11_57 hx hb hts hown hK hP 0 rfl rfl dX11_offer_108 ?_
                    refine gf_X11_255 hx hb hts hown hK hP 20 rfl rfl dX11_offer_111 ?_
                    refine lv_iload hx hb dX11_offer_114 (lv_at hl 0 rfl) ?_
                    refine lv_iload_n hx hb dX11_offer_116 rfl (lv_at hl 2 rfl) ?_
                    refine lv_iload_n hx hb dX11_offer_117 rfl (lv_at hl 3 rfl) ?_
                    refine lv_iload_n hx hb dX11_offer_118 rfl (lv_at hl 4 rfl) ?_
                    refine lv_iload hx hb dX11_offer_119 (lv_at hl 5 rfl) ?_
                    obtain ⟨os_27, hc_26, hp⟩ := bn1_s hp
                    refine k_RVV (As := [.int r_24, .int p1, .int p2, .int p3, .int p4]) (rest := []) ⟨hx, hb, hml, hown, hts⟩ hK hP hD hS hA (FrS_set (ws := (w_All cy qsm qbsa qbsb qrd qdi qrof qpn qse qfo qro qra qvc qos qli qfot qrot qrat qvct qost qlit sm bsa bsb rd di rof pn se fo ro ra vc os li fot rot rat vct ost lit)) (wc := (w_Of cy qos os)) (w1 := (w_Of cy qos os_27)) (wn := (w_All cy qsm qbsa qbsb qrd qdi qrof qpn qse qfo qro qra qvc qos qli qfot qrot qrat qvct qost qlit sm bsa bsb rd di rof pn se fo ro ra vc os_27 li fot rot rat vct ost lit)) [34, 35, 36, 37, 38] [none, none, none, none, none, none, none, none, none, none, none, none, none, none, none, none, none, none, none, none, none, none, none, none, none, none, none, none, none, none, none, none, none, none, some 0, some 1, some 2, some 3, some 4, none, none, none, none, none, none, none, none, none, none, none, none, none, none, none, none, none, none, none, none, none, none, none, none, none, none, none] (by decide +kernel) rfl rfl rfl) (cw_X11_264 hts ⟨Nat.le_of_ble_eq_true rfl, Nat.le_of_ble_eq_true rfl⟩) 0 (ci := 4) rfl rfl rfl (c_X4_put l D cy qos os r_24 p1 p2 p3 p4 os_27 hc_26) rfl hl.1 (Nat.le_of_ble_eq_true rfl) ⟨Nat.le_refl _, Nat.le_refl _⟩ dX11_offer_121 (fun H locs hP hD hS => ?_)
                    refine lv_iload hx hb dX11_offer_124 (lv_at hl 0 rfl) ?_
                    simp only [Option.some.injEq, Prod.mk.injEq] at hp
                    obtain ⟨h0, rfl⟩ := hp
                    exact e_RIi hx hb hr hk hP hD hS dX11_offer_126 h0
                  · have hp := ite_p hp c_25
                    refine lv_bipush (v := (-3)) hx hb dX11_offer_104 (by decide) ?_
                    simp only [Option.some.injEq, Prod.mk.injEq] at hp
                    obtain ⟨h0, rfl⟩ := hp
                    exact e_RIi hx hb hr hk hP hD hS dX11_offer_106 h0
                · have hp := ite_p hp c_22
                  refine lv_bipush (v := (-2)) hx hb dX11_offer_83 (by decide) ?_
                  simp only [Option.some.injEq, Prod.mk.injEq] at hp
                  obtain ⟨h0, rfl⟩ := hp
                  exact e_RIi hx hb hr hk hP hD hS dX11_offer_85 h0
          · have hp := ite_p hp c_13
            refine lv_iconst (v := (-1)) hx hb dX11_offer_44 (by decide) ?_
            simp only [Option.some.injEq, Prod.mk.injEq] at hp
            obtain ⟨h0, rfl⟩ := hp
            exact e_RIi hx hb hr hk hP hD hS dX11_offer_45 h0
      · have hp := ite_p hp c_7
        refine lv_iconst (v := (-1)) hx hb dX11_offer_27 (by decide) ?_
        simp only [Option.some.injEq, Prod.mk.injEq] at hp
        obtain ⟨h0, rfl⟩ := hp
        exact e_RIi hx hb hr hk hP hD hS dX11_offer_28 h0
/-! StormSlots.withdraw(I)Z -/
def St_withdraw (os : Mem) (p1 : Int32) : Option (Int32 × Mem) :=
  bn1 (Of_has os p1) (fun r_2 => if r_2 = 0 then some (0, os) else bn1 (Of_drop os p1) (fun os_5 => some (1, os_5)))
set_option maxHeartbeats 4000000 in
set_option maxRecDepth 100000 in
theorem c_X11_withdraw (l : Launch) (D : va_G) (cy : Nat → ClassId) (qsm qbsa qbsb qrd qdi qrof qpn qse qfo qro qra qvc qos qli qfot qrot qrat qvct qost qlit : Nat → Nat) (sm bsa bsb rd di rof pn se fo ro ra vc os li fot rot rat vct ost lit : Mem) (p1 : Int32) (r : Int32) (os' : Mem) (hp : St_withdraw os p1 = some (r, os')) : RI l yX11_withdraw cX11_withdraw 2 (some .boolean) 2 D cy [.ref (qsm 0), .int p1] (w_All cy qsm qbsa qbsb qrd qdi qrof qpn qse qfo qro qra qvc qos qli qfot qrot qrat qvct qost qlit sm bsa bsb rd di rof pn se fo ro ra vc os li fot rot rat vct ost lit) (w_All cy qsm qbsa qbsb qrd qdi qrof qpn qse qfo qro qra qvc qos qli qfot qrot qrat qvct qost qlit sm bsa bsb rd di rof pn se fo ro ra vc os' li fot rot rat vct ost lit) r := by
  refine RI_of RX11 rfl (by decide) (Nat.le_of_ble_eq_true rfl) ?_
  intro p e s m below meth c A C0 hK hP hD hS hA ls hl
  obtain ⟨hx, hb, hr, hml, hown, hts, hk⟩ := id C0
  unfold St_withdraw at hp
  have hl : lv_has ls 2 [(0, .ref (qsm 0)), (1, .int p1)] := hl
  refine lv_aload_n hx hb dX11_withdraw_0 rfl (lv_at hl 0 rfl) ?_
  refine gf_X11_57 hx hb hts hown hK hP 0 rfl rfl dX11_withdraw_1 ?_
  refine gf_X11_255 hx hb hts hown hK hP 20 rfl rfl dX11_withdraw_4 ?_
  refine lv_iload_n hx hb dX11_withdraw_7 rfl (lv_at hl 1 rfl) ?_
  obtain ⟨r_2, hc_1, hp⟩ := bn1_s hp
  refine k_ROV (As := [.int p1]) (rest := []) ⟨hx, hb, hml, hown, hts⟩ hK (hP.sub (ws' := (w_Of cy qos os)) [34, 35, 36, 37, 38] rfl) (cw_X11_267 hts ⟨Nat.le_of_ble_eq_true rfl, Nat.le_of_ble_eq_true rfl⟩) 0 (ci := 4) rfl rfl rfl (c_X4_has l D cy qos os p1 r_2 hc_1) rfl hl.1 (Nat.le_of_ble_eq_true rfl) ⟨Nat.le_refl _, Nat.le_refl _⟩ dX11_withdraw_8 ?_
  refine lv_if_ne (tgt := 16) hx hb dX11_withdraw_11 (by decide) (fun c_3 => ?_) (fun c_3 => ?_)
  · have hp := ite_n hp c_3
    refine lv_aload_n hx hb dX11_withdraw_16 rfl (lv_at hl 0 rfl) ?_
    refine gf_X11_57 hx hb hts hown hK hP 0 rfl rfl dX11_withdraw_17 ?_
    refine gf_X11_255 hx hb hts hown hK hP 20 rfl rfl dX11_withdraw_20 ?_
    refine lv_iload_n hx hb dX11_withdraw_23 rfl (lv_at hl 1 rfl) ?_
    obtain ⟨os_5, hc_4, hp⟩ := bn1_s hp
    refine k_RVV (As := [.int p1]) (rest := []) ⟨hx, hb, hml, hown, hts⟩ hK hP hD hS hA (FrS_set (ws := (w_All cy qsm qbsa qbsb qrd qdi qrof qpn qse qfo qro qra qvc qos qli qfot qrot qrat qvct qost qlit sm bsa bsb rd di rof pn se fo ro ra vc os li fot rot rat vct ost lit)) (wc := (w_Of cy qos os)) (w1 := (w_Of cy qos os_5)) (wn := (w_All cy qsm qbsa qbsb qrd qdi qrof qpn qse qfo qro qra qvc qos qli qfot qrot qrat qvct qost qlit sm bsa bsb rd di rof pn se fo ro ra vc os_5 li fot rot rat vct ost lit)) [34, 35, 36, 37, 38] [none, none, none, none, none, none, none, none, none, none, none, none, none, none, none, none, none, none, none, none, none, none, none, none, none, none, none, none, none, none, none, none, none, none, some 0, some 1, some 2, some 3, some 4, none, none, none, none, none, none, none, none, none, none, none, none, none, none, none, none, none, none, none, none, none, none, none, none, none, none, none] (by decide +kernel) rfl rfl rfl) (cw_X11_270 hts ⟨Nat.le_of_ble_eq_true rfl, Nat.le_of_ble_eq_true rfl⟩) 0 (ci := 4) rfl rfl rfl (c_X4_drop l D cy qos os p1 os_5 hc_4) rfl hl.1 (Nat.le_of_ble_eq_true rfl) ⟨Nat.le_refl _, Nat.le_refl _⟩ dX11_withdraw_24 (fun H locs hP hD hS => ?_)
    refine lv_iconst (v := 1) hx hb dX11_withdraw_27 (by decide) ?_
    simp only [Option.some.injEq, Prod.mk.injEq] at hp
    obtain ⟨h0, rfl⟩ := hp
    exact e_RIz hx hb hr hk (Or.inr rfl) hP hD hS dX11_withdraw_28 h0
  · have hp := ite_p hp c_3
    refine lv_iconst (v := 0) hx hb dX11_withdraw_14 (by decide) ?_
    simp only [Option.some.injEq, Prod.mk.injEq] at hp
    obtain ⟨h0, rfl⟩ := hp
    exact e_RIz hx hb hr hk (Or.inl rfl) hP hD hS dX11_withdraw_15 h0
/-! StormSlots.offered(II)I -/
def St_offered (os : Mem) (p1 : Int32) (p2 : Int32) : Option (Int32) :=
  bn1 (Of_has os p1) (fun r_2 => if r_2 = 0 then some (-1) else if p2 = 0 then ckI p1 8 (some (os 0 p1.toNatClampNeg)) else if p2 = 1 then ckI p1 8 (some (os 1 p1.toNatClampNeg)) else if p2 = 2 then ckI p1 8 (some (os 2 p1.toNatClampNeg)) else if p2 = 3 then ckI p1 8 (some (os 3 p1.toNatClampNeg)) else some (-1))
set_option maxHeartbeats 4000000 in
set_option maxRecDepth 100000 in
theorem c_X11_offered (l : Launch) (D : va_G) (cy : Nat → ClassId) (qsm qbsa qbsb qrd qdi qrof qpn qse qfo qro qra qvc qos qli qfot qrot qrat qvct qost qlit : Nat → Nat) (sm bsa bsb rd di rof pn se fo ro ra vc os li fot rot rat vct ost lit : Mem) (p1 p2 : Int32) (r : Int32) (hp : St_offered os p1 p2 = some r) : RO l yX11_offered cX11_offered 3 (some .int) 1 D cy [.ref (qsm 0), .int p1, .int p2] (w_All cy qsm qbsa qbsb qrd qdi qrof qpn qse qfo qro qra qvc qos qli qfot qrot qrat qvct qost qlit sm bsa bsb rd di rof pn se fo ro ra vc os li fot rot rat vct ost lit) r := by
  refine RO_of RX11 rfl (by decide) (Nat.le_of_ble_eq_true rfl) ?_
  intro p e s m below meth c C0 hK hP ls hl
  obtain ⟨hx, hb, hr, hml, hown, hts, hk⟩ := id C0
  unfold St_offered at hp
  have hl : lv_has ls 3 [(0, .ref (qsm 0)), (1, .int p1), (2, .int p2)] := hl
  refine lv_aload_n hx hb dX11_offered_0 rfl (lv_at hl 0 rfl) ?_
  refine gf_X11_57 hx hb hts hown hK hP 0 rfl rfl dX11_offered_1 ?_
  refine gf_X11_255 hx hb hts hown hK hP 20 rfl rfl dX11_offered_4 ?_
  refine lv_iload_n hx hb dX11_offered_7 rfl (lv_at hl 1 rfl) ?_
  obtain ⟨r_2, hc_1, hp⟩ := bn1_s hp
  refine k_ROV (As := [.int p1]) (rest := []) ⟨hx, hb, hml, hown, hts⟩ hK (hP.sub (ws' := (w_Of cy qos os)) [34, 35, 36, 37, 38] rfl) (cw_X11_267 hts ⟨Nat.le_of_ble_eq_true rfl, Nat.le_of_ble_eq_true rfl⟩) 0 (ci := 4) rfl rfl rfl (c_X4_has l D cy qos os p1 r_2 hc_1) rfl hl.1 (Nat.le_of_ble_eq_true rfl) ⟨Nat.le_refl _, Nat.le_refl _⟩ dX11_offered_8 ?_
  refine lv_if_ne (tgt := 16) hx hb dX11_offered_11 (by decide) (fun c_3 => ?_) (fun c_3 => ?_)
  · have hp := ite_n hp c_3
    refine lv_iload_n hx hb dX11_offered_16 rfl (lv_at hl 2 rfl) ?_
    by_cases c_4 : p2 = 0
    · have hp := ite_p hp c_4
      refine r_tab (tgt := 48) (off := 31) 0 hx hb dX11_offered_17 c_4 (by decide) (by decide) ?_
      refine lv_aload_n hx hb dX11_offered_48 rfl (lv_at hl 0 rfl) ?_
      refine gf_X11_57 hx hb hts hown hK hP 0 rfl rfl dX11_offered_49 ?_
      refine gf_X11_255 hx hb hts hown hK hP 20 rfl rfl dX11_offered_52 ?_
      refine gf_X11_273 hx hb hts hown hK hP 34 rfl rfl dX11_offered_55 ?_
      refine lv_iload_n hx hb dX11_offered_58 rfl (lv_at hl 1 rfl) ?_
      obtain ⟨hi_5, hp⟩ := ckI_s hp
      refine r_ild hx hb hK hP 35 rfl hi_5 dX11_offered_59 ?_
      exact e_ROi hx hb hr hk dX11_offered_60 (Option.some.inj hp)
    have hp := ite_n hp c_4
    by_cases c_6 : p2 = 1
    · have hp := ite_p hp c_6
      refine r_tab (tgt := 61) (off := 44) 1 hx hb dX11_offered_17 c_6 (by decide) (by decide) ?_
      refine lv_aload_n hx hb dX11_offered_61 rfl (lv_at hl 0 rfl) ?_
      refine gf_X11_57 hx hb hts hown hK hP 0 rfl rfl dX11_offered_62 ?_
      refine gf_X11_255 hx hb hts hown hK hP 20 rfl rfl dX11_offered_65 ?_
      refine gf_X11_276 hx hb hts hown hK hP 34 rfl rfl dX11_offered_68 ?_
      refine lv_iload_n hx hb dX11_offered_71 rfl (lv_at hl 1 rfl) ?_
      obtain ⟨hi_7, hp⟩ := ckI_s hp
      refine r_ild hx hb hK hP 36 rfl hi_7 dX11_offered_72 ?_
      exact e_ROi hx hb hr hk dX11_offered_73 (Option.some.inj hp)
    have hp := ite_n hp c_6
    by_cases c_8 : p2 = 2
    · have hp := ite_p hp c_8
      refine r_tab (tgt := 74) (off := 57) 2 hx hb dX11_offered_17 c_8 (by decide) (by decide) ?_
      refine lv_aload_n hx hb dX11_offered_74 rfl (lv_at hl 0 rfl) ?_
      refine gf_X11_57 hx hb hts hown hK hP 0 rfl rfl dX11_offered_75 ?_
      refine gf_X11_255 hx hb hts hown hK hP 20 rfl rfl dX11_offered_78 ?_
      refine gf_X11_279 hx hb hts hown hK hP 34 rfl rfl dX11_offered_81 ?_
      refine lv_iload_n hx hb dX11_offered_84 rfl (lv_at hl 1 rfl) ?_
      obtain ⟨hi_9, hp⟩ := ckI_s hp
      refine r_ild hx hb hK hP 37 rfl hi_9 dX11_offered_85 ?_
      exact e_ROi hx hb hr hk dX11_offered_86 (Option.some.inj hp)
    have hp := ite_n hp c_8
    by_cases c_10 : p2 = 3
    · have hp := ite_p hp c_10
      refine r_tab (tgt := 87) (off := 70) 3 hx hb dX11_offered_17 c_10 (by decide) (by decide) ?_
      refine lv_aload_n hx hb dX11_offered_87 rfl (lv_at hl 0 rfl) ?_
      refine gf_X11_57 hx hb hts hown hK hP 0 rfl rfl dX11_offered_88 ?_
      refine gf_X11_255 hx hb hts hown hK hP 20 rfl rfl dX11_offered_91 ?_
      refine gf_X11_282 hx hb hts hown hK hP 34 rfl rfl dX11_offered_94 ?_
      refine lv_iload_n hx hb dX11_offered_97 rfl (lv_at hl 1 rfl) ?_
      obtain ⟨hi_11, hp⟩ := ckI_s hp
      refine r_ild hx hb hK hP 38 rfl hi_11 dX11_offered_98 ?_
      exact e_ROi hx hb hr hk dX11_offered_99 (Option.some.inj hp)
    have hp := ite_n hp c_10
    refine lv_tableOut (tgt := 100) hx hb dX11_offered_17 (by have zc_4 : (p2).toInt ≠ 0 := ne_toInt c_4; have zc_6 : (p2).toInt ≠ 1 := ne_toInt c_6; have zc_8 : (p2).toInt ≠ 2 := ne_toInt c_8; have zc_10 : (p2).toInt ≠ 3 := ne_toInt c_10; omega) (by decide) ?_
    refine lv_iconst (v := (-1)) hx hb dX11_offered_100 (by decide) ?_
    exact e_ROi hx hb hr hk dX11_offered_101 (Option.some.inj hp)
  · have hp := ite_p hp c_3
    refine lv_iconst (v := (-1)) hx hb dX11_offered_14 (by decide) ?_
    exact e_ROi hx hb hr hk dX11_offered_15 (Option.some.inj hp)
/-! StormSlots.deal(II)I -/
def St_deal (fo : Mem) (ro : Mem) (os : Mem) (p1 : Int32) (p2 : Int32) : Option (Int32 × Mem × Mem) :=
  bn1 (Fi_canDeal fo ro os p1 p2) (fun r_2 => if r_2 = 0 then some ((-1000000), fo, os) else bn1 (Fi_dealGain fo ro os p1 p2) (fun r_5 => bn1 (Fi_trade fo ro os p1 p2) (fun fo_7 => bn1 (Fi_trade fo_7 ro os p2 p1) (fun fo_9 => bn1 (Of_drop os p1) (fun os_11 => bn1 (Of_drop os_11 p2) (fun os_13 => some (r_5, fo_9, os_13)))))))
set_option maxHeartbeats 4000000 in
set_option maxRecDepth 100000 in
theorem c_X11_deal (l : Launch) (D : va_G) (cy : Nat → ClassId) (qsm qbsa qbsb qrd qdi qrof qpn qse qfo qro qra qvc qos qli qfot qrot qrat qvct qost qlit : Nat → Nat) (sm bsa bsb rd di rof pn se fo ro ra vc os li fot rot rat vct ost lit : Mem) (p1 p2 : Int32) (r : Int32) (fo' os' : Mem) (hp : St_deal fo ro os p1 p2 = some (r, fo', os')) : RI l yX11_deal cX11_deal 4 (some .int) 4 D cy [.ref (qsm 0), .int p1, .int p2] (w_All cy qsm qbsa qbsb qrd qdi qrof qpn qse qfo qro qra qvc qos qli qfot qrot qrat qvct qost qlit sm bsa bsb rd di rof pn se fo ro ra vc os li fot rot rat vct ost lit) (w_All cy qsm qbsa qbsb qrd qdi qrof qpn qse qfo qro qra qvc qos qli qfot qrot qrat qvct qost qlit sm bsa bsb rd di rof pn se fo' ro ra vc os' li fot rot rat vct ost lit) r := by
  refine RI_of RX11 rfl (by decide) (Nat.le_of_ble_eq_true rfl) ?_
  intro p e s m below meth c A C0 hK hP hD hS hA ls hl
  obtain ⟨hx, hb, hr, hml, hown, hts, hk⟩ := id C0
  unfold St_deal at hp
  have hl : lv_has ls 4 [(0, .ref (qsm 0)), (1, .int p1), (2, .int p2)] := hl
  refine lv_aload_n hx hb dX11_deal_0 rfl (lv_at hl 0 rfl) ?_
  refine gf_X11_57 hx hb hts hown hK hP 0 rfl rfl dX11_deal_1 ?_
  refine lv_iload_n hx hb dX11_deal_4 rfl (lv_at hl 1 rfl) ?_
  refine lv_iload_n hx hb dX11_deal_5 rfl (lv_at hl 2 rfl) ?_
  obtain ⟨r_2, hc_1, hp⟩ := bn1_s hp
  refine k_ROV (As := [.int p1, .int p2]) (rest := []) ⟨hx, hb, hml, hown, hts⟩ hK (hP.sub (ws' := (w_Fi cy qfo qro qra qvc qos qli fo ro ra vc os li)) [20, 21, 22, 23, 24, 25, 26, 27, 28, 29, 30, 31, 32, 33, 34, 35, 36, 37, 38, 39, 40, 41, 42] rfl) (cw_X11_285 hts ⟨Nat.le_of_ble_eq_true rfl, Nat.le_of_ble_eq_true rfl⟩) 0 (ci := 2) rfl rfl rfl (c_X2_canDeal l D cy qfo qro qra qvc qos qli fo ro ra vc os li p1 p2 r_2 hc_1) rfl hl.1 (Nat.le_of_ble_eq_true rfl) ⟨Nat.le_refl _, Nat.le_refl _⟩ dX11_deal_6 ?_
  refine lv_if_ne (tgt := 15) hx hb dX11_deal_9 (by decide) (fun c_3 => ?_) (fun c_3 => ?_)
  · have hp := ite_n hp c_3
    refine lv_aload_n hx hb dX11_deal_15 rfl (lv_at hl 0 rfl) ?_
    refine gf_X11_57 hx hb hts hown hK hP 0 rfl rfl dX11_deal_16 ?_
    refine lv_iload_n hx hb dX11_deal_19 rfl (lv_at hl 1 rfl) ?_
    refine lv_iload_n hx hb dX11_deal_20 rfl (lv_at hl 2 rfl) ?_
    obtain ⟨r_5, hc_4, hp⟩ := bn1_s hp
    refine k_ROV (As := [.int p1, .int p2]) (rest := []) ⟨hx, hb, hml, hown, hts⟩ hK (hP.sub (ws' := (w_Fi cy qfo qro qra qvc qos qli fo ro ra vc os li)) [20, 21, 22, 23, 24, 25, 26, 27, 28, 29, 30, 31, 32, 33, 34, 35, 36, 37, 38, 39, 40, 41, 42] rfl) (cw_X11_288 hts ⟨Nat.le_of_ble_eq_true rfl, Nat.le_of_ble_eq_true rfl⟩) 0 (ci := 2) rfl rfl rfl (c_X2_dealGain l D cy qfo qro qra qvc qos qli fo ro ra vc os li p1 p2 r_5 hc_4) rfl hl.1 (Nat.le_of_ble_eq_true rfl) ⟨Nat.le_refl _, Nat.le_refl _⟩ dX11_deal_21 ?_
    refine lv_istore_n (lv' := [(3, .int r_5), (0, .ref (qsm 0)), (1, .int p1), (2, .int p2)]) hx hb dX11_deal_24 rfl hl (by decide) rfl (fun ls hl => ?_)
    refine lv_aload_n hx hb dX11_deal_25 rfl (lv_at hl 1 rfl) ?_
    refine gf_X11_57 hx hb hts hown hK hP 0 rfl rfl dX11_deal_26 ?_
    refine lv_iload_n hx hb dX11_deal_29 rfl (lv_at hl 2 rfl) ?_
    refine lv_iload_n hx hb dX11_deal_30 rfl (lv_at hl 3 rfl) ?_
    obtain ⟨fo_7, hc_6, hp⟩ := bn1_s hp
    refine k_RVV (As := [.int p1, .int p2]) (rest := []) ⟨hx, hb, hml, hown, hts⟩ hK hP hD hS hA (FrS_set (ws := (w_All cy qsm qbsa qbsb qrd qdi qrof qpn qse qfo qro qra qvc qos qli qfot qrot qrat qvct qost qlit sm bsa bsb rd di rof pn se fo ro ra vc os li fot rot rat vct ost lit)) (wc := (w_Fi cy qfo qro qra qvc qos qli fo ro ra vc os li)) (w1 := (w_Fi cy qfo qro qra qvc qos qli fo_7 ro ra vc os li)) (wn := (w_All cy qsm qbsa qbsb qrd qdi qrof qpn qse qfo qro qra qvc qos qli qfot qrot qrat qvct qost qlit sm bsa bsb rd di rof pn se fo_7 ro ra vc os li fot rot rat vct ost lit)) [20, 21, 22, 23, 24, 25, 26, 27, 28, 29, 30, 31, 32, 33, 34, 35, 36, 37, 38, 39, 40, 41, 42] [none, none, none, none, none, none, none, none, none, none, none, none, none, none, none, none, none, none, none, none, some 0, some 1, some 2, some 3, some 4, some 5, some 6, some 7, some 8, some 9, some 10, some 11, some 12, some 13, some 14, some 15, some 16, some 17, some 18, some 19, some 20, some 21, some 22, none, none, none, none, none, none, none, none, none, none, none, none, none, none, none, none, none, none, none, none, none, none, none] (by decide +kernel) rfl rfl rfl) (cw_X11_291 hts ⟨Nat.le_of_ble_eq_true rfl, Nat.le_of_ble_eq_true rfl⟩) 0 (ci := 2) rfl rfl rfl (c_X2_trade l D cy qfo qro qra qvc qos qli fo ro ra vc os li p1 p2 fo_7 hc_6) rfl hl.1 (Nat.le_of_ble_eq_true rfl) ⟨Nat.le_refl _, Nat.le_refl _⟩ dX11_deal_31 (fun H locs hP hD hS => ?_)
    refine lv_aload_n hx hb dX11_deal_34 rfl (lv_at hl 1 rfl) ?_
    refine gf_X11_57 hx hb hts hown hK hP 0 rfl rfl dX11_deal_35 ?_
    refine lv_iload_n hx hb dX11_deal_38 rfl (lv_at hl 3 rfl) ?_
    refine lv_iload_n hx hb dX11_deal_39 rfl (lv_at hl 2 rfl) ?_
    obtain ⟨fo_9, hc_8, hp⟩ := bn1_s hp
    refine k_RVV (As := [.int p2, .int p1]) (rest := []) ⟨hx, hb, hml, hown, hts⟩ hK hP hD hS hA (FrS_set (ws := (w_All cy qsm qbsa qbsb qrd qdi qrof qpn qse qfo qro qra qvc qos qli qfot qrot qrat qvct qost qlit sm bsa bsb rd di rof pn se fo_7 ro ra vc os li fot rot rat vct ost lit)) (wc := (w_Fi cy qfo qro qra qvc qos qli fo_7 ro ra vc os li)) (w1 := (w_Fi cy qfo qro qra qvc qos qli fo_9 ro ra vc os li)) (wn := (w_All cy qsm qbsa qbsb qrd qdi qrof qpn qse qfo qro qra qvc qos qli qfot qrot qrat qvct qost qlit sm bsa bsb rd di rof pn se fo_9 ro ra vc os li fot rot rat vct ost lit)) [20, 21, 22, 23, 24, 25, 26, 27, 28, 29, 30, 31, 32, 33, 34, 35, 36, 37, 38, 39, 40, 41, 42] [none, none, none, none, none, none, none, none, none, none, none, none, none, none, none, none, none, none, none, none, some 0, some 1, some 2, some 3, some 4, some 5, some 6, some 7, some 8, some 9, some 10, some 11, some 12, some 13, some 14, some 15, some 16, some 17, some 18, some 19, some 20, some 21, some 22, none, none, none, none, none, none, none, none, none, none, none, none, none, none, none, none, none, none, none, none, none, none, none] (by decide +kernel) rfl rfl rfl) (cw_X11_291 hts ⟨Nat.le_of_ble_eq_true rfl, Nat.le_of_ble_eq_true rfl⟩) 0 (ci := 2) rfl rfl rfl (c_X2_trade l D cy qfo qro qra qvc qos qli fo_7 ro ra vc os li p2 p1 fo_9 hc_8) rfl hl.1 (Nat.le_of_ble_eq_true rfl) ⟨Nat.le_refl _, Nat.le_refl _⟩ dX11_deal_40 (fun H locs hP hD hS => ?_)
    refine lv_aload_n hx hb dX11_deal_43 rfl (lv_at hl 1 rfl) ?_
    refine gf_X11_57 hx hb hts hown hK hP 0 rfl rfl dX11_deal_44 ?_
    refine gf_X11_255 hx hb hts hown hK hP 20 rfl rfl dX11_deal_47 ?_
    refine lv_iload_n hx hb dX11_deal_50 rfl (lv_at hl 2 rfl) ?_
    obtain ⟨os_11, hc_10, hp⟩ := bn1_s hp
    refine k_RVV (As := [.int p1]) (rest := []) ⟨hx, hb, hml, hown, hts⟩ hK hP hD hS hA (FrS_set (ws := (w_All cy qsm qbsa qbsb qrd qdi qrof qpn qse qfo qro qra qvc qos qli qfot qrot qrat qvct qost qlit sm bsa bsb rd di rof pn se fo_9 ro ra vc os li fot rot rat vct ost lit)) (wc := (w_Of cy qos os)) (w1 := (w_Of cy qos os_11)) (wn := (w_All cy qsm qbsa qbsb qrd qdi qrof qpn qse qfo qro qra qvc qos qli qfot qrot qrat qvct qost qlit sm bsa bsb rd di rof pn se fo_9 ro ra vc os_11 li fot rot rat vct ost lit)) [34, 35, 36, 37, 38] [none, none, none, none, none, none, none, none, none, none, none, none, none, none, none, none, none, none, none, none, none, none, none, none, none, none, none, none, none, none, none, none, none, none, some 0, some 1, some 2, some 3, some 4, none, none, none, none, none, none, none, none, none, none, none, none, none, none, none, none, none, none, none, none, none, none, none, none, none, none, none] (by decide +kernel) rfl rfl rfl) (cw_X11_270 hts ⟨Nat.le_of_ble_eq_true rfl, Nat.le_of_ble_eq_true rfl⟩) 0 (ci := 4) rfl rfl rfl (c_X4_drop l D cy qos os p1 os_11 hc_10) rfl hl.1 (Nat.le_of_ble_eq_true rfl) ⟨Nat.le_refl _, Nat.le_refl _⟩ dX11_deal_51 (fun H locs hP hD hS => ?_)
    refine lv_aload_n hx hb dX11_deal_54 rfl (lv_at hl 1 rfl) ?_
    refine gf_X11_57 hx hb hts hown hK hP 0 rfl rfl dX11_deal_55 ?_
    refine gf_X11_255 hx hb hts hown hK hP 20 rfl rfl dX11_deal_58 ?_
    refine lv_iload_n hx hb dX11_deal_61 rfl (lv_at hl 3 rfl) ?_
    obtain ⟨os_13, hc_12, hp⟩ := bn1_s hp
    refine k_RVV (As := [.int p2]) (rest := []) ⟨hx, hb, hml, hown, hts⟩ hK hP hD hS hA (FrS_set (ws := (w_All cy qsm qbsa qbsb qrd qdi qrof qpn qse qfo qro qra qvc qos qli qfot qrot qrat qvct qost qlit sm bsa bsb rd di rof pn se fo_9 ro ra vc os_11 li fot rot rat vct ost lit)) (wc := (w_Of cy qos os_11)) (w1 := (w_Of cy qos os_13)) (wn := (w_All cy qsm qbsa qbsb qrd qdi qrof qpn qse qfo qro qra qvc qos qli qfot qrot qrat qvct qost qlit sm bsa bsb rd di rof pn se fo_9 ro ra vc os_13 li fot rot rat vct ost lit)) [34, 35, 36, 37, 38] [none, none, none, none, none, none, none, none, none, none, none, none, none, none, none, none, none, none, none, none, none, none, none, none, none, none, none, none, none, none, none, none, none, none, some 0, some 1, some 2, some 3, some 4, none, none, none, none, none, none, none, none, none, none, none, none, none, none, none, none, none, none, none, none, none, none, none, none, none, none, none] (by decide +kernel) rfl rfl rfl) (cw_X11_270 hts ⟨Nat.le_of_ble_eq_true rfl, Nat.le_of_ble_eq_true rfl⟩) 0 (ci := 4) rfl rfl rfl (c_X4_drop l D cy qos os_11 p2 os_13 hc_12) rfl hl.1 (Nat.le_of_ble_eq_true rfl) ⟨Nat.le_refl _, Nat.le_refl _⟩ dX11_deal_62 (fun H locs hP hD hS => ?_)
    refine lv_iload_n hx hb dX11_deal_65 rfl (lv_at hl 0 rfl) ?_
    simp only [Option.some.injEq, Prod.mk.injEq] at hp
    obtain ⟨h0, rfl, rfl⟩ := hp
    exact e_RIi hx hb hr hk hP hD hS dX11_deal_66 h0
  · have hp := ite_p hp c_3
    refine lc_X11_228 hx hb hts hown dX11_deal_12 ?_
    simp only [Option.some.injEq, Prod.mk.injEq] at hp
    obtain ⟨h0, rfl, rfl⟩ := hp
    exact e_RIi hx hb hr hk hP hD hS dX11_deal_14 h0
/-! StormSlots.bestDeal(I)I -/
def St_bestDeal_b35B (fo : Mem) (ro : Mem) (os : Mem) (p1 : Int32) (k22 : Int32 → Int32 → Int32 → Int32 → Option (Int32)) (k35 : Int32 → Int32 → Int32 → Int32 → Int32 → Option (Int32)) (x2 : Int32) (x3 : Int32) (x4 : Int32) (x5 : Int32) (x6 : Int32) : Option (Int32) :=
  if 8 ≤ x6 then stk (x5 + 1) (fun x5_9 => k22 x2 x3 x4 x5_9) else bn1 (Fi_canDeal fo ro os x5 x6) (fun r_11 => if r_11 = 0 then stk (x6 + 1) (fun x6_20 => k35 x2 x3 x4 x5 x6_20) else bn1 (Fi_dealGain fo ro os x5 x6) (fun r_14 => if x2 = (-1) then stk (x6 + 1) (fun x6_16 => k35 x5 x6 r_14 x5 x6_16) else if r_14 ≤ x4 then stk (x6 + 1) (fun x6_18 => k35 x2 x3 x4 x5 x6_18) else stk (x6 + 1) (fun x6_19 => k35 x5 x6 r_14 x5 x6_19)))
def St_bestDeal_b35 (fo : Mem) (ro : Mem) (os : Mem) (p1 : Int32) (k22 : Int32 → Int32 → Int32 → Int32 → Option (Int32)) : Nat → Int32 → Int32 → Int32 → Int32 → Int32 → Option (Int32)
  | 0 => fun _ _ _ _ _ => none
  | n + 1 => St_bestDeal_b35B fo ro os p1 k22 (St_bestDeal_b35 fo ro os p1 k22 n)
def St_bestDeal_b22B (fo : Mem) (ro : Mem) (os : Mem) (p1 : Int32) (k22 : Int32 → Int32 → Int32 → Int32 → Option (Int32)) (x2 : Int32) (x3 : Int32) (x4 : Int32) (x5 : Int32) : Option (Int32) :=
  if 8 ≤ x5 then if x2 = (-1) then some (-1000000) else if p1 = 2 then some x4 else if p1 = 0 then some x2 else some x3 else stk (x5 + 1) (fun x6_7 => St_bestDeal_b35 fo ro os p1 k22 fl x2 x3 x4 x5 x6_7)
def St_bestDeal_b22 (fo : Mem) (ro : Mem) (os : Mem) (p1 : Int32) : Nat → Int32 → Int32 → Int32 → Int32 → Option (Int32)
  | 0 => fun _ _ _ _ => none
  | n + 1 => St_bestDeal_b22B fo ro os p1 (St_bestDeal_b22 fo ro os p1 n)
def St_bestDeal (fo : Mem) (ro : Mem) (os : Mem) (p1 : Int32) : Option (Int32) :=
  if p1 < 0 then some (-1000000) else if p1 ≤ 2 then St_bestDeal_b22 fo ro os p1 fl (-1) (-1) 0 0 else some (-1000000)
set_option maxHeartbeats 4000000 in
set_option maxRecDepth 100000 in
theorem St_bestDeal_b35B_w (C0 : cX RX11 cX11_bestDeal (some .int) 8 p s m args meth c) (hK : kN D cy s) {qsm qbsa qbsb qrd qdi qrof qpn qse qfo qro qra qvc qos qli qfot qrot qrat qvct qost qlit : Nat → Nat} {sm bsa bsb rd di rof pn se fo ro ra vc os li fot rot rat vct ost lit : Mem} {p1 : Int32} {r : Int32} (hP : va_P D vwCl (w_All cy qsm qbsa qbsb qrd qdi qrof qpn qse qfo qro qra qvc qos qli qfot qrot qrat qvct qost qlit sm bsa bsb rd di rof pn se fo ro ra vc os li fot rot rat vct ost lit) s.heap) {k22 : Int32 → Int32 → Int32 → Int32 → Option (Int32)} (hk22 : ∀ (x2 x3 x4 x5 : Int32) (ls : Array Slot), lv_has ls 8 [(0, .ref (qsm 0)), (1, .int p1), (2, .int x2), (3, .int x3), (4, .int x4), (5, .int x5)] → k22 x2 x3 x4 x5 = some r → W p l e (rmD 4) s m args below meth c s.heap [] 0 0 (qRO below args s r) (F0 m 22 ls [])) {k35 : Int32 → Int32 → Int32 → Int32 → Int32 → Option (Int32)} (hk35 : ∀ (x2 x3 x4 x5 x6 : Int32) (ls : Array Slot), lv_has ls 8 [(0, .ref (qsm 0)), (1, .int p1), (2, .int x2), (3, .int x3), (4, .int x4), (5, .int x5), (6, .int x6)] → k35 x2 x3 x4 x5 x6 = some r → W p l e (rmD 4) s m args below meth c s.heap [] 0 0 (qRO below args s r) (F0 m 35 ls [])) {x2 : Int32} {x3 : Int32} {x4 : Int32} {x5 : Int32} {x6 : Int32} {ls : Array Slot} (hl : lv_has ls 8 [(0, .ref (qsm 0)), (1, .int p1), (2, .int x2), (3, .int x3), (4, .int x4), (5, .int x5), (6, .int x6)]) (hp : St_bestDeal_b35B fo ro os p1 k22 k35 x2 x3 x4 x5 x6 = some r) : W p l e (rmD 4) s m args below meth c s.heap [] 0 0 (qRO below args s r) (F0 m 35 ls []) := by
  obtain ⟨hx, hb, hr, hml, hown, hts, hk⟩ := id C0
  unfold St_bestDeal_b35B at hp
  refine lv_iload hx hb dX11_bestDeal_35 (lv_at hl 6 rfl) ?_
  refine lv_bipush (v := 8) hx hb dX11_bestDeal_37 (by decide) ?_
  refine lv_icmp_ge (tgt := 100) hx hb dX11_bestDeal_39 (by decide) (fun c_8 => ?_) (fun c_8 => ?_)
  · have hp := ite_p hp c_8
    obtain ⟨x5_9, ex5_9⟩ : ∃ y : Int32, y = x5 + 1 := ⟨_, rfl⟩
    have hp := stk_e hp ex5_9
    refine lv_iinc (v := x5_9) (lv' := [(5, .int x5_9), (0, .ref (qsm 0)), (1, .int p1), (2, .int x2), (3, .int x3), (4, .int x4), (6, .int x6)]) hx hb dX11_bestDeal_100 hl (k := 5) rfl (by rw [ex5_9]; rfl) (by decide) rfl (fun ls hl => ?_)
    refine lv_goto (tgt := 22) hx hb dX11_bestDeal_103 (by decide) ?_
    exact hk22 x2 x3 x4 x5_9 _ (lv_sub hl [1, 2, 3, 4, 5, 0] rfl) hp
  · have hp := ite_n hp c_8
    refine lv_aload_n hx hb dX11_bestDeal_42 rfl (lv_at hl 0 rfl) ?_
    refine gf_X11_57 hx hb hts hown hK hP 0 rfl rfl dX11_bestDeal_43 ?_
    refine lv_iload hx hb dX11_bestDeal_46 (lv_at hl 5 rfl) ?_
    refine lv_iload hx hb dX11_bestDeal_48 (lv_at hl 6 rfl) ?_
    obtain ⟨r_11, hc_10, hp⟩ := bn1_s hp
    refine k_ROV (As := [.int x5, .int x6]) (rest := []) ⟨hx, hb, hml, hown, hts⟩ hK (hP.sub (ws' := (w_Fi cy qfo qro qra qvc qos qli fo ro ra vc os li)) [20, 21, 22, 23, 24, 25, 26, 27, 28, 29, 30, 31, 32, 33, 34, 35, 36, 37, 38, 39, 40, 41, 42] rfl) (cw_X11_285 hts ⟨Nat.le_of_ble_eq_true rfl, Nat.le_of_ble_eq_true rfl⟩) 0 (ci := 2) rfl rfl rfl (c_X2_canDeal l D cy qfo qro qra qvc qos qli fo ro ra vc os li x5 x6 r_11 hc_10) rfl hl.1 (Nat.le_of_ble_eq_true rfl) ⟨Nat.le_refl _, Nat.le_refl _⟩ dX11_bestDeal_50 ?_
    refine lv_if_ne (tgt := 59) hx hb dX11_bestDeal_53 (by decide) (fun c_12 => ?_) (fun c_12 => ?_)
    · have hp := ite_n hp c_12
      refine lv_aload_n hx hb dX11_bestDeal_59 rfl (lv_at hl 0 rfl) ?_
      refine gf_X11_57 hx hb hts hown hK hP 0 rfl rfl dX11_bestDeal_60 ?_
      refine lv_iload hx hb dX11_bestDeal_63 (lv_at hl 5 rfl) ?_
      refine lv_iload hx hb dX11_bestDeal_65 (lv_at hl 6 rfl) ?_
      obtain ⟨r_14, hc_13, hp⟩ := bn1_s hp
      refine k_ROV (As := [.int x5, .int x6]) (rest := []) ⟨hx, hb, hml, hown, hts⟩ hK (hP.sub (ws' := (w_Fi cy qfo qro qra qvc qos qli fo ro ra vc os li)) [20, 21, 22, 23, 24, 25, 26, 27, 28, 29, 30, 31, 32, 33, 34, 35, 36, 37, 38, 39, 40, 41, 42] rfl) (cw_X11_288 hts ⟨Nat.le_of_ble_eq_true rfl, Nat.le_of_ble_eq_true rfl⟩) 0 (ci := 2) rfl rfl rfl (c_X2_dealGain l D cy qfo qro qra qvc qos qli fo ro ra vc os li x5 x6 r_14 hc_13) rfl hl.1 (Nat.le_of_ble_eq_true rfl) ⟨Nat.le_refl _, Nat.le_refl _⟩ dX11_bestDeal_67 ?_
      refine lv_istore (lv' := [(7, .int r_14), (0, .ref (qsm 0)), (1, .int p1), (2, .int x2), (3, .int x3), (4, .int x4), (5, .int x5), (6, .int x6)]) hx hb dX11_bestDeal_70 hl (by decide) rfl (fun ls hl => ?_)
      refine lv_iload_n hx hb dX11_bestDeal_72 rfl (lv_at hl 3 rfl) ?_
      refine lv_iconst (v := (-1)) hx hb dX11_bestDeal_73 (by decide) ?_
      refine lv_icmp_eq (tgt := 84) hx hb dX11_bestDeal_74 (by decide) (fun c_15 => ?_) (fun c_15 => ?_)
      · have hp := ite_p hp c_15
        refine lv_iload hx hb dX11_bestDeal_84 (lv_at hl 6 rfl) ?_
        refine lv_istore_n (lv' := [(2, .int x5), (7, .int r_14), (0, .ref (qsm 0)), (1, .int p1), (3, .int x3), (4, .int x4), (5, .int x5), (6, .int x6)]) hx hb dX11_bestDeal_86 rfl hl (by decide) rfl (fun ls hl => ?_)
        refine lv_iload hx hb dX11_bestDeal_87 (lv_at hl 7 rfl) ?_
        refine lv_istore_n (lv' := [(3, .int x6), (2, .int x5), (7, .int r_14), (0, .ref (qsm 0)), (1, .int p1), (4, .int x4), (5, .int x5), (6, .int x6)]) hx hb dX11_bestDeal_89 rfl hl (by decide) rfl (fun ls hl => ?_)
        refine lv_iload hx hb dX11_bestDeal_90 (lv_at hl 2 rfl) ?_
        refine lv_istore (lv' := [(4, .int r_14), (3, .int x6), (2, .int x5), (7, .int r_14), (0, .ref (qsm 0)), (1, .int p1), (5, .int x5), (6, .int x6)]) hx hb dX11_bestDeal_92 hl (by decide) rfl (fun ls hl => ?_)
        obtain ⟨x6_16, ex6_16⟩ : ∃ y : Int32, y = x6 + 1 := ⟨_, rfl⟩
        have hp := stk_e hp ex6_16
        refine lv_iinc (v := x6_16) (lv' := [(6, .int x6_16), (4, .int r_14), (3, .int x6), (2, .int x5), (7, .int r_14), (0, .ref (qsm 0)), (1, .int p1), (5, .int x5)]) hx hb dX11_bestDeal_94 hl (k := 7) rfl (by rw [ex6_16]; rfl) (by decide) rfl (fun ls hl => ?_)
        refine lv_goto (tgt := 35) hx hb dX11_bestDeal_97 (by decide) ?_
        exact hk35 x5 x6 r_14 x5 x6_16 _ (lv_sub hl [5, 6, 3, 2, 1, 7, 0] rfl) hp
      · have hp := ite_n hp c_15
        refine lv_iload hx hb dX11_bestDeal_77 (lv_at hl 0 rfl) ?_
        refine lv_iload hx hb dX11_bestDeal_79 (lv_at hl 5 rfl) ?_
        refine lv_icmp_le (tgt := 94) hx hb dX11_bestDeal_81 (by decide) (fun c_17 => ?_) (fun c_17 => ?_)
        · have hp := ite_p hp c_17
          obtain ⟨x6_18, ex6_18⟩ : ∃ y : Int32, y = x6 + 1 := ⟨_, rfl⟩
          have hp := stk_e hp ex6_18
          refine lv_iinc (v := x6_18) (lv' := [(6, .int x6_18), (7, .int r_14), (0, .ref (qsm 0)), (1, .int p1), (2, .int x2), (3, .int x3), (4, .int x4), (5, .int x5)]) hx hb dX11_bestDeal_94 hl (k := 7) rfl (by rw [ex6_18]; rfl) (by decide) rfl (fun ls hl => ?_)
          refine lv_goto (tgt := 35) hx hb dX11_bestDeal_97 (by decide) ?_
          exact hk35 x2 x3 x4 x5 x6_18 _ (lv_sub hl [2, 3, 4, 5, 6, 7, 0] rfl) hp
        · have hp := ite_n hp c_17
          refine lv_iload hx hb dX11_bestDeal_84 (lv_at hl 6 rfl) ?_
          refine lv_istore_n (lv' := [(2, .int x5), (7, .int r_14), (0, .ref (qsm 0)), (1, .int p1), (3, .int x3), (4, .int x4), (5, .int x5), (6, .int x6)]) hx hb dX11_bestDeal_86 rfl hl (by decide) rfl (fun ls hl => ?_)
          refine lv_iload hx hb dX11_bestDeal_87 (lv_at hl 7 rfl) ?_
          refine lv_istore_n (lv' := [(3, .int x6), (2, .int x5), (7, .int r_14), (0, .ref (qsm 0)), (1, .int p1), (4, .int x4), (5, .int x5), (6, .int x6)]) hx hb dX11_bestDeal_89 rfl hl (by decide) rfl (fun ls hl => ?_)
          refine lv_iload hx hb dX11_bestDeal_90 (lv_at hl 2 rfl) ?_
          refine lv_istore (lv' := [(4, .int r_14), (3, .int x6), (2, .int x5), (7, .int r_14), (0, .ref (qsm 0)), (1, .int p1), (5, .int x5), (6, .int x6)]) hx hb dX11_bestDeal_92 hl (by decide) rfl (fun ls hl => ?_)
          obtain ⟨x6_19, ex6_19⟩ : ∃ y : Int32, y = x6 + 1 := ⟨_, rfl⟩
          have hp := stk_e hp ex6_19
          refine lv_iinc (v := x6_19) (lv' := [(6, .int x6_19), (4, .int r_14), (3, .int x6), (2, .int x5), (7, .int r_14), (0, .ref (qsm 0)), (1, .int p1), (5, .int x5)]) hx hb dX11_bestDeal_94 hl (k := 7) rfl (by rw [ex6_19]; rfl) (by decide) rfl (fun ls hl => ?_)
          refine lv_goto (tgt := 35) hx hb dX11_bestDeal_97 (by decide) ?_
          exact hk35 x5 x6 r_14 x5 x6_19 _ (lv_sub hl [5, 6, 3, 2, 1, 7, 0] rfl) hp
    · have hp := ite_p hp c_12
      refine lv_goto (tgt := 94) hx hb dX11_bestDeal_56 (by decide) ?_
      obtain ⟨x6_20, ex6_20⟩ : ∃ y : Int32, y = x6 + 1 := ⟨_, rfl⟩
      have hp := stk_e hp ex6_20
      refine lv_iinc (v := x6_20) (lv' := [(6, .int x6_20), (0, .ref (qsm 0)), (1, .int p1), (2, .int x2), (3, .int x3), (4, .int x4), (5, .int x5)]) hx hb dX11_bestDeal_94 hl (k := 6) rfl (by rw [ex6_20]; rfl) (by decide) rfl (fun ls hl => ?_)
      refine lv_goto (tgt := 35) hx hb dX11_bestDeal_97 (by decide) ?_
      exact hk35 x2 x3 x4 x5 x6_20 _ (lv_sub hl [1, 2, 3, 4, 5, 6, 0] rfl) hp
theorem St_bestDeal_b35_w (C0 : cX RX11 cX11_bestDeal (some .int) 8 p s m args meth c) (hK : kN D cy s) {qsm qbsa qbsb qrd qdi qrof qpn qse qfo qro qra qvc qos qli qfot qrot qrat qvct qost qlit : Nat → Nat} {sm bsa bsb rd di rof pn se fo ro ra vc os li fot rot rat vct ost lit : Mem} {p1 : Int32} {r : Int32} (hP : va_P D vwCl (w_All cy qsm qbsa qbsb qrd qdi qrof qpn qse qfo qro qra qvc qos qli qfot qrot qrat qvct qost qlit sm bsa bsb rd di rof pn se fo ro ra vc os li fot rot rat vct ost lit) s.heap) {k22 : Int32 → Int32 → Int32 → Int32 → Option (Int32)} (hk22 : ∀ (x2 x3 x4 x5 : Int32) (ls : Array Slot), lv_has ls 8 [(0, .ref (qsm 0)), (1, .int p1), (2, .int x2), (3, .int x3), (4, .int x4), (5, .int x5)] → k22 x2 x3 x4 x5 = some r → W p l e (rmD 4) s m args below meth c s.heap [] 0 0 (qRO below args s r) (F0 m 22 ls [])) : ∀ (n : Nat) (x2 x3 x4 x5 x6 : Int32) (ls : Array Slot), lv_has ls 8 [(0, .ref (qsm 0)), (1, .int p1), (2, .int x2), (3, .int x3), (4, .int x4), (5, .int x5), (6, .int x6)] → St_bestDeal_b35 fo ro os p1 k22 n x2 x3 x4 x5 x6 = some r → W p l e (rmD 4) s m args below meth c s.heap [] 0 0 (qRO below args s r) (F0 m 35 ls []) := by
  intro n
  induction n with
  | zero =>
    intro x2 x3 x4 x5 x6 ls hl hp
    cases hp
  | succ n ih =>
    intro x2 x3 x4 x5 x6 ls hl hp
    exact St_bestDeal_b35B_w C0 hK hP hk22 (fun x2 x3 x4 x5 x6 ls hl hp => ih x2 x3 x4 x5 x6 ls hl hp) hl hp
set_option maxHeartbeats 4000000 in
set_option maxRecDepth 100000 in
theorem St_bestDeal_b22B_w (C0 : cX RX11 cX11_bestDeal (some .int) 8 p s m args meth c) (hK : kN D cy s) {qsm qbsa qbsb qrd qdi qrof qpn qse qfo qro qra qvc qos qli qfot qrot qrat qvct qost qlit : Nat → Nat} {sm bsa bsb rd di rof pn se fo ro ra vc os li fot rot rat vct ost lit : Mem} {p1 : Int32} {r : Int32} (hP : va_P D vwCl (w_All cy qsm qbsa qbsb qrd qdi qrof qpn qse qfo qro qra qvc qos qli qfot qrot qrat qvct qost qlit sm bsa bsb rd di rof pn se fo ro ra vc os li fot rot rat vct ost lit) s.heap) {k22 : Int32 → Int32 → Int32 → Int32 → Option (Int32)} (hk22 : ∀ (x2 x3 x4 x5 : Int32) (ls : Array Slot), lv_has ls 8 [(0, .ref (qsm 0)), (1, .int p1), (2, .int x2), (3, .int x3), (4, .int x4), (5, .int x5)] → k22 x2 x3 x4 x5 = some r → W p l e (rmD 4) s m args below meth c s.heap [] 0 0 (qRO below args s r) (F0 m 22 ls [])) {x2 : Int32} {x3 : Int32} {x4 : Int32} {x5 : Int32} {ls : Array Slot} (hl : lv_has ls 8 [(0, .ref (qsm 0)), (1, .int p1), (2, .int x2), (3, .int x3), (4, .int x4), (5, .int x5)]) (hp : St_bestDeal_b22B fo ro os p1 k22 x2 x3 x4 x5 = some r) : W p l e (rmD 4) s m args below meth c s.heap [] 0 0 (qRO below args s r) (F0 m 22 ls []) := by
  obtain ⟨hx, hb, hr, hml, hown, hts, hk⟩ := id C0
  unfold St_bestDeal_b22B at hp
  refine lv_iload hx hb dX11_bestDeal_22 (lv_at hl 5 rfl) ?_
  refine lv_bipush (v := 8) hx hb dX11_bestDeal_24 (by decide) ?_
  refine lv_icmp_ge (tgt := 106) hx hb dX11_bestDeal_26 (by decide) (fun c_3 => ?_) (fun c_3 => ?_)
  · have hp := ite_p hp c_3
    refine lv_iload_n hx hb dX11_bestDeal_106 rfl (lv_at hl 2 rfl) ?_
    refine lv_iconst (v := (-1)) hx hb dX11_bestDeal_107 (by decide) ?_
    refine lv_icmp_ne (tgt := 114) hx hb dX11_bestDeal_108 (by decide) (fun c_4 => ?_) (fun c_4 => ?_)
    · have hp := ite_n hp c_4
      refine lv_iload_n hx hb dX11_bestDeal_114 rfl (lv_at hl 1 rfl) ?_
      refine lv_iconst (v := 2) hx hb dX11_bestDeal_115 (by decide) ?_
      refine lv_icmp_ne (tgt := 122) hx hb dX11_bestDeal_116 (by decide) (fun c_5 => ?_) (fun c_5 => ?_)
      · have hp := ite_n hp c_5
        refine lv_iload_n hx hb dX11_bestDeal_122 rfl (lv_at hl 1 rfl) ?_
        refine lv_if_ne (tgt := 130) hx hb dX11_bestDeal_123 (by decide) (fun c_6 => ?_) (fun c_6 => ?_)
        · have hp := ite_n hp c_6
          refine lv_iload_n hx hb dX11_bestDeal_130 rfl (lv_at hl 3 rfl) ?_
          exact e_ROi hx hb hr hk dX11_bestDeal_131 (Option.some.inj hp)
        · have hp := ite_p hp c_6
          refine lv_iload_n hx hb dX11_bestDeal_126 rfl (lv_at hl 2 rfl) ?_
          refine lv_goto (tgt := 131) hx hb dX11_bestDeal_127 (by decide) ?_
          exact e_ROi hx hb hr hk dX11_bestDeal_131 (Option.some.inj hp)
      · have hp := ite_p hp c_5
        refine lv_iload hx hb dX11_bestDeal_119 (lv_at hl 4 rfl) ?_
        exact e_ROi hx hb hr hk dX11_bestDeal_121 (Option.some.inj hp)
    · have hp := ite_p hp c_4
      refine lc_X11_228 hx hb hts hown dX11_bestDeal_111 ?_
      exact e_ROi hx hb hr hk dX11_bestDeal_113 (Option.some.inj hp)
  · have hp := ite_n hp c_3
    refine lv_iload hx hb dX11_bestDeal_29 (lv_at hl 5 rfl) ?_
    refine lv_iconst (v := 1) hx hb dX11_bestDeal_31 (by decide) ?_
    refine lv_iadd hx hb dX11_bestDeal_32 ?_
    refine lv_topi (fun x6_7 ex6_7 => ?_)
    have hp := stk_e hp ex6_7
    refine lv_istore (lv' := [(6, .int x6_7), (0, .ref (qsm 0)), (1, .int p1), (2, .int x2), (3, .int x3), (4, .int x4), (5, .int x5)]) hx hb dX11_bestDeal_33 hl (by decide) rfl (fun ls hl => ?_)
    exact St_bestDeal_b35_w C0 hK hP hk22 fl x2 x3 x4 x5 x6_7 _ (lv_sub hl [1, 2, 3, 4, 5, 6, 0] rfl) hp
theorem St_bestDeal_b22_w (C0 : cX RX11 cX11_bestDeal (some .int) 8 p s m args meth c) (hK : kN D cy s) {qsm qbsa qbsb qrd qdi qrof qpn qse qfo qro qra qvc qos qli qfot qrot qrat qvct qost qlit : Nat → Nat} {sm bsa bsb rd di rof pn se fo ro ra vc os li fot rot rat vct ost lit : Mem} {p1 : Int32} {r : Int32} (hP : va_P D vwCl (w_All cy qsm qbsa qbsb qrd qdi qrof qpn qse qfo qro qra qvc qos qli qfot qrot qrat qvct qost qlit sm bsa bsb rd di rof pn se fo ro ra vc os li fot rot rat vct ost lit) s.heap) : ∀ (n : Nat) (x2 x3 x4 x5 : Int32) (ls : Array Slot), lv_has ls 8 [(0, .ref (qsm 0)), (1, .int p1), (2, .int x2), (3, .int x3), (4, .int x4), (5, .int x5)] → St_bestDeal_b22 fo ro os p1 n x2 x3 x4 x5 = some r → W p l e (rmD 4) s m args below meth c s.heap [] 0 0 (qRO below args s r) (F0 m 22 ls []) := by
  intro n
  induction n with
  | zero =>
    intro x2 x3 x4 x5 ls hl hp
    cases hp
  | succ n ih =>
    intro x2 x3 x4 x5 ls hl hp
    exact St_bestDeal_b22B_w C0 hK hP  (fun x2 x3 x4 x5 ls hl hp => ih x2 x3 x4 x5 ls hl hp) hl hp
set_option maxHeartbeats 4000000 in
set_option maxRecDepth 100000 in
theorem c_X11_bestDeal (l : Launch) (D : va_G) (cy : Nat → ClassId) (qsm qbsa qbsb qrd qdi qrof qpn qse qfo qro qra qvc qos qli qfot qrot qrat qvct qost qlit : Nat → Nat) (sm bsa bsb rd di rof pn se fo ro ra vc os li fot rot rat vct ost lit : Mem) (p1 : Int32) (r : Int32) (hp : St_bestDeal fo ro os p1 = some r) : RO l yX11_bestDeal cX11_bestDeal 8 (some .int) 4 D cy [.ref (qsm 0), .int p1] (w_All cy qsm qbsa qbsb qrd qdi qrof qpn qse qfo qro qra qvc qos qli qfot qrot qrat qvct qost qlit sm bsa bsb rd di rof pn se fo ro ra vc os li fot rot rat vct ost lit) r := by
  refine RO_of RX11 rfl (by decide) (Nat.le_of_ble_eq_true rfl) ?_
  intro p e s m below meth c C0 hK hP ls hl
  obtain ⟨hx, hb, hr, hml, hown, hts, hk⟩ := id C0
  unfold St_bestDeal at hp
  have hl : lv_has ls 8 [(0, .ref (qsm 0)), (1, .int p1)] := hl
  refine lv_iload_n hx hb dX11_bestDeal_0 rfl (lv_at hl 1 rfl) ?_
  refine lv_if_lt (tgt := 9) hx hb dX11_bestDeal_1 (by decide) (fun c_1 => ?_) (fun c_1 => ?_)
  · have hp := ite_p hp c_1
    refine lc_X11_228 hx hb hts hown dX11_bestDeal_9 ?_
    exact e_ROi hx hb hr hk dX11_bestDeal_11 (Option.some.inj hp)
  · have hp := ite_n hp c_1
    refine lv_iload_n hx hb dX11_bestDeal_4 rfl (lv_at hl 1 rfl) ?_
    refine lv_iconst (v := 2) hx hb dX11_bestDeal_5 (by decide) ?_
    refine lv_icmp_le (tgt := 12) hx hb dX11_bestDeal_6 (by decide) (fun c_2 => ?_) (fun c_2 => ?_)
    · have hp := ite_p hp c_2
      refine lv_iconst (v := (-1)) hx hb dX11_bestDeal_12 (by decide) ?_
      refine lv_istore_n (lv' := [(2, .int (-1)), (0, .ref (qsm 0)), (1, .int p1)]) hx hb dX11_bestDeal_13 rfl hl (by decide) rfl (fun ls hl => ?_)
      refine lv_iconst (v := (-1)) hx hb dX11_bestDeal_14 (by decide) ?_
      refine lv_istore_n (lv' := [(3, .int (-1)), (2, .int (-1)), (0, .ref (qsm 0)), (1, .int p1)]) hx hb dX11_bestDeal_15 rfl hl (by decide) rfl (fun ls hl => ?_)
      refine lv_iconst (v := 0) hx hb dX11_bestDeal_16 (by decide) ?_
      refine lv_istore (lv' := [(4, .int 0), (3, .int (-1)), (2, .int (-1)), (0, .ref (qsm 0)), (1, .int p1)]) hx hb dX11_bestDeal_17 hl (by decide) rfl (fun ls hl => ?_)
      refine lv_iconst (v := 0) hx hb dX11_bestDeal_19 (by decide) ?_
      refine lv_istore (lv' := [(5, .int 0), (4, .int 0), (3, .int (-1)), (2, .int (-1)), (0, .ref (qsm 0)), (1, .int p1)]) hx hb dX11_bestDeal_20 hl (by decide) rfl (fun ls hl => ?_)
      exact St_bestDeal_b22_w C0 hK hP  fl (-1) (-1) 0 0 _ (lv_sub hl [4, 5, 3, 2, 1, 0] rfl) hp
    · have hp := ite_n hp c_2
      refine lc_X11_228 hx hb hts hown dX11_bestDeal_9 ?_
      exact e_ROi hx hb hr hk dX11_bestDeal_11 (Option.some.inj hp)
/-! StormSlots.line(II)I -/
def St_line (fo : Mem) (ro : Mem) (vc : Mem) (p1 : Int32) (p2 : Int32) : Option (Int32) :=
  bn1 (St_isLine p1) (fun r_2 => if r_2 = 0 then some (-1) else if p2 = 0 then bn1 (Fi_flightsOf ro p1) (fun r_6 => some r_6) else if p2 = 1 then bn1 (Fi_cancelledOf fo ro p1) (fun r_9 => some r_9) else if p2 = 2 then bn1 (Fi_waitsOf fo ro p1) (fun r_12 => some r_12) else if p2 = 3 then bn1 (Fi_lineCost fo ro p1) (fun r_15 => some r_15) else if p2 = 4 then bn1 (Fi_longestWaitOf fo ro p1) (fun r_18 => some r_18) else if p2 = 5 then bn1 (Va_keptBy vc p1) (fun r_21 => some r_21) else if p2 = 6 then bn1 (Fi_aloftOf fo ro p1) (fun r_24 => some r_24) else some (-1))
set_option maxHeartbeats 4000000 in
set_option maxRecDepth 100000 in
theorem c_X11_line (l : Launch) (D : va_G) (cy : Nat → ClassId) (qsm qbsa qbsb qrd qdi qrof qpn qse qfo qro qra qvc qos qli qfot qrot qrat qvct qost qlit : Nat → Nat) (sm bsa bsb rd di rof pn se fo ro ra vc os li fot rot rat vct ost lit : Mem) (p1 p2 : Int32) (r : Int32) (hp : St_line fo ro vc p1 p2 = some r) : RO l yX11_line cX11_line 3 (some .int) 3 D cy [.ref (qsm 0), .int p1, .int p2] (w_All cy qsm qbsa qbsb qrd qdi qrof qpn qse qfo qro qra qvc qos qli qfot qrot qrat qvct qost qlit sm bsa bsb rd di rof pn se fo ro ra vc os li fot rot rat vct ost lit) r := by
  refine RO_of RX11 rfl (by decide) (Nat.le_of_ble_eq_true rfl) ?_
  intro p e s m below meth c C0 hK hP ls hl
  obtain ⟨hx, hb, hr, hml, hown, hts, hk⟩ := id C0
  unfold St_line at hp
  have hl : lv_has ls 3 [(0, .ref (qsm 0)), (1, .int p1), (2, .int p2)] := hl
  refine lv_iload_n hx hb dX11_line_0 rfl (lv_at hl 1 rfl) ?_
  obtain ⟨r_2, hc_1, hp⟩ := bn1_s hp
  refine k_ROS (As := [.int p1]) (rest := []) ⟨hx, hb, hml, hown, hts⟩ hK (show va_P D vwCl [] _ from fun k q h => by simp at h) (cw_X11_91 hts ⟨Nat.le_of_ble_eq_true rfl, Nat.le_of_ble_eq_true rfl⟩) (c_X11_isLine l D cy p1 r_2 hc_1) rfl hl.1 (Nat.le_of_ble_eq_true rfl) ⟨Nat.le_refl _, Nat.le_refl _⟩ dX11_line_1 ?_
  refine lv_if_ne (tgt := 9) hx hb dX11_line_4 (by decide) (fun c_3 => ?_) (fun c_3 => ?_)
  · have hp := ite_n hp c_3
    refine lv_iload_n hx hb dX11_line_9 rfl (lv_at hl 2 rfl) ?_
    by_cases c_4 : p2 = 0
    · have hp := ite_p hp c_4
      refine r_tab (tgt := 52) (off := 42) 0 hx hb dX11_line_10 c_4 (by decide) (by decide) ?_
      refine lv_aload_n hx hb dX11_line_52 rfl (lv_at hl 0 rfl) ?_
      refine gf_X11_57 hx hb hts hown hK hP 0 rfl rfl dX11_line_53 ?_
      refine lv_iload_n hx hb dX11_line_56 rfl (lv_at hl 1 rfl) ?_
      obtain ⟨r_6, hc_5, hp⟩ := bn1_s hp
      refine k_ROV (As := [.int p1]) (rest := []) ⟨hx, hb, hml, hown, hts⟩ hK (hP.sub (ws' := (w_Fi cy qfo qro qra qvc qos qli fo ro ra vc os li)) [20, 21, 22, 23, 24, 25, 26, 27, 28, 29, 30, 31, 32, 33, 34, 35, 36, 37, 38, 39, 40, 41, 42] rfl) (cw_X11_294 hts ⟨Nat.le_of_ble_eq_true rfl, Nat.le_of_ble_eq_true rfl⟩) 0 (ci := 2) rfl rfl rfl (c_X2_flightsOf l D cy qfo qro qra qvc qos qli fo ro ra vc os li p1 r_6 hc_5) rfl hl.1 (Nat.le_of_ble_eq_true rfl) ⟨Nat.le_refl _, Nat.le_refl _⟩ dX11_line_57 ?_
      exact e_ROi hx hb hr hk dX11_line_60 (Option.some.inj hp)
    have hp := ite_n hp c_4
    by_cases c_7 : p2 = 1
    · have hp := ite_p hp c_7
      refine r_tab (tgt := 61) (off := 51) 1 hx hb dX11_line_10 c_7 (by decide) (by decide) ?_
      refine lv_aload_n hx hb dX11_line_61 rfl (lv_at hl 0 rfl) ?_
      refine gf_X11_57 hx hb hts hown hK hP 0 rfl rfl dX11_line_62 ?_
      refine lv_iload_n hx hb dX11_line_65 rfl (lv_at hl 1 rfl) ?_
      obtain ⟨r_9, hc_8, hp⟩ := bn1_s hp
      refine k_ROV (As := [.int p1]) (rest := []) ⟨hx, hb, hml, hown, hts⟩ hK (hP.sub (ws' := (w_Fi cy qfo qro qra qvc qos qli fo ro ra vc os li)) [20, 21, 22, 23, 24, 25, 26, 27, 28, 29, 30, 31, 32, 33, 34, 35, 36, 37, 38, 39, 40, 41, 42] rfl) (cw_X11_297 hts ⟨Nat.le_of_ble_eq_true rfl, Nat.le_of_ble_eq_true rfl⟩) 0 (ci := 2) rfl rfl rfl (c_X2_cancelledOf l D cy qfo qro qra qvc qos qli fo ro ra vc os li p1 r_9 hc_8) rfl hl.1 (Nat.le_of_ble_eq_true rfl) ⟨Nat.le_refl _, Nat.le_refl _⟩ dX11_line_66 ?_
      exact e_ROi hx hb hr hk dX11_line_69 (Option.some.inj hp)
    have hp := ite_n hp c_7
    by_cases c_10 : p2 = 2
    · have hp := ite_p hp c_10
      refine r_tab (tgt := 70) (off := 60) 2 hx hb dX11_line_10 c_10 (by decide) (by decide) ?_
      refine lv_aload_n hx hb dX11_line_70 rfl (lv_at hl 0 rfl) ?_
      refine gf_X11_57 hx hb hts hown hK hP 0 rfl rfl dX11_line_71 ?_
      refine lv_iload_n hx hb dX11_line_74 rfl (lv_at hl 1 rfl) ?_
      obtain ⟨r_12, hc_11, hp⟩ := bn1_s hp
      refine k_ROV (As := [.int p1]) (rest := []) ⟨hx, hb, hml, hown, hts⟩ hK (hP.sub (ws' := (w_Fi cy qfo qro qra qvc qos qli fo ro ra vc os li)) [20, 21, 22, 23, 24, 25, 26, 27, 28, 29, 30, 31, 32, 33, 34, 35, 36, 37, 38, 39, 40, 41, 42] rfl) (cw_X11_300 hts ⟨Nat.le_of_ble_eq_true rfl, Nat.le_of_ble_eq_true rfl⟩) 0 (ci := 2) rfl rfl rfl (c_X2_waitsOf l D cy qfo qro qra qvc qos qli fo ro ra vc os li p1 r_12 hc_11) rfl hl.1 (Nat.le_of_ble_eq_true rfl) ⟨Nat.le_refl _, Nat.le_refl _⟩ dX11_line_75 ?_
      exact e_ROi hx hb hr hk dX11_line_78 (Option.some.inj hp)
    have hp := ite_n hp c_10
    by_cases c_13 : p2 = 3
    · have hp := ite_p hp c_13
      refine r_tab (tgt := 79) (off := 69) 3 hx hb dX11_line_10 c_13 (by decide) (by decide) ?_
      refine lv_aload_n hx hb dX11_line_79 rfl (lv_at hl 0 rfl) ?_
      refine gf_X11_57 hx hb hts hown hK hP 0 rfl rfl dX11_line_80 ?_
      refine lv_iload_n hx hb dX11_line_83 rfl (lv_at hl 1 rfl) ?_
      obtain ⟨r_15, hc_14, hp⟩ := bn1_s hp
      refine k_ROV (As := [.int p1]) (rest := []) ⟨hx, hb, hml, hown, hts⟩ hK (hP.sub (ws' := (w_Fi cy qfo qro qra qvc qos qli fo ro ra vc os li)) [20, 21, 22, 23, 24, 25, 26, 27, 28, 29, 30, 31, 32, 33, 34, 35, 36, 37, 38, 39, 40, 41, 42] rfl) (cw_X11_303 hts ⟨Nat.le_of_ble_eq_true rfl, Nat.le_of_ble_eq_true rfl⟩) 0 (ci := 2) rfl rfl rfl (c_X2_lineCost l D cy qfo qro qra qvc qos qli fo ro ra vc os li p1 r_15 hc_14) rfl hl.1 (Nat.le_of_ble_eq_true rfl) ⟨Nat.le_refl _, Nat.le_refl _⟩ dX11_line_84 ?_
      exact e_ROi hx hb hr hk dX11_line_87 (Option.some.inj hp)
    have hp := ite_n hp c_13
    by_cases c_16 : p2 = 4
    · have hp := ite_p hp c_16
      refine r_tab (tgt := 88) (off := 78) 4 hx hb dX11_line_10 c_16 (by decide) (by decide) ?_
      refine lv_aload_n hx hb dX11_line_88 rfl (lv_at hl 0 rfl) ?_
      refine gf_X11_57 hx hb hts hown hK hP 0 rfl rfl dX11_line_89 ?_
      refine lv_iload_n hx hb dX11_line_92 rfl (lv_at hl 1 rfl) ?_
      obtain ⟨r_18, hc_17, hp⟩ := bn1_s hp
      refine k_ROV (As := [.int p1]) (rest := []) ⟨hx, hb, hml, hown, hts⟩ hK (hP.sub (ws' := (w_Fi cy qfo qro qra qvc qos qli fo ro ra vc os li)) [20, 21, 22, 23, 24, 25, 26, 27, 28, 29, 30, 31, 32, 33, 34, 35, 36, 37, 38, 39, 40, 41, 42] rfl) (cw_X11_306 hts ⟨Nat.le_of_ble_eq_true rfl, Nat.le_of_ble_eq_true rfl⟩) 0 (ci := 2) rfl rfl rfl (c_X2_longestWaitOf l D cy qfo qro qra qvc qos qli fo ro ra vc os li p1 r_18 hc_17) rfl hl.1 (Nat.le_of_ble_eq_true rfl) ⟨Nat.le_refl _, Nat.le_refl _⟩ dX11_line_93 ?_
      exact e_ROi hx hb hr hk dX11_line_96 (Option.some.inj hp)
    have hp := ite_n hp c_16
    by_cases c_19 : p2 = 5
    · have hp := ite_p hp c_19
      refine r_tab (tgt := 97) (off := 87) 5 hx hb dX11_line_10 c_19 (by decide) (by decide) ?_
      refine lv_aload_n hx hb dX11_line_97 rfl (lv_at hl 0 rfl) ?_
      refine gf_X11_57 hx hb hts hown hK hP 0 rfl rfl dX11_line_98 ?_
      refine gf_X11_194 hx hb hts hown hK hP 20 rfl rfl dX11_line_101 ?_
      refine lv_iload_n hx hb dX11_line_104 rfl (lv_at hl 1 rfl) ?_
      obtain ⟨r_21, hc_20, hp⟩ := bn1_s hp
      refine k_ROV (As := [.int p1]) (rest := []) ⟨hx, hb, hml, hown, hts⟩ hK (hP.sub (ws' := (w_Va cy qvc vc)) [31, 32, 33] rfl) (cw_X11_309 hts ⟨Nat.le_of_ble_eq_true rfl, Nat.le_of_ble_eq_true rfl⟩) 0 (ci := 10) rfl rfl rfl (c_X10_keptBy l D cy qvc vc p1 r_21 hc_20) rfl hl.1 (Nat.le_of_ble_eq_true rfl) ⟨Nat.le_refl _, Nat.le_refl _⟩ dX11_line_105 ?_
      exact e_ROi hx hb hr hk dX11_line_108 (Option.some.inj hp)
    have hp := ite_n hp c_19
    by_cases c_22 : p2 = 6
    · have hp := ite_p hp c_22
      refine r_tab (tgt := 109) (off := 99) 6 hx hb dX11_line_10 c_22 (by decide) (by decide) ?_
      refine lv_aload_n hx hb dX11_line_109 rfl (lv_at hl 0 rfl) ?_
      refine gf_X11_57 hx hb hts hown hK hP 0 rfl rfl dX11_line_110 ?_
      refine lv_iload_n hx hb dX11_line_113 rfl (lv_at hl 1 rfl) ?_
      obtain ⟨r_24, hc_23, hp⟩ := bn1_s hp
      refine k_ROV (As := [.int p1]) (rest := []) ⟨hx, hb, hml, hown, hts⟩ hK (hP.sub (ws' := (w_Fi cy qfo qro qra qvc qos qli fo ro ra vc os li)) [20, 21, 22, 23, 24, 25, 26, 27, 28, 29, 30, 31, 32, 33, 34, 35, 36, 37, 38, 39, 40, 41, 42] rfl) (cw_X11_312 hts ⟨Nat.le_of_ble_eq_true rfl, Nat.le_of_ble_eq_true rfl⟩) 0 (ci := 2) rfl rfl rfl (c_X2_aloftOf l D cy qfo qro qra qvc qos qli fo ro ra vc os li p1 r_24 hc_23) rfl hl.1 (Nat.le_of_ble_eq_true rfl) ⟨Nat.le_refl _, Nat.le_refl _⟩ dX11_line_114 ?_
      exact e_ROi hx hb hr hk dX11_line_117 (Option.some.inj hp)
    have hp := ite_n hp c_22
    refine lv_tableOut (tgt := 118) hx hb dX11_line_10 (by have zc_4 : (p2).toInt ≠ 0 := ne_toInt c_4; have zc_7 : (p2).toInt ≠ 1 := ne_toInt c_7; have zc_10 : (p2).toInt ≠ 2 := ne_toInt c_10; have zc_13 : (p2).toInt ≠ 3 := ne_toInt c_13; have zc_16 : (p2).toInt ≠ 4 := ne_toInt c_16; have zc_19 : (p2).toInt ≠ 5 := ne_toInt c_19; have zc_22 : (p2).toInt ≠ 6 := ne_toInt c_22; omega) (by decide) ?_
    refine lv_iconst (v := (-1)) hx hb dX11_line_118 (by decide) ?_
    exact e_ROi hx hb hr hk dX11_line_119 (Option.some.inj hp)
  · have hp := ite_p hp c_3
    refine lv_iconst (v := (-1)) hx hb dX11_line_7 (by decide) ?_
    exact e_ROi hx hb hr hk dX11_line_8 (Option.some.inj hp)
/-! StormSlots.bestOrder(II)I -/
def St_bestOrder_b25 (fo : Mem) (ro : Mem) (p1 : Int32) (p2 : Int32) (se : Mem) : Option (Int32 × Mem) :=
  if p2 = (-1) then bn1 (Se_solve se fo ro p1) (fun se_22 => bn1 (Fi_lineCost fo ro p1) (fun r_24 => bn1 (Se_gain se_22) (fun r_26 => some ((r_24 - r_26), se_22)))) else bn1 (Fi_isSeated fo p2) (fun r_10 => if r_10 = 0 then some ((-2), se) else bn1 (Fi_isOf ro p2 p1) (fun r_13 => if r_13 = 0 then some ((-2), se) else bn1 (Se_solve se fo ro p1) (fun se_16 => bn1 (Se_minuteFor se_16 p2) (fun r_18 => if r_18 = (-1) then ckI p2 20 (some ((fo 5 p2.toNatClampNeg), se_16)) else some (r_18, se_16)))))
def St_bestOrder (se : Mem) (fo : Mem) (ro : Mem) (p1 : Int32) (p2 : Int32) : Option (Int32 × Mem) :=
  bn1 (St_isLine p1) (fun r_2 => if r_2 = 0 then some ((-1), se) else if p2 = (-1) then St_bestOrder_b25 fo ro p1 p2 se else bn1 (Fi_isFlight ro p2) (fun r_6 => if r_6 = 0 then some ((-1), se) else St_bestOrder_b25 fo ro p1 p2 se))
set_option maxHeartbeats 4000000 in
set_option maxRecDepth 100000 in
theorem St_bestOrder_b25_w (C0 : cX RX11 cX11_bestOrder (some .int) 4 p s m args meth c) (hK : kN D cy s) {qsm qbsa qbsb qrd qdi qrof qpn qse qfo qro qra qvc qos qli qfot qrot qrat qvct qost qlit : Nat → Nat} {sm bsa bsb rd di rof pn fo ro ra vc os li fot rot rat vct ost lit : Mem} {p1 p2 : Int32} {r : Int32} {se' : Mem} (hA : ∀ q, s.heap.size ≤ q → A q) {se : Mem} {H : Heap} {locs : List Loc} (hP : va_P D vwCl (w_All cy qsm qbsa qbsb qrd qdi qrof qpn qse qfo qro qra qvc qos qli qfot qrot qrat qvct qost qlit sm bsa bsb rd di rof pn se fo ro ra vc os li fot rot rat vct ost lit) H) (hD : va_D A (w_All cy qsm qbsa qbsb qrd qdi qrof qpn qse qfo qro qra qvc qos qli qfot qrot qrat qvct qost qlit sm bsa bsb rd di rof pn se fo ro ra vc os li fot rot rat vct ost lit)) (hS : va_S A s.heap H locs) {ls : Array Slot} (hl : lv_has ls 4 [(0, .ref (qsm 0)), (1, .int p1), (2, .int p2)]) (hp : St_bestOrder_b25 fo ro p1 p2 se = some (r, se')) : W p l e (rmD 14) s m args below meth c H locs 0 0 (qRI D below args s A (w_All cy qsm qbsa qbsb qrd qdi qrof qpn qse qfo qro qra qvc qos qli qfot qrot qrat qvct qost qlit sm bsa bsb rd di rof pn se' fo ro ra vc os li fot rot rat vct ost lit) r) (F0 m 25 ls []) := by
  obtain ⟨hx, hb, hr, hml, hown, hts, hk⟩ := id C0
  unfold St_bestOrder_b25 at hp
  refine lv_iload_n hx hb dX11_bestOrder_25 rfl (lv_at hl 2 rfl) ?_
  refine lv_iconst (v := (-1)) hx hb dX11_bestOrder_26 (by decide) ?_
  refine lv_icmp_ne (tgt := 59) hx hb dX11_bestOrder_27 (by decide) (fun c_8 => ?_) (fun c_8 => ?_)
  · have hp := ite_n hp c_8
    refine lv_aload_n hx hb dX11_bestOrder_59 rfl (lv_at hl 0 rfl) ?_
    refine gf_X11_57 hx hb hts hown hK hP 0 rfl rfl dX11_bestOrder_60 ?_
    refine lv_iload_n hx hb dX11_bestOrder_63 rfl (lv_at hl 2 rfl) ?_
    obtain ⟨r_10, hc_9, hp⟩ := bn1_s hp
    refine k_ROV (As := [.int p2]) (rest := []) ⟨hx, hb, hml, hown, hts⟩ hK (hP.sub (ws' := (w_Fi cy qfo qro qra qvc qos qli fo ro ra vc os li)) [20, 21, 22, 23, 24, 25, 26, 27, 28, 29, 30, 31, 32, 33, 34, 35, 36, 37, 38, 39, 40, 41, 42] rfl) (cw_X11_164 hts ⟨Nat.le_of_ble_eq_true rfl, Nat.le_of_ble_eq_true rfl⟩) 0 (ci := 2) rfl rfl rfl (c_X2_isSeated l D cy qfo qro qra qvc qos qli fo ro ra vc os li p2 r_10 hc_9) rfl hl.1 (Nat.le_of_ble_eq_true rfl) ⟨Nat.le_refl _, Nat.le_refl _⟩ dX11_bestOrder_64 ?_
    refine lv_if_eq (tgt := 82) hx hb dX11_bestOrder_67 (by decide) (fun c_11 => ?_) (fun c_11 => ?_)
    · have hp := ite_p hp c_11
      refine lv_bipush (v := (-2)) hx hb dX11_bestOrder_82 (by decide) ?_
      simp only [Option.some.injEq, Prod.mk.injEq] at hp
      obtain ⟨h0, rfl⟩ := hp
      exact e_RIi hx hb hr hk hP hD hS dX11_bestOrder_84 h0
    · have hp := ite_n hp c_11
      refine lv_aload_n hx hb dX11_bestOrder_70 rfl (lv_at hl 0 rfl) ?_
      refine gf_X11_57 hx hb hts hown hK hP 0 rfl rfl dX11_bestOrder_71 ?_
      refine lv_iload_n hx hb dX11_bestOrder_74 rfl (lv_at hl 2 rfl) ?_
      refine lv_iload_n hx hb dX11_bestOrder_75 rfl (lv_at hl 1 rfl) ?_
      obtain ⟨r_13, hc_12, hp⟩ := bn1_s hp
      refine k_ROV (As := [.int p2, .int p1]) (rest := []) ⟨hx, hb, hml, hown, hts⟩ hK (hP.sub (ws' := (w_Fi cy qfo qro qra qvc qos qli fo ro ra vc os li)) [20, 21, 22, 23, 24, 25, 26, 27, 28, 29, 30, 31, 32, 33, 34, 35, 36, 37, 38, 39, 40, 41, 42] rfl) (cw_X11_238 hts ⟨Nat.le_of_ble_eq_true rfl, Nat.le_of_ble_eq_true rfl⟩) 0 (ci := 2) rfl rfl rfl (c_X2_isOf l D cy qfo qro qra qvc qos qli fo ro ra vc os li p2 p1 r_13 hc_12) rfl hl.1 (Nat.le_of_ble_eq_true rfl) ⟨Nat.le_refl _, Nat.le_refl _⟩ dX11_bestOrder_76 ?_
      refine lv_if_ne (tgt := 85) hx hb dX11_bestOrder_79 (by decide) (fun c_14 => ?_) (fun c_14 => ?_)
      · have hp := ite_n hp c_14
        refine lv_aload_n hx hb dX11_bestOrder_85 rfl (lv_at hl 0 rfl) ?_
        refine gf_X11_50 hx hb hts hown hK hP 0 rfl rfl dX11_bestOrder_86 ?_
        refine lv_aload_n hx hb dX11_bestOrder_89 rfl (lv_at hl 0 rfl) ?_
        refine gf_X11_57 hx hb hts hown hK hP 0 rfl rfl dX11_bestOrder_90 ?_
        refine lv_iload_n hx hb dX11_bestOrder_93 rfl (lv_at hl 1 rfl) ?_
        obtain ⟨se_16, hc_15, hp⟩ := bn1_s hp
        refine k_RVV (As := [.ref (qfo 0), .int p1]) (rest := []) ⟨hx, hb, hml, hown, hts⟩ hK hP hD hS hA (FrS_set (ws := (w_All cy qsm qbsa qbsb qrd qdi qrof qpn qse qfo qro qra qvc qos qli qfot qrot qrat qvct qost qlit sm bsa bsb rd di rof pn se fo ro ra vc os li fot rot rat vct ost lit)) (wc := (w_SeFi cy qse qfo qro qra qvc qos qli se fo ro ra vc os li)) (w1 := (w_SeFi cy qse qfo qro qra qvc qos qli se_16 fo ro ra vc os li)) (wn := (w_All cy qsm qbsa qbsb qrd qdi qrof qpn qse qfo qro qra qvc qos qli qfot qrot qrat qvct qost qlit sm bsa bsb rd di rof pn se_16 fo ro ra vc os li fot rot rat vct ost lit)) [15, 16, 17, 18, 19, 20, 21, 22, 23, 24, 25, 26, 27, 28, 29, 30, 31, 32, 33, 34, 35, 36, 37, 38, 39, 40, 41, 42] [none, none, none, none, none, none, none, none, none, none, none, none, none, none, none, some 0, some 1, some 2, some 3, some 4, some 5, some 6, some 7, some 8, some 9, some 10, some 11, some 12, some 13, some 14, some 15, some 16, some 17, some 18, some 19, some 20, some 21, some 22, some 23, some 24, some 25, some 26, some 27, none, none, none, none, none, none, none, none, none, none, none, none, none, none, none, none, none, none, none, none, none, none, none] (by decide +kernel) rfl rfl rfl) (cw_X11_315 hts ⟨Nat.le_of_ble_eq_true rfl, Nat.le_of_ble_eq_true rfl⟩) 0 (ci := 5) rfl rfl rfl (c_X5_solve l D cy qse qfo qro qra qvc qos qli se fo ro ra vc os li p1 se_16 hc_15) rfl hl.1 (Nat.le_of_ble_eq_true rfl) ⟨Nat.le_refl _, Nat.le_refl _⟩ dX11_bestOrder_94 (fun H locs hP hD hS => ?_)
        refine lv_aload_n hx hb dX11_bestOrder_97 rfl (lv_at hl 0 rfl) ?_
        refine gf_X11_50 hx hb hts hown hK hP 0 rfl rfl dX11_bestOrder_98 ?_
        refine lv_iload_n hx hb dX11_bestOrder_101 rfl (lv_at hl 2 rfl) ?_
        obtain ⟨r_18, hc_17, hp⟩ := bn1_s hp
        refine k_ROV (As := [.int p2]) (rest := []) ⟨hx, hb, hml, hown, hts⟩ hK (hP.sub (ws' := (w_Se cy qse se_16)) [15, 16, 17, 18, 19] rfl) (cw_X11_321 hts ⟨Nat.le_of_ble_eq_true rfl, Nat.le_of_ble_eq_true rfl⟩) 0 (ci := 5) rfl rfl rfl (c_X5_minuteFor l D cy qse se_16 p2 r_18 hc_17) rfl hl.1 (Nat.le_of_ble_eq_true rfl) ⟨Nat.le_refl _, Nat.le_refl _⟩ dX11_bestOrder_102 ?_
        refine lv_istore_n (lv' := [(3, .int r_18), (0, .ref (qsm 0)), (1, .int p1), (2, .int p2)]) hx hb dX11_bestOrder_105 rfl hl (by decide) rfl (fun ls hl => ?_)
        refine lv_iload_n hx hb dX11_bestOrder_106 rfl (lv_at hl 0 rfl) ?_
        refine lv_iconst (v := (-1)) hx hb dX11_bestOrder_107 (by decide) ?_
        refine lv_icmp_ne (tgt := 123) hx hb dX11_bestOrder_108 (by decide) (fun c_19 => ?_) (fun c_19 => ?_)
        · have hp := ite_n hp c_19
          refine lv_iload_n hx hb dX11_bestOrder_123 rfl (lv_at hl 0 rfl) ?_
          simp only [Option.some.injEq, Prod.mk.injEq] at hp
          obtain ⟨h0, rfl⟩ := hp
          exact e_RIi hx hb hr hk hP hD hS dX11_bestOrder_124 h0
        · have hp := ite_p hp c_19
          refine lv_aload_n hx hb dX11_bestOrder_111 rfl (lv_at hl 1 rfl) ?_
          refine gf_X11_57 hx hb hts hown hK hP 0 rfl rfl dX11_bestOrder_112 ?_
          refine gf_X11_167 hx hb hts hown hK hP 20 rfl rfl dX11_bestOrder_115 ?_
          refine lv_iload_n hx hb dX11_bestOrder_118 rfl (lv_at hl 3 rfl) ?_
          obtain ⟨hi_20, hp⟩ := ckI_s hp
          refine r_ild hx hb hK hP 21 rfl hi_20 dX11_bestOrder_119 ?_
          refine lv_goto (tgt := 124) hx hb dX11_bestOrder_120 (by decide) ?_
          simp only [Option.some.injEq, Prod.mk.injEq] at hp
          obtain ⟨h0, rfl⟩ := hp
          exact e_RIi hx hb hr hk hP hD hS dX11_bestOrder_124 h0
      · have hp := ite_p hp c_14
        refine lv_bipush (v := (-2)) hx hb dX11_bestOrder_82 (by decide) ?_
        simp only [Option.some.injEq, Prod.mk.injEq] at hp
        obtain ⟨h0, rfl⟩ := hp
        exact e_RIi hx hb hr hk hP hD hS dX11_bestOrder_84 h0
  · have hp := ite_p hp c_8
    refine lv_aload_n hx hb dX11_bestOrder_30 rfl (lv_at hl 0 rfl) ?_
    refine gf_X11_50 hx hb hts hown hK hP 0 rfl rfl dX11_bestOrder_31 ?_
    refine lv_aload_n hx hb dX11_bestOrder_34 rfl (lv_at hl 0 rfl) ?_
    refine gf_X11_57 hx hb hts hown hK hP 0 rfl rfl dX11_bestOrder_35 ?_
    refine lv_iload_n hx hb dX11_bestOrder_38 rfl (lv_at hl 1 rfl) ?_
    obtain ⟨se_22, hc_21, hp⟩ := bn1_s hp
    refine k_RVV (As := [.ref (qfo 0), .int p1]) (rest := []) ⟨hx, hb, hml, hown, hts⟩ hK hP hD hS hA (FrS_set (ws := (w_All cy qsm qbsa qbsb qrd qdi qrof qpn qse qfo qro qra qvc qos qli qfot qrot qrat qvct qost qlit sm bsa bsb rd di rof pn se fo ro ra vc os li fot rot rat vct ost lit)) (wc := (w_SeFi cy qse qfo qro qra qvc qos qli se fo ro ra vc os li)) (w1 := (w_SeFi cy qse qfo qro qra qvc qos qli se_22 fo ro ra vc os li)) (wn := (w_All cy qsm qbsa qbsb qrd qdi qrof qpn qse qfo qro qra qvc qos qli qfot qrot qrat qvct qost qlit sm bsa bsb rd di rof pn se_22 fo ro ra vc os li fot rot rat vct ost lit)) [15, 16, 17, 18, 19, 20, 21, 22, 23, 24, 25, 26, 27, 28, 29, 30, 31, 32, 33, 34, 35, 36, 37, 38, 39, 40, 41, 42] [none, none, none, none, none, none, none, none, none, none, none, none, none, none, none, some 0, some 1, some 2, some 3, some 4, some 5, some 6, some 7, some 8, some 9, some 10, some 11, some 12, some 13, some 14, some 15, some 16, some 17, some 18, some 19, some 20, some 21, some 22, some 23, some 24, some 25, some 26, some 27, none, none, none, none, none, none, none, none, none, none, none, none, none, none, none, none, none, none, none, none, none, none, none] (by decide +kernel) rfl rfl rfl) (cw_X11_315 hts ⟨Nat.le_of_ble_eq_true rfl, Nat.le_of_ble_eq_true rfl⟩) 0 (ci := 5) rfl rfl rfl (c_X5_solve l D cy qse qfo qro qra qvc qos qli se fo ro ra vc os li p1 se_22 hc_21) rfl hl.1 (Nat.le_of_ble_eq_true rfl) ⟨Nat.le_refl _, Nat.le_refl _⟩ dX11_bestOrder_39 (fun H locs hP hD hS => ?_)
    refine lv_aload_n hx hb dX11_bestOrder_42 rfl (lv_at hl 0 rfl) ?_
    refine gf_X11_57 hx hb hts hown hK hP 0 rfl rfl dX11_bestOrder_43 ?_
    refine lv_iload_n hx hb dX11_bestOrder_46 rfl (lv_at hl 1 rfl) ?_
    obtain ⟨r_24, hc_23, hp⟩ := bn1_s hp
    refine k_ROV (As := [.int p1]) (rest := []) ⟨hx, hb, hml, hown, hts⟩ hK (hP.sub (ws' := (w_Fi cy qfo qro qra qvc qos qli fo ro ra vc os li)) [20, 21, 22, 23, 24, 25, 26, 27, 28, 29, 30, 31, 32, 33, 34, 35, 36, 37, 38, 39, 40, 41, 42] rfl) (cw_X11_303 hts ⟨Nat.le_of_ble_eq_true rfl, Nat.le_of_ble_eq_true rfl⟩) 0 (ci := 2) rfl rfl rfl (c_X2_lineCost l D cy qfo qro qra qvc qos qli fo ro ra vc os li p1 r_24 hc_23) rfl hl.1 (Nat.le_of_ble_eq_true rfl) ⟨Nat.le_refl _, Nat.le_refl _⟩ dX11_bestOrder_47 ?_
    refine lv_aload_n hx hb dX11_bestOrder_50 rfl (lv_at hl 0 rfl) ?_
    refine gf_X11_50 hx hb hts hown hK hP 0 rfl rfl dX11_bestOrder_51 ?_
    obtain ⟨r_26, hc_25, hp⟩ := bn1_s hp
    refine k_ROV (As := []) (rest := [.int r_24]) ⟨hx, hb, hml, hown, hts⟩ hK (hP.sub (ws' := (w_Se cy qse se_22)) [15, 16, 17, 18, 19] rfl) (cw_X11_318 hts ⟨Nat.le_of_ble_eq_true rfl, Nat.le_of_ble_eq_true rfl⟩) 0 (ci := 5) rfl rfl rfl (c_X5_gain l D cy qse se_22 r_26 hc_25) rfl hl.1 (Nat.le_of_ble_eq_true rfl) ⟨Nat.le_refl _, Nat.le_refl _⟩ dX11_bestOrder_54 ?_
    refine lv_isub hx hb dX11_bestOrder_57 ?_
    simp only [Option.some.injEq, Prod.mk.injEq] at hp
    obtain ⟨h0, rfl⟩ := hp
    exact e_RIi hx hb hr hk hP hD hS dX11_bestOrder_58 h0
set_option maxHeartbeats 4000000 in
set_option maxRecDepth 100000 in
theorem c_X11_bestOrder (l : Launch) (D : va_G) (cy : Nat → ClassId) (qsm qbsa qbsb qrd qdi qrof qpn qse qfo qro qra qvc qos qli qfot qrot qrat qvct qost qlit : Nat → Nat) (sm bsa bsb rd di rof pn se fo ro ra vc os li fot rot rat vct ost lit : Mem) (p1 p2 : Int32) (r : Int32) (se' : Mem) (hp : St_bestOrder se fo ro p1 p2 = some (r, se')) : RI l yX11_bestOrder cX11_bestOrder 4 (some .int) 14 D cy [.ref (qsm 0), .int p1, .int p2] (w_All cy qsm qbsa qbsb qrd qdi qrof qpn qse qfo qro qra qvc qos qli qfot qrot qrat qvct qost qlit sm bsa bsb rd di rof pn se fo ro ra vc os li fot rot rat vct ost lit) (w_All cy qsm qbsa qbsb qrd qdi qrof qpn qse qfo qro qra qvc qos qli qfot qrot qrat qvct qost qlit sm bsa bsb rd di rof pn se' fo ro ra vc os li fot rot rat vct ost lit) r := by
  refine RI_of RX11 rfl (by decide) (Nat.le_of_ble_eq_true rfl) ?_
  intro p e s m below meth c A C0 hK hP hD hS hA ls hl
  obtain ⟨hx, hb, hr, hml, hown, hts, hk⟩ := id C0
  unfold St_bestOrder at hp
  have hl : lv_has ls 4 [(0, .ref (qsm 0)), (1, .int p1), (2, .int p2)] := hl
  refine lv_iload_n hx hb dX11_bestOrder_0 rfl (lv_at hl 1 rfl) ?_
  obtain ⟨r_2, hc_1, hp⟩ := bn1_s hp
  refine k_ROS (As := [.int p1]) (rest := []) ⟨hx, hb, hml, hown, hts⟩ hK (show va_P D vwCl [] _ from fun k q h => by simp at h) (cw_X11_91 hts ⟨Nat.le_of_ble_eq_true rfl, Nat.le_of_ble_eq_true rfl⟩) (c_X11_isLine l D cy p1 r_2 hc_1) rfl hl.1 (Nat.le_of_ble_eq_true rfl) ⟨Nat.le_refl _, Nat.le_refl _⟩ dX11_bestOrder_1 ?_
  refine lv_if_eq (tgt := 23) hx hb dX11_bestOrder_4 (by decide) (fun c_3 => ?_) (fun c_3 => ?_)
  · have hp := ite_p hp c_3
    refine lv_iconst (v := (-1)) hx hb dX11_bestOrder_23 (by decide) ?_
    simp only [Option.some.injEq, Prod.mk.injEq] at hp
    obtain ⟨h0, rfl⟩ := hp
    exact e_RIi hx hb hr hk hP hD hS dX11_bestOrder_24 h0
  · have hp := ite_n hp c_3
    refine lv_iload_n hx hb dX11_bestOrder_7 rfl (lv_at hl 2 rfl) ?_
    refine lv_iconst (v := (-1)) hx hb dX11_bestOrder_8 (by decide) ?_
    refine lv_icmp_eq (tgt := 25) hx hb dX11_bestOrder_9 (by decide) (fun c_4 => ?_) (fun c_4 => ?_)
    · have hp := ite_p hp c_4
      exact St_bestOrder_b25_w C0 hK hA  hP hD hS hl hp
    · have hp := ite_n hp c_4
      refine lv_aload_n hx hb dX11_bestOrder_12 rfl (lv_at hl 0 rfl) ?_
      refine gf_X11_57 hx hb hts hown hK hP 0 rfl rfl dX11_bestOrder_13 ?_
      refine lv_iload_n hx hb dX11_bestOrder_16 rfl (lv_at hl 2 rfl) ?_
      obtain ⟨r_6, hc_5, hp⟩ := bn1_s hp
      refine k_ROV (As := [.int p2]) (rest := []) ⟨hx, hb, hml, hown, hts⟩ hK (hP.sub (ws' := (w_Fi cy qfo qro qra qvc qos qli fo ro ra vc os li)) [20, 21, 22, 23, 24, 25, 26, 27, 28, 29, 30, 31, 32, 33, 34, 35, 36, 37, 38, 39, 40, 41, 42] rfl) (cw_X11_145 hts ⟨Nat.le_of_ble_eq_true rfl, Nat.le_of_ble_eq_true rfl⟩) 0 (ci := 2) rfl rfl rfl (c_X2_isFlight l D cy qfo qro qra qvc qos qli fo ro ra vc os li p2 r_6 hc_5) rfl hl.1 (Nat.le_of_ble_eq_true rfl) ⟨Nat.le_refl _, Nat.le_refl _⟩ dX11_bestOrder_17 ?_
      refine lv_if_ne (tgt := 25) hx hb dX11_bestOrder_20 (by decide) (fun c_7 => ?_) (fun c_7 => ?_)
      · have hp := ite_n hp c_7
        exact St_bestOrder_b25_w C0 hK hA  hP hD hS hl hp
      · have hp := ite_p hp c_7
        refine lv_iconst (v := (-1)) hx hb dX11_bestOrder_23 (by decide) ?_
        simp only [Option.some.injEq, Prod.mk.injEq] at hp
        obtain ⟨h0, rfl⟩ := hp
        exact e_RIi hx hb hr hk hP hD hS dX11_bestOrder_24 h0
/-! StormSlots.order(I)I -/
def St_order_b71 (ro : Mem) (p1 : Int32) (se : Mem) (fo : Mem) : Option (Int32 × Mem × Mem) :=
  bn1 (Se_gain se) (fun r_13 => some (r_13, se, fo))
def St_order_b23B (ro : Mem) (p1 : Int32) (k23 : Mem → Mem → Int32 → Option (Int32 × Mem × Mem)) (se : Mem) (fo : Mem) (x2 : Int32) : Option (Int32 × Mem × Mem) :=
  if (se 2 0) ≤ x2 then St_order_b71 ro p1 se fo else if 6 ≤ x2 then St_order_b71 ro p1 se fo else ckI x2 6 (bn1 (Fi_seatOnGround fo ro (se 0 x2.toNatClampNeg) (se 1 x2.toNatClampNeg)) (fun fo_10 => stk (x2 + 1) (fun x2_11 => k23 se fo_10 x2_11)))
def St_order_b23 (ro : Mem) (p1 : Int32) : Nat → Mem → Mem → Int32 → Option (Int32 × Mem × Mem)
  | 0 => fun _ _ _ => none
  | n + 1 => St_order_b23B ro p1 (St_order_b23 ro p1 n)
def St_order (se : Mem) (fo : Mem) (ro : Mem) (p1 : Int32) : Option (Int32 × Mem × Mem) :=
  bn1 (St_isLine p1) (fun r_2 => if r_2 = 0 then some ((-1), se, fo) else bn1 (Se_solve se fo ro p1) (fun se_5 => St_order_b23 ro p1 fl se_5 fo 0))
set_option maxHeartbeats 4000000 in
set_option maxRecDepth 100000 in
theorem St_order_b71_w (C0 : cX RX11 cX11_order (some .int) 3 p s m args meth c) (hK : kN D cy s) {qsm qbsa qbsb qrd qdi qrof qpn qse qfo qro qra qvc qos qli qfot qrot qrat qvct qost qlit : Nat → Nat} {sm bsa bsb rd di rof pn ro ra vc os li fot rot rat vct ost lit : Mem} {p1 : Int32} {r : Int32} {se' fo' : Mem} (hA : ∀ q, s.heap.size ≤ q → A q) {se : Mem} {fo : Mem} {H : Heap} {locs : List Loc} (hP : va_P D vwCl (w_All cy qsm qbsa qbsb qrd qdi qrof qpn qse qfo qro qra qvc qos qli qfot qrot qrat qvct qost qlit sm bsa bsb rd di rof pn se fo ro ra vc os li fot rot rat vct ost lit) H) (hD : va_D A (w_All cy qsm qbsa qbsb qrd qdi qrof qpn qse qfo qro qra qvc qos qli qfot qrot qrat qvct qost qlit sm bsa bsb rd di rof pn se fo ro ra vc os li fot rot rat vct ost lit)) (hS : va_S A s.heap H locs) {ls : Array Slot} (hl : lv_has ls 3 [(0, .ref (qsm 0)), (1, .int p1)]) (hp : St_order_b71 ro p1 se fo = some (r, se', fo')) : W p l e (rmD 14) s m args below meth c H locs 0 0 (qRI D below args s A (w_All cy qsm qbsa qbsb qrd qdi qrof qpn qse qfo qro qra qvc qos qli qfot qrot qrat qvct qost qlit sm bsa bsb rd di rof pn se' fo' ro ra vc os li fot rot rat vct ost lit) r) (F0 m 71 ls []) := by
  obtain ⟨hx, hb, hr, hml, hown, hts, hk⟩ := id C0
  unfold St_order_b71 at hp
  refine lv_aload_n hx hb dX11_order_71 rfl (lv_at hl 0 rfl) ?_
  refine gf_X11_50 hx hb hts hown hK hP 0 rfl rfl dX11_order_72 ?_
  obtain ⟨r_13, hc_12, hp⟩ := bn1_s hp
  refine k_ROV (As := []) (rest := []) ⟨hx, hb, hml, hown, hts⟩ hK (hP.sub (ws' := (w_Se cy qse se)) [15, 16, 17, 18, 19] rfl) (cw_X11_318 hts ⟨Nat.le_of_ble_eq_true rfl, Nat.le_of_ble_eq_true rfl⟩) 0 (ci := 5) rfl rfl rfl (c_X5_gain l D cy qse se r_13 hc_12) rfl hl.1 (Nat.le_of_ble_eq_true rfl) ⟨Nat.le_refl _, Nat.le_refl _⟩ dX11_order_75 ?_
  simp only [Option.some.injEq, Prod.mk.injEq] at hp
  obtain ⟨h0, rfl, rfl⟩ := hp
  exact e_RIi hx hb hr hk hP hD hS dX11_order_78 h0
set_option maxHeartbeats 4000000 in
set_option maxRecDepth 100000 in
theorem St_order_b23B_w (C0 : cX RX11 cX11_order (some .int) 3 p s m args meth c) (hK : kN D cy s) {qsm qbsa qbsb qrd qdi qrof qpn qse qfo qro qra qvc qos qli qfot qrot qrat qvct qost qlit : Nat → Nat} {sm bsa bsb rd di rof pn ro ra vc os li fot rot rat vct ost lit : Mem} {p1 : Int32} {r : Int32} {se' fo' : Mem} (hA : ∀ q, s.heap.size ≤ q → A q) {k23 : Mem → Mem → Int32 → Option (Int32 × Mem × Mem)} (hk23 : ∀ (se fo : Mem) (x2 : Int32) (H : Heap) (locs : List Loc) (ls : Array Slot), va_P D vwCl (w_All cy qsm qbsa qbsb qrd qdi qrof qpn qse qfo qro qra qvc qos qli qfot qrot qrat qvct qost qlit sm bsa bsb rd di rof pn se fo ro ra vc os li fot rot rat vct ost lit) H → va_D A (w_All cy qsm qbsa qbsb qrd qdi qrof qpn qse qfo qro qra qvc qos qli qfot qrot qrat qvct qost qlit sm bsa bsb rd di rof pn se fo ro ra vc os li fot rot rat vct ost lit) → va_S A s.heap H locs → lv_has ls 3 [(0, .ref (qsm 0)), (1, .int p1), (2, .int x2)] → k23 se fo x2 = some (r, se', fo') → W p l e (rmD 14) s m args below meth c H locs 0 0 (qRI D below args s A (w_All cy qsm qbsa qbsb qrd qdi qrof qpn qse qfo qro qra qvc qos qli qfot qrot qrat qvct qost qlit sm bsa bsb rd di rof pn se' fo' ro ra vc os li fot rot rat vct ost lit) r) (F0 m 23 ls [])) {se : Mem} {fo : Mem} {x2 : Int32} {H : Heap} {locs : List Loc} (hP : va_P D vwCl (w_All cy qsm qbsa qbsb qrd qdi qrof qpn qse qfo qro qra qvc qos qli qfot qrot qrat qvct qost qlit sm bsa bsb rd di rof pn se fo ro ra vc os li fot rot rat vct ost lit) H) (hD : va_D A (w_All cy qsm qbsa qbsb qrd qdi qrof qpn qse qfo qro qra qvc qos qli qfot qrot qrat qvct qost qlit sm bsa bsb rd di rof pn se fo ro ra vc os li fot rot rat vct ost lit)) (hS : va_S A s.heap H locs) {ls : Array Slot} (hl : lv_has ls 3 [(0, .ref (qsm 0)), (1, .int p1), (2, .int x2)]) (hp : St_order_b23B ro p1 k23 se fo x2 = some (r, se', fo')) : W p l e (rmD 14) s m args below meth c H locs 0 0 (qRI D below args s A (w_All cy qsm qbsa qbsb qrd qdi qrof qpn qse qfo qro qra qvc qos qli qfot qrot qrat qvct qost qlit sm bsa bsb rd di rof pn se' fo' ro ra vc os li fot rot rat vct ost lit) r) (F0 m 23 ls []) := by
  obtain ⟨hx, hb, hr, hml, hown, hts, hk⟩ := id C0
  unfold St_order_b23B at hp
  refine lv_iload_n hx hb dX11_order_23 rfl (lv_at hl 2 rfl) ?_
  refine lv_aload_n hx hb dX11_order_24 rfl (lv_at hl 0 rfl) ?_
  refine gf_X11_50 hx hb hts hown hK hP 0 rfl rfl dX11_order_25 ?_
  refine gf_X11_324 hx hb hts hown hK hP 15 rfl rfl dX11_order_28 ?_
  refine lv_icmp_ge (tgt := 71) hx hb dX11_order_31 (by decide) (fun c_6 => ?_) (fun c_6 => ?_)
  · have hp := ite_p hp c_6
    exact St_order_b71_w C0 hK hA  hP hD hS (lv_sub hl [0, 1] rfl) hp
  · have hp := ite_n hp c_6
    refine lv_iload_n hx hb dX11_order_34 rfl (lv_at hl 2 rfl) ?_
    refine lv_bipush (v := 6) hx hb dX11_order_35 (by decide) ?_
    refine lv_icmp_ge (tgt := 71) hx hb dX11_order_37 (by decide) (fun c_7 => ?_) (fun c_7 => ?_)
    · have hp := ite_p hp c_7
      exact St_order_b71_w C0 hK hA  hP hD hS (lv_sub hl [0, 1] rfl) hp
    · have hp := ite_n hp c_7
      refine lv_aload_n hx hb dX11_order_40 rfl (lv_at hl 0 rfl) ?_
      refine gf_X11_57 hx hb hts hown hK hP 0 rfl rfl dX11_order_41 ?_
      refine lv_aload_n hx hb dX11_order_44 rfl (lv_at hl 0 rfl) ?_
      refine gf_X11_50 hx hb hts hown hK hP 0 rfl rfl dX11_order_45 ?_
      refine gf_X11_325 hx hb hts hown hK hP 15 rfl rfl dX11_order_48 ?_
      refine lv_iload_n hx hb dX11_order_51 rfl (lv_at hl 2 rfl) ?_
      obtain ⟨hi_8, hp⟩ := ckI_s hp
      refine r_ild hx hb hK hP 16 rfl hi_8 dX11_order_52 ?_
      refine lv_aload_n hx hb dX11_order_53 rfl (lv_at hl 0 rfl) ?_
      refine gf_X11_50 hx hb hts hown hK hP 0 rfl rfl dX11_order_54 ?_
      refine gf_X11_328 hx hb hts hown hK hP 15 rfl rfl dX11_order_57 ?_
      refine lv_iload_n hx hb dX11_order_60 rfl (lv_at hl 2 rfl) ?_
      refine r_ild hx hb hK hP 17 rfl hi_8 dX11_order_61 ?_
      obtain ⟨fo_10, hc_9, hp⟩ := bn1_s hp
      refine k_RVV (As := [.int (se 0 x2.toNatClampNeg), .int (se 1 x2.toNatClampNeg)]) (rest := []) ⟨hx, hb, hml, hown, hts⟩ hK hP hD hS hA (FrS_set (ws := (w_All cy qsm qbsa qbsb qrd qdi qrof qpn qse qfo qro qra qvc qos qli qfot qrot qrat qvct qost qlit sm bsa bsb rd di rof pn se fo ro ra vc os li fot rot rat vct ost lit)) (wc := (w_Fi cy qfo qro qra qvc qos qli fo ro ra vc os li)) (w1 := (w_Fi cy qfo qro qra qvc qos qli fo_10 ro ra vc os li)) (wn := (w_All cy qsm qbsa qbsb qrd qdi qrof qpn qse qfo qro qra qvc qos qli qfot qrot qrat qvct qost qlit sm bsa bsb rd di rof pn se fo_10 ro ra vc os li fot rot rat vct ost lit)) [20, 21, 22, 23, 24, 25, 26, 27, 28, 29, 30, 31, 32, 33, 34, 35, 36, 37, 38, 39, 40, 41, 42] [none, none, none, none, none, none, none, none, none, none, none, none, none, none, none, none, none, none, none, none, some 0, some 1, some 2, some 3, some 4, some 5, some 6, some 7, some 8, some 9, some 10, some 11, some 12, some 13, some 14, some 15, some 16, some 17, some 18, some 19, some 20, some 21, some 22, none, none, none, none, none, none, none, none, none, none, none, none, none, none, none, none, none, none, none, none, none, none, none] (by decide +kernel) rfl rfl rfl) (cw_X11_331 hts ⟨Nat.le_of_ble_eq_true rfl, Nat.le_of_ble_eq_true rfl⟩) 0 (ci := 2) rfl rfl rfl (c_X2_seatOnGround l D cy qfo qro qra qvc qos qli fo ro ra vc os li (se 0 x2.toNatClampNeg) (se 1 x2.toNatClampNeg) fo_10 hc_9) rfl hl.1 (Nat.le_of_ble_eq_true rfl) ⟨Nat.le_refl _, Nat.le_refl _⟩ dX11_order_62 (fun H locs hP hD hS => ?_)
      obtain ⟨x2_11, ex2_11⟩ : ∃ y : Int32, y = x2 + 1 := ⟨_, rfl⟩
      have hp := stk_e hp ex2_11
      refine lv_iinc (v := x2_11) (lv' := [(2, .int x2_11), (0, .ref (qsm 0)), (1, .int p1)]) hx hb dX11_order_65 hl (k := 2) rfl (by rw [ex2_11]; rfl) (by decide) rfl (fun ls hl => ?_)
      refine lv_goto (tgt := 23) hx hb dX11_order_68 (by decide) ?_
      exact hk23 se fo_10 x2_11 _ _ _ hP hD hS (lv_sub hl [1, 2, 0] rfl) hp
theorem St_order_b23_w (C0 : cX RX11 cX11_order (some .int) 3 p s m args meth c) (hK : kN D cy s) {qsm qbsa qbsb qrd qdi qrof qpn qse qfo qro qra qvc qos qli qfot qrot qrat qvct qost qlit : Nat → Nat} {sm bsa bsb rd di rof pn ro ra vc os li fot rot rat vct ost lit : Mem} {p1 : Int32} {r : Int32} {se' fo' : Mem} (hA : ∀ q, s.heap.size ≤ q → A q) : ∀ (n : Nat) (se fo : Mem) (x2 : Int32) (H : Heap) (locs : List Loc) (ls : Array Slot), va_P D vwCl (w_All cy qsm qbsa qbsb qrd qdi qrof qpn qse qfo qro qra qvc qos qli qfot qrot qrat qvct qost qlit sm bsa bsb rd di rof pn se fo ro ra vc os li fot rot rat vct ost lit) H → va_D A (w_All cy qsm qbsa qbsb qrd qdi qrof qpn qse qfo qro qra qvc qos qli qfot qrot qrat qvct qost qlit sm bsa bsb rd di rof pn se fo ro ra vc os li fot rot rat vct ost lit) → va_S A s.heap H locs → lv_has ls 3 [(0, .ref (qsm 0)), (1, .int p1), (2, .int x2)] → St_order_b23 ro p1 n se fo x2 = some (r, se', fo') → W p l e (rmD 14) s m args below meth c H locs 0 0 (qRI D below args s A (w_All cy qsm qbsa qbsb qrd qdi qrof qpn qse qfo qro qra qvc qos qli qfot qrot qrat qvct qost qlit sm bsa bsb rd di rof pn se' fo' ro ra vc os li fot rot rat vct ost lit) r) (F0 m 23 ls []) := by
  intro n
  induction n with
  | zero =>
    intro se fo x2 H locs ls hP hD hS hl hp
    cases hp
  | succ n ih =>
    intro se fo x2 H locs ls hP hD hS hl hp
    exact St_order_b23B_w C0 hK hA  (fun se fo x2 H locs ls hP hD hS hl hp => ih se fo x2 H locs ls hP hD hS hl hp) hP hD hS hl hp
set_option maxHeartbeats 4000000 in
set_option maxRecDepth 100000 in
theorem c_X11_order (l : Launch) (D : va_G) (cy : Nat → ClassId) (qsm qbsa qbsb qrd qdi qrof qpn qse qfo qro qra qvc qos qli qfot qrot qrat qvct qost qlit : Nat → Nat) (sm bsa bsb rd di rof pn se fo ro ra vc os li fot rot rat vct ost lit : Mem) (p1 : Int32) (r : Int32) (se' fo' : Mem) (hp : St_order se fo ro p1 = some (r, se', fo')) : RI l yX11_order cX11_order 3 (some .int) 14 D cy [.ref (qsm 0), .int p1] (w_All cy qsm qbsa qbsb qrd qdi qrof qpn qse qfo qro qra qvc qos qli qfot qrot qrat qvct qost qlit sm bsa bsb rd di rof pn se fo ro ra vc os li fot rot rat vct ost lit) (w_All cy qsm qbsa qbsb qrd qdi qrof qpn qse qfo qro qra qvc qos qli qfot qrot qrat qvct qost qlit sm bsa bsb rd di rof pn se' fo' ro ra vc os li fot rot rat vct ost lit) r := by
  refine RI_of RX11 rfl (by decide) (Nat.le_of_ble_eq_true rfl) ?_
  intro p e s m below meth c A C0 hK hP hD hS hA ls hl
  obtain ⟨hx, hb, hr, hml, hown, hts, hk⟩ := id C0
  unfold St_order at hp
  have hl : lv_has ls 3 [(0, .ref (qsm 0)), (1, .int p1)] := hl
  refine lv_iload_n hx hb dX11_order_0 rfl (lv_at hl 1 rfl) ?_
  obtain ⟨r_2, hc_1, hp⟩ := bn1_s hp
  refine k_ROS (As := [.int p1]) (rest := []) ⟨hx, hb, hml, hown, hts⟩ hK (show va_P D vwCl [] _ from fun k q h => by simp at h) (cw_X11_91 hts ⟨Nat.le_of_ble_eq_true rfl, Nat.le_of_ble_eq_true rfl⟩) (c_X11_isLine l D cy p1 r_2 hc_1) rfl hl.1 (Nat.le_of_ble_eq_true rfl) ⟨Nat.le_refl _, Nat.le_refl _⟩ dX11_order_1 ?_
  refine lv_if_ne (tgt := 9) hx hb dX11_order_4 (by decide) (fun c_3 => ?_) (fun c_3 => ?_)
  · have hp := ite_n hp c_3
    refine lv_aload_n hx hb dX11_order_9 rfl (lv_at hl 0 rfl) ?_
    refine gf_X11_50 hx hb hts hown hK hP 0 rfl rfl dX11_order_10 ?_
    refine lv_aload_n hx hb dX11_order_13 rfl (lv_at hl 0 rfl) ?_
    refine gf_X11_57 hx hb hts hown hK hP 0 rfl rfl dX11_order_14 ?_
    refine lv_iload_n hx hb dX11_order_17 rfl (lv_at hl 1 rfl) ?_
    obtain ⟨se_5, hc_4, hp⟩ := bn1_s hp
    refine k_RVV (As := [.ref (qfo 0), .int p1]) (rest := []) ⟨hx, hb, hml, hown, hts⟩ hK hP hD hS hA (FrS_set (ws := (w_All cy qsm qbsa qbsb qrd qdi qrof qpn qse qfo qro qra qvc qos qli qfot qrot qrat qvct qost qlit sm bsa bsb rd di rof pn se fo ro ra vc os li fot rot rat vct ost lit)) (wc := (w_SeFi cy qse qfo qro qra qvc qos qli se fo ro ra vc os li)) (w1 := (w_SeFi cy qse qfo qro qra qvc qos qli se_5 fo ro ra vc os li)) (wn := (w_All cy qsm qbsa qbsb qrd qdi qrof qpn qse qfo qro qra qvc qos qli qfot qrot qrat qvct qost qlit sm bsa bsb rd di rof pn se_5 fo ro ra vc os li fot rot rat vct ost lit)) [15, 16, 17, 18, 19, 20, 21, 22, 23, 24, 25, 26, 27, 28, 29, 30, 31, 32, 33, 34, 35, 36, 37, 38, 39, 40, 41, 42] [none, none, none, none, none, none, none, none, none, none, none, none, none, none, none, some 0, some 1, some 2, some 3, some 4, some 5, some 6, some 7, some 8, some 9, some 10, some 11, some 12, some 13, some 14, some 15, some 16, some 17, some 18, some 19, some 20, some 21, some 22, some 23, some 24, some 25, some 26, some 27, none, none, none, none, none, none, none, none, none, none, none, none, none, none, none, none, none, none, none, none, none, none, none] (by decide +kernel) rfl rfl rfl) (cw_X11_315 hts ⟨Nat.le_of_ble_eq_true rfl, Nat.le_of_ble_eq_true rfl⟩) 0 (ci := 5) rfl rfl rfl (c_X5_solve l D cy qse qfo qro qra qvc qos qli se fo ro ra vc os li p1 se_5 hc_4) rfl hl.1 (Nat.le_of_ble_eq_true rfl) ⟨Nat.le_refl _, Nat.le_refl _⟩ dX11_order_18 (fun H locs hP hD hS => ?_)
    refine lv_iconst (v := 0) hx hb dX11_order_21 (by decide) ?_
    refine lv_istore_n (lv' := [(2, .int 0), (0, .ref (qsm 0)), (1, .int p1)]) hx hb dX11_order_22 rfl hl (by decide) rfl (fun ls hl => ?_)
    exact St_order_b23_w C0 hK hA  fl se_5 fo 0 _ _ _ hP hD hS (lv_sub hl [1, 2, 0] rfl) hp
  · have hp := ite_p hp c_3
    refine lv_iconst (v := (-1)) hx hb dX11_order_7 (by decide) ?_
    simp only [Option.some.injEq, Prod.mk.injEq] at hp
    obtain ⟨h0, rfl, rfl⟩ := hp
    exact e_RIi hx hb hr hk hP hD hS dX11_order_8 h0
/-! StormSlots.tryCancel(I)V -/
def St_tryCancel (fo : Mem) (ro : Mem) (ra : Mem) (vc : Mem) (os : Mem) (li : Mem) (fot : Mem) (rot : Mem) (rat : Mem) (vct : Mem) (ost : Mem) (lit : Mem) (p1 : Int32) : Option (Mem × Mem × Mem × Mem × Mem × Mem) :=
  bn6 (Fi_copyFrom fot rot rat vct ost lit fo ro ra vc os li) (fun fot_2 rot_3 rat_4 vct_5 ost_6 lit_7 => bn3 (Fi_callOff fot_2 rot_3 vct_5 p1) (fun r_9 fot_10 vct_11 => bn3 (Fi_fillVacancies fot_10 rot_3 vct_11) (fun r_13 fot_14 vct_15 => some (fot_14, rot_3, rat_4, vct_15, ost_6, lit_7))))
set_option maxHeartbeats 4000000 in
set_option maxRecDepth 100000 in
theorem c_X11_tryCancel (l : Launch) (D : va_G) (cy : Nat → ClassId) (qsm qbsa qbsb qrd qdi qrof qpn qse qfo qro qra qvc qos qli qfot qrot qrat qvct qost qlit : Nat → Nat) (sm bsa bsb rd di rof pn se fo ro ra vc os li fot rot rat vct ost lit : Mem) (p1 : Int32) (fot' rot' rat' vct' ost' lit' : Mem) (hp : St_tryCancel fo ro ra vc os li fot rot rat vct ost lit p1 = some (fot', rot', rat', vct', ost', lit')) : RV l yX11_tryCancel cX11_tryCancel 2 5 D cy [.ref (qsm 0), .int p1] (w_All cy qsm qbsa qbsb qrd qdi qrof qpn qse qfo qro qra qvc qos qli qfot qrot qrat qvct qost qlit sm bsa bsb rd di rof pn se fo ro ra vc os li fot rot rat vct ost lit) (w_All cy qsm qbsa qbsb qrd qdi qrof qpn qse qfo qro qra qvc qos qli qfot qrot qrat qvct qost qlit sm bsa bsb rd di rof pn se fo ro ra vc os li fot' rot' rat' vct' ost' lit') := by
  refine RV_of RX11 rfl (by decide) (Nat.le_of_ble_eq_true rfl) ?_
  intro p e s m below meth c A C0 hK hP hD hS hA ls hl
  obtain ⟨hx, hb, hr, hml, hown, hts, hk⟩ := id C0
  unfold St_tryCancel at hp
  have hl : lv_has ls 2 [(0, .ref (qsm 0)), (1, .int p1)] := hl
  refine lv_aload_n hx hb dX11_tryCancel_0 rfl (lv_at hl 0 rfl) ?_
  refine gf_X11_61 hx hb hts hown hK hP 0 rfl rfl dX11_tryCancel_1 ?_
  refine lv_aload_n hx hb dX11_tryCancel_4 rfl (lv_at hl 0 rfl) ?_
  refine gf_X11_57 hx hb hts hown hK hP 0 rfl rfl dX11_tryCancel_5 ?_
  obtain ⟨fot_2, rot_3, rat_4, vct_5, ost_6, lit_7, hc_1, hp⟩ := bn6_s hp
  refine k_RVV (As := [.ref (qfo 0)]) (rest := []) ⟨hx, hb, hml, hown, hts⟩ hK hP hD hS hA (FrS_set (ws := (w_All cy qsm qbsa qbsb qrd qdi qrof qpn qse qfo qro qra qvc qos qli qfot qrot qrat qvct qost qlit sm bsa bsb rd di rof pn se fo ro ra vc os li fot rot rat vct ost lit)) (wc := (w_FiFi cy qfot qrot qrat qvct qost qlit qfo qro qra qvc qos qli fot rot rat vct ost lit fo ro ra vc os li)) (w1 := (w_FiFi cy qfot qrot qrat qvct qost qlit qfo qro qra qvc qos qli fot_2 rot_3 rat_4 vct_5 ost_6 lit_7 fo ro ra vc os li)) (wn := (w_All cy qsm qbsa qbsb qrd qdi qrof qpn qse qfo qro qra qvc qos qli qfot qrot qrat qvct qost qlit sm bsa bsb rd di rof pn se fo ro ra vc os li fot_2 rot_3 rat_4 vct_5 ost_6 lit_7)) [43, 44, 45, 46, 47, 48, 49, 50, 51, 52, 53, 54, 55, 56, 57, 58, 59, 60, 61, 62, 63, 64, 65, 20, 21, 22, 23, 24, 25, 26, 27, 28, 29, 30, 31, 32, 33, 34, 35, 36, 37, 38, 39, 40, 41, 42] [none, none, none, none, none, none, none, none, none, none, none, none, none, none, none, none, none, none, none, none, some 23, some 24, some 25, some 26, some 27, some 28, some 29, some 30, some 31, some 32, some 33, some 34, some 35, some 36, some 37, some 38, some 39, some 40, some 41, some 42, some 43, some 44, some 45, some 0, some 1, some 2, some 3, some 4, some 5, some 6, some 7, some 8, some 9, some 10, some 11, some 12, some 13, some 14, some 15, some 16, some 17, some 18, some 19, some 20, some 21, some 22] (by decide +kernel) rfl rfl rfl) (cw_X11_371 hts ⟨Nat.le_of_ble_eq_true rfl, Nat.le_of_ble_eq_true rfl⟩) 0 (ci := 2) rfl rfl rfl (c_X2_copyFrom l D cy qfot qrot qrat qvct qost qlit qfo qro qra qvc qos qli fot rot rat vct ost lit fo ro ra vc os li fot_2 rot_3 rat_4 vct_5 ost_6 lit_7 hc_1) rfl hl.1 (Nat.le_of_ble_eq_true rfl) ⟨Nat.le_refl _, Nat.le_refl _⟩ dX11_tryCancel_8 (fun H locs hP hD hS => ?_)
  refine lv_aload_n hx hb dX11_tryCancel_11 rfl (lv_at hl 0 rfl) ?_
  refine gf_X11_61 hx hb hts hown hK hP 0 rfl rfl dX11_tryCancel_12 ?_
  refine lv_iload_n hx hb dX11_tryCancel_15 rfl (lv_at hl 1 rfl) ?_
  obtain ⟨r_9, fot_10, vct_11, hc_8, hp⟩ := bn3_s hp
  refine k_RIV (As := [.int p1]) (rest := []) ⟨hx, hb, hml, hown, hts⟩ hK hP hD hS hA (FrS_set (ws := (w_All cy qsm qbsa qbsb qrd qdi qrof qpn qse qfo qro qra qvc qos qli qfot qrot qrat qvct qost qlit sm bsa bsb rd di rof pn se fo ro ra vc os li fot_2 rot_3 rat_4 vct_5 ost_6 lit_7)) (wc := (w_Fi cy qfot qrot qrat qvct qost qlit fot_2 rot_3 rat_4 vct_5 ost_6 lit_7)) (w1 := (w_Fi cy qfot qrot qrat qvct qost qlit fot_10 rot_3 rat_4 vct_11 ost_6 lit_7)) (wn := (w_All cy qsm qbsa qbsb qrd qdi qrof qpn qse qfo qro qra qvc qos qli qfot qrot qrat qvct qost qlit sm bsa bsb rd di rof pn se fo ro ra vc os li fot_10 rot_3 rat_4 vct_11 ost_6 lit_7)) [43, 44, 45, 46, 47, 48, 49, 50, 51, 52, 53, 54, 55, 56, 57, 58, 59, 60, 61, 62, 63, 64, 65] [none, none, none, none, none, none, none, none, none, none, none, none, none, none, none, none, none, none, none, none, none, none, none, none, none, none, none, none, none, none, none, none, none, none, none, none, none, none, none, none, none, none, none, some 0, some 1, some 2, some 3, some 4, some 5, some 6, some 7, some 8, some 9, some 10, some 11, some 12, some 13, some 14, some 15, some 16, some 17, some 18, some 19, some 20, some 21, some 22] (by decide +kernel) rfl rfl rfl) (cw_X11_222 hts ⟨Nat.le_of_ble_eq_true rfl, Nat.le_of_ble_eq_true rfl⟩) 0 (ci := 2) rfl rfl rfl (c_X2_callOff l D cy qfot qrot qrat qvct qost qlit fot_2 rot_3 rat_4 vct_5 ost_6 lit_7 p1 r_9 fot_10 vct_11 hc_8) rfl hl.1 (Nat.le_of_ble_eq_true rfl) ⟨Nat.le_refl _, Nat.le_refl _⟩ dX11_tryCancel_16 (fun H locs hP hD hS => ?_)
  refine lv_pop hx hb dX11_tryCancel_19 rfl ?_
  refine lv_aload_n hx hb dX11_tryCancel_20 rfl (lv_at hl 0 rfl) ?_
  refine gf_X11_61 hx hb hts hown hK hP 0 rfl rfl dX11_tryCancel_21 ?_
  obtain ⟨r_13, fot_14, vct_15, hc_12, hp⟩ := bn3_s hp
  refine k_RIV (As := []) (rest := []) ⟨hx, hb, hml, hown, hts⟩ hK hP hD hS hA (FrS_set (ws := (w_All cy qsm qbsa qbsb qrd qdi qrof qpn qse qfo qro qra qvc qos qli qfot qrot qrat qvct qost qlit sm bsa bsb rd di rof pn se fo ro ra vc os li fot_10 rot_3 rat_4 vct_11 ost_6 lit_7)) (wc := (w_Fi cy qfot qrot qrat qvct qost qlit fot_10 rot_3 rat_4 vct_11 ost_6 lit_7)) (w1 := (w_Fi cy qfot qrot qrat qvct qost qlit fot_14 rot_3 rat_4 vct_15 ost_6 lit_7)) (wn := (w_All cy qsm qbsa qbsb qrd qdi qrof qpn qse qfo qro qra qvc qos qli qfot qrot qrat qvct qost qlit sm bsa bsb rd di rof pn se fo ro ra vc os li fot_14 rot_3 rat_4 vct_15 ost_6 lit_7)) [43, 44, 45, 46, 47, 48, 49, 50, 51, 52, 53, 54, 55, 56, 57, 58, 59, 60, 61, 62, 63, 64, 65] [none, none, none, none, none, none, none, none, none, none, none, none, none, none, none, none, none, none, none, none, none, none, none, none, none, none, none, none, none, none, none, none, none, none, none, none, none, none, none, none, none, none, none, some 0, some 1, some 2, some 3, some 4, some 5, some 6, some 7, some 8, some 9, some 10, some 11, some 12, some 13, some 14, some 15, some 16, some 17, some 18, some 19, some 20, some 21, some 22] (by decide +kernel) rfl rfl rfl) (cw_X11_245 hts ⟨Nat.le_of_ble_eq_true rfl, Nat.le_of_ble_eq_true rfl⟩) 0 (ci := 2) rfl rfl rfl (c_X2_fillVacancies l D cy qfot qrot qrat qvct qost qlit fot_10 rot_3 rat_4 vct_11 ost_6 lit_7 r_13 fot_14 vct_15 hc_12) rfl hl.1 (Nat.le_of_ble_eq_true rfl) ⟨Nat.le_refl _, Nat.le_refl _⟩ dX11_tryCancel_24 (fun H locs hP hD hS => ?_)
  refine lv_pop hx hb dX11_tryCancel_27 rfl ?_
  simp only [Option.some.injEq, Prod.mk.injEq] at hp
  obtain ⟨rfl, rfl, rfl, rfl, rfl, rfl⟩ := hp
  exact e_RV hx hb hr hk hP hD hS dX11_tryCancel_28
/-! StormSlots.bestCancel(II)I -/
def St_bestCancel_b26B (fo : Mem) (ro : Mem) (ra : Mem) (vc : Mem) (os : Mem) (li : Mem) (p1 : Int32) (p2 : Int32) (k26 : Mem → Mem → Mem → Mem → Mem → Mem → Int32 → Int32 → Int32 → Option (Int32 × Mem × Mem × Mem × Mem × Mem × Mem)) (fot : Mem) (rot : Mem) (rat : Mem) (vct : Mem) (ost : Mem) (lit : Mem) (x3 : Int32) (x4 : Int32) (x5 : Int32) : Option (Int32 × Mem × Mem × Mem × Mem × Mem × Mem) :=
  if 20 ≤ x5 then if x3 = (-1) then some ((-2), fot, rot, rat, vct, ost, lit) else if p2 = 0 then some (x3, fot, rot, rat, vct, ost, lit) else some (x4, fot, rot, rat, vct, ost, lit) else bn1 (Fi_isOf ro x5 p1) (fun r_10 => if r_10 = 0 then stk (x5 + 1) (fun x5_12 => k26 fot rot rat vct ost lit x3 x4 x5_12) else bn1 (Fi_isGrounded fo ro x5) (fun r_14 => if r_14 = 0 then stk (x5 + 1) (fun x5_30 => k26 fot rot rat vct ost lit x3 x4 x5_30) else bn6 (St_tryCancel fo ro ra vc os li fot rot rat vct ost lit x5) (fun fot_17 rot_18 rat_19 vct_20 ost_21 lit_22 => bn1 (Fi_lineCost fot_17 rot_18 p1) (fun r_24 => if x3 = (-1) then stk (x5 + 1) (fun x5_26 => k26 fot_17 rot_18 rat_19 vct_20 ost_21 lit_22 x5 r_24 x5_26) else if x4 ≤ r_24 then stk (x5 + 1) (fun x5_28 => k26 fot_17 rot_18 rat_19 vct_20 ost_21 lit_22 x3 x4 x5_28) else stk (x5 + 1) (fun x5_29 => k26 fot_17 rot_18 rat_19 vct_20 ost_21 lit_22 x5 r_24 x5_29)))))
def St_bestCancel_b26 (fo : Mem) (ro : Mem) (ra : Mem) (vc : Mem) (os : Mem) (li : Mem) (p1 : Int32) (p2 : Int32) : Nat → Mem → Mem → Mem → Mem → Mem → Mem → Int32 → Int32 → Int32 → Option (Int32 × Mem × Mem × Mem × Mem × Mem × Mem)
  | 0 => fun _ _ _ _ _ _ _ _ _ => none
  | n + 1 => St_bestCancel_b26B fo ro ra vc os li p1 p2 (St_bestCancel_b26 fo ro ra vc os li p1 p2 n)
def St_bestCancel (fo : Mem) (ro : Mem) (ra : Mem) (vc : Mem) (os : Mem) (li : Mem) (fot : Mem) (rot : Mem) (rat : Mem) (vct : Mem) (ost : Mem) (lit : Mem) (p1 : Int32) (p2 : Int32) : Option (Int32 × Mem × Mem × Mem × Mem × Mem × Mem) :=
  bn1 (St_isLine p1) (fun r_2 => if r_2 = 0 then some ((-1), fot, rot, rat, vct, ost, lit) else if p2 < 0 then some ((-1), fot, rot, rat, vct, ost, lit) else if p2 ≤ 1 then St_bestCancel_b26 fo ro ra vc os li p1 p2 fl fot rot rat vct ost lit (-1) 0 0 else some ((-1), fot, rot, rat, vct, ost, lit))
set_option maxHeartbeats 4000000 in
set_option maxRecDepth 100000 in
theorem St_bestCancel_b26B_w (C0 : cX RX11 cX11_bestCancel (some .int) 7 p s m args meth c) (hK : kN D cy s) {qsm qbsa qbsb qrd qdi qrof qpn qse qfo qro qra qvc qos qli qfot qrot qrat qvct qost qlit : Nat → Nat} {sm bsa bsb rd di rof pn se fo ro ra vc os li : Mem} {p1 p2 : Int32} {r : Int32} {fot' rot' rat' vct' ost' lit' : Mem} (hA : ∀ q, s.heap.size ≤ q → A q) {k26 : Mem → Mem → Mem → Mem → Mem → Mem → Int32 → Int32 → Int32 → Option (Int32 × Mem × Mem × Mem × Mem × Mem × Mem)} (hk26 : ∀ (fot rot rat vct ost lit : Mem) (x3 x4 x5 : Int32) (H : Heap) (locs : List Loc) (ls : Array Slot), va_P D vwCl (w_All cy qsm qbsa qbsb qrd qdi qrof qpn qse qfo qro qra qvc qos qli qfot qrot qrat qvct qost qlit sm bsa bsb rd di rof pn se fo ro ra vc os li fot rot rat vct ost lit) H → va_D A (w_All cy qsm qbsa qbsb qrd qdi qrof qpn qse qfo qro qra qvc qos qli qfot qrot qrat qvct qost qlit sm bsa bsb rd di rof pn se fo ro ra vc os li fot rot rat vct ost lit) → va_S A s.heap H locs → lv_has ls 7 [(0, .ref (qsm 0)), (1, .int p1), (2, .int p2), (3, .int x3), (4, .int x4), (5, .int x5)] → k26 fot rot rat vct ost lit x3 x4 x5 = some (r, fot', rot', rat', vct', ost', lit') → W p l e (rmD 6) s m args below meth c H locs 0 0 (qRI D below args s A (w_All cy qsm qbsa qbsb qrd qdi qrof qpn qse qfo qro qra qvc qos qli qfot qrot qrat qvct qost qlit sm bsa bsb rd di rof pn se fo ro ra vc os li fot' rot' rat' vct' ost' lit') r) (F0 m 26 ls [])) {fot : Mem} {rot : Mem} {rat : Mem} {vct : Mem} {ost : Mem} {lit : Mem} {x3 : Int32} {x4 : Int32} {x5 : Int32} {H : Heap} {locs : List Loc} (hP : va_P D vwCl (w_All cy qsm qbsa qbsb qrd qdi qrof qpn qse qfo qro qra qvc qos qli qfot qrot qrat qvct qost qlit sm bsa bsb rd di rof pn se fo ro ra vc os li fot rot rat vct ost lit) H) (hD : va_D A (w_All cy qsm qbsa qbsb qrd qdi qrof qpn qse qfo qro qra qvc qos qli qfot qrot qrat qvct qost qlit sm bsa bsb rd di rof pn se fo ro ra vc os li fot rot rat vct ost lit)) (hS : va_S A s.heap H locs) {ls : Array Slot} (hl : lv_has ls 7 [(0, .ref (qsm 0)), (1, .int p1), (2, .int p2), (3, .int x3), (4, .int x4), (5, .int x5)]) (hp : St_bestCancel_b26B fo ro ra vc os li p1 p2 k26 fot rot rat vct ost lit x3 x4 x5 = some (r, fot', rot', rat', vct', ost', lit')) : W p l e (rmD 6) s m args below meth c H locs 0 0 (qRI D below args s A (w_All cy qsm qbsa qbsb qrd qdi qrof qpn qse qfo qro qra qvc qos qli qfot qrot qrat qvct qost qlit sm bsa bsb rd di rof pn se fo ro ra vc os li fot' rot' rat' vct' ost' lit') r) (F0 m 26 ls []) := by
  obtain ⟨hx, hb, hr, hml, hown, hts, hk⟩ := id C0
  unfold St_bestCancel_b26B at hp
  refine lv_iload hx hb dX11_bestCancel_26 (lv_at hl 5 rfl) ?_
  refine lv_bipush (v := 20) hx hb dX11_bestCancel_28 (by decide) ?_
  refine lv_icmp_ge (tgt := 102) hx hb dX11_bestCancel_30 (by decide) (fun c_6 => ?_) (fun c_6 => ?_)
  · have hp := ite_p hp c_6
    refine lv_iload_n hx hb dX11_bestCancel_102 rfl (lv_at hl 3 rfl) ?_
    refine lv_iconst (v := (-1)) hx hb dX11_bestCancel_103 (by decide) ?_
    refine lv_icmp_ne (tgt := 110) hx hb dX11_bestCancel_104 (by decide) (fun c_7 => ?_) (fun c_7 => ?_)
    · have hp := ite_n hp c_7
      refine lv_iload_n hx hb dX11_bestCancel_110 rfl (lv_at hl 2 rfl) ?_
      refine lv_if_ne (tgt := 118) hx hb dX11_bestCancel_111 (by decide) (fun c_8 => ?_) (fun c_8 => ?_)
      · have hp := ite_n hp c_8
        refine lv_iload hx hb dX11_bestCancel_118 (lv_at hl 4 rfl) ?_
        simp only [Option.some.injEq, Prod.mk.injEq] at hp
        obtain ⟨h0, rfl, rfl, rfl, rfl, rfl, rfl⟩ := hp
        exact e_RIi hx hb hr hk hP hD hS dX11_bestCancel_120 h0
      · have hp := ite_p hp c_8
        refine lv_iload_n hx hb dX11_bestCancel_114 rfl (lv_at hl 3 rfl) ?_
        refine lv_goto (tgt := 120) hx hb dX11_bestCancel_115 (by decide) ?_
        simp only [Option.some.injEq, Prod.mk.injEq] at hp
        obtain ⟨h0, rfl, rfl, rfl, rfl, rfl, rfl⟩ := hp
        exact e_RIi hx hb hr hk hP hD hS dX11_bestCancel_120 h0
    · have hp := ite_p hp c_7
      refine lv_bipush (v := (-2)) hx hb dX11_bestCancel_107 (by decide) ?_
      simp only [Option.some.injEq, Prod.mk.injEq] at hp
      obtain ⟨h0, rfl, rfl, rfl, rfl, rfl, rfl⟩ := hp
      exact e_RIi hx hb hr hk hP hD hS dX11_bestCancel_109 h0
  · have hp := ite_n hp c_6
    refine lv_aload_n hx hb dX11_bestCancel_33 rfl (lv_at hl 0 rfl) ?_
    refine gf_X11_57 hx hb hts hown hK hP 0 rfl rfl dX11_bestCancel_34 ?_
    refine lv_iload hx hb dX11_bestCancel_37 (lv_at hl 5 rfl) ?_
    refine lv_iload_n hx hb dX11_bestCancel_39 rfl (lv_at hl 1 rfl) ?_
    obtain ⟨r_10, hc_9, hp⟩ := bn1_s hp
    refine k_ROV (As := [.int x5, .int p1]) (rest := []) ⟨hx, hb, hml, hown, hts⟩ hK (hP.sub (ws' := (w_Fi cy qfo qro qra qvc qos qli fo ro ra vc os li)) [20, 21, 22, 23, 24, 25, 26, 27, 28, 29, 30, 31, 32, 33, 34, 35, 36, 37, 38, 39, 40, 41, 42] rfl) (cw_X11_238 hts ⟨Nat.le_of_ble_eq_true rfl, Nat.le_of_ble_eq_true rfl⟩) 0 (ci := 2) rfl rfl rfl (c_X2_isOf l D cy qfo qro qra qvc qos qli fo ro ra vc os li x5 p1 r_10 hc_9) rfl hl.1 (Nat.le_of_ble_eq_true rfl) ⟨Nat.le_refl _, Nat.le_refl _⟩ dX11_bestCancel_40 ?_
    refine lv_if_eq (tgt := 96) hx hb dX11_bestCancel_43 (by decide) (fun c_11 => ?_) (fun c_11 => ?_)
    · have hp := ite_p hp c_11
      obtain ⟨x5_12, ex5_12⟩ : ∃ y : Int32, y = x5 + 1 := ⟨_, rfl⟩
      have hp := stk_e hp ex5_12
      refine lv_iinc (v := x5_12) (lv' := [(5, .int x5_12), (0, .ref (qsm 0)), (1, .int p1), (2, .int p2), (3, .int x3), (4, .int x4)]) hx hb dX11_bestCancel_96 hl (k := 5) rfl (by rw [ex5_12]; rfl) (by decide) rfl (fun ls hl => ?_)
      refine lv_goto (tgt := 26) hx hb dX11_bestCancel_99 (by decide) ?_
      exact hk26 fot rot rat vct ost lit x3 x4 x5_12 _ _ _ hP hD hS (lv_sub hl [1, 2, 3, 4, 5, 0] rfl) hp
    · have hp := ite_n hp c_11
      refine lv_aload_n hx hb dX11_bestCancel_46 rfl (lv_at hl 0 rfl) ?_
      refine gf_X11_57 hx hb hts hown hK hP 0 rfl rfl dX11_bestCancel_47 ?_
      refine lv_iload hx hb dX11_bestCancel_50 (lv_at hl 5 rfl) ?_
      obtain ⟨r_14, hc_13, hp⟩ := bn1_s hp
      refine k_ROV (As := [.int x5]) (rest := []) ⟨hx, hb, hml, hown, hts⟩ hK (hP.sub (ws' := (w_Fi cy qfo qro qra qvc qos qli fo ro ra vc os li)) [20, 21, 22, 23, 24, 25, 26, 27, 28, 29, 30, 31, 32, 33, 34, 35, 36, 37, 38, 39, 40, 41, 42] rfl) (cw_X11_232 hts ⟨Nat.le_of_ble_eq_true rfl, Nat.le_of_ble_eq_true rfl⟩) 0 (ci := 2) rfl rfl rfl (c_X2_isGrounded l D cy qfo qro qra qvc qos qli fo ro ra vc os li x5 r_14 hc_13) rfl hl.1 (Nat.le_of_ble_eq_true rfl) ⟨Nat.le_refl _, Nat.le_refl _⟩ dX11_bestCancel_52 ?_
      refine lv_if_ne (tgt := 61) hx hb dX11_bestCancel_55 (by decide) (fun c_15 => ?_) (fun c_15 => ?_)
      · have hp := ite_n hp c_15
        refine lv_aload_n hx hb dX11_bestCancel_61 rfl (lv_at hl 0 rfl) ?_
        refine lv_iload hx hb dX11_bestCancel_62 (lv_at hl 5 rfl) ?_
        obtain ⟨fot_17, rot_18, rat_19, vct_20, ost_21, lit_22, hc_16, hp⟩ := bn6_s hp
        refine k_RVV (As := [.int x5]) (rest := []) ⟨hx, hb, hml, hown, hts⟩ hK hP hD hS hA FrS_rf (cw_X11_334 hts ⟨Nat.le_of_ble_eq_true rfl, Nat.le_of_ble_eq_true rfl⟩) 0 (ci := 11) rfl rfl rfl (c_X11_tryCancel l D cy qsm qbsa qbsb qrd qdi qrof qpn qse qfo qro qra qvc qos qli qfot qrot qrat qvct qost qlit sm bsa bsb rd di rof pn se fo ro ra vc os li fot rot rat vct ost lit x5 fot_17 rot_18 rat_19 vct_20 ost_21 lit_22 hc_16) rfl hl.1 (Nat.le_of_ble_eq_true rfl) ⟨Nat.le_refl _, Nat.le_refl _⟩ dX11_bestCancel_64 (fun H locs hP hD hS => ?_)
        refine lv_aload_n hx hb dX11_bestCancel_67 rfl (lv_at hl 0 rfl) ?_
        refine gf_X11_61 hx hb hts hown hK hP 0 rfl rfl dX11_bestCancel_68 ?_
        refine lv_iload_n hx hb dX11_bestCancel_71 rfl (lv_at hl 1 rfl) ?_
        obtain ⟨r_24, hc_23, hp⟩ := bn1_s hp
        refine k_ROV (As := [.int p1]) (rest := []) ⟨hx, hb, hml, hown, hts⟩ hK (hP.sub (ws' := (w_Fi cy qfot qrot qrat qvct qost qlit fot_17 rot_18 rat_19 vct_20 ost_21 lit_22)) [43, 44, 45, 46, 47, 48, 49, 50, 51, 52, 53, 54, 55, 56, 57, 58, 59, 60, 61, 62, 63, 64, 65] rfl) (cw_X11_303 hts ⟨Nat.le_of_ble_eq_true rfl, Nat.le_of_ble_eq_true rfl⟩) 0 (ci := 2) rfl rfl rfl (c_X2_lineCost l D cy qfot qrot qrat qvct qost qlit fot_17 rot_18 rat_19 vct_20 ost_21 lit_22 p1 r_24 hc_23) rfl hl.1 (Nat.le_of_ble_eq_true rfl) ⟨Nat.le_refl _, Nat.le_refl _⟩ dX11_bestCancel_72 ?_
        refine lv_istore (lv' := [(6, .int r_24), (0, .ref (qsm 0)), (1, .int p1), (2, .int p2), (3, .int x3), (4, .int x4), (5, .int x5)]) hx hb dX11_bestCancel_75 hl (by decide) rfl (fun ls hl => ?_)
        refine lv_iload_n hx hb dX11_bestCancel_77 rfl (lv_at hl 4 rfl) ?_
        refine lv_iconst (v := (-1)) hx hb dX11_bestCancel_78 (by decide) ?_
        refine lv_icmp_eq (tgt := 89) hx hb dX11_bestCancel_79 (by decide) (fun c_25 => ?_) (fun c_25 => ?_)
        · have hp := ite_p hp c_25
          refine lv_iload hx hb dX11_bestCancel_89 (lv_at hl 6 rfl) ?_
          refine lv_istore_n (lv' := [(3, .int x5), (6, .int r_24), (0, .ref (qsm 0)), (1, .int p1), (2, .int p2), (4, .int x4), (5, .int x5)]) hx hb dX11_bestCancel_91 rfl hl (by decide) rfl (fun ls hl => ?_)
          refine lv_iload hx hb dX11_bestCancel_92 (lv_at hl 1 rfl) ?_
          refine lv_istore (lv' := [(4, .int r_24), (3, .int x5), (6, .int r_24), (0, .ref (qsm 0)), (1, .int p1), (2, .int p2), (5, .int x5)]) hx hb dX11_bestCancel_94 hl (by decide) rfl (fun ls hl => ?_)
          obtain ⟨x5_26, ex5_26⟩ : ∃ y : Int32, y = x5 + 1 := ⟨_, rfl⟩
          have hp := stk_e hp ex5_26
          refine lv_iinc (v := x5_26) (lv' := [(5, .int x5_26), (4, .int r_24), (3, .int x5), (6, .int r_24), (0, .ref (qsm 0)), (1, .int p1), (2, .int p2)]) hx hb dX11_bestCancel_96 hl (k := 6) rfl (by rw [ex5_26]; rfl) (by decide) rfl (fun ls hl => ?_)
          refine lv_goto (tgt := 26) hx hb dX11_bestCancel_99 (by decide) ?_
          exact hk26 fot_17 rot_18 rat_19 vct_20 ost_21 lit_22 x5 r_24 x5_26 _ _ _ hP hD hS (lv_sub hl [4, 5, 6, 2, 1, 0] rfl) hp
        · have hp := ite_n hp c_25
          refine lv_iload hx hb dX11_bestCancel_82 (lv_at hl 0 rfl) ?_
          refine lv_iload hx hb dX11_bestCancel_84 (lv_at hl 5 rfl) ?_
          refine lv_icmp_ge (tgt := 96) hx hb dX11_bestCancel_86 (by decide) (fun c_27 => ?_) (fun c_27 => ?_)
          · have hp := ite_p hp c_27
            obtain ⟨x5_28, ex5_28⟩ : ∃ y : Int32, y = x5 + 1 := ⟨_, rfl⟩
            have hp := stk_e hp ex5_28
            refine lv_iinc (v := x5_28) (lv' := [(5, .int x5_28), (6, .int r_24), (0, .ref (qsm 0)), (1, .int p1), (2, .int p2), (3, .int x3), (4, .int x4)]) hx hb dX11_bestCancel_96 hl (k := 6) rfl (by rw [ex5_28]; rfl) (by decide) rfl (fun ls hl => ?_)
            refine lv_goto (tgt := 26) hx hb dX11_bestCancel_99 (by decide) ?_
            exact hk26 fot_17 rot_18 rat_19 vct_20 ost_21 lit_22 x3 x4 x5_28 _ _ _ hP hD hS (lv_sub hl [2, 3, 4, 5, 6, 0] rfl) hp
          · have hp := ite_n hp c_27
            refine lv_iload hx hb dX11_bestCancel_89 (lv_at hl 6 rfl) ?_
            refine lv_istore_n (lv' := [(3, .int x5), (6, .int r_24), (0, .ref (qsm 0)), (1, .int p1), (2, .int p2), (4, .int x4), (5, .int x5)]) hx hb dX11_bestCancel_91 rfl hl (by decide) rfl (fun ls hl => ?_)
            refine lv_iload hx hb dX11_bestCancel_92 (lv_at hl 1 rfl) ?_
            refine lv_istore (lv' := [(4, .int r_24), (3, .int x5), (6, .int r_24), (0, .ref (qsm 0)), (1, .int p1), (2, .int p2), (5, .int x5)]) hx hb dX11_bestCancel_94 hl (by decide) rfl (fun ls hl => ?_)
            obtain ⟨x5_29, ex5_29⟩ : ∃ y : Int32, y = x5 + 1 := ⟨_, rfl⟩
            have hp := stk_e hp ex5_29
            refine lv_iinc (v := x5_29) (lv' := [(5, .int x5_29), (4, .int r_24), (3, .int x5), (6, .int r_24), (0, .ref (qsm 0)), (1, .int p1), (2, .int p2)]) hx hb dX11_bestCancel_96 hl (k := 6) rfl (by rw [ex5_29]; rfl) (by decide) rfl (fun ls hl => ?_)
            refine lv_goto (tgt := 26) hx hb dX11_bestCancel_99 (by decide) ?_
            exact hk26 fot_17 rot_18 rat_19 vct_20 ost_21 lit_22 x5 r_24 x5_29 _ _ _ hP hD hS (lv_sub hl [4, 5, 6, 2, 1, 0] rfl) hp
      · have hp := ite_p hp c_15
        refine lv_goto (tgt := 96) hx hb dX11_bestCancel_58 (by decide) ?_
        obtain ⟨x5_30, ex5_30⟩ : ∃ y : Int32, y = x5 + 1 := ⟨_, rfl⟩
        have hp := stk_e hp ex5_30
        refine lv_iinc (v := x5_30) (lv' := [(5, .int x5_30), (0, .ref (qsm 0)), (1, .int p1), (2, .int p2), (3, .int x3), (4, .int x4)]) hx hb dX11_bestCancel_96 hl (k := 5) rfl (by rw [ex5_30]; rfl) (by decide) rfl (fun ls hl => ?_)
        refine lv_goto (tgt := 26) hx hb dX11_bestCancel_99 (by decide) ?_
        exact hk26 fot rot rat vct ost lit x3 x4 x5_30 _ _ _ hP hD hS (lv_sub hl [1, 2, 3, 4, 5, 0] rfl) hp
theorem St_bestCancel_b26_w (C0 : cX RX11 cX11_bestCancel (some .int) 7 p s m args meth c) (hK : kN D cy s) {qsm qbsa qbsb qrd qdi qrof qpn qse qfo qro qra qvc qos qli qfot qrot qrat qvct qost qlit : Nat → Nat} {sm bsa bsb rd di rof pn se fo ro ra vc os li : Mem} {p1 p2 : Int32} {r : Int32} {fot' rot' rat' vct' ost' lit' : Mem} (hA : ∀ q, s.heap.size ≤ q → A q) : ∀ (n : Nat) (fot rot rat vct ost lit : Mem) (x3 x4 x5 : Int32) (H : Heap) (locs : List Loc) (ls : Array Slot), va_P D vwCl (w_All cy qsm qbsa qbsb qrd qdi qrof qpn qse qfo qro qra qvc qos qli qfot qrot qrat qvct qost qlit sm bsa bsb rd di rof pn se fo ro ra vc os li fot rot rat vct ost lit) H → va_D A (w_All cy qsm qbsa qbsb qrd qdi qrof qpn qse qfo qro qra qvc qos qli qfot qrot qrat qvct qost qlit sm bsa bsb rd di rof pn se fo ro ra vc os li fot rot rat vct ost lit) → va_S A s.heap H locs → lv_has ls 7 [(0, .ref (qsm 0)), (1, .int p1), (2, .int p2), (3, .int x3), (4, .int x4), (5, .int x5)] → St_bestCancel_b26 fo ro ra vc os li p1 p2 n fot rot rat vct ost lit x3 x4 x5 = some (r, fot', rot', rat', vct', ost', lit') → W p l e (rmD 6) s m args below meth c H locs 0 0 (qRI D below args s A (w_All cy qsm qbsa qbsb qrd qdi qrof qpn qse qfo qro qra qvc qos qli qfot qrot qrat qvct qost qlit sm bsa bsb rd di rof pn se fo ro ra vc os li fot' rot' rat' vct' ost' lit') r) (F0 m 26 ls []) := by
  intro n
  induction n with
  | zero =>
    intro fot rot rat vct ost lit x3 x4 x5 H locs ls hP hD hS hl hp
    cases hp
  | succ n ih =>
    intro fot rot rat vct ost lit x3 x4 x5 H locs ls hP hD hS hl hp
    exact St_bestCancel_b26B_w C0 hK hA  (fun fot rot rat vct ost lit x3 x4 x5 H locs ls hP hD hS hl hp => ih fot rot rat vct ost lit x3 x4 x5 H locs ls hP hD hS hl hp) hP hD hS hl hp
set_option maxHeartbeats 4000000 in
set_option maxRecDepth 100000 in
theorem c_X11_bestCancel (l : Launch) (D : va_G) (cy : Nat → ClassId) (qsm qbsa qbsb qrd qdi qrof qpn qse qfo qro qra qvc qos qli qfot qrot qrat qvct qost qlit : Nat → Nat) (sm bsa bsb rd di rof pn se fo ro ra vc os li fot rot rat vct ost lit : Mem) (p1 p2 : Int32) (r : Int32) (fot' rot' rat' vct' ost' lit' : Mem) (hp : St_bestCancel fo ro ra vc os li fot rot rat vct ost lit p1 p2 = some (r, fot', rot', rat', vct', ost', lit')) : RI l yX11_bestCancel cX11_bestCancel 7 (some .int) 6 D cy [.ref (qsm 0), .int p1, .int p2] (w_All cy qsm qbsa qbsb qrd qdi qrof qpn qse qfo qro qra qvc qos qli qfot qrot qrat qvct qost qlit sm bsa bsb rd di rof pn se fo ro ra vc os li fot rot rat vct ost lit) (w_All cy qsm qbsa qbsb qrd qdi qrof qpn qse qfo qro qra qvc qos qli qfot qrot qrat qvct qost qlit sm bsa bsb rd di rof pn se fo ro ra vc os li fot' rot' rat' vct' ost' lit') r := by
  refine RI_of RX11 rfl (by decide) (Nat.le_of_ble_eq_true rfl) ?_
  intro p e s m below meth c A C0 hK hP hD hS hA ls hl
  obtain ⟨hx, hb, hr, hml, hown, hts, hk⟩ := id C0
  unfold St_bestCancel at hp
  have hl : lv_has ls 7 [(0, .ref (qsm 0)), (1, .int p1), (2, .int p2)] := hl
  refine lv_iload_n hx hb dX11_bestCancel_0 rfl (lv_at hl 1 rfl) ?_
  obtain ⟨r_2, hc_1, hp⟩ := bn1_s hp
  refine k_ROS (As := [.int p1]) (rest := []) ⟨hx, hb, hml, hown, hts⟩ hK (show va_P D vwCl [] _ from fun k q h => by simp at h) (cw_X11_91 hts ⟨Nat.le_of_ble_eq_true rfl, Nat.le_of_ble_eq_true rfl⟩) (c_X11_isLine l D cy p1 r_2 hc_1) rfl hl.1 (Nat.le_of_ble_eq_true rfl) ⟨Nat.le_refl _, Nat.le_refl _⟩ dX11_bestCancel_1 ?_
  refine lv_if_eq (tgt := 16) hx hb dX11_bestCancel_4 (by decide) (fun c_3 => ?_) (fun c_3 => ?_)
  · have hp := ite_p hp c_3
    refine lv_iconst (v := (-1)) hx hb dX11_bestCancel_16 (by decide) ?_
    simp only [Option.some.injEq, Prod.mk.injEq] at hp
    obtain ⟨h0, rfl, rfl, rfl, rfl, rfl, rfl⟩ := hp
    exact e_RIi hx hb hr hk hP hD hS dX11_bestCancel_17 h0
  · have hp := ite_n hp c_3
    refine lv_iload_n hx hb dX11_bestCancel_7 rfl (lv_at hl 2 rfl) ?_
    refine lv_if_lt (tgt := 16) hx hb dX11_bestCancel_8 (by decide) (fun c_4 => ?_) (fun c_4 => ?_)
    · have hp := ite_p hp c_4
      refine lv_iconst (v := (-1)) hx hb dX11_bestCancel_16 (by decide) ?_
      simp only [Option.some.injEq, Prod.mk.injEq] at hp
      obtain ⟨h0, rfl, rfl, rfl, rfl, rfl, rfl⟩ := hp
      exact e_RIi hx hb hr hk hP hD hS dX11_bestCancel_17 h0
    · have hp := ite_n hp c_4
      refine lv_iload_n hx hb dX11_bestCancel_11 rfl (lv_at hl 2 rfl) ?_
      refine lv_iconst (v := 1) hx hb dX11_bestCancel_12 (by decide) ?_
      refine lv_icmp_le (tgt := 18) hx hb dX11_bestCancel_13 (by decide) (fun c_5 => ?_) (fun c_5 => ?_)
      · have hp := ite_p hp c_5
        refine lv_iconst (v := (-1)) hx hb dX11_bestCancel_18 (by decide) ?_
        refine lv_istore_n (lv' := [(3, .int (-1)), (0, .ref (qsm 0)), (1, .int p1), (2, .int p2)]) hx hb dX11_bestCancel_19 rfl hl (by decide) rfl (fun ls hl => ?_)
        refine lv_iconst (v := 0) hx hb dX11_bestCancel_20 (by decide) ?_
        refine lv_istore (lv' := [(4, .int 0), (3, .int (-1)), (0, .ref (qsm 0)), (1, .int p1), (2, .int p2)]) hx hb dX11_bestCancel_21 hl (by decide) rfl (fun ls hl => ?_)
        refine lv_iconst (v := 0) hx hb dX11_bestCancel_23 (by decide) ?_
        refine lv_istore (lv' := [(5, .int 0), (4, .int 0), (3, .int (-1)), (0, .ref (qsm 0)), (1, .int p1), (2, .int p2)]) hx hb dX11_bestCancel_24 hl (by decide) rfl (fun ls hl => ?_)
        exact St_bestCancel_b26_w C0 hK hA  fl fot rot rat vct ost lit (-1) 0 0 _ _ _ hP hD hS (lv_sub hl [3, 4, 5, 2, 1, 0] rfl) hp
      · have hp := ite_n hp c_5
        refine lv_iconst (v := (-1)) hx hb dX11_bestCancel_16 (by decide) ?_
        simp only [Option.some.injEq, Prod.mk.injEq] at hp
        obtain ⟨h0, rfl, rfl, rfl, rfl, rfl, rfl⟩ := hp
        exact e_RIi hx hb hr hk hP hD hS dX11_bestCancel_17 h0
/-! StormSlots.helps(II)I -/
def St_helps_b61 (fo : Mem) (ro : Mem) (ra : Mem) (vc : Mem) (os : Mem) (li : Mem) (p1 : Int32) (p2 : Int32) (fot : Mem) (rot : Mem) (rat : Mem) (vct : Mem) (ost : Mem) (lit : Mem) (y0 : Int32) : Option (Int32 × Mem × Mem × Mem × Mem × Mem × Mem) :=
  bn1 (Fi_waitsOf fo ro p2) (fun r_23 => bn1 (Fi_waitsOf fot rot p2) (fun r_25 => some (((r_23 - y0) - r_25), fot, rot, rat, vct, ost, lit)))
def St_helps (fo : Mem) (ro : Mem) (ra : Mem) (vc : Mem) (os : Mem) (li : Mem) (fot : Mem) (rot : Mem) (rat : Mem) (vct : Mem) (ost : Mem) (lit : Mem) (p1 : Int32) (p2 : Int32) : Option (Int32 × Mem × Mem × Mem × Mem × Mem × Mem) :=
  bn1 (St_isLine p2) (fun r_2 => if r_2 = 0 then some ((-1000000), fot, rot, rat, vct, ost, lit) else bn1 (Fi_isFlight ro p1) (fun r_5 => if r_5 = 0 then some ((-1000000), fot, rot, rat, vct, ost, lit) else bn1 (Fi_isGrounded fo ro p1) (fun r_8 => if r_8 = 0 then some ((-1000000), fot, rot, rat, vct, ost, lit) else bn6 (St_tryCancel fo ro ra vc os li fot rot rat vct ost lit p1) (fun fot_11 rot_12 rat_13 vct_14 ost_15 lit_16 => bn1 (Fi_isOf ro p1 p2) (fun r_18 => if r_18 = 0 then St_helps_b61 fo ro ra vc os li p1 p2 fot_11 rot_12 rat_13 vct_14 ost_15 lit_16 0 else bn1 (Fi_waitOf fo p1) (fun r_21 => St_helps_b61 fo ro ra vc os li p1 p2 fot_11 rot_12 rat_13 vct_14 ost_15 lit_16 r_21))))))
set_option maxHeartbeats 4000000 in
set_option maxRecDepth 100000 in
theorem St_helps_b61_w (C0 : cX RX11 cX11_helps (some .int) 4 p s m args meth c) (hK : kN D cy s) {qsm qbsa qbsb qrd qdi qrof qpn qse qfo qro qra qvc qos qli qfot qrot qrat qvct qost qlit : Nat → Nat} {sm bsa bsb rd di rof pn se fo ro ra vc os li : Mem} {p1 p2 : Int32} {r : Int32} {fot' rot' rat' vct' ost' lit' : Mem} (hA : ∀ q, s.heap.size ≤ q → A q) {fot : Mem} {rot : Mem} {rat : Mem} {vct : Mem} {ost : Mem} {lit : Mem} {y0 : Int32} {H : Heap} {locs : List Loc} (hP : va_P D vwCl (w_All cy qsm qbsa qbsb qrd qdi qrof qpn qse qfo qro qra qvc qos qli qfot qrot qrat qvct qost qlit sm bsa bsb rd di rof pn se fo ro ra vc os li fot rot rat vct ost lit) H) (hD : va_D A (w_All cy qsm qbsa qbsb qrd qdi qrof qpn qse qfo qro qra qvc qos qli qfot qrot qrat qvct qost qlit sm bsa bsb rd di rof pn se fo ro ra vc os li fot rot rat vct ost lit)) (hS : va_S A s.heap H locs) {ls : Array Slot} (hl : lv_has ls 4 [(0, .ref (qsm 0)), (1, .int p1), (2, .int p2)]) (hp : St_helps_b61 fo ro ra vc os li p1 p2 fot rot rat vct ost lit y0 = some (r, fot', rot', rat', vct', ost', lit')) : W p l e (rmD 6) s m args below meth c H locs 0 0 (qRI D below args s A (w_All cy qsm qbsa qbsb qrd qdi qrof qpn qse qfo qro qra qvc qos qli qfot qrot qrat qvct qost qlit sm bsa bsb rd di rof pn se fo ro ra vc os li fot' rot' rat' vct' ost' lit') r) (F0 m 61 ls [.int y0]) := by
  obtain ⟨hx, hb, hr, hml, hown, hts, hk⟩ := id C0
  unfold St_helps_b61 at hp
  refine lv_istore_n (lv' := [(3, .int y0), (0, .ref (qsm 0)), (1, .int p1), (2, .int p2)]) hx hb dX11_helps_61 rfl hl (by decide) rfl (fun ls hl => ?_)
  refine lv_aload_n hx hb dX11_helps_62 rfl (lv_at hl 1 rfl) ?_
  refine gf_X11_57 hx hb hts hown hK hP 0 rfl rfl dX11_helps_63 ?_
  refine lv_iload_n hx hb dX11_helps_66 rfl (lv_at hl 3 rfl) ?_
  obtain ⟨r_23, hc_22, hp⟩ := bn1_s hp
  refine k_ROV (As := [.int p2]) (rest := []) ⟨hx, hb, hml, hown, hts⟩ hK (hP.sub (ws' := (w_Fi cy qfo qro qra qvc qos qli fo ro ra vc os li)) [20, 21, 22, 23, 24, 25, 26, 27, 28, 29, 30, 31, 32, 33, 34, 35, 36, 37, 38, 39, 40, 41, 42] rfl) (cw_X11_300 hts ⟨Nat.le_of_ble_eq_true rfl, Nat.le_of_ble_eq_true rfl⟩) 0 (ci := 2) rfl rfl rfl (c_X2_waitsOf l D cy qfo qro qra qvc qos qli fo ro ra vc os li p2 r_23 hc_22) rfl hl.1 (Nat.le_of_ble_eq_true rfl) ⟨Nat.le_refl _, Nat.le_refl _⟩ dX11_helps_67 ?_
  refine lv_iload_n hx hb dX11_helps_70 rfl (lv_at hl 0 rfl) ?_
  refine lv_isub hx hb dX11_helps_71 ?_
  refine lv_aload_n hx hb dX11_helps_72 rfl (lv_at hl 1 rfl) ?_
  refine gf_X11_61 hx hb hts hown hK hP 0 rfl rfl dX11_helps_73 ?_
  refine lv_iload_n hx hb dX11_helps_76 rfl (lv_at hl 3 rfl) ?_
  obtain ⟨r_25, hc_24, hp⟩ := bn1_s hp
  refine k_ROV (As := [.int p2]) (rest := [.int (r_23 - y0)]) ⟨hx, hb, hml, hown, hts⟩ hK (hP.sub (ws' := (w_Fi cy qfot qrot qrat qvct qost qlit fot rot rat vct ost lit)) [43, 44, 45, 46, 47, 48, 49, 50, 51, 52, 53, 54, 55, 56, 57, 58, 59, 60, 61, 62, 63, 64, 65] rfl) (cw_X11_300 hts ⟨Nat.le_of_ble_eq_true rfl, Nat.le_of_ble_eq_true rfl⟩) 0 (ci := 2) rfl rfl rfl (c_X2_waitsOf l D cy qfot qrot qrat qvct qost qlit fot rot rat vct ost lit p2 r_25 hc_24) rfl hl.1 (Nat.le_of_ble_eq_true rfl) ⟨Nat.le_refl _, Nat.le_refl _⟩ dX11_helps_77 ?_
  refine lv_isub hx hb dX11_helps_80 ?_
  simp only [Option.some.injEq, Prod.mk.injEq] at hp
  obtain ⟨h0, rfl, rfl, rfl, rfl, rfl, rfl⟩ := hp
  exact e_RIi hx hb hr hk hP hD hS dX11_helps_81 h0
set_option maxHeartbeats 4000000 in
set_option maxRecDepth 100000 in
theorem c_X11_helps (l : Launch) (D : va_G) (cy : Nat → ClassId) (qsm qbsa qbsb qrd qdi qrof qpn qse qfo qro qra qvc qos qli qfot qrot qrat qvct qost qlit : Nat → Nat) (sm bsa bsb rd di rof pn se fo ro ra vc os li fot rot rat vct ost lit : Mem) (p1 p2 : Int32) (r : Int32) (fot' rot' rat' vct' ost' lit' : Mem) (hp : St_helps fo ro ra vc os li fot rot rat vct ost lit p1 p2 = some (r, fot', rot', rat', vct', ost', lit')) : RI l yX11_helps cX11_helps 4 (some .int) 6 D cy [.ref (qsm 0), .int p1, .int p2] (w_All cy qsm qbsa qbsb qrd qdi qrof qpn qse qfo qro qra qvc qos qli qfot qrot qrat qvct qost qlit sm bsa bsb rd di rof pn se fo ro ra vc os li fot rot rat vct ost lit) (w_All cy qsm qbsa qbsb qrd qdi qrof qpn qse qfo qro qra qvc qos qli qfot qrot qrat qvct qost qlit sm bsa bsb rd di rof pn se fo ro ra vc os li fot' rot' rat' vct' ost' lit') r := by
  refine RI_of RX11 rfl (by decide) (Nat.le_of_ble_eq_true rfl) ?_
  intro p e s m below meth c A C0 hK hP hD hS hA ls hl
  obtain ⟨hx, hb, hr, hml, hown, hts, hk⟩ := id C0
  unfold St_helps at hp
  have hl : lv_has ls 4 [(0, .ref (qsm 0)), (1, .int p1), (2, .int p2)] := hl
  refine lv_iload_n hx hb dX11_helps_0 rfl (lv_at hl 2 rfl) ?_
  obtain ⟨r_2, hc_1, hp⟩ := bn1_s hp
  refine k_ROS (As := [.int p2]) (rest := []) ⟨hx, hb, hml, hown, hts⟩ hK (show va_P D vwCl [] _ from fun k q h => by simp at h) (cw_X11_91 hts ⟨Nat.le_of_ble_eq_true rfl, Nat.le_of_ble_eq_true rfl⟩) (c_X11_isLine l D cy p2 r_2 hc_1) rfl hl.1 (Nat.le_of_ble_eq_true rfl) ⟨Nat.le_refl _, Nat.le_refl _⟩ dX11_helps_1 ?_
  refine lv_if_eq (tgt := 29) hx hb dX11_helps_4 (by decide) (fun c_3 => ?_) (fun c_3 => ?_)
  · have hp := ite_p hp c_3
    refine lc_X11_228 hx hb hts hown dX11_helps_29 ?_
    simp only [Option.some.injEq, Prod.mk.injEq] at hp
    obtain ⟨h0, rfl, rfl, rfl, rfl, rfl, rfl⟩ := hp
    exact e_RIi hx hb hr hk hP hD hS dX11_helps_31 h0
  · have hp := ite_n hp c_3
    refine lv_aload_n hx hb dX11_helps_7 rfl (lv_at hl 0 rfl) ?_
    refine gf_X11_57 hx hb hts hown hK hP 0 rfl rfl dX11_helps_8 ?_
    refine lv_iload_n hx hb dX11_helps_11 rfl (lv_at hl 1 rfl) ?_
    obtain ⟨r_5, hc_4, hp⟩ := bn1_s hp
    refine k_ROV (As := [.int p1]) (rest := []) ⟨hx, hb, hml, hown, hts⟩ hK (hP.sub (ws' := (w_Fi cy qfo qro qra qvc qos qli fo ro ra vc os li)) [20, 21, 22, 23, 24, 25, 26, 27, 28, 29, 30, 31, 32, 33, 34, 35, 36, 37, 38, 39, 40, 41, 42] rfl) (cw_X11_145 hts ⟨Nat.le_of_ble_eq_true rfl, Nat.le_of_ble_eq_true rfl⟩) 0 (ci := 2) rfl rfl rfl (c_X2_isFlight l D cy qfo qro qra qvc qos qli fo ro ra vc os li p1 r_5 hc_4) rfl hl.1 (Nat.le_of_ble_eq_true rfl) ⟨Nat.le_refl _, Nat.le_refl _⟩ dX11_helps_12 ?_
    refine lv_if_eq (tgt := 29) hx hb dX11_helps_15 (by decide) (fun c_6 => ?_) (fun c_6 => ?_)
    · have hp := ite_p hp c_6
      refine lc_X11_228 hx hb hts hown dX11_helps_29 ?_
      simp only [Option.some.injEq, Prod.mk.injEq] at hp
      obtain ⟨h0, rfl, rfl, rfl, rfl, rfl, rfl⟩ := hp
      exact e_RIi hx hb hr hk hP hD hS dX11_helps_31 h0
    · have hp := ite_n hp c_6
      refine lv_aload_n hx hb dX11_helps_18 rfl (lv_at hl 0 rfl) ?_
      refine gf_X11_57 hx hb hts hown hK hP 0 rfl rfl dX11_helps_19 ?_
      refine lv_iload_n hx hb dX11_helps_22 rfl (lv_at hl 1 rfl) ?_
      obtain ⟨r_8, hc_7, hp⟩ := bn1_s hp
      refine k_ROV (As := [.int p1]) (rest := []) ⟨hx, hb, hml, hown, hts⟩ hK (hP.sub (ws' := (w_Fi cy qfo qro qra qvc qos qli fo ro ra vc os li)) [20, 21, 22, 23, 24, 25, 26, 27, 28, 29, 30, 31, 32, 33, 34, 35, 36, 37, 38, 39, 40, 41, 42] rfl) (cw_X11_232 hts ⟨Nat.le_of_ble_eq_true rfl, Nat.le_of_ble_eq_true rfl⟩) 0 (ci := 2) rfl rfl rfl (c_X2_isGrounded l D cy qfo qro qra qvc qos qli fo ro ra vc os li p1 r_8 hc_7) rfl hl.1 (Nat.le_of_ble_eq_true rfl) ⟨Nat.le_refl _, Nat.le_refl _⟩ dX11_helps_23 ?_
      refine lv_if_ne (tgt := 32) hx hb dX11_helps_26 (by decide) (fun c_9 => ?_) (fun c_9 => ?_)
      · have hp := ite_n hp c_9
        refine lv_aload_n hx hb dX11_helps_32 rfl (lv_at hl 0 rfl) ?_
        refine lv_iload_n hx hb dX11_helps_33 rfl (lv_at hl 1 rfl) ?_
        obtain ⟨fot_11, rot_12, rat_13, vct_14, ost_15, lit_16, hc_10, hp⟩ := bn6_s hp
        refine k_RVV (As := [.int p1]) (rest := []) ⟨hx, hb, hml, hown, hts⟩ hK hP hD hS hA FrS_rf (cw_X11_334 hts ⟨Nat.le_of_ble_eq_true rfl, Nat.le_of_ble_eq_true rfl⟩) 0 (ci := 11) rfl rfl rfl (c_X11_tryCancel l D cy qsm qbsa qbsb qrd qdi qrof qpn qse qfo qro qra qvc qos qli qfot qrot qrat qvct qost qlit sm bsa bsb rd di rof pn se fo ro ra vc os li fot rot rat vct ost lit p1 fot_11 rot_12 rat_13 vct_14 ost_15 lit_16 hc_10) rfl hl.1 (Nat.le_of_ble_eq_true rfl) ⟨Nat.le_refl _, Nat.le_refl _⟩ dX11_helps_34 (fun H locs hP hD hS => ?_)
        refine lv_aload_n hx hb dX11_helps_37 rfl (lv_at hl 0 rfl) ?_
        refine gf_X11_57 hx hb hts hown hK hP 0 rfl rfl dX11_helps_38 ?_
        refine lv_iload_n hx hb dX11_helps_41 rfl (lv_at hl 1 rfl) ?_
        refine lv_iload_n hx hb dX11_helps_42 rfl (lv_at hl 2 rfl) ?_
        obtain ⟨r_18, hc_17, hp⟩ := bn1_s hp
        refine k_ROV (As := [.int p1, .int p2]) (rest := []) ⟨hx, hb, hml, hown, hts⟩ hK (hP.sub (ws' := (w_Fi cy qfo qro qra qvc qos qli fo ro ra vc os li)) [20, 21, 22, 23, 24, 25, 26, 27, 28, 29, 30, 31, 32, 33, 34, 35, 36, 37, 38, 39, 40, 41, 42] rfl) (cw_X11_238 hts ⟨Nat.le_of_ble_eq_true rfl, Nat.le_of_ble_eq_true rfl⟩) 0 (ci := 2) rfl rfl rfl (c_X2_isOf l D cy qfo qro qra qvc qos qli fo ro ra vc os li p1 p2 r_18 hc_17) rfl hl.1 (Nat.le_of_ble_eq_true rfl) ⟨Nat.le_refl _, Nat.le_refl _⟩ dX11_helps_43 ?_
        refine lv_if_eq (tgt := 60) hx hb dX11_helps_46 (by decide) (fun c_19 => ?_) (fun c_19 => ?_)
        · have hp := ite_p hp c_19
          refine lv_iconst (v := 0) hx hb dX11_helps_60 (by decide) ?_
          exact St_helps_b61_w C0 hK hA  hP hD hS hl hp
        · have hp := ite_n hp c_19
          refine lv_aload_n hx hb dX11_helps_49 rfl (lv_at hl 0 rfl) ?_
          refine gf_X11_57 hx hb hts hown hK hP 0 rfl rfl dX11_helps_50 ?_
          refine lv_iload_n hx hb dX11_helps_53 rfl (lv_at hl 1 rfl) ?_
          obtain ⟨r_21, hc_20, hp⟩ := bn1_s hp
          refine k_ROV (As := [.int p1]) (rest := []) ⟨hx, hb, hml, hown, hts⟩ hK (hP.sub (ws' := (w_Fi cy qfo qro qra qvc qos qli fo ro ra vc os li)) [20, 21, 22, 23, 24, 25, 26, 27, 28, 29, 30, 31, 32, 33, 34, 35, 36, 37, 38, 39, 40, 41, 42] rfl) (cw_X11_337 hts ⟨Nat.le_of_ble_eq_true rfl, Nat.le_of_ble_eq_true rfl⟩) 0 (ci := 2) rfl rfl rfl (c_X2_waitOf l D cy qfo qro qra qvc qos qli fo ro ra vc os li p1 r_21 hc_20) rfl hl.1 (Nat.le_of_ble_eq_true rfl) ⟨Nat.le_refl _, Nat.le_refl _⟩ dX11_helps_54 ?_
          refine lv_goto (tgt := 61) hx hb dX11_helps_57 (by decide) ?_
          exact St_helps_b61_w C0 hK hA  hP hD hS hl hp
      · have hp := ite_p hp c_9
        refine lc_X11_228 hx hb hts hown dX11_helps_29 ?_
        simp only [Option.some.injEq, Prod.mk.injEq] at hp
        obtain ⟨h0, rfl, rfl, rfl, rfl, rfl, rfl⟩ := hp
        exact e_RIi hx hb hr hk hP hD hS dX11_helps_31 h0
/-! StormSlots.rank(I)I -/
def St_rank_b8B (fo : Mem) (ro : Mem) (p1 : Int32) (k8 : Int32 → Option (Int32)) (x2 : Int32) : Option (Int32) :=
  if 5 ≤ x2 then some (-2) else bn1 (Fi_seatedOf fo ro x2) (fun r_4 => if r_4 ≤ 0 then stk (x2 + 1) (fun x2_6 => k8 x2_6) else bn1 (Fi_linesAhead fo ro x2) (fun r_8 => if r_8 = p1 then some x2 else stk (x2 + 1) (fun x2_10 => k8 x2_10)))
def St_rank_b8 (fo : Mem) (ro : Mem) (p1 : Int32) : Nat → Int32 → Option (Int32)
  | 0 => fun _ => none
  | n + 1 => St_rank_b8B fo ro p1 (St_rank_b8 fo ro p1 n)
def St_rank (fo : Mem) (ro : Mem) (p1 : Int32) : Option (Int32) :=
  if 0 ≤ p1 then St_rank_b8 fo ro p1 fl 0 else some (-1)
set_option maxHeartbeats 4000000 in
set_option maxRecDepth 100000 in
theorem St_rank_b8B_w (C0 : cX RX11 cX11_rank (some .int) 3 p s m args meth c) (hK : kN D cy s) {qsm qbsa qbsb qrd qdi qrof qpn qse qfo qro qra qvc qos qli qfot qrot qrat qvct qost qlit : Nat → Nat} {sm bsa bsb rd di rof pn se fo ro ra vc os li fot rot rat vct ost lit : Mem} {p1 : Int32} {r : Int32} (hP : va_P D vwCl (w_All cy qsm qbsa qbsb qrd qdi qrof qpn qse qfo qro qra qvc qos qli qfot qrot qrat qvct qost qlit sm bsa bsb rd di rof pn se fo ro ra vc os li fot rot rat vct ost lit) s.heap) {k8 : Int32 → Option (Int32)} (hk8 : ∀ (x2 : Int32) (ls : Array Slot), lv_has ls 3 [(0, .ref (qsm 0)), (1, .int p1), (2, .int x2)] → k8 x2 = some r → W p l e (rmD 4) s m args below meth c s.heap [] 0 0 (qRO below args s r) (F0 m 8 ls [])) {x2 : Int32} {ls : Array Slot} (hl : lv_has ls 3 [(0, .ref (qsm 0)), (1, .int p1), (2, .int x2)]) (hp : St_rank_b8B fo ro p1 k8 x2 = some r) : W p l e (rmD 4) s m args below meth c s.heap [] 0 0 (qRO below args s r) (F0 m 8 ls []) := by
  obtain ⟨hx, hb, hr, hml, hown, hts, hk⟩ := id C0
  unfold St_rank_b8B at hp
  refine lv_iload_n hx hb dX11_rank_8 rfl (lv_at hl 2 rfl) ?_
  refine lv_iconst (v := 5) hx hb dX11_rank_9 (by decide) ?_
  refine lv_icmp_ge (tgt := 44) hx hb dX11_rank_10 (by decide) (fun c_2 => ?_) (fun c_2 => ?_)
  · have hp := ite_p hp c_2
    refine lv_bipush (v := (-2)) hx hb dX11_rank_44 (by decide) ?_
    exact e_ROi hx hb hr hk dX11_rank_46 (Option.some.inj hp)
  · have hp := ite_n hp c_2
    refine lv_aload_n hx hb dX11_rank_13 rfl (lv_at hl 0 rfl) ?_
    refine gf_X11_57 hx hb hts hown hK hP 0 rfl rfl dX11_rank_14 ?_
    refine lv_iload_n hx hb dX11_rank_17 rfl (lv_at hl 2 rfl) ?_
    obtain ⟨r_4, hc_3, hp⟩ := bn1_s hp
    refine k_ROV (As := [.int x2]) (rest := []) ⟨hx, hb, hml, hown, hts⟩ hK (hP.sub (ws' := (w_Fi cy qfo qro qra qvc qos qli fo ro ra vc os li)) [20, 21, 22, 23, 24, 25, 26, 27, 28, 29, 30, 31, 32, 33, 34, 35, 36, 37, 38, 39, 40, 41, 42] rfl) (cw_X11_340 hts ⟨Nat.le_of_ble_eq_true rfl, Nat.le_of_ble_eq_true rfl⟩) 0 (ci := 2) rfl rfl rfl (c_X2_seatedOf l D cy qfo qro qra qvc qos qli fo ro ra vc os li x2 r_4 hc_3) rfl hl.1 (Nat.le_of_ble_eq_true rfl) ⟨Nat.le_refl _, Nat.le_refl _⟩ dX11_rank_18 ?_
    refine lv_if_le (tgt := 38) hx hb dX11_rank_21 (by decide) (fun c_5 => ?_) (fun c_5 => ?_)
    · have hp := ite_p hp c_5
      obtain ⟨x2_6, ex2_6⟩ : ∃ y : Int32, y = x2 + 1 := ⟨_, rfl⟩
      have hp := stk_e hp ex2_6
      refine lv_iinc (v := x2_6) (lv' := [(2, .int x2_6), (0, .ref (qsm 0)), (1, .int p1)]) hx hb dX11_rank_38 hl (k := 2) rfl (by rw [ex2_6]; rfl) (by decide) rfl (fun ls hl => ?_)
      refine lv_goto (tgt := 8) hx hb dX11_rank_41 (by decide) ?_
      exact hk8 x2_6 _ (lv_sub hl [1, 2, 0] rfl) hp
    · have hp := ite_n hp c_5
      refine lv_aload_n hx hb dX11_rank_24 rfl (lv_at hl 0 rfl) ?_
      refine gf_X11_57 hx hb hts hown hK hP 0 rfl rfl dX11_rank_25 ?_
      refine lv_iload_n hx hb dX11_rank_28 rfl (lv_at hl 2 rfl) ?_
      obtain ⟨r_8, hc_7, hp⟩ := bn1_s hp
      refine k_ROV (As := [.int x2]) (rest := []) ⟨hx, hb, hml, hown, hts⟩ hK (hP.sub (ws' := (w_Fi cy qfo qro qra qvc qos qli fo ro ra vc os li)) [20, 21, 22, 23, 24, 25, 26, 27, 28, 29, 30, 31, 32, 33, 34, 35, 36, 37, 38, 39, 40, 41, 42] rfl) (cw_X11_343 hts ⟨Nat.le_of_ble_eq_true rfl, Nat.le_of_ble_eq_true rfl⟩) 0 (ci := 2) rfl rfl rfl (c_X2_linesAhead l D cy qfo qro qra qvc qos qli fo ro ra vc os li x2 r_8 hc_7) rfl hl.1 (Nat.le_of_ble_eq_true rfl) ⟨Nat.le_refl _, Nat.le_refl _⟩ dX11_rank_29 ?_
      refine lv_iload_n hx hb dX11_rank_32 rfl (lv_at hl 1 rfl) ?_
      refine lv_icmp_ne (tgt := 38) hx hb dX11_rank_33 (by decide) (fun c_9 => ?_) (fun c_9 => ?_)
      · have hp := ite_n hp c_9
        obtain ⟨x2_10, ex2_10⟩ : ∃ y : Int32, y = x2 + 1 := ⟨_, rfl⟩
        have hp := stk_e hp ex2_10
        refine lv_iinc (v := x2_10) (lv' := [(2, .int x2_10), (0, .ref (qsm 0)), (1, .int p1)]) hx hb dX11_rank_38 hl (k := 2) rfl (by rw [ex2_10]; rfl) (by decide) rfl (fun ls hl => ?_)
        refine lv_goto (tgt := 8) hx hb dX11_rank_41 (by decide) ?_
        exact hk8 x2_10 _ (lv_sub hl [1, 2, 0] rfl) hp
      · have hp := ite_p hp c_9
        refine lv_iload_n hx hb dX11_rank_36 rfl (lv_at hl 2 rfl) ?_
        exact e_ROi hx hb hr hk dX11_rank_37 (Option.some.inj hp)
theorem St_rank_b8_w (C0 : cX RX11 cX11_rank (some .int) 3 p s m args meth c) (hK : kN D cy s) {qsm qbsa qbsb qrd qdi qrof qpn qse qfo qro qra qvc qos qli qfot qrot qrat qvct qost qlit : Nat → Nat} {sm bsa bsb rd di rof pn se fo ro ra vc os li fot rot rat vct ost lit : Mem} {p1 : Int32} {r : Int32} (hP : va_P D vwCl (w_All cy qsm qbsa qbsb qrd qdi qrof qpn qse qfo qro qra qvc qos qli qfot qrot qrat qvct qost qlit sm bsa bsb rd di rof pn se fo ro ra vc os li fot rot rat vct ost lit) s.heap) : ∀ (n : Nat) (x2 : Int32) (ls : Array Slot), lv_has ls 3 [(0, .ref (qsm 0)), (1, .int p1), (2, .int x2)] → St_rank_b8 fo ro p1 n x2 = some r → W p l e (rmD 4) s m args below meth c s.heap [] 0 0 (qRO below args s r) (F0 m 8 ls []) := by
  intro n
  induction n with
  | zero =>
    intro x2 ls hl hp
    cases hp
  | succ n ih =>
    intro x2 ls hl hp
    exact St_rank_b8B_w C0 hK hP  (fun x2 ls hl hp => ih x2 ls hl hp) hl hp
set_option maxHeartbeats 4000000 in
set_option maxRecDepth 100000 in
theorem c_X11_rank (l : Launch) (D : va_G) (cy : Nat → ClassId) (qsm qbsa qbsb qrd qdi qrof qpn qse qfo qro qra qvc qos qli qfot qrot qrat qvct qost qlit : Nat → Nat) (sm bsa bsb rd di rof pn se fo ro ra vc os li fot rot rat vct ost lit : Mem) (p1 : Int32) (r : Int32) (hp : St_rank fo ro p1 = some r) : RO l yX11_rank cX11_rank 3 (some .int) 4 D cy [.ref (qsm 0), .int p1] (w_All cy qsm qbsa qbsb qrd qdi qrof qpn qse qfo qro qra qvc qos qli qfot qrot qrat qvct qost qlit sm bsa bsb rd di rof pn se fo ro ra vc os li fot rot rat vct ost lit) r := by
  refine RO_of RX11 rfl (by decide) (Nat.le_of_ble_eq_true rfl) ?_
  intro p e s m below meth c C0 hK hP ls hl
  obtain ⟨hx, hb, hr, hml, hown, hts, hk⟩ := id C0
  unfold St_rank at hp
  have hl : lv_has ls 3 [(0, .ref (qsm 0)), (1, .int p1)] := hl
  refine lv_iload_n hx hb dX11_rank_0 rfl (lv_at hl 1 rfl) ?_
  refine lv_if_ge (tgt := 6) hx hb dX11_rank_1 (by decide) (fun c_1 => ?_) (fun c_1 => ?_)
  · have hp := ite_p hp c_1
    refine lv_iconst (v := 0) hx hb dX11_rank_6 (by decide) ?_
    refine lv_istore_n (lv' := [(2, .int 0), (0, .ref (qsm 0)), (1, .int p1)]) hx hb dX11_rank_7 rfl hl (by decide) rfl (fun ls hl => ?_)
    exact St_rank_b8_w C0 hK hP  fl 0 _ (lv_sub hl [1, 2, 0] rfl) hp
  · have hp := ite_n hp c_1
    refine lv_iconst (v := (-1)) hx hb dX11_rank_4 (by decide) ?_
    exact e_ROi hx hb hr hk dX11_rank_5 (Option.some.inj hp)
/-! StormSlots.unfair()I -/
def St_unfair (fo : Mem) (ro : Mem) : Option (Int32) :=
  bn1 (Fi_unfairness fo ro) (fun r_2 => some r_2)
set_option maxHeartbeats 4000000 in
set_option maxRecDepth 100000 in
theorem c_X11_unfair (l : Launch) (D : va_G) (cy : Nat → ClassId) (qsm qbsa qbsb qrd qdi qrof qpn qse qfo qro qra qvc qos qli qfot qrot qrat qvct qost qlit : Nat → Nat) (sm bsa bsb rd di rof pn se fo ro ra vc os li fot rot rat vct ost lit : Mem) (r : Int32) (hp : St_unfair fo ro = some r) : RO l yX11_unfair cX11_unfair 1 (some .int) 4 D cy [.ref (qsm 0)] (w_All cy qsm qbsa qbsb qrd qdi qrof qpn qse qfo qro qra qvc qos qli qfot qrot qrat qvct qost qlit sm bsa bsb rd di rof pn se fo ro ra vc os li fot rot rat vct ost lit) r := by
  refine RO_of RX11 rfl (by decide) (Nat.le_of_ble_eq_true rfl) ?_
  intro p e s m below meth c C0 hK hP ls hl
  obtain ⟨hx, hb, hr, hml, hown, hts, hk⟩ := id C0
  unfold St_unfair at hp
  have hl : lv_has ls 1 [(0, .ref (qsm 0))] := hl
  refine lv_aload_n hx hb dX11_unfair_0 rfl (lv_at hl 0 rfl) ?_
  refine gf_X11_57 hx hb hts hown hK hP 0 rfl rfl dX11_unfair_1 ?_
  obtain ⟨r_2, hc_1, hp⟩ := bn1_s hp
  refine k_ROV (As := []) (rest := []) ⟨hx, hb, hml, hown, hts⟩ hK (hP.sub (ws' := (w_Fi cy qfo qro qra qvc qos qli fo ro ra vc os li)) [20, 21, 22, 23, 24, 25, 26, 27, 28, 29, 30, 31, 32, 33, 34, 35, 36, 37, 38, 39, 40, 41, 42] rfl) (cw_X11_346 hts ⟨Nat.le_of_ble_eq_true rfl, Nat.le_of_ble_eq_true rfl⟩) 0 (ci := 2) rfl rfl rfl (c_X2_unfairness l D cy qfo qro qra qvc qos qli fo ro ra vc os li r_2 hc_1) rfl hl.1 (Nat.le_of_ble_eq_true rfl) ⟨Nat.le_refl _, Nat.le_refl _⟩ dX11_unfair_4 ?_
  exact e_ROi hx hb hr hk dX11_unfair_7 (Option.some.inj hp)
/-! StormSlots.link(III)I -/
def St_link (ro : Mem) (li : Mem) (p1 : Int32) (p2 : Int32) (p3 : Int32) : Option (Int32 × Mem) :=
  bn1 (Fi_isFlight ro p1) (fun r_2 => if r_2 = 0 then some ((-1), li) else bn1 (Fi_isFlight ro p2) (fun r_5 => if r_5 = 0 then some ((-1), li) else if p1 = p2 then some ((-1), li) else if p3 < 0 then some ((-1), li) else if p3 ≤ 300 then bn2 (Li_add li p1 p2 p3) (fun r_11 li_12 => some (r_11, li_12)) else some ((-1), li)))
set_option maxHeartbeats 4000000 in
set_option maxRecDepth 100000 in
theorem c_X11_link (l : Launch) (D : va_G) (cy : Nat → ClassId) (qsm qbsa qbsb qrd qdi qrof qpn qse qfo qro qra qvc qos qli qfot qrot qrat qvct qost qlit : Nat → Nat) (sm bsa bsb rd di rof pn se fo ro ra vc os li fot rot rat vct ost lit : Mem) (p1 p2 p3 : Int32) (r : Int32) (li' : Mem) (hp : St_link ro li p1 p2 p3 = some (r, li')) : RI l yX11_link cX11_link 4 (some .int) 1 D cy [.ref (qsm 0), .int p1, .int p2, .int p3] (w_All cy qsm qbsa qbsb qrd qdi qrof qpn qse qfo qro qra qvc qos qli qfot qrot qrat qvct qost qlit sm bsa bsb rd di rof pn se fo ro ra vc os li fot rot rat vct ost lit) (w_All cy qsm qbsa qbsb qrd qdi qrof qpn qse qfo qro qra qvc qos qli qfot qrot qrat qvct qost qlit sm bsa bsb rd di rof pn se fo ro ra vc os li' fot rot rat vct ost lit) r := by
  refine RI_of RX11 rfl (by decide) (Nat.le_of_ble_eq_true rfl) ?_
  intro p e s m below meth c A C0 hK hP hD hS hA ls hl
  obtain ⟨hx, hb, hr, hml, hown, hts, hk⟩ := id C0
  unfold St_link at hp
  have hl : lv_has ls 4 [(0, .ref (qsm 0)), (1, .int p1), (2, .int p2), (3, .int p3)] := hl
  refine lv_aload_n hx hb dX11_link_0 rfl (lv_at hl 0 rfl) ?_
  refine gf_X11_57 hx hb hts hown hK hP 0 rfl rfl dX11_link_1 ?_
  refine lv_iload_n hx hb dX11_link_4 rfl (lv_at hl 1 rfl) ?_
  obtain ⟨r_2, hc_1, hp⟩ := bn1_s hp
  refine k_ROV (As := [.int p1]) (rest := []) ⟨hx, hb, hml, hown, hts⟩ hK (hP.sub (ws' := (w_Fi cy qfo qro qra qvc qos qli fo ro ra vc os li)) [20, 21, 22, 23, 24, 25, 26, 27, 28, 29, 30, 31, 32, 33, 34, 35, 36, 37, 38, 39, 40, 41, 42] rfl) (cw_X11_145 hts ⟨Nat.le_of_ble_eq_true rfl, Nat.le_of_ble_eq_true rfl⟩) 0 (ci := 2) rfl rfl rfl (c_X2_isFlight l D cy qfo qro qra qvc qos qli fo ro ra vc os li p1 r_2 hc_1) rfl hl.1 (Nat.le_of_ble_eq_true rfl) ⟨Nat.le_refl _, Nat.le_refl _⟩ dX11_link_5 ?_
  refine lv_if_eq (tgt := 27) hx hb dX11_link_8 (by decide) (fun c_3 => ?_) (fun c_3 => ?_)
  · have hp := ite_p hp c_3
    refine lv_iconst (v := (-1)) hx hb dX11_link_27 (by decide) ?_
    simp only [Option.some.injEq, Prod.mk.injEq] at hp
    obtain ⟨h0, rfl⟩ := hp
    exact e_RIi hx hb hr hk hP hD hS dX11_link_28 h0
  · have hp := ite_n hp c_3
    refine lv_aload_n hx hb dX11_link_11 rfl (lv_at hl 0 rfl) ?_
    refine gf_X11_57 hx hb hts hown hK hP 0 rfl rfl dX11_link_12 ?_
    refine lv_iload_n hx hb dX11_link_15 rfl (lv_at hl 2 rfl) ?_
    obtain ⟨r_5, hc_4, hp⟩ := bn1_s hp
    refine k_ROV (As := [.int p2]) (rest := []) ⟨hx, hb, hml, hown, hts⟩ hK (hP.sub (ws' := (w_Fi cy qfo qro qra qvc qos qli fo ro ra vc os li)) [20, 21, 22, 23, 24, 25, 26, 27, 28, 29, 30, 31, 32, 33, 34, 35, 36, 37, 38, 39, 40, 41, 42] rfl) (cw_X11_145 hts ⟨Nat.le_of_ble_eq_true rfl, Nat.le_of_ble_eq_true rfl⟩) 0 (ci := 2) rfl rfl rfl (c_X2_isFlight l D cy qfo qro qra qvc qos qli fo ro ra vc os li p2 r_5 hc_4) rfl hl.1 (Nat.le_of_ble_eq_true rfl) ⟨Nat.le_refl _, Nat.le_refl _⟩ dX11_link_16 ?_
    refine lv_if_eq (tgt := 27) hx hb dX11_link_19 (by decide) (fun c_6 => ?_) (fun c_6 => ?_)
    · have hp := ite_p hp c_6
      refine lv_iconst (v := (-1)) hx hb dX11_link_27 (by decide) ?_
      simp only [Option.some.injEq, Prod.mk.injEq] at hp
      obtain ⟨h0, rfl⟩ := hp
      exact e_RIi hx hb hr hk hP hD hS dX11_link_28 h0
    · have hp := ite_n hp c_6
      refine lv_iload_n hx hb dX11_link_22 rfl (lv_at hl 1 rfl) ?_
      refine lv_iload_n hx hb dX11_link_23 rfl (lv_at hl 2 rfl) ?_
      refine lv_icmp_ne (tgt := 29) hx hb dX11_link_24 (by decide) (fun c_7 => ?_) (fun c_7 => ?_)
      · have hp := ite_n hp c_7
        refine lv_iload_n hx hb dX11_link_29 rfl (lv_at hl 3 rfl) ?_
        refine lv_if_lt (tgt := 40) hx hb dX11_link_30 (by decide) (fun c_8 => ?_) (fun c_8 => ?_)
        · have hp := ite_p hp c_8
          refine lv_iconst (v := (-1)) hx hb dX11_link_40 (by decide) ?_
          simp only [Option.some.injEq, Prod.mk.injEq] at hp
          obtain ⟨h0, rfl⟩ := hp
          exact e_RIi hx hb hr hk hP hD hS dX11_link_41 h0
        · have hp := ite_n hp c_8
          refine lv_iload_n hx hb dX11_link_33 rfl (lv_at hl 3 rfl) ?_
          refine lv_sipush (v := 300) hx hb dX11_link_34 (by decide) ?_
          refine lv_icmp_le (tgt := 42) hx hb dX11_link_37 (by decide) (fun c_9 => ?_) (fun c_9 => ?_)
          · have hp := ite_p hp c_9
            refine lv_aload_n hx hb dX11_link_42 rfl (lv_at hl 0 rfl) ?_
            refine gf_X11_57 hx hb hts hown hK hP 0 rfl rfl dX11_link_43 ?_
            refine gf_X11_349 hx hb hts hown hK hP 20 rfl rfl dX11_link_46 ?_
            refine lv_iload_n hx hb dX11_link_49 rfl (lv_at hl 1 rfl) ?_
            refine lv_iload_n hx hb dX11_link_50 rfl (lv_at hl 2 rfl) ?_
            refine lv_iload_n hx hb dX11_link_51 rfl (lv_at hl 3 rfl) ?_
            obtain ⟨r_11, li_12, hc_10, hp⟩ := bn2_s hp
            refine k_RIV (As := [.int p1, .int p2, .int p3]) (rest := []) ⟨hx, hb, hml, hown, hts⟩ hK hP hD hS hA (FrS_set (ws := (w_All cy qsm qbsa qbsb qrd qdi qrof qpn qse qfo qro qra qvc qos qli qfot qrot qrat qvct qost qlit sm bsa bsb rd di rof pn se fo ro ra vc os li fot rot rat vct ost lit)) (wc := (w_Li cy qli li)) (w1 := (w_Li cy qli li_12)) (wn := (w_All cy qsm qbsa qbsb qrd qdi qrof qpn qse qfo qro qra qvc qos qli qfot qrot qrat qvct qost qlit sm bsa bsb rd di rof pn se fo ro ra vc os li_12 fot rot rat vct ost lit)) [39, 40, 41, 42] [none, none, none, none, none, none, none, none, none, none, none, none, none, none, none, none, none, none, none, none, none, none, none, none, none, none, none, none, none, none, none, none, none, none, none, none, none, none, none, some 0, some 1, some 2, some 3, none, none, none, none, none, none, none, none, none, none, none, none, none, none, none, none, none, none, none, none, none, none, none] (by decide +kernel) rfl rfl rfl) (cw_X11_353 hts ⟨Nat.le_of_ble_eq_true rfl, Nat.le_of_ble_eq_true rfl⟩) 0 (ci := 3) rfl rfl rfl (c_X3_add l D cy qli li p1 p2 p3 r_11 li_12 hc_10) rfl hl.1 (Nat.le_of_ble_eq_true rfl) ⟨Nat.le_refl _, Nat.le_refl _⟩ dX11_link_52 (fun H locs hP hD hS => ?_)
            simp only [Option.some.injEq, Prod.mk.injEq] at hp
            obtain ⟨h0, rfl⟩ := hp
            exact e_RIi hx hb hr hk hP hD hS dX11_link_55 h0
          · have hp := ite_n hp c_9
            refine lv_iconst (v := (-1)) hx hb dX11_link_40 (by decide) ?_
            simp only [Option.some.injEq, Prod.mk.injEq] at hp
            obtain ⟨h0, rfl⟩ := hp
            exact e_RIi hx hb hr hk hP hD hS dX11_link_41 h0
      · have hp := ite_p hp c_7
        refine lv_iconst (v := (-1)) hx hb dX11_link_27 (by decide) ?_
        simp only [Option.some.injEq, Prod.mk.injEq] at hp
        obtain ⟨h0, rfl⟩ := hp
        exact e_RIi hx hb hr hk hP hD hS dX11_link_28 h0
/-! StormSlots.linked(II)I -/
def St_linked (fo : Mem) (ro : Mem) (li : Mem) (p1 : Int32) (p2 : Int32) : Option (Int32) :=
  bn1 (Li_has li p1) (fun r_2 => if r_2 = 0 then some (-1) else if p2 = 0 then ckI p1 12 (some (li 0 p1.toNatClampNeg)) else if p2 = 1 then ckI p1 12 (some (li 1 p1.toNatClampNeg)) else if p2 = 2 then ckI p1 12 (some (li 2 p1.toNatClampNeg)) else if p2 = 3 then bn1 (Fi_lackOf fo ro li p1) (fun r_12 => if r_12 = 0 then some 0 else some 1) else if p2 = 4 then bn1 (Fi_lackOf fo ro li p1) (fun r_16 => some r_16) else some (-1))
set_option maxHeartbeats 4000000 in
set_option maxRecDepth 100000 in
theorem c_X11_linked (l : Launch) (D : va_G) (cy : Nat → ClassId) (qsm qbsa qbsb qrd qdi qrof qpn qse qfo qro qra qvc qos qli qfot qrot qrat qvct qost qlit : Nat → Nat) (sm bsa bsb rd di rof pn se fo ro ra vc os li fot rot rat vct ost lit : Mem) (p1 p2 : Int32) (r : Int32) (hp : St_linked fo ro li p1 p2 = some r) : RO l yX11_linked cX11_linked 3 (some .int) 2 D cy [.ref (qsm 0), .int p1, .int p2] (w_All cy qsm qbsa qbsb qrd qdi qrof qpn qse qfo qro qra qvc qos qli qfot qrot qrat qvct qost qlit sm bsa bsb rd di rof pn se fo ro ra vc os li fot rot rat vct ost lit) r := by
  refine RO_of RX11 rfl (by decide) (Nat.le_of_ble_eq_true rfl) ?_
  intro p e s m below meth c C0 hK hP ls hl
  obtain ⟨hx, hb, hr, hml, hown, hts, hk⟩ := id C0
  unfold St_linked at hp
  have hl : lv_has ls 3 [(0, .ref (qsm 0)), (1, .int p1), (2, .int p2)] := hl
  refine lv_aload_n hx hb dX11_linked_0 rfl (lv_at hl 0 rfl) ?_
  refine gf_X11_57 hx hb hts hown hK hP 0 rfl rfl dX11_linked_1 ?_
  refine gf_X11_349 hx hb hts hown hK hP 20 rfl rfl dX11_linked_4 ?_
  refine lv_iload_n hx hb dX11_linked_7 rfl (lv_at hl 1 rfl) ?_
  obtain ⟨r_2, hc_1, hp⟩ := bn1_s hp
  refine k_ROV (As := [.int p1]) (rest := []) ⟨hx, hb, hml, hown, hts⟩ hK (hP.sub (ws' := (w_Li cy qli li)) [39, 40, 41, 42] rfl) (cw_X11_358 hts ⟨Nat.le_of_ble_eq_true rfl, Nat.le_of_ble_eq_true rfl⟩) 0 (ci := 3) rfl rfl rfl (c_X3_has l D cy qli li p1 r_2 hc_1) rfl hl.1 (Nat.le_of_ble_eq_true rfl) ⟨Nat.le_refl _, Nat.le_refl _⟩ dX11_linked_8 ?_
  refine lv_if_ne (tgt := 16) hx hb dX11_linked_11 (by decide) (fun c_3 => ?_) (fun c_3 => ?_)
  · have hp := ite_n hp c_3
    refine lv_iload_n hx hb dX11_linked_16 rfl (lv_at hl 2 rfl) ?_
    by_cases c_4 : p2 = 0
    · have hp := ite_p hp c_4
      refine r_tab (tgt := 52) (off := 35) 0 hx hb dX11_linked_17 c_4 (by decide) (by decide) ?_
      refine lv_aload_n hx hb dX11_linked_52 rfl (lv_at hl 0 rfl) ?_
      refine gf_X11_57 hx hb hts hown hK hP 0 rfl rfl dX11_linked_53 ?_
      refine gf_X11_349 hx hb hts hown hK hP 20 rfl rfl dX11_linked_56 ?_
      refine gf_X11_359 hx hb hts hown hK hP 39 rfl rfl dX11_linked_59 ?_
      refine lv_iload_n hx hb dX11_linked_62 rfl (lv_at hl 1 rfl) ?_
      obtain ⟨hi_5, hp⟩ := ckI_s hp
      refine r_ild hx hb hK hP 40 rfl hi_5 dX11_linked_63 ?_
      exact e_ROi hx hb hr hk dX11_linked_64 (Option.some.inj hp)
    have hp := ite_n hp c_4
    by_cases c_6 : p2 = 1
    · have hp := ite_p hp c_6
      refine r_tab (tgt := 65) (off := 48) 1 hx hb dX11_linked_17 c_6 (by decide) (by decide) ?_
      refine lv_aload_n hx hb dX11_linked_65 rfl (lv_at hl 0 rfl) ?_
      refine gf_X11_57 hx hb hts hown hK hP 0 rfl rfl dX11_linked_66 ?_
      refine gf_X11_349 hx hb hts hown hK hP 20 rfl rfl dX11_linked_69 ?_
      refine gf_X11_362 hx hb hts hown hK hP 39 rfl rfl dX11_linked_72 ?_
      refine lv_iload_n hx hb dX11_linked_75 rfl (lv_at hl 1 rfl) ?_
      obtain ⟨hi_7, hp⟩ := ckI_s hp
      refine r_ild hx hb hK hP 41 rfl hi_7 dX11_linked_76 ?_
      exact e_ROi hx hb hr hk dX11_linked_77 (Option.some.inj hp)
    have hp := ite_n hp c_6
    by_cases c_8 : p2 = 2
    · have hp := ite_p hp c_8
      refine r_tab (tgt := 78) (off := 61) 2 hx hb dX11_linked_17 c_8 (by decide) (by decide) ?_
      refine lv_aload_n hx hb dX11_linked_78 rfl (lv_at hl 0 rfl) ?_
      refine gf_X11_57 hx hb hts hown hK hP 0 rfl rfl dX11_linked_79 ?_
      refine gf_X11_349 hx hb hts hown hK hP 20 rfl rfl dX11_linked_82 ?_
      refine gf_X11_365 hx hb hts hown hK hP 39 rfl rfl dX11_linked_85 ?_
      refine lv_iload_n hx hb dX11_linked_88 rfl (lv_at hl 1 rfl) ?_
      obtain ⟨hi_9, hp⟩ := ckI_s hp
      refine r_ild hx hb hK hP 42 rfl hi_9 dX11_linked_89 ?_
      exact e_ROi hx hb hr hk dX11_linked_90 (Option.some.inj hp)
    have hp := ite_n hp c_8
    by_cases c_10 : p2 = 3
    · have hp := ite_p hp c_10
      refine r_tab (tgt := 91) (off := 74) 3 hx hb dX11_linked_17 c_10 (by decide) (by decide) ?_
      refine lv_aload_n hx hb dX11_linked_91 rfl (lv_at hl 0 rfl) ?_
      refine gf_X11_57 hx hb hts hown hK hP 0 rfl rfl dX11_linked_92 ?_
      refine lv_iload_n hx hb dX11_linked_95 rfl (lv_at hl 1 rfl) ?_
      obtain ⟨r_12, hc_11, hp⟩ := bn1_s hp
      refine k_ROV (As := [.int p1]) (rest := []) ⟨hx, hb, hml, hown, hts⟩ hK (hP.sub (ws' := (w_Fi cy qfo qro qra qvc qos qli fo ro ra vc os li)) [20, 21, 22, 23, 24, 25, 26, 27, 28, 29, 30, 31, 32, 33, 34, 35, 36, 37, 38, 39, 40, 41, 42] rfl) (cw_X11_368 hts ⟨Nat.le_of_ble_eq_true rfl, Nat.le_of_ble_eq_true rfl⟩) 0 (ci := 2) rfl rfl rfl (c_X2_lackOf l D cy qfo qro qra qvc qos qli fo ro ra vc os li p1 r_12 hc_11) rfl hl.1 (Nat.le_of_ble_eq_true rfl) ⟨Nat.le_refl _, Nat.le_refl _⟩ dX11_linked_96 ?_
      refine lv_if_ne (tgt := 106) hx hb dX11_linked_99 (by decide) (fun c_13 => ?_) (fun c_13 => ?_)
      · have hp := ite_n hp c_13
        refine lv_iconst (v := 1) hx hb dX11_linked_106 (by decide) ?_
        exact e_ROi hx hb hr hk dX11_linked_107 (Option.some.inj hp)
      · have hp := ite_p hp c_13
        refine lv_iconst (v := 0) hx hb dX11_linked_102 (by decide) ?_
        refine lv_goto (tgt := 107) hx hb dX11_linked_103 (by decide) ?_
        exact e_ROi hx hb hr hk dX11_linked_107 (Option.some.inj hp)
    have hp := ite_n hp c_10
    by_cases c_14 : p2 = 4
    · have hp := ite_p hp c_14
      refine r_tab (tgt := 108) (off := 91) 4 hx hb dX11_linked_17 c_14 (by decide) (by decide) ?_
      refine lv_aload_n hx hb dX11_linked_108 rfl (lv_at hl 0 rfl) ?_
      refine gf_X11_57 hx hb hts hown hK hP 0 rfl rfl dX11_linked_109 ?_
      refine lv_iload_n hx hb dX11_linked_112 rfl (lv_at hl 1 rfl) ?_
      obtain ⟨r_16, hc_15, hp⟩ := bn1_s hp
      refine k_ROV (As := [.int p1]) (rest := []) ⟨hx, hb, hml, hown, hts⟩ hK (hP.sub (ws' := (w_Fi cy qfo qro qra qvc qos qli fo ro ra vc os li)) [20, 21, 22, 23, 24, 25, 26, 27, 28, 29, 30, 31, 32, 33, 34, 35, 36, 37, 38, 39, 40, 41, 42] rfl) (cw_X11_368 hts ⟨Nat.le_of_ble_eq_true rfl, Nat.le_of_ble_eq_true rfl⟩) 0 (ci := 2) rfl rfl rfl (c_X2_lackOf l D cy qfo qro qra qvc qos qli fo ro ra vc os li p1 r_16 hc_15) rfl hl.1 (Nat.le_of_ble_eq_true rfl) ⟨Nat.le_refl _, Nat.le_refl _⟩ dX11_linked_113 ?_
      exact e_ROi hx hb hr hk dX11_linked_116 (Option.some.inj hp)
    have hp := ite_n hp c_14
    refine lv_tableOut (tgt := 117) hx hb dX11_linked_17 (by have zc_4 : (p2).toInt ≠ 0 := ne_toInt c_4; have zc_6 : (p2).toInt ≠ 1 := ne_toInt c_6; have zc_8 : (p2).toInt ≠ 2 := ne_toInt c_8; have zc_10 : (p2).toInt ≠ 3 := ne_toInt c_10; have zc_14 : (p2).toInt ≠ 4 := ne_toInt c_14; omega) (by decide) ?_
    refine lv_iconst (v := (-1)) hx hb dX11_linked_117 (by decide) ?_
    exact e_ROi hx hb hr hk dX11_linked_118 (Option.some.inj hp)
  · have hp := ite_p hp c_3
    refine lv_iconst (v := (-1)) hx hb dX11_linked_14 (by decide) ?_
    exact e_ROi hx hb hr hk dX11_linked_15 (Option.some.inj hp)
/-! StormSlots.breaks(II)I -/
def St_breaks (fo : Mem) (ro : Mem) (ra : Mem) (vc : Mem) (os : Mem) (li : Mem) (fot : Mem) (rot : Mem) (rat : Mem) (vct : Mem) (ost : Mem) (lit : Mem) (p1 : Int32) (p2 : Int32) : Option (Int32 × Mem × Mem × Mem × Mem × Mem × Mem) :=
  bn1 (Fi_isFlight ro p1) (fun r_2 => if r_2 = 0 then some ((-1000000), fot, rot, rat, vct, ost, lit) else bn1 (St_isMinute p2) (fun r_5 => if r_5 = 0 then some ((-1000000), fot, rot, rat, vct, ost, lit) else bn1 (Fi_isGrounded fo ro p1) (fun r_8 => if r_8 = 0 then some ((-1000000), fot, rot, rat, vct, ost, lit) else bn1 (Fi_earliest fo ro p1) (fun r_11 => if r_11 ≤ p2 then bn6 (Fi_copyFrom fot rot rat vct ost lit fo ro ra vc os li) (fun fot_14 rot_15 rat_16 vct_17 ost_18 lit_19 => bn1 (Fi_seatOnGround fot_14 rot_15 p1 p2) (fun fot_21 => bn1 (Fi_countBroken fot_21 rot_15 lit_19) (fun r_23 => bn1 (Fi_countBroken fo ro li) (fun r_25 => some ((r_23 - r_25), fot_21, rot_15, rat_16, vct_17, ost_18, lit_19))))) else some ((-1000000), fot, rot, rat, vct, ost, lit)))))
set_option maxHeartbeats 4000000 in
set_option maxRecDepth 100000 in
theorem c_X11_breaks (l : Launch) (D : va_G) (cy : Nat → ClassId) (qsm qbsa qbsb qrd qdi qrof qpn qse qfo qro qra qvc qos qli qfot qrot qrat qvct qost qlit : Nat → Nat) (sm bsa bsb rd di rof pn se fo ro ra vc os li fot rot rat vct ost lit : Mem) (p1 p2 : Int32) (r : Int32) (fot' rot' rat' vct' ost' lit' : Mem) (hp : St_breaks fo ro ra vc os li fot rot rat vct ost lit p1 p2 = some (r, fot', rot', rat', vct', ost', lit')) : RI l yX11_breaks cX11_breaks 3 (some .int) 3 D cy [.ref (qsm 0), .int p1, .int p2] (w_All cy qsm qbsa qbsb qrd qdi qrof qpn qse qfo qro qra qvc qos qli qfot qrot qrat qvct qost qlit sm bsa bsb rd di rof pn se fo ro ra vc os li fot rot rat vct ost lit) (w_All cy qsm qbsa qbsb qrd qdi qrof qpn qse qfo qro qra qvc qos qli qfot qrot qrat qvct qost qlit sm bsa bsb rd di rof pn se fo ro ra vc os li fot' rot' rat' vct' ost' lit') r := by
  refine RI_of RX11 rfl (by decide) (Nat.le_of_ble_eq_true rfl) ?_
  intro p e s m below meth c A C0 hK hP hD hS hA ls hl
  obtain ⟨hx, hb, hr, hml, hown, hts, hk⟩ := id C0
  unfold St_breaks at hp
  have hl : lv_has ls 3 [(0, .ref (qsm 0)), (1, .int p1), (2, .int p2)] := hl
  refine lv_aload_n hx hb dX11_breaks_0 rfl (lv_at hl 0 rfl) ?_
  refine gf_X11_57 hx hb hts hown hK hP 0 rfl rfl dX11_breaks_1 ?_
  refine lv_iload_n hx hb dX11_breaks_4 rfl (lv_at hl 1 rfl) ?_
  obtain ⟨r_2, hc_1, hp⟩ := bn1_s hp
  refine k_ROV (As := [.int p1]) (rest := []) ⟨hx, hb, hml, hown, hts⟩ hK (hP.sub (ws' := (w_Fi cy qfo qro qra qvc qos qli fo ro ra vc os li)) [20, 21, 22, 23, 24, 25, 26, 27, 28, 29, 30, 31, 32, 33, 34, 35, 36, 37, 38, 39, 40, 41, 42] rfl) (cw_X11_145 hts ⟨Nat.le_of_ble_eq_true rfl, Nat.le_of_ble_eq_true rfl⟩) 0 (ci := 2) rfl rfl rfl (c_X2_isFlight l D cy qfo qro qra qvc qos qli fo ro ra vc os li p1 r_2 hc_1) rfl hl.1 (Nat.le_of_ble_eq_true rfl) ⟨Nat.le_refl _, Nat.le_refl _⟩ dX11_breaks_5 ?_
  refine lv_if_eq (tgt := 18) hx hb dX11_breaks_8 (by decide) (fun c_3 => ?_) (fun c_3 => ?_)
  · have hp := ite_p hp c_3
    refine lc_X11_228 hx hb hts hown dX11_breaks_18 ?_
    simp only [Option.some.injEq, Prod.mk.injEq] at hp
    obtain ⟨h0, rfl, rfl, rfl, rfl, rfl, rfl⟩ := hp
    exact e_RIi hx hb hr hk hP hD hS dX11_breaks_20 h0
  · have hp := ite_n hp c_3
    refine lv_iload_n hx hb dX11_breaks_11 rfl (lv_at hl 2 rfl) ?_
    obtain ⟨r_5, hc_4, hp⟩ := bn1_s hp
    refine k_ROS (As := [.int p2]) (rest := []) ⟨hx, hb, hml, hown, hts⟩ hK (show va_P D vwCl [] _ from fun k q h => by simp at h) (cw_X11_188 hts ⟨Nat.le_of_ble_eq_true rfl, Nat.le_of_ble_eq_true rfl⟩) (c_X11_isMinute l D cy p2 r_5 hc_4) rfl hl.1 (Nat.le_of_ble_eq_true rfl) ⟨Nat.le_refl _, Nat.le_refl _⟩ dX11_breaks_12 ?_
    refine lv_if_ne (tgt := 21) hx hb dX11_breaks_15 (by decide) (fun c_6 => ?_) (fun c_6 => ?_)
    · have hp := ite_n hp c_6
      refine lv_aload_n hx hb dX11_breaks_21 rfl (lv_at hl 0 rfl) ?_
      refine gf_X11_57 hx hb hts hown hK hP 0 rfl rfl dX11_breaks_22 ?_
      refine lv_iload_n hx hb dX11_breaks_25 rfl (lv_at hl 1 rfl) ?_
      obtain ⟨r_8, hc_7, hp⟩ := bn1_s hp
      refine k_ROV (As := [.int p1]) (rest := []) ⟨hx, hb, hml, hown, hts⟩ hK (hP.sub (ws' := (w_Fi cy qfo qro qra qvc qos qli fo ro ra vc os li)) [20, 21, 22, 23, 24, 25, 26, 27, 28, 29, 30, 31, 32, 33, 34, 35, 36, 37, 38, 39, 40, 41, 42] rfl) (cw_X11_232 hts ⟨Nat.le_of_ble_eq_true rfl, Nat.le_of_ble_eq_true rfl⟩) 0 (ci := 2) rfl rfl rfl (c_X2_isGrounded l D cy qfo qro qra qvc qos qli fo ro ra vc os li p1 r_8 hc_7) rfl hl.1 (Nat.le_of_ble_eq_true rfl) ⟨Nat.le_refl _, Nat.le_refl _⟩ dX11_breaks_26 ?_
      refine lv_if_eq (tgt := 44) hx hb dX11_breaks_29 (by decide) (fun c_9 => ?_) (fun c_9 => ?_)
      · have hp := ite_p hp c_9
        refine lc_X11_228 hx hb hts hown dX11_breaks_44 ?_
        simp only [Option.some.injEq, Prod.mk.injEq] at hp
        obtain ⟨h0, rfl, rfl, rfl, rfl, rfl, rfl⟩ := hp
        exact e_RIi hx hb hr hk hP hD hS dX11_breaks_46 h0
      · have hp := ite_n hp c_9
        refine lv_iload_n hx hb dX11_breaks_32 rfl (lv_at hl 2 rfl) ?_
        refine lv_aload_n hx hb dX11_breaks_33 rfl (lv_at hl 0 rfl) ?_
        refine gf_X11_57 hx hb hts hown hK hP 0 rfl rfl dX11_breaks_34 ?_
        refine lv_iload_n hx hb dX11_breaks_37 rfl (lv_at hl 1 rfl) ?_
        obtain ⟨r_11, hc_10, hp⟩ := bn1_s hp
        refine k_ROV (As := [.int p1]) (rest := [.int p2]) ⟨hx, hb, hml, hown, hts⟩ hK (hP.sub (ws' := (w_Fi cy qfo qro qra qvc qos qli fo ro ra vc os li)) [20, 21, 22, 23, 24, 25, 26, 27, 28, 29, 30, 31, 32, 33, 34, 35, 36, 37, 38, 39, 40, 41, 42] rfl) (cw_X11_161 hts ⟨Nat.le_of_ble_eq_true rfl, Nat.le_of_ble_eq_true rfl⟩) 0 (ci := 2) rfl rfl rfl (c_X2_earliest l D cy qfo qro qra qvc qos qli fo ro ra vc os li p1 r_11 hc_10) rfl hl.1 (Nat.le_of_ble_eq_true rfl) ⟨Nat.le_refl _, Nat.le_refl _⟩ dX11_breaks_38 ?_
        refine lv_icmp_ge (tgt := 47) hx hb dX11_breaks_41 (by decide) (fun c_12 => ?_) (fun c_12 => ?_)
        · have hp := ite_p hp c_12
          refine lv_aload_n hx hb dX11_breaks_47 rfl (lv_at hl 0 rfl) ?_
          refine gf_X11_61 hx hb hts hown hK hP 0 rfl rfl dX11_breaks_48 ?_
          refine lv_aload_n hx hb dX11_breaks_51 rfl (lv_at hl 0 rfl) ?_
          refine gf_X11_57 hx hb hts hown hK hP 0 rfl rfl dX11_breaks_52 ?_
          obtain ⟨fot_14, rot_15, rat_16, vct_17, ost_18, lit_19, hc_13, hp⟩ := bn6_s hp
          refine k_RVV (As := [.ref (qfo 0)]) (rest := []) ⟨hx, hb, hml, hown, hts⟩ hK hP hD hS hA (FrS_set (ws := (w_All cy qsm qbsa qbsb qrd qdi qrof qpn qse qfo qro qra qvc qos qli qfot qrot qrat qvct qost qlit sm bsa bsb rd di rof pn se fo ro ra vc os li fot rot rat vct ost lit)) (wc := (w_FiFi cy qfot qrot qrat qvct qost qlit qfo qro qra qvc qos qli fot rot rat vct ost lit fo ro ra vc os li)) (w1 := (w_FiFi cy qfot qrot qrat qvct qost qlit qfo qro qra qvc qos qli fot_14 rot_15 rat_16 vct_17 ost_18 lit_19 fo ro ra vc os li)) (wn := (w_All cy qsm qbsa qbsb qrd qdi qrof qpn qse qfo qro qra qvc qos qli qfot qrot qrat qvct qost qlit sm bsa bsb rd di rof pn se fo ro ra vc os li fot_14 rot_15 rat_16 vct_17 ost_18 lit_19)) [43, 44, 45, 46, 47, 48, 49, 50, 51, 52, 53, 54, 55, 56, 57, 58, 59, 60, 61, 62, 63, 64, 65, 20, 21, 22, 23, 24, 25, 26, 27, 28, 29, 30, 31, 32, 33, 34, 35, 36, 37, 38, 39, 40, 41, 42] [none, none, none, none, none, none, none, none, none, none, none, none, none, none, none, none, none, none, none, none, some 23, some 24, some 25, some 26, some 27, some 28, some 29, some 30, some 31, some 32, some 33, some 34, some 35, some 36, some 37, some 38, some 39, some 40, some 41, some 42, some 43, some 44, some 45, some 0, some 1, some 2, some 3, some 4, some 5, some 6, some 7, some 8, some 9, some 10, some 11, some 12, some 13, some 14, some 15, some 16, some 17, some 18, some 19, some 20, some 21, some 22] (by decide +kernel) rfl rfl rfl) (cw_X11_371 hts ⟨Nat.le_of_ble_eq_true rfl, Nat.le_of_ble_eq_true rfl⟩) 0 (ci := 2) rfl rfl rfl (c_X2_copyFrom l D cy qfot qrot qrat qvct qost qlit qfo qro qra qvc qos qli fot rot rat vct ost lit fo ro ra vc os li fot_14 rot_15 rat_16 vct_17 ost_18 lit_19 hc_13) rfl hl.1 (Nat.le_of_ble_eq_true rfl) ⟨Nat.le_refl _, Nat.le_refl _⟩ dX11_breaks_55 (fun H locs hP hD hS => ?_)
          refine lv_aload_n hx hb dX11_breaks_58 rfl (lv_at hl 0 rfl) ?_
          refine gf_X11_61 hx hb hts hown hK hP 0 rfl rfl dX11_breaks_59 ?_
          refine lv_iload_n hx hb dX11_breaks_62 rfl (lv_at hl 1 rfl) ?_
          refine lv_iload_n hx hb dX11_breaks_63 rfl (lv_at hl 2 rfl) ?_
          obtain ⟨fot_21, hc_20, hp⟩ := bn1_s hp
          refine k_RVV (As := [.int p1, .int p2]) (rest := []) ⟨hx, hb, hml, hown, hts⟩ hK hP hD hS hA (FrS_set (ws := (w_All cy qsm qbsa qbsb qrd qdi qrof qpn qse qfo qro qra qvc qos qli qfot qrot qrat qvct qost qlit sm bsa bsb rd di rof pn se fo ro ra vc os li fot_14 rot_15 rat_16 vct_17 ost_18 lit_19)) (wc := (w_Fi cy qfot qrot qrat qvct qost qlit fot_14 rot_15 rat_16 vct_17 ost_18 lit_19)) (w1 := (w_Fi cy qfot qrot qrat qvct qost qlit fot_21 rot_15 rat_16 vct_17 ost_18 lit_19)) (wn := (w_All cy qsm qbsa qbsb qrd qdi qrof qpn qse qfo qro qra qvc qos qli qfot qrot qrat qvct qost qlit sm bsa bsb rd di rof pn se fo ro ra vc os li fot_21 rot_15 rat_16 vct_17 ost_18 lit_19)) [43, 44, 45, 46, 47, 48, 49, 50, 51, 52, 53, 54, 55, 56, 57, 58, 59, 60, 61, 62, 63, 64, 65] [none, none, none, none, none, none, none, none, none, none, none, none, none, none, none, none, none, none, none, none, none, none, none, none, none, none, none, none, none, none, none, none, none, none, none, none, none, none, none, none, none, none, none, some 0, some 1, some 2, some 3, some 4, some 5, some 6, some 7, some 8, some 9, some 10, some 11, some 12, some 13, some 14, some 15, some 16, some 17, some 18, some 19, some 20, some 21, some 22] (by decide +kernel) rfl rfl rfl) (cw_X11_331 hts ⟨Nat.le_of_ble_eq_true rfl, Nat.le_of_ble_eq_true rfl⟩) 0 (ci := 2) rfl rfl rfl (c_X2_seatOnGround l D cy qfot qrot qrat qvct qost qlit fot_14 rot_15 rat_16 vct_17 ost_18 lit_19 p1 p2 fot_21 hc_20) rfl hl.1 (Nat.le_of_ble_eq_true rfl) ⟨Nat.le_refl _, Nat.le_refl _⟩ dX11_breaks_64 (fun H locs hP hD hS => ?_)
          refine lv_aload_n hx hb dX11_breaks_67 rfl (lv_at hl 0 rfl) ?_
          refine gf_X11_61 hx hb hts hown hK hP 0 rfl rfl dX11_breaks_68 ?_
          obtain ⟨r_23, hc_22, hp⟩ := bn1_s hp
          refine k_ROV (As := []) (rest := []) ⟨hx, hb, hml, hown, hts⟩ hK (hP.sub (ws' := (w_Fi cy qfot qrot qrat qvct qost qlit fot_21 rot_15 rat_16 vct_17 ost_18 lit_19)) [43, 44, 45, 46, 47, 48, 49, 50, 51, 52, 53, 54, 55, 56, 57, 58, 59, 60, 61, 62, 63, 64, 65] rfl) (cw_X11_375 hts ⟨Nat.le_of_ble_eq_true rfl, Nat.le_of_ble_eq_true rfl⟩) 0 (ci := 2) rfl rfl rfl (c_X2_countBroken l D cy qfot qrot qrat qvct qost qlit fot_21 rot_15 rat_16 vct_17 ost_18 lit_19 r_23 hc_22) rfl hl.1 (Nat.le_of_ble_eq_true rfl) ⟨Nat.le_refl _, Nat.le_refl _⟩ dX11_breaks_71 ?_
          refine lv_aload_n hx hb dX11_breaks_74 rfl (lv_at hl 0 rfl) ?_
          refine gf_X11_57 hx hb hts hown hK hP 0 rfl rfl dX11_breaks_75 ?_
          obtain ⟨r_25, hc_24, hp⟩ := bn1_s hp
          refine k_ROV (As := []) (rest := [.int r_23]) ⟨hx, hb, hml, hown, hts⟩ hK (hP.sub (ws' := (w_Fi cy qfo qro qra qvc qos qli fo ro ra vc os li)) [20, 21, 22, 23, 24, 25, 26, 27, 28, 29, 30, 31, 32, 33, 34, 35, 36, 37, 38, 39, 40, 41, 42] rfl) (cw_X11_375 hts ⟨Nat.le_of_ble_eq_true rfl, Nat.le_of_ble_eq_true rfl⟩) 0 (ci := 2) rfl rfl rfl (c_X2_countBroken l D cy qfo qro qra qvc qos qli fo ro ra vc os li r_25 hc_24) rfl hl.1 (Nat.le_of_ble_eq_true rfl) ⟨Nat.le_refl _, Nat.le_refl _⟩ dX11_breaks_78 ?_
          refine lv_isub hx hb dX11_breaks_81 ?_
          simp only [Option.some.injEq, Prod.mk.injEq] at hp
          obtain ⟨h0, rfl, rfl, rfl, rfl, rfl, rfl⟩ := hp
          exact e_RIi hx hb hr hk hP hD hS dX11_breaks_82 h0
        · have hp := ite_n hp c_12
          refine lc_X11_228 hx hb hts hown dX11_breaks_44 ?_
          simp only [Option.some.injEq, Prod.mk.injEq] at hp
          obtain ⟨h0, rfl, rfl, rfl, rfl, rfl, rfl⟩ := hp
          exact e_RIi hx hb hr hk hP hD hS dX11_breaks_46 h0
    · have hp := ite_p hp c_6
      refine lc_X11_228 hx hb hts hown dX11_breaks_18 ?_
      simp only [Option.some.injEq, Prod.mk.injEq] at hp
      obtain ⟨h0, rfl, rfl, rfl, rfl, rfl, rfl⟩ := hp
      exact e_RIi hx hb hr hk hP hD hS dX11_breaks_20 h0
/-! StormSlots.round(III)I -/
def St_round (fo : Mem) (ro : Mem) (os : Mem) (p1 : Int32) (p2 : Int32) (p3 : Int32) : Option (Int32 × Mem × Mem) :=
  bn1 (Fi_canRound fo ro os p1 p2 p3) (fun r_2 => if r_2 = 0 then some ((-1000000), fo, os) else bn1 (Fi_tradeGain fo ro os p1 p2) (fun r_5 => bn1 (Fi_tradeGain fo ro os p2 p3) (fun r_7 => bn1 (Fi_tradeGain fo ro os p3 p1) (fun r_9 => stk ((r_5 + r_7) + r_9) (fun x4_10 => bn1 (Fi_trade fo ro os p1 p2) (fun fo_12 => bn1 (Fi_trade fo_12 ro os p2 p3) (fun fo_14 => bn1 (Fi_trade fo_14 ro os p3 p1) (fun fo_16 => bn1 (Of_drop os p1) (fun os_18 => bn1 (Of_drop os_18 p2) (fun os_20 => bn1 (Of_drop os_20 p3) (fun os_22 => some (x4_10, fo_16, os_22))))))))))))
set_option maxHeartbeats 4000000 in
set_option maxRecDepth 100000 in
theorem c_X11_round (l : Launch) (D : va_G) (cy : Nat → ClassId) (qsm qbsa qbsb qrd qdi qrof qpn qse qfo qro qra qvc qos qli qfot qrot qrat qvct qost qlit : Nat → Nat) (sm bsa bsb rd di rof pn se fo ro ra vc os li fot rot rat vct ost lit : Mem) (p1 p2 p3 : Int32) (r : Int32) (fo' os' : Mem) (hp : St_round fo ro os p1 p2 p3 = some (r, fo', os')) : RI l yX11_round cX11_round 5 (some .int) 4 D cy [.ref (qsm 0), .int p1, .int p2, .int p3] (w_All cy qsm qbsa qbsb qrd qdi qrof qpn qse qfo qro qra qvc qos qli qfot qrot qrat qvct qost qlit sm bsa bsb rd di rof pn se fo ro ra vc os li fot rot rat vct ost lit) (w_All cy qsm qbsa qbsb qrd qdi qrof qpn qse qfo qro qra qvc qos qli qfot qrot qrat qvct qost qlit sm bsa bsb rd di rof pn se fo' ro ra vc os' li fot rot rat vct ost lit) r := by
  refine RI_of RX11 rfl (by decide) (Nat.le_of_ble_eq_true rfl) ?_
  intro p e s m below meth c A C0 hK hP hD hS hA ls hl
  obtain ⟨hx, hb, hr, hml, hown, hts, hk⟩ := id C0
  unfold St_round at hp
  have hl : lv_has ls 5 [(0, .ref (qsm 0)), (1, .int p1), (2, .int p2), (3, .int p3)] := hl
  refine lv_aload_n hx hb dX11_round_0 rfl (lv_at hl 0 rfl) ?_
  refine gf_X11_57 hx hb hts hown hK hP 0 rfl rfl dX11_round_1 ?_
  refine lv_iload_n hx hb dX11_round_4 rfl (lv_at hl 1 rfl) ?_
  refine lv_iload_n hx hb dX11_round_5 rfl (lv_at hl 2 rfl) ?_
  refine lv_iload_n hx hb dX11_round_6 rfl (lv_at hl 3 rfl) ?_
  obtain ⟨r_2, hc_1, hp⟩ := bn1_s hp
  refine k_ROV (As := [.int p1, .int p2, .int p3]) (rest := []) ⟨hx, hb, hml, hown, hts⟩ hK (hP.sub (ws' := (w_Fi cy qfo qro qra qvc qos qli fo ro ra vc os li)) [20, 21, 22, 23, 24, 25, 26, 27, 28, 29, 30, 31, 32, 33, 34, 35, 36, 37, 38, 39, 40, 41, 42] rfl) (cw_X11_378 hts ⟨Nat.le_of_ble_eq_true rfl, Nat.le_of_ble_eq_true rfl⟩) 0 (ci := 2) rfl rfl rfl (c_X2_canRound l D cy qfo qro qra qvc qos qli fo ro ra vc os li p1 p2 p3 r_2 hc_1) rfl hl.1 (Nat.le_of_ble_eq_true rfl) ⟨Nat.le_refl _, Nat.le_refl _⟩ dX11_round_7 ?_
  refine lv_if_ne (tgt := 16) hx hb dX11_round_10 (by decide) (fun c_3 => ?_) (fun c_3 => ?_)
  · have hp := ite_n hp c_3
    refine lv_aload_n hx hb dX11_round_16 rfl (lv_at hl 0 rfl) ?_
    refine gf_X11_57 hx hb hts hown hK hP 0 rfl rfl dX11_round_17 ?_
    refine lv_iload_n hx hb dX11_round_20 rfl (lv_at hl 1 rfl) ?_
    refine lv_iload_n hx hb dX11_round_21 rfl (lv_at hl 2 rfl) ?_
    obtain ⟨r_5, hc_4, hp⟩ := bn1_s hp
    refine k_ROV (As := [.int p1, .int p2]) (rest := []) ⟨hx, hb, hml, hown, hts⟩ hK (hP.sub (ws' := (w_Fi cy qfo qro qra qvc qos qli fo ro ra vc os li)) [20, 21, 22, 23, 24, 25, 26, 27, 28, 29, 30, 31, 32, 33, 34, 35, 36, 37, 38, 39, 40, 41, 42] rfl) (cw_X11_382 hts ⟨Nat.le_of_ble_eq_true rfl, Nat.le_of_ble_eq_true rfl⟩) 0 (ci := 2) rfl rfl rfl (c_X2_tradeGain l D cy qfo qro qra qvc qos qli fo ro ra vc os li p1 p2 r_5 hc_4) rfl hl.1 (Nat.le_of_ble_eq_true rfl) ⟨Nat.le_refl _, Nat.le_refl _⟩ dX11_round_22 ?_
    refine lv_aload_n hx hb dX11_round_25 rfl (lv_at hl 0 rfl) ?_
    refine gf_X11_57 hx hb hts hown hK hP 0 rfl rfl dX11_round_26 ?_
    refine lv_iload_n hx hb dX11_round_29 rfl (lv_at hl 2 rfl) ?_
    refine lv_iload_n hx hb dX11_round_30 rfl (lv_at hl 3 rfl) ?_
    obtain ⟨r_7, hc_6, hp⟩ := bn1_s hp
    refine k_ROV (As := [.int p2, .int p3]) (rest := [.int r_5]) ⟨hx, hb, hml, hown, hts⟩ hK (hP.sub (ws' := (w_Fi cy qfo qro qra qvc qos qli fo ro ra vc os li)) [20, 21, 22, 23, 24, 25, 26, 27, 28, 29, 30, 31, 32, 33, 34, 35, 36, 37, 38, 39, 40, 41, 42] rfl) (cw_X11_382 hts ⟨Nat.le_of_ble_eq_true rfl, Nat.le_of_ble_eq_true rfl⟩) 0 (ci := 2) rfl rfl rfl (c_X2_tradeGain l D cy qfo qro qra qvc qos qli fo ro ra vc os li p2 p3 r_7 hc_6) rfl hl.1 (Nat.le_of_ble_eq_true rfl) ⟨Nat.le_refl _, Nat.le_refl _⟩ dX11_round_31 ?_
    refine lv_iadd hx hb dX11_round_34 ?_
    refine lv_aload_n hx hb dX11_round_35 rfl (lv_at hl 0 rfl) ?_
    refine gf_X11_57 hx hb hts hown hK hP 0 rfl rfl dX11_round_36 ?_
    refine lv_iload_n hx hb dX11_round_39 rfl (lv_at hl 3 rfl) ?_
    refine lv_iload_n hx hb dX11_round_40 rfl (lv_at hl 1 rfl) ?_
    obtain ⟨r_9, hc_8, hp⟩ := bn1_s hp
    refine k_ROV (As := [.int p3, .int p1]) (rest := [.int (r_5 + r_7)]) ⟨hx, hb, hml, hown, hts⟩ hK (hP.sub (ws' := (w_Fi cy qfo qro qra qvc qos qli fo ro ra vc os li)) [20, 21, 22, 23, 24, 25, 26, 27, 28, 29, 30, 31, 32, 33, 34, 35, 36, 37, 38, 39, 40, 41, 42] rfl) (cw_X11_382 hts ⟨Nat.le_of_ble_eq_true rfl, Nat.le_of_ble_eq_true rfl⟩) 0 (ci := 2) rfl rfl rfl (c_X2_tradeGain l D cy qfo qro qra qvc qos qli fo ro ra vc os li p3 p1 r_9 hc_8) rfl hl.1 (Nat.le_of_ble_eq_true rfl) ⟨Nat.le_refl _, Nat.le_refl _⟩ dX11_round_41 ?_
    refine lv_iadd hx hb dX11_round_44 ?_
    refine lv_topi (fun x4_10 ex4_10 => ?_)
    have hp := stk_e hp ex4_10
    refine lv_istore (lv' := [(4, .int x4_10), (0, .ref (qsm 0)), (1, .int p1), (2, .int p2), (3, .int p3)]) hx hb dX11_round_45 hl (by decide) rfl (fun ls hl => ?_)
    refine lv_aload_n hx hb dX11_round_47 rfl (lv_at hl 1 rfl) ?_
    refine gf_X11_57 hx hb hts hown hK hP 0 rfl rfl dX11_round_48 ?_
    refine lv_iload_n hx hb dX11_round_51 rfl (lv_at hl 2 rfl) ?_
    refine lv_iload_n hx hb dX11_round_52 rfl (lv_at hl 3 rfl) ?_
    obtain ⟨fo_12, hc_11, hp⟩ := bn1_s hp
    refine k_RVV (As := [.int p1, .int p2]) (rest := []) ⟨hx, hb, hml, hown, hts⟩ hK hP hD hS hA (FrS_set (ws := (w_All cy qsm qbsa qbsb qrd qdi qrof qpn qse qfo qro qra qvc qos qli qfot qrot qrat qvct qost qlit sm bsa bsb rd di rof pn se fo ro ra vc os li fot rot rat vct ost lit)) (wc := (w_Fi cy qfo qro qra qvc qos qli fo ro ra vc os li)) (w1 := (w_Fi cy qfo qro qra qvc qos qli fo_12 ro ra vc os li)) (wn := (w_All cy qsm qbsa qbsb qrd qdi qrof qpn qse qfo qro qra qvc qos qli qfot qrot qrat qvct qost qlit sm bsa bsb rd di rof pn se fo_12 ro ra vc os li fot rot rat vct ost lit)) [20, 21, 22, 23, 24, 25, 26, 27, 28, 29, 30, 31, 32, 33, 34, 35, 36, 37, 38, 39, 40, 41, 42] [none, none, none, none, none, none, none, none, none, none, none, none, none, none, none, none, none, none, none, none, some 0, some 1, some 2, some 3, some 4, some 5, some 6, some 7, some 8, some 9, some 10, some 11, some 12, some 13, some 14, some 15, some 16, some 17, some 18, some 19, some 20, some 21, some 22, none, none, none, none, none, none, none, none, none, none, none, none, none, none, none, none, none, none, none, none, none, none, none] (by decide +kernel) rfl rfl rfl) (cw_X11_291 hts ⟨Nat.le_of_ble_eq_true rfl, Nat.le_of_ble_eq_true rfl⟩) 0 (ci := 2) rfl rfl rfl (c_X2_trade l D cy qfo qro qra qvc qos qli fo ro ra vc os li p1 p2 fo_12 hc_11) rfl hl.1 (Nat.le_of_ble_eq_true rfl) ⟨Nat.le_refl _, Nat.le_refl _⟩ dX11_round_53 (fun H locs hP hD hS => ?_)
    refine lv_aload_n hx hb dX11_round_56 rfl (lv_at hl 1 rfl) ?_
    refine gf_X11_57 hx hb hts hown hK hP 0 rfl rfl dX11_round_57 ?_
    refine lv_iload_n hx hb dX11_round_60 rfl (lv_at hl 3 rfl) ?_
    refine lv_iload_n hx hb dX11_round_61 rfl (lv_at hl 4 rfl) ?_
    obtain ⟨fo_14, hc_13, hp⟩ := bn1_s hp
    refine k_RVV (As := [.int p2, .int p3]) (rest := []) ⟨hx, hb, hml, hown, hts⟩ hK hP hD hS hA (FrS_set (ws := (w_All cy qsm qbsa qbsb qrd qdi qrof qpn qse qfo qro qra qvc qos qli qfot qrot qrat qvct qost qlit sm bsa bsb rd di rof pn se fo_12 ro ra vc os li fot rot rat vct ost lit)) (wc := (w_Fi cy qfo qro qra qvc qos qli fo_12 ro ra vc os li)) (w1 := (w_Fi cy qfo qro qra qvc qos qli fo_14 ro ra vc os li)) (wn := (w_All cy qsm qbsa qbsb qrd qdi qrof qpn qse qfo qro qra qvc qos qli qfot qrot qrat qvct qost qlit sm bsa bsb rd di rof pn se fo_14 ro ra vc os li fot rot rat vct ost lit)) [20, 21, 22, 23, 24, 25, 26, 27, 28, 29, 30, 31, 32, 33, 34, 35, 36, 37, 38, 39, 40, 41, 42] [none, none, none, none, none, none, none, none, none, none, none, none, none, none, none, none, none, none, none, none, some 0, some 1, some 2, some 3, some 4, some 5, some 6, some 7, some 8, some 9, some 10, some 11, some 12, some 13, some 14, some 15, some 16, some 17, some 18, some 19, some 20, some 21, some 22, none, none, none, none, none, none, none, none, none, none, none, none, none, none, none, none, none, none, none, none, none, none, none] (by decide +kernel) rfl rfl rfl) (cw_X11_291 hts ⟨Nat.le_of_ble_eq_true rfl, Nat.le_of_ble_eq_true rfl⟩) 0 (ci := 2) rfl rfl rfl (c_X2_trade l D cy qfo qro qra qvc qos qli fo_12 ro ra vc os li p2 p3 fo_14 hc_13) rfl hl.1 (Nat.le_of_ble_eq_true rfl) ⟨Nat.le_refl _, Nat.le_refl _⟩ dX11_round_62 (fun H locs hP hD hS => ?_)
    refine lv_aload_n hx hb dX11_round_65 rfl (lv_at hl 1 rfl) ?_
    refine gf_X11_57 hx hb hts hown hK hP 0 rfl rfl dX11_round_66 ?_
    refine lv_iload_n hx hb dX11_round_69 rfl (lv_at hl 4 rfl) ?_
    refine lv_iload_n hx hb dX11_round_70 rfl (lv_at hl 2 rfl) ?_
    obtain ⟨fo_16, hc_15, hp⟩ := bn1_s hp
    refine k_RVV (As := [.int p3, .int p1]) (rest := []) ⟨hx, hb, hml, hown, hts⟩ hK hP hD hS hA (FrS_set (ws := (w_All cy qsm qbsa qbsb qrd qdi qrof qpn qse qfo qro qra qvc qos qli qfot qrot qrat qvct qost qlit sm bsa bsb rd di rof pn se fo_14 ro ra vc os li fot rot rat vct ost lit)) (wc := (w_Fi cy qfo qro qra qvc qos qli fo_14 ro ra vc os li)) (w1 := (w_Fi cy qfo qro qra qvc qos qli fo_16 ro ra vc os li)) (wn := (w_All cy qsm qbsa qbsb qrd qdi qrof qpn qse qfo qro qra qvc qos qli qfot qrot qrat qvct qost qlit sm bsa bsb rd di rof pn se fo_16 ro ra vc os li fot rot rat vct ost lit)) [20, 21, 22, 23, 24, 25, 26, 27, 28, 29, 30, 31, 32, 33, 34, 35, 36, 37, 38, 39, 40, 41, 42] [none, none, none, none, none, none, none, none, none, none, none, none, none, none, none, none, none, none, none, none, some 0, some 1, some 2, some 3, some 4, some 5, some 6, some 7, some 8, some 9, some 10, some 11, some 12, some 13, some 14, some 15, some 16, some 17, some 18, some 19, some 20, some 21, some 22, none, none, none, none, none, none, none, none, none, none, none, none, none, none, none, none, none, none, none, none, none, none, none] (by decide +kernel) rfl rfl rfl) (cw_X11_291 hts ⟨Nat.le_of_ble_eq_true rfl, Nat.le_of_ble_eq_true rfl⟩) 0 (ci := 2) rfl rfl rfl (c_X2_trade l D cy qfo qro qra qvc qos qli fo_14 ro ra vc os li p3 p1 fo_16 hc_15) rfl hl.1 (Nat.le_of_ble_eq_true rfl) ⟨Nat.le_refl _, Nat.le_refl _⟩ dX11_round_71 (fun H locs hP hD hS => ?_)
    refine lv_aload_n hx hb dX11_round_74 rfl (lv_at hl 1 rfl) ?_
    refine gf_X11_57 hx hb hts hown hK hP 0 rfl rfl dX11_round_75 ?_
    refine gf_X11_255 hx hb hts hown hK hP 20 rfl rfl dX11_round_78 ?_
    refine lv_iload_n hx hb dX11_round_81 rfl (lv_at hl 2 rfl) ?_
    obtain ⟨os_18, hc_17, hp⟩ := bn1_s hp
    refine k_RVV (As := [.int p1]) (rest := []) ⟨hx, hb, hml, hown, hts⟩ hK hP hD hS hA (FrS_set (ws := (w_All cy qsm qbsa qbsb qrd qdi qrof qpn qse qfo qro qra qvc qos qli qfot qrot qrat qvct qost qlit sm bsa bsb rd di rof pn se fo_16 ro ra vc os li fot rot rat vct ost lit)) (wc := (w_Of cy qos os)) (w1 := (w_Of cy qos os_18)) (wn := (w_All cy qsm qbsa qbsb qrd qdi qrof qpn qse qfo qro qra qvc qos qli qfot qrot qrat qvct qost qlit sm bsa bsb rd di rof pn se fo_16 ro ra vc os_18 li fot rot rat vct ost lit)) [34, 35, 36, 37, 38] [none, none, none, none, none, none, none, none, none, none, none, none, none, none, none, none, none, none, none, none, none, none, none, none, none, none, none, none, none, none, none, none, none, none, some 0, some 1, some 2, some 3, some 4, none, none, none, none, none, none, none, none, none, none, none, none, none, none, none, none, none, none, none, none, none, none, none, none, none, none, none] (by decide +kernel) rfl rfl rfl) (cw_X11_270 hts ⟨Nat.le_of_ble_eq_true rfl, Nat.le_of_ble_eq_true rfl⟩) 0 (ci := 4) rfl rfl rfl (c_X4_drop l D cy qos os p1 os_18 hc_17) rfl hl.1 (Nat.le_of_ble_eq_true rfl) ⟨Nat.le_refl _, Nat.le_refl _⟩ dX11_round_82 (fun H locs hP hD hS => ?_)
    refine lv_aload_n hx hb dX11_round_85 rfl (lv_at hl 1 rfl) ?_
    refine gf_X11_57 hx hb hts hown hK hP 0 rfl rfl dX11_round_86 ?_
    refine gf_X11_255 hx hb hts hown hK hP 20 rfl rfl dX11_round_89 ?_
    refine lv_iload_n hx hb dX11_round_92 rfl (lv_at hl 3 rfl) ?_
    obtain ⟨os_20, hc_19, hp⟩ := bn1_s hp
    refine k_RVV (As := [.int p2]) (rest := []) ⟨hx, hb, hml, hown, hts⟩ hK hP hD hS hA (FrS_set (ws := (w_All cy qsm qbsa qbsb qrd qdi qrof qpn qse qfo qro qra qvc qos qli qfot qrot qrat qvct qost qlit sm bsa bsb rd di rof pn se fo_16 ro ra vc os_18 li fot rot rat vct ost lit)) (wc := (w_Of cy qos os_18)) (w1 := (w_Of cy qos os_20)) (wn := (w_All cy qsm qbsa qbsb qrd qdi qrof qpn qse qfo qro qra qvc qos qli qfot qrot qrat qvct qost qlit sm bsa bsb rd di rof pn se fo_16 ro ra vc os_20 li fot rot rat vct ost lit)) [34, 35, 36, 37, 38] [none, none, none, none, none, none, none, none, none, none, none, none, none, none, none, none, none, none, none, none, none, none, none, none, none, none, none, none, none, none, none, none, none, none, some 0, some 1, some 2, some 3, some 4, none, none, none, none, none, none, none, none, none, none, none, none, none, none, none, none, none, none, none, none, none, none, none, none, none, none, none] (by decide +kernel) rfl rfl rfl) (cw_X11_270 hts ⟨Nat.le_of_ble_eq_true rfl, Nat.le_of_ble_eq_true rfl⟩) 0 (ci := 4) rfl rfl rfl (c_X4_drop l D cy qos os_18 p2 os_20 hc_19) rfl hl.1 (Nat.le_of_ble_eq_true rfl) ⟨Nat.le_refl _, Nat.le_refl _⟩ dX11_round_93 (fun H locs hP hD hS => ?_)
    refine lv_aload_n hx hb dX11_round_96 rfl (lv_at hl 1 rfl) ?_
    refine gf_X11_57 hx hb hts hown hK hP 0 rfl rfl dX11_round_97 ?_
    refine gf_X11_255 hx hb hts hown hK hP 20 rfl rfl dX11_round_100 ?_
    refine lv_iload_n hx hb dX11_round_103 rfl (lv_at hl 4 rfl) ?_
    obtain ⟨os_22, hc_21, hp⟩ := bn1_s hp
    refine k_RVV (As := [.int p3]) (rest := []) ⟨hx, hb, hml, hown, hts⟩ hK hP hD hS hA (FrS_set (ws := (w_All cy qsm qbsa qbsb qrd qdi qrof qpn qse qfo qro qra qvc qos qli qfot qrot qrat qvct qost qlit sm bsa bsb rd di rof pn se fo_16 ro ra vc os_20 li fot rot rat vct ost lit)) (wc := (w_Of cy qos os_20)) (w1 := (w_Of cy qos os_22)) (wn := (w_All cy qsm qbsa qbsb qrd qdi qrof qpn qse qfo qro qra qvc qos qli qfot qrot qrat qvct qost qlit sm bsa bsb rd di rof pn se fo_16 ro ra vc os_22 li fot rot rat vct ost lit)) [34, 35, 36, 37, 38] [none, none, none, none, none, none, none, none, none, none, none, none, none, none, none, none, none, none, none, none, none, none, none, none, none, none, none, none, none, none, none, none, none, none, some 0, some 1, some 2, some 3, some 4, none, none, none, none, none, none, none, none, none, none, none, none, none, none, none, none, none, none, none, none, none, none, none, none, none, none, none] (by decide +kernel) rfl rfl rfl) (cw_X11_270 hts ⟨Nat.le_of_ble_eq_true rfl, Nat.le_of_ble_eq_true rfl⟩) 0 (ci := 4) rfl rfl rfl (c_X4_drop l D cy qos os_20 p3 os_22 hc_21) rfl hl.1 (Nat.le_of_ble_eq_true rfl) ⟨Nat.le_refl _, Nat.le_refl _⟩ dX11_round_104 (fun H locs hP hD hS => ?_)
    refine lv_iload hx hb dX11_round_107 (lv_at hl 0 rfl) ?_
    simp only [Option.some.injEq, Prod.mk.injEq] at hp
    obtain ⟨h0, rfl, rfl⟩ := hp
    exact e_RIi hx hb hr hk hP hD hS dX11_round_109 h0
  · have hp := ite_p hp c_3
    refine lc_X11_228 hx hb hts hown dX11_round_13 ?_
    simp only [Option.some.injEq, Prod.mk.injEq] at hp
    obtain ⟨h0, rfl, rfl⟩ := hp
    exact e_RIi hx hb hr hk hP hD hS dX11_round_15 h0
/-! StormSlots.cancelAll(I)I -/
def St_cancelAll_b13B (ro : Mem) (p1 : Int32) (k13 : Mem → Mem → Int32 → Int32 → Option (Int32 × Mem × Mem)) (fo : Mem) (vc : Mem) (x2 : Int32) (x3 : Int32) : Option (Int32 × Mem × Mem) :=
  if 20 ≤ x3 then some (x2, fo, vc) else bn1 (Fi_isOf ro x3 p1) (fun r_6 => if r_6 = 0 then stk (x3 + 1) (fun x3_8 => k13 fo vc x2 x3_8) else bn1 (Fi_isGrounded fo ro x3) (fun r_10 => if r_10 = 0 then stk (x3 + 1) (fun x3_12 => k13 fo vc x2 x3_12) else bn3 (Fi_callOff fo ro vc x3) (fun r_14 fo_15 vc_16 => stk (x2 ||| ((1 : Int32) <<< (x3 &&& 31))) (fun x2_17 => stk (x3 + 1) (fun x3_18 => k13 fo_15 vc_16 x2_17 x3_18)))))
def St_cancelAll_b13 (ro : Mem) (p1 : Int32) : Nat → Mem → Mem → Int32 → Int32 → Option (Int32 × Mem × Mem)
  | 0 => fun _ _ _ _ => none
  | n + 1 => St_cancelAll_b13B ro p1 (St_cancelAll_b13 ro p1 n)
def St_cancelAll (fo : Mem) (ro : Mem) (vc : Mem) (p1 : Int32) : Option (Int32 × Mem × Mem) :=
  bn1 (St_isLine p1) (fun r_2 => if r_2 = 0 then some ((-1), fo, vc) else St_cancelAll_b13 ro p1 fl fo vc 0 0)
set_option maxHeartbeats 4000000 in
set_option maxRecDepth 100000 in
theorem St_cancelAll_b13B_w (C0 : cX RX11 cX11_cancelAll (some .int) 4 p s m args meth c) (hK : kN D cy s) {qsm qbsa qbsb qrd qdi qrof qpn qse qfo qro qra qvc qos qli qfot qrot qrat qvct qost qlit : Nat → Nat} {sm bsa bsb rd di rof pn se ro ra os li fot rot rat vct ost lit : Mem} {p1 : Int32} {r : Int32} {fo' vc' : Mem} (hA : ∀ q, s.heap.size ≤ q → A q) {k13 : Mem → Mem → Int32 → Int32 → Option (Int32 × Mem × Mem)} (hk13 : ∀ (fo vc : Mem) (x2 x3 : Int32) (H : Heap) (locs : List Loc) (ls : Array Slot), va_P D vwCl (w_All cy qsm qbsa qbsb qrd qdi qrof qpn qse qfo qro qra qvc qos qli qfot qrot qrat qvct qost qlit sm bsa bsb rd di rof pn se fo ro ra vc os li fot rot rat vct ost lit) H → va_D A (w_All cy qsm qbsa qbsb qrd qdi qrof qpn qse qfo qro qra qvc qos qli qfot qrot qrat qvct qost qlit sm bsa bsb rd di rof pn se fo ro ra vc os li fot rot rat vct ost lit) → va_S A s.heap H locs → lv_has ls 4 [(0, .ref (qsm 0)), (1, .int p1), (2, .int x2), (3, .int x3)] → k13 fo vc x2 x3 = some (r, fo', vc') → W p l e (rmD 3) s m args below meth c H locs 0 0 (qRI D below args s A (w_All cy qsm qbsa qbsb qrd qdi qrof qpn qse qfo qro qra qvc qos qli qfot qrot qrat qvct qost qlit sm bsa bsb rd di rof pn se fo' ro ra vc' os li fot rot rat vct ost lit) r) (F0 m 13 ls [])) {fo : Mem} {vc : Mem} {x2 : Int32} {x3 : Int32} {H : Heap} {locs : List Loc} (hP : va_P D vwCl (w_All cy qsm qbsa qbsb qrd qdi qrof qpn qse qfo qro qra qvc qos qli qfot qrot qrat qvct qost qlit sm bsa bsb rd di rof pn se fo ro ra vc os li fot rot rat vct ost lit) H) (hD : va_D A (w_All cy qsm qbsa qbsb qrd qdi qrof qpn qse qfo qro qra qvc qos qli qfot qrot qrat qvct qost qlit sm bsa bsb rd di rof pn se fo ro ra vc os li fot rot rat vct ost lit)) (hS : va_S A s.heap H locs) {ls : Array Slot} (hl : lv_has ls 4 [(0, .ref (qsm 0)), (1, .int p1), (2, .int x2), (3, .int x3)]) (hp : St_cancelAll_b13B ro p1 k13 fo vc x2 x3 = some (r, fo', vc')) : W p l e (rmD 3) s m args below meth c H locs 0 0 (qRI D below args s A (w_All cy qsm qbsa qbsb qrd qdi qrof qpn qse qfo qro qra qvc qos qli qfot qrot qrat qvct qost qlit sm bsa bsb rd di rof pn se fo' ro ra vc' os li fot rot rat vct ost lit) r) (F0 m 13 ls []) := by
  obtain ⟨hx, hb, hr, hml, hown, hts, hk⟩ := id C0
  unfold St_cancelAll_b13B at hp
  refine lv_iload_n hx hb dX11_cancelAll_13 rfl (lv_at hl 3 rfl) ?_
  refine lv_bipush (v := 20) hx hb dX11_cancelAll_14 (by decide) ?_
  refine lv_icmp_ge (tgt := 63) hx hb dX11_cancelAll_16 (by decide) (fun c_4 => ?_) (fun c_4 => ?_)
  · have hp := ite_p hp c_4
    refine lv_iload_n hx hb dX11_cancelAll_63 rfl (lv_at hl 2 rfl) ?_
    simp only [Option.some.injEq, Prod.mk.injEq] at hp
    obtain ⟨h0, rfl, rfl⟩ := hp
    exact e_RIi hx hb hr hk hP hD hS dX11_cancelAll_64 h0
  · have hp := ite_n hp c_4
    refine lv_aload_n hx hb dX11_cancelAll_19 rfl (lv_at hl 0 rfl) ?_
    refine gf_X11_57 hx hb hts hown hK hP 0 rfl rfl dX11_cancelAll_20 ?_
    refine lv_iload_n hx hb dX11_cancelAll_23 rfl (lv_at hl 3 rfl) ?_
    refine lv_iload_n hx hb dX11_cancelAll_24 rfl (lv_at hl 1 rfl) ?_
    obtain ⟨r_6, hc_5, hp⟩ := bn1_s hp
    refine k_ROV (As := [.int x3, .int p1]) (rest := []) ⟨hx, hb, hml, hown, hts⟩ hK (hP.sub (ws' := (w_Fi cy qfo qro qra qvc qos qli fo ro ra vc os li)) [20, 21, 22, 23, 24, 25, 26, 27, 28, 29, 30, 31, 32, 33, 34, 35, 36, 37, 38, 39, 40, 41, 42] rfl) (cw_X11_238 hts ⟨Nat.le_of_ble_eq_true rfl, Nat.le_of_ble_eq_true rfl⟩) 0 (ci := 2) rfl rfl rfl (c_X2_isOf l D cy qfo qro qra qvc qos qli fo ro ra vc os li x3 p1 r_6 hc_5) rfl hl.1 (Nat.le_of_ble_eq_true rfl) ⟨Nat.le_refl _, Nat.le_refl _⟩ dX11_cancelAll_25 ?_
    refine lv_if_eq (tgt := 57) hx hb dX11_cancelAll_28 (by decide) (fun c_7 => ?_) (fun c_7 => ?_)
    · have hp := ite_p hp c_7
      obtain ⟨x3_8, ex3_8⟩ : ∃ y : Int32, y = x3 + 1 := ⟨_, rfl⟩
      have hp := stk_e hp ex3_8
      refine lv_iinc (v := x3_8) (lv' := [(3, .int x3_8), (0, .ref (qsm 0)), (1, .int p1), (2, .int x2)]) hx hb dX11_cancelAll_57 hl (k := 3) rfl (by rw [ex3_8]; rfl) (by decide) rfl (fun ls hl => ?_)
      refine lv_goto (tgt := 13) hx hb dX11_cancelAll_60 (by decide) ?_
      exact hk13 fo vc x2 x3_8 _ _ _ hP hD hS (lv_sub hl [1, 2, 3, 0] rfl) hp
    · have hp := ite_n hp c_7
      refine lv_aload_n hx hb dX11_cancelAll_31 rfl (lv_at hl 0 rfl) ?_
      refine gf_X11_57 hx hb hts hown hK hP 0 rfl rfl dX11_cancelAll_32 ?_
      refine lv_iload_n hx hb dX11_cancelAll_35 rfl (lv_at hl 3 rfl) ?_
      obtain ⟨r_10, hc_9, hp⟩ := bn1_s hp
      refine k_ROV (As := [.int x3]) (rest := []) ⟨hx, hb, hml, hown, hts⟩ hK (hP.sub (ws' := (w_Fi cy qfo qro qra qvc qos qli fo ro ra vc os li)) [20, 21, 22, 23, 24, 25, 26, 27, 28, 29, 30, 31, 32, 33, 34, 35, 36, 37, 38, 39, 40, 41, 42] rfl) (cw_X11_232 hts ⟨Nat.le_of_ble_eq_true rfl, Nat.le_of_ble_eq_true rfl⟩) 0 (ci := 2) rfl rfl rfl (c_X2_isGrounded l D cy qfo qro qra qvc qos qli fo ro ra vc os li x3 r_10 hc_9) rfl hl.1 (Nat.le_of_ble_eq_true rfl) ⟨Nat.le_refl _, Nat.le_refl _⟩ dX11_cancelAll_36 ?_
      refine lv_if_eq (tgt := 57) hx hb dX11_cancelAll_39 (by decide) (fun c_11 => ?_) (fun c_11 => ?_)
      · have hp := ite_p hp c_11
        obtain ⟨x3_12, ex3_12⟩ : ∃ y : Int32, y = x3 + 1 := ⟨_, rfl⟩
        have hp := stk_e hp ex3_12
        refine lv_iinc (v := x3_12) (lv' := [(3, .int x3_12), (0, .ref (qsm 0)), (1, .int p1), (2, .int x2)]) hx hb dX11_cancelAll_57 hl (k := 3) rfl (by rw [ex3_12]; rfl) (by decide) rfl (fun ls hl => ?_)
        refine lv_goto (tgt := 13) hx hb dX11_cancelAll_60 (by decide) ?_
        exact hk13 fo vc x2 x3_12 _ _ _ hP hD hS (lv_sub hl [1, 2, 3, 0] rfl) hp
      · have hp := ite_n hp c_11
        refine lv_aload_n hx hb dX11_cancelAll_42 rfl (lv_at hl 0 rfl) ?_
        refine gf_X11_57 hx hb hts hown hK hP 0 rfl rfl dX11_cancelAll_43 ?_
        refine lv_iload_n hx hb dX11_cancelAll_46 rfl (lv_at hl 3 rfl) ?_
        obtain ⟨r_14, fo_15, vc_16, hc_13, hp⟩ := bn3_s hp
        refine k_RIV (As := [.int x3]) (rest := []) ⟨hx, hb, hml, hown, hts⟩ hK hP hD hS hA (FrS_set (ws := (w_All cy qsm qbsa qbsb qrd qdi qrof qpn qse qfo qro qra qvc qos qli qfot qrot qrat qvct qost qlit sm bsa bsb rd di rof pn se fo ro ra vc os li fot rot rat vct ost lit)) (wc := (w_Fi cy qfo qro qra qvc qos qli fo ro ra vc os li)) (w1 := (w_Fi cy qfo qro qra qvc qos qli fo_15 ro ra vc_16 os li)) (wn := (w_All cy qsm qbsa qbsb qrd qdi qrof qpn qse qfo qro qra qvc qos qli qfot qrot qrat qvct qost qlit sm bsa bsb rd di rof pn se fo_15 ro ra vc_16 os li fot rot rat vct ost lit)) [20, 21, 22, 23, 24, 25, 26, 27, 28, 29, 30, 31, 32, 33, 34, 35, 36, 37, 38, 39, 40, 41, 42] [none, none, none, none, none, none, none, none, none, none, none, none, none, none, none, none, none, none, none, none, some 0, some 1, some 2, some 3, some 4, some 5, some 6, some 7, some 8, some 9, some 10, some 11, some 12, some 13, some 14, some 15, some 16, some 17, some 18, some 19, some 20, some 21, some 22, none, none, none, none, none, none, none, none, none, none, none, none, none, none, none, none, none, none, none, none, none, none, none] (by decide +kernel) rfl rfl rfl) (cw_X11_222 hts ⟨Nat.le_of_ble_eq_true rfl, Nat.le_of_ble_eq_true rfl⟩) 0 (ci := 2) rfl rfl rfl (c_X2_callOff l D cy qfo qro qra qvc qos qli fo ro ra vc os li x3 r_14 fo_15 vc_16 hc_13) rfl hl.1 (Nat.le_of_ble_eq_true rfl) ⟨Nat.le_refl _, Nat.le_refl _⟩ dX11_cancelAll_47 (fun H locs hP hD hS => ?_)
        refine lv_pop hx hb dX11_cancelAll_50 rfl ?_
        refine lv_iload_n hx hb dX11_cancelAll_51 rfl (lv_at hl 2 rfl) ?_
        refine lv_iconst (v := 1) hx hb dX11_cancelAll_52 (by decide) ?_
        refine lv_iload_n hx hb dX11_cancelAll_53 rfl (lv_at hl 3 rfl) ?_
        refine lv_ishl hx hb dX11_cancelAll_54 ?_
        refine lv_ior hx hb dX11_cancelAll_55 ?_
        refine lv_topi (fun x2_17 ex2_17 => ?_)
        have hp := stk_e hp ex2_17
        refine lv_istore_n (lv' := [(2, .int x2_17), (0, .ref (qsm 0)), (1, .int p1), (3, .int x3)]) hx hb dX11_cancelAll_56 rfl hl (by decide) rfl (fun ls hl => ?_)
        obtain ⟨x3_18, ex3_18⟩ : ∃ y : Int32, y = x3 + 1 := ⟨_, rfl⟩
        have hp := stk_e hp ex3_18
        refine lv_iinc (v := x3_18) (lv' := [(3, .int x3_18), (2, .int x2_17), (0, .ref (qsm 0)), (1, .int p1)]) hx hb dX11_cancelAll_57 hl (k := 3) rfl (by rw [ex3_18]; rfl) (by decide) rfl (fun ls hl => ?_)
        refine lv_goto (tgt := 13) hx hb dX11_cancelAll_60 (by decide) ?_
        exact hk13 fo_15 vc_16 x2_17 x3_18 _ _ _ hP hD hS (lv_sub hl [2, 3, 1, 0] rfl) hp
theorem St_cancelAll_b13_w (C0 : cX RX11 cX11_cancelAll (some .int) 4 p s m args meth c) (hK : kN D cy s) {qsm qbsa qbsb qrd qdi qrof qpn qse qfo qro qra qvc qos qli qfot qrot qrat qvct qost qlit : Nat → Nat} {sm bsa bsb rd di rof pn se ro ra os li fot rot rat vct ost lit : Mem} {p1 : Int32} {r : Int32} {fo' vc' : Mem} (hA : ∀ q, s.heap.size ≤ q → A q) : ∀ (n : Nat) (fo vc : Mem) (x2 x3 : Int32) (H : Heap) (locs : List Loc) (ls : Array Slot), va_P D vwCl (w_All cy qsm qbsa qbsb qrd qdi qrof qpn qse qfo qro qra qvc qos qli qfot qrot qrat qvct qost qlit sm bsa bsb rd di rof pn se fo ro ra vc os li fot rot rat vct ost lit) H → va_D A (w_All cy qsm qbsa qbsb qrd qdi qrof qpn qse qfo qro qra qvc qos qli qfot qrot qrat qvct qost qlit sm bsa bsb rd di rof pn se fo ro ra vc os li fot rot rat vct ost lit) → va_S A s.heap H locs → lv_has ls 4 [(0, .ref (qsm 0)), (1, .int p1), (2, .int x2), (3, .int x3)] → St_cancelAll_b13 ro p1 n fo vc x2 x3 = some (r, fo', vc') → W p l e (rmD 3) s m args below meth c H locs 0 0 (qRI D below args s A (w_All cy qsm qbsa qbsb qrd qdi qrof qpn qse qfo qro qra qvc qos qli qfot qrot qrat qvct qost qlit sm bsa bsb rd di rof pn se fo' ro ra vc' os li fot rot rat vct ost lit) r) (F0 m 13 ls []) := by
  intro n
  induction n with
  | zero =>
    intro fo vc x2 x3 H locs ls hP hD hS hl hp
    cases hp
  | succ n ih =>
    intro fo vc x2 x3 H locs ls hP hD hS hl hp
    exact St_cancelAll_b13B_w C0 hK hA  (fun fo vc x2 x3 H locs ls hP hD hS hl hp => ih fo vc x2 x3 H locs ls hP hD hS hl hp) hP hD hS hl hp
set_option maxHeartbeats 4000000 in
set_option maxRecDepth 100000 in
theorem c_X11_cancelAll (l : Launch) (D : va_G) (cy : Nat → ClassId) (qsm qbsa qbsb qrd qdi qrof qpn qse qfo qro qra qvc qos qli qfot qrot qrat qvct qost qlit : Nat → Nat) (sm bsa bsb rd di rof pn se fo ro ra vc os li fot rot rat vct ost lit : Mem) (p1 : Int32) (r : Int32) (fo' vc' : Mem) (hp : St_cancelAll fo ro vc p1 = some (r, fo', vc')) : RI l yX11_cancelAll cX11_cancelAll 4 (some .int) 3 D cy [.ref (qsm 0), .int p1] (w_All cy qsm qbsa qbsb qrd qdi qrof qpn qse qfo qro qra qvc qos qli qfot qrot qrat qvct qost qlit sm bsa bsb rd di rof pn se fo ro ra vc os li fot rot rat vct ost lit) (w_All cy qsm qbsa qbsb qrd qdi qrof qpn qse qfo qro qra qvc qos qli qfot qrot qrat qvct qost qlit sm bsa bsb rd di rof pn se fo' ro ra vc' os li fot rot rat vct ost lit) r := by
  refine RI_of RX11 rfl (by decide) (Nat.le_of_ble_eq_true rfl) ?_
  intro p e s m below meth c A C0 hK hP hD hS hA ls hl
  obtain ⟨hx, hb, hr, hml, hown, hts, hk⟩ := id C0
  unfold St_cancelAll at hp
  have hl : lv_has ls 4 [(0, .ref (qsm 0)), (1, .int p1)] := hl
  refine lv_iload_n hx hb dX11_cancelAll_0 rfl (lv_at hl 1 rfl) ?_
  obtain ⟨r_2, hc_1, hp⟩ := bn1_s hp
  refine k_ROS (As := [.int p1]) (rest := []) ⟨hx, hb, hml, hown, hts⟩ hK (show va_P D vwCl [] _ from fun k q h => by simp at h) (cw_X11_91 hts ⟨Nat.le_of_ble_eq_true rfl, Nat.le_of_ble_eq_true rfl⟩) (c_X11_isLine l D cy p1 r_2 hc_1) rfl hl.1 (Nat.le_of_ble_eq_true rfl) ⟨Nat.le_refl _, Nat.le_refl _⟩ dX11_cancelAll_1 ?_
  refine lv_if_ne (tgt := 9) hx hb dX11_cancelAll_4 (by decide) (fun c_3 => ?_) (fun c_3 => ?_)
  · have hp := ite_n hp c_3
    refine lv_iconst (v := 0) hx hb dX11_cancelAll_9 (by decide) ?_
    refine lv_istore_n (lv' := [(2, .int 0), (0, .ref (qsm 0)), (1, .int p1)]) hx hb dX11_cancelAll_10 rfl hl (by decide) rfl (fun ls hl => ?_)
    refine lv_iconst (v := 0) hx hb dX11_cancelAll_11 (by decide) ?_
    refine lv_istore_n (lv' := [(3, .int 0), (2, .int 0), (0, .ref (qsm 0)), (1, .int p1)]) hx hb dX11_cancelAll_12 rfl hl (by decide) rfl (fun ls hl => ?_)
    exact St_cancelAll_b13_w C0 hK hA  fl fo vc 0 0 _ _ _ hP hD hS (lv_sub hl [2, 3, 1, 0] rfl) hp
  · have hp := ite_p hp c_3
    refine lv_iconst (v := (-1)) hx hb dX11_cancelAll_7 (by decide) ?_
    simp only [Option.some.injEq, Prod.mk.injEq] at hp
    obtain ⟨h0, rfl, rfl⟩ := hp
    exact e_RIi hx hb hr hk hP hD hS dX11_cancelAll_8 h0
/-! StormSlots.byRule(II)I -/
def St_byRule (pn : Mem) (fo : Mem) (ro : Mem) (ra : Mem) (vc : Mem) (os : Mem) (li : Mem) (fot : Mem) (rot : Mem) (rat : Mem) (vct : Mem) (ost : Mem) (lit : Mem) (p1 : Int32) (p2 : Int32) : Option (Int32 × Mem × Mem × Mem × Mem × Mem × Mem × Mem) :=
  if p1 < 0 then some ((-1), pn, fot, rot, rat, vct, ost, lit) else if 2 < p1 then some ((-1), pn, fot, rot, rat, vct, ost, lit) else if p2 < 0 then some ((-1), pn, fot, rot, rat, vct, ost, lit) else if p2 ≤ 3 then if (ro 4 0) = 0 then some ((-2), pn, fot, rot, rat, vct, ost, lit) else bn6 (Fi_copyFrom fot rot rat vct ost lit fo ro ra vc os li) (fun fot_7 rot_8 rat_9 vct_10 ost_11 lit_12 => bn4 (Pl_planAnew pn fot_7 rot_8 rat_9 vct_10 ost_11 p1) (fun pn_14 fot_15 vct_16 ost_17 => if p2 = 0 then bn1 (Fi_totalCost fot_15 rot_8) (fun r_20 => some (r_20, pn_14, fot_15, rot_8, rat_9, vct_16, ost_17, lit_12)) else if p2 = 1 then bn1 (Fi_totalHold fot_15) (fun r_23 => some (r_23, pn_14, fot_15, rot_8, rat_9, vct_16, ost_17, lit_12)) else if p2 = 2 then bn1 (Fi_longestWait fot_15 rot_8) (fun r_26 => some (r_26, pn_14, fot_15, rot_8, rat_9, vct_16, ost_17, lit_12)) else bn1 (Fi_unfairness fot_15 rot_8) (fun r_28 => some (r_28, pn_14, fot_15, rot_8, rat_9, vct_16, ost_17, lit_12)))) else some ((-1), pn, fot, rot, rat, vct, ost, lit)
set_option maxHeartbeats 4000000 in
set_option maxRecDepth 100000 in
theorem c_X11_byRule (l : Launch) (D : va_G) (cy : Nat → ClassId) (qsm qbsa qbsb qrd qdi qrof qpn qse qfo qro qra qvc qos qli qfot qrot qrat qvct qost qlit : Nat → Nat) (sm bsa bsb rd di rof pn se fo ro ra vc os li fot rot rat vct ost lit : Mem) (p1 p2 : Int32) (r : Int32) (pn' fot' rot' rat' vct' ost' lit' : Mem) (hp : St_byRule pn fo ro ra vc os li fot rot rat vct ost lit p1 p2 = some (r, pn', fot', rot', rat', vct', ost', lit')) : RI l yX11_byRule cX11_byRule 3 (some .int) 6 D cy [.ref (qsm 0), .int p1, .int p2] (w_All cy qsm qbsa qbsb qrd qdi qrof qpn qse qfo qro qra qvc qos qli qfot qrot qrat qvct qost qlit sm bsa bsb rd di rof pn se fo ro ra vc os li fot rot rat vct ost lit) (w_All cy qsm qbsa qbsb qrd qdi qrof qpn qse qfo qro qra qvc qos qli qfot qrot qrat qvct qost qlit sm bsa bsb rd di rof pn' se fo ro ra vc os li fot' rot' rat' vct' ost' lit') r := by
  refine RI_of RX11 rfl (by decide) (Nat.le_of_ble_eq_true rfl) ?_
  intro p e s m below meth c A C0 hK hP hD hS hA ls hl
  obtain ⟨hx, hb, hr, hml, hown, hts, hk⟩ := id C0
  unfold St_byRule at hp
  have hl : lv_has ls 3 [(0, .ref (qsm 0)), (1, .int p1), (2, .int p2)] := hl
  refine lv_iload_n hx hb dX11_byRule_0 rfl (lv_at hl 1 rfl) ?_
  refine lv_if_lt (tgt := 18) hx hb dX11_byRule_1 (by decide) (fun c_1 => ?_) (fun c_1 => ?_)
  · have hp := ite_p hp c_1
    refine lv_iconst (v := (-1)) hx hb dX11_byRule_18 (by decide) ?_
    simp only [Option.some.injEq, Prod.mk.injEq] at hp
    obtain ⟨h0, rfl, rfl, rfl, rfl, rfl, rfl, rfl⟩ := hp
    exact e_RIi hx hb hr hk hP hD hS dX11_byRule_19 h0
  · have hp := ite_n hp c_1
    refine lv_iload_n hx hb dX11_byRule_4 rfl (lv_at hl 1 rfl) ?_
    refine lv_iconst (v := 2) hx hb dX11_byRule_5 (by decide) ?_
    refine lv_icmp_gt (tgt := 18) hx hb dX11_byRule_6 (by decide) (fun c_2 => ?_) (fun c_2 => ?_)
    · have hp := ite_p hp c_2
      refine lv_iconst (v := (-1)) hx hb dX11_byRule_18 (by decide) ?_
      simp only [Option.some.injEq, Prod.mk.injEq] at hp
      obtain ⟨h0, rfl, rfl, rfl, rfl, rfl, rfl, rfl⟩ := hp
      exact e_RIi hx hb hr hk hP hD hS dX11_byRule_19 h0
    · have hp := ite_n hp c_2
      refine lv_iload_n hx hb dX11_byRule_9 rfl (lv_at hl 2 rfl) ?_
      refine lv_if_lt (tgt := 18) hx hb dX11_byRule_10 (by decide) (fun c_3 => ?_) (fun c_3 => ?_)
      · have hp := ite_p hp c_3
        refine lv_iconst (v := (-1)) hx hb dX11_byRule_18 (by decide) ?_
        simp only [Option.some.injEq, Prod.mk.injEq] at hp
        obtain ⟨h0, rfl, rfl, rfl, rfl, rfl, rfl, rfl⟩ := hp
        exact e_RIi hx hb hr hk hP hD hS dX11_byRule_19 h0
      · have hp := ite_n hp c_3
        refine lv_iload_n hx hb dX11_byRule_13 rfl (lv_at hl 2 rfl) ?_
        refine lv_iconst (v := 3) hx hb dX11_byRule_14 (by decide) ?_
        refine lv_icmp_le (tgt := 20) hx hb dX11_byRule_15 (by decide) (fun c_4 => ?_) (fun c_4 => ?_)
        · have hp := ite_p hp c_4
          refine lv_aload_n hx hb dX11_byRule_20 rfl (lv_at hl 0 rfl) ?_
          refine gf_X11_57 hx hb hts hown hK hP 0 rfl rfl dX11_byRule_21 ?_
          refine gf_X11_87 hx hb hts hown hK hP 20 rfl rfl dX11_byRule_24 ?_
          refine gf_X11_90 hx hb hts hown hK hP 24 rfl rfl dX11_byRule_27 ?_
          refine lv_if_ne (tgt := 36) hx hb dX11_byRule_30 (by decide) (fun c_5 => ?_) (fun c_5 => ?_)
          · have hp := ite_n hp c_5
            refine lv_aload_n hx hb dX11_byRule_36 rfl (lv_at hl 0 rfl) ?_
            refine gf_X11_61 hx hb hts hown hK hP 0 rfl rfl dX11_byRule_37 ?_
            refine lv_aload_n hx hb dX11_byRule_40 rfl (lv_at hl 0 rfl) ?_
            refine gf_X11_57 hx hb hts hown hK hP 0 rfl rfl dX11_byRule_41 ?_
            obtain ⟨fot_7, rot_8, rat_9, vct_10, ost_11, lit_12, hc_6, hp⟩ := bn6_s hp
            refine k_RVV (As := [.ref (qfo 0)]) (rest := []) ⟨hx, hb, hml, hown, hts⟩ hK hP hD hS hA (FrS_set (ws := (w_All cy qsm qbsa qbsb qrd qdi qrof qpn qse qfo qro qra qvc qos qli qfot qrot qrat qvct qost qlit sm bsa bsb rd di rof pn se fo ro ra vc os li fot rot rat vct ost lit)) (wc := (w_FiFi cy qfot qrot qrat qvct qost qlit qfo qro qra qvc qos qli fot rot rat vct ost lit fo ro ra vc os li)) (w1 := (w_FiFi cy qfot qrot qrat qvct qost qlit qfo qro qra qvc qos qli fot_7 rot_8 rat_9 vct_10 ost_11 lit_12 fo ro ra vc os li)) (wn := (w_All cy qsm qbsa qbsb qrd qdi qrof qpn qse qfo qro qra qvc qos qli qfot qrot qrat qvct qost qlit sm bsa bsb rd di rof pn se fo ro ra vc os li fot_7 rot_8 rat_9 vct_10 ost_11 lit_12)) [43, 44, 45, 46, 47, 48, 49, 50, 51, 52, 53, 54, 55, 56, 57, 58, 59, 60, 61, 62, 63, 64, 65, 20, 21, 22, 23, 24, 25, 26, 27, 28, 29, 30, 31, 32, 33, 34, 35, 36, 37, 38, 39, 40, 41, 42] [none, none, none, none, none, none, none, none, none, none, none, none, none, none, none, none, none, none, none, none, some 23, some 24, some 25, some 26, some 27, some 28, some 29, some 30, some 31, some 32, some 33, some 34, some 35, some 36, some 37, some 38, some 39, some 40, some 41, some 42, some 43, some 44, some 45, some 0, some 1, some 2, some 3, some 4, some 5, some 6, some 7, some 8, some 9, some 10, some 11, some 12, some 13, some 14, some 15, some 16, some 17, some 18, some 19, some 20, some 21, some 22] (by decide +kernel) rfl rfl rfl) (cw_X11_371 hts ⟨Nat.le_of_ble_eq_true rfl, Nat.le_of_ble_eq_true rfl⟩) 0 (ci := 2) rfl rfl rfl (c_X2_copyFrom l D cy qfot qrot qrat qvct qost qlit qfo qro qra qvc qos qli fot rot rat vct ost lit fo ro ra vc os li fot_7 rot_8 rat_9 vct_10 ost_11 lit_12 hc_6) rfl hl.1 (Nat.le_of_ble_eq_true rfl) ⟨Nat.le_refl _, Nat.le_refl _⟩ dX11_byRule_44 (fun H locs hP hD hS => ?_)
            refine lv_aload_n hx hb dX11_byRule_47 rfl (lv_at hl 0 rfl) ?_
            refine gf_X11_43 hx hb hts hown hK hP 0 rfl rfl dX11_byRule_48 ?_
            refine lv_aload_n hx hb dX11_byRule_51 rfl (lv_at hl 0 rfl) ?_
            refine gf_X11_61 hx hb hts hown hK hP 0 rfl rfl dX11_byRule_52 ?_
            refine lv_iload_n hx hb dX11_byRule_55 rfl (lv_at hl 1 rfl) ?_
            obtain ⟨pn_14, fot_15, vct_16, ost_17, hc_13, hp⟩ := bn4_s hp
            refine k_RVV (As := [.ref (qfot 0), .int p1]) (rest := []) ⟨hx, hb, hml, hown, hts⟩ hK hP hD hS hA (FrS_set (ws := (w_All cy qsm qbsa qbsb qrd qdi qrof qpn qse qfo qro qra qvc qos qli qfot qrot qrat qvct qost qlit sm bsa bsb rd di rof pn se fo ro ra vc os li fot_7 rot_8 rat_9 vct_10 ost_11 lit_12)) (wc := (w_PlFi cy qpn qfot qrot qrat qvct qost qlit pn fot_7 rot_8 rat_9 vct_10 ost_11 lit_12)) (w1 := (w_PlFi cy qpn qfot qrot qrat qvct qost qlit pn_14 fot_15 rot_8 rat_9 vct_16 ost_17 lit_12)) (wn := (w_All cy qsm qbsa qbsb qrd qdi qrof qpn qse qfo qro qra qvc qos qli qfot qrot qrat qvct qost qlit sm bsa bsb rd di rof pn_14 se fo ro ra vc os li fot_15 rot_8 rat_9 vct_16 ost_17 lit_12)) [12, 13, 14, 43, 44, 45, 46, 47, 48, 49, 50, 51, 52, 53, 54, 55, 56, 57, 58, 59, 60, 61, 62, 63, 64, 65] [none, none, none, none, none, none, none, none, none, none, none, none, some 0, some 1, some 2, none, none, none, none, none, none, none, none, none, none, none, none, none, none, none, none, none, none, none, none, none, none, none, none, none, none, none, none, some 3, some 4, some 5, some 6, some 7, some 8, some 9, some 10, some 11, some 12, some 13, some 14, some 15, some 16, some 17, some 18, some 19, some 20, some 21, some 22, some 23, some 24, some 25] (by decide +kernel) rfl rfl rfl) (cw_X11_206 hts ⟨Nat.le_of_ble_eq_true rfl, Nat.le_of_ble_eq_true rfl⟩) 0 (ci := 6) rfl rfl rfl (c_X6_planAnew l D cy qpn qfot qrot qrat qvct qost qlit pn fot_7 rot_8 rat_9 vct_10 ost_11 lit_12 p1 pn_14 fot_15 vct_16 ost_17 hc_13) rfl hl.1 (Nat.le_of_ble_eq_true rfl) ⟨Nat.le_refl _, Nat.le_refl _⟩ dX11_byRule_56 (fun H locs hP hD hS => ?_)
            refine lv_iload_n hx hb dX11_byRule_59 rfl (lv_at hl 2 rfl) ?_
            by_cases c_18 : p2 = 0
            · have hp := ite_p hp c_18
              refine r_tab (tgt := 88) (off := 28) 0 hx hb dX11_byRule_60 c_18 (by decide) (by decide) ?_
              refine lv_aload_n hx hb dX11_byRule_88 rfl (lv_at hl 0 rfl) ?_
              refine gf_X11_61 hx hb hts hown hK hP 0 rfl rfl dX11_byRule_89 ?_
              obtain ⟨r_20, hc_19, hp⟩ := bn1_s hp
              refine k_ROV (As := []) (rest := []) ⟨hx, hb, hml, hown, hts⟩ hK (hP.sub (ws' := (w_Fi cy qfot qrot qrat qvct qost qlit fot_15 rot_8 rat_9 vct_16 ost_17 lit_12)) [43, 44, 45, 46, 47, 48, 49, 50, 51, 52, 53, 54, 55, 56, 57, 58, 59, 60, 61, 62, 63, 64, 65] rfl) (cw_X11_385 hts ⟨Nat.le_of_ble_eq_true rfl, Nat.le_of_ble_eq_true rfl⟩) 0 (ci := 2) rfl rfl rfl (c_X2_totalCost l D cy qfot qrot qrat qvct qost qlit fot_15 rot_8 rat_9 vct_16 ost_17 lit_12 r_20 hc_19) rfl hl.1 (Nat.le_of_ble_eq_true rfl) ⟨Nat.le_refl _, Nat.le_refl _⟩ dX11_byRule_92 ?_
              simp only [Option.some.injEq, Prod.mk.injEq] at hp
              obtain ⟨h0, rfl, rfl, rfl, rfl, rfl, rfl, rfl⟩ := hp
              exact e_RIi hx hb hr hk hP hD hS dX11_byRule_95 h0
            have hp := ite_n hp c_18
            by_cases c_21 : p2 = 1
            · have hp := ite_p hp c_21
              refine r_tab (tgt := 96) (off := 36) 1 hx hb dX11_byRule_60 c_21 (by decide) (by decide) ?_
              refine lv_aload_n hx hb dX11_byRule_96 rfl (lv_at hl 0 rfl) ?_
              refine gf_X11_61 hx hb hts hown hK hP 0 rfl rfl dX11_byRule_97 ?_
              obtain ⟨r_23, hc_22, hp⟩ := bn1_s hp
              refine k_ROV (As := []) (rest := []) ⟨hx, hb, hml, hown, hts⟩ hK (hP.sub (ws' := (w_Fi cy qfot qrot qrat qvct qost qlit fot_15 rot_8 rat_9 vct_16 ost_17 lit_12)) [43, 44, 45, 46, 47, 48, 49, 50, 51, 52, 53, 54, 55, 56, 57, 58, 59, 60, 61, 62, 63, 64, 65] rfl) (cw_X11_388 hts ⟨Nat.le_of_ble_eq_true rfl, Nat.le_of_ble_eq_true rfl⟩) 0 (ci := 2) rfl rfl rfl (c_X2_totalHold l D cy qfot qrot qrat qvct qost qlit fot_15 rot_8 rat_9 vct_16 ost_17 lit_12 r_23 hc_22) rfl hl.1 (Nat.le_of_ble_eq_true rfl) ⟨Nat.le_refl _, Nat.le_refl _⟩ dX11_byRule_100 ?_
              simp only [Option.some.injEq, Prod.mk.injEq] at hp
              obtain ⟨h0, rfl, rfl, rfl, rfl, rfl, rfl, rfl⟩ := hp
              exact e_RIi hx hb hr hk hP hD hS dX11_byRule_103 h0
            have hp := ite_n hp c_21
            by_cases c_24 : p2 = 2
            · have hp := ite_p hp c_24
              refine r_tab (tgt := 104) (off := 44) 2 hx hb dX11_byRule_60 c_24 (by decide) (by decide) ?_
              refine lv_aload_n hx hb dX11_byRule_104 rfl (lv_at hl 0 rfl) ?_
              refine gf_X11_61 hx hb hts hown hK hP 0 rfl rfl dX11_byRule_105 ?_
              obtain ⟨r_26, hc_25, hp⟩ := bn1_s hp
              refine k_ROV (As := []) (rest := []) ⟨hx, hb, hml, hown, hts⟩ hK (hP.sub (ws' := (w_Fi cy qfot qrot qrat qvct qost qlit fot_15 rot_8 rat_9 vct_16 ost_17 lit_12)) [43, 44, 45, 46, 47, 48, 49, 50, 51, 52, 53, 54, 55, 56, 57, 58, 59, 60, 61, 62, 63, 64, 65] rfl) (cw_X11_391 hts ⟨Nat.le_of_ble_eq_true rfl, Nat.le_of_ble_eq_true rfl⟩) 0 (ci := 2) rfl rfl rfl (c_X2_longestWait l D cy qfot qrot qrat qvct qost qlit fot_15 rot_8 rat_9 vct_16 ost_17 lit_12 r_26 hc_25) rfl hl.1 (Nat.le_of_ble_eq_true rfl) ⟨Nat.le_refl _, Nat.le_refl _⟩ dX11_byRule_108 ?_
              simp only [Option.some.injEq, Prod.mk.injEq] at hp
              obtain ⟨h0, rfl, rfl, rfl, rfl, rfl, rfl, rfl⟩ := hp
              exact e_RIi hx hb hr hk hP hD hS dX11_byRule_111 h0
            have hp := ite_n hp c_24
            refine lv_tableOut (tgt := 112) hx hb dX11_byRule_60 (by have zc_18 : (p2).toInt ≠ 0 := ne_toInt c_18; have zc_21 : (p2).toInt ≠ 1 := ne_toInt c_21; have zc_24 : (p2).toInt ≠ 2 := ne_toInt c_24; omega) (by decide) ?_
            refine lv_aload_n hx hb dX11_byRule_112 rfl (lv_at hl 0 rfl) ?_
            refine gf_X11_61 hx hb hts hown hK hP 0 rfl rfl dX11_byRule_113 ?_
            obtain ⟨r_28, hc_27, hp⟩ := bn1_s hp
            refine k_ROV (As := []) (rest := []) ⟨hx, hb, hml, hown, hts⟩ hK (hP.sub (ws' := (w_Fi cy qfot qrot qrat qvct qost qlit fot_15 rot_8 rat_9 vct_16 ost_17 lit_12)) [43, 44, 45, 46, 47, 48, 49, 50, 51, 52, 53, 54, 55, 56, 57, 58, 59, 60, 61, 62, 63, 64, 65] rfl) (cw_X11_346 hts ⟨Nat.le_of_ble_eq_true rfl, Nat.le_of_ble_eq_true rfl⟩) 0 (ci := 2) rfl rfl rfl (c_X2_unfairness l D cy qfot qrot qrat qvct qost qlit fot_15 rot_8 rat_9 vct_16 ost_17 lit_12 r_28 hc_27) rfl hl.1 (Nat.le_of_ble_eq_true rfl) ⟨Nat.le_refl _, Nat.le_refl _⟩ dX11_byRule_116 ?_
            simp only [Option.some.injEq, Prod.mk.injEq] at hp
            obtain ⟨h0, rfl, rfl, rfl, rfl, rfl, rfl, rfl⟩ := hp
            exact e_RIi hx hb hr hk hP hD hS dX11_byRule_119 h0
          · have hp := ite_p hp c_5
            refine lv_bipush (v := (-2)) hx hb dX11_byRule_33 (by decide) ?_
            simp only [Option.some.injEq, Prod.mk.injEq] at hp
            obtain ⟨h0, rfl, rfl, rfl, rfl, rfl, rfl, rfl⟩ := hp
            exact e_RIi hx hb hr hk hP hD hS dX11_byRule_35 h0
        · have hp := ite_n hp c_4
          refine lv_iconst (v := (-1)) hx hb dX11_byRule_18 (by decide) ?_
          simp only [Option.some.injEq, Prod.mk.injEq] at hp
          obtain ⟨h0, rfl, rfl, rfl, rfl, rfl, rfl, rfl⟩ := hp
          exact e_RIi hx hb hr hk hP hD hS dX11_byRule_19 h0
/-! StormSlots.demand(II)I -/
def St_demand (fo : Mem) (ro : Mem) (ra : Mem) (p1 : Int32) (p2 : Int32) : Option (Int32) :=
  bn1 (St_isHour p1) (fun r_2 => if r_2 = 0 then some (-1) else if p2 = 0 then bn1 (Fi_dueIn ro p1) (fun r_6 => some r_6) else if p2 = 1 then bn1 (Ra_of ra p1) (fun r_9 => some r_9) else if p2 = 2 then bn1 (Fi_seatedIn fo p1) (fun r_12 => some r_12) else some (-1))
set_option maxHeartbeats 4000000 in
set_option maxRecDepth 100000 in
theorem c_X11_demand (l : Launch) (D : va_G) (cy : Nat → ClassId) (qsm qbsa qbsb qrd qdi qrof qpn qse qfo qro qra qvc qos qli qfot qrot qrat qvct qost qlit : Nat → Nat) (sm bsa bsb rd di rof pn se fo ro ra vc os li fot rot rat vct ost lit : Mem) (p1 p2 : Int32) (r : Int32) (hp : St_demand fo ro ra p1 p2 = some r) : RO l yX11_demand cX11_demand 3 (some .int) 2 D cy [.ref (qsm 0), .int p1, .int p2] (w_All cy qsm qbsa qbsb qrd qdi qrof qpn qse qfo qro qra qvc qos qli qfot qrot qrat qvct qost qlit sm bsa bsb rd di rof pn se fo ro ra vc os li fot rot rat vct ost lit) r := by
  refine RO_of RX11 rfl (by decide) (Nat.le_of_ble_eq_true rfl) ?_
  intro p e s m below meth c C0 hK hP ls hl
  obtain ⟨hx, hb, hr, hml, hown, hts, hk⟩ := id C0
  unfold St_demand at hp
  have hl : lv_has ls 3 [(0, .ref (qsm 0)), (1, .int p1), (2, .int p2)] := hl
  refine lv_iload_n hx hb dX11_demand_0 rfl (lv_at hl 1 rfl) ?_
  obtain ⟨r_2, hc_1, hp⟩ := bn1_s hp
  refine k_ROS (As := [.int p1]) (rest := []) ⟨hx, hb, hml, hown, hts⟩ hK (show va_P D vwCl [] _ from fun k q h => by simp at h) (cw_X11_119 hts ⟨Nat.le_of_ble_eq_true rfl, Nat.le_of_ble_eq_true rfl⟩) (c_X11_isHour l D cy p1 r_2 hc_1) rfl hl.1 (Nat.le_of_ble_eq_true rfl) ⟨Nat.le_refl _, Nat.le_refl _⟩ dX11_demand_1 ?_
  refine lv_if_ne (tgt := 9) hx hb dX11_demand_4 (by decide) (fun c_3 => ?_) (fun c_3 => ?_)
  · have hp := ite_n hp c_3
    refine lv_iload_n hx hb dX11_demand_9 rfl (lv_at hl 2 rfl) ?_
    by_cases c_4 : p2 = 0
    · have hp := ite_p hp c_4
      refine r_tab (tgt := 36) (off := 26) 0 hx hb dX11_demand_10 c_4 (by decide) (by decide) ?_
      refine lv_aload_n hx hb dX11_demand_36 rfl (lv_at hl 0 rfl) ?_
      refine gf_X11_57 hx hb hts hown hK hP 0 rfl rfl dX11_demand_37 ?_
      refine lv_iload_n hx hb dX11_demand_40 rfl (lv_at hl 1 rfl) ?_
      obtain ⟨r_6, hc_5, hp⟩ := bn1_s hp
      refine k_ROV (As := [.int p1]) (rest := []) ⟨hx, hb, hml, hown, hts⟩ hK (hP.sub (ws' := (w_Fi cy qfo qro qra qvc qos qli fo ro ra vc os li)) [20, 21, 22, 23, 24, 25, 26, 27, 28, 29, 30, 31, 32, 33, 34, 35, 36, 37, 38, 39, 40, 41, 42] rfl) (cw_X11_394 hts ⟨Nat.le_of_ble_eq_true rfl, Nat.le_of_ble_eq_true rfl⟩) 0 (ci := 2) rfl rfl rfl (c_X2_dueIn l D cy qfo qro qra qvc qos qli fo ro ra vc os li p1 r_6 hc_5) rfl hl.1 (Nat.le_of_ble_eq_true rfl) ⟨Nat.le_refl _, Nat.le_refl _⟩ dX11_demand_41 ?_
      exact e_ROi hx hb hr hk dX11_demand_44 (Option.some.inj hp)
    have hp := ite_n hp c_4
    by_cases c_7 : p2 = 1
    · have hp := ite_p hp c_7
      refine r_tab (tgt := 45) (off := 35) 1 hx hb dX11_demand_10 c_7 (by decide) (by decide) ?_
      refine lv_aload_n hx hb dX11_demand_45 rfl (lv_at hl 0 rfl) ?_
      refine gf_X11_57 hx hb hts hown hK hP 0 rfl rfl dX11_demand_46 ?_
      refine gf_X11_125 hx hb hts hown hK hP 20 rfl rfl dX11_demand_49 ?_
      refine lv_iload_n hx hb dX11_demand_52 rfl (lv_at hl 1 rfl) ?_
      obtain ⟨r_9, hc_8, hp⟩ := bn1_s hp
      refine k_ROV (As := [.int p1]) (rest := []) ⟨hx, hb, hml, hown, hts⟩ hK (hP.sub (ws' := (w_Ra cy qra ra)) [29, 30] rfl) (cw_X11_129 hts ⟨Nat.le_of_ble_eq_true rfl, Nat.le_of_ble_eq_true rfl⟩) 0 (ci := 7) rfl rfl rfl (c_X7_of l D cy qra ra p1 r_9 hc_8) rfl hl.1 (Nat.le_of_ble_eq_true rfl) ⟨Nat.le_refl _, Nat.le_refl _⟩ dX11_demand_53 ?_
      exact e_ROi hx hb hr hk dX11_demand_56 (Option.some.inj hp)
    have hp := ite_n hp c_7
    by_cases c_10 : p2 = 2
    · have hp := ite_p hp c_10
      refine r_tab (tgt := 57) (off := 47) 2 hx hb dX11_demand_10 c_10 (by decide) (by decide) ?_
      refine lv_aload_n hx hb dX11_demand_57 rfl (lv_at hl 0 rfl) ?_
      refine gf_X11_57 hx hb hts hown hK hP 0 rfl rfl dX11_demand_58 ?_
      refine lv_iload_n hx hb dX11_demand_61 rfl (lv_at hl 1 rfl) ?_
      obtain ⟨r_12, hc_11, hp⟩ := bn1_s hp
      refine k_ROV (As := [.int p1]) (rest := []) ⟨hx, hb, hml, hown, hts⟩ hK (hP.sub (ws' := (w_Fi cy qfo qro qra qvc qos qli fo ro ra vc os li)) [20, 21, 22, 23, 24, 25, 26, 27, 28, 29, 30, 31, 32, 33, 34, 35, 36, 37, 38, 39, 40, 41, 42] rfl) (cw_X11_397 hts ⟨Nat.le_of_ble_eq_true rfl, Nat.le_of_ble_eq_true rfl⟩) 0 (ci := 2) rfl rfl rfl (c_X2_seatedIn l D cy qfo qro qra qvc qos qli fo ro ra vc os li p1 r_12 hc_11) rfl hl.1 (Nat.le_of_ble_eq_true rfl) ⟨Nat.le_refl _, Nat.le_refl _⟩ dX11_demand_62 ?_
      exact e_ROi hx hb hr hk dX11_demand_65 (Option.some.inj hp)
    have hp := ite_n hp c_10
    refine lv_tableOut (tgt := 66) hx hb dX11_demand_10 (by have zc_4 : (p2).toInt ≠ 0 := ne_toInt c_4; have zc_7 : (p2).toInt ≠ 1 := ne_toInt c_7; have zc_10 : (p2).toInt ≠ 2 := ne_toInt c_10; omega) (by decide) ?_
    refine lv_iconst (v := (-1)) hx hb dX11_demand_66 (by decide) ?_
    exact e_ROi hx hb hr hk dX11_demand_67 (Option.some.inj hp)
  · have hp := ite_p hp c_3
    refine lv_iconst (v := (-1)) hx hb dX11_demand_7 (by decide) ?_
    exact e_ROi hx hb hr hk dX11_demand_8 (Option.some.inj hp)
/-! StormSlots.crowded(I)I -/
def St_crowded_b18B (fo : Mem) (ro : Mem) (p1 : Int32) (k18 : Int32 → Int32 → Int32 → Option (Int32)) (x2 : Int32) (x3 : Int32) (x4 : Int32) : Option (Int32) :=
  if 20 ≤ x4 then if p1 = 0 then some x2 else some x3 else bn1 (Fi_isSeated fo x4) (fun r_6 => if r_6 = 0 then stk (x4 + 1) (fun x4_24 => k18 x2 x3 x4_24) else bn1 (Fi_goesOff fo ro x4) (fun r_9 => stk (if 0 < r_9 then r_9 else 0) (fun x5_10 => bn1 (Fi_underWay fo ro x5_10) (fun r_12 => bn1 (Jd_bitCount_0f7a4 r_12) (fun r_14 => if x2 < r_14 then stk (x4 + 1) (fun x4_16 => k18 r_14 x5_10 x4_16) else if r_14 = x2 then if x2 ≤ 0 then stk (x4 + 1) (fun x4_20 => k18 x2 x3 x4_20) else if x3 ≤ x5_10 then stk (x4 + 1) (fun x4_22 => k18 x2 x3 x4_22) else stk (x4 + 1) (fun x4_23 => k18 r_14 x5_10 x4_23) else stk (x4 + 1) (fun x4_18 => k18 x2 x3 x4_18))))))
def St_crowded_b18 (fo : Mem) (ro : Mem) (p1 : Int32) : Nat → Int32 → Int32 → Int32 → Option (Int32)
  | 0 => fun _ _ _ => none
  | n + 1 => St_crowded_b18B fo ro p1 (St_crowded_b18 fo ro p1 n)
def St_crowded (fo : Mem) (ro : Mem) (p1 : Int32) : Option (Int32) :=
  if p1 < 0 then some (-1) else if p1 ≤ 1 then St_crowded_b18 fo ro p1 fl 0 0 0 else some (-1)
set_option maxHeartbeats 4000000 in
set_option maxRecDepth 100000 in
theorem St_crowded_b18B_w (C0 : cX RX11 cX11_crowded (some .int) 7 p s m args meth c) (hK : kN D cy s) {qsm qbsa qbsb qrd qdi qrof qpn qse qfo qro qra qvc qos qli qfot qrot qrat qvct qost qlit : Nat → Nat} {sm bsa bsb rd di rof pn se fo ro ra vc os li fot rot rat vct ost lit : Mem} {p1 : Int32} {r : Int32} (hP : va_P D vwCl (w_All cy qsm qbsa qbsb qrd qdi qrof qpn qse qfo qro qra qvc qos qli qfot qrot qrat qvct qost qlit sm bsa bsb rd di rof pn se fo ro ra vc os li fot rot rat vct ost lit) s.heap) {k18 : Int32 → Int32 → Int32 → Option (Int32)} (hk18 : ∀ (x2 x3 x4 : Int32) (ls : Array Slot), lv_has ls 7 [(0, .ref (qsm 0)), (1, .int p1), (2, .int x2), (3, .int x3), (4, .int x4)] → k18 x2 x3 x4 = some r → W p l e (rmD 2) s m args below meth c s.heap [] 0 0 (qRO below args s r) (F0 m 18 ls [])) {x2 : Int32} {x3 : Int32} {x4 : Int32} {ls : Array Slot} (hl : lv_has ls 7 [(0, .ref (qsm 0)), (1, .int p1), (2, .int x2), (3, .int x3), (4, .int x4)]) (hp : St_crowded_b18B fo ro p1 k18 x2 x3 x4 = some r) : W p l e (rmD 2) s m args below meth c s.heap [] 0 0 (qRO below args s r) (F0 m 18 ls []) := by
  obtain ⟨hx, hb, hr, hml, hown, hts, hk⟩ := id C0
  unfold St_crowded_b18B at hp
  refine lv_iload hx hb dX11_crowded_18 (lv_at hl 4 rfl) ?_
  refine lv_bipush (v := 20) hx hb dX11_crowded_20 (by decide) ?_
  refine lv_icmp_ge (tgt := 103) hx hb dX11_crowded_22 (by decide) (fun c_3 => ?_) (fun c_3 => ?_)
  · have hp := ite_p hp c_3
    refine lv_iload_n hx hb dX11_crowded_103 rfl (lv_at hl 1 rfl) ?_
    refine lv_if_ne (tgt := 111) hx hb dX11_crowded_104 (by decide) (fun c_4 => ?_) (fun c_4 => ?_)
    · have hp := ite_n hp c_4
      refine lv_iload_n hx hb dX11_crowded_111 rfl (lv_at hl 3 rfl) ?_
      exact e_ROi hx hb hr hk dX11_crowded_112 (Option.some.inj hp)
    · have hp := ite_p hp c_4
      refine lv_iload_n hx hb dX11_crowded_107 rfl (lv_at hl 2 rfl) ?_
      refine lv_goto (tgt := 112) hx hb dX11_crowded_108 (by decide) ?_
      exact e_ROi hx hb hr hk dX11_crowded_112 (Option.some.inj hp)
  · have hp := ite_n hp c_3
    refine lv_aload_n hx hb dX11_crowded_25 rfl (lv_at hl 0 rfl) ?_
    refine gf_X11_57 hx hb hts hown hK hP 0 rfl rfl dX11_crowded_26 ?_
    refine lv_iload hx hb dX11_crowded_29 (lv_at hl 4 rfl) ?_
    obtain ⟨r_6, hc_5, hp⟩ := bn1_s hp
    refine k_ROV (As := [.int x4]) (rest := []) ⟨hx, hb, hml, hown, hts⟩ hK (hP.sub (ws' := (w_Fi cy qfo qro qra qvc qos qli fo ro ra vc os li)) [20, 21, 22, 23, 24, 25, 26, 27, 28, 29, 30, 31, 32, 33, 34, 35, 36, 37, 38, 39, 40, 41, 42] rfl) (cw_X11_164 hts ⟨Nat.le_of_ble_eq_true rfl, Nat.le_of_ble_eq_true rfl⟩) 0 (ci := 2) rfl rfl rfl (c_X2_isSeated l D cy qfo qro qra qvc qos qli fo ro ra vc os li x4 r_6 hc_5) rfl hl.1 (Nat.le_of_ble_eq_true rfl) ⟨Nat.le_refl _, Nat.le_refl _⟩ dX11_crowded_31 ?_
    refine lv_if_ne (tgt := 40) hx hb dX11_crowded_34 (by decide) (fun c_7 => ?_) (fun c_7 => ?_)
    · have hp := ite_n hp c_7
      refine lv_iconst (v := 0) hx hb dX11_crowded_40 (by decide) ?_
      refine lv_aload_n hx hb dX11_crowded_41 rfl (lv_at hl 0 rfl) ?_
      refine gf_X11_57 hx hb hts hown hK hP 0 rfl rfl dX11_crowded_42 ?_
      refine lv_iload hx hb dX11_crowded_45 (lv_at hl 4 rfl) ?_
      obtain ⟨r_9, hc_8, hp⟩ := bn1_s hp
      refine k_ROV (As := [.int x4]) (rest := [.int 0]) ⟨hx, hb, hml, hown, hts⟩ hK (hP.sub (ws' := (w_Fi cy qfo qro qra qvc qos qli fo ro ra vc os li)) [20, 21, 22, 23, 24, 25, 26, 27, 28, 29, 30, 31, 32, 33, 34, 35, 36, 37, 38, 39, 40, 41, 42] rfl) (cw_X11_400 hts ⟨Nat.le_of_ble_eq_true rfl, Nat.le_of_ble_eq_true rfl⟩) 0 (ci := 2) rfl rfl rfl (c_X2_goesOff l D cy qfo qro qra qvc qos qli fo ro ra vc os li x4 r_9 hc_8) rfl hl.1 (Nat.le_of_ble_eq_true rfl) ⟨Nat.le_refl _, Nat.le_refl _⟩ dX11_crowded_47 ?_
      refine mm_X11_403 hx hb (by rw [hml]; exact hl.1.symm) hts hown (Nat.le_of_ble_eq_true rfl) (Nat.le_of_ble_eq_true rfl) (Nat.le_refl _) (Nat.le_refl _) dX11_crowded_50 ?_
      refine lv_topi (fun x5_10 ex5_10 => ?_)
      have hp := stk_e hp ex5_10
      refine lv_istore (lv' := [(5, .int x5_10), (0, .ref (qsm 0)), (1, .int p1), (2, .int x2), (3, .int x3), (4, .int x4)]) hx hb dX11_crowded_53 hl (by decide) rfl (fun ls hl => ?_)
      refine lv_aload_n hx hb dX11_crowded_55 rfl (lv_at hl 1 rfl) ?_
      refine gf_X11_57 hx hb hts hown hK hP 0 rfl rfl dX11_crowded_56 ?_
      refine lv_iload hx hb dX11_crowded_59 (lv_at hl 0 rfl) ?_
      obtain ⟨r_12, hc_11, hp⟩ := bn1_s hp
      refine k_ROV (As := [.int x5_10]) (rest := []) ⟨hx, hb, hml, hown, hts⟩ hK (hP.sub (ws' := (w_Fi cy qfo qro qra qvc qos qli fo ro ra vc os li)) [20, 21, 22, 23, 24, 25, 26, 27, 28, 29, 30, 31, 32, 33, 34, 35, 36, 37, 38, 39, 40, 41, 42] rfl) (cw_X11_408 hts ⟨Nat.le_of_ble_eq_true rfl, Nat.le_of_ble_eq_true rfl⟩) 0 (ci := 2) rfl rfl rfl (c_X2_underWay l D cy qfo qro qra qvc qos qli fo ro ra vc os li x5_10 r_12 hc_11) rfl hl.1 (Nat.le_of_ble_eq_true rfl) ⟨Nat.le_refl _, Nat.le_refl _⟩ dX11_crowded_61 ?_
      obtain ⟨r_14, hc_13, hp⟩ := bn1_s hp
      refine k_ROS (As := [.int r_12]) (rest := []) ⟨hx, hb, hml, hown, hts⟩ hK (show va_P D vwCl [] _ from fun k q h => by simp at h) (cw_X11_411 hts ⟨Nat.le_of_ble_eq_true rfl, Nat.le_of_ble_eq_true rfl⟩) (c_J6_bitCount_0f7a4 l D cy r_12 r_14 hc_13) rfl hl.1 (Nat.le_of_ble_eq_true rfl) ⟨Nat.le_refl _, Nat.le_refl _⟩ dX11_crowded_64 ?_
      refine lv_istore (lv' := [(6, .int r_14), (5, .int x5_10), (0, .ref (qsm 0)), (1, .int p1), (2, .int x2), (3, .int x3), (4, .int x4)]) hx hb dX11_crowded_67 hl (by decide) rfl (fun ls hl => ?_)
      refine lv_iload hx hb dX11_crowded_69 (lv_at hl 0 rfl) ?_
      refine lv_iload_n hx hb dX11_crowded_71 rfl (lv_at hl 4 rfl) ?_
      refine lv_icmp_gt (tgt := 91) hx hb dX11_crowded_72 (by decide) (fun c_15 => ?_) (fun c_15 => ?_)
      · have hp := ite_p hp c_15
        refine lv_iload hx hb dX11_crowded_91 (lv_at hl 0 rfl) ?_
        refine lv_istore_n (lv' := [(2, .int r_14), (6, .int r_14), (5, .int x5_10), (0, .ref (qsm 0)), (1, .int p1), (3, .int x3), (4, .int x4)]) hx hb dX11_crowded_93 rfl hl (by decide) rfl (fun ls hl => ?_)
        refine lv_iload hx hb dX11_crowded_94 (lv_at hl 2 rfl) ?_
        refine lv_istore_n (lv' := [(3, .int x5_10), (2, .int r_14), (6, .int r_14), (5, .int x5_10), (0, .ref (qsm 0)), (1, .int p1), (4, .int x4)]) hx hb dX11_crowded_96 rfl hl (by decide) rfl (fun ls hl => ?_)
        obtain ⟨x4_16, ex4_16⟩ : ∃ y : Int32, y = x4 + 1 := ⟨_, rfl⟩
        have hp := stk_e hp ex4_16
        refine lv_iinc (v := x4_16) (lv' := [(4, .int x4_16), (3, .int x5_10), (2, .int r_14), (6, .int r_14), (5, .int x5_10), (0, .ref (qsm 0)), (1, .int p1)]) hx hb dX11_crowded_97 hl (k := 6) rfl (by rw [ex4_16]; rfl) (by decide) rfl (fun ls hl => ?_)
        refine lv_goto (tgt := 18) hx hb dX11_crowded_100 (by decide) ?_
        exact hk18 r_14 x5_10 x4_16 _ (lv_sub hl [5, 6, 2, 1, 0] rfl) hp
      · have hp := ite_n hp c_15
        refine lv_iload hx hb dX11_crowded_75 (lv_at hl 0 rfl) ?_
        refine lv_iload_n hx hb dX11_crowded_77 rfl (lv_at hl 4 rfl) ?_
        refine lv_icmp_ne (tgt := 97) hx hb dX11_crowded_78 (by decide) (fun c_17 => ?_) (fun c_17 => ?_)
        · have hp := ite_n hp c_17
          obtain ⟨x4_18, ex4_18⟩ : ∃ y : Int32, y = x4 + 1 := ⟨_, rfl⟩
          have hp := stk_e hp ex4_18
          refine lv_iinc (v := x4_18) (lv' := [(4, .int x4_18), (6, .int r_14), (5, .int x5_10), (0, .ref (qsm 0)), (1, .int p1), (2, .int x2), (3, .int x3)]) hx hb dX11_crowded_97 hl (k := 6) rfl (by rw [ex4_18]; rfl) (by decide) rfl (fun ls hl => ?_)
          refine lv_goto (tgt := 18) hx hb dX11_crowded_100 (by decide) ?_
          exact hk18 x2 x3 x4_18 _ (lv_sub hl [3, 4, 5, 6, 0] rfl) hp
        · have hp := ite_p hp c_17
          refine lv_iload_n hx hb dX11_crowded_81 rfl (lv_at hl 4 rfl) ?_
          refine lv_if_le (tgt := 97) hx hb dX11_crowded_82 (by decide) (fun c_19 => ?_) (fun c_19 => ?_)
          · have hp := ite_p hp c_19
            obtain ⟨x4_20, ex4_20⟩ : ∃ y : Int32, y = x4 + 1 := ⟨_, rfl⟩
            have hp := stk_e hp ex4_20
            refine lv_iinc (v := x4_20) (lv' := [(4, .int x4_20), (6, .int r_14), (5, .int x5_10), (0, .ref (qsm 0)), (1, .int p1), (2, .int x2), (3, .int x3)]) hx hb dX11_crowded_97 hl (k := 6) rfl (by rw [ex4_20]; rfl) (by decide) rfl (fun ls hl => ?_)
            refine lv_goto (tgt := 18) hx hb dX11_crowded_100 (by decide) ?_
            exact hk18 x2 x3 x4_20 _ (lv_sub hl [3, 4, 5, 6, 0] rfl) hp
          · have hp := ite_n hp c_19
            refine lv_iload hx hb dX11_crowded_85 (lv_at hl 1 rfl) ?_
            refine lv_iload_n hx hb dX11_crowded_87 rfl (lv_at hl 5 rfl) ?_
            refine lv_icmp_ge (tgt := 97) hx hb dX11_crowded_88 (by decide) (fun c_21 => ?_) (fun c_21 => ?_)
            · have hp := ite_p hp c_21
              obtain ⟨x4_22, ex4_22⟩ : ∃ y : Int32, y = x4 + 1 := ⟨_, rfl⟩
              have hp := stk_e hp ex4_22
              refine lv_iinc (v := x4_22) (lv' := [(4, .int x4_22), (6, .int r_14), (5, .int x5_10), (0, .ref (qsm 0)), (1, .int p1), (2, .int x2), (3, .int x3)]) hx hb dX11_crowded_97 hl (k := 6) rfl (by rw [ex4_22]; rfl) (by decide) rfl (fun ls hl => ?_)
              refine lv_goto (tgt := 18) hx hb dX11_crowded_100 (by decide) ?_
              exact hk18 x2 x3 x4_22 _ (lv_sub hl [3, 4, 5, 6, 0] rfl) hp
            · have hp := ite_n hp c_21
              refine lv_iload hx hb dX11_crowded_91 (lv_at hl 0 rfl) ?_
              refine lv_istore_n (lv' := [(2, .int r_14), (6, .int r_14), (5, .int x5_10), (0, .ref (qsm 0)), (1, .int p1), (3, .int x3), (4, .int x4)]) hx hb dX11_crowded_93 rfl hl (by decide) rfl (fun ls hl => ?_)
              refine lv_iload hx hb dX11_crowded_94 (lv_at hl 2 rfl) ?_
              refine lv_istore_n (lv' := [(3, .int x5_10), (2, .int r_14), (6, .int r_14), (5, .int x5_10), (0, .ref (qsm 0)), (1, .int p1), (4, .int x4)]) hx hb dX11_crowded_96 rfl hl (by decide) rfl (fun ls hl => ?_)
              obtain ⟨x4_23, ex4_23⟩ : ∃ y : Int32, y = x4 + 1 := ⟨_, rfl⟩
              have hp := stk_e hp ex4_23
              refine lv_iinc (v := x4_23) (lv' := [(4, .int x4_23), (3, .int x5_10), (2, .int r_14), (6, .int r_14), (5, .int x5_10), (0, .ref (qsm 0)), (1, .int p1)]) hx hb dX11_crowded_97 hl (k := 6) rfl (by rw [ex4_23]; rfl) (by decide) rfl (fun ls hl => ?_)
              refine lv_goto (tgt := 18) hx hb dX11_crowded_100 (by decide) ?_
              exact hk18 r_14 x5_10 x4_23 _ (lv_sub hl [5, 6, 2, 1, 0] rfl) hp
    · have hp := ite_p hp c_7
      refine lv_goto (tgt := 97) hx hb dX11_crowded_37 (by decide) ?_
      obtain ⟨x4_24, ex4_24⟩ : ∃ y : Int32, y = x4 + 1 := ⟨_, rfl⟩
      have hp := stk_e hp ex4_24
      refine lv_iinc (v := x4_24) (lv' := [(4, .int x4_24), (0, .ref (qsm 0)), (1, .int p1), (2, .int x2), (3, .int x3)]) hx hb dX11_crowded_97 hl (k := 4) rfl (by rw [ex4_24]; rfl) (by decide) rfl (fun ls hl => ?_)
      refine lv_goto (tgt := 18) hx hb dX11_crowded_100 (by decide) ?_
      exact hk18 x2 x3 x4_24 _ (lv_sub hl [1, 2, 3, 4, 0] rfl) hp
theorem St_crowded_b18_w (C0 : cX RX11 cX11_crowded (some .int) 7 p s m args meth c) (hK : kN D cy s) {qsm qbsa qbsb qrd qdi qrof qpn qse qfo qro qra qvc qos qli qfot qrot qrat qvct qost qlit : Nat → Nat} {sm bsa bsb rd di rof pn se fo ro ra vc os li fot rot rat vct ost lit : Mem} {p1 : Int32} {r : Int32} (hP : va_P D vwCl (w_All cy qsm qbsa qbsb qrd qdi qrof qpn qse qfo qro qra qvc qos qli qfot qrot qrat qvct qost qlit sm bsa bsb rd di rof pn se fo ro ra vc os li fot rot rat vct ost lit) s.heap) : ∀ (n : Nat) (x2 x3 x4 : Int32) (ls : Array Slot), lv_has ls 7 [(0, .ref (qsm 0)), (1, .int p1), (2, .int x2), (3, .int x3), (4, .int x4)] → St_crowded_b18 fo ro p1 n x2 x3 x4 = some r → W p l e (rmD 2) s m args below meth c s.heap [] 0 0 (qRO below args s r) (F0 m 18 ls []) := by
  intro n
  induction n with
  | zero =>
    intro x2 x3 x4 ls hl hp
    cases hp
  | succ n ih =>
    intro x2 x3 x4 ls hl hp
    exact St_crowded_b18B_w C0 hK hP  (fun x2 x3 x4 ls hl hp => ih x2 x3 x4 ls hl hp) hl hp
set_option maxHeartbeats 4000000 in
set_option maxRecDepth 100000 in
theorem c_X11_crowded (l : Launch) (D : va_G) (cy : Nat → ClassId) (qsm qbsa qbsb qrd qdi qrof qpn qse qfo qro qra qvc qos qli qfot qrot qrat qvct qost qlit : Nat → Nat) (sm bsa bsb rd di rof pn se fo ro ra vc os li fot rot rat vct ost lit : Mem) (p1 : Int32) (r : Int32) (hp : St_crowded fo ro p1 = some r) : RO l yX11_crowded cX11_crowded 7 (some .int) 2 D cy [.ref (qsm 0), .int p1] (w_All cy qsm qbsa qbsb qrd qdi qrof qpn qse qfo qro qra qvc qos qli qfot qrot qrat qvct qost qlit sm bsa bsb rd di rof pn se fo ro ra vc os li fot rot rat vct ost lit) r := by
  refine RO_of RX11 rfl (by decide) (Nat.le_of_ble_eq_true rfl) ?_
  intro p e s m below meth c C0 hK hP ls hl
  obtain ⟨hx, hb, hr, hml, hown, hts, hk⟩ := id C0
  unfold St_crowded at hp
  have hl : lv_has ls 7 [(0, .ref (qsm 0)), (1, .int p1)] := hl
  refine lv_iload_n hx hb dX11_crowded_0 rfl (lv_at hl 1 rfl) ?_
  refine lv_if_lt (tgt := 9) hx hb dX11_crowded_1 (by decide) (fun c_1 => ?_) (fun c_1 => ?_)
  · have hp := ite_p hp c_1
    refine lv_iconst (v := (-1)) hx hb dX11_crowded_9 (by decide) ?_
    exact e_ROi hx hb hr hk dX11_crowded_10 (Option.some.inj hp)
  · have hp := ite_n hp c_1
    refine lv_iload_n hx hb dX11_crowded_4 rfl (lv_at hl 1 rfl) ?_
    refine lv_iconst (v := 1) hx hb dX11_crowded_5 (by decide) ?_
    refine lv_icmp_le (tgt := 11) hx hb dX11_crowded_6 (by decide) (fun c_2 => ?_) (fun c_2 => ?_)
    · have hp := ite_p hp c_2
      refine lv_iconst (v := 0) hx hb dX11_crowded_11 (by decide) ?_
      refine lv_istore_n (lv' := [(2, .int 0), (0, .ref (qsm 0)), (1, .int p1)]) hx hb dX11_crowded_12 rfl hl (by decide) rfl (fun ls hl => ?_)
      refine lv_iconst (v := 0) hx hb dX11_crowded_13 (by decide) ?_
      refine lv_istore_n (lv' := [(3, .int 0), (2, .int 0), (0, .ref (qsm 0)), (1, .int p1)]) hx hb dX11_crowded_14 rfl hl (by decide) rfl (fun ls hl => ?_)
      refine lv_iconst (v := 0) hx hb dX11_crowded_15 (by decide) ?_
      refine lv_istore (lv' := [(4, .int 0), (3, .int 0), (2, .int 0), (0, .ref (qsm 0)), (1, .int p1)]) hx hb dX11_crowded_16 hl (by decide) rfl (fun ls hl => ?_)
      exact St_crowded_b18_w C0 hK hP  fl 0 0 0 _ (lv_sub hl [3, 4, 2, 1, 0] rfl) hp
    · have hp := ite_n hp c_2
      refine lv_iconst (v := (-1)) hx hb dX11_crowded_9 (by decide) ?_
      exact e_ROi hx hb hr hk dX11_crowded_10 (Option.some.inj hp)
/-! StormSlots.would(IIII)I -/
def St_would (pn : Mem) (fo : Mem) (ro : Mem) (ra : Mem) (vc : Mem) (os : Mem) (li : Mem) (fot : Mem) (rot : Mem) (rat : Mem) (vct : Mem) (ost : Mem) (lit : Mem) (p1 : Int32) (p2 : Int32) (p3 : Int32) (p4 : Int32) : Option (Int32 × Mem × Mem × Mem × Mem × Mem × Mem × Mem) :=
  bn1 (St_isRate p1) (fun r_2 => if r_2 = 0 then some ((-1), pn, fot, rot, rat, vct, ost, lit) else bn1 (St_areHours p2 p3) (fun r_5 => if r_5 = 0 then some ((-1), pn, fot, rot, rat, vct, ost, lit) else if p4 < 0 then some ((-1), pn, fot, rot, rat, vct, ost, lit) else if p4 ≤ 2 then if (ro 4 0) = 0 then some ((-2), pn, fot, rot, rat, vct, ost, lit) else bn6 (Fi_copyFrom fot rot rat vct ost lit fo ro ra vc os li) (fun fot_11 rot_12 rat_13 vct_14 ost_15 lit_16 => bn1 (Ra_putAll rat_13 p2 p3 p1) (fun rat_18 => bn4 (Pl_planAnew pn fot_11 rot_12 rat_18 vct_14 ost_15 0) (fun pn_20 fot_21 vct_22 ost_23 => if p4 = 0 then bn1 (Fi_totalHold fot_21) (fun r_26 => some (r_26, pn_20, fot_21, rot_12, rat_18, vct_22, ost_23, lit_16)) else if p4 = 1 then bn1 (Fi_totalCircles fot_21) (fun r_29 => some (r_29, pn_20, fot_21, rot_12, rat_18, vct_22, ost_23, lit_16)) else bn1 (Fi_lastSlot fot_21) (fun r_31 => some (r_31, pn_20, fot_21, rot_12, rat_18, vct_22, ost_23, lit_16))))) else some ((-1), pn, fot, rot, rat, vct, ost, lit)))
set_option maxHeartbeats 4000000 in
set_option maxRecDepth 100000 in
theorem c_X11_would (l : Launch) (D : va_G) (cy : Nat → ClassId) (qsm qbsa qbsb qrd qdi qrof qpn qse qfo qro qra qvc qos qli qfot qrot qrat qvct qost qlit : Nat → Nat) (sm bsa bsb rd di rof pn se fo ro ra vc os li fot rot rat vct ost lit : Mem) (p1 p2 p3 p4 : Int32) (r : Int32) (pn' fot' rot' rat' vct' ost' lit' : Mem) (hp : St_would pn fo ro ra vc os li fot rot rat vct ost lit p1 p2 p3 p4 = some (r, pn', fot', rot', rat', vct', ost', lit')) : RI l yX11_would cX11_would 5 (some .int) 6 D cy [.ref (qsm 0), .int p1, .int p2, .int p3, .int p4] (w_All cy qsm qbsa qbsb qrd qdi qrof qpn qse qfo qro qra qvc qos qli qfot qrot qrat qvct qost qlit sm bsa bsb rd di rof pn se fo ro ra vc os li fot rot rat vct ost lit) (w_All cy qsm qbsa qbsb qrd qdi qrof qpn qse qfo qro qra qvc qos qli qfot qrot qrat qvct qost qlit sm bsa bsb rd di rof pn' se fo ro ra vc os li fot' rot' rat' vct' ost' lit') r := by
  refine RI_of RX11 rfl (by decide) (Nat.le_of_ble_eq_true rfl) ?_
  intro p e s m below meth c A C0 hK hP hD hS hA ls hl
  obtain ⟨hx, hb, hr, hml, hown, hts, hk⟩ := id C0
  unfold St_would at hp
  have hl : lv_has ls 5 [(0, .ref (qsm 0)), (1, .int p1), (2, .int p2), (3, .int p3), (4, .int p4)] := hl
  refine lv_iload_n hx hb dX11_would_0 rfl (lv_at hl 1 rfl) ?_
  obtain ⟨r_2, hc_1, hp⟩ := bn1_s hp
  refine k_ROS (As := [.int p1]) (rest := []) ⟨hx, hb, hml, hown, hts⟩ hK (show va_P D vwCl [] _ from fun k q h => by simp at h) (cw_X11_122 hts ⟨Nat.le_of_ble_eq_true rfl, Nat.le_of_ble_eq_true rfl⟩) (c_X11_isRate l D cy p1 r_2 hc_1) rfl hl.1 (Nat.le_of_ble_eq_true rfl) ⟨Nat.le_refl _, Nat.le_refl _⟩ dX11_would_1 ?_
  refine lv_if_eq (tgt := 26) hx hb dX11_would_4 (by decide) (fun c_3 => ?_) (fun c_3 => ?_)
  · have hp := ite_p hp c_3
    refine lv_iconst (v := (-1)) hx hb dX11_would_26 (by decide) ?_
    simp only [Option.some.injEq, Prod.mk.injEq] at hp
    obtain ⟨h0, rfl, rfl, rfl, rfl, rfl, rfl, rfl⟩ := hp
    exact e_RIi hx hb hr hk hP hD hS dX11_would_27 h0
  · have hp := ite_n hp c_3
    refine lv_iload_n hx hb dX11_would_7 rfl (lv_at hl 2 rfl) ?_
    refine lv_iload_n hx hb dX11_would_8 rfl (lv_at hl 3 rfl) ?_
    obtain ⟨r_5, hc_4, hp⟩ := bn1_s hp
    refine k_ROS (As := [.int p2, .int p3]) (rest := []) ⟨hx, hb, hml, hown, hts⟩ hK (show va_P D vwCl [] _ from fun k q h => by simp at h) (cw_X11_138 hts ⟨Nat.le_of_ble_eq_true rfl, Nat.le_of_ble_eq_true rfl⟩) (c_X11_areHours l D cy p2 p3 r_5 hc_4) rfl hl.1 (Nat.le_of_ble_eq_true rfl) ⟨Nat.le_refl _, Nat.le_refl _⟩ dX11_would_9 ?_
    refine lv_if_eq (tgt := 26) hx hb dX11_would_12 (by decide) (fun c_6 => ?_) (fun c_6 => ?_)
    · have hp := ite_p hp c_6
      refine lv_iconst (v := (-1)) hx hb dX11_would_26 (by decide) ?_
      simp only [Option.some.injEq, Prod.mk.injEq] at hp
      obtain ⟨h0, rfl, rfl, rfl, rfl, rfl, rfl, rfl⟩ := hp
      exact e_RIi hx hb hr hk hP hD hS dX11_would_27 h0
    · have hp := ite_n hp c_6
      refine lv_iload hx hb dX11_would_15 (lv_at hl 4 rfl) ?_
      refine lv_if_lt (tgt := 26) hx hb dX11_would_17 (by decide) (fun c_7 => ?_) (fun c_7 => ?_)
      · have hp := ite_p hp c_7
        refine lv_iconst (v := (-1)) hx hb dX11_would_26 (by decide) ?_
        simp only [Option.some.injEq, Prod.mk.injEq] at hp
        obtain ⟨h0, rfl, rfl, rfl, rfl, rfl, rfl, rfl⟩ := hp
        exact e_RIi hx hb hr hk hP hD hS dX11_would_27 h0
      · have hp := ite_n hp c_7
        refine lv_iload hx hb dX11_would_20 (lv_at hl 4 rfl) ?_
        refine lv_iconst (v := 2) hx hb dX11_would_22 (by decide) ?_
        refine lv_icmp_le (tgt := 28) hx hb dX11_would_23 (by decide) (fun c_8 => ?_) (fun c_8 => ?_)
        · have hp := ite_p hp c_8
          refine lv_aload_n hx hb dX11_would_28 rfl (lv_at hl 0 rfl) ?_
          refine gf_X11_57 hx hb hts hown hK hP 0 rfl rfl dX11_would_29 ?_
          refine gf_X11_87 hx hb hts hown hK hP 20 rfl rfl dX11_would_32 ?_
          refine gf_X11_90 hx hb hts hown hK hP 24 rfl rfl dX11_would_35 ?_
          refine lv_if_ne (tgt := 44) hx hb dX11_would_38 (by decide) (fun c_9 => ?_) (fun c_9 => ?_)
          · have hp := ite_n hp c_9
            refine lv_aload_n hx hb dX11_would_44 rfl (lv_at hl 0 rfl) ?_
            refine gf_X11_61 hx hb hts hown hK hP 0 rfl rfl dX11_would_45 ?_
            refine lv_aload_n hx hb dX11_would_48 rfl (lv_at hl 0 rfl) ?_
            refine gf_X11_57 hx hb hts hown hK hP 0 rfl rfl dX11_would_49 ?_
            obtain ⟨fot_11, rot_12, rat_13, vct_14, ost_15, lit_16, hc_10, hp⟩ := bn6_s hp
            refine k_RVV (As := [.ref (qfo 0)]) (rest := []) ⟨hx, hb, hml, hown, hts⟩ hK hP hD hS hA (FrS_set (ws := (w_All cy qsm qbsa qbsb qrd qdi qrof qpn qse qfo qro qra qvc qos qli qfot qrot qrat qvct qost qlit sm bsa bsb rd di rof pn se fo ro ra vc os li fot rot rat vct ost lit)) (wc := (w_FiFi cy qfot qrot qrat qvct qost qlit qfo qro qra qvc qos qli fot rot rat vct ost lit fo ro ra vc os li)) (w1 := (w_FiFi cy qfot qrot qrat qvct qost qlit qfo qro qra qvc qos qli fot_11 rot_12 rat_13 vct_14 ost_15 lit_16 fo ro ra vc os li)) (wn := (w_All cy qsm qbsa qbsb qrd qdi qrof qpn qse qfo qro qra qvc qos qli qfot qrot qrat qvct qost qlit sm bsa bsb rd di rof pn se fo ro ra vc os li fot_11 rot_12 rat_13 vct_14 ost_15 lit_16)) [43, 44, 45, 46, 47, 48, 49, 50, 51, 52, 53, 54, 55, 56, 57, 58, 59, 60, 61, 62, 63, 64, 65, 20, 21, 22, 23, 24, 25, 26, 27, 28, 29, 30, 31, 32, 33, 34, 35, 36, 37, 38, 39, 40, 41, 42] [none, none, none, none, none, none, none, none, none, none, none, none, none, none, none, none, none, none, none, none, some 23, some 24, some 25, some 26, some 27, some 28, some 29, some 30, some 31, some 32, some 33, some 34, some 35, some 36, some 37, some 38, some 39, some 40, some 41, some 42, some 43, some 44, some 45, some 0, some 1, some 2, some 3, some 4, some 5, some 6, some 7, some 8, some 9, some 10, some 11, some 12, some 13, some 14, some 15, some 16, some 17, some 18, some 19, some 20, some 21, some 22] (by decide +kernel) rfl rfl rfl) (cw_X11_371 hts ⟨Nat.le_of_ble_eq_true rfl, Nat.le_of_ble_eq_true rfl⟩) 0 (ci := 2) rfl rfl rfl (c_X2_copyFrom l D cy qfot qrot qrat qvct qost qlit qfo qro qra qvc qos qli fot rot rat vct ost lit fo ro ra vc os li fot_11 rot_12 rat_13 vct_14 ost_15 lit_16 hc_10) rfl hl.1 (Nat.le_of_ble_eq_true rfl) ⟨Nat.le_refl _, Nat.le_refl _⟩ dX11_would_52 (fun H locs hP hD hS => ?_)
            refine lv_aload_n hx hb dX11_would_55 rfl (lv_at hl 0 rfl) ?_
            refine gf_X11_61 hx hb hts hown hK hP 0 rfl rfl dX11_would_56 ?_
            refine gf_X11_125 hx hb hts hown hK hP 43 rfl rfl dX11_would_59 ?_
            refine lv_iload_n hx hb dX11_would_62 rfl (lv_at hl 2 rfl) ?_
            refine lv_iload_n hx hb dX11_would_63 rfl (lv_at hl 3 rfl) ?_
            refine lv_iload_n hx hb dX11_would_64 rfl (lv_at hl 1 rfl) ?_
            obtain ⟨rat_18, hc_17, hp⟩ := bn1_s hp
            refine k_RVV (As := [.int p2, .int p3, .int p1]) (rest := []) ⟨hx, hb, hml, hown, hts⟩ hK hP hD hS hA (FrS_set (ws := (w_All cy qsm qbsa qbsb qrd qdi qrof qpn qse qfo qro qra qvc qos qli qfot qrot qrat qvct qost qlit sm bsa bsb rd di rof pn se fo ro ra vc os li fot_11 rot_12 rat_13 vct_14 ost_15 lit_16)) (wc := (w_Ra cy qrat rat_13)) (w1 := (w_Ra cy qrat rat_18)) (wn := (w_All cy qsm qbsa qbsb qrd qdi qrof qpn qse qfo qro qra qvc qos qli qfot qrot qrat qvct qost qlit sm bsa bsb rd di rof pn se fo ro ra vc os li fot_11 rot_12 rat_18 vct_14 ost_15 lit_16)) [52, 53] [none, none, none, none, none, none, none, none, none, none, none, none, none, none, none, none, none, none, none, none, none, none, none, none, none, none, none, none, none, none, none, none, none, none, none, none, none, none, none, none, none, none, none, none, none, none, none, none, none, none, none, none, some 0, some 1, none, none, none, none, none, none, none, none, none, none, none, none] (by decide +kernel) rfl rfl rfl) (cw_X11_416 hts ⟨Nat.le_of_ble_eq_true rfl, Nat.le_of_ble_eq_true rfl⟩) 0 (ci := 7) rfl rfl rfl (c_X7_putAll l D cy qrat rat_13 p2 p3 p1 rat_18 hc_17) rfl hl.1 (Nat.le_of_ble_eq_true rfl) ⟨Nat.le_refl _, Nat.le_refl _⟩ dX11_would_65 (fun H locs hP hD hS => ?_)
            refine lv_aload_n hx hb dX11_would_68 rfl (lv_at hl 0 rfl) ?_
            refine gf_X11_43 hx hb hts hown hK hP 0 rfl rfl dX11_would_69 ?_
            refine lv_aload_n hx hb dX11_would_72 rfl (lv_at hl 0 rfl) ?_
            refine gf_X11_61 hx hb hts hown hK hP 0 rfl rfl dX11_would_73 ?_
            refine lv_iconst (v := 0) hx hb dX11_would_76 (by decide) ?_
            obtain ⟨pn_20, fot_21, vct_22, ost_23, hc_19, hp⟩ := bn4_s hp
            refine k_RVV (As := [.ref (qfot 0), .int 0]) (rest := []) ⟨hx, hb, hml, hown, hts⟩ hK hP hD hS hA (FrS_set (ws := (w_All cy qsm qbsa qbsb qrd qdi qrof qpn qse qfo qro qra qvc qos qli qfot qrot qrat qvct qost qlit sm bsa bsb rd di rof pn se fo ro ra vc os li fot_11 rot_12 rat_18 vct_14 ost_15 lit_16)) (wc := (w_PlFi cy qpn qfot qrot qrat qvct qost qlit pn fot_11 rot_12 rat_18 vct_14 ost_15 lit_16)) (w1 := (w_PlFi cy qpn qfot qrot qrat qvct qost qlit pn_20 fot_21 rot_12 rat_18 vct_22 ost_23 lit_16)) (wn := (w_All cy qsm qbsa qbsb qrd qdi qrof qpn qse qfo qro qra qvc qos qli qfot qrot qrat qvct qost qlit sm bsa bsb rd di rof pn_20 se fo ro ra vc os li fot_21 rot_12 rat_18 vct_22 ost_23 lit_16)) [12, 13, 14, 43, 44, 45, 46, 47, 48, 49, 50, 51, 52, 53, 54, 55, 56, 57, 58, 59, 60, 61, 62, 63, 64, 65] [none, none, none, none, none, none, none, none, none, none, none, none, some 0, some 1, some 2, none, none, none, none, none, none, none, none, none, none, none, none, none, none, none, none, none, none, none, none, none, none, none, none, none, none, none, none, some 3, some 4, some 5, some 6, some 7, some 8, some 9, some 10, some 11, some 12, some 13, some 14, some 15, some 16, some 17, some 18, some 19, some 20, some 21, some 22, some 23, some 24, some 25] (by decide +kernel) rfl rfl rfl) (cw_X11_206 hts ⟨Nat.le_of_ble_eq_true rfl, Nat.le_of_ble_eq_true rfl⟩) 0 (ci := 6) rfl rfl rfl (c_X6_planAnew l D cy qpn qfot qrot qrat qvct qost qlit pn fot_11 rot_12 rat_18 vct_14 ost_15 lit_16 0 pn_20 fot_21 vct_22 ost_23 hc_19) rfl hl.1 (Nat.le_of_ble_eq_true rfl) ⟨Nat.le_refl _, Nat.le_refl _⟩ dX11_would_77 (fun H locs hP hD hS => ?_)
            refine lv_iload hx hb dX11_would_80 (lv_at hl 4 rfl) ?_
            by_cases c_24 : p4 = 0
            · have hp := ite_p hp c_24
              refine lv_lookup (tgt := 108) (off := 26) hx hb dX11_would_82 (by decide) (by rw [c_24]; decide) (by decide) ?_
              refine lv_aload_n hx hb dX11_would_108 rfl (lv_at hl 0 rfl) ?_
              refine gf_X11_61 hx hb hts hown hK hP 0 rfl rfl dX11_would_109 ?_
              obtain ⟨r_26, hc_25, hp⟩ := bn1_s hp
              refine k_ROV (As := []) (rest := []) ⟨hx, hb, hml, hown, hts⟩ hK (hP.sub (ws' := (w_Fi cy qfot qrot qrat qvct qost qlit fot_21 rot_12 rat_18 vct_22 ost_23 lit_16)) [43, 44, 45, 46, 47, 48, 49, 50, 51, 52, 53, 54, 55, 56, 57, 58, 59, 60, 61, 62, 63, 64, 65] rfl) (cw_X11_388 hts ⟨Nat.le_of_ble_eq_true rfl, Nat.le_of_ble_eq_true rfl⟩) 0 (ci := 2) rfl rfl rfl (c_X2_totalHold l D cy qfot qrot qrat qvct qost qlit fot_21 rot_12 rat_18 vct_22 ost_23 lit_16 r_26 hc_25) rfl hl.1 (Nat.le_of_ble_eq_true rfl) ⟨Nat.le_refl _, Nat.le_refl _⟩ dX11_would_112 ?_
              simp only [Option.some.injEq, Prod.mk.injEq] at hp
              obtain ⟨h0, rfl, rfl, rfl, rfl, rfl, rfl, rfl⟩ := hp
              exact e_RIi hx hb hr hk hP hD hS dX11_would_115 h0
            have hp := ite_n hp c_24
            by_cases c_27 : p4 = 1
            · have hp := ite_p hp c_27
              refine lv_lookup (tgt := 116) (off := 34) hx hb dX11_would_82 (by decide) (by rw [c_27]; decide) (by decide) ?_
              refine lv_aload_n hx hb dX11_would_116 rfl (lv_at hl 0 rfl) ?_
              refine gf_X11_61 hx hb hts hown hK hP 0 rfl rfl dX11_would_117 ?_
              obtain ⟨r_29, hc_28, hp⟩ := bn1_s hp
              refine k_ROV (As := []) (rest := []) ⟨hx, hb, hml, hown, hts⟩ hK (hP.sub (ws' := (w_Fi cy qfot qrot qrat qvct qost qlit fot_21 rot_12 rat_18 vct_22 ost_23 lit_16)) [43, 44, 45, 46, 47, 48, 49, 50, 51, 52, 53, 54, 55, 56, 57, 58, 59, 60, 61, 62, 63, 64, 65] rfl) (cw_X11_420 hts ⟨Nat.le_of_ble_eq_true rfl, Nat.le_of_ble_eq_true rfl⟩) 0 (ci := 2) rfl rfl rfl (c_X2_totalCircles l D cy qfot qrot qrat qvct qost qlit fot_21 rot_12 rat_18 vct_22 ost_23 lit_16 r_29 hc_28) rfl hl.1 (Nat.le_of_ble_eq_true rfl) ⟨Nat.le_refl _, Nat.le_refl _⟩ dX11_would_120 ?_
              simp only [Option.some.injEq, Prod.mk.injEq] at hp
              obtain ⟨h0, rfl, rfl, rfl, rfl, rfl, rfl, rfl⟩ := hp
              exact e_RIi hx hb hr hk hP hD hS dX11_would_123 h0
            have hp := ite_n hp c_27
            refine lv_lookup (tgt := 124) (off := 42) hx hb dX11_would_82 (by decide) (by have zc_24 : (p4).toInt ≠ 0 := ne_toInt c_24; have zc_27 : (p4).toInt ≠ 1 := ne_toInt c_27; simp only [Op.lookupswitch.offset]; first | (rw [if_neg (by omega), if_neg (by omega)]) | (simp; omega)) (by decide) ?_
            refine lv_aload_n hx hb dX11_would_124 rfl (lv_at hl 0 rfl) ?_
            refine gf_X11_61 hx hb hts hown hK hP 0 rfl rfl dX11_would_125 ?_
            obtain ⟨r_31, hc_30, hp⟩ := bn1_s hp
            refine k_ROV (As := []) (rest := []) ⟨hx, hb, hml, hown, hts⟩ hK (hP.sub (ws' := (w_Fi cy qfot qrot qrat qvct qost qlit fot_21 rot_12 rat_18 vct_22 ost_23 lit_16)) [43, 44, 45, 46, 47, 48, 49, 50, 51, 52, 53, 54, 55, 56, 57, 58, 59, 60, 61, 62, 63, 64, 65] rfl) (cw_X11_423 hts ⟨Nat.le_of_ble_eq_true rfl, Nat.le_of_ble_eq_true rfl⟩) 0 (ci := 2) rfl rfl rfl (c_X2_lastSlot l D cy qfot qrot qrat qvct qost qlit fot_21 rot_12 rat_18 vct_22 ost_23 lit_16 r_31 hc_30) rfl hl.1 (Nat.le_of_ble_eq_true rfl) ⟨Nat.le_refl _, Nat.le_refl _⟩ dX11_would_128 ?_
            simp only [Option.some.injEq, Prod.mk.injEq] at hp
            obtain ⟨h0, rfl, rfl, rfl, rfl, rfl, rfl, rfl⟩ := hp
            exact e_RIi hx hb hr hk hP hD hS dX11_would_131 h0
          · have hp := ite_p hp c_9
            refine lv_bipush (v := (-2)) hx hb dX11_would_41 (by decide) ?_
            simp only [Option.some.injEq, Prod.mk.injEq] at hp
            obtain ⟨h0, rfl, rfl, rfl, rfl, rfl, rfl, rfl⟩ := hp
            exact e_RIi hx hb hr hk hP hD hS dX11_would_43 h0
        · have hp := ite_n hp c_8
          refine lv_iconst (v := (-1)) hx hb dX11_would_26 (by decide) ?_
          simp only [Option.some.injEq, Prod.mk.injEq] at hp
          obtain ⟨h0, rfl, rfl, rfl, rfl, rfl, rfl, rfl⟩ := hp
          exact e_RIi hx hb hr hk hP hD hS dX11_would_27 h0
/-! StormSlots.rateFor(III)I -/
def St_rateFor_b51B (fo : Mem) (ro : Mem) (ra : Mem) (vc : Mem) (os : Mem) (li : Mem) (p1 : Int32) (p2 : Int32) (p3 : Int32) (k51 : Mem → Mem → Mem → Mem → Mem → Mem → Mem → Int32 → Option (Int32 × Mem × Mem × Mem × Mem × Mem × Mem × Mem)) (pn : Mem) (fot : Mem) (rot : Mem) (rat : Mem) (vct : Mem) (ost : Mem) (lit : Mem) (x4 : Int32) : Option (Int32 × Mem × Mem × Mem × Mem × Mem × Mem × Mem) :=
  if 12 < x4 then some ((-2), pn, fot, rot, rat, vct, ost, lit) else bn1 (Ra_putAll rat p1 p2 x4) (fun rat_16 => bn4 (Pl_planAnew pn fot rot rat_16 vct ost 0) (fun pn_18 fot_19 vct_20 ost_21 => bn1 (Fi_longestWait fot_19 rot) (fun r_23 => if p3 < r_23 then stk (x4 + 1) (fun x4_25 => k51 pn_18 fot_19 rot rat_16 vct_20 ost_21 lit x4_25) else some (x4, pn_18, fot_19, rot, rat_16, vct_20, ost_21, lit))))
def St_rateFor_b51 (fo : Mem) (ro : Mem) (ra : Mem) (vc : Mem) (os : Mem) (li : Mem) (p1 : Int32) (p2 : Int32) (p3 : Int32) : Nat → Mem → Mem → Mem → Mem → Mem → Mem → Mem → Int32 → Option (Int32 × Mem × Mem × Mem × Mem × Mem × Mem × Mem)
  | 0 => fun _ _ _ _ _ _ _ _ => none
  | n + 1 => St_rateFor_b51B fo ro ra vc os li p1 p2 p3 (St_rateFor_b51 fo ro ra vc os li p1 p2 p3 n)
def St_rateFor (pn : Mem) (fo : Mem) (ro : Mem) (ra : Mem) (vc : Mem) (os : Mem) (li : Mem) (fot : Mem) (rot : Mem) (rat : Mem) (vct : Mem) (ost : Mem) (lit : Mem) (p1 : Int32) (p2 : Int32) (p3 : Int32) : Option (Int32 × Mem × Mem × Mem × Mem × Mem × Mem × Mem) :=
  bn1 (St_areHours p1 p2) (fun r_2 => if r_2 = 0 then some ((-1), pn, fot, rot, rat, vct, ost, lit) else if p3 < 0 then some ((-1), pn, fot, rot, rat, vct, ost, lit) else if p3 ≤ 1200 then if (ro 4 0) = 0 then some ((-2), pn, fot, rot, rat, vct, ost, lit) else bn6 (Fi_copyFrom fot rot rat vct ost lit fo ro ra vc os li) (fun fot_8 rot_9 rat_10 vct_11 ost_12 lit_13 => St_rateFor_b51 fo ro ra vc os li p1 p2 p3 fl pn fot_8 rot_9 rat_10 vct_11 ost_12 lit_13 0) else some ((-1), pn, fot, rot, rat, vct, ost, lit))
set_option maxHeartbeats 4000000 in
set_option maxRecDepth 100000 in
theorem St_rateFor_b51B_w (C0 : cX RX11 cX11_rateFor (some .int) 5 p s m args meth c) (hK : kN D cy s) {qsm qbsa qbsb qrd qdi qrof qpn qse qfo qro qra qvc qos qli qfot qrot qrat qvct qost qlit : Nat → Nat} {sm bsa bsb rd di rof se fo ro ra vc os li : Mem} {p1 p2 p3 : Int32} {r : Int32} {pn' fot' rot' rat' vct' ost' lit' : Mem} (hA : ∀ q, s.heap.size ≤ q → A q) {k51 : Mem → Mem → Mem → Mem → Mem → Mem → Mem → Int32 → Option (Int32 × Mem × Mem × Mem × Mem × Mem × Mem × Mem)} (hk51 : ∀ (pn fot rot rat vct ost lit : Mem) (x4 : Int32) (H : Heap) (locs : List Loc) (ls : Array Slot), va_P D vwCl (w_All cy qsm qbsa qbsb qrd qdi qrof qpn qse qfo qro qra qvc qos qli qfot qrot qrat qvct qost qlit sm bsa bsb rd di rof pn se fo ro ra vc os li fot rot rat vct ost lit) H → va_D A (w_All cy qsm qbsa qbsb qrd qdi qrof qpn qse qfo qro qra qvc qos qli qfot qrot qrat qvct qost qlit sm bsa bsb rd di rof pn se fo ro ra vc os li fot rot rat vct ost lit) → va_S A s.heap H locs → lv_has ls 5 [(0, .ref (qsm 0)), (1, .int p1), (2, .int p2), (3, .int p3), (4, .int x4)] → k51 pn fot rot rat vct ost lit x4 = some (r, pn', fot', rot', rat', vct', ost', lit') → W p l e (rmD 6) s m args below meth c H locs 0 0 (qRI D below args s A (w_All cy qsm qbsa qbsb qrd qdi qrof qpn qse qfo qro qra qvc qos qli qfot qrot qrat qvct qost qlit sm bsa bsb rd di rof pn' se fo ro ra vc os li fot' rot' rat' vct' ost' lit') r) (F0 m 51 ls [])) {pn : Mem} {fot : Mem} {rot : Mem} {rat : Mem} {vct : Mem} {ost : Mem} {lit : Mem} {x4 : Int32} {H : Heap} {locs : List Loc} (hP : va_P D vwCl (w_All cy qsm qbsa qbsb qrd qdi qrof qpn qse qfo qro qra qvc qos qli qfot qrot qrat qvct qost qlit sm bsa bsb rd di rof pn se fo ro ra vc os li fot rot rat vct ost lit) H) (hD : va_D A (w_All cy qsm qbsa qbsb qrd qdi qrof qpn qse qfo qro qra qvc qos qli qfot qrot qrat qvct qost qlit sm bsa bsb rd di rof pn se fo ro ra vc os li fot rot rat vct ost lit)) (hS : va_S A s.heap H locs) {ls : Array Slot} (hl : lv_has ls 5 [(0, .ref (qsm 0)), (1, .int p1), (2, .int p2), (3, .int p3), (4, .int x4)]) (hp : St_rateFor_b51B fo ro ra vc os li p1 p2 p3 k51 pn fot rot rat vct ost lit x4 = some (r, pn', fot', rot', rat', vct', ost', lit')) : W p l e (rmD 6) s m args below meth c H locs 0 0 (qRI D below args s A (w_All cy qsm qbsa qbsb qrd qdi qrof qpn qse qfo qro qra qvc qos qli qfot qrot qrat qvct qost qlit sm bsa bsb rd di rof pn' se fo ro ra vc os li fot' rot' rat' vct' ost' lit') r) (F0 m 51 ls []) := by
  obtain ⟨hx, hb, hr, hml, hown, hts, hk⟩ := id C0
  unfold St_rateFor_b51B at hp
  refine lv_iload hx hb dX11_rateFor_51 (lv_at hl 4 rfl) ?_
  refine lv_bipush (v := 12) hx hb dX11_rateFor_53 (by decide) ?_
  refine lv_icmp_gt (tgt := 104) hx hb dX11_rateFor_55 (by decide) (fun c_14 => ?_) (fun c_14 => ?_)
  · have hp := ite_p hp c_14
    refine lv_bipush (v := (-2)) hx hb dX11_rateFor_104 (by decide) ?_
    simp only [Option.some.injEq, Prod.mk.injEq] at hp
    obtain ⟨h0, rfl, rfl, rfl, rfl, rfl, rfl, rfl⟩ := hp
    exact e_RIi hx hb hr hk hP hD hS dX11_rateFor_106 h0
  · have hp := ite_n hp c_14
    refine lv_aload_n hx hb dX11_rateFor_58 rfl (lv_at hl 0 rfl) ?_
    refine gf_X11_61 hx hb hts hown hK hP 0 rfl rfl dX11_rateFor_59 ?_
    refine gf_X11_125 hx hb hts hown hK hP 43 rfl rfl dX11_rateFor_62 ?_
    refine lv_iload_n hx hb dX11_rateFor_65 rfl (lv_at hl 1 rfl) ?_
    refine lv_iload_n hx hb dX11_rateFor_66 rfl (lv_at hl 2 rfl) ?_
    refine lv_iload hx hb dX11_rateFor_67 (lv_at hl 4 rfl) ?_
    obtain ⟨rat_16, hc_15, hp⟩ := bn1_s hp
    refine k_RVV (As := [.int p1, .int p2, .int x4]) (rest := []) ⟨hx, hb, hml, hown, hts⟩ hK hP hD hS hA (FrS_set (ws := (w_All cy qsm qbsa qbsb qrd qdi qrof qpn qse qfo qro qra qvc qos qli qfot qrot qrat qvct qost qlit sm bsa bsb rd di rof pn se fo ro ra vc os li fot rot rat vct ost lit)) (wc := (w_Ra cy qrat rat)) (w1 := (w_Ra cy qrat rat_16)) (wn := (w_All cy qsm qbsa qbsb qrd qdi qrof qpn qse qfo qro qra qvc qos qli qfot qrot qrat qvct qost qlit sm bsa bsb rd di rof pn se fo ro ra vc os li fot rot rat_16 vct ost lit)) [52, 53] [none, none, none, none, none, none, none, none, none, none, none, none, none, none, none, none, none, none, none, none, none, none, none, none, none, none, none, none, none, none, none, none, none, none, none, none, none, none, none, none, none, none, none, none, none, none, none, none, none, none, none, none, some 0, some 1, none, none, none, none, none, none, none, none, none, none, none, none] (by decide +kernel) rfl rfl rfl) (cw_X11_416 hts ⟨Nat.le_of_ble_eq_true rfl, Nat.le_of_ble_eq_true rfl⟩) 0 (ci := 7) rfl rfl rfl (c_X7_putAll l D cy qrat rat p1 p2 x4 rat_16 hc_15) rfl hl.1 (Nat.le_of_ble_eq_true rfl) ⟨Nat.le_refl _, Nat.le_refl _⟩ dX11_rateFor_69 (fun H locs hP hD hS => ?_)
    refine lv_aload_n hx hb dX11_rateFor_72 rfl (lv_at hl 0 rfl) ?_
    refine gf_X11_43 hx hb hts hown hK hP 0 rfl rfl dX11_rateFor_73 ?_
    refine lv_aload_n hx hb dX11_rateFor_76 rfl (lv_at hl 0 rfl) ?_
    refine gf_X11_61 hx hb hts hown hK hP 0 rfl rfl dX11_rateFor_77 ?_
    refine lv_iconst (v := 0) hx hb dX11_rateFor_80 (by decide) ?_
    obtain ⟨pn_18, fot_19, vct_20, ost_21, hc_17, hp⟩ := bn4_s hp
    refine k_RVV (As := [.ref (qfot 0), .int 0]) (rest := []) ⟨hx, hb, hml, hown, hts⟩ hK hP hD hS hA (FrS_set (ws := (w_All cy qsm qbsa qbsb qrd qdi qrof qpn qse qfo qro qra qvc qos qli qfot qrot qrat qvct qost qlit sm bsa bsb rd di rof pn se fo ro ra vc os li fot rot rat_16 vct ost lit)) (wc := (w_PlFi cy qpn qfot qrot qrat qvct qost qlit pn fot rot rat_16 vct ost lit)) (w1 := (w_PlFi cy qpn qfot qrot qrat qvct qost qlit pn_18 fot_19 rot rat_16 vct_20 ost_21 lit)) (wn := (w_All cy qsm qbsa qbsb qrd qdi qrof qpn qse qfo qro qra qvc qos qli qfot qrot qrat qvct qost qlit sm bsa bsb rd di rof pn_18 se fo ro ra vc os li fot_19 rot rat_16 vct_20 ost_21 lit)) [12, 13, 14, 43, 44, 45, 46, 47, 48, 49, 50, 51, 52, 53, 54, 55, 56, 57, 58, 59, 60, 61, 62, 63, 64, 65] [none, none, none, none, none, none, none, none, none, none, none, none, some 0, some 1, some 2, none, none, none, none, none, none, none, none, none, none, none, none, none, none, none, none, none, none, none, none, none, none, none, none, none, none, none, none, some 3, some 4, some 5, some 6, some 7, some 8, some 9, some 10, some 11, some 12, some 13, some 14, some 15, some 16, some 17, some 18, some 19, some 20, some 21, some 22, some 23, some 24, some 25] (by decide +kernel) rfl rfl rfl) (cw_X11_206 hts ⟨Nat.le_of_ble_eq_true rfl, Nat.le_of_ble_eq_true rfl⟩) 0 (ci := 6) rfl rfl rfl (c_X6_planAnew l D cy qpn qfot qrot qrat qvct qost qlit pn fot rot rat_16 vct ost lit 0 pn_18 fot_19 vct_20 ost_21 hc_17) rfl hl.1 (Nat.le_of_ble_eq_true rfl) ⟨Nat.le_refl _, Nat.le_refl _⟩ dX11_rateFor_81 (fun H locs hP hD hS => ?_)
    refine lv_aload_n hx hb dX11_rateFor_84 rfl (lv_at hl 0 rfl) ?_
    refine gf_X11_61 hx hb hts hown hK hP 0 rfl rfl dX11_rateFor_85 ?_
    obtain ⟨r_23, hc_22, hp⟩ := bn1_s hp
    refine k_ROV (As := []) (rest := []) ⟨hx, hb, hml, hown, hts⟩ hK (hP.sub (ws' := (w_Fi cy qfot qrot qrat qvct qost qlit fot_19 rot rat_16 vct_20 ost_21 lit)) [43, 44, 45, 46, 47, 48, 49, 50, 51, 52, 53, 54, 55, 56, 57, 58, 59, 60, 61, 62, 63, 64, 65] rfl) (cw_X11_391 hts ⟨Nat.le_of_ble_eq_true rfl, Nat.le_of_ble_eq_true rfl⟩) 0 (ci := 2) rfl rfl rfl (c_X2_longestWait l D cy qfot qrot qrat qvct qost qlit fot_19 rot rat_16 vct_20 ost_21 lit r_23 hc_22) rfl hl.1 (Nat.le_of_ble_eq_true rfl) ⟨Nat.le_refl _, Nat.le_refl _⟩ dX11_rateFor_88 ?_
    refine lv_iload_n hx hb dX11_rateFor_91 rfl (lv_at hl 3 rfl) ?_
    refine lv_icmp_gt (tgt := 98) hx hb dX11_rateFor_92 (by decide) (fun c_24 => ?_) (fun c_24 => ?_)
    · have hp := ite_p hp c_24
      obtain ⟨x4_25, ex4_25⟩ : ∃ y : Int32, y = x4 + 1 := ⟨_, rfl⟩
      have hp := stk_e hp ex4_25
      refine lv_iinc (v := x4_25) (lv' := [(4, .int x4_25), (0, .ref (qsm 0)), (1, .int p1), (2, .int p2), (3, .int p3)]) hx hb dX11_rateFor_98 hl (k := 4) rfl (by rw [ex4_25]; rfl) (by decide) rfl (fun ls hl => ?_)
      refine lv_goto (tgt := 51) hx hb dX11_rateFor_101 (by decide) ?_
      exact hk51 pn_18 fot_19 rot rat_16 vct_20 ost_21 lit x4_25 _ _ _ hP hD hS (lv_sub hl [1, 2, 3, 4, 0] rfl) hp
    · have hp := ite_n hp c_24
      refine lv_iload hx hb dX11_rateFor_95 (lv_at hl 4 rfl) ?_
      simp only [Option.some.injEq, Prod.mk.injEq] at hp
      obtain ⟨h0, rfl, rfl, rfl, rfl, rfl, rfl, rfl⟩ := hp
      exact e_RIi hx hb hr hk hP hD hS dX11_rateFor_97 h0
theorem St_rateFor_b51_w (C0 : cX RX11 cX11_rateFor (some .int) 5 p s m args meth c) (hK : kN D cy s) {qsm qbsa qbsb qrd qdi qrof qpn qse qfo qro qra qvc qos qli qfot qrot qrat qvct qost qlit : Nat → Nat} {sm bsa bsb rd di rof se fo ro ra vc os li : Mem} {p1 p2 p3 : Int32} {r : Int32} {pn' fot' rot' rat' vct' ost' lit' : Mem} (hA : ∀ q, s.heap.size ≤ q → A q) : ∀ (n : Nat) (pn fot rot rat vct ost lit : Mem) (x4 : Int32) (H : Heap) (locs : List Loc) (ls : Array Slot), va_P D vwCl (w_All cy qsm qbsa qbsb qrd qdi qrof qpn qse qfo qro qra qvc qos qli qfot qrot qrat qvct qost qlit sm bsa bsb rd di rof pn se fo ro ra vc os li fot rot rat vct ost lit) H → va_D A (w_All cy qsm qbsa qbsb qrd qdi qrof qpn qse qfo qro qra qvc qos qli qfot qrot qrat qvct qost qlit sm bsa bsb rd di rof pn se fo ro ra vc os li fot rot rat vct ost lit) → va_S A s.heap H locs → lv_has ls 5 [(0, .ref (qsm 0)), (1, .int p1), (2, .int p2), (3, .int p3), (4, .int x4)] → St_rateFor_b51 fo ro ra vc os li p1 p2 p3 n pn fot rot rat vct ost lit x4 = some (r, pn', fot', rot', rat', vct', ost', lit') → W p l e (rmD 6) s m args below meth c H locs 0 0 (qRI D below args s A (w_All cy qsm qbsa qbsb qrd qdi qrof qpn qse qfo qro qra qvc qos qli qfot qrot qrat qvct qost qlit sm bsa bsb rd di rof pn' se fo ro ra vc os li fot' rot' rat' vct' ost' lit') r) (F0 m 51 ls []) := by
  intro n
  induction n with
  | zero =>
    intro pn fot rot rat vct ost lit x4 H locs ls hP hD hS hl hp
    cases hp
  | succ n ih =>
    intro pn fot rot rat vct ost lit x4 H locs ls hP hD hS hl hp
    exact St_rateFor_b51B_w C0 hK hA  (fun pn fot rot rat vct ost lit x4 H locs ls hP hD hS hl hp => ih pn fot rot rat vct ost lit x4 H locs ls hP hD hS hl hp) hP hD hS hl hp
set_option maxHeartbeats 4000000 in
set_option maxRecDepth 100000 in
theorem c_X11_rateFor (l : Launch) (D : va_G) (cy : Nat → ClassId) (qsm qbsa qbsb qrd qdi qrof qpn qse qfo qro qra qvc qos qli qfot qrot qrat qvct qost qlit : Nat → Nat) (sm bsa bsb rd di rof pn se fo ro ra vc os li fot rot rat vct ost lit : Mem) (p1 p2 p3 : Int32) (r : Int32) (pn' fot' rot' rat' vct' ost' lit' : Mem) (hp : St_rateFor pn fo ro ra vc os li fot rot rat vct ost lit p1 p2 p3 = some (r, pn', fot', rot', rat', vct', ost', lit')) : RI l yX11_rateFor cX11_rateFor 5 (some .int) 6 D cy [.ref (qsm 0), .int p1, .int p2, .int p3] (w_All cy qsm qbsa qbsb qrd qdi qrof qpn qse qfo qro qra qvc qos qli qfot qrot qrat qvct qost qlit sm bsa bsb rd di rof pn se fo ro ra vc os li fot rot rat vct ost lit) (w_All cy qsm qbsa qbsb qrd qdi qrof qpn qse qfo qro qra qvc qos qli qfot qrot qrat qvct qost qlit sm bsa bsb rd di rof pn' se fo ro ra vc os li fot' rot' rat' vct' ost' lit') r := by
  refine RI_of RX11 rfl (by decide) (Nat.le_of_ble_eq_true rfl) ?_
  intro p e s m below meth c A C0 hK hP hD hS hA ls hl
  obtain ⟨hx, hb, hr, hml, hown, hts, hk⟩ := id C0
  unfold St_rateFor at hp
  have hl : lv_has ls 5 [(0, .ref (qsm 0)), (1, .int p1), (2, .int p2), (3, .int p3)] := hl
  refine lv_iload_n hx hb dX11_rateFor_0 rfl (lv_at hl 1 rfl) ?_
  refine lv_iload_n hx hb dX11_rateFor_1 rfl (lv_at hl 2 rfl) ?_
  obtain ⟨r_2, hc_1, hp⟩ := bn1_s hp
  refine k_ROS (As := [.int p1, .int p2]) (rest := []) ⟨hx, hb, hml, hown, hts⟩ hK (show va_P D vwCl [] _ from fun k q h => by simp at h) (cw_X11_138 hts ⟨Nat.le_of_ble_eq_true rfl, Nat.le_of_ble_eq_true rfl⟩) (c_X11_areHours l D cy p1 p2 r_2 hc_1) rfl hl.1 (Nat.le_of_ble_eq_true rfl) ⟨Nat.le_refl _, Nat.le_refl _⟩ dX11_rateFor_2 ?_
  refine lv_if_eq (tgt := 19) hx hb dX11_rateFor_5 (by decide) (fun c_3 => ?_) (fun c_3 => ?_)
  · have hp := ite_p hp c_3
    refine lv_iconst (v := (-1)) hx hb dX11_rateFor_19 (by decide) ?_
    simp only [Option.some.injEq, Prod.mk.injEq] at hp
    obtain ⟨h0, rfl, rfl, rfl, rfl, rfl, rfl, rfl⟩ := hp
    exact e_RIi hx hb hr hk hP hD hS dX11_rateFor_20 h0
  · have hp := ite_n hp c_3
    refine lv_iload_n hx hb dX11_rateFor_8 rfl (lv_at hl 3 rfl) ?_
    refine lv_if_lt (tgt := 19) hx hb dX11_rateFor_9 (by decide) (fun c_4 => ?_) (fun c_4 => ?_)
    · have hp := ite_p hp c_4
      refine lv_iconst (v := (-1)) hx hb dX11_rateFor_19 (by decide) ?_
      simp only [Option.some.injEq, Prod.mk.injEq] at hp
      obtain ⟨h0, rfl, rfl, rfl, rfl, rfl, rfl, rfl⟩ := hp
      exact e_RIi hx hb hr hk hP hD hS dX11_rateFor_20 h0
    · have hp := ite_n hp c_4
      refine lv_iload_n hx hb dX11_rateFor_12 rfl (lv_at hl 3 rfl) ?_
      refine lv_sipush (v := 1200) hx hb dX11_rateFor_13 (by decide) ?_
      refine lv_icmp_le (tgt := 21) hx hb dX11_rateFor_16 (by decide) (fun c_5 => ?_) (fun c_5 => ?_)
      · have hp := ite_p hp c_5
        refine lv_aload_n hx hb dX11_rateFor_21 rfl (lv_at hl 0 rfl) ?_
        refine gf_X11_57 hx hb hts hown hK hP 0 rfl rfl dX11_rateFor_22 ?_
        refine gf_X11_87 hx hb hts hown hK hP 20 rfl rfl dX11_rateFor_25 ?_
        refine gf_X11_90 hx hb hts hown hK hP 24 rfl rfl dX11_rateFor_28 ?_
        refine lv_if_ne (tgt := 37) hx hb dX11_rateFor_31 (by decide) (fun c_6 => ?_) (fun c_6 => ?_)
        · have hp := ite_n hp c_6
          refine lv_aload_n hx hb dX11_rateFor_37 rfl (lv_at hl 0 rfl) ?_
          refine gf_X11_61 hx hb hts hown hK hP 0 rfl rfl dX11_rateFor_38 ?_
          refine lv_aload_n hx hb dX11_rateFor_41 rfl (lv_at hl 0 rfl) ?_
          refine gf_X11_57 hx hb hts hown hK hP 0 rfl rfl dX11_rateFor_42 ?_
          obtain ⟨fot_8, rot_9, rat_10, vct_11, ost_12, lit_13, hc_7, hp⟩ := bn6_s hp
          refine k_RVV (As := [.ref (qfo 0)]) (rest := []) ⟨hx, hb, hml, hown, hts⟩ hK hP hD hS hA (FrS_set (ws := (w_All cy qsm qbsa qbsb qrd qdi qrof qpn qse qfo qro qra qvc qos qli qfot qrot qrat qvct qost qlit sm bsa bsb rd di rof pn se fo ro ra vc os li fot rot rat vct ost lit)) (wc := (w_FiFi cy qfot qrot qrat qvct qost qlit qfo qro qra qvc qos qli fot rot rat vct ost lit fo ro ra vc os li)) (w1 := (w_FiFi cy qfot qrot qrat qvct qost qlit qfo qro qra qvc qos qli fot_8 rot_9 rat_10 vct_11 ost_12 lit_13 fo ro ra vc os li)) (wn := (w_All cy qsm qbsa qbsb qrd qdi qrof qpn qse qfo qro qra qvc qos qli qfot qrot qrat qvct qost qlit sm bsa bsb rd di rof pn se fo ro ra vc os li fot_8 rot_9 rat_10 vct_11 ost_12 lit_13)) [43, 44, 45, 46, 47, 48, 49, 50, 51, 52, 53, 54, 55, 56, 57, 58, 59, 60, 61, 62, 63, 64, 65, 20, 21, 22, 23, 24, 25, 26, 27, 28, 29, 30, 31, 32, 33, 34, 35, 36, 37, 38, 39, 40, 41, 42] [none, none, none, none, none, none, none, none, none, none, none, none, none, none, none, none, none, none, none, none, some 23, some 24, some 25, some 26, some 27, some 28, some 29, some 30, some 31, some 32, some 33, some 34, some 35, some 36, some 37, some 38, some 39, some 40, some 41, some 42, some 43, some 44, some 45, some 0, some 1, some 2, some 3, some 4, some 5, some 6, some 7, some 8, some 9, some 10, some 11, some 12, some 13, some 14, some 15, some 16, some 17, some 18, some 19, some 20, some 21, some 22] (by decide +kernel) rfl rfl rfl) (cw_X11_371 hts ⟨Nat.le_of_ble_eq_true rfl, Nat.le_of_ble_eq_true rfl⟩) 0 (ci := 2) rfl rfl rfl (c_X2_copyFrom l D cy qfot qrot qrat qvct qost qlit qfo qro qra qvc qos qli fot rot rat vct ost lit fo ro ra vc os li fot_8 rot_9 rat_10 vct_11 ost_12 lit_13 hc_7) rfl hl.1 (Nat.le_of_ble_eq_true rfl) ⟨Nat.le_refl _, Nat.le_refl _⟩ dX11_rateFor_45 (fun H locs hP hD hS => ?_)
          refine lv_iconst (v := 0) hx hb dX11_rateFor_48 (by decide) ?_
          refine lv_istore (lv' := [(4, .int 0), (0, .ref (qsm 0)), (1, .int p1), (2, .int p2), (3, .int p3)]) hx hb dX11_rateFor_49 hl (by decide) rfl (fun ls hl => ?_)
          exact St_rateFor_b51_w C0 hK hA  fl pn fot_8 rot_9 rat_10 vct_11 ost_12 lit_13 0 _ _ _ hP hD hS (lv_sub hl [1, 2, 3, 4, 0] rfl) hp
        · have hp := ite_p hp c_6
          refine lv_bipush (v := (-2)) hx hb dX11_rateFor_34 (by decide) ?_
          simp only [Option.some.injEq, Prod.mk.injEq] at hp
          obtain ⟨h0, rfl, rfl, rfl, rfl, rfl, rfl, rfl⟩ := hp
          exact e_RIi hx hb hr hk hP hD hS dX11_rateFor_36 h0
      · have hp := ite_n hp c_5
        refine lv_iconst (v := (-1)) hx hb dX11_rateFor_19 (by decide) ?_
        simp only [Option.some.injEq, Prod.mk.injEq] at hp
        obtain ⟨h0, rfl, rfl, rfl, rfl, rfl, rfl, rfl⟩ := hp
        exact e_RIi hx hb hr hk hP hD hS dX11_rateFor_20 h0
/-! StormSlots.ifCut(II)I -/
def St_ifCut (pn : Mem) (fo : Mem) (ro : Mem) (ra : Mem) (vc : Mem) (os : Mem) (li : Mem) (fot : Mem) (rot : Mem) (rat : Mem) (vct : Mem) (ost : Mem) (lit : Mem) (p1 : Int32) (p2 : Int32) : Option (Int32 × Mem × Mem × Mem × Mem × Mem × Mem × Mem) :=
  bn1 (St_isDayMinute p1) (fun r_2 => if r_2 = 0 then some ((-1), pn, fot, rot, rat, vct, ost, lit) else if p1 < (fo 9 0) then some ((-1), pn, fot, rot, rat, vct, ost, lit) else bn1 (St_isRate p2) (fun r_6 => if r_6 = 0 then some ((-1), pn, fot, rot, rat, vct, ost, lit) else if (fo 10 0) = 0 then some ((-2), pn, fot, rot, rat, vct, ost, lit) else bn6 (Fi_copyFrom fot rot rat vct ost lit fo ro ra vc os li) (fun fot_10 rot_11 rat_12 vct_13 ost_14 lit_15 => stk (upm fot_10 9 0 p1) (fun fot_16 => bn1 (Ra_putAll rat_12 (p1 / 60) 11 p2) (fun rat_18 => bn5 (Pl_planOn pn fot_16 rot_11 rat_18 vct_13 ost_14) (fun r_20 pn_21 fot_22 vct_23 ost_24 => bn1 (Fi_totalCircles fot_22) (fun r_26 => some (r_26, pn_21, fot_22, rot_11, rat_18, vct_23, ost_24, lit_15))))))))
set_option maxHeartbeats 4000000 in
set_option maxRecDepth 100000 in
theorem c_X11_ifCut (l : Launch) (D : va_G) (cy : Nat → ClassId) (qsm qbsa qbsb qrd qdi qrof qpn qse qfo qro qra qvc qos qli qfot qrot qrat qvct qost qlit : Nat → Nat) (sm bsa bsb rd di rof pn se fo ro ra vc os li fot rot rat vct ost lit : Mem) (p1 p2 : Int32) (r : Int32) (pn' fot' rot' rat' vct' ost' lit' : Mem) (hp : St_ifCut pn fo ro ra vc os li fot rot rat vct ost lit p1 p2 = some (r, pn', fot', rot', rat', vct', ost', lit')) : RI l yX11_ifCut cX11_ifCut 3 (some .int) 6 D cy [.ref (qsm 0), .int p1, .int p2] (w_All cy qsm qbsa qbsb qrd qdi qrof qpn qse qfo qro qra qvc qos qli qfot qrot qrat qvct qost qlit sm bsa bsb rd di rof pn se fo ro ra vc os li fot rot rat vct ost lit) (w_All cy qsm qbsa qbsb qrd qdi qrof qpn qse qfo qro qra qvc qos qli qfot qrot qrat qvct qost qlit sm bsa bsb rd di rof pn' se fo ro ra vc os li fot' rot' rat' vct' ost' lit') r := by
  refine RI_of RX11 rfl (by decide) (Nat.le_of_ble_eq_true rfl) ?_
  intro p e s m below meth c A C0 hK hP hD hS hA ls hl
  obtain ⟨hx, hb, hr, hml, hown, hts, hk⟩ := id C0
  unfold St_ifCut at hp
  have hl : lv_has ls 3 [(0, .ref (qsm 0)), (1, .int p1), (2, .int p2)] := hl
  refine lv_iload_n hx hb dX11_ifCut_0 rfl (lv_at hl 1 rfl) ?_
  obtain ⟨r_2, hc_1, hp⟩ := bn1_s hp
  refine k_ROS (As := [.int p1]) (rest := []) ⟨hx, hb, hml, hown, hts⟩ hK (show va_P D vwCl [] _ from fun k q h => by simp at h) (cw_X11_95 hts ⟨Nat.le_of_ble_eq_true rfl, Nat.le_of_ble_eq_true rfl⟩) (c_X11_isDayMinute l D cy p1 r_2 hc_1) rfl hl.1 (Nat.le_of_ble_eq_true rfl) ⟨Nat.le_refl _, Nat.le_refl _⟩ dX11_ifCut_1 ?_
  refine lv_if_eq (tgt := 25) hx hb dX11_ifCut_4 (by decide) (fun c_3 => ?_) (fun c_3 => ?_)
  · have hp := ite_p hp c_3
    refine lv_iconst (v := (-1)) hx hb dX11_ifCut_25 (by decide) ?_
    simp only [Option.some.injEq, Prod.mk.injEq] at hp
    obtain ⟨h0, rfl, rfl, rfl, rfl, rfl, rfl, rfl⟩ := hp
    exact e_RIi hx hb hr hk hP hD hS dX11_ifCut_26 h0
  · have hp := ite_n hp c_3
    refine lv_iload_n hx hb dX11_ifCut_7 rfl (lv_at hl 1 rfl) ?_
    refine lv_aload_n hx hb dX11_ifCut_8 rfl (lv_at hl 0 rfl) ?_
    refine gf_X11_57 hx hb hts hown hK hP 0 rfl rfl dX11_ifCut_9 ?_
    refine gf_X11_142 hx hb hts hown hK hP 20 rfl rfl dX11_ifCut_12 ?_
    refine lv_icmp_lt (tgt := 25) hx hb dX11_ifCut_15 (by decide) (fun c_4 => ?_) (fun c_4 => ?_)
    · have hp := ite_p hp c_4
      refine lv_iconst (v := (-1)) hx hb dX11_ifCut_25 (by decide) ?_
      simp only [Option.some.injEq, Prod.mk.injEq] at hp
      obtain ⟨h0, rfl, rfl, rfl, rfl, rfl, rfl, rfl⟩ := hp
      exact e_RIi hx hb hr hk hP hD hS dX11_ifCut_26 h0
    · have hp := ite_n hp c_4
      refine lv_iload_n hx hb dX11_ifCut_18 rfl (lv_at hl 2 rfl) ?_
      obtain ⟨r_6, hc_5, hp⟩ := bn1_s hp
      refine k_ROS (As := [.int p2]) (rest := []) ⟨hx, hb, hml, hown, hts⟩ hK (show va_P D vwCl [] _ from fun k q h => by simp at h) (cw_X11_122 hts ⟨Nat.le_of_ble_eq_true rfl, Nat.le_of_ble_eq_true rfl⟩) (c_X11_isRate l D cy p2 r_6 hc_5) rfl hl.1 (Nat.le_of_ble_eq_true rfl) ⟨Nat.le_refl _, Nat.le_refl _⟩ dX11_ifCut_19 ?_
      refine lv_if_ne (tgt := 27) hx hb dX11_ifCut_22 (by decide) (fun c_7 => ?_) (fun c_7 => ?_)
      · have hp := ite_n hp c_7
        refine lv_aload_n hx hb dX11_ifCut_27 rfl (lv_at hl 0 rfl) ?_
        refine gf_X11_57 hx hb hts hown hK hP 0 rfl rfl dX11_ifCut_28 ?_
        refine gf_X11_214 hx hb hts hown hK hP 20 rfl rfl dX11_ifCut_31 ?_
        refine lv_if_ne (tgt := 40) hx hb dX11_ifCut_34 (by decide) (fun c_8 => ?_) (fun c_8 => ?_)
        · have hp := ite_n hp c_8
          refine lv_aload_n hx hb dX11_ifCut_40 rfl (lv_at hl 0 rfl) ?_
          refine gf_X11_61 hx hb hts hown hK hP 0 rfl rfl dX11_ifCut_41 ?_
          refine lv_aload_n hx hb dX11_ifCut_44 rfl (lv_at hl 0 rfl) ?_
          refine gf_X11_57 hx hb hts hown hK hP 0 rfl rfl dX11_ifCut_45 ?_
          obtain ⟨fot_10, rot_11, rat_12, vct_13, ost_14, lit_15, hc_9, hp⟩ := bn6_s hp
          refine k_RVV (As := [.ref (qfo 0)]) (rest := []) ⟨hx, hb, hml, hown, hts⟩ hK hP hD hS hA (FrS_set (ws := (w_All cy qsm qbsa qbsb qrd qdi qrof qpn qse qfo qro qra qvc qos qli qfot qrot qrat qvct qost qlit sm bsa bsb rd di rof pn se fo ro ra vc os li fot rot rat vct ost lit)) (wc := (w_FiFi cy qfot qrot qrat qvct qost qlit qfo qro qra qvc qos qli fot rot rat vct ost lit fo ro ra vc os li)) (w1 := (w_FiFi cy qfot qrot qrat qvct qost qlit qfo qro qra qvc qos qli fot_10 rot_11 rat_12 vct_13 ost_14 lit_15 fo ro ra vc os li)) (wn := (w_All cy qsm qbsa qbsb qrd qdi qrof qpn qse qfo qro qra qvc qos qli qfot qrot qrat qvct qost qlit sm bsa bsb rd di rof pn se fo ro ra vc os li fot_10 rot_11 rat_12 vct_13 ost_14 lit_15)) [43, 44, 45, 46, 47, 48, 49, 50, 51, 52, 53, 54, 55, 56, 57, 58, 59, 60, 61, 62, 63, 64, 65, 20, 21, 22, 23, 24, 25, 26, 27, 28, 29, 30, 31, 32, 33, 34, 35, 36, 37, 38, 39, 40, 41, 42] [none, none, none, none, none, none, none, none, none, none, none, none, none, none, none, none, none, none, none, none, some 23, some 24, some 25, some 26, some 27, some 28, some 29, some 30, some 31, some 32, some 33, some 34, some 35, some 36, some 37, some 38, some 39, some 40, some 41, some 42, some 43, some 44, some 45, some 0, some 1, some 2, some 3, some 4, some 5, some 6, some 7, some 8, some 9, some 10, some 11, some 12, some 13, some 14, some 15, some 16, some 17, some 18, some 19, some 20, some 21, some 22] (by decide +kernel) rfl rfl rfl) (cw_X11_371 hts ⟨Nat.le_of_ble_eq_true rfl, Nat.le_of_ble_eq_true rfl⟩) 0 (ci := 2) rfl rfl rfl (c_X2_copyFrom l D cy qfot qrot qrat qvct qost qlit qfo qro qra qvc qos qli fot rot rat vct ost lit fo ro ra vc os li fot_10 rot_11 rat_12 vct_13 ost_14 lit_15 hc_9) rfl hl.1 (Nat.le_of_ble_eq_true rfl) ⟨Nat.le_refl _, Nat.le_refl _⟩ dX11_ifCut_48 (fun H locs hP hD hS => ?_)
          refine lv_aload_n hx hb dX11_ifCut_51 rfl (lv_at hl 0 rfl) ?_
          refine gf_X11_61 hx hb hts hown hK hP 0 rfl rfl dX11_ifCut_52 ?_
          refine lv_iload_n hx hb dX11_ifCut_55 rfl (lv_at hl 1 rfl) ?_
          obtain ⟨fot_16, efot_16⟩ : ∃ y : Mem, y = upm fot_10 9 0 p1 := ⟨_, rfl⟩
          have hp := stk_e hp efot_16
          refine pf_X11_142 hx hb hts hown hK hP hD hS (wn := (w_All cy qsm qbsa qbsb qrd qdi qrof qpn qse qfo qro qra qvc qos qli qfot qrot qrat qvct qost qlit sm bsa bsb rd di rof pn se fo ro ra vc os li fot_16 rot_11 rat_12 vct_13 ost_14 lit_15)) 43 rfl (Nat.le_of_ble_eq_true rfl) (by subst efot_16; rfl) dX11_ifCut_56 (fun H locs hP hD hS => ?_)
          refine lv_aload_n hx hb dX11_ifCut_59 rfl (lv_at hl 0 rfl) ?_
          refine gf_X11_61 hx hb hts hown hK hP 0 rfl rfl dX11_ifCut_60 ?_
          refine gf_X11_125 hx hb hts hown hK hP 43 rfl rfl dX11_ifCut_63 ?_
          refine lv_iload_n hx hb dX11_ifCut_66 rfl (lv_at hl 1 rfl) ?_
          refine lv_bipush (v := 60) hx hb dX11_ifCut_67 (by decide) ?_
          refine lv_idiv hx hb dX11_ifCut_69 (by decide) ?_
          refine lv_bipush (v := 11) hx hb dX11_ifCut_70 (by decide) ?_
          refine lv_iload_n hx hb dX11_ifCut_72 rfl (lv_at hl 2 rfl) ?_
          obtain ⟨rat_18, hc_17, hp⟩ := bn1_s hp
          refine k_RVV (As := [.int (p1 / 60), .int 11, .int p2]) (rest := []) ⟨hx, hb, hml, hown, hts⟩ hK hP hD hS hA (FrS_set (ws := (w_All cy qsm qbsa qbsb qrd qdi qrof qpn qse qfo qro qra qvc qos qli qfot qrot qrat qvct qost qlit sm bsa bsb rd di rof pn se fo ro ra vc os li fot_16 rot_11 rat_12 vct_13 ost_14 lit_15)) (wc := (w_Ra cy qrat rat_12)) (w1 := (w_Ra cy qrat rat_18)) (wn := (w_All cy qsm qbsa qbsb qrd qdi qrof qpn qse qfo qro qra qvc qos qli qfot qrot qrat qvct qost qlit sm bsa bsb rd di rof pn se fo ro ra vc os li fot_16 rot_11 rat_18 vct_13 ost_14 lit_15)) [52, 53] [none, none, none, none, none, none, none, none, none, none, none, none, none, none, none, none, none, none, none, none, none, none, none, none, none, none, none, none, none, none, none, none, none, none, none, none, none, none, none, none, none, none, none, none, none, none, none, none, none, none, none, none, some 0, some 1, none, none, none, none, none, none, none, none, none, none, none, none] (by decide +kernel) rfl rfl rfl) (cw_X11_416 hts ⟨Nat.le_of_ble_eq_true rfl, Nat.le_of_ble_eq_true rfl⟩) 0 (ci := 7) rfl rfl rfl (c_X7_putAll l D cy qrat rat_12 (p1 / 60) 11 p2 rat_18 hc_17) rfl hl.1 (Nat.le_of_ble_eq_true rfl) ⟨Nat.le_refl _, Nat.le_refl _⟩ dX11_ifCut_73 (fun H locs hP hD hS => ?_)
          refine lv_aload_n hx hb dX11_ifCut_76 rfl (lv_at hl 0 rfl) ?_
          refine gf_X11_43 hx hb hts hown hK hP 0 rfl rfl dX11_ifCut_77 ?_
          refine lv_aload_n hx hb dX11_ifCut_80 rfl (lv_at hl 0 rfl) ?_
          refine gf_X11_61 hx hb hts hown hK hP 0 rfl rfl dX11_ifCut_81 ?_
          obtain ⟨r_20, pn_21, fot_22, vct_23, ost_24, hc_19, hp⟩ := bn5_s hp
          refine k_RIV (As := [.ref (qfot 0)]) (rest := []) ⟨hx, hb, hml, hown, hts⟩ hK hP hD hS hA (FrS_set (ws := (w_All cy qsm qbsa qbsb qrd qdi qrof qpn qse qfo qro qra qvc qos qli qfot qrot qrat qvct qost qlit sm bsa bsb rd di rof pn se fo ro ra vc os li fot_16 rot_11 rat_18 vct_13 ost_14 lit_15)) (wc := (w_PlFi cy qpn qfot qrot qrat qvct qost qlit pn fot_16 rot_11 rat_18 vct_13 ost_14 lit_15)) (w1 := (w_PlFi cy qpn qfot qrot qrat qvct qost qlit pn_21 fot_22 rot_11 rat_18 vct_23 ost_24 lit_15)) (wn := (w_All cy qsm qbsa qbsb qrd qdi qrof qpn qse qfo qro qra qvc qos qli qfot qrot qrat qvct qost qlit sm bsa bsb rd di rof pn_21 se fo ro ra vc os li fot_22 rot_11 rat_18 vct_23 ost_24 lit_15)) [12, 13, 14, 43, 44, 45, 46, 47, 48, 49, 50, 51, 52, 53, 54, 55, 56, 57, 58, 59, 60, 61, 62, 63, 64, 65] [none, none, none, none, none, none, none, none, none, none, none, none, some 0, some 1, some 2, none, none, none, none, none, none, none, none, none, none, none, none, none, none, none, none, none, none, none, none, none, none, none, none, none, none, none, none, some 3, some 4, some 5, some 6, some 7, some 8, some 9, some 10, some 11, some 12, some 13, some 14, some 15, some 16, some 17, some 18, some 19, some 20, some 21, some 22, some 23, some 24, some 25] (by decide +kernel) rfl rfl rfl) (cw_X11_218 hts ⟨Nat.le_of_ble_eq_true rfl, Nat.le_of_ble_eq_true rfl⟩) 0 (ci := 6) rfl rfl rfl (c_X6_planOn l D cy qpn qfot qrot qrat qvct qost qlit pn fot_16 rot_11 rat_18 vct_13 ost_14 lit_15 r_20 pn_21 fot_22 vct_23 ost_24 hc_19) rfl hl.1 (Nat.le_of_ble_eq_true rfl) ⟨Nat.le_refl _, Nat.le_refl _⟩ dX11_ifCut_84 (fun H locs hP hD hS => ?_)
          refine lv_pop hx hb dX11_ifCut_87 rfl ?_
          refine lv_aload_n hx hb dX11_ifCut_88 rfl (lv_at hl 0 rfl) ?_
          refine gf_X11_61 hx hb hts hown hK hP 0 rfl rfl dX11_ifCut_89 ?_
          obtain ⟨r_26, hc_25, hp⟩ := bn1_s hp
          refine k_ROV (As := []) (rest := []) ⟨hx, hb, hml, hown, hts⟩ hK (hP.sub (ws' := (w_Fi cy qfot qrot qrat qvct qost qlit fot_22 rot_11 rat_18 vct_23 ost_24 lit_15)) [43, 44, 45, 46, 47, 48, 49, 50, 51, 52, 53, 54, 55, 56, 57, 58, 59, 60, 61, 62, 63, 64, 65] rfl) (cw_X11_420 hts ⟨Nat.le_of_ble_eq_true rfl, Nat.le_of_ble_eq_true rfl⟩) 0 (ci := 2) rfl rfl rfl (c_X2_totalCircles l D cy qfot qrot qrat qvct qost qlit fot_22 rot_11 rat_18 vct_23 ost_24 lit_15 r_26 hc_25) rfl hl.1 (Nat.le_of_ble_eq_true rfl) ⟨Nat.le_refl _, Nat.le_refl _⟩ dX11_ifCut_92 ?_
          simp only [Option.some.injEq, Prod.mk.injEq] at hp
          obtain ⟨h0, rfl, rfl, rfl, rfl, rfl, rfl, rfl⟩ := hp
          exact e_RIi hx hb hr hk hP hD hS dX11_ifCut_95 h0
        · have hp := ite_p hp c_8
          refine lv_bipush (v := (-2)) hx hb dX11_ifCut_37 (by decide) ?_
          simp only [Option.some.injEq, Prod.mk.injEq] at hp
          obtain ⟨h0, rfl, rfl, rfl, rfl, rfl, rfl, rfl⟩ := hp
          exact e_RIi hx hb hr hk hP hD hS dX11_ifCut_39 h0
      · have hp := ite_p hp c_7
        refine lv_iconst (v := (-1)) hx hb dX11_ifCut_25 (by decide) ?_
        simp only [Option.some.injEq, Prod.mk.injEq] at hp
        obtain ⟨h0, rfl, rfl, rfl, rfl, rfl, rfl, rfl⟩ := hp
        exact e_RIi hx hb hr hk hP hD hS dX11_ifCut_26 h0
/-! StormSlots.airborne(I)I -/
def St_airborne (fo : Mem) (ro : Mem) (p1 : Int32) : Option (Int32) :=
  bn1 (St_isMinute p1) (fun r_2 => if r_2 = 0 then some (-1) else bn1 (Fi_underWay fo ro p1) (fun r_5 => some r_5))
set_option maxHeartbeats 4000000 in
set_option maxRecDepth 100000 in
theorem c_X11_airborne (l : Launch) (D : va_G) (cy : Nat → ClassId) (qsm qbsa qbsb qrd qdi qrof qpn qse qfo qro qra qvc qos qli qfot qrot qrat qvct qost qlit : Nat → Nat) (sm bsa bsb rd di rof pn se fo ro ra vc os li fot rot rat vct ost lit : Mem) (p1 : Int32) (r : Int32) (hp : St_airborne fo ro p1 = some r) : RO l yX11_airborne cX11_airborne 2 (some .int) 2 D cy [.ref (qsm 0), .int p1] (w_All cy qsm qbsa qbsb qrd qdi qrof qpn qse qfo qro qra qvc qos qli qfot qrot qrat qvct qost qlit sm bsa bsb rd di rof pn se fo ro ra vc os li fot rot rat vct ost lit) r := by
  refine RO_of RX11 rfl (by decide) (Nat.le_of_ble_eq_true rfl) ?_
  intro p e s m below meth c C0 hK hP ls hl
  obtain ⟨hx, hb, hr, hml, hown, hts, hk⟩ := id C0
  unfold St_airborne at hp
  have hl : lv_has ls 2 [(0, .ref (qsm 0)), (1, .int p1)] := hl
  refine lv_iload_n hx hb dX11_airborne_0 rfl (lv_at hl 1 rfl) ?_
  obtain ⟨r_2, hc_1, hp⟩ := bn1_s hp
  refine k_ROS (As := [.int p1]) (rest := []) ⟨hx, hb, hml, hown, hts⟩ hK (show va_P D vwCl [] _ from fun k q h => by simp at h) (cw_X11_188 hts ⟨Nat.le_of_ble_eq_true rfl, Nat.le_of_ble_eq_true rfl⟩) (c_X11_isMinute l D cy p1 r_2 hc_1) rfl hl.1 (Nat.le_of_ble_eq_true rfl) ⟨Nat.le_refl _, Nat.le_refl _⟩ dX11_airborne_1 ?_
  refine lv_if_eq (tgt := 18) hx hb dX11_airborne_4 (by decide) (fun c_3 => ?_) (fun c_3 => ?_)
  · have hp := ite_p hp c_3
    refine lv_iconst (v := (-1)) hx hb dX11_airborne_18 (by decide) ?_
    exact e_ROi hx hb hr hk dX11_airborne_19 (Option.some.inj hp)
  · have hp := ite_n hp c_3
    refine lv_aload_n hx hb dX11_airborne_7 rfl (lv_at hl 0 rfl) ?_
    refine gf_X11_57 hx hb hts hown hK hP 0 rfl rfl dX11_airborne_8 ?_
    refine lv_iload_n hx hb dX11_airborne_11 rfl (lv_at hl 1 rfl) ?_
    obtain ⟨r_5, hc_4, hp⟩ := bn1_s hp
    refine k_ROV (As := [.int p1]) (rest := []) ⟨hx, hb, hml, hown, hts⟩ hK (hP.sub (ws' := (w_Fi cy qfo qro qra qvc qos qli fo ro ra vc os li)) [20, 21, 22, 23, 24, 25, 26, 27, 28, 29, 30, 31, 32, 33, 34, 35, 36, 37, 38, 39, 40, 41, 42] rfl) (cw_X11_408 hts ⟨Nat.le_of_ble_eq_true rfl, Nat.le_of_ble_eq_true rfl⟩) 0 (ci := 2) rfl rfl rfl (c_X2_underWay l D cy qfo qro qra qvc qos qli fo ro ra vc os li p1 r_5 hc_4) rfl hl.1 (Nat.le_of_ble_eq_true rfl) ⟨Nat.le_refl _, Nat.le_refl _⟩ dX11_airborne_12 ?_
    refine lv_goto (tgt := 19) hx hb dX11_airborne_15 (by decide) ?_
    exact e_ROi hx hb hr hk dX11_airborne_19 (Option.some.inj hp)
/-! StormSlots.next(I)I -/
def St_next (fo : Mem) (p1 : Int32) : Option (Int32) :=
  bn1 (St_isMinute p1) (fun r_2 => if r_2 = 0 then some (-1) else bn1 (Fi_landsNext fo p1) (fun r_5 => some r_5))
set_option maxHeartbeats 4000000 in
set_option maxRecDepth 100000 in
theorem c_X11_next (l : Launch) (D : va_G) (cy : Nat → ClassId) (qsm qbsa qbsb qrd qdi qrof qpn qse qfo qro qra qvc qos qli qfot qrot qrat qvct qost qlit : Nat → Nat) (sm bsa bsb rd di rof pn se fo ro ra vc os li fot rot rat vct ost lit : Mem) (p1 : Int32) (r : Int32) (hp : St_next fo p1 = some r) : RO l yX11_next cX11_next 2 (some .int) 3 D cy [.ref (qsm 0), .int p1] (w_All cy qsm qbsa qbsb qrd qdi qrof qpn qse qfo qro qra qvc qos qli qfot qrot qrat qvct qost qlit sm bsa bsb rd di rof pn se fo ro ra vc os li fot rot rat vct ost lit) r := by
  refine RO_of RX11 rfl (by decide) (Nat.le_of_ble_eq_true rfl) ?_
  intro p e s m below meth c C0 hK hP ls hl
  obtain ⟨hx, hb, hr, hml, hown, hts, hk⟩ := id C0
  unfold St_next at hp
  have hl : lv_has ls 2 [(0, .ref (qsm 0)), (1, .int p1)] := hl
  refine lv_iload_n hx hb dX11_next_0 rfl (lv_at hl 1 rfl) ?_
  obtain ⟨r_2, hc_1, hp⟩ := bn1_s hp
  refine k_ROS (As := [.int p1]) (rest := []) ⟨hx, hb, hml, hown, hts⟩ hK (show va_P D vwCl [] _ from fun k q h => by simp at h) (cw_X11_188 hts ⟨Nat.le_of_ble_eq_true rfl, Nat.le_of_ble_eq_true rfl⟩) (c_X11_isMinute l D cy p1 r_2 hc_1) rfl hl.1 (Nat.le_of_ble_eq_true rfl) ⟨Nat.le_refl _, Nat.le_refl _⟩ dX11_next_1 ?_
  refine lv_if_eq (tgt := 18) hx hb dX11_next_4 (by decide) (fun c_3 => ?_) (fun c_3 => ?_)
  · have hp := ite_p hp c_3
    refine lv_iconst (v := (-1)) hx hb dX11_next_18 (by decide) ?_
    exact e_ROi hx hb hr hk dX11_next_19 (Option.some.inj hp)
  · have hp := ite_n hp c_3
    refine lv_aload_n hx hb dX11_next_7 rfl (lv_at hl 0 rfl) ?_
    refine gf_X11_57 hx hb hts hown hK hP 0 rfl rfl dX11_next_8 ?_
    refine lv_iload_n hx hb dX11_next_11 rfl (lv_at hl 1 rfl) ?_
    obtain ⟨r_5, hc_4, hp⟩ := bn1_s hp
    refine k_ROV (As := [.int p1]) (rest := []) ⟨hx, hb, hml, hown, hts⟩ hK (hP.sub (ws' := (w_Fi cy qfo qro qra qvc qos qli fo ro ra vc os li)) [20, 21, 22, 23, 24, 25, 26, 27, 28, 29, 30, 31, 32, 33, 34, 35, 36, 37, 38, 39, 40, 41, 42] rfl) (cw_X11_426 hts ⟨Nat.le_of_ble_eq_true rfl, Nat.le_of_ble_eq_true rfl⟩) 0 (ci := 2) rfl rfl rfl (c_X2_landsNext l D cy qfo qro qra qvc qos qli fo ro ra vc os li p1 r_5 hc_4) rfl hl.1 (Nat.le_of_ble_eq_true rfl) ⟨Nat.le_refl _, Nat.le_refl _⟩ dX11_next_12 ?_
    refine lv_goto (tgt := 19) hx hb dX11_next_15 (by decide) ?_
    exact e_ROi hx hb hr hk dX11_next_19 (Option.some.inj hp)
/-! StormSlots.count(I)I -/
def St_count (sm : Mem) (bsa : Mem) (fo : Mem) (ro : Mem) (ra : Mem) (vc : Mem) (os : Mem) (li : Mem) (p1 : Int32) : Option (Int32) :=
  if p1 = 0 then some (ro 4 0) else if p1 = 1 then some (fo 9 0) else if p1 = 2 then if (fo 10 0) = 0 then some 0 else some 1 else if p1 = 3 then bn1 (Fi_totalHold fo) (fun r_7 => some r_7) else if p1 = 4 then bn1 (Fi_totalCircles fo) (fun r_10 => some r_10) else if p1 = 5 then bn1 (Fi_countCancelled fo) (fun r_13 => some r_13) else if p1 = 6 then some (vc 2 0) else if p1 = 7 then bn1 (Of_countMade os) (fun r_17 => some r_17) else if p1 = 8 then some (bsa 1 0) else if p1 = 9 then some (sm 10 0) else if p1 = 10 then bn1 (Ra_countSlots ra) (fun r_22 => some r_22) else if p1 = 11 then some (li 3 0) else if p1 = 12 then bn1 (Fi_countBroken fo ro li) (fun r_26 => some r_26) else bn1 (St_isHour (p1 - 20)) (fun r_28 => if r_28 = 0 then some (-1) else bn1 (Ra_of ra (p1 - 20)) (fun r_31 => some r_31))
set_option maxHeartbeats 4000000 in
set_option maxRecDepth 100000 in
theorem c_X11_count (l : Launch) (D : va_G) (cy : Nat → ClassId) (qsm qbsa qbsb qrd qdi qrof qpn qse qfo qro qra qvc qos qli qfot qrot qrat qvct qost qlit : Nat → Nat) (sm bsa bsb rd di rof pn se fo ro ra vc os li fot rot rat vct ost lit : Mem) (p1 : Int32) (r : Int32) (hp : St_count sm bsa fo ro ra vc os li p1 = some r) : RO l yX11_count cX11_count 2 (some .int) 3 D cy [.ref (qsm 0), .int p1] (w_All cy qsm qbsa qbsb qrd qdi qrof qpn qse qfo qro qra qvc qos qli qfot qrot qrat qvct qost qlit sm bsa bsb rd di rof pn se fo ro ra vc os li fot rot rat vct ost lit) r := by
  refine RO_of RX11 rfl (by decide) (Nat.le_of_ble_eq_true rfl) ?_
  intro p e s m below meth c C0 hK hP ls hl
  obtain ⟨hx, hb, hr, hml, hown, hts, hk⟩ := id C0
  unfold St_count at hp
  have hl : lv_has ls 2 [(0, .ref (qsm 0)), (1, .int p1)] := hl
  refine lv_iload_n hx hb dX11_count_0 rfl (lv_at hl 1 rfl) ?_
  by_cases c_1 : p1 = 0
  · have hp := ite_p hp c_1
    refine r_tab (tgt := 68) (off := 67) 0 hx hb dX11_count_1 c_1 (by decide) (by decide) ?_
    refine lv_aload_n hx hb dX11_count_68 rfl (lv_at hl 0 rfl) ?_
    refine gf_X11_57 hx hb hts hown hK hP 0 rfl rfl dX11_count_69 ?_
    refine gf_X11_87 hx hb hts hown hK hP 20 rfl rfl dX11_count_72 ?_
    refine gf_X11_90 hx hb hts hown hK hP 24 rfl rfl dX11_count_75 ?_
    exact e_ROi hx hb hr hk dX11_count_78 (Option.some.inj hp)
  have hp := ite_n hp c_1
  by_cases c_2 : p1 = 1
  · have hp := ite_p hp c_2
    refine r_tab (tgt := 79) (off := 78) 1 hx hb dX11_count_1 c_2 (by decide) (by decide) ?_
    refine lv_aload_n hx hb dX11_count_79 rfl (lv_at hl 0 rfl) ?_
    refine gf_X11_57 hx hb hts hown hK hP 0 rfl rfl dX11_count_80 ?_
    refine gf_X11_142 hx hb hts hown hK hP 20 rfl rfl dX11_count_83 ?_
    exact e_ROi hx hb hr hk dX11_count_86 (Option.some.inj hp)
  have hp := ite_n hp c_2
  by_cases c_3 : p1 = 2
  · have hp := ite_p hp c_3
    refine r_tab (tgt := 87) (off := 86) 2 hx hb dX11_count_1 c_3 (by decide) (by decide) ?_
    refine lv_aload_n hx hb dX11_count_87 rfl (lv_at hl 0 rfl) ?_
    refine gf_X11_57 hx hb hts hown hK hP 0 rfl rfl dX11_count_88 ?_
    refine gf_X11_214 hx hb hts hown hK hP 20 rfl rfl dX11_count_91 ?_
    refine lv_if_eq (tgt := 101) hx hb dX11_count_94 (by decide) (fun c_4 => ?_) (fun c_4 => ?_)
    · have hp := ite_p hp c_4
      refine lv_iconst (v := 0) hx hb dX11_count_101 (by decide) ?_
      exact e_ROi hx hb hr hk dX11_count_102 (Option.some.inj hp)
    · have hp := ite_n hp c_4
      refine lv_iconst (v := 1) hx hb dX11_count_97 (by decide) ?_
      refine lv_goto (tgt := 102) hx hb dX11_count_98 (by decide) ?_
      exact e_ROi hx hb hr hk dX11_count_102 (Option.some.inj hp)
  have hp := ite_n hp c_3
  by_cases c_5 : p1 = 3
  · have hp := ite_p hp c_5
    refine r_tab (tgt := 103) (off := 102) 3 hx hb dX11_count_1 c_5 (by decide) (by decide) ?_
    refine lv_aload_n hx hb dX11_count_103 rfl (lv_at hl 0 rfl) ?_
    refine gf_X11_57 hx hb hts hown hK hP 0 rfl rfl dX11_count_104 ?_
    obtain ⟨r_7, hc_6, hp⟩ := bn1_s hp
    refine k_ROV (As := []) (rest := []) ⟨hx, hb, hml, hown, hts⟩ hK (hP.sub (ws' := (w_Fi cy qfo qro qra qvc qos qli fo ro ra vc os li)) [20, 21, 22, 23, 24, 25, 26, 27, 28, 29, 30, 31, 32, 33, 34, 35, 36, 37, 38, 39, 40, 41, 42] rfl) (cw_X11_388 hts ⟨Nat.le_of_ble_eq_true rfl, Nat.le_of_ble_eq_true rfl⟩) 0 (ci := 2) rfl rfl rfl (c_X2_totalHold l D cy qfo qro qra qvc qos qli fo ro ra vc os li r_7 hc_6) rfl hl.1 (Nat.le_of_ble_eq_true rfl) ⟨Nat.le_refl _, Nat.le_refl _⟩ dX11_count_107 ?_
    exact e_ROi hx hb hr hk dX11_count_110 (Option.some.inj hp)
  have hp := ite_n hp c_5
  by_cases c_8 : p1 = 4
  · have hp := ite_p hp c_8
    refine r_tab (tgt := 111) (off := 110) 4 hx hb dX11_count_1 c_8 (by decide) (by decide) ?_
    refine lv_aload_n hx hb dX11_count_111 rfl (lv_at hl 0 rfl) ?_
    refine gf_X11_57 hx hb hts hown hK hP 0 rfl rfl dX11_count_112 ?_
    obtain ⟨r_10, hc_9, hp⟩ := bn1_s hp
    refine k_ROV (As := []) (rest := []) ⟨hx, hb, hml, hown, hts⟩ hK (hP.sub (ws' := (w_Fi cy qfo qro qra qvc qos qli fo ro ra vc os li)) [20, 21, 22, 23, 24, 25, 26, 27, 28, 29, 30, 31, 32, 33, 34, 35, 36, 37, 38, 39, 40, 41, 42] rfl) (cw_X11_420 hts ⟨Nat.le_of_ble_eq_true rfl, Nat.le_of_ble_eq_true rfl⟩) 0 (ci := 2) rfl rfl rfl (c_X2_totalCircles l D cy qfo qro qra qvc qos qli fo ro ra vc os li r_10 hc_9) rfl hl.1 (Nat.le_of_ble_eq_true rfl) ⟨Nat.le_refl _, Nat.le_refl _⟩ dX11_count_115 ?_
    exact e_ROi hx hb hr hk dX11_count_118 (Option.some.inj hp)
  have hp := ite_n hp c_8
  by_cases c_11 : p1 = 5
  · have hp := ite_p hp c_11
    refine r_tab (tgt := 119) (off := 118) 5 hx hb dX11_count_1 c_11 (by decide) (by decide) ?_
    refine lv_aload_n hx hb dX11_count_119 rfl (lv_at hl 0 rfl) ?_
    refine gf_X11_57 hx hb hts hown hK hP 0 rfl rfl dX11_count_120 ?_
    obtain ⟨r_13, hc_12, hp⟩ := bn1_s hp
    refine k_ROV (As := []) (rest := []) ⟨hx, hb, hml, hown, hts⟩ hK (hP.sub (ws' := (w_Fi cy qfo qro qra qvc qos qli fo ro ra vc os li)) [20, 21, 22, 23, 24, 25, 26, 27, 28, 29, 30, 31, 32, 33, 34, 35, 36, 37, 38, 39, 40, 41, 42] rfl) (cw_X11_429 hts ⟨Nat.le_of_ble_eq_true rfl, Nat.le_of_ble_eq_true rfl⟩) 0 (ci := 2) rfl rfl rfl (c_X2_countCancelled l D cy qfo qro qra qvc qos qli fo ro ra vc os li r_13 hc_12) rfl hl.1 (Nat.le_of_ble_eq_true rfl) ⟨Nat.le_refl _, Nat.le_refl _⟩ dX11_count_123 ?_
    exact e_ROi hx hb hr hk dX11_count_126 (Option.some.inj hp)
  have hp := ite_n hp c_11
  by_cases c_14 : p1 = 6
  · have hp := ite_p hp c_14
    refine r_tab (tgt := 127) (off := 126) 6 hx hb dX11_count_1 c_14 (by decide) (by decide) ?_
    refine lv_aload_n hx hb dX11_count_127 rfl (lv_at hl 0 rfl) ?_
    refine gf_X11_57 hx hb hts hown hK hP 0 rfl rfl dX11_count_128 ?_
    refine gf_X11_194 hx hb hts hown hK hP 20 rfl rfl dX11_count_131 ?_
    refine gf_X11_248 hx hb hts hown hK hP 31 rfl rfl dX11_count_134 ?_
    exact e_ROi hx hb hr hk dX11_count_137 (Option.some.inj hp)
  have hp := ite_n hp c_14
  by_cases c_15 : p1 = 7
  · have hp := ite_p hp c_15
    refine r_tab (tgt := 138) (off := 137) 7 hx hb dX11_count_1 c_15 (by decide) (by decide) ?_
    refine lv_aload_n hx hb dX11_count_138 rfl (lv_at hl 0 rfl) ?_
    refine gf_X11_57 hx hb hts hown hK hP 0 rfl rfl dX11_count_139 ?_
    refine gf_X11_255 hx hb hts hown hK hP 20 rfl rfl dX11_count_142 ?_
    obtain ⟨r_17, hc_16, hp⟩ := bn1_s hp
    refine k_ROV (As := []) (rest := []) ⟨hx, hb, hml, hown, hts⟩ hK (hP.sub (ws' := (w_Of cy qos os)) [34, 35, 36, 37, 38] rfl) (cw_X11_432 hts ⟨Nat.le_of_ble_eq_true rfl, Nat.le_of_ble_eq_true rfl⟩) 0 (ci := 4) rfl rfl rfl (c_X4_countMade l D cy qos os r_17 hc_16) rfl hl.1 (Nat.le_of_ble_eq_true rfl) ⟨Nat.le_refl _, Nat.le_refl _⟩ dX11_count_145 ?_
    exact e_ROi hx hb hr hk dX11_count_148 (Option.some.inj hp)
  have hp := ite_n hp c_15
  by_cases c_18 : p1 = 8
  · have hp := ite_p hp c_18
    refine r_tab (tgt := 149) (off := 148) 8 hx hb dX11_count_1 c_18 (by decide) (by decide) ?_
    refine lv_aload_n hx hb dX11_count_149 rfl (lv_at hl 0 rfl) ?_
    refine gf_X11_10 hx hb hts hown hK hP 0 rfl rfl dX11_count_150 ?_
    refine gf_X11_72 hx hb hts hown hK hP 1 rfl rfl dX11_count_153 ?_
    exact e_ROi hx hb hr hk dX11_count_156 (Option.some.inj hp)
  have hp := ite_n hp c_18
  by_cases c_19 : p1 = 9
  · have hp := ite_p hp c_19
    refine r_tab (tgt := 157) (off := 156) 9 hx hb dX11_count_1 c_19 (by decide) (by decide) ?_
    refine lv_aload_n hx hb dX11_count_157 rfl (lv_at hl 0 rfl) ?_
    refine gf_X11_68 hx hb hts hown hK hP 0 rfl rfl dX11_count_158 ?_
    exact e_ROi hx hb hr hk dX11_count_161 (Option.some.inj hp)
  have hp := ite_n hp c_19
  by_cases c_20 : p1 = 10
  · have hp := ite_p hp c_20
    refine r_tab (tgt := 162) (off := 161) 10 hx hb dX11_count_1 c_20 (by decide) (by decide) ?_
    refine lv_aload_n hx hb dX11_count_162 rfl (lv_at hl 0 rfl) ?_
    refine gf_X11_57 hx hb hts hown hK hP 0 rfl rfl dX11_count_163 ?_
    refine gf_X11_125 hx hb hts hown hK hP 20 rfl rfl dX11_count_166 ?_
    obtain ⟨r_22, hc_21, hp⟩ := bn1_s hp
    refine k_ROV (As := []) (rest := []) ⟨hx, hb, hml, hown, hts⟩ hK (hP.sub (ws' := (w_Ra cy qra ra)) [29, 30] rfl) (cw_X11_435 hts ⟨Nat.le_of_ble_eq_true rfl, Nat.le_of_ble_eq_true rfl⟩) 0 (ci := 7) rfl rfl rfl (c_X7_countSlots l D cy qra ra r_22 hc_21) rfl hl.1 (Nat.le_of_ble_eq_true rfl) ⟨Nat.le_refl _, Nat.le_refl _⟩ dX11_count_169 ?_
    exact e_ROi hx hb hr hk dX11_count_172 (Option.some.inj hp)
  have hp := ite_n hp c_20
  by_cases c_23 : p1 = 11
  · have hp := ite_p hp c_23
    refine r_tab (tgt := 173) (off := 172) 11 hx hb dX11_count_1 c_23 (by decide) (by decide) ?_
    refine lv_aload_n hx hb dX11_count_173 rfl (lv_at hl 0 rfl) ?_
    refine gf_X11_57 hx hb hts hown hK hP 0 rfl rfl dX11_count_174 ?_
    refine gf_X11_349 hx hb hts hown hK hP 20 rfl rfl dX11_count_177 ?_
    refine gf_X11_438 hx hb hts hown hK hP 39 rfl rfl dX11_count_180 ?_
    exact e_ROi hx hb hr hk dX11_count_183 (Option.some.inj hp)
  have hp := ite_n hp c_23
  by_cases c_24 : p1 = 12
  · have hp := ite_p hp c_24
    refine r_tab (tgt := 184) (off := 183) 12 hx hb dX11_count_1 c_24 (by decide) (by decide) ?_
    refine lv_aload_n hx hb dX11_count_184 rfl (lv_at hl 0 rfl) ?_
    refine gf_X11_57 hx hb hts hown hK hP 0 rfl rfl dX11_count_185 ?_
    obtain ⟨r_26, hc_25, hp⟩ := bn1_s hp
    refine k_ROV (As := []) (rest := []) ⟨hx, hb, hml, hown, hts⟩ hK (hP.sub (ws' := (w_Fi cy qfo qro qra qvc qos qli fo ro ra vc os li)) [20, 21, 22, 23, 24, 25, 26, 27, 28, 29, 30, 31, 32, 33, 34, 35, 36, 37, 38, 39, 40, 41, 42] rfl) (cw_X11_375 hts ⟨Nat.le_of_ble_eq_true rfl, Nat.le_of_ble_eq_true rfl⟩) 0 (ci := 2) rfl rfl rfl (c_X2_countBroken l D cy qfo qro qra qvc qos qli fo ro ra vc os li r_26 hc_25) rfl hl.1 (Nat.le_of_ble_eq_true rfl) ⟨Nat.le_refl _, Nat.le_refl _⟩ dX11_count_188 ?_
    exact e_ROi hx hb hr hk dX11_count_191 (Option.some.inj hp)
  have hp := ite_n hp c_24
  refine lv_tableOut (tgt := 192) hx hb dX11_count_1 (by have zc_1 : (p1).toInt ≠ 0 := ne_toInt c_1; have zc_2 : (p1).toInt ≠ 1 := ne_toInt c_2; have zc_3 : (p1).toInt ≠ 2 := ne_toInt c_3; have zc_5 : (p1).toInt ≠ 3 := ne_toInt c_5; have zc_8 : (p1).toInt ≠ 4 := ne_toInt c_8; have zc_11 : (p1).toInt ≠ 5 := ne_toInt c_11; have zc_14 : (p1).toInt ≠ 6 := ne_toInt c_14; have zc_15 : (p1).toInt ≠ 7 := ne_toInt c_15; have zc_18 : (p1).toInt ≠ 8 := ne_toInt c_18; have zc_19 : (p1).toInt ≠ 9 := ne_toInt c_19; have zc_20 : (p1).toInt ≠ 10 := ne_toInt c_20; have zc_23 : (p1).toInt ≠ 11 := ne_toInt c_23; have zc_24 : (p1).toInt ≠ 12 := ne_toInt c_24; omega) (by decide) ?_
  refine lv_iload_n hx hb dX11_count_192 rfl (lv_at hl 1 rfl) ?_
  refine lv_bipush (v := 20) hx hb dX11_count_193 (by decide) ?_
  refine lv_isub hx hb dX11_count_195 ?_
  obtain ⟨r_28, hc_27, hp⟩ := bn1_s hp
  refine k_ROS (As := [.int (p1 - 20)]) (rest := []) ⟨hx, hb, hml, hown, hts⟩ hK (show va_P D vwCl [] _ from fun k q h => by simp at h) (cw_X11_119 hts ⟨Nat.le_of_ble_eq_true rfl, Nat.le_of_ble_eq_true rfl⟩) (c_X11_isHour l D cy (p1 - 20) r_28 hc_27) rfl hl.1 (Nat.le_of_ble_eq_true rfl) ⟨Nat.le_refl _, Nat.le_refl _⟩ dX11_count_196 ?_
  refine lv_if_eq (tgt := 219) hx hb dX11_count_199 (by decide) (fun c_29 => ?_) (fun c_29 => ?_)
  · have hp := ite_p hp c_29
    refine lv_iconst (v := (-1)) hx hb dX11_count_219 (by decide) ?_
    exact e_ROi hx hb hr hk dX11_count_220 (Option.some.inj hp)
  · have hp := ite_n hp c_29
    refine lv_aload_n hx hb dX11_count_202 rfl (lv_at hl 0 rfl) ?_
    refine gf_X11_57 hx hb hts hown hK hP 0 rfl rfl dX11_count_203 ?_
    refine gf_X11_125 hx hb hts hown hK hP 20 rfl rfl dX11_count_206 ?_
    refine lv_iload_n hx hb dX11_count_209 rfl (lv_at hl 1 rfl) ?_
    refine lv_bipush (v := 20) hx hb dX11_count_210 (by decide) ?_
    refine lv_isub hx hb dX11_count_212 ?_
    obtain ⟨r_31, hc_30, hp⟩ := bn1_s hp
    refine k_ROV (As := [.int (p1 - 20)]) (rest := []) ⟨hx, hb, hml, hown, hts⟩ hK (hP.sub (ws' := (w_Ra cy qra ra)) [29, 30] rfl) (cw_X11_129 hts ⟨Nat.le_of_ble_eq_true rfl, Nat.le_of_ble_eq_true rfl⟩) 0 (ci := 7) rfl rfl rfl (c_X7_of l D cy qra ra (p1 - 20) r_31 hc_30) rfl hl.1 (Nat.le_of_ble_eq_true rfl) ⟨Nat.le_refl _, Nat.le_refl _⟩ dX11_count_213 ?_
    refine lv_goto (tgt := 220) hx hb dX11_count_216 (by decide) ?_
    exact e_ROi hx hb hr hk dX11_count_220 (Option.some.inj hp)
end SG13storm
