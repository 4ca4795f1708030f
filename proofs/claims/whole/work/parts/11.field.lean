section SG11field
variable {p : Program} {l : Launch} {e : Env} {s : State} {m : MethodId} {args : Array Value} {below : List Frame} {meth : Method} {c : Code} {D : va_G} {A : Nat → Prop} {cy : Nat → ClassId}
abbrev w_Fi (cy : Nat → ClassId) (qfo : Nat → Nat) (qro : Nat → Nat) (qra : Nat → Nat) (qvc : Nat → Nat) (qos : Nat → Nat) (qli : Nat → Nat) (fo : Mem) (ro : Mem) (ra : Mem) (vc : Mem) (os : Mem) (li : Mem) : va_W := [(qfo 0, .inr (2, [.ref (qro 0), .ref (qra 0), .ref (qvc 0), .ref (qos 0), .ref (qli 0), .ref (qfo 6), .ref (qfo 7), .ref (qfo 8), .int (fo 8 0), .int (fo 9 0), .int (fo 10 0)])), (qfo 6, .inl (cy 0, 20, .inl (fo 5))), (qfo 7, .inl (cy 0, 20, .inl (fo 6))), (qfo 8, .inl (cy 0, 20, .inl (fo 7))), (qro 0, .inr (9, [.ref (qro 1), .ref (qro 2), .ref (qro 3), .ref (qro 4), .int (ro 4 0)])), (qro 1, .inl (cy 0, 20, .inl (ro 0))), (qro 2, .inl (cy 0, 20, .inl (ro 1))), (qro 3, .inl (cy 0, 20, .inl (ro 2))), (qro 4, .inl (cy 0, 20, .inl (ro 3))), (qra 0, .inr (7, [.ref (qra 1)])), (qra 1, .inl (cy 0, 12, .inl (ra 0))), (qvc 0, .inr (10, [.ref (qvc 1), .ref (qvc 2), .int (vc 2 0)])), (qvc 1, .inl (cy 0, 20, .inl (vc 0))), (qvc 2, .inl (cy 0, 20, .inl (vc 1))), (qos 0, .inr (4, [.ref (qos 1), .ref (qos 2), .ref (qos 3), .ref (qos 4), .int (os 4 0)])), (qos 1, .inl (cy 0, 8, .inl (os 0))), (qos 2, .inl (cy 0, 8, .inl (os 1))), (qos 3, .inl (cy 0, 8, .inl (os 2))), (qos 4, .inl (cy 0, 8, .inl (os 3))), (qli 0, .inr (3, [.ref (qli 1), .ref (qli 2), .ref (qli 3), .int (li 3 0)])), (qli 1, .inl (cy 0, 12, .inl (li 0))), (qli 2, .inl (cy 0, 12, .inl (li 1))), (qli 3, .inl (cy 0, 12, .inl (li 2)))]
/-! StormSlots$Field.clearFlight(I)V -/
def Fi_clearFlight (fo : Mem) (p1 : Int32) : Option (Mem) :=
  ckI p1 20 (stk (upm fo 5 p1.toNatClampNeg (-1)) (fun fo_2 => stk (upm fo_2 6 p1.toNatClampNeg 0) (fun fo_3 => stk (upm fo_3 7 p1.toNatClampNeg 0) (fun fo_4 => some fo_4))))
set_option maxHeartbeats 4000000 in
set_option maxRecDepth 100000 in
theorem c_X2_clearFlight (l : Launch) (D : va_G) (cy : Nat → ClassId) (qfo qro qra qvc qos qli : Nat → Nat) (fo ro ra vc os li : Mem) (p1 : Int32) (fo' : Mem) (hp : Fi_clearFlight fo p1 = some fo') : RV l yX2_clearFlight cX2_clearFlight 2 0 D cy [.ref (qfo 0), .int p1] (w_Fi cy qfo qro qra qvc qos qli fo ro ra vc os li) (w_Fi cy qfo qro qra qvc qos qli fo' ro ra vc os li) := by
  refine RV_of RX2 rfl (by decide) (Nat.le_of_ble_eq_true rfl) ?_
  intro p e s m below meth c A C0 hK hP hD hS hA ls hl
  obtain ⟨hx, hb, hr, hml, hown, hts, hk⟩ := id C0
  unfold Fi_clearFlight at hp
  have hl : lv_has ls 2 [(0, .ref (qfo 0)), (1, .int p1)] := hl
  refine lv_aload_n hx hb dX2_clearFlight_0 rfl (lv_at hl 0 rfl) ?_
  refine gf_X2_46 hx hb hts hown hK hP 0 rfl rfl dX2_clearFlight_1 ?_
  refine lv_iload_n hx hb dX2_clearFlight_4 rfl (lv_at hl 1 rfl) ?_
  refine lv_iconst (v := (-1)) hx hb dX2_clearFlight_5 (by decide) ?_
  obtain ⟨hi_1, hp⟩ := ckI_s hp
  obtain ⟨fo_2, efo_2⟩ : ∃ y : Mem, y = upm fo 5 p1.toNatClampNeg (-1) := ⟨_, rfl⟩
  have hp := stk_e hp efo_2
  refine r_ist hx hb hK hP hD hS (wn := (w_Fi cy qfo qro qra qvc qos qli fo_2 ro ra vc os li)) 1 rfl hi_1 (by subst efo_2; rfl) dX2_clearFlight_6 (fun H locs hP hD hS => ?_)
  refine lv_aload_n hx hb dX2_clearFlight_7 rfl (lv_at hl 0 rfl) ?_
  refine gf_X2_50 hx hb hts hown hK hP 0 rfl rfl dX2_clearFlight_8 ?_
  refine lv_iload_n hx hb dX2_clearFlight_11 rfl (lv_at hl 1 rfl) ?_
  refine lv_iconst (v := 0) hx hb dX2_clearFlight_12 (by decide) ?_
  obtain ⟨fo_3, efo_3⟩ : ∃ y : Mem, y = upm fo_2 6 p1.toNatClampNeg 0 := ⟨_, rfl⟩
  have hp := stk_e hp efo_3
  refine r_ist hx hb hK hP hD hS (wn := (w_Fi cy qfo qro qra qvc qos qli fo_3 ro ra vc os li)) 2 rfl hi_1 (by subst efo_3; rfl) dX2_clearFlight_13 (fun H locs hP hD hS => ?_)
  refine lv_aload_n hx hb dX2_clearFlight_14 rfl (lv_at hl 0 rfl) ?_
  refine gf_X2_53 hx hb hts hown hK hP 0 rfl rfl dX2_clearFlight_15 ?_
  refine lv_iload_n hx hb dX2_clearFlight_18 rfl (lv_at hl 1 rfl) ?_
  refine lv_iconst (v := 0) hx hb dX2_clearFlight_19 (by decide) ?_
  obtain ⟨fo_4, efo_4⟩ : ∃ y : Mem, y = upm fo_3 7 p1.toNatClampNeg 0 := ⟨_, rfl⟩
  have hp := stk_e hp efo_4
  refine r_ist hx hb hK hP hD hS (wn := (w_Fi cy qfo qro qra qvc qos qli fo_4 ro ra vc os li)) 3 rfl hi_1 (by subst efo_4; rfl) dX2_clearFlight_20 (fun H locs hP hD hS => ?_)
  simp only [Option.some.injEq, Prod.mk.injEq] at hp
  subst hp
  exact e_RV hx hb hr hk hP hD hS dX2_clearFlight_21
/-! StormSlots$Field.clearMarket()V -/
def Fi_clearMarket (vc : Mem) (os : Mem) : Option (Mem × Mem) :=
  stk (upm vc 2 0 0) (fun vc_1 => bn1 (Of_dropAll os) (fun os_3 => some (vc_1, os_3)))
set_option maxHeartbeats 4000000 in
set_option maxRecDepth 100000 in
theorem c_X2_clearMarket (l : Launch) (D : va_G) (cy : Nat → ClassId) (qfo qro qra qvc qos qli : Nat → Nat) (fo ro ra vc os li : Mem) (vc' os' : Mem) (hp : Fi_clearMarket vc os = some (vc', os')) : RV l yX2_clearMarket cX2_clearMarket 1 1 D cy [.ref (qfo 0)] (w_Fi cy qfo qro qra qvc qos qli fo ro ra vc os li) (w_Fi cy qfo qro qra qvc qos qli fo ro ra vc' os' li) := by
  refine RV_of RX2 rfl (by decide) (Nat.le_of_ble_eq_true rfl) ?_
  intro p e s m below meth c A C0 hK hP hD hS hA ls hl
  obtain ⟨hx, hb, hr, hml, hown, hts, hk⟩ := id C0
  unfold Fi_clearMarket at hp
  have hl : lv_has ls 1 [(0, .ref (qfo 0))] := hl
  refine lv_aload_n hx hb dX2_clearMarket_0 rfl (lv_at hl 0 rfl) ?_
  refine gf_X2_28 hx hb hts hown hK hP 0 rfl rfl dX2_clearMarket_1 ?_
  refine lv_iconst (v := 0) hx hb dX2_clearMarket_4 (by decide) ?_
  obtain ⟨vc_1, evc_1⟩ : ∃ y : Mem, y = upm vc 2 0 0 := ⟨_, rfl⟩
  have hp := stk_e hp evc_1
  refine pf_X2_102 hx hb hts hown hK hP hD hS (wn := (w_Fi cy qfo qro qra qvc qos qli fo ro ra vc_1 os li)) 11 rfl (Nat.le_of_ble_eq_true rfl) (by subst evc_1; rfl) dX2_clearMarket_5 (fun H locs hP hD hS => ?_)
  refine lv_aload_n hx hb dX2_clearMarket_8 rfl (lv_at hl 0 rfl) ?_
  refine gf_X2_35 hx hb hts hown hK hP 0 rfl rfl dX2_clearMarket_9 ?_
  obtain ⟨os_3, hc_2, hp⟩ := bn1_s hp
  refine k_RVV (As := []) (rest := []) ⟨hx, hb, hml, hown, hts⟩ hK hP hD hS hA (FrS_set (ws := (w_Fi cy qfo qro qra qvc qos qli fo ro ra vc_1 os li)) (wc := (w_Of cy qos os)) (w1 := (w_Of cy qos os_3)) (wn := (w_Fi cy qfo qro qra qvc qos qli fo ro ra vc_1 os_3 li)) [14, 15, 16, 17, 18] [none, none, none, none, none, none, none, none, none, none, none, none, none, none, some 0, some 1, some 2, some 3, some 4, none, none, none, none] (by decide +kernel) rfl rfl rfl) (cw_X2_103 hts ⟨Nat.le_of_ble_eq_true rfl, Nat.le_of_ble_eq_true rfl⟩) 0 (ci := 4) rfl rfl rfl (c_X4_dropAll l D cy qos os os_3 hc_2) rfl hl.1 (Nat.le_of_ble_eq_true rfl) ⟨Nat.le_refl _, Nat.le_refl _⟩ dX2_clearMarket_12 (fun H locs hP hD hS => ?_)
  simp only [Option.some.injEq, Prod.mk.injEq] at hp
  obtain ⟨rfl, rfl⟩ := hp
  exact e_RV hx hb hr hk hP hD hS dX2_clearMarket_15
/-! StormSlots$Field.clearPlan()V -/
def Fi_clearPlan_b2B (k2 : Mem → Mem → Mem → Int32 → Option (Mem × Mem × Mem)) (fo : Mem) (vc : Mem) (os : Mem) (x1 : Int32) : Option (Mem × Mem × Mem) :=
  if 20 ≤ x1 then stk (upm fo 8 0 0) (fun fo_2 => bn2 (Fi_clearMarket vc os) (fun vc_4 os_5 => some (fo_2, vc_4, os_5))) else bn1 (Fi_clearFlight fo x1) (fun fo_7 => stk (x1 + 1) (fun x1_8 => k2 fo_7 vc os x1_8))
def Fi_clearPlan_b2 : Nat → Mem → Mem → Mem → Int32 → Option (Mem × Mem × Mem)
  | 0 => fun _ _ _ _ => none
  | n + 1 => Fi_clearPlan_b2B  (Fi_clearPlan_b2  n)
def Fi_clearPlan (fo : Mem) (vc : Mem) (os : Mem) : Option (Mem × Mem × Mem) :=
  Fi_clearPlan_b2 fl fo vc os 0
set_option maxHeartbeats 4000000 in
set_option maxRecDepth 100000 in
theorem Fi_clearPlan_b2B_w (C0 : cX RX2 cX2_clearPlan none 2 p s m args meth c) (hK : kN D cy s) {qfo qro qra qvc qos qli : Nat → Nat} {ro ra li : Mem} {fo' vc' os' : Mem} (hA : ∀ q, s.heap.size ≤ q → A q) {k2 : Mem → Mem → Mem → Int32 → Option (Mem × Mem × Mem)} (hk2 : ∀ (fo vc os : Mem) (x1 : Int32) (H : Heap) (locs : List Loc) (ls : Array Slot), va_P D vwCl (w_Fi cy qfo qro qra qvc qos qli fo ro ra vc os li) H → va_D A (w_Fi cy qfo qro qra qvc qos qli fo ro ra vc os li) → va_S A s.heap H locs → lv_has ls 2 [(0, .ref (qfo 0)), (1, .int x1)] → k2 fo vc os x1 = some (fo', vc', os') → W p l e (rmD 2) s m args below meth c H locs 0 0 (qRV D below args s A (w_Fi cy qfo qro qra qvc qos qli fo' ro ra vc' os' li)) (F0 m 2 ls [])) {fo : Mem} {vc : Mem} {os : Mem} {x1 : Int32} {H : Heap} {locs : List Loc} (hP : va_P D vwCl (w_Fi cy qfo qro qra qvc qos qli fo ro ra vc os li) H) (hD : va_D A (w_Fi cy qfo qro qra qvc qos qli fo ro ra vc os li)) (hS : va_S A s.heap H locs) {ls : Array Slot} (hl : lv_has ls 2 [(0, .ref (qfo 0)), (1, .int x1)]) (hp : Fi_clearPlan_b2B k2 fo vc os x1 = some (fo', vc', os')) : W p l e (rmD 2) s m args below meth c H locs 0 0 (qRV D below args s A (w_Fi cy qfo qro qra qvc qos qli fo' ro ra vc' os' li)) (F0 m 2 ls []) := by
  obtain ⟨hx, hb, hr, hml, hown, hts, hk⟩ := id C0
  unfold Fi_clearPlan_b2B at hp
  refine lv_iload_n hx hb dX2_clearPlan_2 rfl (lv_at hl 1 rfl) ?_
  refine lv_bipush (v := 20) hx hb dX2_clearPlan_3 (by decide) ?_
  refine lv_icmp_ge (tgt := 19) hx hb dX2_clearPlan_5 (by decide) (fun c_1 => ?_) (fun c_1 => ?_)
  · have hp := ite_p hp c_1
    refine lv_aload_n hx hb dX2_clearPlan_19 rfl (lv_at hl 0 rfl) ?_
    refine lv_iconst (v := 0) hx hb dX2_clearPlan_20 (by decide) ?_
    obtain ⟨fo_2, efo_2⟩ : ∃ y : Mem, y = upm fo 8 0 0 := ⟨_, rfl⟩
    have hp := stk_e hp efo_2
    refine pf_X2_78 hx hb hts hown hK hP hD hS (wn := (w_Fi cy qfo qro qra qvc qos qli fo_2 ro ra vc os li)) 0 rfl (Nat.le_of_ble_eq_true rfl) (by subst efo_2; rfl) dX2_clearPlan_21 (fun H locs hP hD hS => ?_)
    refine lv_aload_n hx hb dX2_clearPlan_24 rfl (lv_at hl 0 rfl) ?_
    obtain ⟨vc_4, os_5, hc_3, hp⟩ := bn2_s hp
    refine k_RVV (As := []) (rest := []) ⟨hx, hb, hml, hown, hts⟩ hK hP hD hS hA FrS_rf (cw_X2_99 hts ⟨Nat.le_of_ble_eq_true rfl, Nat.le_of_ble_eq_true rfl⟩) 0 (ci := 2) rfl rfl rfl (c_X2_clearMarket l D cy qfo qro qra qvc qos qli fo_2 ro ra vc os li vc_4 os_5 hc_3) rfl hl.1 (Nat.le_of_ble_eq_true rfl) ⟨Nat.le_refl _, Nat.le_refl _⟩ dX2_clearPlan_25 (fun H locs hP hD hS => ?_)
    simp only [Option.some.injEq, Prod.mk.injEq] at hp
    obtain ⟨rfl, rfl, rfl⟩ := hp
    exact e_RV hx hb hr hk hP hD hS dX2_clearPlan_28
  · have hp := ite_n hp c_1
    refine lv_aload_n hx hb dX2_clearPlan_8 rfl (lv_at hl 0 rfl) ?_
    refine lv_iload_n hx hb dX2_clearPlan_9 rfl (lv_at hl 1 rfl) ?_
    obtain ⟨fo_7, hc_6, hp⟩ := bn1_s hp
    refine k_RVV (As := [.int x1]) (rest := []) ⟨hx, hb, hml, hown, hts⟩ hK hP hD hS hA FrS_rf (cw_X2_95 hts ⟨Nat.le_of_ble_eq_true rfl, Nat.le_of_ble_eq_true rfl⟩) 0 (ci := 2) rfl rfl rfl (c_X2_clearFlight l D cy qfo qro qra qvc qos qli fo ro ra vc os li x1 fo_7 hc_6) rfl hl.1 (Nat.le_of_ble_eq_true rfl) ⟨Nat.le_refl _, Nat.le_refl _⟩ dX2_clearPlan_10 (fun H locs hP hD hS => ?_)
    obtain ⟨x1_8, ex1_8⟩ : ∃ y : Int32, y = x1 + 1 := ⟨_, rfl⟩
    have hp := stk_e hp ex1_8
    refine lv_iinc (v := x1_8) (lv' := [(1, .int x1_8), (0, .ref (qfo 0))]) hx hb dX2_clearPlan_13 hl (k := 1) rfl (by rw [ex1_8]; rfl) (by decide) rfl (fun ls hl => ?_)
    refine lv_goto (tgt := 2) hx hb dX2_clearPlan_16 (by decide) ?_
    exact hk2 fo_7 vc os x1_8 _ _ _ hP hD hS (lv_sub hl [1, 0] rfl) hp
theorem Fi_clearPlan_b2_w (C0 : cX RX2 cX2_clearPlan none 2 p s m args meth c) (hK : kN D cy s) {qfo qro qra qvc qos qli : Nat → Nat} {ro ra li : Mem} {fo' vc' os' : Mem} (hA : ∀ q, s.heap.size ≤ q → A q) : ∀ (n : Nat) (fo vc os : Mem) (x1 : Int32) (H : Heap) (locs : List Loc) (ls : Array Slot), va_P D vwCl (w_Fi cy qfo qro qra qvc qos qli fo ro ra vc os li) H → va_D A (w_Fi cy qfo qro qra qvc qos qli fo ro ra vc os li) → va_S A s.heap H locs → lv_has ls 2 [(0, .ref (qfo 0)), (1, .int x1)] → Fi_clearPlan_b2  n fo vc os x1 = some (fo', vc', os') → W p l e (rmD 2) s m args below meth c H locs 0 0 (qRV D below args s A (w_Fi cy qfo qro qra qvc qos qli fo' ro ra vc' os' li)) (F0 m 2 ls []) := by
  intro n
  induction n with
  | zero =>
    intro fo vc os x1 H locs ls hP hD hS hl hp
    cases hp
  | succ n ih =>
    intro fo vc os x1 H locs ls hP hD hS hl hp
    exact Fi_clearPlan_b2B_w C0 hK hA  (fun fo vc os x1 H locs ls hP hD hS hl hp => ih fo vc os x1 H locs ls hP hD hS hl hp) hP hD hS hl hp
set_option maxHeartbeats 4000000 in
set_option maxRecDepth 100000 in
theorem c_X2_clearPlan (l : Launch) (D : va_G) (cy : Nat → ClassId) (qfo qro qra qvc qos qli : Nat → Nat) (fo ro ra vc os li : Mem) (fo' vc' os' : Mem) (hp : Fi_clearPlan fo vc os = some (fo', vc', os')) : RV l yX2_clearPlan cX2_clearPlan 2 2 D cy [.ref (qfo 0)] (w_Fi cy qfo qro qra qvc qos qli fo ro ra vc os li) (w_Fi cy qfo qro qra qvc qos qli fo' ro ra vc' os' li) := by
  refine RV_of RX2 rfl (by decide) (Nat.le_of_ble_eq_true rfl) ?_
  intro p e s m below meth c A C0 hK hP hD hS hA ls hl
  obtain ⟨hx, hb, hr, hml, hown, hts, hk⟩ := id C0
  unfold Fi_clearPlan at hp
  have hl : lv_has ls 2 [(0, .ref (qfo 0))] := hl
  refine lv_iconst (v := 0) hx hb dX2_clearPlan_0 (by decide) ?_
  refine lv_istore_n (lv' := [(1, .int 0), (0, .ref (qfo 0))]) hx hb dX2_clearPlan_1 rfl hl (by decide) rfl (fun ls hl => ?_)
  exact Fi_clearPlan_b2_w C0 hK hA  fl fo vc os 0 _ _ _ hP hD hS (lv_sub hl [1, 0] rfl) hp
/-! StormSlots$Field.isFlight(I)Z -/
def Fi_isFlight (ro : Mem) (p1 : Int32) : Option (Int32) :=
  if p1 < 0 then some 0 else if (ro 4 0) ≤ p1 then some 0 else if 20 ≤ p1 then some 0 else some 1
set_option maxHeartbeats 4000000 in
set_option maxRecDepth 100000 in
theorem c_X2_isFlight (l : Launch) (D : va_G) (cy : Nat → ClassId) (qfo qro qra qvc qos qli : Nat → Nat) (fo ro ra vc os li : Mem) (p1 : Int32) (r : Int32) (hp : Fi_isFlight ro p1 = some r) : RO l yX2_isFlight cX2_isFlight 2 (some .boolean) 0 D cy [.ref (qfo 0), .int p1] (w_Fi cy qfo qro qra qvc qos qli fo ro ra vc os li) r := by
  refine RO_of RX2 rfl (by decide) (Nat.le_of_ble_eq_true rfl) ?_
  intro p e s m below meth c C0 hK hP ls hl
  obtain ⟨hx, hb, hr, hml, hown, hts, hk⟩ := id C0
  unfold Fi_isFlight at hp
  have hl : lv_has ls 2 [(0, .ref (qfo 0)), (1, .int p1)] := hl
  refine lv_iload_n hx hb dX2_isFlight_0 rfl (lv_at hl 1 rfl) ?_
  refine lv_if_lt (tgt := 25) hx hb dX2_isFlight_1 (by decide) (fun c_1 => ?_) (fun c_1 => ?_)
  · have hp := ite_p hp c_1
    refine lv_iconst (v := 0) hx hb dX2_isFlight_25 (by decide) ?_
    exact e_ROz hx hb hr hk (Or.inl rfl) dX2_isFlight_26 (Option.some.inj hp)
  · have hp := ite_n hp c_1
    refine lv_iload_n hx hb dX2_isFlight_4 rfl (lv_at hl 1 rfl) ?_
    refine lv_aload_n hx hb dX2_isFlight_5 rfl (lv_at hl 0 rfl) ?_
    refine gf_X2_12 hx hb hts hown hK hP 0 rfl rfl dX2_isFlight_6 ?_
    refine gf_X2_106 hx hb hts hown hK hP 4 rfl rfl dX2_isFlight_9 ?_
    refine lv_icmp_ge (tgt := 25) hx hb dX2_isFlight_12 (by decide) (fun c_2 => ?_) (fun c_2 => ?_)
    · have hp := ite_p hp c_2
      refine lv_iconst (v := 0) hx hb dX2_isFlight_25 (by decide) ?_
      exact e_ROz hx hb hr hk (Or.inl rfl) dX2_isFlight_26 (Option.some.inj hp)
    · have hp := ite_n hp c_2
      refine lv_iload_n hx hb dX2_isFlight_15 rfl (lv_at hl 1 rfl) ?_
      refine lv_bipush (v := 20) hx hb dX2_isFlight_16 (by decide) ?_
      refine lv_icmp_ge (tgt := 25) hx hb dX2_isFlight_18 (by decide) (fun c_3 => ?_) (fun c_3 => ?_)
      · have hp := ite_p hp c_3
        refine lv_iconst (v := 0) hx hb dX2_isFlight_25 (by decide) ?_
        exact e_ROz hx hb hr hk (Or.inl rfl) dX2_isFlight_26 (Option.some.inj hp)
      · have hp := ite_n hp c_3
        refine lv_iconst (v := 1) hx hb dX2_isFlight_21 (by decide) ?_
        refine lv_goto (tgt := 26) hx hb dX2_isFlight_22 (by decide) ?_
        exact e_ROz hx hb hr hk (Or.inr rfl) dX2_isFlight_26 (Option.some.inj hp)
/-! StormSlots$Field.isOf(II)Z -/
def Fi_isOf (ro : Mem) (p1 : Int32) (p2 : Int32) : Option (Int32) :=
  bn1 (Fi_isFlight ro p1) (fun r_2 => if r_2 = 0 then some 0 else ckI p1 20 (if (ro 0 p1.toNatClampNeg) = p2 then some 1 else some 0))
set_option maxHeartbeats 4000000 in
set_option maxRecDepth 100000 in
theorem c_X2_isOf (l : Launch) (D : va_G) (cy : Nat → ClassId) (qfo qro qra qvc qos qli : Nat → Nat) (fo ro ra vc os li : Mem) (p1 p2 : Int32) (r : Int32) (hp : Fi_isOf ro p1 p2 = some r) : RO l yX2_isOf cX2_isOf 3 (some .boolean) 1 D cy [.ref (qfo 0), .int p1, .int p2] (w_Fi cy qfo qro qra qvc qos qli fo ro ra vc os li) r := by
  refine RO_of RX2 rfl (by decide) (Nat.le_of_ble_eq_true rfl) ?_
  intro p e s m below meth c C0 hK hP ls hl
  obtain ⟨hx, hb, hr, hml, hown, hts, hk⟩ := id C0
  unfold Fi_isOf at hp
  have hl : lv_has ls 3 [(0, .ref (qfo 0)), (1, .int p1), (2, .int p2)] := hl
  refine lv_aload_n hx hb dX2_isOf_0 rfl (lv_at hl 0 rfl) ?_
  refine lv_iload_n hx hb dX2_isOf_1 rfl (lv_at hl 1 rfl) ?_
  obtain ⟨r_2, hc_1, hp⟩ := bn1_s hp
  refine k_ROV (As := [.int p1]) (rest := []) ⟨hx, hb, hml, hown, hts⟩ hK hP (cw_X2_107 hts ⟨Nat.le_of_ble_eq_true rfl, Nat.le_of_ble_eq_true rfl⟩) 0 (ci := 2) rfl rfl rfl (c_X2_isFlight l D cy qfo qro qra qvc qos qli fo ro ra vc os li p1 r_2 hc_1) rfl hl.1 (Nat.le_of_ble_eq_true rfl) ⟨Nat.le_refl _, Nat.le_refl _⟩ dX2_isOf_2 ?_
  refine lv_if_eq (tgt := 25) hx hb dX2_isOf_5 (by decide) (fun c_3 => ?_) (fun c_3 => ?_)
  · have hp := ite_p hp c_3
    refine lv_iconst (v := 0) hx hb dX2_isOf_25 (by decide) ?_
    exact e_ROz hx hb hr hk (Or.inl rfl) dX2_isOf_26 (Option.some.inj hp)
  · have hp := ite_n hp c_3
    refine lv_aload_n hx hb dX2_isOf_8 rfl (lv_at hl 0 rfl) ?_
    refine gf_X2_12 hx hb hts hown hK hP 0 rfl rfl dX2_isOf_9 ?_
    refine gf_X2_111 hx hb hts hown hK hP 4 rfl rfl dX2_isOf_12 ?_
    refine lv_iload_n hx hb dX2_isOf_15 rfl (lv_at hl 1 rfl) ?_
    obtain ⟨hi_4, hp⟩ := ckI_s hp
    refine r_ild hx hb hK hP 5 rfl hi_4 dX2_isOf_16 ?_
    refine lv_iload_n hx hb dX2_isOf_17 rfl (lv_at hl 2 rfl) ?_
    refine lv_icmp_ne (tgt := 25) hx hb dX2_isOf_18 (by decide) (fun c_5 => ?_) (fun c_5 => ?_)
    · have hp := ite_n hp c_5
      refine lv_iconst (v := 0) hx hb dX2_isOf_25 (by decide) ?_
      exact e_ROz hx hb hr hk (Or.inl rfl) dX2_isOf_26 (Option.some.inj hp)
    · have hp := ite_p hp c_5
      refine lv_iconst (v := 1) hx hb dX2_isOf_21 (by decide) ?_
      refine lv_goto (tgt := 26) hx hb dX2_isOf_22 (by decide) ?_
      exact e_ROz hx hb hr hk (Or.inr rfl) dX2_isOf_26 (Option.some.inj hp)
/-! StormSlots$Field.off(I)I -/
def Fi_off (ro : Mem) (p1 : Int32) : Option (Int32) :=
  ckI p1 20 (some ((ro 1 p1.toNatClampNeg) - (ro 2 p1.toNatClampNeg)))
set_option maxHeartbeats 4000000 in
set_option maxRecDepth 100000 in
theorem c_X2_off (l : Launch) (D : va_G) (cy : Nat → ClassId) (qfo qro qra qvc qos qli : Nat → Nat) (fo ro ra vc os li : Mem) (p1 : Int32) (r : Int32) (hp : Fi_off ro p1 = some r) : RO l yX2_off cX2_off 2 (some .int) 0 D cy [.ref (qfo 0), .int p1] (w_Fi cy qfo qro qra qvc qos qli fo ro ra vc os li) r := by
  refine RO_of RX2 rfl (by decide) (Nat.le_of_ble_eq_true rfl) ?_
  intro p e s m below meth c C0 hK hP ls hl
  obtain ⟨hx, hb, hr, hml, hown, hts, hk⟩ := id C0
  unfold Fi_off at hp
  have hl : lv_has ls 2 [(0, .ref (qfo 0)), (1, .int p1)] := hl
  refine lv_aload_n hx hb dX2_off_0 rfl (lv_at hl 0 rfl) ?_
  refine gf_X2_12 hx hb hts hown hK hP 0 rfl rfl dX2_off_1 ?_
  refine gf_X2_114 hx hb hts hown hK hP 4 rfl rfl dX2_off_4 ?_
  refine lv_iload_n hx hb dX2_off_7 rfl (lv_at hl 1 rfl) ?_
  obtain ⟨hi_1, hp⟩ := ckI_s hp
  refine r_ild hx hb hK hP 6 rfl hi_1 dX2_off_8 ?_
  refine lv_aload_n hx hb dX2_off_9 rfl (lv_at hl 0 rfl) ?_
  refine gf_X2_12 hx hb hts hown hK hP 0 rfl rfl dX2_off_10 ?_
  refine gf_X2_117 hx hb hts hown hK hP 4 rfl rfl dX2_off_13 ?_
  refine lv_iload_n hx hb dX2_off_16 rfl (lv_at hl 1 rfl) ?_
  refine r_ild hx hb hK hP 7 rfl hi_1 dX2_off_17 ?_
  refine lv_isub hx hb dX2_off_18 ?_
  exact e_ROi hx hb hr hk dX2_off_19 (Option.some.inj hp)
/-! StormSlots$Field.goesOff(I)I -/
def Fi_goesOff (fo : Mem) (ro : Mem) (p1 : Int32) : Option (Int32) :=
  ckI p1 20 (some (((ro 1 p1.toNatClampNeg) - (ro 2 p1.toNatClampNeg)) + (fo 6 p1.toNatClampNeg)))
set_option maxHeartbeats 4000000 in
set_option maxRecDepth 100000 in
theorem c_X2_goesOff (l : Launch) (D : va_G) (cy : Nat → ClassId) (qfo qro qra qvc qos qli : Nat → Nat) (fo ro ra vc os li : Mem) (p1 : Int32) (r : Int32) (hp : Fi_goesOff fo ro p1 = some r) : RO l yX2_goesOff cX2_goesOff 2 (some .int) 0 D cy [.ref (qfo 0), .int p1] (w_Fi cy qfo qro qra qvc qos qli fo ro ra vc os li) r := by
  refine RO_of RX2 rfl (by decide) (Nat.le_of_ble_eq_true rfl) ?_
  intro p e s m below meth c C0 hK hP ls hl
  obtain ⟨hx, hb, hr, hml, hown, hts, hk⟩ := id C0
  unfold Fi_goesOff at hp
  have hl : lv_has ls 2 [(0, .ref (qfo 0)), (1, .int p1)] := hl
  refine lv_aload_n hx hb dX2_goesOff_0 rfl (lv_at hl 0 rfl) ?_
  refine gf_X2_12 hx hb hts hown hK hP 0 rfl rfl dX2_goesOff_1 ?_
  refine gf_X2_114 hx hb hts hown hK hP 4 rfl rfl dX2_goesOff_4 ?_
  refine lv_iload_n hx hb dX2_goesOff_7 rfl (lv_at hl 1 rfl) ?_
  obtain ⟨hi_1, hp⟩ := ckI_s hp
  refine r_ild hx hb hK hP 6 rfl hi_1 dX2_goesOff_8 ?_
  refine lv_aload_n hx hb dX2_goesOff_9 rfl (lv_at hl 0 rfl) ?_
  refine gf_X2_12 hx hb hts hown hK hP 0 rfl rfl dX2_goesOff_10 ?_
  refine gf_X2_117 hx hb hts hown hK hP 4 rfl rfl dX2_goesOff_13 ?_
  refine lv_iload_n hx hb dX2_goesOff_16 rfl (lv_at hl 1 rfl) ?_
  refine r_ild hx hb hK hP 7 rfl hi_1 dX2_goesOff_17 ?_
  refine lv_isub hx hb dX2_goesOff_18 ?_
  refine lv_aload_n hx hb dX2_goesOff_19 rfl (lv_at hl 0 rfl) ?_
  refine gf_X2_50 hx hb hts hown hK hP 0 rfl rfl dX2_goesOff_20 ?_
  refine lv_iload_n hx hb dX2_goesOff_23 rfl (lv_at hl 1 rfl) ?_
  refine r_ild hx hb hK hP 2 rfl hi_1 dX2_goesOff_24 ?_
  refine lv_iadd hx hb dX2_goesOff_25 ?_
  exact e_ROi hx hb hr hk dX2_goesOff_26 (Option.some.inj hp)
/-! StormSlots$Field.earliest(I)I -/
def Fi_earliest (fo : Mem) (ro : Mem) (p1 : Int32) : Option (Int32) :=
  ckI p1 20 (some (if (ro 1 p1.toNatClampNeg) < ((fo 9 0) + (ro 2 p1.toNatClampNeg)) then ((fo 9 0) + (ro 2 p1.toNatClampNeg)) else (ro 1 p1.toNatClampNeg)))
set_option maxHeartbeats 4000000 in
set_option maxRecDepth 100000 in
theorem c_X2_earliest (l : Launch) (D : va_G) (cy : Nat → ClassId) (qfo qro qra qvc qos qli : Nat → Nat) (fo ro ra vc os li : Mem) (p1 : Int32) (r : Int32) (hp : Fi_earliest fo ro p1 = some r) : RO l yX2_earliest cX2_earliest 2 (some .int) 1 D cy [.ref (qfo 0), .int p1] (w_Fi cy qfo qro qra qvc qos qli fo ro ra vc os li) r := by
  refine RO_of RX2 rfl (by decide) (Nat.le_of_ble_eq_true rfl) ?_
  intro p e s m below meth c C0 hK hP ls hl
  obtain ⟨hx, hb, hr, hml, hown, hts, hk⟩ := id C0
  unfold Fi_earliest at hp
  have hl : lv_has ls 2 [(0, .ref (qfo 0)), (1, .int p1)] := hl
  refine lv_aload_n hx hb dX2_earliest_0 rfl (lv_at hl 0 rfl) ?_
  refine gf_X2_12 hx hb hts hown hK hP 0 rfl rfl dX2_earliest_1 ?_
  refine gf_X2_114 hx hb hts hown hK hP 4 rfl rfl dX2_earliest_4 ?_
  refine lv_iload_n hx hb dX2_earliest_7 rfl (lv_at hl 1 rfl) ?_
  obtain ⟨hi_1, hp⟩ := ckI_s hp
  refine r_ild hx hb hK hP 6 rfl hi_1 dX2_earliest_8 ?_
  refine lv_aload_n hx hb dX2_earliest_9 rfl (lv_at hl 0 rfl) ?_
  refine gf_X2_82 hx hb hts hown hK hP 0 rfl rfl dX2_earliest_10 ?_
  refine lv_aload_n hx hb dX2_earliest_13 rfl (lv_at hl 0 rfl) ?_
  refine gf_X2_12 hx hb hts hown hK hP 0 rfl rfl dX2_earliest_14 ?_
  refine gf_X2_117 hx hb hts hown hK hP 4 rfl rfl dX2_earliest_17 ?_
  refine lv_iload_n hx hb dX2_earliest_20 rfl (lv_at hl 1 rfl) ?_
  refine r_ild hx hb hK hP 7 rfl hi_1 dX2_earliest_21 ?_
  refine lv_iadd hx hb dX2_earliest_22 ?_
  refine mm_X2_120 hx hb (by rw [hml]; exact hl.1.symm) hts hown (Nat.le_of_ble_eq_true rfl) (Nat.le_of_ble_eq_true rfl) (Nat.le_refl _) (Nat.le_refl _) dX2_earliest_23 ?_
  exact e_ROi hx hb hr hk dX2_earliest_26 (Option.some.inj hp)
/-! StormSlots$Field.isSeated(I)Z -/
def Fi_isSeated (fo : Mem) (p1 : Int32) : Option (Int32) :=
  if p1 < 0 then some 0 else if 20 ≤ p1 then some 0 else ckI p1 20 (if (fo 5 p1.toNatClampNeg) = (-1) then some 0 else some 1)
set_option maxHeartbeats 4000000 in
set_option maxRecDepth 100000 in
theorem c_X2_isSeated (l : Launch) (D : va_G) (cy : Nat → ClassId) (qfo qro qra qvc qos qli : Nat → Nat) (fo ro ra vc os li : Mem) (p1 : Int32) (r : Int32) (hp : Fi_isSeated fo p1 = some r) : RO l yX2_isSeated cX2_isSeated 2 (some .boolean) 0 D cy [.ref (qfo 0), .int p1] (w_Fi cy qfo qro qra qvc qos qli fo ro ra vc os li) r := by
  refine RO_of RX2 rfl (by decide) (Nat.le_of_ble_eq_true rfl) ?_
  intro p e s m below meth c C0 hK hP ls hl
  obtain ⟨hx, hb, hr, hml, hown, hts, hk⟩ := id C0
  unfold Fi_isSeated at hp
  have hl : lv_has ls 2 [(0, .ref (qfo 0)), (1, .int p1)] := hl
  refine lv_iload_n hx hb dX2_isSeated_0 rfl (lv_at hl 1 rfl) ?_
  refine lv_if_lt (tgt := 24) hx hb dX2_isSeated_1 (by decide) (fun c_1 => ?_) (fun c_1 => ?_)
  · have hp := ite_p hp c_1
    refine lv_iconst (v := 0) hx hb dX2_isSeated_24 (by decide) ?_
    exact e_ROz hx hb hr hk (Or.inl rfl) dX2_isSeated_25 (Option.some.inj hp)
  · have hp := ite_n hp c_1
    refine lv_iload_n hx hb dX2_isSeated_4 rfl (lv_at hl 1 rfl) ?_
    refine lv_bipush (v := 20) hx hb dX2_isSeated_5 (by decide) ?_
    refine lv_icmp_ge (tgt := 24) hx hb dX2_isSeated_7 (by decide) (fun c_2 => ?_) (fun c_2 => ?_)
    · have hp := ite_p hp c_2
      refine lv_iconst (v := 0) hx hb dX2_isSeated_24 (by decide) ?_
      exact e_ROz hx hb hr hk (Or.inl rfl) dX2_isSeated_25 (Option.some.inj hp)
    · have hp := ite_n hp c_2
      refine lv_aload_n hx hb dX2_isSeated_10 rfl (lv_at hl 0 rfl) ?_
      refine gf_X2_46 hx hb hts hown hK hP 0 rfl rfl dX2_isSeated_11 ?_
      refine lv_iload_n hx hb dX2_isSeated_14 rfl (lv_at hl 1 rfl) ?_
      obtain ⟨hi_3, hp⟩ := ckI_s hp
      refine r_ild hx hb hK hP 1 rfl hi_3 dX2_isSeated_15 ?_
      refine lv_iconst (v := (-1)) hx hb dX2_isSeated_16 (by decide) ?_
      refine lv_icmp_eq (tgt := 24) hx hb dX2_isSeated_17 (by decide) (fun c_4 => ?_) (fun c_4 => ?_)
      · have hp := ite_p hp c_4
        refine lv_iconst (v := 0) hx hb dX2_isSeated_24 (by decide) ?_
        exact e_ROz hx hb hr hk (Or.inl rfl) dX2_isSeated_25 (Option.some.inj hp)
      · have hp := ite_n hp c_4
        refine lv_iconst (v := 1) hx hb dX2_isSeated_20 (by decide) ?_
        refine lv_goto (tgt := 25) hx hb dX2_isSeated_21 (by decide) ?_
        exact e_ROz hx hb hr hk (Or.inr rfl) dX2_isSeated_25 (Option.some.inj hp)
/-! StormSlots$Field.isCancelled(I)Z -/
def Fi_isCancelled (fo : Mem) (ro : Mem) (p1 : Int32) : Option (Int32) :=
  bn1 (Fi_isFlight ro p1) (fun r_2 => if r_2 = 0 then some 0 else if ((fo 8 0) &&& ((1 : Int32) <<< (p1 &&& 31))) = 0 then some 0 else some 1)
set_option maxHeartbeats 4000000 in
set_option maxRecDepth 100000 in
theorem c_X2_isCancelled (l : Launch) (D : va_G) (cy : Nat → ClassId) (qfo qro qra qvc qos qli : Nat → Nat) (fo ro ra vc os li : Mem) (p1 : Int32) (r : Int32) (hp : Fi_isCancelled fo ro p1 = some r) : RO l yX2_isCancelled cX2_isCancelled 2 (some .boolean) 1 D cy [.ref (qfo 0), .int p1] (w_Fi cy qfo qro qra qvc qos qli fo ro ra vc os li) r := by
  refine RO_of RX2 rfl (by decide) (Nat.le_of_ble_eq_true rfl) ?_
  intro p e s m below meth c C0 hK hP ls hl
  obtain ⟨hx, hb, hr, hml, hown, hts, hk⟩ := id C0
  unfold Fi_isCancelled at hp
  have hl : lv_has ls 2 [(0, .ref (qfo 0)), (1, .int p1)] := hl
  refine lv_aload_n hx hb dX2_isCancelled_0 rfl (lv_at hl 0 rfl) ?_
  refine lv_iload_n hx hb dX2_isCancelled_1 rfl (lv_at hl 1 rfl) ?_
  obtain ⟨r_2, hc_1, hp⟩ := bn1_s hp
  refine k_ROV (As := [.int p1]) (rest := []) ⟨hx, hb, hml, hown, hts⟩ hK hP (cw_X2_107 hts ⟨Nat.le_of_ble_eq_true rfl, Nat.le_of_ble_eq_true rfl⟩) 0 (ci := 2) rfl rfl rfl (c_X2_isFlight l D cy qfo qro qra qvc qos qli fo ro ra vc os li p1 r_2 hc_1) rfl hl.1 (Nat.le_of_ble_eq_true rfl) ⟨Nat.le_refl _, Nat.le_refl _⟩ dX2_isCancelled_2 ?_
  refine lv_if_eq (tgt := 23) hx hb dX2_isCancelled_5 (by decide) (fun c_3 => ?_) (fun c_3 => ?_)
  · have hp := ite_p hp c_3
    refine lv_iconst (v := 0) hx hb dX2_isCancelled_23 (by decide) ?_
    exact e_ROz hx hb hr hk (Or.inl rfl) dX2_isCancelled_24 (Option.some.inj hp)
  · have hp := ite_n hp c_3
    refine lv_aload_n hx hb dX2_isCancelled_8 rfl (lv_at hl 0 rfl) ?_
    refine gf_X2_78 hx hb hts hown hK hP 0 rfl rfl dX2_isCancelled_9 ?_
    refine lv_iconst (v := 1) hx hb dX2_isCancelled_12 (by decide) ?_
    refine lv_iload_n hx hb dX2_isCancelled_13 rfl (lv_at hl 1 rfl) ?_
    refine lv_ishl hx hb dX2_isCancelled_14 ?_
    refine lv_iand hx hb dX2_isCancelled_15 ?_
    refine lv_if_eq (tgt := 23) hx hb dX2_isCancelled_16 (by decide) (fun c_4 => ?_) (fun c_4 => ?_)
    · have hp := ite_p hp c_4
      refine lv_iconst (v := 0) hx hb dX2_isCancelled_23 (by decide) ?_
      exact e_ROz hx hb hr hk (Or.inl rfl) dX2_isCancelled_24 (Option.some.inj hp)
    · have hp := ite_n hp c_4
      refine lv_iconst (v := 1) hx hb dX2_isCancelled_19 (by decide) ?_
      refine lv_goto (tgt := 24) hx hb dX2_isCancelled_20 (by decide) ?_
      exact e_ROz hx hb hr hk (Or.inr rfl) dX2_isCancelled_24 (Option.some.inj hp)
/-! StormSlots$Field.isAloft(I)Z -/
def Fi_isAloft (fo : Mem) (ro : Mem) (p1 : Int32) : Option (Int32) :=
  bn1 (Fi_isSeated fo p1) (fun r_2 => if r_2 = 0 then some 0 else bn1 (Fi_goesOff fo ro p1) (fun r_5 => if (fo 9 0) < r_5 then some 0 else some 1))
set_option maxHeartbeats 4000000 in
set_option maxRecDepth 100000 in
theorem c_X2_isAloft (l : Launch) (D : va_G) (cy : Nat → ClassId) (qfo qro qra qvc qos qli : Nat → Nat) (fo ro ra vc os li : Mem) (p1 : Int32) (r : Int32) (hp : Fi_isAloft fo ro p1 = some r) : RO l yX2_isAloft cX2_isAloft 2 (some .boolean) 1 D cy [.ref (qfo 0), .int p1] (w_Fi cy qfo qro qra qvc qos qli fo ro ra vc os li) r := by
  refine RO_of RX2 rfl (by decide) (Nat.le_of_ble_eq_true rfl) ?_
  intro p e s m below meth c C0 hK hP ls hl
  obtain ⟨hx, hb, hr, hml, hown, hts, hk⟩ := id C0
  unfold Fi_isAloft at hp
  have hl : lv_has ls 2 [(0, .ref (qfo 0)), (1, .int p1)] := hl
  refine lv_aload_n hx hb dX2_isAloft_0 rfl (lv_at hl 0 rfl) ?_
  refine lv_iload_n hx hb dX2_isAloft_1 rfl (lv_at hl 1 rfl) ?_
  obtain ⟨r_2, hc_1, hp⟩ := bn1_s hp
  refine k_ROV (As := [.int p1]) (rest := []) ⟨hx, hb, hml, hown, hts⟩ hK hP (cw_X2_126 hts ⟨Nat.le_of_ble_eq_true rfl, Nat.le_of_ble_eq_true rfl⟩) 0 (ci := 2) rfl rfl rfl (c_X2_isSeated l D cy qfo qro qra qvc qos qli fo ro ra vc os li p1 r_2 hc_1) rfl hl.1 (Nat.le_of_ble_eq_true rfl) ⟨Nat.le_refl _, Nat.le_refl _⟩ dX2_isAloft_2 ?_
  refine lv_if_eq (tgt := 24) hx hb dX2_isAloft_5 (by decide) (fun c_3 => ?_) (fun c_3 => ?_)
  · have hp := ite_p hp c_3
    refine lv_iconst (v := 0) hx hb dX2_isAloft_24 (by decide) ?_
    exact e_ROz hx hb hr hk (Or.inl rfl) dX2_isAloft_25 (Option.some.inj hp)
  · have hp := ite_n hp c_3
    refine lv_aload_n hx hb dX2_isAloft_8 rfl (lv_at hl 0 rfl) ?_
    refine lv_iload_n hx hb dX2_isAloft_9 rfl (lv_at hl 1 rfl) ?_
    obtain ⟨r_5, hc_4, hp⟩ := bn1_s hp
    refine k_ROV (As := [.int p1]) (rest := []) ⟨hx, hb, hml, hown, hts⟩ hK hP (cw_X2_129 hts ⟨Nat.le_of_ble_eq_true rfl, Nat.le_of_ble_eq_true rfl⟩) 0 (ci := 2) rfl rfl rfl (c_X2_goesOff l D cy qfo qro qra qvc qos qli fo ro ra vc os li p1 r_5 hc_4) rfl hl.1 (Nat.le_of_ble_eq_true rfl) ⟨Nat.le_refl _, Nat.le_refl _⟩ dX2_isAloft_10 ?_
    refine lv_aload_n hx hb dX2_isAloft_13 rfl (lv_at hl 0 rfl) ?_
    refine gf_X2_82 hx hb hts hown hK hP 0 rfl rfl dX2_isAloft_14 ?_
    refine lv_icmp_gt (tgt := 24) hx hb dX2_isAloft_17 (by decide) (fun c_6 => ?_) (fun c_6 => ?_)
    · have hp := ite_p hp c_6
      refine lv_iconst (v := 0) hx hb dX2_isAloft_24 (by decide) ?_
      exact e_ROz hx hb hr hk (Or.inl rfl) dX2_isAloft_25 (Option.some.inj hp)
    · have hp := ite_n hp c_6
      refine lv_iconst (v := 1) hx hb dX2_isAloft_20 (by decide) ?_
      refine lv_goto (tgt := 25) hx hb dX2_isAloft_21 (by decide) ?_
      exact e_ROz hx hb hr hk (Or.inr rfl) dX2_isAloft_25 (Option.some.inj hp)
/-! StormSlots$Field.isGrounded(I)Z -/
def Fi_isGrounded (fo : Mem) (ro : Mem) (p1 : Int32) : Option (Int32) :=
  bn1 (Fi_isSeated fo p1) (fun r_2 => if r_2 = 0 then some 0 else bn1 (Fi_goesOff fo ro p1) (fun r_5 => if r_5 ≤ (fo 9 0) then some 0 else some 1))
set_option maxHeartbeats 4000000 in
set_option maxRecDepth 100000 in
theorem c_X2_isGrounded (l : Launch) (D : va_G) (cy : Nat → ClassId) (qfo qro qra qvc qos qli : Nat → Nat) (fo ro ra vc os li : Mem) (p1 : Int32) (r : Int32) (hp : Fi_isGrounded fo ro p1 = some r) : RO l yX2_isGrounded cX2_isGrounded 2 (some .boolean) 1 D cy [.ref (qfo 0), .int p1] (w_Fi cy qfo qro qra qvc qos qli fo ro ra vc os li) r := by
  refine RO_of RX2 rfl (by decide) (Nat.le_of_ble_eq_true rfl) ?_
  intro p e s m below meth c C0 hK hP ls hl
  obtain ⟨hx, hb, hr, hml, hown, hts, hk⟩ := id C0
  unfold Fi_isGrounded at hp
  have hl : lv_has ls 2 [(0, .ref (qfo 0)), (1, .int p1)] := hl
  refine lv_aload_n hx hb dX2_isGrounded_0 rfl (lv_at hl 0 rfl) ?_
  refine lv_iload_n hx hb dX2_isGrounded_1 rfl (lv_at hl 1 rfl) ?_
  obtain ⟨r_2, hc_1, hp⟩ := bn1_s hp
  refine k_ROV (As := [.int p1]) (rest := []) ⟨hx, hb, hml, hown, hts⟩ hK hP (cw_X2_126 hts ⟨Nat.le_of_ble_eq_true rfl, Nat.le_of_ble_eq_true rfl⟩) 0 (ci := 2) rfl rfl rfl (c_X2_isSeated l D cy qfo qro qra qvc qos qli fo ro ra vc os li p1 r_2 hc_1) rfl hl.1 (Nat.le_of_ble_eq_true rfl) ⟨Nat.le_refl _, Nat.le_refl _⟩ dX2_isGrounded_2 ?_
  refine lv_if_eq (tgt := 24) hx hb dX2_isGrounded_5 (by decide) (fun c_3 => ?_) (fun c_3 => ?_)
  · have hp := ite_p hp c_3
    refine lv_iconst (v := 0) hx hb dX2_isGrounded_24 (by decide) ?_
    exact e_ROz hx hb hr hk (Or.inl rfl) dX2_isGrounded_25 (Option.some.inj hp)
  · have hp := ite_n hp c_3
    refine lv_aload_n hx hb dX2_isGrounded_8 rfl (lv_at hl 0 rfl) ?_
    refine lv_iload_n hx hb dX2_isGrounded_9 rfl (lv_at hl 1 rfl) ?_
    obtain ⟨r_5, hc_4, hp⟩ := bn1_s hp
    refine k_ROV (As := [.int p1]) (rest := []) ⟨hx, hb, hml, hown, hts⟩ hK hP (cw_X2_129 hts ⟨Nat.le_of_ble_eq_true rfl, Nat.le_of_ble_eq_true rfl⟩) 0 (ci := 2) rfl rfl rfl (c_X2_goesOff l D cy qfo qro qra qvc qos qli fo ro ra vc os li p1 r_5 hc_4) rfl hl.1 (Nat.le_of_ble_eq_true rfl) ⟨Nat.le_refl _, Nat.le_refl _⟩ dX2_isGrounded_10 ?_
    refine lv_aload_n hx hb dX2_isGrounded_13 rfl (lv_at hl 0 rfl) ?_
    refine gf_X2_82 hx hb hts hown hK hP 0 rfl rfl dX2_isGrounded_14 ?_
    refine lv_icmp_le (tgt := 24) hx hb dX2_isGrounded_17 (by decide) (fun c_6 => ?_) (fun c_6 => ?_)
    · have hp := ite_p hp c_6
      refine lv_iconst (v := 0) hx hb dX2_isGrounded_24 (by decide) ?_
      exact e_ROz hx hb hr hk (Or.inl rfl) dX2_isGrounded_25 (Option.some.inj hp)
    · have hp := ite_n hp c_6
      refine lv_iconst (v := 1) hx hb dX2_isGrounded_20 (by decide) ?_
      refine lv_goto (tgt := 25) hx hb dX2_isGrounded_21 (by decide) ?_
      exact e_ROz hx hb hr hk (Or.inr rfl) dX2_isGrounded_25 (Option.some.inj hp)
/-! StormSlots$Field.waitOf(I)I -/
def Fi_waitOf (fo : Mem) (p1 : Int32) : Option (Int32) :=
  ckI p1 20 (some ((fo 6 p1.toNatClampNeg) + (fo 7 p1.toNatClampNeg)))
set_option maxHeartbeats 4000000 in
set_option maxRecDepth 100000 in
theorem c_X2_waitOf (l : Launch) (D : va_G) (cy : Nat → ClassId) (qfo qro qra qvc qos qli : Nat → Nat) (fo ro ra vc os li : Mem) (p1 : Int32) (r : Int32) (hp : Fi_waitOf fo p1 = some r) : RO l yX2_waitOf cX2_waitOf 2 (some .int) 0 D cy [.ref (qfo 0), .int p1] (w_Fi cy qfo qro qra qvc qos qli fo ro ra vc os li) r := by
  refine RO_of RX2 rfl (by decide) (Nat.le_of_ble_eq_true rfl) ?_
  intro p e s m below meth c C0 hK hP ls hl
  obtain ⟨hx, hb, hr, hml, hown, hts, hk⟩ := id C0
  unfold Fi_waitOf at hp
  have hl : lv_has ls 2 [(0, .ref (qfo 0)), (1, .int p1)] := hl
  refine lv_aload_n hx hb dX2_waitOf_0 rfl (lv_at hl 0 rfl) ?_
  refine gf_X2_50 hx hb hts hown hK hP 0 rfl rfl dX2_waitOf_1 ?_
  refine lv_iload_n hx hb dX2_waitOf_4 rfl (lv_at hl 1 rfl) ?_
  obtain ⟨hi_1, hp⟩ := ckI_s hp
  refine r_ild hx hb hK hP 2 rfl hi_1 dX2_waitOf_5 ?_
  refine lv_aload_n hx hb dX2_waitOf_6 rfl (lv_at hl 0 rfl) ?_
  refine gf_X2_53 hx hb hts hown hK hP 0 rfl rfl dX2_waitOf_7 ?_
  refine lv_iload_n hx hb dX2_waitOf_10 rfl (lv_at hl 1 rfl) ?_
  refine r_ild hx hb hK hP 3 rfl hi_1 dX2_waitOf_11 ?_
  refine lv_iadd hx hb dX2_waitOf_12 ?_
  exact e_ROi hx hb hr hk dX2_waitOf_13 (Option.some.inj hp)
/-! StormSlots$Field.costOf(I)I -/
def Fi_costOf (fo : Mem) (ro : Mem) (p1 : Int32) : Option (Int32) :=
  ckI p1 20 (some ((ro 3 p1.toNatClampNeg) * ((fo 6 p1.toNatClampNeg) + (3 * (fo 7 p1.toNatClampNeg)))))
set_option maxHeartbeats 4000000 in
set_option maxRecDepth 100000 in
theorem c_X2_costOf (l : Launch) (D : va_G) (cy : Nat → ClassId) (qfo qro qra qvc qos qli : Nat → Nat) (fo ro ra vc os li : Mem) (p1 : Int32) (r : Int32) (hp : Fi_costOf fo ro p1 = some r) : RO l yX2_costOf cX2_costOf 2 (some .int) 0 D cy [.ref (qfo 0), .int p1] (w_Fi cy qfo qro qra qvc qos qli fo ro ra vc os li) r := by
  refine RO_of RX2 rfl (by decide) (Nat.le_of_ble_eq_true rfl) ?_
  intro p e s m below meth c C0 hK hP ls hl
  obtain ⟨hx, hb, hr, hml, hown, hts, hk⟩ := id C0
  unfold Fi_costOf at hp
  have hl : lv_has ls 2 [(0, .ref (qfo 0)), (1, .int p1)] := hl
  refine lv_aload_n hx hb dX2_costOf_0 rfl (lv_at hl 0 rfl) ?_
  refine gf_X2_12 hx hb hts hown hK hP 0 rfl rfl dX2_costOf_1 ?_
  refine gf_X2_133 hx hb hts hown hK hP 4 rfl rfl dX2_costOf_4 ?_
  refine lv_iload_n hx hb dX2_costOf_7 rfl (lv_at hl 1 rfl) ?_
  obtain ⟨hi_1, hp⟩ := ckI_s hp
  refine r_ild hx hb hK hP 8 rfl hi_1 dX2_costOf_8 ?_
  refine lv_aload_n hx hb dX2_costOf_9 rfl (lv_at hl 0 rfl) ?_
  refine gf_X2_50 hx hb hts hown hK hP 0 rfl rfl dX2_costOf_10 ?_
  refine lv_iload_n hx hb dX2_costOf_13 rfl (lv_at hl 1 rfl) ?_
  refine r_ild hx hb hK hP 2 rfl hi_1 dX2_costOf_14 ?_
  refine lv_iconst (v := 3) hx hb dX2_costOf_15 (by decide) ?_
  refine lv_aload_n hx hb dX2_costOf_16 rfl (lv_at hl 0 rfl) ?_
  refine gf_X2_53 hx hb hts hown hK hP 0 rfl rfl dX2_costOf_17 ?_
  refine lv_iload_n hx hb dX2_costOf_20 rfl (lv_at hl 1 rfl) ?_
  refine r_ild hx hb hK hP 3 rfl hi_1 dX2_costOf_21 ?_
  refine lv_imul hx hb dX2_costOf_22 ?_
  refine lv_iadd hx hb dX2_costOf_23 ?_
  refine lv_imul hx hb dX2_costOf_24 ?_
  exact e_ROi hx hb hr hk dX2_costOf_25 (Option.some.inj hp)
/-! StormSlots$Field.costOnGround(II)I -/
def Fi_costOnGround (ro : Mem) (p1 : Int32) (p2 : Int32) : Option (Int32) :=
  ckI p1 20 (some ((ro 3 p1.toNatClampNeg) * (p2 - (ro 1 p1.toNatClampNeg))))
set_option maxHeartbeats 4000000 in
set_option maxRecDepth 100000 in
theorem c_X2_costOnGround (l : Launch) (D : va_G) (cy : Nat → ClassId) (qfo qro qra qvc qos qli : Nat → Nat) (fo ro ra vc os li : Mem) (p1 p2 : Int32) (r : Int32) (hp : Fi_costOnGround ro p1 p2 = some r) : RO l yX2_costOnGround cX2_costOnGround 3 (some .int) 0 D cy [.ref (qfo 0), .int p1, .int p2] (w_Fi cy qfo qro qra qvc qos qli fo ro ra vc os li) r := by
  refine RO_of RX2 rfl (by decide) (Nat.le_of_ble_eq_true rfl) ?_
  intro p e s m below meth c C0 hK hP ls hl
  obtain ⟨hx, hb, hr, hml, hown, hts, hk⟩ := id C0
  unfold Fi_costOnGround at hp
  have hl : lv_has ls 3 [(0, .ref (qfo 0)), (1, .int p1), (2, .int p2)] := hl
  refine lv_aload_n hx hb dX2_costOnGround_0 rfl (lv_at hl 0 rfl) ?_
  refine gf_X2_12 hx hb hts hown hK hP 0 rfl rfl dX2_costOnGround_1 ?_
  refine gf_X2_133 hx hb hts hown hK hP 4 rfl rfl dX2_costOnGround_4 ?_
  refine lv_iload_n hx hb dX2_costOnGround_7 rfl (lv_at hl 1 rfl) ?_
  obtain ⟨hi_1, hp⟩ := ckI_s hp
  refine r_ild hx hb hK hP 8 rfl hi_1 dX2_costOnGround_8 ?_
  refine lv_iload_n hx hb dX2_costOnGround_9 rfl (lv_at hl 2 rfl) ?_
  refine lv_aload_n hx hb dX2_costOnGround_10 rfl (lv_at hl 0 rfl) ?_
  refine gf_X2_12 hx hb hts hown hK hP 0 rfl rfl dX2_costOnGround_11 ?_
  refine gf_X2_114 hx hb hts hown hK hP 4 rfl rfl dX2_costOnGround_14 ?_
  refine lv_iload_n hx hb dX2_costOnGround_17 rfl (lv_at hl 1 rfl) ?_
  refine r_ild hx hb hK hP 6 rfl hi_1 dX2_costOnGround_18 ?_
  refine lv_isub hx hb dX2_costOnGround_19 ?_
  refine lv_imul hx hb dX2_costOnGround_20 ?_
  exact e_ROi hx hb hr hk dX2_costOnGround_21 (Option.some.inj hp)
/-! StormSlots$Field.seatOnGround(II)V -/
def Fi_seatOnGround (fo : Mem) (ro : Mem) (p1 : Int32) (p2 : Int32) : Option (Mem) :=
  bn1 (Fi_isFlight ro p1) (fun r_2 => if r_2 = 0 then some fo else if p2 = (-1) then some fo else ckI p1 20 (stk (upm fo 5 p1.toNatClampNeg p2) (fun fo_6 => stk (upm fo_6 6 p1.toNatClampNeg (p2 - (ro 1 p1.toNatClampNeg))) (fun fo_7 => stk (upm fo_7 7 p1.toNatClampNeg 0) (fun fo_8 => some fo_8)))))
set_option maxHeartbeats 4000000 in
set_option maxRecDepth 100000 in
theorem c_X2_seatOnGround (l : Launch) (D : va_G) (cy : Nat → ClassId) (qfo qro qra qvc qos qli : Nat → Nat) (fo ro ra vc os li : Mem) (p1 p2 : Int32) (fo' : Mem) (hp : Fi_seatOnGround fo ro p1 p2 = some fo') : RV l yX2_seatOnGround cX2_seatOnGround 3 1 D cy [.ref (qfo 0), .int p1, .int p2] (w_Fi cy qfo qro qra qvc qos qli fo ro ra vc os li) (w_Fi cy qfo qro qra qvc qos qli fo' ro ra vc os li) := by
  refine RV_of RX2 rfl (by decide) (Nat.le_of_ble_eq_true rfl) ?_
  intro p e s m below meth c A C0 hK hP hD hS hA ls hl
  obtain ⟨hx, hb, hr, hml, hown, hts, hk⟩ := id C0
  unfold Fi_seatOnGround at hp
  have hl : lv_has ls 3 [(0, .ref (qfo 0)), (1, .int p1), (2, .int p2)] := hl
  refine lv_aload_n hx hb dX2_seatOnGround_0 rfl (lv_at hl 0 rfl) ?_
  refine lv_iload_n hx hb dX2_seatOnGround_1 rfl (lv_at hl 1 rfl) ?_
  obtain ⟨r_2, hc_1, hp⟩ := bn1_s hp
  refine k_ROV (As := [.int p1]) (rest := []) ⟨hx, hb, hml, hown, hts⟩ hK hP (cw_X2_107 hts ⟨Nat.le_of_ble_eq_true rfl, Nat.le_of_ble_eq_true rfl⟩) 0 (ci := 2) rfl rfl rfl (c_X2_isFlight l D cy qfo qro qra qvc qos qli fo ro ra vc os li p1 r_2 hc_1) rfl hl.1 (Nat.le_of_ble_eq_true rfl) ⟨Nat.le_refl _, Nat.le_refl _⟩ dX2_seatOnGround_2 ?_
  refine lv_if_eq (tgt := 44) hx hb dX2_seatOnGround_5 (by decide) (fun c_3 => ?_) (fun c_3 => ?_)
  · have hp := ite_p hp c_3
    simp only [Option.some.injEq, Prod.mk.injEq] at hp
    subst hp
    exact e_RV hx hb hr hk hP hD hS dX2_seatOnGround_44
  · have hp := ite_n hp c_3
    refine lv_iload_n hx hb dX2_seatOnGround_8 rfl (lv_at hl 2 rfl) ?_
    refine lv_iconst (v := (-1)) hx hb dX2_seatOnGround_9 (by decide) ?_
    refine lv_icmp_eq (tgt := 44) hx hb dX2_seatOnGround_10 (by decide) (fun c_4 => ?_) (fun c_4 => ?_)
    · have hp := ite_p hp c_4
      simp only [Option.some.injEq, Prod.mk.injEq] at hp
      subst hp
      exact e_RV hx hb hr hk hP hD hS dX2_seatOnGround_44
    · have hp := ite_n hp c_4
      refine lv_aload_n hx hb dX2_seatOnGround_13 rfl (lv_at hl 0 rfl) ?_
      refine gf_X2_46 hx hb hts hown hK hP 0 rfl rfl dX2_seatOnGround_14 ?_
      refine lv_iload_n hx hb dX2_seatOnGround_17 rfl (lv_at hl 1 rfl) ?_
      refine lv_iload_n hx hb dX2_seatOnGround_18 rfl (lv_at hl 2 rfl) ?_
      obtain ⟨hi_5, hp⟩ := ckI_s hp
      obtain ⟨fo_6, efo_6⟩ : ∃ y : Mem, y = upm fo 5 p1.toNatClampNeg p2 := ⟨_, rfl⟩
      have hp := stk_e hp efo_6
      refine r_ist hx hb hK hP hD hS (wn := (w_Fi cy qfo qro qra qvc qos qli fo_6 ro ra vc os li)) 1 rfl hi_5 (by subst efo_6; rfl) dX2_seatOnGround_19 (fun H locs hP hD hS => ?_)
      refine lv_aload_n hx hb dX2_seatOnGround_20 rfl (lv_at hl 0 rfl) ?_
      refine gf_X2_50 hx hb hts hown hK hP 0 rfl rfl dX2_seatOnGround_21 ?_
      refine lv_iload_n hx hb dX2_seatOnGround_24 rfl (lv_at hl 1 rfl) ?_
      refine lv_iload_n hx hb dX2_seatOnGround_25 rfl (lv_at hl 2 rfl) ?_
      refine lv_aload_n hx hb dX2_seatOnGround_26 rfl (lv_at hl 0 rfl) ?_
      refine gf_X2_12 hx hb hts hown hK hP 0 rfl rfl dX2_seatOnGround_27 ?_
      refine gf_X2_114 hx hb hts hown hK hP 4 rfl rfl dX2_seatOnGround_30 ?_
      refine lv_iload_n hx hb dX2_seatOnGround_33 rfl (lv_at hl 1 rfl) ?_
      refine r_ild hx hb hK hP 6 rfl hi_5 dX2_seatOnGround_34 ?_
      refine lv_isub hx hb dX2_seatOnGround_35 ?_
      obtain ⟨fo_7, efo_7⟩ : ∃ y : Mem, y = upm fo_6 6 p1.toNatClampNeg (p2 - (ro 1 p1.toNatClampNeg)) := ⟨_, rfl⟩
      have hp := stk_e hp efo_7
      refine r_ist hx hb hK hP hD hS (wn := (w_Fi cy qfo qro qra qvc qos qli fo_7 ro ra vc os li)) 2 rfl hi_5 (by subst efo_7; rfl) dX2_seatOnGround_36 (fun H locs hP hD hS => ?_)
      refine lv_aload_n hx hb dX2_seatOnGround_37 rfl (lv_at hl 0 rfl) ?_
      refine gf_X2_53 hx hb hts hown hK hP 0 rfl rfl dX2_seatOnGround_38 ?_
      refine lv_iload_n hx hb dX2_seatOnGround_41 rfl (lv_at hl 1 rfl) ?_
      refine lv_iconst (v := 0) hx hb dX2_seatOnGround_42 (by decide) ?_
      obtain ⟨fo_8, efo_8⟩ : ∃ y : Mem, y = upm fo_7 7 p1.toNatClampNeg 0 := ⟨_, rfl⟩
      have hp := stk_e hp efo_8
      refine r_ist hx hb hK hP hD hS (wn := (w_Fi cy qfo qro qra qvc qos qli fo_8 ro ra vc os li)) 3 rfl hi_5 (by subst efo_8; rfl) dX2_seatOnGround_43 (fun H locs hP hD hS => ?_)
      simp only [Option.some.injEq, Prod.mk.injEq] at hp
      subst hp
      exact e_RV hx hb hr hk hP hD hS dX2_seatOnGround_44
/-! StormSlots$Field.seatInAir(II)V -/
def Fi_seatInAir (fo : Mem) (ro : Mem) (p1 : Int32) (p2 : Int32) : Option (Mem) :=
  bn1 (Fi_isFlight ro p1) (fun r_2 => if r_2 = 0 then some fo else if p2 = (-1) then some fo else ckI p1 20 (stk (upm fo 5 p1.toNatClampNeg p2) (fun fo_6 => stk (upm fo_6 7 p1.toNatClampNeg ((p2 - (ro 1 p1.toNatClampNeg)) - (fo_6 6 p1.toNatClampNeg))) (fun fo_7 => some fo_7))))
set_option maxHeartbeats 4000000 in
set_option maxRecDepth 100000 in
theorem c_X2_seatInAir (l : Launch) (D : va_G) (cy : Nat → ClassId) (qfo qro qra qvc qos qli : Nat → Nat) (fo ro ra vc os li : Mem) (p1 p2 : Int32) (fo' : Mem) (hp : Fi_seatInAir fo ro p1 p2 = some fo') : RV l yX2_seatInAir cX2_seatInAir 3 1 D cy [.ref (qfo 0), .int p1, .int p2] (w_Fi cy qfo qro qra qvc qos qli fo ro ra vc os li) (w_Fi cy qfo qro qra qvc qos qli fo' ro ra vc os li) := by
  refine RV_of RX2 rfl (by decide) (Nat.le_of_ble_eq_true rfl) ?_
  intro p e s m below meth c A C0 hK hP hD hS hA ls hl
  obtain ⟨hx, hb, hr, hml, hown, hts, hk⟩ := id C0
  unfold Fi_seatInAir at hp
  have hl : lv_has ls 3 [(0, .ref (qfo 0)), (1, .int p1), (2, .int p2)] := hl
  refine lv_aload_n hx hb dX2_seatInAir_0 rfl (lv_at hl 0 rfl) ?_
  refine lv_iload_n hx hb dX2_seatInAir_1 rfl (lv_at hl 1 rfl) ?_
  obtain ⟨r_2, hc_1, hp⟩ := bn1_s hp
  refine k_ROV (As := [.int p1]) (rest := []) ⟨hx, hb, hml, hown, hts⟩ hK hP (cw_X2_107 hts ⟨Nat.le_of_ble_eq_true rfl, Nat.le_of_ble_eq_true rfl⟩) 0 (ci := 2) rfl rfl rfl (c_X2_isFlight l D cy qfo qro qra qvc qos qli fo ro ra vc os li p1 r_2 hc_1) rfl hl.1 (Nat.le_of_ble_eq_true rfl) ⟨Nat.le_refl _, Nat.le_refl _⟩ dX2_seatInAir_2 ?_
  refine lv_if_eq (tgt := 44) hx hb dX2_seatInAir_5 (by decide) (fun c_3 => ?_) (fun c_3 => ?_)
  · have hp := ite_p hp c_3
    simp only [Option.some.injEq, Prod.mk.injEq] at hp
    subst hp
    exact e_RV hx hb hr hk hP hD hS dX2_seatInAir_44
  · have hp := ite_n hp c_3
    refine lv_iload_n hx hb dX2_seatInAir_8 rfl (lv_at hl 2 rfl) ?_
    refine lv_iconst (v := (-1)) hx hb dX2_seatInAir_9 (by decide) ?_
    refine lv_icmp_eq (tgt := 44) hx hb dX2_seatInAir_10 (by decide) (fun c_4 => ?_) (fun c_4 => ?_)
    · have hp := ite_p hp c_4
      simp only [Option.some.injEq, Prod.mk.injEq] at hp
      subst hp
      exact e_RV hx hb hr hk hP hD hS dX2_seatInAir_44
    · have hp := ite_n hp c_4
      refine lv_aload_n hx hb dX2_seatInAir_13 rfl (lv_at hl 0 rfl) ?_
      refine gf_X2_46 hx hb hts hown hK hP 0 rfl rfl dX2_seatInAir_14 ?_
      refine lv_iload_n hx hb dX2_seatInAir_17 rfl (lv_at hl 1 rfl) ?_
      refine lv_iload_n hx hb dX2_seatInAir_18 rfl (lv_at hl 2 rfl) ?_
      obtain ⟨hi_5, hp⟩ := ckI_s hp
      obtain ⟨fo_6, efo_6⟩ : ∃ y : Mem, y = upm fo 5 p1.toNatClampNeg p2 := ⟨_, rfl⟩
      have hp := stk_e hp efo_6
      refine r_ist hx hb hK hP hD hS (wn := (w_Fi cy qfo qro qra qvc qos qli fo_6 ro ra vc os li)) 1 rfl hi_5 (by subst efo_6; rfl) dX2_seatInAir_19 (fun H locs hP hD hS => ?_)
      refine lv_aload_n hx hb dX2_seatInAir_20 rfl (lv_at hl 0 rfl) ?_
      refine gf_X2_53 hx hb hts hown hK hP 0 rfl rfl dX2_seatInAir_21 ?_
      refine lv_iload_n hx hb dX2_seatInAir_24 rfl (lv_at hl 1 rfl) ?_
      refine lv_iload_n hx hb dX2_seatInAir_25 rfl (lv_at hl 2 rfl) ?_
      refine lv_aload_n hx hb dX2_seatInAir_26 rfl (lv_at hl 0 rfl) ?_
      refine gf_X2_12 hx hb hts hown hK hP 0 rfl rfl dX2_seatInAir_27 ?_
      refine gf_X2_114 hx hb hts hown hK hP 4 rfl rfl dX2_seatInAir_30 ?_
      refine lv_iload_n hx hb dX2_seatInAir_33 rfl (lv_at hl 1 rfl) ?_
      refine r_ild hx hb hK hP 6 rfl hi_5 dX2_seatInAir_34 ?_
      refine lv_isub hx hb dX2_seatInAir_35 ?_
      refine lv_aload_n hx hb dX2_seatInAir_36 rfl (lv_at hl 0 rfl) ?_
      refine gf_X2_50 hx hb hts hown hK hP 0 rfl rfl dX2_seatInAir_37 ?_
      refine lv_iload_n hx hb dX2_seatInAir_40 rfl (lv_at hl 1 rfl) ?_
      refine r_ild hx hb hK hP 2 rfl hi_5 dX2_seatInAir_41 ?_
      refine lv_isub hx hb dX2_seatInAir_42 ?_
      obtain ⟨fo_7, efo_7⟩ : ∃ y : Mem, y = upm fo_6 7 p1.toNatClampNeg ((p2 - (ro 1 p1.toNatClampNeg)) - (fo_6 6 p1.toNatClampNeg)) := ⟨_, rfl⟩
      have hp := stk_e hp efo_7
      refine r_ist hx hb hK hP hD hS (wn := (w_Fi cy qfo qro qra qvc qos qli fo_7 ro ra vc os li)) 3 rfl hi_5 (by subst efo_7; rfl) dX2_seatInAir_43 (fun H locs hP hD hS => ?_)
      simp only [Option.some.injEq, Prod.mk.injEq] at hp
      subst hp
      exact e_RV hx hb hr hk hP hD hS dX2_seatInAir_44
/-! StormSlots$Field.flightIn(I)I -/
def Fi_flightIn_b2B (fo : Mem) (p1 : Int32) (k2 : Int32 → Option (Int32)) (x2 : Int32) : Option (Int32) :=
  if 20 ≤ x2 then some (-1) else bn1 (Fi_isSeated fo x2) (fun r_3 => if r_3 = 0 then stk (x2 + 1) (fun x2_5 => k2 x2_5) else ckI x2 20 (if (fo 5 x2.toNatClampNeg) = p1 then some x2 else stk (x2 + 1) (fun x2_8 => k2 x2_8)))
def Fi_flightIn_b2 (fo : Mem) (p1 : Int32) : Nat → Int32 → Option (Int32)
  | 0 => fun _ => none
  | n + 1 => Fi_flightIn_b2B fo p1 (Fi_flightIn_b2 fo p1 n)
def Fi_flightIn (fo : Mem) (p1 : Int32) : Option (Int32) :=
  Fi_flightIn_b2 fo p1 fl 0
set_option maxHeartbeats 4000000 in
set_option maxRecDepth 100000 in
theorem Fi_flightIn_b2B_w (C0 : cX RX2 cX2_flightIn (some .int) 3 p s m args meth c) (hK : kN D cy s) {qfo qro qra qvc qos qli : Nat → Nat} {fo ro ra vc os li : Mem} {p1 : Int32} {r : Int32} (hP : va_P D vwCl (w_Fi cy qfo qro qra qvc qos qli fo ro ra vc os li) s.heap) {k2 : Int32 → Option (Int32)} (hk2 : ∀ (x2 : Int32) (ls : Array Slot), lv_has ls 3 [(0, .ref (qfo 0)), (1, .int p1), (2, .int x2)] → k2 x2 = some r → W p l e (rmD 1) s m args below meth c s.heap [] 0 0 (qRO below args s r) (F0 m 2 ls [])) {x2 : Int32} {ls : Array Slot} (hl : lv_has ls 3 [(0, .ref (qfo 0)), (1, .int p1), (2, .int x2)]) (hp : Fi_flightIn_b2B fo p1 k2 x2 = some r) : W p l e (rmD 1) s m args below meth c s.heap [] 0 0 (qRO below args s r) (F0 m 2 ls []) := by
  obtain ⟨hx, hb, hr, hml, hown, hts, hk⟩ := id C0
  unfold Fi_flightIn_b2B at hp
  refine lv_iload_n hx hb dX2_flightIn_2 rfl (lv_at hl 2 rfl) ?_
  refine lv_bipush (v := 20) hx hb dX2_flightIn_3 (by decide) ?_
  refine lv_icmp_ge (tgt := 34) hx hb dX2_flightIn_5 (by decide) (fun c_1 => ?_) (fun c_1 => ?_)
  · have hp := ite_p hp c_1
    refine lv_iconst (v := (-1)) hx hb dX2_flightIn_34 (by decide) ?_
    exact e_ROi hx hb hr hk dX2_flightIn_35 (Option.some.inj hp)
  · have hp := ite_n hp c_1
    refine lv_aload_n hx hb dX2_flightIn_8 rfl (lv_at hl 0 rfl) ?_
    refine lv_iload_n hx hb dX2_flightIn_9 rfl (lv_at hl 2 rfl) ?_
    obtain ⟨r_3, hc_2, hp⟩ := bn1_s hp
    refine k_ROV (As := [.int x2]) (rest := []) ⟨hx, hb, hml, hown, hts⟩ hK hP (cw_X2_126 hts ⟨Nat.le_of_ble_eq_true rfl, Nat.le_of_ble_eq_true rfl⟩) 0 (ci := 2) rfl rfl rfl (c_X2_isSeated l D cy qfo qro qra qvc qos qli fo ro ra vc os li x2 r_3 hc_2) rfl hl.1 (Nat.le_of_ble_eq_true rfl) ⟨Nat.le_refl _, Nat.le_refl _⟩ dX2_flightIn_10 ?_
    refine lv_if_eq (tgt := 28) hx hb dX2_flightIn_13 (by decide) (fun c_4 => ?_) (fun c_4 => ?_)
    · have hp := ite_p hp c_4
      obtain ⟨x2_5, ex2_5⟩ : ∃ y : Int32, y = x2 + 1 := ⟨_, rfl⟩
      have hp := stk_e hp ex2_5
      refine lv_iinc (v := x2_5) (lv' := [(2, .int x2_5), (0, .ref (qfo 0)), (1, .int p1)]) hx hb dX2_flightIn_28 hl (k := 2) rfl (by rw [ex2_5]; rfl) (by decide) rfl (fun ls hl => ?_)
      refine lv_goto (tgt := 2) hx hb dX2_flightIn_31 (by decide) ?_
      exact hk2 x2_5 _ (lv_sub hl [1, 2, 0] rfl) hp
    · have hp := ite_n hp c_4
      refine lv_aload_n hx hb dX2_flightIn_16 rfl (lv_at hl 0 rfl) ?_
      refine gf_X2_46 hx hb hts hown hK hP 0 rfl rfl dX2_flightIn_17 ?_
      refine lv_iload_n hx hb dX2_flightIn_20 rfl (lv_at hl 2 rfl) ?_
      obtain ⟨hi_6, hp⟩ := ckI_s hp
      refine r_ild hx hb hK hP 1 rfl hi_6 dX2_flightIn_21 ?_
      refine lv_iload_n hx hb dX2_flightIn_22 rfl (lv_at hl 1 rfl) ?_
      refine lv_icmp_ne (tgt := 28) hx hb dX2_flightIn_23 (by decide) (fun c_7 => ?_) (fun c_7 => ?_)
      · have hp := ite_n hp c_7
        obtain ⟨x2_8, ex2_8⟩ : ∃ y : Int32, y = x2 + 1 := ⟨_, rfl⟩
        have hp := stk_e hp ex2_8
        refine lv_iinc (v := x2_8) (lv' := [(2, .int x2_8), (0, .ref (qfo 0)), (1, .int p1)]) hx hb dX2_flightIn_28 hl (k := 2) rfl (by rw [ex2_8]; rfl) (by decide) rfl (fun ls hl => ?_)
        refine lv_goto (tgt := 2) hx hb dX2_flightIn_31 (by decide) ?_
        exact hk2 x2_8 _ (lv_sub hl [1, 2, 0] rfl) hp
      · have hp := ite_p hp c_7
        refine lv_iload_n hx hb dX2_flightIn_26 rfl (lv_at hl 2 rfl) ?_
        exact e_ROi hx hb hr hk dX2_flightIn_27 (Option.some.inj hp)
theorem Fi_flightIn_b2_w (C0 : cX RX2 cX2_flightIn (some .int) 3 p s m args meth c) (hK : kN D cy s) {qfo qro qra qvc qos qli : Nat → Nat} {fo ro ra vc os li : Mem} {p1 : Int32} {r : Int32} (hP : va_P D vwCl (w_Fi cy qfo qro qra qvc qos qli fo ro ra vc os li) s.heap) : ∀ (n : Nat) (x2 : Int32) (ls : Array Slot), lv_has ls 3 [(0, .ref (qfo 0)), (1, .int p1), (2, .int x2)] → Fi_flightIn_b2 fo p1 n x2 = some r → W p l e (rmD 1) s m args below meth c s.heap [] 0 0 (qRO below args s r) (F0 m 2 ls []) := by
  intro n
  induction n with
  | zero =>
    intro x2 ls hl hp
    cases hp
  | succ n ih =>
    intro x2 ls hl hp
    exact Fi_flightIn_b2B_w C0 hK hP  (fun x2 ls hl hp => ih x2 ls hl hp) hl hp
set_option maxHeartbeats 4000000 in
set_option maxRecDepth 100000 in
theorem c_X2_flightIn (l : Launch) (D : va_G) (cy : Nat → ClassId) (qfo qro qra qvc qos qli : Nat → Nat) (fo ro ra vc os li : Mem) (p1 : Int32) (r : Int32) (hp : Fi_flightIn fo p1 = some r) : RO l yX2_flightIn cX2_flightIn 3 (some .int) 1 D cy [.ref (qfo 0), .int p1] (w_Fi cy qfo qro qra qvc qos qli fo ro ra vc os li) r := by
  refine RO_of RX2 rfl (by decide) (Nat.le_of_ble_eq_true rfl) ?_
  intro p e s m below meth c C0 hK hP ls hl
  obtain ⟨hx, hb, hr, hml, hown, hts, hk⟩ := id C0
  unfold Fi_flightIn at hp
  have hl : lv_has ls 3 [(0, .ref (qfo 0)), (1, .int p1)] := hl
  refine lv_iconst (v := 0) hx hb dX2_flightIn_0 (by decide) ?_
  refine lv_istore_n (lv' := [(2, .int 0), (0, .ref (qfo 0)), (1, .int p1)]) hx hb dX2_flightIn_1 rfl hl (by decide) rfl (fun ls hl => ?_)
  exact Fi_flightIn_b2_w C0 hK hP  fl 0 _ (lv_sub hl [1, 2, 0] rfl) hp
/-! StormSlots$Field.callOff(I)I -/
def Fi_callOff (fo : Mem) (ro : Mem) (vc : Mem) (p1 : Int32) : Option (Int32 × Mem × Mem) :=
  bn1 (Fi_isGrounded fo ro p1) (fun r_2 => if r_2 = 0 then some ((-2), fo, vc) else ckI p1 20 (stk (fo 5 p1.toNatClampNeg) (fun x2_5 => bn1 (Va_add vc x2_5 (ro 0 p1.toNatClampNeg)) (fun vc_7 => bn1 (Fi_clearFlight fo p1) (fun fo_9 => stk (upm fo_9 8 0 ((fo_9 8 0) ||| ((1 : Int32) <<< (p1 &&& 31)))) (fun fo_10 => some (x2_5, fo_10, vc_7)))))))
set_option maxHeartbeats 4000000 in
set_option maxRecDepth 100000 in
theorem c_X2_callOff (l : Launch) (D : va_G) (cy : Nat → ClassId) (qfo qro qra qvc qos qli : Nat → Nat) (fo ro ra vc os li : Mem) (p1 : Int32) (r : Int32) (fo' vc' : Mem) (hp : Fi_callOff fo ro vc p1 = some (r, fo', vc')) : RI l yX2_callOff cX2_callOff 3 (some .int) 2 D cy [.ref (qfo 0), .int p1] (w_Fi cy qfo qro qra qvc qos qli fo ro ra vc os li) (w_Fi cy qfo qro qra qvc qos qli fo' ro ra vc' os li) r := by
  refine RI_of RX2 rfl (by decide) (Nat.le_of_ble_eq_true rfl) ?_
  intro p e s m below meth c A C0 hK hP hD hS hA ls hl
  obtain ⟨hx, hb, hr, hml, hown, hts, hk⟩ := id C0
  unfold Fi_callOff at hp
  have hl : lv_has ls 3 [(0, .ref (qfo 0)), (1, .int p1)] := hl
  refine lv_aload_n hx hb dX2_callOff_0 rfl (lv_at hl 0 rfl) ?_
  refine lv_iload_n hx hb dX2_callOff_1 rfl (lv_at hl 1 rfl) ?_
  obtain ⟨r_2, hc_1, hp⟩ := bn1_s hp
  refine k_ROV (As := [.int p1]) (rest := []) ⟨hx, hb, hml, hown, hts⟩ hK hP (cw_X2_136 hts ⟨Nat.le_of_ble_eq_true rfl, Nat.le_of_ble_eq_true rfl⟩) 0 (ci := 2) rfl rfl rfl (c_X2_isGrounded l D cy qfo qro qra qvc qos qli fo ro ra vc os li p1 r_2 hc_1) rfl hl.1 (Nat.le_of_ble_eq_true rfl) ⟨Nat.le_refl _, Nat.le_refl _⟩ dX2_callOff_2 ?_
  refine lv_if_ne (tgt := 11) hx hb dX2_callOff_5 (by decide) (fun c_3 => ?_) (fun c_3 => ?_)
  · have hp := ite_n hp c_3
    refine lv_aload_n hx hb dX2_callOff_11 rfl (lv_at hl 0 rfl) ?_
    refine gf_X2_46 hx hb hts hown hK hP 0 rfl rfl dX2_callOff_12 ?_
    refine lv_iload_n hx hb dX2_callOff_15 rfl (lv_at hl 1 rfl) ?_
    obtain ⟨hi_4, hp⟩ := ckI_s hp
    refine r_ild hx hb hK hP 1 rfl hi_4 dX2_callOff_16 ?_
    refine lv_topi (fun x2_5 ex2_5 => ?_)
    have hp := stk_e hp ex2_5
    refine lv_istore_n (lv' := [(2, .int x2_5), (0, .ref (qfo 0)), (1, .int p1)]) hx hb dX2_callOff_17 rfl hl (by decide) rfl (fun ls hl => ?_)
    refine lv_aload_n hx hb dX2_callOff_18 rfl (lv_at hl 1 rfl) ?_
    refine gf_X2_28 hx hb hts hown hK hP 0 rfl rfl dX2_callOff_19 ?_
    refine lv_iload_n hx hb dX2_callOff_22 rfl (lv_at hl 0 rfl) ?_
    refine lv_aload_n hx hb dX2_callOff_23 rfl (lv_at hl 1 rfl) ?_
    refine gf_X2_12 hx hb hts hown hK hP 0 rfl rfl dX2_callOff_24 ?_
    refine gf_X2_111 hx hb hts hown hK hP 4 rfl rfl dX2_callOff_27 ?_
    refine lv_iload_n hx hb dX2_callOff_30 rfl (lv_at hl 2 rfl) ?_
    refine r_ild hx hb hK hP 5 rfl hi_4 dX2_callOff_31 ?_
    obtain ⟨vc_7, hc_6, hp⟩ := bn1_s hp
    refine k_RVV (As := [.int x2_5, .int (ro 0 p1.toNatClampNeg)]) (rest := []) ⟨hx, hb, hml, hown, hts⟩ hK hP hD hS hA (FrS_set (ws := (w_Fi cy qfo qro qra qvc qos qli fo ro ra vc os li)) (wc := (w_Va cy qvc vc)) (w1 := (w_Va cy qvc vc_7)) (wn := (w_Fi cy qfo qro qra qvc qos qli fo ro ra vc_7 os li)) [11, 12, 13] [none, none, none, none, none, none, none, none, none, none, none, some 0, some 1, some 2, none, none, none, none, none, none, none, none, none] (by decide +kernel) rfl rfl rfl) (cw_X2_139 hts ⟨Nat.le_of_ble_eq_true rfl, Nat.le_of_ble_eq_true rfl⟩) 0 (ci := 10) rfl rfl rfl (c_X10_add l D cy qvc vc x2_5 (ro 0 p1.toNatClampNeg) vc_7 hc_6) rfl hl.1 (Nat.le_of_ble_eq_true rfl) ⟨Nat.le_refl _, Nat.le_refl _⟩ dX2_callOff_32 (fun H locs hP hD hS => ?_)
    refine lv_aload_n hx hb dX2_callOff_35 rfl (lv_at hl 1 rfl) ?_
    refine lv_iload_n hx hb dX2_callOff_36 rfl (lv_at hl 2 rfl) ?_
    obtain ⟨fo_9, hc_8, hp⟩ := bn1_s hp
    refine k_RVV (As := [.int p1]) (rest := []) ⟨hx, hb, hml, hown, hts⟩ hK hP hD hS hA FrS_rf (cw_X2_95 hts ⟨Nat.le_of_ble_eq_true rfl, Nat.le_of_ble_eq_true rfl⟩) 0 (ci := 2) rfl rfl rfl (c_X2_clearFlight l D cy qfo qro qra qvc qos qli fo ro ra vc_7 os li p1 fo_9 hc_8) rfl hl.1 (Nat.le_of_ble_eq_true rfl) ⟨Nat.le_refl _, Nat.le_refl _⟩ dX2_callOff_37 (fun H locs hP hD hS => ?_)
    refine lv_aload_n hx hb dX2_callOff_40 rfl (lv_at hl 1 rfl) ?_
    refine lv_dup hx hb dX2_callOff_41 rfl ?_
    refine gf_X2_78 hx hb hts hown hK hP 0 rfl rfl dX2_callOff_42 ?_
    refine lv_iconst (v := 1) hx hb dX2_callOff_45 (by decide) ?_
    refine lv_iload_n hx hb dX2_callOff_46 rfl (lv_at hl 2 rfl) ?_
    refine lv_ishl hx hb dX2_callOff_47 ?_
    refine lv_ior hx hb dX2_callOff_48 ?_
    obtain ⟨fo_10, efo_10⟩ : ∃ y : Mem, y = upm fo_9 8 0 ((fo_9 8 0) ||| ((1 : Int32) <<< (p1 &&& 31))) := ⟨_, rfl⟩
    have hp := stk_e hp efo_10
    refine pf_X2_78 hx hb hts hown hK hP hD hS (wn := (w_Fi cy qfo qro qra qvc qos qli fo_10 ro ra vc_7 os li)) 0 rfl (Nat.le_of_ble_eq_true rfl) (by subst efo_10; rfl) dX2_callOff_49 (fun H locs hP hD hS => ?_)
    refine lv_iload_n hx hb dX2_callOff_52 rfl (lv_at hl 0 rfl) ?_
    simp only [Option.some.injEq, Prod.mk.injEq] at hp
    obtain ⟨h0, rfl, rfl⟩ := hp
    exact e_RIi hx hb hr hk hP hD hS dX2_callOff_53 h0
  · have hp := ite_p hp c_3
    refine lv_bipush (v := (-2)) hx hb dX2_callOff_8 (by decide) ?_
    simp only [Option.some.injEq, Prod.mk.injEq] at hp
    obtain ⟨h0, rfl, rfl⟩ := hp
    exact e_RIi hx hb hr hk hP hD hS dX2_callOff_10 h0
/-! StormSlots$Field.canSwap(II)Z -/
def Fi_canSwap (fo : Mem) (ro : Mem) (p1 : Int32) (p2 : Int32) : Option (Int32) :=
  if p1 = p2 then some 0 else bn1 (Fi_isGrounded fo ro p1) (fun r_3 => if r_3 = 0 then some 0 else bn1 (Fi_isGrounded fo ro p2) (fun r_6 => if r_6 = 0 then some 0 else bn1 (Ro_sameLine ro p1 p2) (fun r_9 => if r_9 = 0 then some 0 else ckI p1 20 (bn1 (Fi_earliest fo ro p2) (fun r_13 => if (fo 5 p1.toNatClampNeg) < r_13 then some 0 else ckI p2 20 (bn1 (Fi_earliest fo ro p1) (fun r_17 => if (fo 5 p2.toNatClampNeg) < r_17 then some 0 else some 1)))))))
set_option maxHeartbeats 4000000 in
set_option maxRecDepth 100000 in
theorem c_X2_canSwap (l : Launch) (D : va_G) (cy : Nat → ClassId) (qfo qro qra qvc qos qli : Nat → Nat) (fo ro ra vc os li : Mem) (p1 p2 : Int32) (r : Int32) (hp : Fi_canSwap fo ro p1 p2 = some r) : RO l yX2_canSwap cX2_canSwap 3 (some .boolean) 2 D cy [.ref (qfo 0), .int p1, .int p2] (w_Fi cy qfo qro qra qvc qos qli fo ro ra vc os li) r := by
  refine RO_of RX2 rfl (by decide) (Nat.le_of_ble_eq_true rfl) ?_
  intro p e s m below meth c C0 hK hP ls hl
  obtain ⟨hx, hb, hr, hml, hown, hts, hk⟩ := id C0
  unfold Fi_canSwap at hp
  have hl : lv_has ls 3 [(0, .ref (qfo 0)), (1, .int p1), (2, .int p2)] := hl
  refine lv_iload_n hx hb dX2_canSwap_0 rfl (lv_at hl 1 rfl) ?_
  refine lv_iload_n hx hb dX2_canSwap_1 rfl (lv_at hl 2 rfl) ?_
  refine lv_icmp_eq (tgt := 33) hx hb dX2_canSwap_2 (by decide) (fun c_1 => ?_) (fun c_1 => ?_)
  · have hp := ite_p hp c_1
    refine lv_iconst (v := 0) hx hb dX2_canSwap_33 (by decide) ?_
    exact e_ROz hx hb hr hk (Or.inl rfl) dX2_canSwap_34 (Option.some.inj hp)
  · have hp := ite_n hp c_1
    refine lv_aload_n hx hb dX2_canSwap_5 rfl (lv_at hl 0 rfl) ?_
    refine lv_iload_n hx hb dX2_canSwap_6 rfl (lv_at hl 1 rfl) ?_
    obtain ⟨r_3, hc_2, hp⟩ := bn1_s hp
    refine k_ROV (As := [.int p1]) (rest := []) ⟨hx, hb, hml, hown, hts⟩ hK hP (cw_X2_136 hts ⟨Nat.le_of_ble_eq_true rfl, Nat.le_of_ble_eq_true rfl⟩) 0 (ci := 2) rfl rfl rfl (c_X2_isGrounded l D cy qfo qro qra qvc qos qli fo ro ra vc os li p1 r_3 hc_2) rfl hl.1 (Nat.le_of_ble_eq_true rfl) ⟨Nat.le_refl _, Nat.le_refl _⟩ dX2_canSwap_7 ?_
    refine lv_if_eq (tgt := 33) hx hb dX2_canSwap_10 (by decide) (fun c_4 => ?_) (fun c_4 => ?_)
    · have hp := ite_p hp c_4
      refine lv_iconst (v := 0) hx hb dX2_canSwap_33 (by decide) ?_
      exact e_ROz hx hb hr hk (Or.inl rfl) dX2_canSwap_34 (Option.some.inj hp)
    · have hp := ite_n hp c_4
      refine lv_aload_n hx hb dX2_canSwap_13 rfl (lv_at hl 0 rfl) ?_
      refine lv_iload_n hx hb dX2_canSwap_14 rfl (lv_at hl 2 rfl) ?_
      obtain ⟨r_6, hc_5, hp⟩ := bn1_s hp
      refine k_ROV (As := [.int p2]) (rest := []) ⟨hx, hb, hml, hown, hts⟩ hK hP (cw_X2_136 hts ⟨Nat.le_of_ble_eq_true rfl, Nat.le_of_ble_eq_true rfl⟩) 0 (ci := 2) rfl rfl rfl (c_X2_isGrounded l D cy qfo qro qra qvc qos qli fo ro ra vc os li p2 r_6 hc_5) rfl hl.1 (Nat.le_of_ble_eq_true rfl) ⟨Nat.le_refl _, Nat.le_refl _⟩ dX2_canSwap_15 ?_
      refine lv_if_eq (tgt := 33) hx hb dX2_canSwap_18 (by decide) (fun c_7 => ?_) (fun c_7 => ?_)
      · have hp := ite_p hp c_7
        refine lv_iconst (v := 0) hx hb dX2_canSwap_33 (by decide) ?_
        exact e_ROz hx hb hr hk (Or.inl rfl) dX2_canSwap_34 (Option.some.inj hp)
      · have hp := ite_n hp c_7
        refine lv_aload_n hx hb dX2_canSwap_21 rfl (lv_at hl 0 rfl) ?_
        refine gf_X2_12 hx hb hts hown hK hP 0 rfl rfl dX2_canSwap_22 ?_
        refine lv_iload_n hx hb dX2_canSwap_25 rfl (lv_at hl 1 rfl) ?_
        refine lv_iload_n hx hb dX2_canSwap_26 rfl (lv_at hl 2 rfl) ?_
        obtain ⟨r_9, hc_8, hp⟩ := bn1_s hp
        refine k_ROV (As := [.int p1, .int p2]) (rest := []) ⟨hx, hb, hml, hown, hts⟩ hK (hP.sub (ws' := (w_Ro cy qro ro)) [4, 5, 6, 7, 8] rfl) (cw_X2_143 hts ⟨Nat.le_of_ble_eq_true rfl, Nat.le_of_ble_eq_true rfl⟩) 0 (ci := 9) rfl rfl rfl (c_X9_sameLine l D cy qro ro p1 p2 r_9 hc_8) rfl hl.1 (Nat.le_of_ble_eq_true rfl) ⟨Nat.le_refl _, Nat.le_refl _⟩ dX2_canSwap_27 ?_
        refine lv_if_ne (tgt := 35) hx hb dX2_canSwap_30 (by decide) (fun c_10 => ?_) (fun c_10 => ?_)
        · have hp := ite_n hp c_10
          refine lv_aload_n hx hb dX2_canSwap_35 rfl (lv_at hl 0 rfl) ?_
          refine gf_X2_46 hx hb hts hown hK hP 0 rfl rfl dX2_canSwap_36 ?_
          refine lv_iload_n hx hb dX2_canSwap_39 rfl (lv_at hl 1 rfl) ?_
          obtain ⟨hi_11, hp⟩ := ckI_s hp
          refine r_ild hx hb hK hP 1 rfl hi_11 dX2_canSwap_40 ?_
          refine lv_aload_n hx hb dX2_canSwap_41 rfl (lv_at hl 0 rfl) ?_
          refine lv_iload_n hx hb dX2_canSwap_42 rfl (lv_at hl 2 rfl) ?_
          obtain ⟨r_13, hc_12, hp⟩ := bn1_s hp
          refine k_ROV (As := [.int p2]) (rest := [.int (fo 5 p1.toNatClampNeg)]) ⟨hx, hb, hml, hown, hts⟩ hK hP (cw_X2_147 hts ⟨Nat.le_of_ble_eq_true rfl, Nat.le_of_ble_eq_true rfl⟩) 0 (ci := 2) rfl rfl rfl (c_X2_earliest l D cy qfo qro qra qvc qos qli fo ro ra vc os li p2 r_13 hc_12) rfl hl.1 (Nat.le_of_ble_eq_true rfl) ⟨Nat.le_refl _, Nat.le_refl _⟩ dX2_canSwap_43 ?_
          refine lv_icmp_lt (tgt := 67) hx hb dX2_canSwap_46 (by decide) (fun c_14 => ?_) (fun c_14 => ?_)
          · have hp := ite_p hp c_14
            refine lv_iconst (v := 0) hx hb dX2_canSwap_67 (by decide) ?_
            exact e_ROz hx hb hr hk (Or.inl rfl) dX2_canSwap_68 (Option.some.inj hp)
          · have hp := ite_n hp c_14
            refine lv_aload_n hx hb dX2_canSwap_49 rfl (lv_at hl 0 rfl) ?_
            refine gf_X2_46 hx hb hts hown hK hP 0 rfl rfl dX2_canSwap_50 ?_
            refine lv_iload_n hx hb dX2_canSwap_53 rfl (lv_at hl 2 rfl) ?_
            obtain ⟨hi_15, hp⟩ := ckI_s hp
            refine r_ild hx hb hK hP 1 rfl hi_15 dX2_canSwap_54 ?_
            refine lv_aload_n hx hb dX2_canSwap_55 rfl (lv_at hl 0 rfl) ?_
            refine lv_iload_n hx hb dX2_canSwap_56 rfl (lv_at hl 1 rfl) ?_
            obtain ⟨r_17, hc_16, hp⟩ := bn1_s hp
            refine k_ROV (As := [.int p1]) (rest := [.int (fo 5 p2.toNatClampNeg)]) ⟨hx, hb, hml, hown, hts⟩ hK hP (cw_X2_147 hts ⟨Nat.le_of_ble_eq_true rfl, Nat.le_of_ble_eq_true rfl⟩) 0 (ci := 2) rfl rfl rfl (c_X2_earliest l D cy qfo qro qra qvc qos qli fo ro ra vc os li p1 r_17 hc_16) rfl hl.1 (Nat.le_of_ble_eq_true rfl) ⟨Nat.le_refl _, Nat.le_refl _⟩ dX2_canSwap_57 ?_
            refine lv_icmp_lt (tgt := 67) hx hb dX2_canSwap_60 (by decide) (fun c_18 => ?_) (fun c_18 => ?_)
            · have hp := ite_p hp c_18
              refine lv_iconst (v := 0) hx hb dX2_canSwap_67 (by decide) ?_
              exact e_ROz hx hb hr hk (Or.inl rfl) dX2_canSwap_68 (Option.some.inj hp)
            · have hp := ite_n hp c_18
              refine lv_iconst (v := 1) hx hb dX2_canSwap_63 (by decide) ?_
              refine lv_goto (tgt := 68) hx hb dX2_canSwap_64 (by decide) ?_
              exact e_ROz hx hb hr hk (Or.inr rfl) dX2_canSwap_68 (Option.some.inj hp)
        · have hp := ite_p hp c_10
          refine lv_iconst (v := 0) hx hb dX2_canSwap_33 (by decide) ?_
          exact e_ROz hx hb hr hk (Or.inl rfl) dX2_canSwap_34 (Option.some.inj hp)
/-! StormSlots$Field.swap(II)V -/
def Fi_swap (fo : Mem) (ro : Mem) (p1 : Int32) (p2 : Int32) : Option (Mem) :=
  bn1 (Fi_isSeated fo p1) (fun r_2 => if r_2 = 0 then some fo else bn1 (Fi_isSeated fo p2) (fun r_5 => if r_5 = 0 then some fo else ckI p1 20 (stk (fo 5 p1.toNatClampNeg) (fun x3_8 => ckI p2 20 (bn1 (Fi_seatOnGround fo ro p1 (fo 5 p2.toNatClampNeg)) (fun fo_11 => bn1 (Fi_seatOnGround fo_11 ro p2 x3_8) (fun fo_13 => some fo_13)))))))
set_option maxHeartbeats 4000000 in
set_option maxRecDepth 100000 in
theorem c_X2_swap (l : Launch) (D : va_G) (cy : Nat → ClassId) (qfo qro qra qvc qos qli : Nat → Nat) (fo ro ra vc os li : Mem) (p1 p2 : Int32) (fo' : Mem) (hp : Fi_swap fo ro p1 p2 = some fo') : RV l yX2_swap cX2_swap 4 2 D cy [.ref (qfo 0), .int p1, .int p2] (w_Fi cy qfo qro qra qvc qos qli fo ro ra vc os li) (w_Fi cy qfo qro qra qvc qos qli fo' ro ra vc os li) := by
  refine RV_of RX2 rfl (by decide) (Nat.le_of_ble_eq_true rfl) ?_
  intro p e s m below meth c A C0 hK hP hD hS hA ls hl
  obtain ⟨hx, hb, hr, hml, hown, hts, hk⟩ := id C0
  unfold Fi_swap at hp
  have hl : lv_has ls 4 [(0, .ref (qfo 0)), (1, .int p1), (2, .int p2)] := hl
  refine lv_aload_n hx hb dX2_swap_0 rfl (lv_at hl 0 rfl) ?_
  refine lv_iload_n hx hb dX2_swap_1 rfl (lv_at hl 1 rfl) ?_
  obtain ⟨r_2, hc_1, hp⟩ := bn1_s hp
  refine k_ROV (As := [.int p1]) (rest := []) ⟨hx, hb, hml, hown, hts⟩ hK hP (cw_X2_126 hts ⟨Nat.le_of_ble_eq_true rfl, Nat.le_of_ble_eq_true rfl⟩) 0 (ci := 2) rfl rfl rfl (c_X2_isSeated l D cy qfo qro qra qvc qos qli fo ro ra vc os li p1 r_2 hc_1) rfl hl.1 (Nat.le_of_ble_eq_true rfl) ⟨Nat.le_refl _, Nat.le_refl _⟩ dX2_swap_2 ?_
  refine lv_if_eq (tgt := 40) hx hb dX2_swap_5 (by decide) (fun c_3 => ?_) (fun c_3 => ?_)
  · have hp := ite_p hp c_3
    simp only [Option.some.injEq, Prod.mk.injEq] at hp
    subst hp
    exact e_RV hx hb hr hk hP hD hS dX2_swap_40
  · have hp := ite_n hp c_3
    refine lv_aload_n hx hb dX2_swap_8 rfl (lv_at hl 0 rfl) ?_
    refine lv_iload_n hx hb dX2_swap_9 rfl (lv_at hl 2 rfl) ?_
    obtain ⟨r_5, hc_4, hp⟩ := bn1_s hp
    refine k_ROV (As := [.int p2]) (rest := []) ⟨hx, hb, hml, hown, hts⟩ hK hP (cw_X2_126 hts ⟨Nat.le_of_ble_eq_true rfl, Nat.le_of_ble_eq_true rfl⟩) 0 (ci := 2) rfl rfl rfl (c_X2_isSeated l D cy qfo qro qra qvc qos qli fo ro ra vc os li p2 r_5 hc_4) rfl hl.1 (Nat.le_of_ble_eq_true rfl) ⟨Nat.le_refl _, Nat.le_refl _⟩ dX2_swap_10 ?_
    refine lv_if_eq (tgt := 40) hx hb dX2_swap_13 (by decide) (fun c_6 => ?_) (fun c_6 => ?_)
    · have hp := ite_p hp c_6
      simp only [Option.some.injEq, Prod.mk.injEq] at hp
      subst hp
      exact e_RV hx hb hr hk hP hD hS dX2_swap_40
    · have hp := ite_n hp c_6
      refine lv_aload_n hx hb dX2_swap_16 rfl (lv_at hl 0 rfl) ?_
      refine gf_X2_46 hx hb hts hown hK hP 0 rfl rfl dX2_swap_17 ?_
      refine lv_iload_n hx hb dX2_swap_20 rfl (lv_at hl 1 rfl) ?_
      obtain ⟨hi_7, hp⟩ := ckI_s hp
      refine r_ild hx hb hK hP 1 rfl hi_7 dX2_swap_21 ?_
      refine lv_topi (fun x3_8 ex3_8 => ?_)
      have hp := stk_e hp ex3_8
      refine lv_istore_n (lv' := [(3, .int x3_8), (0, .ref (qfo 0)), (1, .int p1), (2, .int p2)]) hx hb dX2_swap_22 rfl hl (by decide) rfl (fun ls hl => ?_)
      refine lv_aload_n hx hb dX2_swap_23 rfl (lv_at hl 1 rfl) ?_
      refine lv_iload_n hx hb dX2_swap_24 rfl (lv_at hl 2 rfl) ?_
      refine lv_aload_n hx hb dX2_swap_25 rfl (lv_at hl 1 rfl) ?_
      refine gf_X2_46 hx hb hts hown hK hP 0 rfl rfl dX2_swap_26 ?_
      refine lv_iload_n hx hb dX2_swap_29 rfl (lv_at hl 3 rfl) ?_
      obtain ⟨hi_9, hp⟩ := ckI_s hp
      refine r_ild hx hb hK hP 1 rfl hi_9 dX2_swap_30 ?_
      obtain ⟨fo_11, hc_10, hp⟩ := bn1_s hp
      refine k_RVV (As := [.int p1, .int (fo 5 p2.toNatClampNeg)]) (rest := []) ⟨hx, hb, hml, hown, hts⟩ hK hP hD hS hA FrS_rf (cw_X2_150 hts ⟨Nat.le_of_ble_eq_true rfl, Nat.le_of_ble_eq_true rfl⟩) 0 (ci := 2) rfl rfl rfl (c_X2_seatOnGround l D cy qfo qro qra qvc qos qli fo ro ra vc os li p1 (fo 5 p2.toNatClampNeg) fo_11 hc_10) rfl hl.1 (Nat.le_of_ble_eq_true rfl) ⟨Nat.le_refl _, Nat.le_refl _⟩ dX2_swap_31 (fun H locs hP hD hS => ?_)
      refine lv_aload_n hx hb dX2_swap_34 rfl (lv_at hl 1 rfl) ?_
      refine lv_iload_n hx hb dX2_swap_35 rfl (lv_at hl 3 rfl) ?_
      refine lv_iload_n hx hb dX2_swap_36 rfl (lv_at hl 0 rfl) ?_
      obtain ⟨fo_13, hc_12, hp⟩ := bn1_s hp
      refine k_RVV (As := [.int p2, .int x3_8]) (rest := []) ⟨hx, hb, hml, hown, hts⟩ hK hP hD hS hA FrS_rf (cw_X2_150 hts ⟨Nat.le_of_ble_eq_true rfl, Nat.le_of_ble_eq_true rfl⟩) 0 (ci := 2) rfl rfl rfl (c_X2_seatOnGround l D cy qfo qro qra qvc qos qli fo_11 ro ra vc os li p2 x3_8 fo_13 hc_12) rfl hl.1 (Nat.le_of_ble_eq_true rfl) ⟨Nat.le_refl _, Nat.le_refl _⟩ dX2_swap_37 (fun H locs hP hD hS => ?_)
      simp only [Option.some.injEq, Prod.mk.injEq] at hp
      subst hp
      exact e_RV hx hb hr hk hP hD hS dX2_swap_40
/-! StormSlots$Field.takeVacancy(II)I -/
def Fi_takeVacancy (fo : Mem) (ro : Mem) (vc : Mem) (p1 : Int32) (p2 : Int32) : Option (Int32 × Mem × Mem) :=
  bn1 (Va_minuteOf vc p2) (fun r_2 => bn1 (Va_keeperOf vc p2) (fun r_4 => if r_2 = (-1) then some ((-2), fo, vc) else bn1 (Fi_isSeated fo p1) (fun r_7 => if r_7 = 0 then some ((-2), fo, vc) else ckI p1 20 (stk (fo 5 p1.toNatClampNeg) (fun x5_10 => bn1 (Va_removeAt vc p2) (fun vc_12 => bn1 (Fi_seatOnGround fo ro p1 r_2) (fun fo_14 => bn1 (Va_add vc_12 x5_10 r_4) (fun vc_16 => some (x5_10, fo_14, vc_16)))))))))
set_option maxHeartbeats 4000000 in
set_option maxRecDepth 100000 in
theorem c_X2_takeVacancy (l : Launch) (D : va_G) (cy : Nat → ClassId) (qfo qro qra qvc qos qli : Nat → Nat) (fo ro ra vc os li : Mem) (p1 p2 : Int32) (r : Int32) (fo' vc' : Mem) (hp : Fi_takeVacancy fo ro vc p1 p2 = some (r, fo', vc')) : RI l yX2_takeVacancy cX2_takeVacancy 6 (some .int) 2 D cy [.ref (qfo 0), .int p1, .int p2] (w_Fi cy qfo qro qra qvc qos qli fo ro ra vc os li) (w_Fi cy qfo qro qra qvc qos qli fo' ro ra vc' os li) r := by
  refine RI_of RX2 rfl (by decide) (Nat.le_of_ble_eq_true rfl) ?_
  intro p e s m below meth c A C0 hK hP hD hS hA ls hl
  obtain ⟨hx, hb, hr, hml, hown, hts, hk⟩ := id C0
  unfold Fi_takeVacancy at hp
  have hl : lv_has ls 6 [(0, .ref (qfo 0)), (1, .int p1), (2, .int p2)] := hl
  refine lv_aload_n hx hb dX2_takeVacancy_0 rfl (lv_at hl 0 rfl) ?_
  refine gf_X2_28 hx hb hts hown hK hP 0 rfl rfl dX2_takeVacancy_1 ?_
  refine lv_iload_n hx hb dX2_takeVacancy_4 rfl (lv_at hl 2 rfl) ?_
  obtain ⟨r_2, hc_1, hp⟩ := bn1_s hp
  refine k_ROV (As := [.int p2]) (rest := []) ⟨hx, hb, hml, hown, hts⟩ hK (hP.sub (ws' := (w_Va cy qvc vc)) [11, 12, 13] rfl) (cw_X2_153 hts ⟨Nat.le_of_ble_eq_true rfl, Nat.le_of_ble_eq_true rfl⟩) 0 (ci := 10) rfl rfl rfl (c_X10_minuteOf l D cy qvc vc p2 r_2 hc_1) rfl hl.1 (Nat.le_of_ble_eq_true rfl) ⟨Nat.le_refl _, Nat.le_refl _⟩ dX2_takeVacancy_5 ?_
  refine lv_istore_n (lv' := [(3, .int r_2), (0, .ref (qfo 0)), (1, .int p1), (2, .int p2)]) hx hb dX2_takeVacancy_8 rfl hl (by decide) rfl (fun ls hl => ?_)
  refine lv_aload_n hx hb dX2_takeVacancy_9 rfl (lv_at hl 1 rfl) ?_
  refine gf_X2_28 hx hb hts hown hK hP 0 rfl rfl dX2_takeVacancy_10 ?_
  refine lv_iload_n hx hb dX2_takeVacancy_13 rfl (lv_at hl 3 rfl) ?_
  obtain ⟨r_4, hc_3, hp⟩ := bn1_s hp
  refine k_ROV (As := [.int p2]) (rest := []) ⟨hx, hb, hml, hown, hts⟩ hK (hP.sub (ws' := (w_Va cy qvc vc)) [11, 12, 13] rfl) (cw_X2_156 hts ⟨Nat.le_of_ble_eq_true rfl, Nat.le_of_ble_eq_true rfl⟩) 0 (ci := 10) rfl rfl rfl (c_X10_keeperOf l D cy qvc vc p2 r_4 hc_3) rfl hl.1 (Nat.le_of_ble_eq_true rfl) ⟨Nat.le_refl _, Nat.le_refl _⟩ dX2_takeVacancy_14 ?_
  refine lv_istore (lv' := [(4, .int r_4), (3, .int r_2), (0, .ref (qfo 0)), (1, .int p1), (2, .int p2)]) hx hb dX2_takeVacancy_17 hl (by decide) rfl (fun ls hl => ?_)
  refine lv_iload_n hx hb dX2_takeVacancy_19 rfl (lv_at hl 1 rfl) ?_
  refine lv_iconst (v := (-1)) hx hb dX2_takeVacancy_20 (by decide) ?_
  refine lv_icmp_eq (tgt := 32) hx hb dX2_takeVacancy_21 (by decide) (fun c_5 => ?_) (fun c_5 => ?_)
  · have hp := ite_p hp c_5
    refine lv_bipush (v := (-2)) hx hb dX2_takeVacancy_32 (by decide) ?_
    simp only [Option.some.injEq, Prod.mk.injEq] at hp
    obtain ⟨h0, rfl, rfl⟩ := hp
    exact e_RIi hx hb hr hk hP hD hS dX2_takeVacancy_34 h0
  · have hp := ite_n hp c_5
    refine lv_aload_n hx hb dX2_takeVacancy_24 rfl (lv_at hl 2 rfl) ?_
    refine lv_iload_n hx hb dX2_takeVacancy_25 rfl (lv_at hl 3 rfl) ?_
    obtain ⟨r_7, hc_6, hp⟩ := bn1_s hp
    refine k_ROV (As := [.int p1]) (rest := []) ⟨hx, hb, hml, hown, hts⟩ hK hP (cw_X2_126 hts ⟨Nat.le_of_ble_eq_true rfl, Nat.le_of_ble_eq_true rfl⟩) 0 (ci := 2) rfl rfl rfl (c_X2_isSeated l D cy qfo qro qra qvc qos qli fo ro ra vc os li p1 r_7 hc_6) rfl hl.1 (Nat.le_of_ble_eq_true rfl) ⟨Nat.le_refl _, Nat.le_refl _⟩ dX2_takeVacancy_26 ?_
    refine lv_if_ne (tgt := 35) hx hb dX2_takeVacancy_29 (by decide) (fun c_8 => ?_) (fun c_8 => ?_)
    · have hp := ite_n hp c_8
      refine lv_aload_n hx hb dX2_takeVacancy_35 rfl (lv_at hl 2 rfl) ?_
      refine gf_X2_46 hx hb hts hown hK hP 0 rfl rfl dX2_takeVacancy_36 ?_
      refine lv_iload_n hx hb dX2_takeVacancy_39 rfl (lv_at hl 3 rfl) ?_
      obtain ⟨hi_9, hp⟩ := ckI_s hp
      refine r_ild hx hb hK hP 1 rfl hi_9 dX2_takeVacancy_40 ?_
      refine lv_topi (fun x5_10 ex5_10 => ?_)
      have hp := stk_e hp ex5_10
      refine lv_istore (lv' := [(5, .int x5_10), (4, .int r_4), (3, .int r_2), (0, .ref (qfo 0)), (1, .int p1), (2, .int p2)]) hx hb dX2_takeVacancy_41 hl (by decide) rfl (fun ls hl => ?_)
      refine lv_aload_n hx hb dX2_takeVacancy_43 rfl (lv_at hl 3 rfl) ?_
      refine gf_X2_28 hx hb hts hown hK hP 0 rfl rfl dX2_takeVacancy_44 ?_
      refine lv_iload_n hx hb dX2_takeVacancy_47 rfl (lv_at hl 5 rfl) ?_
      obtain ⟨vc_12, hc_11, hp⟩ := bn1_s hp
      refine k_RVV (As := [.int p2]) (rest := []) ⟨hx, hb, hml, hown, hts⟩ hK hP hD hS hA (FrS_set (ws := (w_Fi cy qfo qro qra qvc qos qli fo ro ra vc os li)) (wc := (w_Va cy qvc vc)) (w1 := (w_Va cy qvc vc_12)) (wn := (w_Fi cy qfo qro qra qvc qos qli fo ro ra vc_12 os li)) [11, 12, 13] [none, none, none, none, none, none, none, none, none, none, none, some 0, some 1, some 2, none, none, none, none, none, none, none, none, none] (by decide +kernel) rfl rfl rfl) (cw_X2_159 hts ⟨Nat.le_of_ble_eq_true rfl, Nat.le_of_ble_eq_true rfl⟩) 0 (ci := 10) rfl rfl rfl (c_X10_removeAt l D cy qvc vc p2 vc_12 hc_11) rfl hl.1 (Nat.le_of_ble_eq_true rfl) ⟨Nat.le_refl _, Nat.le_refl _⟩ dX2_takeVacancy_48 (fun H locs hP hD hS => ?_)
      refine lv_aload_n hx hb dX2_takeVacancy_51 rfl (lv_at hl 3 rfl) ?_
      refine lv_iload_n hx hb dX2_takeVacancy_52 rfl (lv_at hl 4 rfl) ?_
      refine lv_iload_n hx hb dX2_takeVacancy_53 rfl (lv_at hl 2 rfl) ?_
      obtain ⟨fo_14, hc_13, hp⟩ := bn1_s hp
      refine k_RVV (As := [.int p1, .int r_2]) (rest := []) ⟨hx, hb, hml, hown, hts⟩ hK hP hD hS hA FrS_rf (cw_X2_150 hts ⟨Nat.le_of_ble_eq_true rfl, Nat.le_of_ble_eq_true rfl⟩) 0 (ci := 2) rfl rfl rfl (c_X2_seatOnGround l D cy qfo qro qra qvc qos qli fo ro ra vc_12 os li p1 r_2 fo_14 hc_13) rfl hl.1 (Nat.le_of_ble_eq_true rfl) ⟨Nat.le_refl _, Nat.le_refl _⟩ dX2_takeVacancy_54 (fun H locs hP hD hS => ?_)
      refine lv_aload_n hx hb dX2_takeVacancy_57 rfl (lv_at hl 3 rfl) ?_
      refine gf_X2_28 hx hb hts hown hK hP 0 rfl rfl dX2_takeVacancy_58 ?_
      refine lv_iload hx hb dX2_takeVacancy_61 (lv_at hl 0 rfl) ?_
      refine lv_iload hx hb dX2_takeVacancy_63 (lv_at hl 1 rfl) ?_
      obtain ⟨vc_16, hc_15, hp⟩ := bn1_s hp
      refine k_RVV (As := [.int x5_10, .int r_4]) (rest := []) ⟨hx, hb, hml, hown, hts⟩ hK hP hD hS hA (FrS_set (ws := (w_Fi cy qfo qro qra qvc qos qli fo_14 ro ra vc_12 os li)) (wc := (w_Va cy qvc vc_12)) (w1 := (w_Va cy qvc vc_16)) (wn := (w_Fi cy qfo qro qra qvc qos qli fo_14 ro ra vc_16 os li)) [11, 12, 13] [none, none, none, none, none, none, none, none, none, none, none, some 0, some 1, some 2, none, none, none, none, none, none, none, none, none] (by decide +kernel) rfl rfl rfl) (cw_X2_139 hts ⟨Nat.le_of_ble_eq_true rfl, Nat.le_of_ble_eq_true rfl⟩) 0 (ci := 10) rfl rfl rfl (c_X10_add l D cy qvc vc_12 x5_10 r_4 vc_16 hc_15) rfl hl.1 (Nat.le_of_ble_eq_true rfl) ⟨Nat.le_refl _, Nat.le_refl _⟩ dX2_takeVacancy_65 (fun H locs hP hD hS => ?_)
      refine lv_iload hx hb dX2_takeVacancy_68 (lv_at hl 0 rfl) ?_
      simp only [Option.some.injEq, Prod.mk.injEq] at hp
      obtain ⟨h0, rfl, rfl⟩ := hp
      exact e_RIi hx hb hr hk hP hD hS dX2_takeVacancy_70 h0
    · have hp := ite_p hp c_8
      refine lv_bipush (v := (-2)) hx hb dX2_takeVacancy_32 (by decide) ?_
      simp only [Option.some.injEq, Prod.mk.injEq] at hp
      obtain ⟨h0, rfl, rfl⟩ := hp
      exact e_RIi hx hb hr hk hP hD hS dX2_takeVacancy_34 h0
/-! StormSlots$Field.earlierSeated(II)I -/
def Fi_earlierSeated (fo : Mem) (p1 : Int32) (p2 : Int32) : Option (Int32) :=
  bn1 (Fi_isSeated fo p1) (fun r_2 => if r_2 = 0 then some p2 else bn1 (Fi_isSeated fo p2) (fun r_5 => if r_5 = 0 then some p2 else ckI p1 20 (ckI p2 20 (if (fo 5 p2.toNatClampNeg) ≤ (fo 5 p1.toNatClampNeg) then some p2 else some p1))))
set_option maxHeartbeats 4000000 in
set_option maxRecDepth 100000 in
theorem c_X2_earlierSeated (l : Launch) (D : va_G) (cy : Nat → ClassId) (qfo qro qra qvc qos qli : Nat → Nat) (fo ro ra vc os li : Mem) (p1 p2 : Int32) (r : Int32) (hp : Fi_earlierSeated fo p1 p2 = some r) : RO l yX2_earlierSeated cX2_earlierSeated 3 (some .int) 1 D cy [.ref (qfo 0), .int p1, .int p2] (w_Fi cy qfo qro qra qvc qos qli fo ro ra vc os li) r := by
  refine RO_of RX2 rfl (by decide) (Nat.le_of_ble_eq_true rfl) ?_
  intro p e s m below meth c C0 hK hP ls hl
  obtain ⟨hx, hb, hr, hml, hown, hts, hk⟩ := id C0
  unfold Fi_earlierSeated at hp
  have hl : lv_has ls 3 [(0, .ref (qfo 0)), (1, .int p1), (2, .int p2)] := hl
  refine lv_aload_n hx hb dX2_earlierSeated_0 rfl (lv_at hl 0 rfl) ?_
  refine lv_iload_n hx hb dX2_earlierSeated_1 rfl (lv_at hl 1 rfl) ?_
  obtain ⟨r_2, hc_1, hp⟩ := bn1_s hp
  refine k_ROV (As := [.int p1]) (rest := []) ⟨hx, hb, hml, hown, hts⟩ hK hP (cw_X2_126 hts ⟨Nat.le_of_ble_eq_true rfl, Nat.le_of_ble_eq_true rfl⟩) 0 (ci := 2) rfl rfl rfl (c_X2_isSeated l D cy qfo qro qra qvc qos qli fo ro ra vc os li p1 r_2 hc_1) rfl hl.1 (Nat.le_of_ble_eq_true rfl) ⟨Nat.le_refl _, Nat.le_refl _⟩ dX2_earlierSeated_2 ?_
  refine lv_if_eq (tgt := 35) hx hb dX2_earlierSeated_5 (by decide) (fun c_3 => ?_) (fun c_3 => ?_)
  · have hp := ite_p hp c_3
    refine lv_iload_n hx hb dX2_earlierSeated_35 rfl (lv_at hl 2 rfl) ?_
    exact e_ROi hx hb hr hk dX2_earlierSeated_36 (Option.some.inj hp)
  · have hp := ite_n hp c_3
    refine lv_aload_n hx hb dX2_earlierSeated_8 rfl (lv_at hl 0 rfl) ?_
    refine lv_iload_n hx hb dX2_earlierSeated_9 rfl (lv_at hl 2 rfl) ?_
    obtain ⟨r_5, hc_4, hp⟩ := bn1_s hp
    refine k_ROV (As := [.int p2]) (rest := []) ⟨hx, hb, hml, hown, hts⟩ hK hP (cw_X2_126 hts ⟨Nat.le_of_ble_eq_true rfl, Nat.le_of_ble_eq_true rfl⟩) 0 (ci := 2) rfl rfl rfl (c_X2_isSeated l D cy qfo qro qra qvc qos qli fo ro ra vc os li p2 r_5 hc_4) rfl hl.1 (Nat.le_of_ble_eq_true rfl) ⟨Nat.le_refl _, Nat.le_refl _⟩ dX2_earlierSeated_10 ?_
    refine lv_if_eq (tgt := 35) hx hb dX2_earlierSeated_13 (by decide) (fun c_6 => ?_) (fun c_6 => ?_)
    · have hp := ite_p hp c_6
      refine lv_iload_n hx hb dX2_earlierSeated_35 rfl (lv_at hl 2 rfl) ?_
      exact e_ROi hx hb hr hk dX2_earlierSeated_36 (Option.some.inj hp)
    · have hp := ite_n hp c_6
      refine lv_aload_n hx hb dX2_earlierSeated_16 rfl (lv_at hl 0 rfl) ?_
      refine gf_X2_46 hx hb hts hown hK hP 0 rfl rfl dX2_earlierSeated_17 ?_
      refine lv_iload_n hx hb dX2_earlierSeated_20 rfl (lv_at hl 1 rfl) ?_
      obtain ⟨hi_7, hp⟩ := ckI_s hp
      refine r_ild hx hb hK hP 1 rfl hi_7 dX2_earlierSeated_21 ?_
      refine lv_aload_n hx hb dX2_earlierSeated_22 rfl (lv_at hl 0 rfl) ?_
      refine gf_X2_46 hx hb hts hown hK hP 0 rfl rfl dX2_earlierSeated_23 ?_
      refine lv_iload_n hx hb dX2_earlierSeated_26 rfl (lv_at hl 2 rfl) ?_
      obtain ⟨hi_8, hp⟩ := ckI_s hp
      refine r_ild hx hb hK hP 1 rfl hi_8 dX2_earlierSeated_27 ?_
      refine lv_icmp_ge (tgt := 35) hx hb dX2_earlierSeated_28 (by decide) (fun c_9 => ?_) (fun c_9 => ?_)
      · have hp := ite_p hp c_9
        refine lv_iload_n hx hb dX2_earlierSeated_35 rfl (lv_at hl 2 rfl) ?_
        exact e_ROi hx hb hr hk dX2_earlierSeated_36 (Option.some.inj hp)
      · have hp := ite_n hp c_9
        refine lv_iload_n hx hb dX2_earlierSeated_31 rfl (lv_at hl 1 rfl) ?_
        refine lv_goto (tgt := 36) hx hb dX2_earlierSeated_32 (by decide) ?_
        exact e_ROi hx hb hr hk dX2_earlierSeated_36 (Option.some.inj hp)
/-! StormSlots$Field.fillerOf(II)I -/
def Fi_fillerOf_b8B (fo : Mem) (ro : Mem) (p1 : Int32) (p2 : Int32) (k8 : Int32 → Int32 → Int32 → Option (Int32)) (x3 : Int32) (x4 : Int32) (x5 : Int32) : Option (Int32) :=
  if 20 ≤ x5 then if x3 = (-1) then some x4 else some x3 else bn1 (Fi_isGrounded fo ro x5) (fun r_4 => if r_4 = 0 then stk (x5 + 1) (fun x5_6 => k8 x3 x4 x5_6) else ckI x5 20 (if (fo 5 x5.toNatClampNeg) ≤ p1 then stk (x5 + 1) (fun x5_9 => k8 x3 x4 x5_9) else bn1 (Fi_earliest fo ro x5) (fun r_11 => if r_11 ≤ p1 then if (ro 0 x5.toNatClampNeg) = p2 then bn1 (Fi_earlierSeated fo x3 x5) (fun r_18 => stk (x5 + 1) (fun x5_19 => k8 r_18 x4 x5_19)) else bn1 (Fi_earlierSeated fo x4 x5) (fun r_15 => stk (x5 + 1) (fun x5_16 => k8 x3 r_15 x5_16)) else stk (x5 + 1) (fun x5_20 => k8 x3 x4 x5_20))))
def Fi_fillerOf_b8 (fo : Mem) (ro : Mem) (p1 : Int32) (p2 : Int32) : Nat → Int32 → Int32 → Int32 → Option (Int32)
  | 0 => fun _ _ _ => none
  | n + 1 => Fi_fillerOf_b8B fo ro p1 p2 (Fi_fillerOf_b8 fo ro p1 p2 n)
def Fi_fillerOf (fo : Mem) (ro : Mem) (p1 : Int32) (p2 : Int32) : Option (Int32) :=
  Fi_fillerOf_b8 fo ro p1 p2 fl (-1) (-1) 0
set_option maxHeartbeats 4000000 in
set_option maxRecDepth 100000 in
theorem Fi_fillerOf_b8B_w (C0 : cX RX2 cX2_fillerOf (some .int) 6 p s m args meth c) (hK : kN D cy s) {qfo qro qra qvc qos qli : Nat → Nat} {fo ro ra vc os li : Mem} {p1 p2 : Int32} {r : Int32} (hP : va_P D vwCl (w_Fi cy qfo qro qra qvc qos qli fo ro ra vc os li) s.heap) {k8 : Int32 → Int32 → Int32 → Option (Int32)} (hk8 : ∀ (x3 x4 x5 : Int32) (ls : Array Slot), lv_has ls 6 [(0, .ref (qfo 0)), (1, .int p1), (2, .int p2), (3, .int x3), (4, .int x4), (5, .int x5)] → k8 x3 x4 x5 = some r → W p l e (rmD 2) s m args below meth c s.heap [] 0 0 (qRO below args s r) (F0 m 8 ls [])) {x3 : Int32} {x4 : Int32} {x5 : Int32} {ls : Array Slot} (hl : lv_has ls 6 [(0, .ref (qfo 0)), (1, .int p1), (2, .int p2), (3, .int x3), (4, .int x4), (5, .int x5)]) (hp : Fi_fillerOf_b8B fo ro p1 p2 k8 x3 x4 x5 = some r) : W p l e (rmD 2) s m args below meth c s.heap [] 0 0 (qRO below args s r) (F0 m 8 ls []) := by
  obtain ⟨hx, hb, hr, hml, hown, hts, hk⟩ := id C0
  unfold Fi_fillerOf_b8B at hp
  refine lv_iload hx hb dX2_fillerOf_8 (lv_at hl 5 rfl) ?_
  refine lv_bipush (v := 20) hx hb dX2_fillerOf_10 (by decide) ?_
  refine lv_icmp_ge (tgt := 89) hx hb dX2_fillerOf_12 (by decide) (fun c_1 => ?_) (fun c_1 => ?_)
  · have hp := ite_p hp c_1
    refine lv_iload_n hx hb dX2_fillerOf_89 rfl (lv_at hl 3 rfl) ?_
    refine lv_iconst (v := (-1)) hx hb dX2_fillerOf_90 (by decide) ?_
    refine lv_icmp_eq (tgt := 98) hx hb dX2_fillerOf_91 (by decide) (fun c_2 => ?_) (fun c_2 => ?_)
    · have hp := ite_p hp c_2
      refine lv_iload hx hb dX2_fillerOf_98 (lv_at hl 4 rfl) ?_
      exact e_ROi hx hb hr hk dX2_fillerOf_100 (Option.some.inj hp)
    · have hp := ite_n hp c_2
      refine lv_iload_n hx hb dX2_fillerOf_94 rfl (lv_at hl 3 rfl) ?_
      refine lv_goto (tgt := 100) hx hb dX2_fillerOf_95 (by decide) ?_
      exact e_ROi hx hb hr hk dX2_fillerOf_100 (Option.some.inj hp)
  · have hp := ite_n hp c_1
    refine lv_aload_n hx hb dX2_fillerOf_15 rfl (lv_at hl 0 rfl) ?_
    refine lv_iload hx hb dX2_fillerOf_16 (lv_at hl 5 rfl) ?_
    obtain ⟨r_4, hc_3, hp⟩ := bn1_s hp
    refine k_ROV (As := [.int x5]) (rest := []) ⟨hx, hb, hml, hown, hts⟩ hK hP (cw_X2_136 hts ⟨Nat.le_of_ble_eq_true rfl, Nat.le_of_ble_eq_true rfl⟩) 0 (ci := 2) rfl rfl rfl (c_X2_isGrounded l D cy qfo qro qra qvc qos qli fo ro ra vc os li x5 r_4 hc_3) rfl hl.1 (Nat.le_of_ble_eq_true rfl) ⟨Nat.le_refl _, Nat.le_refl _⟩ dX2_fillerOf_18 ?_
    refine lv_if_eq (tgt := 83) hx hb dX2_fillerOf_21 (by decide) (fun c_5 => ?_) (fun c_5 => ?_)
    · have hp := ite_p hp c_5
      obtain ⟨x5_6, ex5_6⟩ : ∃ y : Int32, y = x5 + 1 := ⟨_, rfl⟩
      have hp := stk_e hp ex5_6
      refine lv_iinc (v := x5_6) (lv' := [(5, .int x5_6), (0, .ref (qfo 0)), (1, .int p1), (2, .int p2), (3, .int x3), (4, .int x4)]) hx hb dX2_fillerOf_83 hl (k := 5) rfl (by rw [ex5_6]; rfl) (by decide) rfl (fun ls hl => ?_)
      refine lv_goto (tgt := 8) hx hb dX2_fillerOf_86 (by decide) ?_
      exact hk8 x3 x4 x5_6 _ (lv_sub hl [1, 2, 3, 4, 5, 0] rfl) hp
    · have hp := ite_n hp c_5
      refine lv_aload_n hx hb dX2_fillerOf_24 rfl (lv_at hl 0 rfl) ?_
      refine gf_X2_46 hx hb hts hown hK hP 0 rfl rfl dX2_fillerOf_25 ?_
      refine lv_iload hx hb dX2_fillerOf_28 (lv_at hl 5 rfl) ?_
      obtain ⟨hi_7, hp⟩ := ckI_s hp
      refine r_ild hx hb hK hP 1 rfl hi_7 dX2_fillerOf_30 ?_
      refine lv_iload_n hx hb dX2_fillerOf_31 rfl (lv_at hl 1 rfl) ?_
      refine lv_icmp_le (tgt := 83) hx hb dX2_fillerOf_32 (by decide) (fun c_8 => ?_) (fun c_8 => ?_)
      · have hp := ite_p hp c_8
        obtain ⟨x5_9, ex5_9⟩ : ∃ y : Int32, y = x5 + 1 := ⟨_, rfl⟩
        have hp := stk_e hp ex5_9
        refine lv_iinc (v := x5_9) (lv' := [(5, .int x5_9), (0, .ref (qfo 0)), (1, .int p1), (2, .int p2), (3, .int x3), (4, .int x4)]) hx hb dX2_fillerOf_83 hl (k := 5) rfl (by rw [ex5_9]; rfl) (by decide) rfl (fun ls hl => ?_)
        refine lv_goto (tgt := 8) hx hb dX2_fillerOf_86 (by decide) ?_
        exact hk8 x3 x4 x5_9 _ (lv_sub hl [1, 2, 3, 4, 5, 0] rfl) hp
      · have hp := ite_n hp c_8
        refine lv_aload_n hx hb dX2_fillerOf_35 rfl (lv_at hl 0 rfl) ?_
        refine lv_iload hx hb dX2_fillerOf_36 (lv_at hl 5 rfl) ?_
        obtain ⟨r_11, hc_10, hp⟩ := bn1_s hp
        refine k_ROV (As := [.int x5]) (rest := []) ⟨hx, hb, hml, hown, hts⟩ hK hP (cw_X2_147 hts ⟨Nat.le_of_ble_eq_true rfl, Nat.le_of_ble_eq_true rfl⟩) 0 (ci := 2) rfl rfl rfl (c_X2_earliest l D cy qfo qro qra qvc qos qli fo ro ra vc os li x5 r_11 hc_10) rfl hl.1 (Nat.le_of_ble_eq_true rfl) ⟨Nat.le_refl _, Nat.le_refl _⟩ dX2_fillerOf_38 ?_
        refine lv_iload_n hx hb dX2_fillerOf_41 rfl (lv_at hl 1 rfl) ?_
        refine lv_icmp_le (tgt := 48) hx hb dX2_fillerOf_42 (by decide) (fun c_12 => ?_) (fun c_12 => ?_)
        · have hp := ite_p hp c_12
          refine lv_aload_n hx hb dX2_fillerOf_48 rfl (lv_at hl 0 rfl) ?_
          refine gf_X2_12 hx hb hts hown hK hP 0 rfl rfl dX2_fillerOf_49 ?_
          refine gf_X2_111 hx hb hts hown hK hP 4 rfl rfl dX2_fillerOf_52 ?_
          refine lv_iload hx hb dX2_fillerOf_55 (lv_at hl 5 rfl) ?_
          refine r_ild hx hb hK hP 5 rfl hi_7 dX2_fillerOf_57 ?_
          refine lv_iload_n hx hb dX2_fillerOf_58 rfl (lv_at hl 2 rfl) ?_
          refine lv_icmp_ne (tgt := 73) hx hb dX2_fillerOf_59 (by decide) (fun c_13 => ?_) (fun c_13 => ?_)
          · have hp := ite_n hp c_13
            refine lv_aload_n hx hb dX2_fillerOf_73 rfl (lv_at hl 0 rfl) ?_
            refine lv_iload hx hb dX2_fillerOf_74 (lv_at hl 4 rfl) ?_
            refine lv_iload hx hb dX2_fillerOf_76 (lv_at hl 5 rfl) ?_
            obtain ⟨r_15, hc_14, hp⟩ := bn1_s hp
            refine k_ROV (As := [.int x4, .int x5]) (rest := []) ⟨hx, hb, hml, hown, hts⟩ hK hP (cw_X2_172 hts ⟨Nat.le_of_ble_eq_true rfl, Nat.le_of_ble_eq_true rfl⟩) 0 (ci := 2) rfl rfl rfl (c_X2_earlierSeated l D cy qfo qro qra qvc qos qli fo ro ra vc os li x4 x5 r_15 hc_14) rfl hl.1 (Nat.le_of_ble_eq_true rfl) ⟨Nat.le_refl _, Nat.le_refl _⟩ dX2_fillerOf_78 ?_
            refine lv_istore (lv' := [(4, .int r_15), (0, .ref (qfo 0)), (1, .int p1), (2, .int p2), (3, .int x3), (5, .int x5)]) hx hb dX2_fillerOf_81 hl (by decide) rfl (fun ls hl => ?_)
            obtain ⟨x5_16, ex5_16⟩ : ∃ y : Int32, y = x5 + 1 := ⟨_, rfl⟩
            have hp := stk_e hp ex5_16
            refine lv_iinc (v := x5_16) (lv' := [(5, .int x5_16), (4, .int r_15), (0, .ref (qfo 0)), (1, .int p1), (2, .int p2), (3, .int x3)]) hx hb dX2_fillerOf_83 hl (k := 5) rfl (by rw [ex5_16]; rfl) (by decide) rfl (fun ls hl => ?_)
            refine lv_goto (tgt := 8) hx hb dX2_fillerOf_86 (by decide) ?_
            exact hk8 x3 r_15 x5_16 _ (lv_sub hl [2, 3, 4, 5, 1, 0] rfl) hp
          · have hp := ite_p hp c_13
            refine lv_aload_n hx hb dX2_fillerOf_62 rfl (lv_at hl 0 rfl) ?_
            refine lv_iload_n hx hb dX2_fillerOf_63 rfl (lv_at hl 3 rfl) ?_
            refine lv_iload hx hb dX2_fillerOf_64 (lv_at hl 5 rfl) ?_
            obtain ⟨r_18, hc_17, hp⟩ := bn1_s hp
            refine k_ROV (As := [.int x3, .int x5]) (rest := []) ⟨hx, hb, hml, hown, hts⟩ hK hP (cw_X2_172 hts ⟨Nat.le_of_ble_eq_true rfl, Nat.le_of_ble_eq_true rfl⟩) 0 (ci := 2) rfl rfl rfl (c_X2_earlierSeated l D cy qfo qro qra qvc qos qli fo ro ra vc os li x3 x5 r_18 hc_17) rfl hl.1 (Nat.le_of_ble_eq_true rfl) ⟨Nat.le_refl _, Nat.le_refl _⟩ dX2_fillerOf_66 ?_
            refine lv_istore_n (lv' := [(3, .int r_18), (0, .ref (qfo 0)), (1, .int p1), (2, .int p2), (4, .int x4), (5, .int x5)]) hx hb dX2_fillerOf_69 rfl hl (by decide) rfl (fun ls hl => ?_)
            refine lv_goto (tgt := 83) hx hb dX2_fillerOf_70 (by decide) ?_
            obtain ⟨x5_19, ex5_19⟩ : ∃ y : Int32, y = x5 + 1 := ⟨_, rfl⟩
            have hp := stk_e hp ex5_19
            refine lv_iinc (v := x5_19) (lv' := [(5, .int x5_19), (3, .int r_18), (0, .ref (qfo 0)), (1, .int p1), (2, .int p2), (4, .int x4)]) hx hb dX2_fillerOf_83 hl (k := 5) rfl (by rw [ex5_19]; rfl) (by decide) rfl (fun ls hl => ?_)
            refine lv_goto (tgt := 8) hx hb dX2_fillerOf_86 (by decide) ?_
            exact hk8 r_18 x4 x5_19 _ (lv_sub hl [2, 3, 4, 1, 5, 0] rfl) hp
        · have hp := ite_n hp c_12
          refine lv_goto (tgt := 83) hx hb dX2_fillerOf_45 (by decide) ?_
          obtain ⟨x5_20, ex5_20⟩ : ∃ y : Int32, y = x5 + 1 := ⟨_, rfl⟩
          have hp := stk_e hp ex5_20
          refine lv_iinc (v := x5_20) (lv' := [(5, .int x5_20), (0, .ref (qfo 0)), (1, .int p1), (2, .int p2), (3, .int x3), (4, .int x4)]) hx hb dX2_fillerOf_83 hl (k := 5) rfl (by rw [ex5_20]; rfl) (by decide) rfl (fun ls hl => ?_)
          refine lv_goto (tgt := 8) hx hb dX2_fillerOf_86 (by decide) ?_
          exact hk8 x3 x4 x5_20 _ (lv_sub hl [1, 2, 3, 4, 5, 0] rfl) hp
theorem Fi_fillerOf_b8_w (C0 : cX RX2 cX2_fillerOf (some .int) 6 p s m args meth c) (hK : kN D cy s) {qfo qro qra qvc qos qli : Nat → Nat} {fo ro ra vc os li : Mem} {p1 p2 : Int32} {r : Int32} (hP : va_P D vwCl (w_Fi cy qfo qro qra qvc qos qli fo ro ra vc os li) s.heap) : ∀ (n : Nat) (x3 x4 x5 : Int32) (ls : Array Slot), lv_has ls 6 [(0, .ref (qfo 0)), (1, .int p1), (2, .int p2), (3, .int x3), (4, .int x4), (5, .int x5)] → Fi_fillerOf_b8 fo ro p1 p2 n x3 x4 x5 = some r → W p l e (rmD 2) s m args below meth c s.heap [] 0 0 (qRO below args s r) (F0 m 8 ls []) := by
  intro n
  induction n with
  | zero =>
    intro x3 x4 x5 ls hl hp
    cases hp
  | succ n ih =>
    intro x3 x4 x5 ls hl hp
    exact Fi_fillerOf_b8B_w C0 hK hP  (fun x3 x4 x5 ls hl hp => ih x3 x4 x5 ls hl hp) hl hp
set_option maxHeartbeats 4000000 in
set_option maxRecDepth 100000 in
theorem c_X2_fillerOf (l : Launch) (D : va_G) (cy : Nat → ClassId) (qfo qro qra qvc qos qli : Nat → Nat) (fo ro ra vc os li : Mem) (p1 p2 : Int32) (r : Int32) (hp : Fi_fillerOf fo ro p1 p2 = some r) : RO l yX2_fillerOf cX2_fillerOf 6 (some .int) 2 D cy [.ref (qfo 0), .int p1, .int p2] (w_Fi cy qfo qro qra qvc qos qli fo ro ra vc os li) r := by
  refine RO_of RX2 rfl (by decide) (Nat.le_of_ble_eq_true rfl) ?_
  intro p e s m below meth c C0 hK hP ls hl
  obtain ⟨hx, hb, hr, hml, hown, hts, hk⟩ := id C0
  unfold Fi_fillerOf at hp
  have hl : lv_has ls 6 [(0, .ref (qfo 0)), (1, .int p1), (2, .int p2)] := hl
  refine lv_iconst (v := (-1)) hx hb dX2_fillerOf_0 (by decide) ?_
  refine lv_istore_n (lv' := [(3, .int (-1)), (0, .ref (qfo 0)), (1, .int p1), (2, .int p2)]) hx hb dX2_fillerOf_1 rfl hl (by decide) rfl (fun ls hl => ?_)
  refine lv_iconst (v := (-1)) hx hb dX2_fillerOf_2 (by decide) ?_
  refine lv_istore (lv' := [(4, .int (-1)), (3, .int (-1)), (0, .ref (qfo 0)), (1, .int p1), (2, .int p2)]) hx hb dX2_fillerOf_3 hl (by decide) rfl (fun ls hl => ?_)
  refine lv_iconst (v := 0) hx hb dX2_fillerOf_5 (by decide) ?_
  refine lv_istore (lv' := [(5, .int 0), (4, .int (-1)), (3, .int (-1)), (0, .ref (qfo 0)), (1, .int p1), (2, .int p2)]) hx hb dX2_fillerOf_6 hl (by decide) rfl (fun ls hl => ?_)
  exact Fi_fillerOf_b8_w C0 hK hP  fl (-1) (-1) 0 _ (lv_sub hl [3, 4, 5, 2, 1, 0] rfl) hp
/-! StormSlots$Field.fillFirst()Z -/
def Fi_fillFirst_b2B (ro : Mem) (k2 : Mem → Mem → Int32 → Option (Int32 × Mem × Mem)) (fo : Mem) (vc : Mem) (x1 : Int32) : Option (Int32 × Mem × Mem) :=
  if (vc 2 0) ≤ x1 then some (0, fo, vc) else bn1 (Va_minuteOf vc x1) (fun r_3 => bn1 (Va_keeperOf vc x1) (fun r_5 => bn1 (Fi_fillerOf fo ro r_3 r_5) (fun r_7 => if r_7 = (-1) then stk (x1 + 1) (fun x1_9 => k2 fo vc x1_9) else bn3 (Fi_takeVacancy fo ro vc r_7 x1) (fun r_11 fo_12 vc_13 => some (1, fo_12, vc_13)))))
def Fi_fillFirst_b2 (ro : Mem) : Nat → Mem → Mem → Int32 → Option (Int32 × Mem × Mem)
  | 0 => fun _ _ _ => none
  | n + 1 => Fi_fillFirst_b2B ro (Fi_fillFirst_b2 ro n)
def Fi_fillFirst (fo : Mem) (ro : Mem) (vc : Mem) : Option (Int32 × Mem × Mem) :=
  Fi_fillFirst_b2 ro fl fo vc 0
set_option maxHeartbeats 4000000 in
set_option maxRecDepth 100000 in
theorem Fi_fillFirst_b2B_w (C0 : cX RX2 cX2_fillFirst (some .boolean) 3 p s m args meth c) (hK : kN D cy s) {qfo qro qra qvc qos qli : Nat → Nat} {ro ra os li : Mem} {r : Int32} {fo' vc' : Mem} (hA : ∀ q, s.heap.size ≤ q → A q) {k2 : Mem → Mem → Int32 → Option (Int32 × Mem × Mem)} (hk2 : ∀ (fo vc : Mem) (x1 : Int32) (H : Heap) (locs : List Loc) (ls : Array Slot), va_P D vwCl (w_Fi cy qfo qro qra qvc qos qli fo ro ra vc os li) H → va_D A (w_Fi cy qfo qro qra qvc qos qli fo ro ra vc os li) → va_S A s.heap H locs → lv_has ls 3 [(0, .ref (qfo 0)), (1, .int x1)] → k2 fo vc x1 = some (r, fo', vc') → W p l e (rmD 3) s m args below meth c H locs 0 0 (qRI D below args s A (w_Fi cy qfo qro qra qvc qos qli fo' ro ra vc' os li) r) (F0 m 2 ls [])) {fo : Mem} {vc : Mem} {x1 : Int32} {H : Heap} {locs : List Loc} (hP : va_P D vwCl (w_Fi cy qfo qro qra qvc qos qli fo ro ra vc os li) H) (hD : va_D A (w_Fi cy qfo qro qra qvc qos qli fo ro ra vc os li)) (hS : va_S A s.heap H locs) {ls : Array Slot} (hl : lv_has ls 3 [(0, .ref (qfo 0)), (1, .int x1)]) (hp : Fi_fillFirst_b2B ro k2 fo vc x1 = some (r, fo', vc')) : W p l e (rmD 3) s m args below meth c H locs 0 0 (qRI D below args s A (w_Fi cy qfo qro qra qvc qos qli fo' ro ra vc' os li) r) (F0 m 2 ls []) := by
  obtain ⟨hx, hb, hr, hml, hown, hts, hk⟩ := id C0
  unfold Fi_fillFirst_b2B at hp
  refine lv_iload_n hx hb dX2_fillFirst_2 rfl (lv_at hl 1 rfl) ?_
  refine lv_aload_n hx hb dX2_fillFirst_3 rfl (lv_at hl 0 rfl) ?_
  refine gf_X2_28 hx hb hts hown hK hP 0 rfl rfl dX2_fillFirst_4 ?_
  refine gf_X2_102 hx hb hts hown hK hP 11 rfl rfl dX2_fillFirst_7 ?_
  refine lv_icmp_ge (tgt := 54) hx hb dX2_fillFirst_10 (by decide) (fun c_1 => ?_) (fun c_1 => ?_)
  · have hp := ite_p hp c_1
    refine lv_iconst (v := 0) hx hb dX2_fillFirst_54 (by decide) ?_
    simp only [Option.some.injEq, Prod.mk.injEq] at hp
    obtain ⟨h0, rfl, rfl⟩ := hp
    exact e_RIz hx hb hr hk (Or.inl rfl) hP hD hS dX2_fillFirst_55 h0
  · have hp := ite_n hp c_1
    refine lv_aload_n hx hb dX2_fillFirst_13 rfl (lv_at hl 0 rfl) ?_
    refine lv_aload_n hx hb dX2_fillFirst_14 rfl (lv_at hl 0 rfl) ?_
    refine gf_X2_28 hx hb hts hown hK hP 0 rfl rfl dX2_fillFirst_15 ?_
    refine lv_iload_n hx hb dX2_fillFirst_18 rfl (lv_at hl 1 rfl) ?_
    obtain ⟨r_3, hc_2, hp⟩ := bn1_s hp
    refine k_ROV (As := [.int x1]) (rest := [.ref (qfo 0)]) ⟨hx, hb, hml, hown, hts⟩ hK (hP.sub (ws' := (w_Va cy qvc vc)) [11, 12, 13] rfl) (cw_X2_153 hts ⟨Nat.le_of_ble_eq_true rfl, Nat.le_of_ble_eq_true rfl⟩) 0 (ci := 10) rfl rfl rfl (c_X10_minuteOf l D cy qvc vc x1 r_3 hc_2) rfl hl.1 (Nat.le_of_ble_eq_true rfl) ⟨Nat.le_refl _, Nat.le_refl _⟩ dX2_fillFirst_19 ?_
    refine lv_aload_n hx hb dX2_fillFirst_22 rfl (lv_at hl 0 rfl) ?_
    refine gf_X2_28 hx hb hts hown hK hP 0 rfl rfl dX2_fillFirst_23 ?_
    refine lv_iload_n hx hb dX2_fillFirst_26 rfl (lv_at hl 1 rfl) ?_
    obtain ⟨r_5, hc_4, hp⟩ := bn1_s hp
    refine k_ROV (As := [.int x1]) (rest := [.int r_3, .ref (qfo 0)]) ⟨hx, hb, hml, hown, hts⟩ hK (hP.sub (ws' := (w_Va cy qvc vc)) [11, 12, 13] rfl) (cw_X2_156 hts ⟨Nat.le_of_ble_eq_true rfl, Nat.le_of_ble_eq_true rfl⟩) 0 (ci := 10) rfl rfl rfl (c_X10_keeperOf l D cy qvc vc x1 r_5 hc_4) rfl hl.1 (Nat.le_of_ble_eq_true rfl) ⟨Nat.le_refl _, Nat.le_refl _⟩ dX2_fillFirst_27 ?_
    obtain ⟨r_7, hc_6, hp⟩ := bn1_s hp
    refine k_ROV (As := [.int r_3, .int r_5]) (rest := []) ⟨hx, hb, hml, hown, hts⟩ hK hP (cw_X2_166 hts ⟨Nat.le_of_ble_eq_true rfl, Nat.le_of_ble_eq_true rfl⟩) 0 (ci := 2) rfl rfl rfl (c_X2_fillerOf l D cy qfo qro qra qvc qos qli fo ro ra vc os li r_3 r_5 r_7 hc_6) rfl hl.1 (Nat.le_of_ble_eq_true rfl) ⟨Nat.le_refl _, Nat.le_refl _⟩ dX2_fillFirst_30 ?_
    refine lv_istore_n (lv' := [(2, .int r_7), (0, .ref (qfo 0)), (1, .int x1)]) hx hb dX2_fillFirst_33 rfl hl (by decide) rfl (fun ls hl => ?_)
    refine lv_iload_n hx hb dX2_fillFirst_34 rfl (lv_at hl 0 rfl) ?_
    refine lv_iconst (v := (-1)) hx hb dX2_fillFirst_35 (by decide) ?_
    refine lv_icmp_eq (tgt := 48) hx hb dX2_fillFirst_36 (by decide) (fun c_8 => ?_) (fun c_8 => ?_)
    · have hp := ite_p hp c_8
      obtain ⟨x1_9, ex1_9⟩ : ∃ y : Int32, y = x1 + 1 := ⟨_, rfl⟩
      have hp := stk_e hp ex1_9
      refine lv_iinc (v := x1_9) (lv' := [(1, .int x1_9), (2, .int r_7), (0, .ref (qfo 0))]) hx hb dX2_fillFirst_48 hl (k := 2) rfl (by rw [ex1_9]; rfl) (by decide) rfl (fun ls hl => ?_)
      refine lv_goto (tgt := 2) hx hb dX2_fillFirst_51 (by decide) ?_
      exact hk2 fo vc x1_9 _ _ _ hP hD hS (lv_sub hl [2, 0] rfl) hp
    · have hp := ite_n hp c_8
      refine lv_aload_n hx hb dX2_fillFirst_39 rfl (lv_at hl 1 rfl) ?_
      refine lv_iload_n hx hb dX2_fillFirst_40 rfl (lv_at hl 0 rfl) ?_
      refine lv_iload_n hx hb dX2_fillFirst_41 rfl (lv_at hl 2 rfl) ?_
      obtain ⟨r_11, fo_12, vc_13, hc_10, hp⟩ := bn3_s hp
      refine k_RIV (As := [.int r_7, .int x1]) (rest := []) ⟨hx, hb, hml, hown, hts⟩ hK hP hD hS hA FrS_rf (cw_X2_169 hts ⟨Nat.le_of_ble_eq_true rfl, Nat.le_of_ble_eq_true rfl⟩) 0 (ci := 2) rfl rfl rfl (c_X2_takeVacancy l D cy qfo qro qra qvc qos qli fo ro ra vc os li r_7 x1 r_11 fo_12 vc_13 hc_10) rfl hl.1 (Nat.le_of_ble_eq_true rfl) ⟨Nat.le_refl _, Nat.le_refl _⟩ dX2_fillFirst_42 (fun H locs hP hD hS => ?_)
      refine lv_pop hx hb dX2_fillFirst_45 rfl ?_
      refine lv_iconst (v := 1) hx hb dX2_fillFirst_46 (by decide) ?_
      simp only [Option.some.injEq, Prod.mk.injEq] at hp
      obtain ⟨h0, rfl, rfl⟩ := hp
      exact e_RIz hx hb hr hk (Or.inr rfl) hP hD hS dX2_fillFirst_47 h0
theorem Fi_fillFirst_b2_w (C0 : cX RX2 cX2_fillFirst (some .boolean) 3 p s m args meth c) (hK : kN D cy s) {qfo qro qra qvc qos qli : Nat → Nat} {ro ra os li : Mem} {r : Int32} {fo' vc' : Mem} (hA : ∀ q, s.heap.size ≤ q → A q) : ∀ (n : Nat) (fo vc : Mem) (x1 : Int32) (H : Heap) (locs : List Loc) (ls : Array Slot), va_P D vwCl (w_Fi cy qfo qro qra qvc qos qli fo ro ra vc os li) H → va_D A (w_Fi cy qfo qro qra qvc qos qli fo ro ra vc os li) → va_S A s.heap H locs → lv_has ls 3 [(0, .ref (qfo 0)), (1, .int x1)] → Fi_fillFirst_b2 ro n fo vc x1 = some (r, fo', vc') → W p l e (rmD 3) s m args below meth c H locs 0 0 (qRI D below args s A (w_Fi cy qfo qro qra qvc qos qli fo' ro ra vc' os li) r) (F0 m 2 ls []) := by
  intro n
  induction n with
  | zero =>
    intro fo vc x1 H locs ls hP hD hS hl hp
    cases hp
  | succ n ih =>
    intro fo vc x1 H locs ls hP hD hS hl hp
    exact Fi_fillFirst_b2B_w C0 hK hA  (fun fo vc x1 H locs ls hP hD hS hl hp => ih fo vc x1 H locs ls hP hD hS hl hp) hP hD hS hl hp
set_option maxHeartbeats 4000000 in
set_option maxRecDepth 100000 in
theorem c_X2_fillFirst (l : Launch) (D : va_G) (cy : Nat → ClassId) (qfo qro qra qvc qos qli : Nat → Nat) (fo ro ra vc os li : Mem) (r : Int32) (fo' vc' : Mem) (hp : Fi_fillFirst fo ro vc = some (r, fo', vc')) : RI l yX2_fillFirst cX2_fillFirst 3 (some .boolean) 3 D cy [.ref (qfo 0)] (w_Fi cy qfo qro qra qvc qos qli fo ro ra vc os li) (w_Fi cy qfo qro qra qvc qos qli fo' ro ra vc' os li) r := by
  refine RI_of RX2 rfl (by decide) (Nat.le_of_ble_eq_true rfl) ?_
  intro p e s m below meth c A C0 hK hP hD hS hA ls hl
  obtain ⟨hx, hb, hr, hml, hown, hts, hk⟩ := id C0
  unfold Fi_fillFirst at hp
  have hl : lv_has ls 3 [(0, .ref (qfo 0))] := hl
  refine lv_iconst (v := 0) hx hb dX2_fillFirst_0 (by decide) ?_
  refine lv_istore_n (lv' := [(1, .int 0), (0, .ref (qfo 0))]) hx hb dX2_fillFirst_1 rfl hl (by decide) rfl (fun ls hl => ?_)
  exact Fi_fillFirst_b2_w C0 hK hA  fl fo vc 0 _ _ _ hP hD hS (lv_sub hl [1, 0] rfl) hp
/-! StormSlots$Field.fillVacancies()I -/
def Fi_fillVacancies_b2B (ro : Mem) (k2 : Mem → Mem → Int32 → Option (Int32 × Mem × Mem)) (fo : Mem) (vc : Mem) (x1 : Int32) : Option (Int32 × Mem × Mem) :=
  if 1000 ≤ x1 then some (1000, fo, vc) else bn3 (Fi_fillFirst fo ro vc) (fun r_3 fo_4 vc_5 => if r_3 = 0 then some (x1, fo_4, vc_5) else stk (x1 + 1) (fun x1_7 => k2 fo_4 vc_5 x1_7))
def Fi_fillVacancies_b2 (ro : Mem) : Nat → Mem → Mem → Int32 → Option (Int32 × Mem × Mem)
  | 0 => fun _ _ _ => none
  | n + 1 => Fi_fillVacancies_b2B ro (Fi_fillVacancies_b2 ro n)
def Fi_fillVacancies (fo : Mem) (ro : Mem) (vc : Mem) : Option (Int32 × Mem × Mem) :=
  Fi_fillVacancies_b2 ro fl fo vc 0
set_option maxHeartbeats 4000000 in
set_option maxRecDepth 100000 in
theorem Fi_fillVacancies_b2B_w (C0 : cX RX2 cX2_fillVacancies (some .int) 2 p s m args meth c) (hK : kN D cy s) {qfo qro qra qvc qos qli : Nat → Nat} {ro ra os li : Mem} {r : Int32} {fo' vc' : Mem} (hA : ∀ q, s.heap.size ≤ q → A q) {k2 : Mem → Mem → Int32 → Option (Int32 × Mem × Mem)} (hk2 : ∀ (fo vc : Mem) (x1 : Int32) (H : Heap) (locs : List Loc) (ls : Array Slot), va_P D vwCl (w_Fi cy qfo qro qra qvc qos qli fo ro ra vc os li) H → va_D A (w_Fi cy qfo qro qra qvc qos qli fo ro ra vc os li) → va_S A s.heap H locs → lv_has ls 2 [(0, .ref (qfo 0)), (1, .int x1)] → k2 fo vc x1 = some (r, fo', vc') → W p l e (rmD 4) s m args below meth c H locs 0 0 (qRI D below args s A (w_Fi cy qfo qro qra qvc qos qli fo' ro ra vc' os li) r) (F0 m 2 ls [])) {fo : Mem} {vc : Mem} {x1 : Int32} {H : Heap} {locs : List Loc} (hP : va_P D vwCl (w_Fi cy qfo qro qra qvc qos qli fo ro ra vc os li) H) (hD : va_D A (w_Fi cy qfo qro qra qvc qos qli fo ro ra vc os li)) (hS : va_S A s.heap H locs) {ls : Array Slot} (hl : lv_has ls 2 [(0, .ref (qfo 0)), (1, .int x1)]) (hp : Fi_fillVacancies_b2B ro k2 fo vc x1 = some (r, fo', vc')) : W p l e (rmD 4) s m args below meth c H locs 0 0 (qRI D below args s A (w_Fi cy qfo qro qra qvc qos qli fo' ro ra vc' os li) r) (F0 m 2 ls []) := by
  obtain ⟨hx, hb, hr, hml, hown, hts, hk⟩ := id C0
  unfold Fi_fillVacancies_b2B at hp
  refine lv_iload_n hx hb dX2_fillVacancies_2 rfl (lv_at hl 1 rfl) ?_
  refine lv_sipush (v := 1000) hx hb dX2_fillVacancies_3 (by decide) ?_
  refine lv_icmp_ge (tgt := 24) hx hb dX2_fillVacancies_6 (by decide) (fun c_1 => ?_) (fun c_1 => ?_)
  · have hp := ite_p hp c_1
    refine lv_sipush (v := 1000) hx hb dX2_fillVacancies_24 (by decide) ?_
    simp only [Option.some.injEq, Prod.mk.injEq] at hp
    obtain ⟨h0, rfl, rfl⟩ := hp
    exact e_RIi hx hb hr hk hP hD hS dX2_fillVacancies_27 h0
  · have hp := ite_n hp c_1
    refine lv_aload_n hx hb dX2_fillVacancies_9 rfl (lv_at hl 0 rfl) ?_
    obtain ⟨r_3, fo_4, vc_5, hc_2, hp⟩ := bn3_s hp
    refine k_RIV (As := []) (rest := []) ⟨hx, hb, hml, hown, hts⟩ hK hP hD hS hA FrS_rf (cw_X2_162 hts ⟨Nat.le_of_ble_eq_true rfl, Nat.le_of_ble_eq_true rfl⟩) 0 (ci := 2) rfl rfl rfl (c_X2_fillFirst l D cy qfo qro qra qvc qos qli fo ro ra vc os li r_3 fo_4 vc_5 hc_2) rfl hl.1 (Nat.le_of_ble_eq_true rfl) ⟨Nat.le_refl _, Nat.le_refl _⟩ dX2_fillVacancies_10 (fun H locs hP hD hS => ?_)
    refine lv_if_ne (tgt := 18) hx hb dX2_fillVacancies_13 (by decide) (fun c_6 => ?_) (fun c_6 => ?_)
    · have hp := ite_n hp c_6
      obtain ⟨x1_7, ex1_7⟩ : ∃ y : Int32, y = x1 + 1 := ⟨_, rfl⟩
      have hp := stk_e hp ex1_7
      refine lv_iinc (v := x1_7) (lv' := [(1, .int x1_7), (0, .ref (qfo 0))]) hx hb dX2_fillVacancies_18 hl (k := 1) rfl (by rw [ex1_7]; rfl) (by decide) rfl (fun ls hl => ?_)
      refine lv_goto (tgt := 2) hx hb dX2_fillVacancies_21 (by decide) ?_
      exact hk2 fo_4 vc_5 x1_7 _ _ _ hP hD hS (lv_sub hl [1, 0] rfl) hp
    · have hp := ite_p hp c_6
      refine lv_iload_n hx hb dX2_fillVacancies_16 rfl (lv_at hl 1 rfl) ?_
      simp only [Option.some.injEq, Prod.mk.injEq] at hp
      obtain ⟨h0, rfl, rfl⟩ := hp
      exact e_RIi hx hb hr hk hP hD hS dX2_fillVacancies_17 h0
theorem Fi_fillVacancies_b2_w (C0 : cX RX2 cX2_fillVacancies (some .int) 2 p s m args meth c) (hK : kN D cy s) {qfo qro qra qvc qos qli : Nat → Nat} {ro ra os li : Mem} {r : Int32} {fo' vc' : Mem} (hA : ∀ q, s.heap.size ≤ q → A q) : ∀ (n : Nat) (fo vc : Mem) (x1 : Int32) (H : Heap) (locs : List Loc) (ls : Array Slot), va_P D vwCl (w_Fi cy qfo qro qra qvc qos qli fo ro ra vc os li) H → va_D A (w_Fi cy qfo qro qra qvc qos qli fo ro ra vc os li) → va_S A s.heap H locs → lv_has ls 2 [(0, .ref (qfo 0)), (1, .int x1)] → Fi_fillVacancies_b2 ro n fo vc x1 = some (r, fo', vc') → W p l e (rmD 4) s m args below meth c H locs 0 0 (qRI D below args s A (w_Fi cy qfo qro qra qvc qos qli fo' ro ra vc' os li) r) (F0 m 2 ls []) := by
  intro n
  induction n with
  | zero =>
    intro fo vc x1 H locs ls hP hD hS hl hp
    cases hp
  | succ n ih =>
    intro fo vc x1 H locs ls hP hD hS hl hp
    exact Fi_fillVacancies_b2B_w C0 hK hA  (fun fo vc x1 H locs ls hP hD hS hl hp => ih fo vc x1 H locs ls hP hD hS hl hp) hP hD hS hl hp
set_option maxHeartbeats 4000000 in
set_option maxRecDepth 100000 in
theorem c_X2_fillVacancies (l : Launch) (D : va_G) (cy : Nat → ClassId) (qfo qro qra qvc qos qli : Nat → Nat) (fo ro ra vc os li : Mem) (r : Int32) (fo' vc' : Mem) (hp : Fi_fillVacancies fo ro vc = some (r, fo', vc')) : RI l yX2_fillVacancies cX2_fillVacancies 2 (some .int) 4 D cy [.ref (qfo 0)] (w_Fi cy qfo qro qra qvc qos qli fo ro ra vc os li) (w_Fi cy qfo qro qra qvc qos qli fo' ro ra vc' os li) r := by
  refine RI_of RX2 rfl (by decide) (Nat.le_of_ble_eq_true rfl) ?_
  intro p e s m below meth c A C0 hK hP hD hS hA ls hl
  obtain ⟨hx, hb, hr, hml, hown, hts, hk⟩ := id C0
  unfold Fi_fillVacancies at hp
  have hl : lv_has ls 2 [(0, .ref (qfo 0))] := hl
  refine lv_iconst (v := 0) hx hb dX2_fillVacancies_0 (by decide) ?_
  refine lv_istore_n (lv' := [(1, .int 0), (0, .ref (qfo 0))]) hx hb dX2_fillVacancies_1 rfl hl (by decide) rfl (fun ls hl => ?_)
  exact Fi_fillVacancies_b2_w C0 hK hA  fl fo vc 0 _ _ _ hP hD hS (lv_sub hl [1, 0] rfl) hp
/-! StormSlots$Field.haveUnlikeLines(II)Z -/
def Fi_haveUnlikeLines (ro : Mem) (os : Mem) (p1 : Int32) (p2 : Int32) : Option (Int32) :=
  bn1 (Of_has os p1) (fun r_2 => if r_2 = 0 then some 0 else bn1 (Of_has os p2) (fun r_5 => if r_5 = 0 then some 0 else ckI p1 8 (ckI p2 8 (bn1 (Ro_sameLine ro (os 0 p1.toNatClampNeg) (os 0 p2.toNatClampNeg)) (fun r_10 => if r_10 = 0 then some 1 else some 0)))))
set_option maxHeartbeats 4000000 in
set_option maxRecDepth 100000 in
theorem c_X2_haveUnlikeLines (l : Launch) (D : va_G) (cy : Nat → ClassId) (qfo qro qra qvc qos qli : Nat → Nat) (fo ro ra vc os li : Mem) (p1 p2 : Int32) (r : Int32) (hp : Fi_haveUnlikeLines ro os p1 p2 = some r) : RO l yX2_haveUnlikeLines cX2_haveUnlikeLines 3 (some .boolean) 2 D cy [.ref (qfo 0), .int p1, .int p2] (w_Fi cy qfo qro qra qvc qos qli fo ro ra vc os li) r := by
  refine RO_of RX2 rfl (by decide) (Nat.le_of_ble_eq_true rfl) ?_
  intro p e s m below meth c C0 hK hP ls hl
  obtain ⟨hx, hb, hr, hml, hown, hts, hk⟩ := id C0
  unfold Fi_haveUnlikeLines at hp
  have hl : lv_has ls 3 [(0, .ref (qfo 0)), (1, .int p1), (2, .int p2)] := hl
  refine lv_aload_n hx hb dX2_haveUnlikeLines_0 rfl (lv_at hl 0 rfl) ?_
  refine gf_X2_35 hx hb hts hown hK hP 0 rfl rfl dX2_haveUnlikeLines_1 ?_
  refine lv_iload_n hx hb dX2_haveUnlikeLines_4 rfl (lv_at hl 1 rfl) ?_
  obtain ⟨r_2, hc_1, hp⟩ := bn1_s hp
  refine k_ROV (As := [.int p1]) (rest := []) ⟨hx, hb, hml, hown, hts⟩ hK (hP.sub (ws' := (w_Of cy qos os)) [14, 15, 16, 17, 18] rfl) (cw_X2_184 hts ⟨Nat.le_of_ble_eq_true rfl, Nat.le_of_ble_eq_true rfl⟩) 0 (ci := 4) rfl rfl rfl (c_X4_has l D cy qos os p1 r_2 hc_1) rfl hl.1 (Nat.le_of_ble_eq_true rfl) ⟨Nat.le_refl _, Nat.le_refl _⟩ dX2_haveUnlikeLines_5 ?_
  refine lv_if_eq (tgt := 54) hx hb dX2_haveUnlikeLines_8 (by decide) (fun c_3 => ?_) (fun c_3 => ?_)
  · have hp := ite_p hp c_3
    refine lv_iconst (v := 0) hx hb dX2_haveUnlikeLines_54 (by decide) ?_
    exact e_ROz hx hb hr hk (Or.inl rfl) dX2_haveUnlikeLines_55 (Option.some.inj hp)
  · have hp := ite_n hp c_3
    refine lv_aload_n hx hb dX2_haveUnlikeLines_11 rfl (lv_at hl 0 rfl) ?_
    refine gf_X2_35 hx hb hts hown hK hP 0 rfl rfl dX2_haveUnlikeLines_12 ?_
    refine lv_iload_n hx hb dX2_haveUnlikeLines_15 rfl (lv_at hl 2 rfl) ?_
    obtain ⟨r_5, hc_4, hp⟩ := bn1_s hp
    refine k_ROV (As := [.int p2]) (rest := []) ⟨hx, hb, hml, hown, hts⟩ hK (hP.sub (ws' := (w_Of cy qos os)) [14, 15, 16, 17, 18] rfl) (cw_X2_184 hts ⟨Nat.le_of_ble_eq_true rfl, Nat.le_of_ble_eq_true rfl⟩) 0 (ci := 4) rfl rfl rfl (c_X4_has l D cy qos os p2 r_5 hc_4) rfl hl.1 (Nat.le_of_ble_eq_true rfl) ⟨Nat.le_refl _, Nat.le_refl _⟩ dX2_haveUnlikeLines_16 ?_
    refine lv_if_eq (tgt := 54) hx hb dX2_haveUnlikeLines_19 (by decide) (fun c_6 => ?_) (fun c_6 => ?_)
    · have hp := ite_p hp c_6
      refine lv_iconst (v := 0) hx hb dX2_haveUnlikeLines_54 (by decide) ?_
      exact e_ROz hx hb hr hk (Or.inl rfl) dX2_haveUnlikeLines_55 (Option.some.inj hp)
    · have hp := ite_n hp c_6
      refine lv_aload_n hx hb dX2_haveUnlikeLines_22 rfl (lv_at hl 0 rfl) ?_
      refine gf_X2_12 hx hb hts hown hK hP 0 rfl rfl dX2_haveUnlikeLines_23 ?_
      refine lv_aload_n hx hb dX2_haveUnlikeLines_26 rfl (lv_at hl 0 rfl) ?_
      refine gf_X2_35 hx hb hts hown hK hP 0 rfl rfl dX2_haveUnlikeLines_27 ?_
      refine gf_X2_187 hx hb hts hown hK hP 14 rfl rfl dX2_haveUnlikeLines_30 ?_
      refine lv_iload_n hx hb dX2_haveUnlikeLines_33 rfl (lv_at hl 1 rfl) ?_
      obtain ⟨hi_7, hp⟩ := ckI_s hp
      refine r_ild hx hb hK hP 15 rfl hi_7 dX2_haveUnlikeLines_34 ?_
      refine lv_aload_n hx hb dX2_haveUnlikeLines_35 rfl (lv_at hl 0 rfl) ?_
      refine gf_X2_35 hx hb hts hown hK hP 0 rfl rfl dX2_haveUnlikeLines_36 ?_
      refine gf_X2_187 hx hb hts hown hK hP 14 rfl rfl dX2_haveUnlikeLines_39 ?_
      refine lv_iload_n hx hb dX2_haveUnlikeLines_42 rfl (lv_at hl 2 rfl) ?_
      obtain ⟨hi_8, hp⟩ := ckI_s hp
      refine r_ild hx hb hK hP 15 rfl hi_8 dX2_haveUnlikeLines_43 ?_
      obtain ⟨r_10, hc_9, hp⟩ := bn1_s hp
      refine k_ROV (As := [.int (os 0 p1.toNatClampNeg), .int (os 0 p2.toNatClampNeg)]) (rest := []) ⟨hx, hb, hml, hown, hts⟩ hK (hP.sub (ws' := (w_Ro cy qro ro)) [4, 5, 6, 7, 8] rfl) (cw_X2_143 hts ⟨Nat.le_of_ble_eq_true rfl, Nat.le_of_ble_eq_true rfl⟩) 0 (ci := 9) rfl rfl rfl (c_X9_sameLine l D cy qro ro (os 0 p1.toNatClampNeg) (os 0 p2.toNatClampNeg) r_10 hc_9) rfl hl.1 (Nat.le_of_ble_eq_true rfl) ⟨Nat.le_refl _, Nat.le_refl _⟩ dX2_haveUnlikeLines_44 ?_
      refine lv_if_ne (tgt := 54) hx hb dX2_haveUnlikeLines_47 (by decide) (fun c_11 => ?_) (fun c_11 => ?_)
      · have hp := ite_n hp c_11
        refine lv_iconst (v := 0) hx hb dX2_haveUnlikeLines_54 (by decide) ?_
        exact e_ROz hx hb hr hk (Or.inl rfl) dX2_haveUnlikeLines_55 (Option.some.inj hp)
      · have hp := ite_p hp c_11
        refine lv_iconst (v := 1) hx hb dX2_haveUnlikeLines_50 (by decide) ?_
        refine lv_goto (tgt := 55) hx hb dX2_haveUnlikeLines_51 (by decide) ?_
        exact e_ROz hx hb hr hk (Or.inr rfl) dX2_haveUnlikeLines_55 (Option.some.inj hp)
/-! StormSlots$Field.canTrade(II)Z -/
def Fi_canTrade (fo : Mem) (ro : Mem) (os : Mem) (p1 : Int32) (p2 : Int32) : Option (Int32) :=
  ckI p1 8 (stk (os 2 p1.toNatClampNeg) (fun x3_2 => ckI p2 8 (stk (os 0 p2.toNatClampNeg) (fun x4_4 => bn1 (Fi_isGrounded fo ro x3_2) (fun r_6 => if r_6 = 0 then some 0 else bn1 (Fi_isGrounded fo ro x4_4) (fun r_9 => if r_9 = 0 then some 0 else ckI x4_4 20 (stk (fo 5 x4_4.toNatClampNeg) (fun x5_12 => ckI x3_2 20 (stk (fo 5 x3_2.toNatClampNeg) (fun x6_14 => if x6_14 ≤ x5_12 then some 0 else if (os 3 p1.toNatClampNeg) < x5_12 then some 0 else bn1 (Fi_earliest fo ro x3_2) (fun r_18 => if r_18 ≤ x5_12 then if (os 1 p2.toNatClampNeg) < x6_14 then some 0 else bn1 (Fi_earliest fo ro x4_4) (fun r_22 => if x6_14 < r_22 then some 0 else some 1) else some 0)))))))))))
set_option maxHeartbeats 4000000 in
set_option maxRecDepth 100000 in
theorem c_X2_canTrade (l : Launch) (D : va_G) (cy : Nat → ClassId) (qfo qro qra qvc qos qli : Nat → Nat) (fo ro ra vc os li : Mem) (p1 p2 : Int32) (r : Int32) (hp : Fi_canTrade fo ro os p1 p2 = some r) : RO l yX2_canTrade cX2_canTrade 7 (some .boolean) 2 D cy [.ref (qfo 0), .int p1, .int p2] (w_Fi cy qfo qro qra qvc qos qli fo ro ra vc os li) r := by
  refine RO_of RX2 rfl (by decide) (Nat.le_of_ble_eq_true rfl) ?_
  intro p e s m below meth c C0 hK hP ls hl
  obtain ⟨hx, hb, hr, hml, hown, hts, hk⟩ := id C0
  unfold Fi_canTrade at hp
  have hl : lv_has ls 7 [(0, .ref (qfo 0)), (1, .int p1), (2, .int p2)] := hl
  refine lv_aload_n hx hb dX2_canTrade_0 rfl (lv_at hl 0 rfl) ?_
  refine gf_X2_35 hx hb hts hown hK hP 0 rfl rfl dX2_canTrade_1 ?_
  refine gf_X2_190 hx hb hts hown hK hP 14 rfl rfl dX2_canTrade_4 ?_
  refine lv_iload_n hx hb dX2_canTrade_7 rfl (lv_at hl 1 rfl) ?_
  obtain ⟨hi_1, hp⟩ := ckI_s hp
  refine r_ild hx hb hK hP 17 rfl hi_1 dX2_canTrade_8 ?_
  refine lv_topi (fun x3_2 ex3_2 => ?_)
  have hp := stk_e hp ex3_2
  refine lv_istore_n (lv' := [(3, .int x3_2), (0, .ref (qfo 0)), (1, .int p1), (2, .int p2)]) hx hb dX2_canTrade_9 rfl hl (by decide) rfl (fun ls hl => ?_)
  refine lv_aload_n hx hb dX2_canTrade_10 rfl (lv_at hl 1 rfl) ?_
  refine gf_X2_35 hx hb hts hown hK hP 0 rfl rfl dX2_canTrade_11 ?_
  refine gf_X2_187 hx hb hts hown hK hP 14 rfl rfl dX2_canTrade_14 ?_
  refine lv_iload_n hx hb dX2_canTrade_17 rfl (lv_at hl 3 rfl) ?_
  obtain ⟨hi_3, hp⟩ := ckI_s hp
  refine r_ild hx hb hK hP 15 rfl hi_3 dX2_canTrade_18 ?_
  refine lv_topi (fun x4_4 ex4_4 => ?_)
  have hp := stk_e hp ex4_4
  refine lv_istore (lv' := [(4, .int x4_4), (3, .int x3_2), (0, .ref (qfo 0)), (1, .int p1), (2, .int p2)]) hx hb dX2_canTrade_19 hl (by decide) rfl (fun ls hl => ?_)
  refine lv_aload_n hx hb dX2_canTrade_21 rfl (lv_at hl 2 rfl) ?_
  refine lv_iload_n hx hb dX2_canTrade_22 rfl (lv_at hl 1 rfl) ?_
  obtain ⟨r_6, hc_5, hp⟩ := bn1_s hp
  refine k_ROV (As := [.int x3_2]) (rest := []) ⟨hx, hb, hml, hown, hts⟩ hK hP (cw_X2_136 hts ⟨Nat.le_of_ble_eq_true rfl, Nat.le_of_ble_eq_true rfl⟩) 0 (ci := 2) rfl rfl rfl (c_X2_isGrounded l D cy qfo qro qra qvc qos qli fo ro ra vc os li x3_2 r_6 hc_5) rfl hl.1 (Nat.le_of_ble_eq_true rfl) ⟨Nat.le_refl _, Nat.le_refl _⟩ dX2_canTrade_23 ?_
  refine lv_if_eq (tgt := 38) hx hb dX2_canTrade_26 (by decide) (fun c_7 => ?_) (fun c_7 => ?_)
  · have hp := ite_p hp c_7
    refine lv_iconst (v := 0) hx hb dX2_canTrade_38 (by decide) ?_
    exact e_ROz hx hb hr hk (Or.inl rfl) dX2_canTrade_39 (Option.some.inj hp)
  · have hp := ite_n hp c_7
    refine lv_aload_n hx hb dX2_canTrade_29 rfl (lv_at hl 2 rfl) ?_
    refine lv_iload hx hb dX2_canTrade_30 (lv_at hl 0 rfl) ?_
    obtain ⟨r_9, hc_8, hp⟩ := bn1_s hp
    refine k_ROV (As := [.int x4_4]) (rest := []) ⟨hx, hb, hml, hown, hts⟩ hK hP (cw_X2_136 hts ⟨Nat.le_of_ble_eq_true rfl, Nat.le_of_ble_eq_true rfl⟩) 0 (ci := 2) rfl rfl rfl (c_X2_isGrounded l D cy qfo qro qra qvc qos qli fo ro ra vc os li x4_4 r_9 hc_8) rfl hl.1 (Nat.le_of_ble_eq_true rfl) ⟨Nat.le_refl _, Nat.le_refl _⟩ dX2_canTrade_32 ?_
    refine lv_if_ne (tgt := 40) hx hb dX2_canTrade_35 (by decide) (fun c_10 => ?_) (fun c_10 => ?_)
    · have hp := ite_n hp c_10
      refine lv_aload_n hx hb dX2_canTrade_40 rfl (lv_at hl 2 rfl) ?_
      refine gf_X2_46 hx hb hts hown hK hP 0 rfl rfl dX2_canTrade_41 ?_
      refine lv_iload hx hb dX2_canTrade_44 (lv_at hl 0 rfl) ?_
      obtain ⟨hi_11, hp⟩ := ckI_s hp
      refine r_ild hx hb hK hP 1 rfl hi_11 dX2_canTrade_46 ?_
      refine lv_topi (fun x5_12 ex5_12 => ?_)
      have hp := stk_e hp ex5_12
      refine lv_istore (lv' := [(5, .int x5_12), (4, .int x4_4), (3, .int x3_2), (0, .ref (qfo 0)), (1, .int p1), (2, .int p2)]) hx hb dX2_canTrade_47 hl (by decide) rfl (fun ls hl => ?_)
      refine lv_aload_n hx hb dX2_canTrade_49 rfl (lv_at hl 3 rfl) ?_
      refine gf_X2_46 hx hb hts hown hK hP 0 rfl rfl dX2_canTrade_50 ?_
      refine lv_iload_n hx hb dX2_canTrade_53 rfl (lv_at hl 2 rfl) ?_
      obtain ⟨hi_13, hp⟩ := ckI_s hp
      refine r_ild hx hb hK hP 1 rfl hi_13 dX2_canTrade_54 ?_
      refine lv_topi (fun x6_14 ex6_14 => ?_)
      have hp := stk_e hp ex6_14
      refine lv_istore (lv' := [(6, .int x6_14), (5, .int x5_12), (4, .int x4_4), (3, .int x3_2), (0, .ref (qfo 0)), (1, .int p1), (2, .int p2)]) hx hb dX2_canTrade_55 hl (by decide) rfl (fun ls hl => ?_)
      refine lv_iload hx hb dX2_canTrade_57 (lv_at hl 1 rfl) ?_
      refine lv_iload hx hb dX2_canTrade_59 (lv_at hl 0 rfl) ?_
      refine lv_icmp_ge (tgt := 88) hx hb dX2_canTrade_61 (by decide) (fun c_15 => ?_) (fun c_15 => ?_)
      · have hp := ite_p hp c_15
        refine lv_iconst (v := 0) hx hb dX2_canTrade_88 (by decide) ?_
        exact e_ROz hx hb hr hk (Or.inl rfl) dX2_canTrade_89 (Option.some.inj hp)
      · have hp := ite_n hp c_15
        refine lv_iload hx hb dX2_canTrade_64 (lv_at hl 1 rfl) ?_
        refine lv_aload_n hx hb dX2_canTrade_66 rfl (lv_at hl 4 rfl) ?_
        refine gf_X2_35 hx hb hts hown hK hP 0 rfl rfl dX2_canTrade_67 ?_
        refine gf_X2_193 hx hb hts hown hK hP 14 rfl rfl dX2_canTrade_70 ?_
        refine lv_iload_n hx hb dX2_canTrade_73 rfl (lv_at hl 5 rfl) ?_
        refine r_ild hx hb hK hP 18 rfl hi_1 dX2_canTrade_74 ?_
        refine lv_icmp_gt (tgt := 88) hx hb dX2_canTrade_75 (by decide) (fun c_16 => ?_) (fun c_16 => ?_)
        · have hp := ite_p hp c_16
          refine lv_iconst (v := 0) hx hb dX2_canTrade_88 (by decide) ?_
          exact e_ROz hx hb hr hk (Or.inl rfl) dX2_canTrade_89 (Option.some.inj hp)
        · have hp := ite_n hp c_16
          refine lv_iload hx hb dX2_canTrade_78 (lv_at hl 1 rfl) ?_
          refine lv_aload_n hx hb dX2_canTrade_80 rfl (lv_at hl 4 rfl) ?_
          refine lv_iload_n hx hb dX2_canTrade_81 rfl (lv_at hl 3 rfl) ?_
          obtain ⟨r_18, hc_17, hp⟩ := bn1_s hp
          refine k_ROV (As := [.int x3_2]) (rest := [.int x5_12]) ⟨hx, hb, hml, hown, hts⟩ hK hP (cw_X2_147 hts ⟨Nat.le_of_ble_eq_true rfl, Nat.le_of_ble_eq_true rfl⟩) 0 (ci := 2) rfl rfl rfl (c_X2_earliest l D cy qfo qro qra qvc qos qli fo ro ra vc os li x3_2 r_18 hc_17) rfl hl.1 (Nat.le_of_ble_eq_true rfl) ⟨Nat.le_refl _, Nat.le_refl _⟩ dX2_canTrade_82 ?_
          refine lv_icmp_ge (tgt := 90) hx hb dX2_canTrade_85 (by decide) (fun c_19 => ?_) (fun c_19 => ?_)
          · have hp := ite_p hp c_19
            refine lv_iload hx hb dX2_canTrade_90 (lv_at hl 0 rfl) ?_
            refine lv_aload_n hx hb dX2_canTrade_92 rfl (lv_at hl 4 rfl) ?_
            refine gf_X2_35 hx hb hts hown hK hP 0 rfl rfl dX2_canTrade_93 ?_
            refine gf_X2_196 hx hb hts hown hK hP 14 rfl rfl dX2_canTrade_96 ?_
            refine lv_iload_n hx hb dX2_canTrade_99 rfl (lv_at hl 6 rfl) ?_
            refine r_ild hx hb hK hP 16 rfl hi_3 dX2_canTrade_100 ?_
            refine lv_icmp_gt (tgt := 119) hx hb dX2_canTrade_101 (by decide) (fun c_20 => ?_) (fun c_20 => ?_)
            · have hp := ite_p hp c_20
              refine lv_iconst (v := 0) hx hb dX2_canTrade_119 (by decide) ?_
              exact e_ROz hx hb hr hk (Or.inl rfl) dX2_canTrade_120 (Option.some.inj hp)
            · have hp := ite_n hp c_20
              refine lv_iload hx hb dX2_canTrade_104 (lv_at hl 0 rfl) ?_
              refine lv_aload_n hx hb dX2_canTrade_106 rfl (lv_at hl 4 rfl) ?_
              refine lv_iload hx hb dX2_canTrade_107 (lv_at hl 2 rfl) ?_
              obtain ⟨r_22, hc_21, hp⟩ := bn1_s hp
              refine k_ROV (As := [.int x4_4]) (rest := [.int x6_14]) ⟨hx, hb, hml, hown, hts⟩ hK hP (cw_X2_147 hts ⟨Nat.le_of_ble_eq_true rfl, Nat.le_of_ble_eq_true rfl⟩) 0 (ci := 2) rfl rfl rfl (c_X2_earliest l D cy qfo qro qra qvc qos qli fo ro ra vc os li x4_4 r_22 hc_21) rfl hl.1 (Nat.le_of_ble_eq_true rfl) ⟨Nat.le_refl _, Nat.le_refl _⟩ dX2_canTrade_109 ?_
              refine lv_icmp_lt (tgt := 119) hx hb dX2_canTrade_112 (by decide) (fun c_23 => ?_) (fun c_23 => ?_)
              · have hp := ite_p hp c_23
                refine lv_iconst (v := 0) hx hb dX2_canTrade_119 (by decide) ?_
                exact e_ROz hx hb hr hk (Or.inl rfl) dX2_canTrade_120 (Option.some.inj hp)
              · have hp := ite_n hp c_23
                refine lv_iconst (v := 1) hx hb dX2_canTrade_115 (by decide) ?_
                refine lv_goto (tgt := 120) hx hb dX2_canTrade_116 (by decide) ?_
                exact e_ROz hx hb hr hk (Or.inr rfl) dX2_canTrade_120 (Option.some.inj hp)
          · have hp := ite_n hp c_19
            refine lv_iconst (v := 0) hx hb dX2_canTrade_88 (by decide) ?_
            exact e_ROz hx hb hr hk (Or.inl rfl) dX2_canTrade_89 (Option.some.inj hp)
    · have hp := ite_p hp c_10
      refine lv_iconst (v := 0) hx hb dX2_canTrade_38 (by decide) ?_
      exact e_ROz hx hb hr hk (Or.inl rfl) dX2_canTrade_39 (Option.some.inj hp)
/-! StormSlots$Field.canDeal(II)Z -/
def Fi_canDeal (fo : Mem) (ro : Mem) (os : Mem) (p1 : Int32) (p2 : Int32) : Option (Int32) :=
  bn1 (Fi_haveUnlikeLines ro os p1 p2) (fun r_2 => if r_2 = 0 then some 0 else bn1 (Fi_canTrade fo ro os p1 p2) (fun r_5 => if r_5 = 0 then some 0 else bn1 (Fi_canTrade fo ro os p2 p1) (fun r_8 => if r_8 = 0 then some 0 else some 1)))
set_option maxHeartbeats 4000000 in
set_option maxRecDepth 100000 in
theorem c_X2_canDeal (l : Launch) (D : va_G) (cy : Nat → ClassId) (qfo qro qra qvc qos qli : Nat → Nat) (fo ro ra vc os li : Mem) (p1 p2 : Int32) (r : Int32) (hp : Fi_canDeal fo ro os p1 p2 = some r) : RO l yX2_canDeal cX2_canDeal 3 (some .boolean) 3 D cy [.ref (qfo 0), .int p1, .int p2] (w_Fi cy qfo qro qra qvc qos qli fo ro ra vc os li) r := by
  refine RO_of RX2 rfl (by decide) (Nat.le_of_ble_eq_true rfl) ?_
  intro p e s m below meth c C0 hK hP ls hl
  obtain ⟨hx, hb, hr, hml, hown, hts, hk⟩ := id C0
  unfold Fi_canDeal at hp
  have hl : lv_has ls 3 [(0, .ref (qfo 0)), (1, .int p1), (2, .int p2)] := hl
  refine lv_aload_n hx hb dX2_canDeal_0 rfl (lv_at hl 0 rfl) ?_
  refine lv_iload_n hx hb dX2_canDeal_1 rfl (lv_at hl 1 rfl) ?_
  refine lv_iload_n hx hb dX2_canDeal_2 rfl (lv_at hl 2 rfl) ?_
  obtain ⟨r_2, hc_1, hp⟩ := bn1_s hp
  refine k_ROV (As := [.int p1, .int p2]) (rest := []) ⟨hx, hb, hml, hown, hts⟩ hK hP (cw_X2_175 hts ⟨Nat.le_of_ble_eq_true rfl, Nat.le_of_ble_eq_true rfl⟩) 0 (ci := 2) rfl rfl rfl (c_X2_haveUnlikeLines l D cy qfo qro qra qvc qos qli fo ro ra vc os li p1 p2 r_2 hc_1) rfl hl.1 (Nat.le_of_ble_eq_true rfl) ⟨Nat.le_refl _, Nat.le_refl _⟩ dX2_canDeal_3 ?_
  refine lv_if_eq (tgt := 31) hx hb dX2_canDeal_6 (by decide) (fun c_3 => ?_) (fun c_3 => ?_)
  · have hp := ite_p hp c_3
    refine lv_iconst (v := 0) hx hb dX2_canDeal_31 (by decide) ?_
    exact e_ROz hx hb hr hk (Or.inl rfl) dX2_canDeal_32 (Option.some.inj hp)
  · have hp := ite_n hp c_3
    refine lv_aload_n hx hb dX2_canDeal_9 rfl (lv_at hl 0 rfl) ?_
    refine lv_iload_n hx hb dX2_canDeal_10 rfl (lv_at hl 1 rfl) ?_
    refine lv_iload_n hx hb dX2_canDeal_11 rfl (lv_at hl 2 rfl) ?_
    obtain ⟨r_5, hc_4, hp⟩ := bn1_s hp
    refine k_ROV (As := [.int p1, .int p2]) (rest := []) ⟨hx, hb, hml, hown, hts⟩ hK hP (cw_X2_178 hts ⟨Nat.le_of_ble_eq_true rfl, Nat.le_of_ble_eq_true rfl⟩) 0 (ci := 2) rfl rfl rfl (c_X2_canTrade l D cy qfo qro qra qvc qos qli fo ro ra vc os li p1 p2 r_5 hc_4) rfl hl.1 (Nat.le_of_ble_eq_true rfl) ⟨Nat.le_refl _, Nat.le_refl _⟩ dX2_canDeal_12 ?_
    refine lv_if_eq (tgt := 31) hx hb dX2_canDeal_15 (by decide) (fun c_6 => ?_) (fun c_6 => ?_)
    · have hp := ite_p hp c_6
      refine lv_iconst (v := 0) hx hb dX2_canDeal_31 (by decide) ?_
      exact e_ROz hx hb hr hk (Or.inl rfl) dX2_canDeal_32 (Option.some.inj hp)
    · have hp := ite_n hp c_6
      refine lv_aload_n hx hb dX2_canDeal_18 rfl (lv_at hl 0 rfl) ?_
      refine lv_iload_n hx hb dX2_canDeal_19 rfl (lv_at hl 2 rfl) ?_
      refine lv_iload_n hx hb dX2_canDeal_20 rfl (lv_at hl 1 rfl) ?_
      obtain ⟨r_8, hc_7, hp⟩ := bn1_s hp
      refine k_ROV (As := [.int p2, .int p1]) (rest := []) ⟨hx, hb, hml, hown, hts⟩ hK hP (cw_X2_178 hts ⟨Nat.le_of_ble_eq_true rfl, Nat.le_of_ble_eq_true rfl⟩) 0 (ci := 2) rfl rfl rfl (c_X2_canTrade l D cy qfo qro qra qvc qos qli fo ro ra vc os li p2 p1 r_8 hc_7) rfl hl.1 (Nat.le_of_ble_eq_true rfl) ⟨Nat.le_refl _, Nat.le_refl _⟩ dX2_canDeal_21 ?_
      refine lv_if_eq (tgt := 31) hx hb dX2_canDeal_24 (by decide) (fun c_9 => ?_) (fun c_9 => ?_)
      · have hp := ite_p hp c_9
        refine lv_iconst (v := 0) hx hb dX2_canDeal_31 (by decide) ?_
        exact e_ROz hx hb hr hk (Or.inl rfl) dX2_canDeal_32 (Option.some.inj hp)
      · have hp := ite_n hp c_9
        refine lv_iconst (v := 1) hx hb dX2_canDeal_27 (by decide) ?_
        refine lv_goto (tgt := 32) hx hb dX2_canDeal_28 (by decide) ?_
        exact e_ROz hx hb hr hk (Or.inr rfl) dX2_canDeal_32 (Option.some.inj hp)
/-! StormSlots$Field.tradeGain(II)I -/
def Fi_tradeGain (fo : Mem) (ro : Mem) (os : Mem) (p1 : Int32) (p2 : Int32) : Option (Int32) :=
  bn1 (Of_has os p1) (fun r_2 => if r_2 = 0 then some 0 else bn1 (Of_has os p2) (fun r_5 => if r_5 = 0 then some 0 else ckI p1 8 (stk (os 2 p1.toNatClampNeg) (fun x3_8 => ckI p2 8 (stk (os 0 p2.toNatClampNeg) (fun x4_10 => bn1 (Fi_isSeated fo x3_8) (fun r_12 => if r_12 = 0 then some 0 else bn1 (Fi_isSeated fo x4_10) (fun r_15 => if r_15 = 0 then some 0 else ckI x3_8 20 (ckI x4_10 20 (some (((ro 3 x3_8.toNatClampNeg) - (ro 3 x4_10.toNatClampNeg)) * ((fo 5 x3_8.toNatClampNeg) - (fo 5 x4_10.toNatClampNeg)))))))))))))
set_option maxHeartbeats 4000000 in
set_option maxRecDepth 100000 in
theorem c_X2_tradeGain (l : Launch) (D : va_G) (cy : Nat → ClassId) (qfo qro qra qvc qos qli : Nat → Nat) (fo ro ra vc os li : Mem) (p1 p2 : Int32) (r : Int32) (hp : Fi_tradeGain fo ro os p1 p2 = some r) : RO l yX2_tradeGain cX2_tradeGain 5 (some .int) 1 D cy [.ref (qfo 0), .int p1, .int p2] (w_Fi cy qfo qro qra qvc qos qli fo ro ra vc os li) r := by
  refine RO_of RX2 rfl (by decide) (Nat.le_of_ble_eq_true rfl) ?_
  intro p e s m below meth c C0 hK hP ls hl
  obtain ⟨hx, hb, hr, hml, hown, hts, hk⟩ := id C0
  unfold Fi_tradeGain at hp
  have hl : lv_has ls 5 [(0, .ref (qfo 0)), (1, .int p1), (2, .int p2)] := hl
  refine lv_aload_n hx hb dX2_tradeGain_0 rfl (lv_at hl 0 rfl) ?_
  refine gf_X2_35 hx hb hts hown hK hP 0 rfl rfl dX2_tradeGain_1 ?_
  refine lv_iload_n hx hb dX2_tradeGain_4 rfl (lv_at hl 1 rfl) ?_
  obtain ⟨r_2, hc_1, hp⟩ := bn1_s hp
  refine k_ROV (As := [.int p1]) (rest := []) ⟨hx, hb, hml, hown, hts⟩ hK (hP.sub (ws' := (w_Of cy qos os)) [14, 15, 16, 17, 18] rfl) (cw_X2_184 hts ⟨Nat.le_of_ble_eq_true rfl, Nat.le_of_ble_eq_true rfl⟩) 0 (ci := 4) rfl rfl rfl (c_X4_has l D cy qos os p1 r_2 hc_1) rfl hl.1 (Nat.le_of_ble_eq_true rfl) ⟨Nat.le_refl _, Nat.le_refl _⟩ dX2_tradeGain_5 ?_
  refine lv_if_eq (tgt := 22) hx hb dX2_tradeGain_8 (by decide) (fun c_3 => ?_) (fun c_3 => ?_)
  · have hp := ite_p hp c_3
    refine lv_iconst (v := 0) hx hb dX2_tradeGain_22 (by decide) ?_
    exact e_ROi hx hb hr hk dX2_tradeGain_23 (Option.some.inj hp)
  · have hp := ite_n hp c_3
    refine lv_aload_n hx hb dX2_tradeGain_11 rfl (lv_at hl 0 rfl) ?_
    refine gf_X2_35 hx hb hts hown hK hP 0 rfl rfl dX2_tradeGain_12 ?_
    refine lv_iload_n hx hb dX2_tradeGain_15 rfl (lv_at hl 2 rfl) ?_
    obtain ⟨r_5, hc_4, hp⟩ := bn1_s hp
    refine k_ROV (As := [.int p2]) (rest := []) ⟨hx, hb, hml, hown, hts⟩ hK (hP.sub (ws' := (w_Of cy qos os)) [14, 15, 16, 17, 18] rfl) (cw_X2_184 hts ⟨Nat.le_of_ble_eq_true rfl, Nat.le_of_ble_eq_true rfl⟩) 0 (ci := 4) rfl rfl rfl (c_X4_has l D cy qos os p2 r_5 hc_4) rfl hl.1 (Nat.le_of_ble_eq_true rfl) ⟨Nat.le_refl _, Nat.le_refl _⟩ dX2_tradeGain_16 ?_
    refine lv_if_ne (tgt := 24) hx hb dX2_tradeGain_19 (by decide) (fun c_6 => ?_) (fun c_6 => ?_)
    · have hp := ite_n hp c_6
      refine lv_aload_n hx hb dX2_tradeGain_24 rfl (lv_at hl 0 rfl) ?_
      refine gf_X2_35 hx hb hts hown hK hP 0 rfl rfl dX2_tradeGain_25 ?_
      refine gf_X2_190 hx hb hts hown hK hP 14 rfl rfl dX2_tradeGain_28 ?_
      refine lv_iload_n hx hb dX2_tradeGain_31 rfl (lv_at hl 1 rfl) ?_
      obtain ⟨hi_7, hp⟩ := ckI_s hp
      refine r_ild hx hb hK hP 17 rfl hi_7 dX2_tradeGain_32 ?_
      refine lv_topi (fun x3_8 ex3_8 => ?_)
      have hp := stk_e hp ex3_8
      refine lv_istore_n (lv' := [(3, .int x3_8), (0, .ref (qfo 0)), (1, .int p1), (2, .int p2)]) hx hb dX2_tradeGain_33 rfl hl (by decide) rfl (fun ls hl => ?_)
      refine lv_aload_n hx hb dX2_tradeGain_34 rfl (lv_at hl 1 rfl) ?_
      refine gf_X2_35 hx hb hts hown hK hP 0 rfl rfl dX2_tradeGain_35 ?_
      refine gf_X2_187 hx hb hts hown hK hP 14 rfl rfl dX2_tradeGain_38 ?_
      refine lv_iload_n hx hb dX2_tradeGain_41 rfl (lv_at hl 3 rfl) ?_
      obtain ⟨hi_9, hp⟩ := ckI_s hp
      refine r_ild hx hb hK hP 15 rfl hi_9 dX2_tradeGain_42 ?_
      refine lv_topi (fun x4_10 ex4_10 => ?_)
      have hp := stk_e hp ex4_10
      refine lv_istore (lv' := [(4, .int x4_10), (3, .int x3_8), (0, .ref (qfo 0)), (1, .int p1), (2, .int p2)]) hx hb dX2_tradeGain_43 hl (by decide) rfl (fun ls hl => ?_)
      refine lv_aload_n hx hb dX2_tradeGain_45 rfl (lv_at hl 2 rfl) ?_
      refine lv_iload_n hx hb dX2_tradeGain_46 rfl (lv_at hl 1 rfl) ?_
      obtain ⟨r_12, hc_11, hp⟩ := bn1_s hp
      refine k_ROV (As := [.int x3_8]) (rest := []) ⟨hx, hb, hml, hown, hts⟩ hK hP (cw_X2_126 hts ⟨Nat.le_of_ble_eq_true rfl, Nat.le_of_ble_eq_true rfl⟩) 0 (ci := 2) rfl rfl rfl (c_X2_isSeated l D cy qfo qro qra qvc qos qli fo ro ra vc os li x3_8 r_12 hc_11) rfl hl.1 (Nat.le_of_ble_eq_true rfl) ⟨Nat.le_refl _, Nat.le_refl _⟩ dX2_tradeGain_47 ?_
      refine lv_if_eq (tgt := 62) hx hb dX2_tradeGain_50 (by decide) (fun c_13 => ?_) (fun c_13 => ?_)
      · have hp := ite_p hp c_13
        refine lv_iconst (v := 0) hx hb dX2_tradeGain_62 (by decide) ?_
        exact e_ROi hx hb hr hk dX2_tradeGain_63 (Option.some.inj hp)
      · have hp := ite_n hp c_13
        refine lv_aload_n hx hb dX2_tradeGain_53 rfl (lv_at hl 2 rfl) ?_
        refine lv_iload hx hb dX2_tradeGain_54 (lv_at hl 0 rfl) ?_
        obtain ⟨r_15, hc_14, hp⟩ := bn1_s hp
        refine k_ROV (As := [.int x4_10]) (rest := []) ⟨hx, hb, hml, hown, hts⟩ hK hP (cw_X2_126 hts ⟨Nat.le_of_ble_eq_true rfl, Nat.le_of_ble_eq_true rfl⟩) 0 (ci := 2) rfl rfl rfl (c_X2_isSeated l D cy qfo qro qra qvc qos qli fo ro ra vc os li x4_10 r_15 hc_14) rfl hl.1 (Nat.le_of_ble_eq_true rfl) ⟨Nat.le_refl _, Nat.le_refl _⟩ dX2_tradeGain_56 ?_
        refine lv_if_ne (tgt := 64) hx hb dX2_tradeGain_59 (by decide) (fun c_16 => ?_) (fun c_16 => ?_)
        · have hp := ite_n hp c_16
          refine lv_aload_n hx hb dX2_tradeGain_64 rfl (lv_at hl 2 rfl) ?_
          refine gf_X2_12 hx hb hts hown hK hP 0 rfl rfl dX2_tradeGain_65 ?_
          refine gf_X2_133 hx hb hts hown hK hP 4 rfl rfl dX2_tradeGain_68 ?_
          refine lv_iload_n hx hb dX2_tradeGain_71 rfl (lv_at hl 1 rfl) ?_
          obtain ⟨hi_17, hp⟩ := ckI_s hp
          refine r_ild hx hb hK hP 8 rfl hi_17 dX2_tradeGain_72 ?_
          refine lv_aload_n hx hb dX2_tradeGain_73 rfl (lv_at hl 2 rfl) ?_
          refine gf_X2_12 hx hb hts hown hK hP 0 rfl rfl dX2_tradeGain_74 ?_
          refine gf_X2_133 hx hb hts hown hK hP 4 rfl rfl dX2_tradeGain_77 ?_
          refine lv_iload hx hb dX2_tradeGain_80 (lv_at hl 0 rfl) ?_
          obtain ⟨hi_18, hp⟩ := ckI_s hp
          refine r_ild hx hb hK hP 8 rfl hi_18 dX2_tradeGain_82 ?_
          refine lv_isub hx hb dX2_tradeGain_83 ?_
          refine lv_aload_n hx hb dX2_tradeGain_84 rfl (lv_at hl 2 rfl) ?_
          refine gf_X2_46 hx hb hts hown hK hP 0 rfl rfl dX2_tradeGain_85 ?_
          refine lv_iload_n hx hb dX2_tradeGain_88 rfl (lv_at hl 1 rfl) ?_
          refine r_ild hx hb hK hP 1 rfl hi_17 dX2_tradeGain_89 ?_
          refine lv_aload_n hx hb dX2_tradeGain_90 rfl (lv_at hl 2 rfl) ?_
          refine gf_X2_46 hx hb hts hown hK hP 0 rfl rfl dX2_tradeGain_91 ?_
          refine lv_iload hx hb dX2_tradeGain_94 (lv_at hl 0 rfl) ?_
          refine r_ild hx hb hK hP 1 rfl hi_18 dX2_tradeGain_96 ?_
          refine lv_isub hx hb dX2_tradeGain_97 ?_
          refine lv_imul hx hb dX2_tradeGain_98 ?_
          exact e_ROi hx hb hr hk dX2_tradeGain_99 (Option.some.inj hp)
        · have hp := ite_p hp c_16
          refine lv_iconst (v := 0) hx hb dX2_tradeGain_62 (by decide) ?_
          exact e_ROi hx hb hr hk dX2_tradeGain_63 (Option.some.inj hp)
    · have hp := ite_p hp c_6
      refine lv_iconst (v := 0) hx hb dX2_tradeGain_22 (by decide) ?_
      exact e_ROi hx hb hr hk dX2_tradeGain_23 (Option.some.inj hp)
/-! StormSlots$Field.dealGain(II)I -/
def Fi_dealGain (fo : Mem) (ro : Mem) (os : Mem) (p1 : Int32) (p2 : Int32) : Option (Int32) :=
  bn1 (Fi_tradeGain fo ro os p1 p2) (fun r_2 => bn1 (Fi_tradeGain fo ro os p2 p1) (fun r_4 => some (r_2 + r_4)))
set_option maxHeartbeats 4000000 in
set_option maxRecDepth 100000 in
theorem c_X2_dealGain (l : Launch) (D : va_G) (cy : Nat → ClassId) (qfo qro qra qvc qos qli : Nat → Nat) (fo ro ra vc os li : Mem) (p1 p2 : Int32) (r : Int32) (hp : Fi_dealGain fo ro os p1 p2 = some r) : RO l yX2_dealGain cX2_dealGain 3 (some .int) 2 D cy [.ref (qfo 0), .int p1, .int p2] (w_Fi cy qfo qro qra qvc qos qli fo ro ra vc os li) r := by
  refine RO_of RX2 rfl (by decide) (Nat.le_of_ble_eq_true rfl) ?_
  intro p e s m below meth c C0 hK hP ls hl
  obtain ⟨hx, hb, hr, hml, hown, hts, hk⟩ := id C0
  unfold Fi_dealGain at hp
  have hl : lv_has ls 3 [(0, .ref (qfo 0)), (1, .int p1), (2, .int p2)] := hl
  refine lv_aload_n hx hb dX2_dealGain_0 rfl (lv_at hl 0 rfl) ?_
  refine lv_iload_n hx hb dX2_dealGain_1 rfl (lv_at hl 1 rfl) ?_
  refine lv_iload_n hx hb dX2_dealGain_2 rfl (lv_at hl 2 rfl) ?_
  obtain ⟨r_2, hc_1, hp⟩ := bn1_s hp
  refine k_ROV (As := [.int p1, .int p2]) (rest := []) ⟨hx, hb, hml, hown, hts⟩ hK hP (cw_X2_181 hts ⟨Nat.le_of_ble_eq_true rfl, Nat.le_of_ble_eq_true rfl⟩) 0 (ci := 2) rfl rfl rfl (c_X2_tradeGain l D cy qfo qro qra qvc qos qli fo ro ra vc os li p1 p2 r_2 hc_1) rfl hl.1 (Nat.le_of_ble_eq_true rfl) ⟨Nat.le_refl _, Nat.le_refl _⟩ dX2_dealGain_3 ?_
  refine lv_aload_n hx hb dX2_dealGain_6 rfl (lv_at hl 0 rfl) ?_
  refine lv_iload_n hx hb dX2_dealGain_7 rfl (lv_at hl 2 rfl) ?_
  refine lv_iload_n hx hb dX2_dealGain_8 rfl (lv_at hl 1 rfl) ?_
  obtain ⟨r_4, hc_3, hp⟩ := bn1_s hp
  refine k_ROV (As := [.int p2, .int p1]) (rest := [.int r_2]) ⟨hx, hb, hml, hown, hts⟩ hK hP (cw_X2_181 hts ⟨Nat.le_of_ble_eq_true rfl, Nat.le_of_ble_eq_true rfl⟩) 0 (ci := 2) rfl rfl rfl (c_X2_tradeGain l D cy qfo qro qra qvc qos qli fo ro ra vc os li p2 p1 r_4 hc_3) rfl hl.1 (Nat.le_of_ble_eq_true rfl) ⟨Nat.le_refl _, Nat.le_refl _⟩ dX2_dealGain_9 ?_
  refine lv_iadd hx hb dX2_dealGain_12 ?_
  exact e_ROi hx hb hr hk dX2_dealGain_13 (Option.some.inj hp)
/-! StormSlots$Field.canRound(III)Z -/
def Fi_canRound (fo : Mem) (ro : Mem) (os : Mem) (p1 : Int32) (p2 : Int32) (p3 : Int32) : Option (Int32) :=
  bn1 (Fi_haveUnlikeLines ro os p1 p2) (fun r_2 => if r_2 = 0 then some 0 else bn1 (Fi_haveUnlikeLines ro os p2 p3) (fun r_5 => if r_5 = 0 then some 0 else bn1 (Fi_haveUnlikeLines ro os p1 p3) (fun r_8 => if r_8 = 0 then some 0 else bn1 (Fi_canTrade fo ro os p1 p2) (fun r_11 => if r_11 = 0 then some 0 else bn1 (Fi_canTrade fo ro os p2 p3) (fun r_14 => if r_14 = 0 then some 0 else bn1 (Fi_canTrade fo ro os p3 p1) (fun r_17 => if r_17 = 0 then some 0 else some 1))))))
set_option maxHeartbeats 4000000 in
set_option maxRecDepth 100000 in
theorem c_X2_canRound (l : Launch) (D : va_G) (cy : Nat → ClassId) (qfo qro qra qvc qos qli : Nat → Nat) (fo ro ra vc os li : Mem) (p1 p2 p3 : Int32) (r : Int32) (hp : Fi_canRound fo ro os p1 p2 p3 = some r) : RO l yX2_canRound cX2_canRound 4 (some .boolean) 3 D cy [.ref (qfo 0), .int p1, .int p2, .int p3] (w_Fi cy qfo qro qra qvc qos qli fo ro ra vc os li) r := by
  refine RO_of RX2 rfl (by decide) (Nat.le_of_ble_eq_true rfl) ?_
  intro p e s m below meth c C0 hK hP ls hl
  obtain ⟨hx, hb, hr, hml, hown, hts, hk⟩ := id C0
  unfold Fi_canRound at hp
  have hl : lv_has ls 4 [(0, .ref (qfo 0)), (1, .int p1), (2, .int p2), (3, .int p3)] := hl
  refine lv_aload_n hx hb dX2_canRound_0 rfl (lv_at hl 0 rfl) ?_
  refine lv_iload_n hx hb dX2_canRound_1 rfl (lv_at hl 1 rfl) ?_
  refine lv_iload_n hx hb dX2_canRound_2 rfl (lv_at hl 2 rfl) ?_
  obtain ⟨r_2, hc_1, hp⟩ := bn1_s hp
  refine k_ROV (As := [.int p1, .int p2]) (rest := []) ⟨hx, hb, hml, hown, hts⟩ hK hP (cw_X2_175 hts ⟨Nat.le_of_ble_eq_true rfl, Nat.le_of_ble_eq_true rfl⟩) 0 (ci := 2) rfl rfl rfl (c_X2_haveUnlikeLines l D cy qfo qro qra qvc qos qli fo ro ra vc os li p1 p2 r_2 hc_1) rfl hl.1 (Nat.le_of_ble_eq_true rfl) ⟨Nat.le_refl _, Nat.le_refl _⟩ dX2_canRound_3 ?_
  refine lv_if_eq (tgt := 27) hx hb dX2_canRound_6 (by decide) (fun c_3 => ?_) (fun c_3 => ?_)
  · have hp := ite_p hp c_3
    refine lv_iconst (v := 0) hx hb dX2_canRound_27 (by decide) ?_
    exact e_ROz hx hb hr hk (Or.inl rfl) dX2_canRound_28 (Option.some.inj hp)
  · have hp := ite_n hp c_3
    refine lv_aload_n hx hb dX2_canRound_9 rfl (lv_at hl 0 rfl) ?_
    refine lv_iload_n hx hb dX2_canRound_10 rfl (lv_at hl 2 rfl) ?_
    refine lv_iload_n hx hb dX2_canRound_11 rfl (lv_at hl 3 rfl) ?_
    obtain ⟨r_5, hc_4, hp⟩ := bn1_s hp
    refine k_ROV (As := [.int p2, .int p3]) (rest := []) ⟨hx, hb, hml, hown, hts⟩ hK hP (cw_X2_175 hts ⟨Nat.le_of_ble_eq_true rfl, Nat.le_of_ble_eq_true rfl⟩) 0 (ci := 2) rfl rfl rfl (c_X2_haveUnlikeLines l D cy qfo qro qra qvc qos qli fo ro ra vc os li p2 p3 r_5 hc_4) rfl hl.1 (Nat.le_of_ble_eq_true rfl) ⟨Nat.le_refl _, Nat.le_refl _⟩ dX2_canRound_12 ?_
    refine lv_if_eq (tgt := 27) hx hb dX2_canRound_15 (by decide) (fun c_6 => ?_) (fun c_6 => ?_)
    · have hp := ite_p hp c_6
      refine lv_iconst (v := 0) hx hb dX2_canRound_27 (by decide) ?_
      exact e_ROz hx hb hr hk (Or.inl rfl) dX2_canRound_28 (Option.some.inj hp)
    · have hp := ite_n hp c_6
      refine lv_aload_n hx hb dX2_canRound_18 rfl (lv_at hl 0 rfl) ?_
      refine lv_iload_n hx hb dX2_canRound_19 rfl (lv_at hl 1 rfl) ?_
      refine lv_iload_n hx hb dX2_canRound_20 rfl (lv_at hl 3 rfl) ?_
      obtain ⟨r_8, hc_7, hp⟩ := bn1_s hp
      refine k_ROV (As := [.int p1, .int p3]) (rest := []) ⟨hx, hb, hml, hown, hts⟩ hK hP (cw_X2_175 hts ⟨Nat.le_of_ble_eq_true rfl, Nat.le_of_ble_eq_true rfl⟩) 0 (ci := 2) rfl rfl rfl (c_X2_haveUnlikeLines l D cy qfo qro qra qvc qos qli fo ro ra vc os li p1 p3 r_8 hc_7) rfl hl.1 (Nat.le_of_ble_eq_true rfl) ⟨Nat.le_refl _, Nat.le_refl _⟩ dX2_canRound_21 ?_
      refine lv_if_ne (tgt := 29) hx hb dX2_canRound_24 (by decide) (fun c_9 => ?_) (fun c_9 => ?_)
      · have hp := ite_n hp c_9
        refine lv_aload_n hx hb dX2_canRound_29 rfl (lv_at hl 0 rfl) ?_
        refine lv_iload_n hx hb dX2_canRound_30 rfl (lv_at hl 1 rfl) ?_
        refine lv_iload_n hx hb dX2_canRound_31 rfl (lv_at hl 2 rfl) ?_
        obtain ⟨r_11, hc_10, hp⟩ := bn1_s hp
        refine k_ROV (As := [.int p1, .int p2]) (rest := []) ⟨hx, hb, hml, hown, hts⟩ hK hP (cw_X2_178 hts ⟨Nat.le_of_ble_eq_true rfl, Nat.le_of_ble_eq_true rfl⟩) 0 (ci := 2) rfl rfl rfl (c_X2_canTrade l D cy qfo qro qra qvc qos qli fo ro ra vc os li p1 p2 r_11 hc_10) rfl hl.1 (Nat.le_of_ble_eq_true rfl) ⟨Nat.le_refl _, Nat.le_refl _⟩ dX2_canRound_32 ?_
        refine lv_if_eq (tgt := 60) hx hb dX2_canRound_35 (by decide) (fun c_12 => ?_) (fun c_12 => ?_)
        · have hp := ite_p hp c_12
          refine lv_iconst (v := 0) hx hb dX2_canRound_60 (by decide) ?_
          exact e_ROz hx hb hr hk (Or.inl rfl) dX2_canRound_61 (Option.some.inj hp)
        · have hp := ite_n hp c_12
          refine lv_aload_n hx hb dX2_canRound_38 rfl (lv_at hl 0 rfl) ?_
          refine lv_iload_n hx hb dX2_canRound_39 rfl (lv_at hl 2 rfl) ?_
          refine lv_iload_n hx hb dX2_canRound_40 rfl (lv_at hl 3 rfl) ?_
          obtain ⟨r_14, hc_13, hp⟩ := bn1_s hp
          refine k_ROV (As := [.int p2, .int p3]) (rest := []) ⟨hx, hb, hml, hown, hts⟩ hK hP (cw_X2_178 hts ⟨Nat.le_of_ble_eq_true rfl, Nat.le_of_ble_eq_true rfl⟩) 0 (ci := 2) rfl rfl rfl (c_X2_canTrade l D cy qfo qro qra qvc qos qli fo ro ra vc os li p2 p3 r_14 hc_13) rfl hl.1 (Nat.le_of_ble_eq_true rfl) ⟨Nat.le_refl _, Nat.le_refl _⟩ dX2_canRound_41 ?_
          refine lv_if_eq (tgt := 60) hx hb dX2_canRound_44 (by decide) (fun c_15 => ?_) (fun c_15 => ?_)
          · have hp := ite_p hp c_15
            refine lv_iconst (v := 0) hx hb dX2_canRound_60 (by decide) ?_
            exact e_ROz hx hb hr hk (Or.inl rfl) dX2_canRound_61 (Option.some.inj hp)
          · have hp := ite_n hp c_15
            refine lv_aload_n hx hb dX2_canRound_47 rfl (lv_at hl 0 rfl) ?_
            refine lv_iload_n hx hb dX2_canRound_48 rfl (lv_at hl 3 rfl) ?_
            refine lv_iload_n hx hb dX2_canRound_49 rfl (lv_at hl 1 rfl) ?_
            obtain ⟨r_17, hc_16, hp⟩ := bn1_s hp
            refine k_ROV (As := [.int p3, .int p1]) (rest := []) ⟨hx, hb, hml, hown, hts⟩ hK hP (cw_X2_178 hts ⟨Nat.le_of_ble_eq_true rfl, Nat.le_of_ble_eq_true rfl⟩) 0 (ci := 2) rfl rfl rfl (c_X2_canTrade l D cy qfo qro qra qvc qos qli fo ro ra vc os li p3 p1 r_17 hc_16) rfl hl.1 (Nat.le_of_ble_eq_true rfl) ⟨Nat.le_refl _, Nat.le_refl _⟩ dX2_canRound_50 ?_
            refine lv_if_eq (tgt := 60) hx hb dX2_canRound_53 (by decide) (fun c_18 => ?_) (fun c_18 => ?_)
            · have hp := ite_p hp c_18
              refine lv_iconst (v := 0) hx hb dX2_canRound_60 (by decide) ?_
              exact e_ROz hx hb hr hk (Or.inl rfl) dX2_canRound_61 (Option.some.inj hp)
            · have hp := ite_n hp c_18
              refine lv_iconst (v := 1) hx hb dX2_canRound_56 (by decide) ?_
              refine lv_goto (tgt := 61) hx hb dX2_canRound_57 (by decide) ?_
              exact e_ROz hx hb hr hk (Or.inr rfl) dX2_canRound_61 (Option.some.inj hp)
      · have hp := ite_p hp c_9
        refine lv_iconst (v := 0) hx hb dX2_canRound_27 (by decide) ?_
        exact e_ROz hx hb hr hk (Or.inl rfl) dX2_canRound_28 (Option.some.inj hp)
/-! StormSlots$Field.trade(II)V -/
def Fi_trade (fo : Mem) (ro : Mem) (os : Mem) (p1 : Int32) (p2 : Int32) : Option (Mem) :=
  bn1 (Of_has os p1) (fun r_2 => if r_2 = 0 then some fo else bn1 (Of_has os p2) (fun r_5 => if r_5 = 0 then some fo else ckI p1 8 (ckI p2 8 (bn1 (Fi_swap fo ro (os 2 p1.toNatClampNeg) (os 0 p2.toNatClampNeg)) (fun fo_10 => some fo_10)))))
set_option maxHeartbeats 4000000 in
set_option maxRecDepth 100000 in
theorem c_X2_trade (l : Launch) (D : va_G) (cy : Nat → ClassId) (qfo qro qra qvc qos qli : Nat → Nat) (fo ro ra vc os li : Mem) (p1 p2 : Int32) (fo' : Mem) (hp : Fi_trade fo ro os p1 p2 = some fo') : RV l yX2_trade cX2_trade 3 3 D cy [.ref (qfo 0), .int p1, .int p2] (w_Fi cy qfo qro qra qvc qos qli fo ro ra vc os li) (w_Fi cy qfo qro qra qvc qos qli fo' ro ra vc os li) := by
  refine RV_of RX2 rfl (by decide) (Nat.le_of_ble_eq_true rfl) ?_
  intro p e s m below meth c A C0 hK hP hD hS hA ls hl
  obtain ⟨hx, hb, hr, hml, hown, hts, hk⟩ := id C0
  unfold Fi_trade at hp
  have hl : lv_has ls 3 [(0, .ref (qfo 0)), (1, .int p1), (2, .int p2)] := hl
  refine lv_aload_n hx hb dX2_trade_0 rfl (lv_at hl 0 rfl) ?_
  refine gf_X2_35 hx hb hts hown hK hP 0 rfl rfl dX2_trade_1 ?_
  refine lv_iload_n hx hb dX2_trade_4 rfl (lv_at hl 1 rfl) ?_
  obtain ⟨r_2, hc_1, hp⟩ := bn1_s hp
  refine k_ROV (As := [.int p1]) (rest := []) ⟨hx, hb, hml, hown, hts⟩ hK (hP.sub (ws' := (w_Of cy qos os)) [14, 15, 16, 17, 18] rfl) (cw_X2_184 hts ⟨Nat.le_of_ble_eq_true rfl, Nat.le_of_ble_eq_true rfl⟩) 0 (ci := 4) rfl rfl rfl (c_X4_has l D cy qos os p1 r_2 hc_1) rfl hl.1 (Nat.le_of_ble_eq_true rfl) ⟨Nat.le_refl _, Nat.le_refl _⟩ dX2_trade_5 ?_
  refine lv_if_eq (tgt := 44) hx hb dX2_trade_8 (by decide) (fun c_3 => ?_) (fun c_3 => ?_)
  · have hp := ite_p hp c_3
    simp only [Option.some.injEq, Prod.mk.injEq] at hp
    subst hp
    exact e_RV hx hb hr hk hP hD hS dX2_trade_44
  · have hp := ite_n hp c_3
    refine lv_aload_n hx hb dX2_trade_11 rfl (lv_at hl 0 rfl) ?_
    refine gf_X2_35 hx hb hts hown hK hP 0 rfl rfl dX2_trade_12 ?_
    refine lv_iload_n hx hb dX2_trade_15 rfl (lv_at hl 2 rfl) ?_
    obtain ⟨r_5, hc_4, hp⟩ := bn1_s hp
    refine k_ROV (As := [.int p2]) (rest := []) ⟨hx, hb, hml, hown, hts⟩ hK (hP.sub (ws' := (w_Of cy qos os)) [14, 15, 16, 17, 18] rfl) (cw_X2_184 hts ⟨Nat.le_of_ble_eq_true rfl, Nat.le_of_ble_eq_true rfl⟩) 0 (ci := 4) rfl rfl rfl (c_X4_has l D cy qos os p2 r_5 hc_4) rfl hl.1 (Nat.le_of_ble_eq_true rfl) ⟨Nat.le_refl _, Nat.le_refl _⟩ dX2_trade_16 ?_
    refine lv_if_eq (tgt := 44) hx hb dX2_trade_19 (by decide) (fun c_6 => ?_) (fun c_6 => ?_)
    · have hp := ite_p hp c_6
      simp only [Option.some.injEq, Prod.mk.injEq] at hp
      subst hp
      exact e_RV hx hb hr hk hP hD hS dX2_trade_44
    · have hp := ite_n hp c_6
      refine lv_aload_n hx hb dX2_trade_22 rfl (lv_at hl 0 rfl) ?_
      refine lv_aload_n hx hb dX2_trade_23 rfl (lv_at hl 0 rfl) ?_
      refine gf_X2_35 hx hb hts hown hK hP 0 rfl rfl dX2_trade_24 ?_
      refine gf_X2_190 hx hb hts hown hK hP 14 rfl rfl dX2_trade_27 ?_
      refine lv_iload_n hx hb dX2_trade_30 rfl (lv_at hl 1 rfl) ?_
      obtain ⟨hi_7, hp⟩ := ckI_s hp
      refine r_ild hx hb hK hP 17 rfl hi_7 dX2_trade_31 ?_
      refine lv_aload_n hx hb dX2_trade_32 rfl (lv_at hl 0 rfl) ?_
      refine gf_X2_35 hx hb hts hown hK hP 0 rfl rfl dX2_trade_33 ?_
      refine gf_X2_187 hx hb hts hown hK hP 14 rfl rfl dX2_trade_36 ?_
      refine lv_iload_n hx hb dX2_trade_39 rfl (lv_at hl 2 rfl) ?_
      obtain ⟨hi_8, hp⟩ := ckI_s hp
      refine r_ild hx hb hK hP 15 rfl hi_8 dX2_trade_40 ?_
      obtain ⟨fo_10, hc_9, hp⟩ := bn1_s hp
      refine k_RVV (As := [.int (os 2 p1.toNatClampNeg), .int (os 0 p2.toNatClampNeg)]) (rest := []) ⟨hx, hb, hml, hown, hts⟩ hK hP hD hS hA FrS_rf (cw_X2_199 hts ⟨Nat.le_of_ble_eq_true rfl, Nat.le_of_ble_eq_true rfl⟩) 0 (ci := 2) rfl rfl rfl (c_X2_swap l D cy qfo qro qra qvc qos qli fo ro ra vc os li (os 2 p1.toNatClampNeg) (os 0 p2.toNatClampNeg) fo_10 hc_9) rfl hl.1 (Nat.le_of_ble_eq_true rfl) ⟨Nat.le_refl _, Nat.le_refl _⟩ dX2_trade_41 (fun H locs hP hD hS => ?_)
      simp only [Option.some.injEq, Prod.mk.injEq] at hp
      subst hp
      exact e_RV hx hb hr hk hP hD hS dX2_trade_44
/-! StormSlots$Field.flightsOf(I)I -/
def Fi_flightsOf_b4B (ro : Mem) (p1 : Int32) (k4 : Int32 → Int32 → Option (Int32)) (x2 : Int32) (x3 : Int32) : Option (Int32) :=
  if 20 ≤ x3 then some x2 else bn1 (Fi_isOf ro x3 p1) (fun r_3 => if r_3 = 0 then stk (x2 + 0) (fun x2_5 => stk (x3 + 1) (fun x3_6 => k4 x2_5 x3_6)) else stk (x2 + 1) (fun x2_7 => stk (x3 + 1) (fun x3_8 => k4 x2_7 x3_8)))
def Fi_flightsOf_b4 (ro : Mem) (p1 : Int32) : Nat → Int32 → Int32 → Option (Int32)
  | 0 => fun _ _ => none
  | n + 1 => Fi_flightsOf_b4B ro p1 (Fi_flightsOf_b4 ro p1 n)
def Fi_flightsOf (ro : Mem) (p1 : Int32) : Option (Int32) :=
  Fi_flightsOf_b4 ro p1 fl 0 0
set_option maxHeartbeats 4000000 in
set_option maxRecDepth 100000 in
theorem Fi_flightsOf_b4B_w (C0 : cX RX2 cX2_flightsOf (some .int) 4 p s m args meth c) (hK : kN D cy s) {qfo qro qra qvc qos qli : Nat → Nat} {fo ro ra vc os li : Mem} {p1 : Int32} {r : Int32} (hP : va_P D vwCl (w_Fi cy qfo qro qra qvc qos qli fo ro ra vc os li) s.heap) {k4 : Int32 → Int32 → Option (Int32)} (hk4 : ∀ (x2 x3 : Int32) (ls : Array Slot), lv_has ls 4 [(0, .ref (qfo 0)), (1, .int p1), (2, .int x2), (3, .int x3)] → k4 x2 x3 = some r → W p l e (rmD 2) s m args below meth c s.heap [] 0 0 (qRO below args s r) (F0 m 4 ls [])) {x2 : Int32} {x3 : Int32} {ls : Array Slot} (hl : lv_has ls 4 [(0, .ref (qfo 0)), (1, .int p1), (2, .int x2), (3, .int x3)]) (hp : Fi_flightsOf_b4B ro p1 k4 x2 x3 = some r) : W p l e (rmD 2) s m args below meth c s.heap [] 0 0 (qRO below args s r) (F0 m 4 ls []) := by
  obtain ⟨hx, hb, hr, hml, hown, hts, hk⟩ := id C0
  unfold Fi_flightsOf_b4B at hp
  refine lv_iload_n hx hb dX2_flightsOf_4 rfl (lv_at hl 3 rfl) ?_
  refine lv_bipush (v := 20) hx hb dX2_flightsOf_5 (by decide) ?_
  refine lv_icmp_ge (tgt := 33) hx hb dX2_flightsOf_7 (by decide) (fun c_1 => ?_) (fun c_1 => ?_)
  · have hp := ite_p hp c_1
    refine lv_iload_n hx hb dX2_flightsOf_33 rfl (lv_at hl 2 rfl) ?_
    exact e_ROi hx hb hr hk dX2_flightsOf_34 (Option.some.inj hp)
  · have hp := ite_n hp c_1
    refine lv_iload_n hx hb dX2_flightsOf_10 rfl (lv_at hl 2 rfl) ?_
    refine lv_aload_n hx hb dX2_flightsOf_11 rfl (lv_at hl 0 rfl) ?_
    refine lv_iload_n hx hb dX2_flightsOf_12 rfl (lv_at hl 3 rfl) ?_
    refine lv_iload_n hx hb dX2_flightsOf_13 rfl (lv_at hl 1 rfl) ?_
    obtain ⟨r_3, hc_2, hp⟩ := bn1_s hp
    refine k_ROV (As := [.int x3, .int p1]) (rest := [.int x2]) ⟨hx, hb, hml, hown, hts⟩ hK hP (cw_X2_202 hts ⟨Nat.le_of_ble_eq_true rfl, Nat.le_of_ble_eq_true rfl⟩) 0 (ci := 2) rfl rfl rfl (c_X2_isOf l D cy qfo qro qra qvc qos qli fo ro ra vc os li x3 p1 r_3 hc_2) rfl hl.1 (Nat.le_of_ble_eq_true rfl) ⟨Nat.le_refl _, Nat.le_refl _⟩ dX2_flightsOf_14 ?_
    refine lv_if_eq (tgt := 24) hx hb dX2_flightsOf_17 (by decide) (fun c_4 => ?_) (fun c_4 => ?_)
    · have hp := ite_p hp c_4
      refine lv_iconst (v := 0) hx hb dX2_flightsOf_24 (by decide) ?_
      refine lv_iadd hx hb dX2_flightsOf_25 ?_
      refine lv_topi (fun x2_5 ex2_5 => ?_)
      have hp := stk_e hp ex2_5
      refine lv_istore_n (lv' := [(2, .int x2_5), (0, .ref (qfo 0)), (1, .int p1), (3, .int x3)]) hx hb dX2_flightsOf_26 rfl hl (by decide) rfl (fun ls hl => ?_)
      obtain ⟨x3_6, ex3_6⟩ : ∃ y : Int32, y = x3 + 1 := ⟨_, rfl⟩
      have hp := stk_e hp ex3_6
      refine lv_iinc (v := x3_6) (lv' := [(3, .int x3_6), (2, .int x2_5), (0, .ref (qfo 0)), (1, .int p1)]) hx hb dX2_flightsOf_27 hl (k := 3) rfl (by rw [ex3_6]; rfl) (by decide) rfl (fun ls hl => ?_)
      refine lv_goto (tgt := 4) hx hb dX2_flightsOf_30 (by decide) ?_
      exact hk4 x2_5 x3_6 _ (lv_sub hl [2, 3, 1, 0] rfl) hp
    · have hp := ite_n hp c_4
      refine lv_iconst (v := 1) hx hb dX2_flightsOf_20 (by decide) ?_
      refine lv_goto (tgt := 25) hx hb dX2_flightsOf_21 (by decide) ?_
      refine lv_iadd hx hb dX2_flightsOf_25 ?_
      refine lv_topi (fun x2_7 ex2_7 => ?_)
      have hp := stk_e hp ex2_7
      refine lv_istore_n (lv' := [(2, .int x2_7), (0, .ref (qfo 0)), (1, .int p1), (3, .int x3)]) hx hb dX2_flightsOf_26 rfl hl (by decide) rfl (fun ls hl => ?_)
      obtain ⟨x3_8, ex3_8⟩ : ∃ y : Int32, y = x3 + 1 := ⟨_, rfl⟩
      have hp := stk_e hp ex3_8
      refine lv_iinc (v := x3_8) (lv' := [(3, .int x3_8), (2, .int x2_7), (0, .ref (qfo 0)), (1, .int p1)]) hx hb dX2_flightsOf_27 hl (k := 3) rfl (by rw [ex3_8]; rfl) (by decide) rfl (fun ls hl => ?_)
      refine lv_goto (tgt := 4) hx hb dX2_flightsOf_30 (by decide) ?_
      exact hk4 x2_7 x3_8 _ (lv_sub hl [2, 3, 1, 0] rfl) hp
theorem Fi_flightsOf_b4_w (C0 : cX RX2 cX2_flightsOf (some .int) 4 p s m args meth c) (hK : kN D cy s) {qfo qro qra qvc qos qli : Nat → Nat} {fo ro ra vc os li : Mem} {p1 : Int32} {r : Int32} (hP : va_P D vwCl (w_Fi cy qfo qro qra qvc qos qli fo ro ra vc os li) s.heap) : ∀ (n : Nat) (x2 x3 : Int32) (ls : Array Slot), lv_has ls 4 [(0, .ref (qfo 0)), (1, .int p1), (2, .int x2), (3, .int x3)] → Fi_flightsOf_b4 ro p1 n x2 x3 = some r → W p l e (rmD 2) s m args below meth c s.heap [] 0 0 (qRO below args s r) (F0 m 4 ls []) := by
  intro n
  induction n with
  | zero =>
    intro x2 x3 ls hl hp
    cases hp
  | succ n ih =>
    intro x2 x3 ls hl hp
    exact Fi_flightsOf_b4B_w C0 hK hP  (fun x2 x3 ls hl hp => ih x2 x3 ls hl hp) hl hp
set_option maxHeartbeats 4000000 in
set_option maxRecDepth 100000 in
theorem c_X2_flightsOf (l : Launch) (D : va_G) (cy : Nat → ClassId) (qfo qro qra qvc qos qli : Nat → Nat) (fo ro ra vc os li : Mem) (p1 : Int32) (r : Int32) (hp : Fi_flightsOf ro p1 = some r) : RO l yX2_flightsOf cX2_flightsOf 4 (some .int) 2 D cy [.ref (qfo 0), .int p1] (w_Fi cy qfo qro qra qvc qos qli fo ro ra vc os li) r := by
  refine RO_of RX2 rfl (by decide) (Nat.le_of_ble_eq_true rfl) ?_
  intro p e s m below meth c C0 hK hP ls hl
  obtain ⟨hx, hb, hr, hml, hown, hts, hk⟩ := id C0
  unfold Fi_flightsOf at hp
  have hl : lv_has ls 4 [(0, .ref (qfo 0)), (1, .int p1)] := hl
  refine lv_iconst (v := 0) hx hb dX2_flightsOf_0 (by decide) ?_
  refine lv_istore_n (lv' := [(2, .int 0), (0, .ref (qfo 0)), (1, .int p1)]) hx hb dX2_flightsOf_1 rfl hl (by decide) rfl (fun ls hl => ?_)
  refine lv_iconst (v := 0) hx hb dX2_flightsOf_2 (by decide) ?_
  refine lv_istore_n (lv' := [(3, .int 0), (2, .int 0), (0, .ref (qfo 0)), (1, .int p1)]) hx hb dX2_flightsOf_3 rfl hl (by decide) rfl (fun ls hl => ?_)
  exact Fi_flightsOf_b4_w C0 hK hP  fl 0 0 _ (lv_sub hl [2, 3, 1, 0] rfl) hp
/-! StormSlots$Field.seatedOf(I)I -/
def Fi_seatedOf_b4B (fo : Mem) (ro : Mem) (p1 : Int32) (k4 : Int32 → Int32 → Option (Int32)) (x2 : Int32) (x3 : Int32) : Option (Int32) :=
  if 20 ≤ x3 then some x2 else bn1 (Fi_isOf ro x3 p1) (fun r_3 => if r_3 = 0 then stk (x2 + 0) (fun x2_5 => stk (x3 + 1) (fun x3_6 => k4 x2_5 x3_6)) else bn1 (Fi_isSeated fo x3) (fun r_8 => if r_8 = 0 then stk (x2 + 0) (fun x2_10 => stk (x3 + 1) (fun x3_11 => k4 x2_10 x3_11)) else stk (x2 + 1) (fun x2_12 => stk (x3 + 1) (fun x3_13 => k4 x2_12 x3_13))))
def Fi_seatedOf_b4 (fo : Mem) (ro : Mem) (p1 : Int32) : Nat → Int32 → Int32 → Option (Int32)
  | 0 => fun _ _ => none
  | n + 1 => Fi_seatedOf_b4B fo ro p1 (Fi_seatedOf_b4 fo ro p1 n)
def Fi_seatedOf (fo : Mem) (ro : Mem) (p1 : Int32) : Option (Int32) :=
  Fi_seatedOf_b4 fo ro p1 fl 0 0
set_option maxHeartbeats 4000000 in
set_option maxRecDepth 100000 in
theorem Fi_seatedOf_b4B_w (C0 : cX RX2 cX2_seatedOf (some .int) 4 p s m args meth c) (hK : kN D cy s) {qfo qro qra qvc qos qli : Nat → Nat} {fo ro ra vc os li : Mem} {p1 : Int32} {r : Int32} (hP : va_P D vwCl (w_Fi cy qfo qro qra qvc qos qli fo ro ra vc os li) s.heap) {k4 : Int32 → Int32 → Option (Int32)} (hk4 : ∀ (x2 x3 : Int32) (ls : Array Slot), lv_has ls 4 [(0, .ref (qfo 0)), (1, .int p1), (2, .int x2), (3, .int x3)] → k4 x2 x3 = some r → W p l e (rmD 2) s m args below meth c s.heap [] 0 0 (qRO below args s r) (F0 m 4 ls [])) {x2 : Int32} {x3 : Int32} {ls : Array Slot} (hl : lv_has ls 4 [(0, .ref (qfo 0)), (1, .int p1), (2, .int x2), (3, .int x3)]) (hp : Fi_seatedOf_b4B fo ro p1 k4 x2 x3 = some r) : W p l e (rmD 2) s m args below meth c s.heap [] 0 0 (qRO below args s r) (F0 m 4 ls []) := by
  obtain ⟨hx, hb, hr, hml, hown, hts, hk⟩ := id C0
  unfold Fi_seatedOf_b4B at hp
  refine lv_iload_n hx hb dX2_seatedOf_4 rfl (lv_at hl 3 rfl) ?_
  refine lv_bipush (v := 20) hx hb dX2_seatedOf_5 (by decide) ?_
  refine lv_icmp_ge (tgt := 41) hx hb dX2_seatedOf_7 (by decide) (fun c_1 => ?_) (fun c_1 => ?_)
  · have hp := ite_p hp c_1
    refine lv_iload_n hx hb dX2_seatedOf_41 rfl (lv_at hl 2 rfl) ?_
    exact e_ROi hx hb hr hk dX2_seatedOf_42 (Option.some.inj hp)
  · have hp := ite_n hp c_1
    refine lv_iload_n hx hb dX2_seatedOf_10 rfl (lv_at hl 2 rfl) ?_
    refine lv_aload_n hx hb dX2_seatedOf_11 rfl (lv_at hl 0 rfl) ?_
    refine lv_iload_n hx hb dX2_seatedOf_12 rfl (lv_at hl 3 rfl) ?_
    refine lv_iload_n hx hb dX2_seatedOf_13 rfl (lv_at hl 1 rfl) ?_
    obtain ⟨r_3, hc_2, hp⟩ := bn1_s hp
    refine k_ROV (As := [.int x3, .int p1]) (rest := [.int x2]) ⟨hx, hb, hml, hown, hts⟩ hK hP (cw_X2_202 hts ⟨Nat.le_of_ble_eq_true rfl, Nat.le_of_ble_eq_true rfl⟩) 0 (ci := 2) rfl rfl rfl (c_X2_isOf l D cy qfo qro qra qvc qos qli fo ro ra vc os li x3 p1 r_3 hc_2) rfl hl.1 (Nat.le_of_ble_eq_true rfl) ⟨Nat.le_refl _, Nat.le_refl _⟩ dX2_seatedOf_14 ?_
    refine lv_if_eq (tgt := 32) hx hb dX2_seatedOf_17 (by decide) (fun c_4 => ?_) (fun c_4 => ?_)
    · have hp := ite_p hp c_4
      refine lv_iconst (v := 0) hx hb dX2_seatedOf_32 (by decide) ?_
      refine lv_iadd hx hb dX2_seatedOf_33 ?_
      refine lv_topi (fun x2_5 ex2_5 => ?_)
      have hp := stk_e hp ex2_5
      refine lv_istore_n (lv' := [(2, .int x2_5), (0, .ref (qfo 0)), (1, .int p1), (3, .int x3)]) hx hb dX2_seatedOf_34 rfl hl (by decide) rfl (fun ls hl => ?_)
      obtain ⟨x3_6, ex3_6⟩ : ∃ y : Int32, y = x3 + 1 := ⟨_, rfl⟩
      have hp := stk_e hp ex3_6
      refine lv_iinc (v := x3_6) (lv' := [(3, .int x3_6), (2, .int x2_5), (0, .ref (qfo 0)), (1, .int p1)]) hx hb dX2_seatedOf_35 hl (k := 3) rfl (by rw [ex3_6]; rfl) (by decide) rfl (fun ls hl => ?_)
      refine lv_goto (tgt := 4) hx hb dX2_seatedOf_38 (by decide) ?_
      exact hk4 x2_5 x3_6 _ (lv_sub hl [2, 3, 1, 0] rfl) hp
    · have hp := ite_n hp c_4
      refine lv_aload_n hx hb dX2_seatedOf_20 rfl (lv_at hl 0 rfl) ?_
      refine lv_iload_n hx hb dX2_seatedOf_21 rfl (lv_at hl 3 rfl) ?_
      obtain ⟨r_8, hc_7, hp⟩ := bn1_s hp
      refine k_ROV (As := [.int x3]) (rest := [.int x2]) ⟨hx, hb, hml, hown, hts⟩ hK hP (cw_X2_126 hts ⟨Nat.le_of_ble_eq_true rfl, Nat.le_of_ble_eq_true rfl⟩) 0 (ci := 2) rfl rfl rfl (c_X2_isSeated l D cy qfo qro qra qvc qos qli fo ro ra vc os li x3 r_8 hc_7) rfl hl.1 (Nat.le_of_ble_eq_true rfl) ⟨Nat.le_refl _, Nat.le_refl _⟩ dX2_seatedOf_22 ?_
      refine lv_if_eq (tgt := 32) hx hb dX2_seatedOf_25 (by decide) (fun c_9 => ?_) (fun c_9 => ?_)
      · have hp := ite_p hp c_9
        refine lv_iconst (v := 0) hx hb dX2_seatedOf_32 (by decide) ?_
        refine lv_iadd hx hb dX2_seatedOf_33 ?_
        refine lv_topi (fun x2_10 ex2_10 => ?_)
        have hp := stk_e hp ex2_10
        refine lv_istore_n (lv' := [(2, .int x2_10), (0, .ref (qfo 0)), (1, .int p1), (3, .int x3)]) hx hb dX2_seatedOf_34 rfl hl (by decide) rfl (fun ls hl => ?_)
        obtain ⟨x3_11, ex3_11⟩ : ∃ y : Int32, y = x3 + 1 := ⟨_, rfl⟩
        have hp := stk_e hp ex3_11
        refine lv_iinc (v := x3_11) (lv' := [(3, .int x3_11), (2, .int x2_10), (0, .ref (qfo 0)), (1, .int p1)]) hx hb dX2_seatedOf_35 hl (k := 3) rfl (by rw [ex3_11]; rfl) (by decide) rfl (fun ls hl => ?_)
        refine lv_goto (tgt := 4) hx hb dX2_seatedOf_38 (by decide) ?_
        exact hk4 x2_10 x3_11 _ (lv_sub hl [2, 3, 1, 0] rfl) hp
      · have hp := ite_n hp c_9
        refine lv_iconst (v := 1) hx hb dX2_seatedOf_28 (by decide) ?_
        refine lv_goto (tgt := 33) hx hb dX2_seatedOf_29 (by decide) ?_
        refine lv_iadd hx hb dX2_seatedOf_33 ?_
        refine lv_topi (fun x2_12 ex2_12 => ?_)
        have hp := stk_e hp ex2_12
        refine lv_istore_n (lv' := [(2, .int x2_12), (0, .ref (qfo 0)), (1, .int p1), (3, .int x3)]) hx hb dX2_seatedOf_34 rfl hl (by decide) rfl (fun ls hl => ?_)
        obtain ⟨x3_13, ex3_13⟩ : ∃ y : Int32, y = x3 + 1 := ⟨_, rfl⟩
        have hp := stk_e hp ex3_13
        refine lv_iinc (v := x3_13) (lv' := [(3, .int x3_13), (2, .int x2_12), (0, .ref (qfo 0)), (1, .int p1)]) hx hb dX2_seatedOf_35 hl (k := 3) rfl (by rw [ex3_13]; rfl) (by decide) rfl (fun ls hl => ?_)
        refine lv_goto (tgt := 4) hx hb dX2_seatedOf_38 (by decide) ?_
        exact hk4 x2_12 x3_13 _ (lv_sub hl [2, 3, 1, 0] rfl) hp
theorem Fi_seatedOf_b4_w (C0 : cX RX2 cX2_seatedOf (some .int) 4 p s m args meth c) (hK : kN D cy s) {qfo qro qra qvc qos qli : Nat → Nat} {fo ro ra vc os li : Mem} {p1 : Int32} {r : Int32} (hP : va_P D vwCl (w_Fi cy qfo qro qra qvc qos qli fo ro ra vc os li) s.heap) : ∀ (n : Nat) (x2 x3 : Int32) (ls : Array Slot), lv_has ls 4 [(0, .ref (qfo 0)), (1, .int p1), (2, .int x2), (3, .int x3)] → Fi_seatedOf_b4 fo ro p1 n x2 x3 = some r → W p l e (rmD 2) s m args below meth c s.heap [] 0 0 (qRO below args s r) (F0 m 4 ls []) := by
  intro n
  induction n with
  | zero =>
    intro x2 x3 ls hl hp
    cases hp
  | succ n ih =>
    intro x2 x3 ls hl hp
    exact Fi_seatedOf_b4B_w C0 hK hP  (fun x2 x3 ls hl hp => ih x2 x3 ls hl hp) hl hp
set_option maxHeartbeats 4000000 in
set_option maxRecDepth 100000 in
theorem c_X2_seatedOf (l : Launch) (D : va_G) (cy : Nat → ClassId) (qfo qro qra qvc qos qli : Nat → Nat) (fo ro ra vc os li : Mem) (p1 : Int32) (r : Int32) (hp : Fi_seatedOf fo ro p1 = some r) : RO l yX2_seatedOf cX2_seatedOf 4 (some .int) 2 D cy [.ref (qfo 0), .int p1] (w_Fi cy qfo qro qra qvc qos qli fo ro ra vc os li) r := by
  refine RO_of RX2 rfl (by decide) (Nat.le_of_ble_eq_true rfl) ?_
  intro p e s m below meth c C0 hK hP ls hl
  obtain ⟨hx, hb, hr, hml, hown, hts, hk⟩ := id C0
  unfold Fi_seatedOf at hp
  have hl : lv_has ls 4 [(0, .ref (qfo 0)), (1, .int p1)] := hl
  refine lv_iconst (v := 0) hx hb dX2_seatedOf_0 (by decide) ?_
  refine lv_istore_n (lv' := [(2, .int 0), (0, .ref (qfo 0)), (1, .int p1)]) hx hb dX2_seatedOf_1 rfl hl (by decide) rfl (fun ls hl => ?_)
  refine lv_iconst (v := 0) hx hb dX2_seatedOf_2 (by decide) ?_
  refine lv_istore_n (lv' := [(3, .int 0), (2, .int 0), (0, .ref (qfo 0)), (1, .int p1)]) hx hb dX2_seatedOf_3 rfl hl (by decide) rfl (fun ls hl => ?_)
  exact Fi_seatedOf_b4_w C0 hK hP  fl 0 0 _ (lv_sub hl [2, 3, 1, 0] rfl) hp
/-! StormSlots$Field.cancelledOf(I)I -/
def Fi_cancelledOf_b4B (fo : Mem) (ro : Mem) (p1 : Int32) (k4 : Int32 → Int32 → Option (Int32)) (x2 : Int32) (x3 : Int32) : Option (Int32) :=
  if 20 ≤ x3 then some x2 else bn1 (Fi_isOf ro x3 p1) (fun r_3 => if r_3 = 0 then stk (x2 + 0) (fun x2_5 => stk (x3 + 1) (fun x3_6 => k4 x2_5 x3_6)) else bn1 (Fi_isCancelled fo ro x3) (fun r_8 => if r_8 = 0 then stk (x2 + 0) (fun x2_10 => stk (x3 + 1) (fun x3_11 => k4 x2_10 x3_11)) else stk (x2 + 1) (fun x2_12 => stk (x3 + 1) (fun x3_13 => k4 x2_12 x3_13))))
def Fi_cancelledOf_b4 (fo : Mem) (ro : Mem) (p1 : Int32) : Nat → Int32 → Int32 → Option (Int32)
  | 0 => fun _ _ => none
  | n + 1 => Fi_cancelledOf_b4B fo ro p1 (Fi_cancelledOf_b4 fo ro p1 n)
def Fi_cancelledOf (fo : Mem) (ro : Mem) (p1 : Int32) : Option (Int32) :=
  Fi_cancelledOf_b4 fo ro p1 fl 0 0
set_option maxHeartbeats 4000000 in
set_option maxRecDepth 100000 in
theorem Fi_cancelledOf_b4B_w (C0 : cX RX2 cX2_cancelledOf (some .int) 4 p s m args meth c) (hK : kN D cy s) {qfo qro qra qvc qos qli : Nat → Nat} {fo ro ra vc os li : Mem} {p1 : Int32} {r : Int32} (hP : va_P D vwCl (w_Fi cy qfo qro qra qvc qos qli fo ro ra vc os li) s.heap) {k4 : Int32 → Int32 → Option (Int32)} (hk4 : ∀ (x2 x3 : Int32) (ls : Array Slot), lv_has ls 4 [(0, .ref (qfo 0)), (1, .int p1), (2, .int x2), (3, .int x3)] → k4 x2 x3 = some r → W p l e (rmD 2) s m args below meth c s.heap [] 0 0 (qRO below args s r) (F0 m 4 ls [])) {x2 : Int32} {x3 : Int32} {ls : Array Slot} (hl : lv_has ls 4 [(0, .ref (qfo 0)), (1, .int p1), (2, .int x2), (3, .int x3)]) (hp : Fi_cancelledOf_b4B fo ro p1 k4 x2 x3 = some r) : W p l e (rmD 2) s m args below meth c s.heap [] 0 0 (qRO below args s r) (F0 m 4 ls []) := by
  obtain ⟨hx, hb, hr, hml, hown, hts, hk⟩ := id C0
  unfold Fi_cancelledOf_b4B at hp
  refine lv_iload_n hx hb dX2_cancelledOf_4 rfl (lv_at hl 3 rfl) ?_
  refine lv_bipush (v := 20) hx hb dX2_cancelledOf_5 (by decide) ?_
  refine lv_icmp_ge (tgt := 41) hx hb dX2_cancelledOf_7 (by decide) (fun c_1 => ?_) (fun c_1 => ?_)
  · have hp := ite_p hp c_1
    refine lv_iload_n hx hb dX2_cancelledOf_41 rfl (lv_at hl 2 rfl) ?_
    exact e_ROi hx hb hr hk dX2_cancelledOf_42 (Option.some.inj hp)
  · have hp := ite_n hp c_1
    refine lv_iload_n hx hb dX2_cancelledOf_10 rfl (lv_at hl 2 rfl) ?_
    refine lv_aload_n hx hb dX2_cancelledOf_11 rfl (lv_at hl 0 rfl) ?_
    refine lv_iload_n hx hb dX2_cancelledOf_12 rfl (lv_at hl 3 rfl) ?_
    refine lv_iload_n hx hb dX2_cancelledOf_13 rfl (lv_at hl 1 rfl) ?_
    obtain ⟨r_3, hc_2, hp⟩ := bn1_s hp
    refine k_ROV (As := [.int x3, .int p1]) (rest := [.int x2]) ⟨hx, hb, hml, hown, hts⟩ hK hP (cw_X2_202 hts ⟨Nat.le_of_ble_eq_true rfl, Nat.le_of_ble_eq_true rfl⟩) 0 (ci := 2) rfl rfl rfl (c_X2_isOf l D cy qfo qro qra qvc qos qli fo ro ra vc os li x3 p1 r_3 hc_2) rfl hl.1 (Nat.le_of_ble_eq_true rfl) ⟨Nat.le_refl _, Nat.le_refl _⟩ dX2_cancelledOf_14 ?_
    refine lv_if_eq (tgt := 32) hx hb dX2_cancelledOf_17 (by decide) (fun c_4 => ?_) (fun c_4 => ?_)
    · have hp := ite_p hp c_4
      refine lv_iconst (v := 0) hx hb dX2_cancelledOf_32 (by decide) ?_
      refine lv_iadd hx hb dX2_cancelledOf_33 ?_
      refine lv_topi (fun x2_5 ex2_5 => ?_)
      have hp := stk_e hp ex2_5
      refine lv_istore_n (lv' := [(2, .int x2_5), (0, .ref (qfo 0)), (1, .int p1), (3, .int x3)]) hx hb dX2_cancelledOf_34 rfl hl (by decide) rfl (fun ls hl => ?_)
      obtain ⟨x3_6, ex3_6⟩ : ∃ y : Int32, y = x3 + 1 := ⟨_, rfl⟩
      have hp := stk_e hp ex3_6
      refine lv_iinc (v := x3_6) (lv' := [(3, .int x3_6), (2, .int x2_5), (0, .ref (qfo 0)), (1, .int p1)]) hx hb dX2_cancelledOf_35 hl (k := 3) rfl (by rw [ex3_6]; rfl) (by decide) rfl (fun ls hl => ?_)
      refine lv_goto (tgt := 4) hx hb dX2_cancelledOf_38 (by decide) ?_
      exact hk4 x2_5 x3_6 _ (lv_sub hl [2, 3, 1, 0] rfl) hp
    · have hp := ite_n hp c_4
      refine lv_aload_n hx hb dX2_cancelledOf_20 rfl (lv_at hl 0 rfl) ?_
      refine lv_iload_n hx hb dX2_cancelledOf_21 rfl (lv_at hl 3 rfl) ?_
      obtain ⟨r_8, hc_7, hp⟩ := bn1_s hp
      refine k_ROV (As := [.int x3]) (rest := [.int x2]) ⟨hx, hb, hml, hown, hts⟩ hK hP (cw_X2_205 hts ⟨Nat.le_of_ble_eq_true rfl, Nat.le_of_ble_eq_true rfl⟩) 0 (ci := 2) rfl rfl rfl (c_X2_isCancelled l D cy qfo qro qra qvc qos qli fo ro ra vc os li x3 r_8 hc_7) rfl hl.1 (Nat.le_of_ble_eq_true rfl) ⟨Nat.le_refl _, Nat.le_refl _⟩ dX2_cancelledOf_22 ?_
      refine lv_if_eq (tgt := 32) hx hb dX2_cancelledOf_25 (by decide) (fun c_9 => ?_) (fun c_9 => ?_)
      · have hp := ite_p hp c_9
        refine lv_iconst (v := 0) hx hb dX2_cancelledOf_32 (by decide) ?_
        refine lv_iadd hx hb dX2_cancelledOf_33 ?_
        refine lv_topi (fun x2_10 ex2_10 => ?_)
        have hp := stk_e hp ex2_10
        refine lv_istore_n (lv' := [(2, .int x2_10), (0, .ref (qfo 0)), (1, .int p1), (3, .int x3)]) hx hb dX2_cancelledOf_34 rfl hl (by decide) rfl (fun ls hl => ?_)
        obtain ⟨x3_11, ex3_11⟩ : ∃ y : Int32, y = x3 + 1 := ⟨_, rfl⟩
        have hp := stk_e hp ex3_11
        refine lv_iinc (v := x3_11) (lv' := [(3, .int x3_11), (2, .int x2_10), (0, .ref (qfo 0)), (1, .int p1)]) hx hb dX2_cancelledOf_35 hl (k := 3) rfl (by rw [ex3_11]; rfl) (by decide) rfl (fun ls hl => ?_)
        refine lv_goto (tgt := 4) hx hb dX2_cancelledOf_38 (by decide) ?_
        exact hk4 x2_10 x3_11 _ (lv_sub hl [2, 3, 1, 0] rfl) hp
      · have hp := ite_n hp c_9
        refine lv_iconst (v := 1) hx hb dX2_cancelledOf_28 (by decide) ?_
        refine lv_goto (tgt := 33) hx hb dX2_cancelledOf_29 (by decide) ?_
        refine lv_iadd hx hb dX2_cancelledOf_33 ?_
        refine lv_topi (fun x2_12 ex2_12 => ?_)
        have hp := stk_e hp ex2_12
        refine lv_istore_n (lv' := [(2, .int x2_12), (0, .ref (qfo 0)), (1, .int p1), (3, .int x3)]) hx hb dX2_cancelledOf_34 rfl hl (by decide) rfl (fun ls hl => ?_)
        obtain ⟨x3_13, ex3_13⟩ : ∃ y : Int32, y = x3 + 1 := ⟨_, rfl⟩
        have hp := stk_e hp ex3_13
        refine lv_iinc (v := x3_13) (lv' := [(3, .int x3_13), (2, .int x2_12), (0, .ref (qfo 0)), (1, .int p1)]) hx hb dX2_cancelledOf_35 hl (k := 3) rfl (by rw [ex3_13]; rfl) (by decide) rfl (fun ls hl => ?_)
        refine lv_goto (tgt := 4) hx hb dX2_cancelledOf_38 (by decide) ?_
        exact hk4 x2_12 x3_13 _ (lv_sub hl [2, 3, 1, 0] rfl) hp
theorem Fi_cancelledOf_b4_w (C0 : cX RX2 cX2_cancelledOf (some .int) 4 p s m args meth c) (hK : kN D cy s) {qfo qro qra qvc qos qli : Nat → Nat} {fo ro ra vc os li : Mem} {p1 : Int32} {r : Int32} (hP : va_P D vwCl (w_Fi cy qfo qro qra qvc qos qli fo ro ra vc os li) s.heap) : ∀ (n : Nat) (x2 x3 : Int32) (ls : Array Slot), lv_has ls 4 [(0, .ref (qfo 0)), (1, .int p1), (2, .int x2), (3, .int x3)] → Fi_cancelledOf_b4 fo ro p1 n x2 x3 = some r → W p l e (rmD 2) s m args below meth c s.heap [] 0 0 (qRO below args s r) (F0 m 4 ls []) := by
  intro n
  induction n with
  | zero =>
    intro x2 x3 ls hl hp
    cases hp
  | succ n ih =>
    intro x2 x3 ls hl hp
    exact Fi_cancelledOf_b4B_w C0 hK hP  (fun x2 x3 ls hl hp => ih x2 x3 ls hl hp) hl hp
set_option maxHeartbeats 4000000 in
set_option maxRecDepth 100000 in
theorem c_X2_cancelledOf (l : Launch) (D : va_G) (cy : Nat → ClassId) (qfo qro qra qvc qos qli : Nat → Nat) (fo ro ra vc os li : Mem) (p1 : Int32) (r : Int32) (hp : Fi_cancelledOf fo ro p1 = some r) : RO l yX2_cancelledOf cX2_cancelledOf 4 (some .int) 2 D cy [.ref (qfo 0), .int p1] (w_Fi cy qfo qro qra qvc qos qli fo ro ra vc os li) r := by
  refine RO_of RX2 rfl (by decide) (Nat.le_of_ble_eq_true rfl) ?_
  intro p e s m below meth c C0 hK hP ls hl
  obtain ⟨hx, hb, hr, hml, hown, hts, hk⟩ := id C0
  unfold Fi_cancelledOf at hp
  have hl : lv_has ls 4 [(0, .ref (qfo 0)), (1, .int p1)] := hl
  refine lv_iconst (v := 0) hx hb dX2_cancelledOf_0 (by decide) ?_
  refine lv_istore_n (lv' := [(2, .int 0), (0, .ref (qfo 0)), (1, .int p1)]) hx hb dX2_cancelledOf_1 rfl hl (by decide) rfl (fun ls hl => ?_)
  refine lv_iconst (v := 0) hx hb dX2_cancelledOf_2 (by decide) ?_
  refine lv_istore_n (lv' := [(3, .int 0), (2, .int 0), (0, .ref (qfo 0)), (1, .int p1)]) hx hb dX2_cancelledOf_3 rfl hl (by decide) rfl (fun ls hl => ?_)
  exact Fi_cancelledOf_b4_w C0 hK hP  fl 0 0 _ (lv_sub hl [2, 3, 1, 0] rfl) hp
/-! StormSlots$Field.aloftOf(I)I -/
def Fi_aloftOf_b4B (fo : Mem) (ro : Mem) (p1 : Int32) (k4 : Int32 → Int32 → Option (Int32)) (x2 : Int32) (x3 : Int32) : Option (Int32) :=
  if 20 ≤ x3 then some x2 else bn1 (Fi_isOf ro x3 p1) (fun r_3 => if r_3 = 0 then stk (x2 + 0) (fun x2_5 => stk (x3 + 1) (fun x3_6 => k4 x2_5 x3_6)) else bn1 (Fi_isAloft fo ro x3) (fun r_8 => if r_8 = 0 then stk (x2 + 0) (fun x2_10 => stk (x3 + 1) (fun x3_11 => k4 x2_10 x3_11)) else stk (x2 + 1) (fun x2_12 => stk (x3 + 1) (fun x3_13 => k4 x2_12 x3_13))))
def Fi_aloftOf_b4 (fo : Mem) (ro : Mem) (p1 : Int32) : Nat → Int32 → Int32 → Option (Int32)
  | 0 => fun _ _ => none
  | n + 1 => Fi_aloftOf_b4B fo ro p1 (Fi_aloftOf_b4 fo ro p1 n)
def Fi_aloftOf (fo : Mem) (ro : Mem) (p1 : Int32) : Option (Int32) :=
  Fi_aloftOf_b4 fo ro p1 fl 0 0
set_option maxHeartbeats 4000000 in
set_option maxRecDepth 100000 in
theorem Fi_aloftOf_b4B_w (C0 : cX RX2 cX2_aloftOf (some .int) 4 p s m args meth c) (hK : kN D cy s) {qfo qro qra qvc qos qli : Nat → Nat} {fo ro ra vc os li : Mem} {p1 : Int32} {r : Int32} (hP : va_P D vwCl (w_Fi cy qfo qro qra qvc qos qli fo ro ra vc os li) s.heap) {k4 : Int32 → Int32 → Option (Int32)} (hk4 : ∀ (x2 x3 : Int32) (ls : Array Slot), lv_has ls 4 [(0, .ref (qfo 0)), (1, .int p1), (2, .int x2), (3, .int x3)] → k4 x2 x3 = some r → W p l e (rmD 2) s m args below meth c s.heap [] 0 0 (qRO below args s r) (F0 m 4 ls [])) {x2 : Int32} {x3 : Int32} {ls : Array Slot} (hl : lv_has ls 4 [(0, .ref (qfo 0)), (1, .int p1), (2, .int x2), (3, .int x3)]) (hp : Fi_aloftOf_b4B fo ro p1 k4 x2 x3 = some r) : W p l e (rmD 2) s m args below meth c s.heap [] 0 0 (qRO below args s r) (F0 m 4 ls []) := by
  obtain ⟨hx, hb, hr, hml, hown, hts, hk⟩ := id C0
  unfold Fi_aloftOf_b4B at hp
  refine lv_iload_n hx hb dX2_aloftOf_4 rfl (lv_at hl 3 rfl) ?_
  refine lv_bipush (v := 20) hx hb dX2_aloftOf_5 (by decide) ?_
  refine lv_icmp_ge (tgt := 41) hx hb dX2_aloftOf_7 (by decide) (fun c_1 => ?_) (fun c_1 => ?_)
  · have hp := ite_p hp c_1
    refine lv_iload_n hx hb dX2_aloftOf_41 rfl (lv_at hl 2 rfl) ?_
    exact e_ROi hx hb hr hk dX2_aloftOf_42 (Option.some.inj hp)
  · have hp := ite_n hp c_1
    refine lv_iload_n hx hb dX2_aloftOf_10 rfl (lv_at hl 2 rfl) ?_
    refine lv_aload_n hx hb dX2_aloftOf_11 rfl (lv_at hl 0 rfl) ?_
    refine lv_iload_n hx hb dX2_aloftOf_12 rfl (lv_at hl 3 rfl) ?_
    refine lv_iload_n hx hb dX2_aloftOf_13 rfl (lv_at hl 1 rfl) ?_
    obtain ⟨r_3, hc_2, hp⟩ := bn1_s hp
    refine k_ROV (As := [.int x3, .int p1]) (rest := [.int x2]) ⟨hx, hb, hml, hown, hts⟩ hK hP (cw_X2_202 hts ⟨Nat.le_of_ble_eq_true rfl, Nat.le_of_ble_eq_true rfl⟩) 0 (ci := 2) rfl rfl rfl (c_X2_isOf l D cy qfo qro qra qvc qos qli fo ro ra vc os li x3 p1 r_3 hc_2) rfl hl.1 (Nat.le_of_ble_eq_true rfl) ⟨Nat.le_refl _, Nat.le_refl _⟩ dX2_aloftOf_14 ?_
    refine lv_if_eq (tgt := 32) hx hb dX2_aloftOf_17 (by decide) (fun c_4 => ?_) (fun c_4 => ?_)
    · have hp := ite_p hp c_4
      refine lv_iconst (v := 0) hx hb dX2_aloftOf_32 (by decide) ?_
      refine lv_iadd hx hb dX2_aloftOf_33 ?_
      refine lv_topi (fun x2_5 ex2_5 => ?_)
      have hp := stk_e hp ex2_5
      refine lv_istore_n (lv' := [(2, .int x2_5), (0, .ref (qfo 0)), (1, .int p1), (3, .int x3)]) hx hb dX2_aloftOf_34 rfl hl (by decide) rfl (fun ls hl => ?_)
      obtain ⟨x3_6, ex3_6⟩ : ∃ y : Int32, y = x3 + 1 := ⟨_, rfl⟩
      have hp := stk_e hp ex3_6
      refine lv_iinc (v := x3_6) (lv' := [(3, .int x3_6), (2, .int x2_5), (0, .ref (qfo 0)), (1, .int p1)]) hx hb dX2_aloftOf_35 hl (k := 3) rfl (by rw [ex3_6]; rfl) (by decide) rfl (fun ls hl => ?_)
      refine lv_goto (tgt := 4) hx hb dX2_aloftOf_38 (by decide) ?_
      exact hk4 x2_5 x3_6 _ (lv_sub hl [2, 3, 1, 0] rfl) hp
    · have hp := ite_n hp c_4
      refine lv_aload_n hx hb dX2_aloftOf_20 rfl (lv_at hl 0 rfl) ?_
      refine lv_iload_n hx hb dX2_aloftOf_21 rfl (lv_at hl 3 rfl) ?_
      obtain ⟨r_8, hc_7, hp⟩ := bn1_s hp
      refine k_ROV (As := [.int x3]) (rest := [.int x2]) ⟨hx, hb, hml, hown, hts⟩ hK hP (cw_X2_208 hts ⟨Nat.le_of_ble_eq_true rfl, Nat.le_of_ble_eq_true rfl⟩) 0 (ci := 2) rfl rfl rfl (c_X2_isAloft l D cy qfo qro qra qvc qos qli fo ro ra vc os li x3 r_8 hc_7) rfl hl.1 (Nat.le_of_ble_eq_true rfl) ⟨Nat.le_refl _, Nat.le_refl _⟩ dX2_aloftOf_22 ?_
      refine lv_if_eq (tgt := 32) hx hb dX2_aloftOf_25 (by decide) (fun c_9 => ?_) (fun c_9 => ?_)
      · have hp := ite_p hp c_9
        refine lv_iconst (v := 0) hx hb dX2_aloftOf_32 (by decide) ?_
        refine lv_iadd hx hb dX2_aloftOf_33 ?_
        refine lv_topi (fun x2_10 ex2_10 => ?_)
        have hp := stk_e hp ex2_10
        refine lv_istore_n (lv' := [(2, .int x2_10), (0, .ref (qfo 0)), (1, .int p1), (3, .int x3)]) hx hb dX2_aloftOf_34 rfl hl (by decide) rfl (fun ls hl => ?_)
        obtain ⟨x3_11, ex3_11⟩ : ∃ y : Int32, y = x3 + 1 := ⟨_, rfl⟩
        have hp := stk_e hp ex3_11
        refine lv_iinc (v := x3_11) (lv' := [(3, .int x3_11), (2, .int x2_10), (0, .ref (qfo 0)), (1, .int p1)]) hx hb dX2_aloftOf_35 hl (k := 3) rfl (by rw [ex3_11]; rfl) (by decide) rfl (fun ls hl => ?_)
        refine lv_goto (tgt := 4) hx hb dX2_aloftOf_38 (by decide) ?_
        exact hk4 x2_10 x3_11 _ (lv_sub hl [2, 3, 1, 0] rfl) hp
      · have hp := ite_n hp c_9
        refine lv_iconst (v := 1) hx hb dX2_aloftOf_28 (by decide) ?_
        refine lv_goto (tgt := 33) hx hb dX2_aloftOf_29 (by decide) ?_
        refine lv_iadd hx hb dX2_aloftOf_33 ?_
        refine lv_topi (fun x2_12 ex2_12 => ?_)
        have hp := stk_e hp ex2_12
        refine lv_istore_n (lv' := [(2, .int x2_12), (0, .ref (qfo 0)), (1, .int p1), (3, .int x3)]) hx hb dX2_aloftOf_34 rfl hl (by decide) rfl (fun ls hl => ?_)
        obtain ⟨x3_13, ex3_13⟩ : ∃ y : Int32, y = x3 + 1 := ⟨_, rfl⟩
        have hp := stk_e hp ex3_13
        refine lv_iinc (v := x3_13) (lv' := [(3, .int x3_13), (2, .int x2_12), (0, .ref (qfo 0)), (1, .int p1)]) hx hb dX2_aloftOf_35 hl (k := 3) rfl (by rw [ex3_13]; rfl) (by decide) rfl (fun ls hl => ?_)
        refine lv_goto (tgt := 4) hx hb dX2_aloftOf_38 (by decide) ?_
        exact hk4 x2_12 x3_13 _ (lv_sub hl [2, 3, 1, 0] rfl) hp
theorem Fi_aloftOf_b4_w (C0 : cX RX2 cX2_aloftOf (some .int) 4 p s m args meth c) (hK : kN D cy s) {qfo qro qra qvc qos qli : Nat → Nat} {fo ro ra vc os li : Mem} {p1 : Int32} {r : Int32} (hP : va_P D vwCl (w_Fi cy qfo qro qra qvc qos qli fo ro ra vc os li) s.heap) : ∀ (n : Nat) (x2 x3 : Int32) (ls : Array Slot), lv_has ls 4 [(0, .ref (qfo 0)), (1, .int p1), (2, .int x2), (3, .int x3)] → Fi_aloftOf_b4 fo ro p1 n x2 x3 = some r → W p l e (rmD 2) s m args below meth c s.heap [] 0 0 (qRO below args s r) (F0 m 4 ls []) := by
  intro n
  induction n with
  | zero =>
    intro x2 x3 ls hl hp
    cases hp
  | succ n ih =>
    intro x2 x3 ls hl hp
    exact Fi_aloftOf_b4B_w C0 hK hP  (fun x2 x3 ls hl hp => ih x2 x3 ls hl hp) hl hp
set_option maxHeartbeats 4000000 in
set_option maxRecDepth 100000 in
theorem c_X2_aloftOf (l : Launch) (D : va_G) (cy : Nat → ClassId) (qfo qro qra qvc qos qli : Nat → Nat) (fo ro ra vc os li : Mem) (p1 : Int32) (r : Int32) (hp : Fi_aloftOf fo ro p1 = some r) : RO l yX2_aloftOf cX2_aloftOf 4 (some .int) 2 D cy [.ref (qfo 0), .int p1] (w_Fi cy qfo qro qra qvc qos qli fo ro ra vc os li) r := by
  refine RO_of RX2 rfl (by decide) (Nat.le_of_ble_eq_true rfl) ?_
  intro p e s m below meth c C0 hK hP ls hl
  obtain ⟨hx, hb, hr, hml, hown, hts, hk⟩ := id C0
  unfold Fi_aloftOf at hp
  have hl : lv_has ls 4 [(0, .ref (qfo 0)), (1, .int p1)] := hl
  refine lv_iconst (v := 0) hx hb dX2_aloftOf_0 (by decide) ?_
  refine lv_istore_n (lv' := [(2, .int 0), (0, .ref (qfo 0)), (1, .int p1)]) hx hb dX2_aloftOf_1 rfl hl (by decide) rfl (fun ls hl => ?_)
  refine lv_iconst (v := 0) hx hb dX2_aloftOf_2 (by decide) ?_
  refine lv_istore_n (lv' := [(3, .int 0), (2, .int 0), (0, .ref (qfo 0)), (1, .int p1)]) hx hb dX2_aloftOf_3 rfl hl (by decide) rfl (fun ls hl => ?_)
  exact Fi_aloftOf_b4_w C0 hK hP  fl 0 0 _ (lv_sub hl [2, 3, 1, 0] rfl) hp
/-! StormSlots$Field.waitsOf(I)I -/
def Fi_waitsOf_b4B (fo : Mem) (ro : Mem) (p1 : Int32) (k4 : Int32 → Int32 → Option (Int32)) (x2 : Int32) (x3 : Int32) : Option (Int32) :=
  if 20 ≤ x3 then some x2 else bn1 (Fi_isOf ro x3 p1) (fun r_3 => if r_3 = 0 then stk (x2 + 0) (fun x2_5 => stk (x3 + 1) (fun x3_6 => k4 x2_5 x3_6)) else bn1 (Fi_isSeated fo x3) (fun r_8 => if r_8 = 0 then stk (x2 + 0) (fun x2_10 => stk (x3 + 1) (fun x3_11 => k4 x2_10 x3_11)) else bn1 (Fi_waitOf fo x3) (fun r_13 => stk (x2 + r_13) (fun x2_14 => stk (x3 + 1) (fun x3_15 => k4 x2_14 x3_15)))))
def Fi_waitsOf_b4 (fo : Mem) (ro : Mem) (p1 : Int32) : Nat → Int32 → Int32 → Option (Int32)
  | 0 => fun _ _ => none
  | n + 1 => Fi_waitsOf_b4B fo ro p1 (Fi_waitsOf_b4 fo ro p1 n)
def Fi_waitsOf (fo : Mem) (ro : Mem) (p1 : Int32) : Option (Int32) :=
  Fi_waitsOf_b4 fo ro p1 fl 0 0
set_option maxHeartbeats 4000000 in
set_option maxRecDepth 100000 in
theorem Fi_waitsOf_b4B_w (C0 : cX RX2 cX2_waitsOf (some .int) 4 p s m args meth c) (hK : kN D cy s) {qfo qro qra qvc qos qli : Nat → Nat} {fo ro ra vc os li : Mem} {p1 : Int32} {r : Int32} (hP : va_P D vwCl (w_Fi cy qfo qro qra qvc qos qli fo ro ra vc os li) s.heap) {k4 : Int32 → Int32 → Option (Int32)} (hk4 : ∀ (x2 x3 : Int32) (ls : Array Slot), lv_has ls 4 [(0, .ref (qfo 0)), (1, .int p1), (2, .int x2), (3, .int x3)] → k4 x2 x3 = some r → W p l e (rmD 2) s m args below meth c s.heap [] 0 0 (qRO below args s r) (F0 m 4 ls [])) {x2 : Int32} {x3 : Int32} {ls : Array Slot} (hl : lv_has ls 4 [(0, .ref (qfo 0)), (1, .int p1), (2, .int x2), (3, .int x3)]) (hp : Fi_waitsOf_b4B fo ro p1 k4 x2 x3 = some r) : W p l e (rmD 2) s m args below meth c s.heap [] 0 0 (qRO below args s r) (F0 m 4 ls []) := by
  obtain ⟨hx, hb, hr, hml, hown, hts, hk⟩ := id C0
  unfold Fi_waitsOf_b4B at hp
  refine lv_iload_n hx hb dX2_waitsOf_4 rfl (lv_at hl 3 rfl) ?_
  refine lv_bipush (v := 20) hx hb dX2_waitsOf_5 (by decide) ?_
  refine lv_icmp_ge (tgt := 45) hx hb dX2_waitsOf_7 (by decide) (fun c_1 => ?_) (fun c_1 => ?_)
  · have hp := ite_p hp c_1
    refine lv_iload_n hx hb dX2_waitsOf_45 rfl (lv_at hl 2 rfl) ?_
    exact e_ROi hx hb hr hk dX2_waitsOf_46 (Option.some.inj hp)
  · have hp := ite_n hp c_1
    refine lv_iload_n hx hb dX2_waitsOf_10 rfl (lv_at hl 2 rfl) ?_
    refine lv_aload_n hx hb dX2_waitsOf_11 rfl (lv_at hl 0 rfl) ?_
    refine lv_iload_n hx hb dX2_waitsOf_12 rfl (lv_at hl 3 rfl) ?_
    refine lv_iload_n hx hb dX2_waitsOf_13 rfl (lv_at hl 1 rfl) ?_
    obtain ⟨r_3, hc_2, hp⟩ := bn1_s hp
    refine k_ROV (As := [.int x3, .int p1]) (rest := [.int x2]) ⟨hx, hb, hml, hown, hts⟩ hK hP (cw_X2_202 hts ⟨Nat.le_of_ble_eq_true rfl, Nat.le_of_ble_eq_true rfl⟩) 0 (ci := 2) rfl rfl rfl (c_X2_isOf l D cy qfo qro qra qvc qos qli fo ro ra vc os li x3 p1 r_3 hc_2) rfl hl.1 (Nat.le_of_ble_eq_true rfl) ⟨Nat.le_refl _, Nat.le_refl _⟩ dX2_waitsOf_14 ?_
    refine lv_if_eq (tgt := 36) hx hb dX2_waitsOf_17 (by decide) (fun c_4 => ?_) (fun c_4 => ?_)
    · have hp := ite_p hp c_4
      refine lv_iconst (v := 0) hx hb dX2_waitsOf_36 (by decide) ?_
      refine lv_iadd hx hb dX2_waitsOf_37 ?_
      refine lv_topi (fun x2_5 ex2_5 => ?_)
      have hp := stk_e hp ex2_5
      refine lv_istore_n (lv' := [(2, .int x2_5), (0, .ref (qfo 0)), (1, .int p1), (3, .int x3)]) hx hb dX2_waitsOf_38 rfl hl (by decide) rfl (fun ls hl => ?_)
      obtain ⟨x3_6, ex3_6⟩ : ∃ y : Int32, y = x3 + 1 := ⟨_, rfl⟩
      have hp := stk_e hp ex3_6
      refine lv_iinc (v := x3_6) (lv' := [(3, .int x3_6), (2, .int x2_5), (0, .ref (qfo 0)), (1, .int p1)]) hx hb dX2_waitsOf_39 hl (k := 3) rfl (by rw [ex3_6]; rfl) (by decide) rfl (fun ls hl => ?_)
      refine lv_goto (tgt := 4) hx hb dX2_waitsOf_42 (by decide) ?_
      exact hk4 x2_5 x3_6 _ (lv_sub hl [2, 3, 1, 0] rfl) hp
    · have hp := ite_n hp c_4
      refine lv_aload_n hx hb dX2_waitsOf_20 rfl (lv_at hl 0 rfl) ?_
      refine lv_iload_n hx hb dX2_waitsOf_21 rfl (lv_at hl 3 rfl) ?_
      obtain ⟨r_8, hc_7, hp⟩ := bn1_s hp
      refine k_ROV (As := [.int x3]) (rest := [.int x2]) ⟨hx, hb, hml, hown, hts⟩ hK hP (cw_X2_126 hts ⟨Nat.le_of_ble_eq_true rfl, Nat.le_of_ble_eq_true rfl⟩) 0 (ci := 2) rfl rfl rfl (c_X2_isSeated l D cy qfo qro qra qvc qos qli fo ro ra vc os li x3 r_8 hc_7) rfl hl.1 (Nat.le_of_ble_eq_true rfl) ⟨Nat.le_refl _, Nat.le_refl _⟩ dX2_waitsOf_22 ?_
      refine lv_if_eq (tgt := 36) hx hb dX2_waitsOf_25 (by decide) (fun c_9 => ?_) (fun c_9 => ?_)
      · have hp := ite_p hp c_9
        refine lv_iconst (v := 0) hx hb dX2_waitsOf_36 (by decide) ?_
        refine lv_iadd hx hb dX2_waitsOf_37 ?_
        refine lv_topi (fun x2_10 ex2_10 => ?_)
        have hp := stk_e hp ex2_10
        refine lv_istore_n (lv' := [(2, .int x2_10), (0, .ref (qfo 0)), (1, .int p1), (3, .int x3)]) hx hb dX2_waitsOf_38 rfl hl (by decide) rfl (fun ls hl => ?_)
        obtain ⟨x3_11, ex3_11⟩ : ∃ y : Int32, y = x3 + 1 := ⟨_, rfl⟩
        have hp := stk_e hp ex3_11
        refine lv_iinc (v := x3_11) (lv' := [(3, .int x3_11), (2, .int x2_10), (0, .ref (qfo 0)), (1, .int p1)]) hx hb dX2_waitsOf_39 hl (k := 3) rfl (by rw [ex3_11]; rfl) (by decide) rfl (fun ls hl => ?_)
        refine lv_goto (tgt := 4) hx hb dX2_waitsOf_42 (by decide) ?_
        exact hk4 x2_10 x3_11 _ (lv_sub hl [2, 3, 1, 0] rfl) hp
      · have hp := ite_n hp c_9
        refine lv_aload_n hx hb dX2_waitsOf_28 rfl (lv_at hl 0 rfl) ?_
        refine lv_iload_n hx hb dX2_waitsOf_29 rfl (lv_at hl 3 rfl) ?_
        obtain ⟨r_13, hc_12, hp⟩ := bn1_s hp
        refine k_ROV (As := [.int x3]) (rest := [.int x2]) ⟨hx, hb, hml, hown, hts⟩ hK hP (cw_X2_211 hts ⟨Nat.le_of_ble_eq_true rfl, Nat.le_of_ble_eq_true rfl⟩) 0 (ci := 2) rfl rfl rfl (c_X2_waitOf l D cy qfo qro qra qvc qos qli fo ro ra vc os li x3 r_13 hc_12) rfl hl.1 (Nat.le_of_ble_eq_true rfl) ⟨Nat.le_refl _, Nat.le_refl _⟩ dX2_waitsOf_30 ?_
        refine lv_goto (tgt := 37) hx hb dX2_waitsOf_33 (by decide) ?_
        refine lv_iadd hx hb dX2_waitsOf_37 ?_
        refine lv_topi (fun x2_14 ex2_14 => ?_)
        have hp := stk_e hp ex2_14
        refine lv_istore_n (lv' := [(2, .int x2_14), (0, .ref (qfo 0)), (1, .int p1), (3, .int x3)]) hx hb dX2_waitsOf_38 rfl hl (by decide) rfl (fun ls hl => ?_)
        obtain ⟨x3_15, ex3_15⟩ : ∃ y : Int32, y = x3 + 1 := ⟨_, rfl⟩
        have hp := stk_e hp ex3_15
        refine lv_iinc (v := x3_15) (lv' := [(3, .int x3_15), (2, .int x2_14), (0, .ref (qfo 0)), (1, .int p1)]) hx hb dX2_waitsOf_39 hl (k := 3) rfl (by rw [ex3_15]; rfl) (by decide) rfl (fun ls hl => ?_)
        refine lv_goto (tgt := 4) hx hb dX2_waitsOf_42 (by decide) ?_
        exact hk4 x2_14 x3_15 _ (lv_sub hl [2, 3, 1, 0] rfl) hp
theorem Fi_waitsOf_b4_w (C0 : cX RX2 cX2_waitsOf (some .int) 4 p s m args meth c) (hK : kN D cy s) {qfo qro qra qvc qos qli : Nat → Nat} {fo ro ra vc os li : Mem} {p1 : Int32} {r : Int32} (hP : va_P D vwCl (w_Fi cy qfo qro qra qvc qos qli fo ro ra vc os li) s.heap) : ∀ (n : Nat) (x2 x3 : Int32) (ls : Array Slot), lv_has ls 4 [(0, .ref (qfo 0)), (1, .int p1), (2, .int x2), (3, .int x3)] → Fi_waitsOf_b4 fo ro p1 n x2 x3 = some r → W p l e (rmD 2) s m args below meth c s.heap [] 0 0 (qRO below args s r) (F0 m 4 ls []) := by
  intro n
  induction n with
  | zero =>
    intro x2 x3 ls hl hp
    cases hp
  | succ n ih =>
    intro x2 x3 ls hl hp
    exact Fi_waitsOf_b4B_w C0 hK hP  (fun x2 x3 ls hl hp => ih x2 x3 ls hl hp) hl hp
set_option maxHeartbeats 4000000 in
set_option maxRecDepth 100000 in
theorem c_X2_waitsOf (l : Launch) (D : va_G) (cy : Nat → ClassId) (qfo qro qra qvc qos qli : Nat → Nat) (fo ro ra vc os li : Mem) (p1 : Int32) (r : Int32) (hp : Fi_waitsOf fo ro p1 = some r) : RO l yX2_waitsOf cX2_waitsOf 4 (some .int) 2 D cy [.ref (qfo 0), .int p1] (w_Fi cy qfo qro qra qvc qos qli fo ro ra vc os li) r := by
  refine RO_of RX2 rfl (by decide) (Nat.le_of_ble_eq_true rfl) ?_
  intro p e s m below meth c C0 hK hP ls hl
  obtain ⟨hx, hb, hr, hml, hown, hts, hk⟩ := id C0
  unfold Fi_waitsOf at hp
  have hl : lv_has ls 4 [(0, .ref (qfo 0)), (1, .int p1)] := hl
  refine lv_iconst (v := 0) hx hb dX2_waitsOf_0 (by decide) ?_
  refine lv_istore_n (lv' := [(2, .int 0), (0, .ref (qfo 0)), (1, .int p1)]) hx hb dX2_waitsOf_1 rfl hl (by decide) rfl (fun ls hl => ?_)
  refine lv_iconst (v := 0) hx hb dX2_waitsOf_2 (by decide) ?_
  refine lv_istore_n (lv' := [(3, .int 0), (2, .int 0), (0, .ref (qfo 0)), (1, .int p1)]) hx hb dX2_waitsOf_3 rfl hl (by decide) rfl (fun ls hl => ?_)
  exact Fi_waitsOf_b4_w C0 hK hP  fl 0 0 _ (lv_sub hl [2, 3, 1, 0] rfl) hp
/-! StormSlots$Field.longestWaitOf(I)I -/
def Fi_longestWaitOf_b4B (fo : Mem) (ro : Mem) (p1 : Int32) (k4 : Int32 → Int32 → Option (Int32)) (x2 : Int32) (x3 : Int32) : Option (Int32) :=
  if 20 ≤ x3 then some x2 else bn1 (Fi_isOf ro x3 p1) (fun r_3 => if r_3 = 0 then stk (x3 + 1) (fun x3_5 => k4 x2 x3_5) else bn1 (Fi_isSeated fo x3) (fun r_7 => if r_7 = 0 then stk (x3 + 1) (fun x3_9 => k4 x2 x3_9) else bn1 (Fi_waitOf fo x3) (fun r_11 => stk (if x2 < r_11 then r_11 else x2) (fun x2_12 => stk (x3 + 1) (fun x3_13 => k4 x2_12 x3_13)))))
def Fi_longestWaitOf_b4 (fo : Mem) (ro : Mem) (p1 : Int32) : Nat → Int32 → Int32 → Option (Int32)
  | 0 => fun _ _ => none
  | n + 1 => Fi_longestWaitOf_b4B fo ro p1 (Fi_longestWaitOf_b4 fo ro p1 n)
def Fi_longestWaitOf (fo : Mem) (ro : Mem) (p1 : Int32) : Option (Int32) :=
  Fi_longestWaitOf_b4 fo ro p1 fl 0 0
set_option maxHeartbeats 4000000 in
set_option maxRecDepth 100000 in
theorem Fi_longestWaitOf_b4B_w (C0 : cX RX2 cX2_longestWaitOf (some .int) 4 p s m args meth c) (hK : kN D cy s) {qfo qro qra qvc qos qli : Nat → Nat} {fo ro ra vc os li : Mem} {p1 : Int32} {r : Int32} (hP : va_P D vwCl (w_Fi cy qfo qro qra qvc qos qli fo ro ra vc os li) s.heap) {k4 : Int32 → Int32 → Option (Int32)} (hk4 : ∀ (x2 x3 : Int32) (ls : Array Slot), lv_has ls 4 [(0, .ref (qfo 0)), (1, .int p1), (2, .int x2), (3, .int x3)] → k4 x2 x3 = some r → W p l e (rmD 2) s m args below meth c s.heap [] 0 0 (qRO below args s r) (F0 m 4 ls [])) {x2 : Int32} {x3 : Int32} {ls : Array Slot} (hl : lv_has ls 4 [(0, .ref (qfo 0)), (1, .int p1), (2, .int x2), (3, .int x3)]) (hp : Fi_longestWaitOf_b4B fo ro p1 k4 x2 x3 = some r) : W p l e (rmD 2) s m args below meth c s.heap [] 0 0 (qRO below args s r) (F0 m 4 ls []) := by
  obtain ⟨hx, hb, hr, hml, hown, hts, hk⟩ := id C0
  unfold Fi_longestWaitOf_b4B at hp
  refine lv_iload_n hx hb dX2_longestWaitOf_4 rfl (lv_at hl 3 rfl) ?_
  refine lv_bipush (v := 20) hx hb dX2_longestWaitOf_5 (by decide) ?_
  refine lv_icmp_ge (tgt := 43) hx hb dX2_longestWaitOf_7 (by decide) (fun c_1 => ?_) (fun c_1 => ?_)
  · have hp := ite_p hp c_1
    refine lv_iload_n hx hb dX2_longestWaitOf_43 rfl (lv_at hl 2 rfl) ?_
    exact e_ROi hx hb hr hk dX2_longestWaitOf_44 (Option.some.inj hp)
  · have hp := ite_n hp c_1
    refine lv_aload_n hx hb dX2_longestWaitOf_10 rfl (lv_at hl 0 rfl) ?_
    refine lv_iload_n hx hb dX2_longestWaitOf_11 rfl (lv_at hl 3 rfl) ?_
    refine lv_iload_n hx hb dX2_longestWaitOf_12 rfl (lv_at hl 1 rfl) ?_
    obtain ⟨r_3, hc_2, hp⟩ := bn1_s hp
    refine k_ROV (As := [.int x3, .int p1]) (rest := []) ⟨hx, hb, hml, hown, hts⟩ hK hP (cw_X2_202 hts ⟨Nat.le_of_ble_eq_true rfl, Nat.le_of_ble_eq_true rfl⟩) 0 (ci := 2) rfl rfl rfl (c_X2_isOf l D cy qfo qro qra qvc qos qli fo ro ra vc os li x3 p1 r_3 hc_2) rfl hl.1 (Nat.le_of_ble_eq_true rfl) ⟨Nat.le_refl _, Nat.le_refl _⟩ dX2_longestWaitOf_13 ?_
    refine lv_if_eq (tgt := 37) hx hb dX2_longestWaitOf_16 (by decide) (fun c_4 => ?_) (fun c_4 => ?_)
    · have hp := ite_p hp c_4
      obtain ⟨x3_5, ex3_5⟩ : ∃ y : Int32, y = x3 + 1 := ⟨_, rfl⟩
      have hp := stk_e hp ex3_5
      refine lv_iinc (v := x3_5) (lv' := [(3, .int x3_5), (0, .ref (qfo 0)), (1, .int p1), (2, .int x2)]) hx hb dX2_longestWaitOf_37 hl (k := 3) rfl (by rw [ex3_5]; rfl) (by decide) rfl (fun ls hl => ?_)
      refine lv_goto (tgt := 4) hx hb dX2_longestWaitOf_40 (by decide) ?_
      exact hk4 x2 x3_5 _ (lv_sub hl [1, 2, 3, 0] rfl) hp
    · have hp := ite_n hp c_4
      refine lv_aload_n hx hb dX2_longestWaitOf_19 rfl (lv_at hl 0 rfl) ?_
      refine lv_iload_n hx hb dX2_longestWaitOf_20 rfl (lv_at hl 3 rfl) ?_
      obtain ⟨r_7, hc_6, hp⟩ := bn1_s hp
      refine k_ROV (As := [.int x3]) (rest := []) ⟨hx, hb, hml, hown, hts⟩ hK hP (cw_X2_126 hts ⟨Nat.le_of_ble_eq_true rfl, Nat.le_of_ble_eq_true rfl⟩) 0 (ci := 2) rfl rfl rfl (c_X2_isSeated l D cy qfo qro qra qvc qos qli fo ro ra vc os li x3 r_7 hc_6) rfl hl.1 (Nat.le_of_ble_eq_true rfl) ⟨Nat.le_refl _, Nat.le_refl _⟩ dX2_longestWaitOf_21 ?_
      refine lv_if_eq (tgt := 37) hx hb dX2_longestWaitOf_24 (by decide) (fun c_8 => ?_) (fun c_8 => ?_)
      · have hp := ite_p hp c_8
        obtain ⟨x3_9, ex3_9⟩ : ∃ y : Int32, y = x3 + 1 := ⟨_, rfl⟩
        have hp := stk_e hp ex3_9
        refine lv_iinc (v := x3_9) (lv' := [(3, .int x3_9), (0, .ref (qfo 0)), (1, .int p1), (2, .int x2)]) hx hb dX2_longestWaitOf_37 hl (k := 3) rfl (by rw [ex3_9]; rfl) (by decide) rfl (fun ls hl => ?_)
        refine lv_goto (tgt := 4) hx hb dX2_longestWaitOf_40 (by decide) ?_
        exact hk4 x2 x3_9 _ (lv_sub hl [1, 2, 3, 0] rfl) hp
      · have hp := ite_n hp c_8
        refine lv_iload_n hx hb dX2_longestWaitOf_27 rfl (lv_at hl 2 rfl) ?_
        refine lv_aload_n hx hb dX2_longestWaitOf_28 rfl (lv_at hl 0 rfl) ?_
        refine lv_iload_n hx hb dX2_longestWaitOf_29 rfl (lv_at hl 3 rfl) ?_
        obtain ⟨r_11, hc_10, hp⟩ := bn1_s hp
        refine k_ROV (As := [.int x3]) (rest := [.int x2]) ⟨hx, hb, hml, hown, hts⟩ hK hP (cw_X2_211 hts ⟨Nat.le_of_ble_eq_true rfl, Nat.le_of_ble_eq_true rfl⟩) 0 (ci := 2) rfl rfl rfl (c_X2_waitOf l D cy qfo qro qra qvc qos qli fo ro ra vc os li x3 r_11 hc_10) rfl hl.1 (Nat.le_of_ble_eq_true rfl) ⟨Nat.le_refl _, Nat.le_refl _⟩ dX2_longestWaitOf_30 ?_
        refine mm_X2_120 hx hb (by rw [hml]; exact hl.1.symm) hts hown (Nat.le_of_ble_eq_true rfl) (Nat.le_of_ble_eq_true rfl) (Nat.le_refl _) (Nat.le_refl _) dX2_longestWaitOf_33 ?_
        refine lv_topi (fun x2_12 ex2_12 => ?_)
        have hp := stk_e hp ex2_12
        refine lv_istore_n (lv' := [(2, .int x2_12), (0, .ref (qfo 0)), (1, .int p1), (3, .int x3)]) hx hb dX2_longestWaitOf_36 rfl hl (by decide) rfl (fun ls hl => ?_)
        obtain ⟨x3_13, ex3_13⟩ : ∃ y : Int32, y = x3 + 1 := ⟨_, rfl⟩
        have hp := stk_e hp ex3_13
        refine lv_iinc (v := x3_13) (lv' := [(3, .int x3_13), (2, .int x2_12), (0, .ref (qfo 0)), (1, .int p1)]) hx hb dX2_longestWaitOf_37 hl (k := 3) rfl (by rw [ex3_13]; rfl) (by decide) rfl (fun ls hl => ?_)
        refine lv_goto (tgt := 4) hx hb dX2_longestWaitOf_40 (by decide) ?_
        exact hk4 x2_12 x3_13 _ (lv_sub hl [2, 3, 1, 0] rfl) hp
theorem Fi_longestWaitOf_b4_w (C0 : cX RX2 cX2_longestWaitOf (some .int) 4 p s m args meth c) (hK : kN D cy s) {qfo qro qra qvc qos qli : Nat → Nat} {fo ro ra vc os li : Mem} {p1 : Int32} {r : Int32} (hP : va_P D vwCl (w_Fi cy qfo qro qra qvc qos qli fo ro ra vc os li) s.heap) : ∀ (n : Nat) (x2 x3 : Int32) (ls : Array Slot), lv_has ls 4 [(0, .ref (qfo 0)), (1, .int p1), (2, .int x2), (3, .int x3)] → Fi_longestWaitOf_b4 fo ro p1 n x2 x3 = some r → W p l e (rmD 2) s m args below meth c s.heap [] 0 0 (qRO below args s r) (F0 m 4 ls []) := by
  intro n
  induction n with
  | zero =>
    intro x2 x3 ls hl hp
    cases hp
  | succ n ih =>
    intro x2 x3 ls hl hp
    exact Fi_longestWaitOf_b4B_w C0 hK hP  (fun x2 x3 ls hl hp => ih x2 x3 ls hl hp) hl hp
set_option maxHeartbeats 4000000 in
set_option maxRecDepth 100000 in
theorem c_X2_longestWaitOf (l : Launch) (D : va_G) (cy : Nat → ClassId) (qfo qro qra qvc qos qli : Nat → Nat) (fo ro ra vc os li : Mem) (p1 : Int32) (r : Int32) (hp : Fi_longestWaitOf fo ro p1 = some r) : RO l yX2_longestWaitOf cX2_longestWaitOf 4 (some .int) 2 D cy [.ref (qfo 0), .int p1] (w_Fi cy qfo qro qra qvc qos qli fo ro ra vc os li) r := by
  refine RO_of RX2 rfl (by decide) (Nat.le_of_ble_eq_true rfl) ?_
  intro p e s m below meth c C0 hK hP ls hl
  obtain ⟨hx, hb, hr, hml, hown, hts, hk⟩ := id C0
  unfold Fi_longestWaitOf at hp
  have hl : lv_has ls 4 [(0, .ref (qfo 0)), (1, .int p1)] := hl
  refine lv_iconst (v := 0) hx hb dX2_longestWaitOf_0 (by decide) ?_
  refine lv_istore_n (lv' := [(2, .int 0), (0, .ref (qfo 0)), (1, .int p1)]) hx hb dX2_longestWaitOf_1 rfl hl (by decide) rfl (fun ls hl => ?_)
  refine lv_iconst (v := 0) hx hb dX2_longestWaitOf_2 (by decide) ?_
  refine lv_istore_n (lv' := [(3, .int 0), (2, .int 0), (0, .ref (qfo 0)), (1, .int p1)]) hx hb dX2_longestWaitOf_3 rfl hl (by decide) rfl (fun ls hl => ?_)
  exact Fi_longestWaitOf_b4_w C0 hK hP  fl 0 0 _ (lv_sub hl [2, 3, 1, 0] rfl) hp
/-! StormSlots$Field.lineCost(I)I -/
def Fi_lineCost_b4B (fo : Mem) (ro : Mem) (p1 : Int32) (k4 : Int32 → Int32 → Option (Int32)) (x2 : Int32) (x3 : Int32) : Option (Int32) :=
  if 20 ≤ x3 then some x2 else bn1 (Fi_isOf ro x3 p1) (fun r_3 => if r_3 = 0 then stk (x2 + 0) (fun x2_5 => stk (x3 + 1) (fun x3_6 => k4 x2_5 x3_6)) else bn1 (Fi_isSeated fo x3) (fun r_8 => if r_8 = 0 then stk (x2 + 0) (fun x2_10 => stk (x3 + 1) (fun x3_11 => k4 x2_10 x3_11)) else bn1 (Fi_costOf fo ro x3) (fun r_13 => stk (x2 + r_13) (fun x2_14 => stk (x3 + 1) (fun x3_15 => k4 x2_14 x3_15)))))
def Fi_lineCost_b4 (fo : Mem) (ro : Mem) (p1 : Int32) : Nat → Int32 → Int32 → Option (Int32)
  | 0 => fun _ _ => none
  | n + 1 => Fi_lineCost_b4B fo ro p1 (Fi_lineCost_b4 fo ro p1 n)
def Fi_lineCost (fo : Mem) (ro : Mem) (p1 : Int32) : Option (Int32) :=
  Fi_lineCost_b4 fo ro p1 fl 0 0
set_option maxHeartbeats 4000000 in
set_option maxRecDepth 100000 in
theorem Fi_lineCost_b4B_w (C0 : cX RX2 cX2_lineCost (some .int) 4 p s m args meth c) (hK : kN D cy s) {qfo qro qra qvc qos qli : Nat → Nat} {fo ro ra vc os li : Mem} {p1 : Int32} {r : Int32} (hP : va_P D vwCl (w_Fi cy qfo qro qra qvc qos qli fo ro ra vc os li) s.heap) {k4 : Int32 → Int32 → Option (Int32)} (hk4 : ∀ (x2 x3 : Int32) (ls : Array Slot), lv_has ls 4 [(0, .ref (qfo 0)), (1, .int p1), (2, .int x2), (3, .int x3)] → k4 x2 x3 = some r → W p l e (rmD 2) s m args below meth c s.heap [] 0 0 (qRO below args s r) (F0 m 4 ls [])) {x2 : Int32} {x3 : Int32} {ls : Array Slot} (hl : lv_has ls 4 [(0, .ref (qfo 0)), (1, .int p1), (2, .int x2), (3, .int x3)]) (hp : Fi_lineCost_b4B fo ro p1 k4 x2 x3 = some r) : W p l e (rmD 2) s m args below meth c s.heap [] 0 0 (qRO below args s r) (F0 m 4 ls []) := by
  obtain ⟨hx, hb, hr, hml, hown, hts, hk⟩ := id C0
  unfold Fi_lineCost_b4B at hp
  refine lv_iload_n hx hb dX2_lineCost_4 rfl (lv_at hl 3 rfl) ?_
  refine lv_bipush (v := 20) hx hb dX2_lineCost_5 (by decide) ?_
  refine lv_icmp_ge (tgt := 45) hx hb dX2_lineCost_7 (by decide) (fun c_1 => ?_) (fun c_1 => ?_)
  · have hp := ite_p hp c_1
    refine lv_iload_n hx hb dX2_lineCost_45 rfl (lv_at hl 2 rfl) ?_
    exact e_ROi hx hb hr hk dX2_lineCost_46 (Option.some.inj hp)
  · have hp := ite_n hp c_1
    refine lv_iload_n hx hb dX2_lineCost_10 rfl (lv_at hl 2 rfl) ?_
    refine lv_aload_n hx hb dX2_lineCost_11 rfl (lv_at hl 0 rfl) ?_
    refine lv_iload_n hx hb dX2_lineCost_12 rfl (lv_at hl 3 rfl) ?_
    refine lv_iload_n hx hb dX2_lineCost_13 rfl (lv_at hl 1 rfl) ?_
    obtain ⟨r_3, hc_2, hp⟩ := bn1_s hp
    refine k_ROV (As := [.int x3, .int p1]) (rest := [.int x2]) ⟨hx, hb, hml, hown, hts⟩ hK hP (cw_X2_202 hts ⟨Nat.le_of_ble_eq_true rfl, Nat.le_of_ble_eq_true rfl⟩) 0 (ci := 2) rfl rfl rfl (c_X2_isOf l D cy qfo qro qra qvc qos qli fo ro ra vc os li x3 p1 r_3 hc_2) rfl hl.1 (Nat.le_of_ble_eq_true rfl) ⟨Nat.le_refl _, Nat.le_refl _⟩ dX2_lineCost_14 ?_
    refine lv_if_eq (tgt := 36) hx hb dX2_lineCost_17 (by decide) (fun c_4 => ?_) (fun c_4 => ?_)
    · have hp := ite_p hp c_4
      refine lv_iconst (v := 0) hx hb dX2_lineCost_36 (by decide) ?_
      refine lv_iadd hx hb dX2_lineCost_37 ?_
      refine lv_topi (fun x2_5 ex2_5 => ?_)
      have hp := stk_e hp ex2_5
      refine lv_istore_n (lv' := [(2, .int x2_5), (0, .ref (qfo 0)), (1, .int p1), (3, .int x3)]) hx hb dX2_lineCost_38 rfl hl (by decide) rfl (fun ls hl => ?_)
      obtain ⟨x3_6, ex3_6⟩ : ∃ y : Int32, y = x3 + 1 := ⟨_, rfl⟩
      have hp := stk_e hp ex3_6
      refine lv_iinc (v := x3_6) (lv' := [(3, .int x3_6), (2, .int x2_5), (0, .ref (qfo 0)), (1, .int p1)]) hx hb dX2_lineCost_39 hl (k := 3) rfl (by rw [ex3_6]; rfl) (by decide) rfl (fun ls hl => ?_)
      refine lv_goto (tgt := 4) hx hb dX2_lineCost_42 (by decide) ?_
      exact hk4 x2_5 x3_6 _ (lv_sub hl [2, 3, 1, 0] rfl) hp
    · have hp := ite_n hp c_4
      refine lv_aload_n hx hb dX2_lineCost_20 rfl (lv_at hl 0 rfl) ?_
      refine lv_iload_n hx hb dX2_lineCost_21 rfl (lv_at hl 3 rfl) ?_
      obtain ⟨r_8, hc_7, hp⟩ := bn1_s hp
      refine k_ROV (As := [.int x3]) (rest := [.int x2]) ⟨hx, hb, hml, hown, hts⟩ hK hP (cw_X2_126 hts ⟨Nat.le_of_ble_eq_true rfl, Nat.le_of_ble_eq_true rfl⟩) 0 (ci := 2) rfl rfl rfl (c_X2_isSeated l D cy qfo qro qra qvc qos qli fo ro ra vc os li x3 r_8 hc_7) rfl hl.1 (Nat.le_of_ble_eq_true rfl) ⟨Nat.le_refl _, Nat.le_refl _⟩ dX2_lineCost_22 ?_
      refine lv_if_eq (tgt := 36) hx hb dX2_lineCost_25 (by decide) (fun c_9 => ?_) (fun c_9 => ?_)
      · have hp := ite_p hp c_9
        refine lv_iconst (v := 0) hx hb dX2_lineCost_36 (by decide) ?_
        refine lv_iadd hx hb dX2_lineCost_37 ?_
        refine lv_topi (fun x2_10 ex2_10 => ?_)
        have hp := stk_e hp ex2_10
        refine lv_istore_n (lv' := [(2, .int x2_10), (0, .ref (qfo 0)), (1, .int p1), (3, .int x3)]) hx hb dX2_lineCost_38 rfl hl (by decide) rfl (fun ls hl => ?_)
        obtain ⟨x3_11, ex3_11⟩ : ∃ y : Int32, y = x3 + 1 := ⟨_, rfl⟩
        have hp := stk_e hp ex3_11
        refine lv_iinc (v := x3_11) (lv' := [(3, .int x3_11), (2, .int x2_10), (0, .ref (qfo 0)), (1, .int p1)]) hx hb dX2_lineCost_39 hl (k := 3) rfl (by rw [ex3_11]; rfl) (by decide) rfl (fun ls hl => ?_)
        refine lv_goto (tgt := 4) hx hb dX2_lineCost_42 (by decide) ?_
        exact hk4 x2_10 x3_11 _ (lv_sub hl [2, 3, 1, 0] rfl) hp
      · have hp := ite_n hp c_9
        refine lv_aload_n hx hb dX2_lineCost_28 rfl (lv_at hl 0 rfl) ?_
        refine lv_iload_n hx hb dX2_lineCost_29 rfl (lv_at hl 3 rfl) ?_
        obtain ⟨r_13, hc_12, hp⟩ := bn1_s hp
        refine k_ROV (As := [.int x3]) (rest := [.int x2]) ⟨hx, hb, hml, hown, hts⟩ hK hP (cw_X2_214 hts ⟨Nat.le_of_ble_eq_true rfl, Nat.le_of_ble_eq_true rfl⟩) 0 (ci := 2) rfl rfl rfl (c_X2_costOf l D cy qfo qro qra qvc qos qli fo ro ra vc os li x3 r_13 hc_12) rfl hl.1 (Nat.le_of_ble_eq_true rfl) ⟨Nat.le_refl _, Nat.le_refl _⟩ dX2_lineCost_30 ?_
        refine lv_goto (tgt := 37) hx hb dX2_lineCost_33 (by decide) ?_
        refine lv_iadd hx hb dX2_lineCost_37 ?_
        refine lv_topi (fun x2_14 ex2_14 => ?_)
        have hp := stk_e hp ex2_14
        refine lv_istore_n (lv' := [(2, .int x2_14), (0, .ref (qfo 0)), (1, .int p1), (3, .int x3)]) hx hb dX2_lineCost_38 rfl hl (by decide) rfl (fun ls hl => ?_)
        obtain ⟨x3_15, ex3_15⟩ : ∃ y : Int32, y = x3 + 1 := ⟨_, rfl⟩
        have hp := stk_e hp ex3_15
        refine lv_iinc (v := x3_15) (lv' := [(3, .int x3_15), (2, .int x2_14), (0, .ref (qfo 0)), (1, .int p1)]) hx hb dX2_lineCost_39 hl (k := 3) rfl (by rw [ex3_15]; rfl) (by decide) rfl (fun ls hl => ?_)
        refine lv_goto (tgt := 4) hx hb dX2_lineCost_42 (by decide) ?_
        exact hk4 x2_14 x3_15 _ (lv_sub hl [2, 3, 1, 0] rfl) hp
theorem Fi_lineCost_b4_w (C0 : cX RX2 cX2_lineCost (some .int) 4 p s m args meth c) (hK : kN D cy s) {qfo qro qra qvc qos qli : Nat → Nat} {fo ro ra vc os li : Mem} {p1 : Int32} {r : Int32} (hP : va_P D vwCl (w_Fi cy qfo qro qra qvc qos qli fo ro ra vc os li) s.heap) : ∀ (n : Nat) (x2 x3 : Int32) (ls : Array Slot), lv_has ls 4 [(0, .ref (qfo 0)), (1, .int p1), (2, .int x2), (3, .int x3)] → Fi_lineCost_b4 fo ro p1 n x2 x3 = some r → W p l e (rmD 2) s m args below meth c s.heap [] 0 0 (qRO below args s r) (F0 m 4 ls []) := by
  intro n
  induction n with
  | zero =>
    intro x2 x3 ls hl hp
    cases hp
  | succ n ih =>
    intro x2 x3 ls hl hp
    exact Fi_lineCost_b4B_w C0 hK hP  (fun x2 x3 ls hl hp => ih x2 x3 ls hl hp) hl hp
set_option maxHeartbeats 4000000 in
set_option maxRecDepth 100000 in
theorem c_X2_lineCost (l : Launch) (D : va_G) (cy : Nat → ClassId) (qfo qro qra qvc qos qli : Nat → Nat) (fo ro ra vc os li : Mem) (p1 : Int32) (r : Int32) (hp : Fi_lineCost fo ro p1 = some r) : RO l yX2_lineCost cX2_lineCost 4 (some .int) 2 D cy [.ref (qfo 0), .int p1] (w_Fi cy qfo qro qra qvc qos qli fo ro ra vc os li) r := by
  refine RO_of RX2 rfl (by decide) (Nat.le_of_ble_eq_true rfl) ?_
  intro p e s m below meth c C0 hK hP ls hl
  obtain ⟨hx, hb, hr, hml, hown, hts, hk⟩ := id C0
  unfold Fi_lineCost at hp
  have hl : lv_has ls 4 [(0, .ref (qfo 0)), (1, .int p1)] := hl
  refine lv_iconst (v := 0) hx hb dX2_lineCost_0 (by decide) ?_
  refine lv_istore_n (lv' := [(2, .int 0), (0, .ref (qfo 0)), (1, .int p1)]) hx hb dX2_lineCost_1 rfl hl (by decide) rfl (fun ls hl => ?_)
  refine lv_iconst (v := 0) hx hb dX2_lineCost_2 (by decide) ?_
  refine lv_istore_n (lv' := [(3, .int 0), (2, .int 0), (0, .ref (qfo 0)), (1, .int p1)]) hx hb dX2_lineCost_3 rfl hl (by decide) rfl (fun ls hl => ?_)
  exact Fi_lineCost_b4_w C0 hK hP  fl 0 0 _ (lv_sub hl [2, 3, 1, 0] rfl) hp
/-! StormSlots$Field.linesAhead(I)I -/
def Fi_linesAhead_b18B (fo : Mem) (ro : Mem) (p1 : Int32) (k18 : Int32 → Int32 → Int32 → Int32 → Option (Int32)) (x2 : Int32) (x3 : Int32) (x4 : Int32) (x5 : Int32) : Option (Int32) :=
  if 5 ≤ x5 then some x4 else bn1 (Fi_seatedOf fo ro x5) (fun r_7 => if x5 = p1 then stk (x5 + 1) (fun x5_9 => k18 x2 x3 x4 x5_9) else if r_7 = 0 then stk (x5 + 1) (fun x5_23 => k18 x2 x3 x4 x5_23) else bn1 (Fi_waitsOf fo ro x5) (fun r_12 => stk ((r_12 * x3) - (x2 * r_7)) (fun x7_13 => if 0 < x7_13 then stk (x4 + 1) (fun x4_15 => stk (x5 + 1) (fun x5_16 => k18 x2 x3 x4_15 x5_16)) else if x7_13 = 0 then if p1 ≤ x5 then stk (x5 + 1) (fun x5_20 => k18 x2 x3 x4 x5_20) else stk (x4 + 1) (fun x4_21 => stk (x5 + 1) (fun x5_22 => k18 x2 x3 x4_21 x5_22)) else stk (x5 + 1) (fun x5_18 => k18 x2 x3 x4 x5_18))))
def Fi_linesAhead_b18 (fo : Mem) (ro : Mem) (p1 : Int32) : Nat → Int32 → Int32 → Int32 → Int32 → Option (Int32)
  | 0 => fun _ _ _ _ => none
  | n + 1 => Fi_linesAhead_b18B fo ro p1 (Fi_linesAhead_b18 fo ro p1 n)
def Fi_linesAhead (fo : Mem) (ro : Mem) (p1 : Int32) : Option (Int32) :=
  bn1 (Fi_waitsOf fo ro p1) (fun r_2 => bn1 (Fi_seatedOf fo ro p1) (fun r_4 => Fi_linesAhead_b18 fo ro p1 fl r_2 r_4 0 0))
set_option maxHeartbeats 4000000 in
set_option maxRecDepth 100000 in
theorem Fi_linesAhead_b18B_w (C0 : cX RX2 cX2_linesAhead (some .int) 8 p s m args meth c) (hK : kN D cy s) {qfo qro qra qvc qos qli : Nat → Nat} {fo ro ra vc os li : Mem} {p1 : Int32} {r : Int32} (hP : va_P D vwCl (w_Fi cy qfo qro qra qvc qos qli fo ro ra vc os li) s.heap) {k18 : Int32 → Int32 → Int32 → Int32 → Option (Int32)} (hk18 : ∀ (x2 x3 x4 x5 : Int32) (ls : Array Slot), lv_has ls 8 [(0, .ref (qfo 0)), (1, .int p1), (2, .int x2), (3, .int x3), (4, .int x4), (5, .int x5)] → k18 x2 x3 x4 x5 = some r → W p l e (rmD 3) s m args below meth c s.heap [] 0 0 (qRO below args s r) (F0 m 18 ls [])) {x2 : Int32} {x3 : Int32} {x4 : Int32} {x5 : Int32} {ls : Array Slot} (hl : lv_has ls 8 [(0, .ref (qfo 0)), (1, .int p1), (2, .int x2), (3, .int x3), (4, .int x4), (5, .int x5)]) (hp : Fi_linesAhead_b18B fo ro p1 k18 x2 x3 x4 x5 = some r) : W p l e (rmD 3) s m args below meth c s.heap [] 0 0 (qRO below args s r) (F0 m 18 ls []) := by
  obtain ⟨hx, hb, hr, hml, hown, hts, hk⟩ := id C0
  unfold Fi_linesAhead_b18B at hp
  refine lv_iload hx hb dX2_linesAhead_18 (lv_at hl 5 rfl) ?_
  refine lv_iconst (v := 5) hx hb dX2_linesAhead_20 (by decide) ?_
  refine lv_icmp_ge (tgt := 86) hx hb dX2_linesAhead_21 (by decide) (fun c_5 => ?_) (fun c_5 => ?_)
  · have hp := ite_p hp c_5
    refine lv_iload hx hb dX2_linesAhead_86 (lv_at hl 4 rfl) ?_
    exact e_ROi hx hb hr hk dX2_linesAhead_88 (Option.some.inj hp)
  · have hp := ite_n hp c_5
    refine lv_aload_n hx hb dX2_linesAhead_24 rfl (lv_at hl 0 rfl) ?_
    refine lv_iload hx hb dX2_linesAhead_25 (lv_at hl 5 rfl) ?_
    obtain ⟨r_7, hc_6, hp⟩ := bn1_s hp
    refine k_ROV (As := [.int x5]) (rest := []) ⟨hx, hb, hml, hown, hts⟩ hK hP (cw_X2_220 hts ⟨Nat.le_of_ble_eq_true rfl, Nat.le_of_ble_eq_true rfl⟩) 0 (ci := 2) rfl rfl rfl (c_X2_seatedOf l D cy qfo qro qra qvc qos qli fo ro ra vc os li x5 r_7 hc_6) rfl hl.1 (Nat.le_of_ble_eq_true rfl) ⟨Nat.le_refl _, Nat.le_refl _⟩ dX2_linesAhead_27 ?_
    refine lv_istore (lv' := [(6, .int r_7), (0, .ref (qfo 0)), (1, .int p1), (2, .int x2), (3, .int x3), (4, .int x4), (5, .int x5)]) hx hb dX2_linesAhead_30 hl (by decide) rfl (fun ls hl => ?_)
    refine lv_iload hx hb dX2_linesAhead_32 (lv_at hl 6 rfl) ?_
    refine lv_iload_n hx hb dX2_linesAhead_34 rfl (lv_at hl 2 rfl) ?_
    refine lv_icmp_eq (tgt := 80) hx hb dX2_linesAhead_35 (by decide) (fun c_8 => ?_) (fun c_8 => ?_)
    · have hp := ite_p hp c_8
      obtain ⟨x5_9, ex5_9⟩ : ∃ y : Int32, y = x5 + 1 := ⟨_, rfl⟩
      have hp := stk_e hp ex5_9
      refine lv_iinc (v := x5_9) (lv' := [(5, .int x5_9), (6, .int r_7), (0, .ref (qfo 0)), (1, .int p1), (2, .int x2), (3, .int x3), (4, .int x4)]) hx hb dX2_linesAhead_80 hl (k := 6) rfl (by rw [ex5_9]; rfl) (by decide) rfl (fun ls hl => ?_)
      refine lv_goto (tgt := 18) hx hb dX2_linesAhead_83 (by decide) ?_
      exact hk18 x2 x3 x4 x5_9 _ (lv_sub hl [2, 3, 4, 5, 6, 0] rfl) hp
    · have hp := ite_n hp c_8
      refine lv_iload hx hb dX2_linesAhead_38 (lv_at hl 0 rfl) ?_
      refine lv_if_ne (tgt := 46) hx hb dX2_linesAhead_40 (by decide) (fun c_10 => ?_) (fun c_10 => ?_)
      · have hp := ite_n hp c_10
        refine lv_aload_n hx hb dX2_linesAhead_46 rfl (lv_at hl 1 rfl) ?_
        refine lv_iload hx hb dX2_linesAhead_47 (lv_at hl 6 rfl) ?_
        obtain ⟨r_12, hc_11, hp⟩ := bn1_s hp
        refine k_ROV (As := [.int x5]) (rest := []) ⟨hx, hb, hml, hown, hts⟩ hK hP (cw_X2_217 hts ⟨Nat.le_of_ble_eq_true rfl, Nat.le_of_ble_eq_true rfl⟩) 0 (ci := 2) rfl rfl rfl (c_X2_waitsOf l D cy qfo qro qra qvc qos qli fo ro ra vc os li x5 r_12 hc_11) rfl hl.1 (Nat.le_of_ble_eq_true rfl) ⟨Nat.le_refl _, Nat.le_refl _⟩ dX2_linesAhead_49 ?_
        refine lv_iload_n hx hb dX2_linesAhead_52 rfl (lv_at hl 4 rfl) ?_
        refine lv_imul hx hb dX2_linesAhead_53 ?_
        refine lv_iload_n hx hb dX2_linesAhead_54 rfl (lv_at hl 3 rfl) ?_
        refine lv_iload hx hb dX2_linesAhead_55 (lv_at hl 0 rfl) ?_
        refine lv_imul hx hb dX2_linesAhead_57 ?_
        refine lv_isub hx hb dX2_linesAhead_58 ?_
        refine lv_topi (fun x7_13 ex7_13 => ?_)
        have hp := stk_e hp ex7_13
        refine lv_istore (lv' := [(7, .int x7_13), (6, .int r_7), (0, .ref (qfo 0)), (1, .int p1), (2, .int x2), (3, .int x3), (4, .int x4), (5, .int x5)]) hx hb dX2_linesAhead_59 hl (by decide) rfl (fun ls hl => ?_)
        refine lv_iload hx hb dX2_linesAhead_61 (lv_at hl 0 rfl) ?_
        refine lv_if_gt (tgt := 77) hx hb dX2_linesAhead_63 (by decide) (fun c_14 => ?_) (fun c_14 => ?_)
        · have hp := ite_p hp c_14
          obtain ⟨x4_15, ex4_15⟩ : ∃ y : Int32, y = x4 + 1 := ⟨_, rfl⟩
          have hp := stk_e hp ex4_15
          refine lv_iinc (v := x4_15) (lv' := [(4, .int x4_15), (7, .int x7_13), (6, .int r_7), (0, .ref (qfo 0)), (1, .int p1), (2, .int x2), (3, .int x3), (5, .int x5)]) hx hb dX2_linesAhead_77 hl (k := 6) rfl (by rw [ex4_15]; rfl) (by decide) rfl (fun ls hl => ?_)
          obtain ⟨x5_16, ex5_16⟩ : ∃ y : Int32, y = x5 + 1 := ⟨_, rfl⟩
          have hp := stk_e hp ex5_16
          refine lv_iinc (v := x5_16) (lv' := [(5, .int x5_16), (4, .int x4_15), (7, .int x7_13), (6, .int r_7), (0, .ref (qfo 0)), (1, .int p1), (2, .int x2), (3, .int x3)]) hx hb dX2_linesAhead_80 hl (k := 7) rfl (by rw [ex5_16]; rfl) (by decide) rfl (fun ls hl => ?_)
          refine lv_goto (tgt := 18) hx hb dX2_linesAhead_83 (by decide) ?_
          exact hk18 x2 x3 x4_15 x5_16 _ (lv_sub hl [4, 5, 6, 7, 1, 0] rfl) hp
        · have hp := ite_n hp c_14
          refine lv_iload hx hb dX2_linesAhead_66 (lv_at hl 0 rfl) ?_
          refine lv_if_ne (tgt := 80) hx hb dX2_linesAhead_68 (by decide) (fun c_17 => ?_) (fun c_17 => ?_)
          · have hp := ite_n hp c_17
            obtain ⟨x5_18, ex5_18⟩ : ∃ y : Int32, y = x5 + 1 := ⟨_, rfl⟩
            have hp := stk_e hp ex5_18
            refine lv_iinc (v := x5_18) (lv' := [(5, .int x5_18), (7, .int x7_13), (6, .int r_7), (0, .ref (qfo 0)), (1, .int p1), (2, .int x2), (3, .int x3), (4, .int x4)]) hx hb dX2_linesAhead_80 hl (k := 7) rfl (by rw [ex5_18]; rfl) (by decide) rfl (fun ls hl => ?_)
            refine lv_goto (tgt := 18) hx hb dX2_linesAhead_83 (by decide) ?_
            exact hk18 x2 x3 x4 x5_18 _ (lv_sub hl [3, 4, 5, 6, 7, 0] rfl) hp
          · have hp := ite_p hp c_17
            refine lv_iload hx hb dX2_linesAhead_71 (lv_at hl 7 rfl) ?_
            refine lv_iload_n hx hb dX2_linesAhead_73 rfl (lv_at hl 3 rfl) ?_
            refine lv_icmp_ge (tgt := 80) hx hb dX2_linesAhead_74 (by decide) (fun c_19 => ?_) (fun c_19 => ?_)
            · have hp := ite_p hp c_19
              obtain ⟨x5_20, ex5_20⟩ : ∃ y : Int32, y = x5 + 1 := ⟨_, rfl⟩
              have hp := stk_e hp ex5_20
              refine lv_iinc (v := x5_20) (lv' := [(5, .int x5_20), (7, .int x7_13), (6, .int r_7), (0, .ref (qfo 0)), (1, .int p1), (2, .int x2), (3, .int x3), (4, .int x4)]) hx hb dX2_linesAhead_80 hl (k := 7) rfl (by rw [ex5_20]; rfl) (by decide) rfl (fun ls hl => ?_)
              refine lv_goto (tgt := 18) hx hb dX2_linesAhead_83 (by decide) ?_
              exact hk18 x2 x3 x4 x5_20 _ (lv_sub hl [3, 4, 5, 6, 7, 0] rfl) hp
            · have hp := ite_n hp c_19
              obtain ⟨x4_21, ex4_21⟩ : ∃ y : Int32, y = x4 + 1 := ⟨_, rfl⟩
              have hp := stk_e hp ex4_21
              refine lv_iinc (v := x4_21) (lv' := [(4, .int x4_21), (7, .int x7_13), (6, .int r_7), (0, .ref (qfo 0)), (1, .int p1), (2, .int x2), (3, .int x3), (5, .int x5)]) hx hb dX2_linesAhead_77 hl (k := 6) rfl (by rw [ex4_21]; rfl) (by decide) rfl (fun ls hl => ?_)
              obtain ⟨x5_22, ex5_22⟩ : ∃ y : Int32, y = x5 + 1 := ⟨_, rfl⟩
              have hp := stk_e hp ex5_22
              refine lv_iinc (v := x5_22) (lv' := [(5, .int x5_22), (4, .int x4_21), (7, .int x7_13), (6, .int r_7), (0, .ref (qfo 0)), (1, .int p1), (2, .int x2), (3, .int x3)]) hx hb dX2_linesAhead_80 hl (k := 7) rfl (by rw [ex5_22]; rfl) (by decide) rfl (fun ls hl => ?_)
              refine lv_goto (tgt := 18) hx hb dX2_linesAhead_83 (by decide) ?_
              exact hk18 x2 x3 x4_21 x5_22 _ (lv_sub hl [4, 5, 6, 7, 1, 0] rfl) hp
      · have hp := ite_p hp c_10
        refine lv_goto (tgt := 80) hx hb dX2_linesAhead_43 (by decide) ?_
        obtain ⟨x5_23, ex5_23⟩ : ∃ y : Int32, y = x5 + 1 := ⟨_, rfl⟩
        have hp := stk_e hp ex5_23
        refine lv_iinc (v := x5_23) (lv' := [(5, .int x5_23), (6, .int r_7), (0, .ref (qfo 0)), (1, .int p1), (2, .int x2), (3, .int x3), (4, .int x4)]) hx hb dX2_linesAhead_80 hl (k := 6) rfl (by rw [ex5_23]; rfl) (by decide) rfl (fun ls hl => ?_)
        refine lv_goto (tgt := 18) hx hb dX2_linesAhead_83 (by decide) ?_
        exact hk18 x2 x3 x4 x5_23 _ (lv_sub hl [2, 3, 4, 5, 6, 0] rfl) hp
theorem Fi_linesAhead_b18_w (C0 : cX RX2 cX2_linesAhead (some .int) 8 p s m args meth c) (hK : kN D cy s) {qfo qro qra qvc qos qli : Nat → Nat} {fo ro ra vc os li : Mem} {p1 : Int32} {r : Int32} (hP : va_P D vwCl (w_Fi cy qfo qro qra qvc qos qli fo ro ra vc os li) s.heap) : ∀ (n : Nat) (x2 x3 x4 x5 : Int32) (ls : Array Slot), lv_has ls 8 [(0, .ref (qfo 0)), (1, .int p1), (2, .int x2), (3, .int x3), (4, .int x4), (5, .int x5)] → Fi_linesAhead_b18 fo ro p1 n x2 x3 x4 x5 = some r → W p l e (rmD 3) s m args below meth c s.heap [] 0 0 (qRO below args s r) (F0 m 18 ls []) := by
  intro n
  induction n with
  | zero =>
    intro x2 x3 x4 x5 ls hl hp
    cases hp
  | succ n ih =>
    intro x2 x3 x4 x5 ls hl hp
    exact Fi_linesAhead_b18B_w C0 hK hP  (fun x2 x3 x4 x5 ls hl hp => ih x2 x3 x4 x5 ls hl hp) hl hp
set_option maxHeartbeats 4000000 in
set_option maxRecDepth 100000 in
theorem c_X2_linesAhead (l : Launch) (D : va_G) (cy : Nat → ClassId) (qfo qro qra qvc qos qli : Nat → Nat) (fo ro ra vc os li : Mem) (p1 : Int32) (r : Int32) (hp : Fi_linesAhead fo ro p1 = some r) : RO l yX2_linesAhead cX2_linesAhead 8 (some .int) 3 D cy [.ref (qfo 0), .int p1] (w_Fi cy qfo qro qra qvc qos qli fo ro ra vc os li) r := by
  refine RO_of RX2 rfl (by decide) (Nat.le_of_ble_eq_true rfl) ?_
  intro p e s m below meth c C0 hK hP ls hl
  obtain ⟨hx, hb, hr, hml, hown, hts, hk⟩ := id C0
  unfold Fi_linesAhead at hp
  have hl : lv_has ls 8 [(0, .ref (qfo 0)), (1, .int p1)] := hl
  refine lv_aload_n hx hb dX2_linesAhead_0 rfl (lv_at hl 0 rfl) ?_
  refine lv_iload_n hx hb dX2_linesAhead_1 rfl (lv_at hl 1 rfl) ?_
  obtain ⟨r_2, hc_1, hp⟩ := bn1_s hp
  refine k_ROV (As := [.int p1]) (rest := []) ⟨hx, hb, hml, hown, hts⟩ hK hP (cw_X2_217 hts ⟨Nat.le_of_ble_eq_true rfl, Nat.le_of_ble_eq_true rfl⟩) 0 (ci := 2) rfl rfl rfl (c_X2_waitsOf l D cy qfo qro qra qvc qos qli fo ro ra vc os li p1 r_2 hc_1) rfl hl.1 (Nat.le_of_ble_eq_true rfl) ⟨Nat.le_refl _, Nat.le_refl _⟩ dX2_linesAhead_2 ?_
  refine lv_istore_n (lv' := [(2, .int r_2), (0, .ref (qfo 0)), (1, .int p1)]) hx hb dX2_linesAhead_5 rfl hl (by decide) rfl (fun ls hl => ?_)
  refine lv_aload_n hx hb dX2_linesAhead_6 rfl (lv_at hl 1 rfl) ?_
  refine lv_iload_n hx hb dX2_linesAhead_7 rfl (lv_at hl 2 rfl) ?_
  obtain ⟨r_4, hc_3, hp⟩ := bn1_s hp
  refine k_ROV (As := [.int p1]) (rest := []) ⟨hx, hb, hml, hown, hts⟩ hK hP (cw_X2_220 hts ⟨Nat.le_of_ble_eq_true rfl, Nat.le_of_ble_eq_true rfl⟩) 0 (ci := 2) rfl rfl rfl (c_X2_seatedOf l D cy qfo qro qra qvc qos qli fo ro ra vc os li p1 r_4 hc_3) rfl hl.1 (Nat.le_of_ble_eq_true rfl) ⟨Nat.le_refl _, Nat.le_refl _⟩ dX2_linesAhead_8 ?_
  refine lv_istore_n (lv' := [(3, .int r_4), (2, .int r_2), (0, .ref (qfo 0)), (1, .int p1)]) hx hb dX2_linesAhead_11 rfl hl (by decide) rfl (fun ls hl => ?_)
  refine lv_iconst (v := 0) hx hb dX2_linesAhead_12 (by decide) ?_
  refine lv_istore (lv' := [(4, .int 0), (3, .int r_4), (2, .int r_2), (0, .ref (qfo 0)), (1, .int p1)]) hx hb dX2_linesAhead_13 hl (by decide) rfl (fun ls hl => ?_)
  refine lv_iconst (v := 0) hx hb dX2_linesAhead_15 (by decide) ?_
  refine lv_istore (lv' := [(5, .int 0), (4, .int 0), (3, .int r_4), (2, .int r_2), (0, .ref (qfo 0)), (1, .int p1)]) hx hb dX2_linesAhead_16 hl (by decide) rfl (fun ls hl => ?_)
  exact Fi_linesAhead_b18_w C0 hK hP  fl r_2 r_4 0 0 _ (lv_sub hl [4, 5, 3, 2, 1, 0] rfl) hp
/-! StormSlots$Field.unfairness()I -/
def Fi_unfairness_b55 (fo : Mem) (ro : Mem) (k6 : Int32 → Int32 → Int32 → Option (Int32)) (x2 : Int32) (x3 : Int32) (x5 : Int32) (y0 : Int32) : Option (Int32) :=
  if x2 = (-1) then stk (x3 + 1) (fun x3_15 => k6 y0 x5 x3_15) else stk (if x5 < x2 then x5 else x2) (fun x2_13 => stk (x3 + 1) (fun x3_14 => k6 y0 x2_13 x3_14))
def Fi_unfairness_b6B (fo : Mem) (ro : Mem) (k6 : Int32 → Int32 → Int32 → Option (Int32)) (x1 : Int32) (x2 : Int32) (x3 : Int32) : Option (Int32) :=
  if 5 ≤ x3 then if x1 = (-1) then some (-2) else some (x1 - x2) else bn1 (Fi_seatedOf fo ro x3) (fun r_4 => if 0 < r_4 then bn1 (Fi_waitsOf fo ro x3) (fun r_7 => ckD r_4 (stk ((r_7 * 100) / r_4) (fun x5_9 => if x1 = (-1) then Fi_unfairness_b55 fo ro k6 x2 x3 x5_9 x5_9 else Fi_unfairness_b55 fo ro k6 x2 x3 x5_9 (if x1 < x5_9 then x5_9 else x1)))) else stk (x3 + 1) (fun x3_11 => k6 x1 x2 x3_11))
def Fi_unfairness_b6 (fo : Mem) (ro : Mem) : Nat → Int32 → Int32 → Int32 → Option (Int32)
  | 0 => fun _ _ _ => none
  | n + 1 => Fi_unfairness_b6B fo ro (Fi_unfairness_b6 fo ro n)
def Fi_unfairness (fo : Mem) (ro : Mem) : Option (Int32) :=
  Fi_unfairness_b6 fo ro fl (-1) (-1) 0
set_option maxHeartbeats 4000000 in
set_option maxRecDepth 100000 in
theorem Fi_unfairness_b55_w (C0 : cX RX2 cX2_unfairness (some .int) 6 p s m args meth c) (hK : kN D cy s) {qfo qro qra qvc qos qli : Nat → Nat} {fo ro ra vc os li : Mem} {r : Int32} (hP : va_P D vwCl (w_Fi cy qfo qro qra qvc qos qli fo ro ra vc os li) s.heap) {k6 : Int32 → Int32 → Int32 → Option (Int32)} (hk6 : ∀ (x1 x2 x3 : Int32) (ls : Array Slot), lv_has ls 6 [(0, .ref (qfo 0)), (1, .int x1), (2, .int x2), (3, .int x3)] → k6 x1 x2 x3 = some r → W p l e (rmD 3) s m args below meth c s.heap [] 0 0 (qRO below args s r) (F0 m 6 ls [])) {x2 : Int32} {x3 : Int32} {x5 : Int32} {y0 : Int32} {ls : Array Slot} (hl : lv_has ls 6 [(0, .ref (qfo 0)), (2, .int x2), (3, .int x3), (5, .int x5)]) (hp : Fi_unfairness_b55 fo ro k6 x2 x3 x5 y0 = some r) : W p l e (rmD 3) s m args below meth c s.heap [] 0 0 (qRO below args s r) (F0 m 55 ls [.int y0]) := by
  obtain ⟨hx, hb, hr, hml, hown, hts, hk⟩ := id C0
  unfold Fi_unfairness_b55 at hp
  refine lv_istore_n (lv' := [(1, .int y0), (0, .ref (qfo 0)), (2, .int x2), (3, .int x3), (5, .int x5)]) hx hb dX2_unfairness_55 rfl hl (by decide) rfl (fun ls hl => ?_)
  refine lv_iload_n hx hb dX2_unfairness_56 rfl (lv_at hl 2 rfl) ?_
  refine lv_iconst (v := (-1)) hx hb dX2_unfairness_57 (by decide) ?_
  refine lv_icmp_ne (tgt := 66) hx hb dX2_unfairness_58 (by decide) (fun c_12 => ?_) (fun c_12 => ?_)
  · have hp := ite_n hp c_12
    refine lv_iload_n hx hb dX2_unfairness_66 rfl (lv_at hl 2 rfl) ?_
    refine lv_iload hx hb dX2_unfairness_67 (lv_at hl 4 rfl) ?_
    refine mm_X2_223 hx hb (by rw [hml]; exact hl.1.symm) hts hown (Nat.le_of_ble_eq_true rfl) (Nat.le_of_ble_eq_true rfl) (Nat.le_refl _) (Nat.le_refl _) dX2_unfairness_69 ?_
    refine lv_topi (fun x2_13 ex2_13 => ?_)
    have hp := stk_e hp ex2_13
    refine lv_istore_n (lv' := [(2, .int x2_13), (1, .int y0), (0, .ref (qfo 0)), (3, .int x3), (5, .int x5)]) hx hb dX2_unfairness_72 rfl hl (by decide) rfl (fun ls hl => ?_)
    obtain ⟨x3_14, ex3_14⟩ : ∃ y : Int32, y = x3 + 1 := ⟨_, rfl⟩
    have hp := stk_e hp ex3_14
    refine lv_iinc (v := x3_14) (lv' := [(3, .int x3_14), (2, .int x2_13), (1, .int y0), (0, .ref (qfo 0)), (5, .int x5)]) hx hb dX2_unfairness_73 hl (k := 3) rfl (by rw [ex3_14]; rfl) (by decide) rfl (fun ls hl => ?_)
    refine lv_goto (tgt := 6) hx hb dX2_unfairness_76 (by decide) ?_
    exact hk6 y0 x2_13 x3_14 _ (lv_sub hl [3, 2, 1, 0] rfl) hp
  · have hp := ite_p hp c_12
    refine lv_iload hx hb dX2_unfairness_61 (lv_at hl 4 rfl) ?_
    refine lv_goto (tgt := 72) hx hb dX2_unfairness_63 (by decide) ?_
    refine lv_istore_n (lv' := [(2, .int x5), (1, .int y0), (0, .ref (qfo 0)), (3, .int x3), (5, .int x5)]) hx hb dX2_unfairness_72 rfl hl (by decide) rfl (fun ls hl => ?_)
    obtain ⟨x3_15, ex3_15⟩ : ∃ y : Int32, y = x3 + 1 := ⟨_, rfl⟩
    have hp := stk_e hp ex3_15
    refine lv_iinc (v := x3_15) (lv' := [(3, .int x3_15), (2, .int x5), (1, .int y0), (0, .ref (qfo 0)), (5, .int x5)]) hx hb dX2_unfairness_73 hl (k := 3) rfl (by rw [ex3_15]; rfl) (by decide) rfl (fun ls hl => ?_)
    refine lv_goto (tgt := 6) hx hb dX2_unfairness_76 (by decide) ?_
    exact hk6 y0 x5 x3_15 _ (lv_sub hl [3, 2, 1, 0] rfl) hp
set_option maxHeartbeats 4000000 in
set_option maxRecDepth 100000 in
theorem Fi_unfairness_b6B_w (C0 : cX RX2 cX2_unfairness (some .int) 6 p s m args meth c) (hK : kN D cy s) {qfo qro qra qvc qos qli : Nat → Nat} {fo ro ra vc os li : Mem} {r : Int32} (hP : va_P D vwCl (w_Fi cy qfo qro qra qvc qos qli fo ro ra vc os li) s.heap) {k6 : Int32 → Int32 → Int32 → Option (Int32)} (hk6 : ∀ (x1 x2 x3 : Int32) (ls : Array Slot), lv_has ls 6 [(0, .ref (qfo 0)), (1, .int x1), (2, .int x2), (3, .int x3)] → k6 x1 x2 x3 = some r → W p l e (rmD 3) s m args below meth c s.heap [] 0 0 (qRO below args s r) (F0 m 6 ls [])) {x1 : Int32} {x2 : Int32} {x3 : Int32} {ls : Array Slot} (hl : lv_has ls 6 [(0, .ref (qfo 0)), (1, .int x1), (2, .int x2), (3, .int x3)]) (hp : Fi_unfairness_b6B fo ro k6 x1 x2 x3 = some r) : W p l e (rmD 3) s m args below meth c s.heap [] 0 0 (qRO below args s r) (F0 m 6 ls []) := by
  obtain ⟨hx, hb, hr, hml, hown, hts, hk⟩ := id C0
  unfold Fi_unfairness_b6B at hp
  refine lv_iload_n hx hb dX2_unfairness_6 rfl (lv_at hl 3 rfl) ?_
  refine lv_iconst (v := 5) hx hb dX2_unfairness_7 (by decide) ?_
  refine lv_icmp_ge (tgt := 79) hx hb dX2_unfairness_8 (by decide) (fun c_1 => ?_) (fun c_1 => ?_)
  · have hp := ite_p hp c_1
    refine lv_iload_n hx hb dX2_unfairness_79 rfl (lv_at hl 1 rfl) ?_
    refine lv_iconst (v := (-1)) hx hb dX2_unfairness_80 (by decide) ?_
    refine lv_icmp_ne (tgt := 89) hx hb dX2_unfairness_81 (by decide) (fun c_2 => ?_) (fun c_2 => ?_)
    · have hp := ite_n hp c_2
      refine lv_iload_n hx hb dX2_unfairness_89 rfl (lv_at hl 1 rfl) ?_
      refine lv_iload_n hx hb dX2_unfairness_90 rfl (lv_at hl 2 rfl) ?_
      refine lv_isub hx hb dX2_unfairness_91 ?_
      exact e_ROi hx hb hr hk dX2_unfairness_92 (Option.some.inj hp)
    · have hp := ite_p hp c_2
      refine lv_bipush (v := (-2)) hx hb dX2_unfairness_84 (by decide) ?_
      refine lv_goto (tgt := 92) hx hb dX2_unfairness_86 (by decide) ?_
      exact e_ROi hx hb hr hk dX2_unfairness_92 (Option.some.inj hp)
  · have hp := ite_n hp c_1
    refine lv_aload_n hx hb dX2_unfairness_11 rfl (lv_at hl 0 rfl) ?_
    refine lv_iload_n hx hb dX2_unfairness_12 rfl (lv_at hl 3 rfl) ?_
    obtain ⟨r_4, hc_3, hp⟩ := bn1_s hp
    refine k_ROV (As := [.int x3]) (rest := []) ⟨hx, hb, hml, hown, hts⟩ hK hP (cw_X2_220 hts ⟨Nat.le_of_ble_eq_true rfl, Nat.le_of_ble_eq_true rfl⟩) 0 (ci := 2) rfl rfl rfl (c_X2_seatedOf l D cy qfo qro qra qvc qos qli fo ro ra vc os li x3 r_4 hc_3) rfl hl.1 (Nat.le_of_ble_eq_true rfl) ⟨Nat.le_refl _, Nat.le_refl _⟩ dX2_unfairness_13 ?_
    refine lv_istore (lv' := [(4, .int r_4), (0, .ref (qfo 0)), (1, .int x1), (2, .int x2), (3, .int x3)]) hx hb dX2_unfairness_16 hl (by decide) rfl (fun ls hl => ?_)
    refine lv_iload hx hb dX2_unfairness_18 (lv_at hl 0 rfl) ?_
    refine lv_if_gt (tgt := 26) hx hb dX2_unfairness_20 (by decide) (fun c_5 => ?_) (fun c_5 => ?_)
    · have hp := ite_p hp c_5
      refine lv_aload_n hx hb dX2_unfairness_26 rfl (lv_at hl 1 rfl) ?_
      refine lv_iload_n hx hb dX2_unfairness_27 rfl (lv_at hl 4 rfl) ?_
      obtain ⟨r_7, hc_6, hp⟩ := bn1_s hp
      refine k_ROV (As := [.int x3]) (rest := []) ⟨hx, hb, hml, hown, hts⟩ hK hP (cw_X2_217 hts ⟨Nat.le_of_ble_eq_true rfl, Nat.le_of_ble_eq_true rfl⟩) 0 (ci := 2) rfl rfl rfl (c_X2_waitsOf l D cy qfo qro qra qvc qos qli fo ro ra vc os li x3 r_7 hc_6) rfl hl.1 (Nat.le_of_ble_eq_true rfl) ⟨Nat.le_refl _, Nat.le_refl _⟩ dX2_unfairness_28 ?_
      refine lv_bipush (v := 100) hx hb dX2_unfairness_31 (by decide) ?_
      refine lv_imul hx hb dX2_unfairness_33 ?_
      refine lv_iload hx hb dX2_unfairness_34 (lv_at hl 0 rfl) ?_
      obtain ⟨hd_8, hp⟩ := ckD_s hp
      refine lv_idiv hx hb dX2_unfairness_36 hd_8 ?_
      refine lv_topi (fun x5_9 ex5_9 => ?_)
      have hp := stk_e hp ex5_9
      refine lv_istore (lv' := [(5, .int x5_9), (4, .int r_4), (0, .ref (qfo 0)), (1, .int x1), (2, .int x2), (3, .int x3)]) hx hb dX2_unfairness_37 hl (by decide) rfl (fun ls hl => ?_)
      refine lv_iload_n hx hb dX2_unfairness_39 rfl (lv_at hl 3 rfl) ?_
      refine lv_iconst (v := (-1)) hx hb dX2_unfairness_40 (by decide) ?_
      refine lv_icmp_ne (tgt := 49) hx hb dX2_unfairness_41 (by decide) (fun c_10 => ?_) (fun c_10 => ?_)
      · have hp := ite_n hp c_10
        refine lv_iload_n hx hb dX2_unfairness_49 rfl (lv_at hl 3 rfl) ?_
        refine lv_iload hx hb dX2_unfairness_50 (lv_at hl 0 rfl) ?_
        refine mm_X2_120 hx hb (by rw [hml]; exact hl.1.symm) hts hown (Nat.le_of_ble_eq_true rfl) (Nat.le_of_ble_eq_true rfl) (Nat.le_refl _) (Nat.le_refl _) dX2_unfairness_52 ?_
        exact Fi_unfairness_b55_w C0 hK hP hk6 (lv_sub hl [2, 4, 5, 0] rfl) hp
      · have hp := ite_p hp c_10
        refine lv_iload hx hb dX2_unfairness_44 (lv_at hl 0 rfl) ?_
        refine lv_goto (tgt := 55) hx hb dX2_unfairness_46 (by decide) ?_
        exact Fi_unfairness_b55_w C0 hK hP hk6 (lv_sub hl [2, 4, 5, 0] rfl) hp
    · have hp := ite_n hp c_5
      refine lv_goto (tgt := 73) hx hb dX2_unfairness_23 (by decide) ?_
      obtain ⟨x3_11, ex3_11⟩ : ∃ y : Int32, y = x3 + 1 := ⟨_, rfl⟩
      have hp := stk_e hp ex3_11
      refine lv_iinc (v := x3_11) (lv' := [(3, .int x3_11), (4, .int r_4), (0, .ref (qfo 0)), (1, .int x1), (2, .int x2)]) hx hb dX2_unfairness_73 hl (k := 4) rfl (by rw [ex3_11]; rfl) (by decide) rfl (fun ls hl => ?_)
      refine lv_goto (tgt := 6) hx hb dX2_unfairness_76 (by decide) ?_
      exact hk6 x1 x2 x3_11 _ (lv_sub hl [2, 3, 4, 0] rfl) hp
theorem Fi_unfairness_b6_w (C0 : cX RX2 cX2_unfairness (some .int) 6 p s m args meth c) (hK : kN D cy s) {qfo qro qra qvc qos qli : Nat → Nat} {fo ro ra vc os li : Mem} {r : Int32} (hP : va_P D vwCl (w_Fi cy qfo qro qra qvc qos qli fo ro ra vc os li) s.heap) : ∀ (n : Nat) (x1 x2 x3 : Int32) (ls : Array Slot), lv_has ls 6 [(0, .ref (qfo 0)), (1, .int x1), (2, .int x2), (3, .int x3)] → Fi_unfairness_b6 fo ro n x1 x2 x3 = some r → W p l e (rmD 3) s m args below meth c s.heap [] 0 0 (qRO below args s r) (F0 m 6 ls []) := by
  intro n
  induction n with
  | zero =>
    intro x1 x2 x3 ls hl hp
    cases hp
  | succ n ih =>
    intro x1 x2 x3 ls hl hp
    exact Fi_unfairness_b6B_w C0 hK hP  (fun x1 x2 x3 ls hl hp => ih x1 x2 x3 ls hl hp) hl hp
set_option maxHeartbeats 4000000 in
set_option maxRecDepth 100000 in
theorem c_X2_unfairness (l : Launch) (D : va_G) (cy : Nat → ClassId) (qfo qro qra qvc qos qli : Nat → Nat) (fo ro ra vc os li : Mem) (r : Int32) (hp : Fi_unfairness fo ro = some r) : RO l yX2_unfairness cX2_unfairness 6 (some .int) 3 D cy [.ref (qfo 0)] (w_Fi cy qfo qro qra qvc qos qli fo ro ra vc os li) r := by
  refine RO_of RX2 rfl (by decide) (Nat.le_of_ble_eq_true rfl) ?_
  intro p e s m below meth c C0 hK hP ls hl
  obtain ⟨hx, hb, hr, hml, hown, hts, hk⟩ := id C0
  unfold Fi_unfairness at hp
  have hl : lv_has ls 6 [(0, .ref (qfo 0))] := hl
  refine lv_iconst (v := (-1)) hx hb dX2_unfairness_0 (by decide) ?_
  refine lv_istore_n (lv' := [(1, .int (-1)), (0, .ref (qfo 0))]) hx hb dX2_unfairness_1 rfl hl (by decide) rfl (fun ls hl => ?_)
  refine lv_iconst (v := (-1)) hx hb dX2_unfairness_2 (by decide) ?_
  refine lv_istore_n (lv' := [(2, .int (-1)), (1, .int (-1)), (0, .ref (qfo 0))]) hx hb dX2_unfairness_3 rfl hl (by decide) rfl (fun ls hl => ?_)
  refine lv_iconst (v := 0) hx hb dX2_unfairness_4 (by decide) ?_
  refine lv_istore_n (lv' := [(3, .int 0), (2, .int (-1)), (1, .int (-1)), (0, .ref (qfo 0))]) hx hb dX2_unfairness_5 rfl hl (by decide) rfl (fun ls hl => ?_)
  exact Fi_unfairness_b6_w C0 hK hP  fl (-1) (-1) 0 _ (lv_sub hl [3, 2, 1, 0] rfl) hp
/-! StormSlots$Field.lackOf(I)I -/
def Fi_lackOf (fo : Mem) (ro : Mem) (li : Mem) (p1 : Int32) : Option (Int32) :=
  bn1 (Li_has li p1) (fun r_2 => if r_2 = 0 then some (-2) else ckI p1 12 (stk (li 0 p1.toNatClampNeg) (fun x2_5 => stk (li 1 p1.toNatClampNeg) (fun x3_6 => bn1 (Fi_isSeated fo x2_5) (fun r_8 => if r_8 = 0 then some (-2) else bn1 (Fi_isSeated fo x3_6) (fun r_11 => if r_11 = 0 then some (-2) else ckI x2_5 20 (bn1 (Fi_goesOff fo ro x3_6) (fun r_15 => some (if 0 < (((fo 5 x2_5.toNatClampNeg) + (li 2 p1.toNatClampNeg)) - r_15) then (((fo 5 x2_5.toNatClampNeg) + (li 2 p1.toNatClampNeg)) - r_15) else 0)))))))))
set_option maxHeartbeats 4000000 in
set_option maxRecDepth 100000 in
theorem c_X2_lackOf (l : Launch) (D : va_G) (cy : Nat → ClassId) (qfo qro qra qvc qos qli : Nat → Nat) (fo ro ra vc os li : Mem) (p1 : Int32) (r : Int32) (hp : Fi_lackOf fo ro li p1 = some r) : RO l yX2_lackOf cX2_lackOf 4 (some .int) 1 D cy [.ref (qfo 0), .int p1] (w_Fi cy qfo qro qra qvc qos qli fo ro ra vc os li) r := by
  refine RO_of RX2 rfl (by decide) (Nat.le_of_ble_eq_true rfl) ?_
  intro p e s m below meth c C0 hK hP ls hl
  obtain ⟨hx, hb, hr, hml, hown, hts, hk⟩ := id C0
  unfold Fi_lackOf at hp
  have hl : lv_has ls 4 [(0, .ref (qfo 0)), (1, .int p1)] := hl
  refine lv_aload_n hx hb dX2_lackOf_0 rfl (lv_at hl 0 rfl) ?_
  refine gf_X2_42 hx hb hts hown hK hP 0 rfl rfl dX2_lackOf_1 ?_
  refine lv_iload_n hx hb dX2_lackOf_4 rfl (lv_at hl 1 rfl) ?_
  obtain ⟨r_2, hc_1, hp⟩ := bn1_s hp
  refine k_ROV (As := [.int p1]) (rest := []) ⟨hx, hb, hml, hown, hts⟩ hK (hP.sub (ws' := (w_Li cy qli li)) [19, 20, 21, 22] rfl) (cw_X2_226 hts ⟨Nat.le_of_ble_eq_true rfl, Nat.le_of_ble_eq_true rfl⟩) 0 (ci := 3) rfl rfl rfl (c_X3_has l D cy qli li p1 r_2 hc_1) rfl hl.1 (Nat.le_of_ble_eq_true rfl) ⟨Nat.le_refl _, Nat.le_refl _⟩ dX2_lackOf_5 ?_
  refine lv_if_ne (tgt := 14) hx hb dX2_lackOf_8 (by decide) (fun c_3 => ?_) (fun c_3 => ?_)
  · have hp := ite_n hp c_3
    refine lv_aload_n hx hb dX2_lackOf_14 rfl (lv_at hl 0 rfl) ?_
    refine gf_X2_42 hx hb hts hown hK hP 0 rfl rfl dX2_lackOf_15 ?_
    refine gf_X2_227 hx hb hts hown hK hP 19 rfl rfl dX2_lackOf_18 ?_
    refine lv_iload_n hx hb dX2_lackOf_21 rfl (lv_at hl 1 rfl) ?_
    obtain ⟨hi_4, hp⟩ := ckI_s hp
    refine r_ild hx hb hK hP 20 rfl hi_4 dX2_lackOf_22 ?_
    refine lv_topi (fun x2_5 ex2_5 => ?_)
    have hp := stk_e hp ex2_5
    refine lv_istore_n (lv' := [(2, .int x2_5), (0, .ref (qfo 0)), (1, .int p1)]) hx hb dX2_lackOf_23 rfl hl (by decide) rfl (fun ls hl => ?_)
    refine lv_aload_n hx hb dX2_lackOf_24 rfl (lv_at hl 1 rfl) ?_
    refine gf_X2_42 hx hb hts hown hK hP 0 rfl rfl dX2_lackOf_25 ?_
    refine gf_X2_230 hx hb hts hown hK hP 19 rfl rfl dX2_lackOf_28 ?_
    refine lv_iload_n hx hb dX2_lackOf_31 rfl (lv_at hl 2 rfl) ?_
    refine r_ild hx hb hK hP 21 rfl hi_4 dX2_lackOf_32 ?_
    refine lv_topi (fun x3_6 ex3_6 => ?_)
    have hp := stk_e hp ex3_6
    refine lv_istore_n (lv' := [(3, .int x3_6), (2, .int x2_5), (0, .ref (qfo 0)), (1, .int p1)]) hx hb dX2_lackOf_33 rfl hl (by decide) rfl (fun ls hl => ?_)
    refine lv_aload_n hx hb dX2_lackOf_34 rfl (lv_at hl 2 rfl) ?_
    refine lv_iload_n hx hb dX2_lackOf_35 rfl (lv_at hl 1 rfl) ?_
    obtain ⟨r_8, hc_7, hp⟩ := bn1_s hp
    refine k_ROV (As := [.int x2_5]) (rest := []) ⟨hx, hb, hml, hown, hts⟩ hK hP (cw_X2_126 hts ⟨Nat.le_of_ble_eq_true rfl, Nat.le_of_ble_eq_true rfl⟩) 0 (ci := 2) rfl rfl rfl (c_X2_isSeated l D cy qfo qro qra qvc qos qli fo ro ra vc os li x2_5 r_8 hc_7) rfl hl.1 (Nat.le_of_ble_eq_true rfl) ⟨Nat.le_refl _, Nat.le_refl _⟩ dX2_lackOf_36 ?_
    refine lv_if_eq (tgt := 50) hx hb dX2_lackOf_39 (by decide) (fun c_9 => ?_) (fun c_9 => ?_)
    · have hp := ite_p hp c_9
      refine lv_bipush (v := (-2)) hx hb dX2_lackOf_50 (by decide) ?_
      exact e_ROi hx hb hr hk dX2_lackOf_52 (Option.some.inj hp)
    · have hp := ite_n hp c_9
      refine lv_aload_n hx hb dX2_lackOf_42 rfl (lv_at hl 2 rfl) ?_
      refine lv_iload_n hx hb dX2_lackOf_43 rfl (lv_at hl 0 rfl) ?_
      obtain ⟨r_11, hc_10, hp⟩ := bn1_s hp
      refine k_ROV (As := [.int x3_6]) (rest := []) ⟨hx, hb, hml, hown, hts⟩ hK hP (cw_X2_126 hts ⟨Nat.le_of_ble_eq_true rfl, Nat.le_of_ble_eq_true rfl⟩) 0 (ci := 2) rfl rfl rfl (c_X2_isSeated l D cy qfo qro qra qvc qos qli fo ro ra vc os li x3_6 r_11 hc_10) rfl hl.1 (Nat.le_of_ble_eq_true rfl) ⟨Nat.le_refl _, Nat.le_refl _⟩ dX2_lackOf_44 ?_
      refine lv_if_ne (tgt := 53) hx hb dX2_lackOf_47 (by decide) (fun c_12 => ?_) (fun c_12 => ?_)
      · have hp := ite_n hp c_12
        refine lv_iconst (v := 0) hx hb dX2_lackOf_53 (by decide) ?_
        refine lv_aload_n hx hb dX2_lackOf_54 rfl (lv_at hl 2 rfl) ?_
        refine gf_X2_46 hx hb hts hown hK hP 0 rfl rfl dX2_lackOf_55 ?_
        refine lv_iload_n hx hb dX2_lackOf_58 rfl (lv_at hl 1 rfl) ?_
        obtain ⟨hi_13, hp⟩ := ckI_s hp
        refine r_ild hx hb hK hP 1 rfl hi_13 dX2_lackOf_59 ?_
        refine lv_aload_n hx hb dX2_lackOf_60 rfl (lv_at hl 2 rfl) ?_
        refine gf_X2_42 hx hb hts hown hK hP 0 rfl rfl dX2_lackOf_61 ?_
        refine gf_X2_233 hx hb hts hown hK hP 19 rfl rfl dX2_lackOf_64 ?_
        refine lv_iload_n hx hb dX2_lackOf_67 rfl (lv_at hl 3 rfl) ?_
        refine r_ild hx hb hK hP 22 rfl hi_4 dX2_lackOf_68 ?_
        refine lv_iadd hx hb dX2_lackOf_69 ?_
        refine lv_aload_n hx hb dX2_lackOf_70 rfl (lv_at hl 2 rfl) ?_
        refine lv_iload_n hx hb dX2_lackOf_71 rfl (lv_at hl 0 rfl) ?_
        obtain ⟨r_15, hc_14, hp⟩ := bn1_s hp
        refine k_ROV (As := [.int x3_6]) (rest := [.int ((fo 5 x2_5.toNatClampNeg) + (li 2 p1.toNatClampNeg)), .int 0]) ⟨hx, hb, hml, hown, hts⟩ hK hP (cw_X2_129 hts ⟨Nat.le_of_ble_eq_true rfl, Nat.le_of_ble_eq_true rfl⟩) 0 (ci := 2) rfl rfl rfl (c_X2_goesOff l D cy qfo qro qra qvc qos qli fo ro ra vc os li x3_6 r_15 hc_14) rfl hl.1 (Nat.le_of_ble_eq_true rfl) ⟨Nat.le_refl _, Nat.le_refl _⟩ dX2_lackOf_72 ?_
        refine lv_isub hx hb dX2_lackOf_75 ?_
        refine mm_X2_120 hx hb (by rw [hml]; exact hl.1.symm) hts hown (Nat.le_of_ble_eq_true rfl) (Nat.le_of_ble_eq_true rfl) (Nat.le_refl _) (Nat.le_refl _) dX2_lackOf_76 ?_
        exact e_ROi hx hb hr hk dX2_lackOf_79 (Option.some.inj hp)
      · have hp := ite_p hp c_12
        refine lv_bipush (v := (-2)) hx hb dX2_lackOf_50 (by decide) ?_
        exact e_ROi hx hb hr hk dX2_lackOf_52 (Option.some.inj hp)
  · have hp := ite_p hp c_3
    refine lv_bipush (v := (-2)) hx hb dX2_lackOf_11 (by decide) ?_
    exact e_ROi hx hb hr hk dX2_lackOf_13 (Option.some.inj hp)
/-! StormSlots$Field.countBroken()I -/
def Fi_countBroken_b4B (fo : Mem) (ro : Mem) (li : Mem) (k4 : Int32 → Int32 → Option (Int32)) (x1 : Int32) (x2 : Int32) : Option (Int32) :=
  if (li 3 0) ≤ x2 then some x1 else bn1 (Fi_lackOf fo ro li x2) (fun r_3 => if r_3 = 0 then stk (x1 + 0) (fun x1_7 => stk (x2 + 1) (fun x2_8 => k4 x1_7 x2_8)) else stk (x1 + 1) (fun x1_5 => stk (x2 + 1) (fun x2_6 => k4 x1_5 x2_6)))
def Fi_countBroken_b4 (fo : Mem) (ro : Mem) (li : Mem) : Nat → Int32 → Int32 → Option (Int32)
  | 0 => fun _ _ => none
  | n + 1 => Fi_countBroken_b4B fo ro li (Fi_countBroken_b4 fo ro li n)
def Fi_countBroken (fo : Mem) (ro : Mem) (li : Mem) : Option (Int32) :=
  Fi_countBroken_b4 fo ro li fl 0 0
set_option maxHeartbeats 4000000 in
set_option maxRecDepth 100000 in
theorem Fi_countBroken_b4B_w (C0 : cX RX2 cX2_countBroken (some .int) 3 p s m args meth c) (hK : kN D cy s) {qfo qro qra qvc qos qli : Nat → Nat} {fo ro ra vc os li : Mem} {r : Int32} (hP : va_P D vwCl (w_Fi cy qfo qro qra qvc qos qli fo ro ra vc os li) s.heap) {k4 : Int32 → Int32 → Option (Int32)} (hk4 : ∀ (x1 x2 : Int32) (ls : Array Slot), lv_has ls 3 [(0, .ref (qfo 0)), (1, .int x1), (2, .int x2)] → k4 x1 x2 = some r → W p l e (rmD 2) s m args below meth c s.heap [] 0 0 (qRO below args s r) (F0 m 4 ls [])) {x1 : Int32} {x2 : Int32} {ls : Array Slot} (hl : lv_has ls 3 [(0, .ref (qfo 0)), (1, .int x1), (2, .int x2)]) (hp : Fi_countBroken_b4B fo ro li k4 x1 x2 = some r) : W p l e (rmD 2) s m args below meth c s.heap [] 0 0 (qRO below args s r) (F0 m 4 ls []) := by
  obtain ⟨hx, hb, hr, hml, hown, hts, hk⟩ := id C0
  unfold Fi_countBroken_b4B at hp
  refine lv_iload_n hx hb dX2_countBroken_4 rfl (lv_at hl 2 rfl) ?_
  refine lv_aload_n hx hb dX2_countBroken_5 rfl (lv_at hl 0 rfl) ?_
  refine gf_X2_42 hx hb hts hown hK hP 0 rfl rfl dX2_countBroken_6 ?_
  refine gf_X2_92 hx hb hts hown hK hP 19 rfl rfl dX2_countBroken_9 ?_
  refine lv_icmp_ge (tgt := 37) hx hb dX2_countBroken_12 (by decide) (fun c_1 => ?_) (fun c_1 => ?_)
  · have hp := ite_p hp c_1
    refine lv_iload_n hx hb dX2_countBroken_37 rfl (lv_at hl 1 rfl) ?_
    exact e_ROi hx hb hr hk dX2_countBroken_38 (Option.some.inj hp)
  · have hp := ite_n hp c_1
    refine lv_iload_n hx hb dX2_countBroken_15 rfl (lv_at hl 1 rfl) ?_
    refine lv_aload_n hx hb dX2_countBroken_16 rfl (lv_at hl 0 rfl) ?_
    refine lv_iload_n hx hb dX2_countBroken_17 rfl (lv_at hl 2 rfl) ?_
    obtain ⟨r_3, hc_2, hp⟩ := bn1_s hp
    refine k_ROV (As := [.int x2]) (rest := [.int x1]) ⟨hx, hb, hml, hown, hts⟩ hK hP (cw_X2_236 hts ⟨Nat.le_of_ble_eq_true rfl, Nat.le_of_ble_eq_true rfl⟩) 0 (ci := 2) rfl rfl rfl (c_X2_lackOf l D cy qfo qro qra qvc qos qli fo ro ra vc os li x2 r_3 hc_2) rfl hl.1 (Nat.le_of_ble_eq_true rfl) ⟨Nat.le_refl _, Nat.le_refl _⟩ dX2_countBroken_18 ?_
    refine lv_if_ne (tgt := 28) hx hb dX2_countBroken_21 (by decide) (fun c_4 => ?_) (fun c_4 => ?_)
    · have hp := ite_n hp c_4
      refine lv_iconst (v := 1) hx hb dX2_countBroken_28 (by decide) ?_
      refine lv_iadd hx hb dX2_countBroken_29 ?_
      refine lv_topi (fun x1_5 ex1_5 => ?_)
      have hp := stk_e hp ex1_5
      refine lv_istore_n (lv' := [(1, .int x1_5), (0, .ref (qfo 0)), (2, .int x2)]) hx hb dX2_countBroken_30 rfl hl (by decide) rfl (fun ls hl => ?_)
      obtain ⟨x2_6, ex2_6⟩ : ∃ y : Int32, y = x2 + 1 := ⟨_, rfl⟩
      have hp := stk_e hp ex2_6
      refine lv_iinc (v := x2_6) (lv' := [(2, .int x2_6), (1, .int x1_5), (0, .ref (qfo 0))]) hx hb dX2_countBroken_31 hl (k := 2) rfl (by rw [ex2_6]; rfl) (by decide) rfl (fun ls hl => ?_)
      refine lv_goto (tgt := 4) hx hb dX2_countBroken_34 (by decide) ?_
      exact hk4 x1_5 x2_6 _ (lv_sub hl [2, 1, 0] rfl) hp
    · have hp := ite_p hp c_4
      refine lv_iconst (v := 0) hx hb dX2_countBroken_24 (by decide) ?_
      refine lv_goto (tgt := 29) hx hb dX2_countBroken_25 (by decide) ?_
      refine lv_iadd hx hb dX2_countBroken_29 ?_
      refine lv_topi (fun x1_7 ex1_7 => ?_)
      have hp := stk_e hp ex1_7
      refine lv_istore_n (lv' := [(1, .int x1_7), (0, .ref (qfo 0)), (2, .int x2)]) hx hb dX2_countBroken_30 rfl hl (by decide) rfl (fun ls hl => ?_)
      obtain ⟨x2_8, ex2_8⟩ : ∃ y : Int32, y = x2 + 1 := ⟨_, rfl⟩
      have hp := stk_e hp ex2_8
      refine lv_iinc (v := x2_8) (lv' := [(2, .int x2_8), (1, .int x1_7), (0, .ref (qfo 0))]) hx hb dX2_countBroken_31 hl (k := 2) rfl (by rw [ex2_8]; rfl) (by decide) rfl (fun ls hl => ?_)
      refine lv_goto (tgt := 4) hx hb dX2_countBroken_34 (by decide) ?_
      exact hk4 x1_7 x2_8 _ (lv_sub hl [2, 1, 0] rfl) hp
theorem Fi_countBroken_b4_w (C0 : cX RX2 cX2_countBroken (some .int) 3 p s m args meth c) (hK : kN D cy s) {qfo qro qra qvc qos qli : Nat → Nat} {fo ro ra vc os li : Mem} {r : Int32} (hP : va_P D vwCl (w_Fi cy qfo qro qra qvc qos qli fo ro ra vc os li) s.heap) : ∀ (n : Nat) (x1 x2 : Int32) (ls : Array Slot), lv_has ls 3 [(0, .ref (qfo 0)), (1, .int x1), (2, .int x2)] → Fi_countBroken_b4 fo ro li n x1 x2 = some r → W p l e (rmD 2) s m args below meth c s.heap [] 0 0 (qRO below args s r) (F0 m 4 ls []) := by
  intro n
  induction n with
  | zero =>
    intro x1 x2 ls hl hp
    cases hp
  | succ n ih =>
    intro x1 x2 ls hl hp
    exact Fi_countBroken_b4B_w C0 hK hP  (fun x1 x2 ls hl hp => ih x1 x2 ls hl hp) hl hp
set_option maxHeartbeats 4000000 in
set_option maxRecDepth 100000 in
theorem c_X2_countBroken (l : Launch) (D : va_G) (cy : Nat → ClassId) (qfo qro qra qvc qos qli : Nat → Nat) (fo ro ra vc os li : Mem) (r : Int32) (hp : Fi_countBroken fo ro li = some r) : RO l yX2_countBroken cX2_countBroken 3 (some .int) 2 D cy [.ref (qfo 0)] (w_Fi cy qfo qro qra qvc qos qli fo ro ra vc os li) r := by
  refine RO_of RX2 rfl (by decide) (Nat.le_of_ble_eq_true rfl) ?_
  intro p e s m below meth c C0 hK hP ls hl
  obtain ⟨hx, hb, hr, hml, hown, hts, hk⟩ := id C0
  unfold Fi_countBroken at hp
  have hl : lv_has ls 3 [(0, .ref (qfo 0))] := hl
  refine lv_iconst (v := 0) hx hb dX2_countBroken_0 (by decide) ?_
  refine lv_istore_n (lv' := [(1, .int 0), (0, .ref (qfo 0))]) hx hb dX2_countBroken_1 rfl hl (by decide) rfl (fun ls hl => ?_)
  refine lv_iconst (v := 0) hx hb dX2_countBroken_2 (by decide) ?_
  refine lv_istore_n (lv' := [(2, .int 0), (1, .int 0), (0, .ref (qfo 0))]) hx hb dX2_countBroken_3 rfl hl (by decide) rfl (fun ls hl => ?_)
  exact Fi_countBroken_b4_w C0 hK hP  fl 0 0 _ (lv_sub hl [2, 1, 0] rfl) hp
/-! StormSlots$Field.countWaiting()I -/
def Fi_countWaiting_b4B (fo : Mem) (k4 : Int32 → Int32 → Option (Int32)) (x1 : Int32) (x2 : Int32) : Option (Int32) :=
  if 20 ≤ x2 then some x1 else bn1 (Fi_isSeated fo x2) (fun r_3 => if r_3 = 0 then stk (x1 + 0) (fun x1_5 => stk (x2 + 1) (fun x2_6 => k4 x1_5 x2_6)) else bn1 (Fi_waitOf fo x2) (fun r_8 => if r_8 ≤ 0 then stk (x1 + 0) (fun x1_10 => stk (x2 + 1) (fun x2_11 => k4 x1_10 x2_11)) else stk (x1 + 1) (fun x1_12 => stk (x2 + 1) (fun x2_13 => k4 x1_12 x2_13))))
def Fi_countWaiting_b4 (fo : Mem) : Nat → Int32 → Int32 → Option (Int32)
  | 0 => fun _ _ => none
  | n + 1 => Fi_countWaiting_b4B fo (Fi_countWaiting_b4 fo n)
def Fi_countWaiting (fo : Mem) : Option (Int32) :=
  Fi_countWaiting_b4 fo fl 0 0
set_option maxHeartbeats 4000000 in
set_option maxRecDepth 100000 in
theorem Fi_countWaiting_b4B_w (C0 : cX RX2 cX2_countWaiting (some .int) 3 p s m args meth c) (hK : kN D cy s) {qfo qro qra qvc qos qli : Nat → Nat} {fo ro ra vc os li : Mem} {r : Int32} (hP : va_P D vwCl (w_Fi cy qfo qro qra qvc qos qli fo ro ra vc os li) s.heap) {k4 : Int32 → Int32 → Option (Int32)} (hk4 : ∀ (x1 x2 : Int32) (ls : Array Slot), lv_has ls 3 [(0, .ref (qfo 0)), (1, .int x1), (2, .int x2)] → k4 x1 x2 = some r → W p l e (rmD 1) s m args below meth c s.heap [] 0 0 (qRO below args s r) (F0 m 4 ls [])) {x1 : Int32} {x2 : Int32} {ls : Array Slot} (hl : lv_has ls 3 [(0, .ref (qfo 0)), (1, .int x1), (2, .int x2)]) (hp : Fi_countWaiting_b4B fo k4 x1 x2 = some r) : W p l e (rmD 1) s m args below meth c s.heap [] 0 0 (qRO below args s r) (F0 m 4 ls []) := by
  obtain ⟨hx, hb, hr, hml, hown, hts, hk⟩ := id C0
  unfold Fi_countWaiting_b4B at hp
  refine lv_iload_n hx hb dX2_countWaiting_4 rfl (lv_at hl 2 rfl) ?_
  refine lv_bipush (v := 20) hx hb dX2_countWaiting_5 (by decide) ?_
  refine lv_icmp_ge (tgt := 40) hx hb dX2_countWaiting_7 (by decide) (fun c_1 => ?_) (fun c_1 => ?_)
  · have hp := ite_p hp c_1
    refine lv_iload_n hx hb dX2_countWaiting_40 rfl (lv_at hl 1 rfl) ?_
    exact e_ROi hx hb hr hk dX2_countWaiting_41 (Option.some.inj hp)
  · have hp := ite_n hp c_1
    refine lv_iload_n hx hb dX2_countWaiting_10 rfl (lv_at hl 1 rfl) ?_
    refine lv_aload_n hx hb dX2_countWaiting_11 rfl (lv_at hl 0 rfl) ?_
    refine lv_iload_n hx hb dX2_countWaiting_12 rfl (lv_at hl 2 rfl) ?_
    obtain ⟨r_3, hc_2, hp⟩ := bn1_s hp
    refine k_ROV (As := [.int x2]) (rest := [.int x1]) ⟨hx, hb, hml, hown, hts⟩ hK hP (cw_X2_126 hts ⟨Nat.le_of_ble_eq_true rfl, Nat.le_of_ble_eq_true rfl⟩) 0 (ci := 2) rfl rfl rfl (c_X2_isSeated l D cy qfo qro qra qvc qos qli fo ro ra vc os li x2 r_3 hc_2) rfl hl.1 (Nat.le_of_ble_eq_true rfl) ⟨Nat.le_refl _, Nat.le_refl _⟩ dX2_countWaiting_13 ?_
    refine lv_if_eq (tgt := 31) hx hb dX2_countWaiting_16 (by decide) (fun c_4 => ?_) (fun c_4 => ?_)
    · have hp := ite_p hp c_4
      refine lv_iconst (v := 0) hx hb dX2_countWaiting_31 (by decide) ?_
      refine lv_iadd hx hb dX2_countWaiting_32 ?_
      refine lv_topi (fun x1_5 ex1_5 => ?_)
      have hp := stk_e hp ex1_5
      refine lv_istore_n (lv' := [(1, .int x1_5), (0, .ref (qfo 0)), (2, .int x2)]) hx hb dX2_countWaiting_33 rfl hl (by decide) rfl (fun ls hl => ?_)
      obtain ⟨x2_6, ex2_6⟩ : ∃ y : Int32, y = x2 + 1 := ⟨_, rfl⟩
      have hp := stk_e hp ex2_6
      refine lv_iinc (v := x2_6) (lv' := [(2, .int x2_6), (1, .int x1_5), (0, .ref (qfo 0))]) hx hb dX2_countWaiting_34 hl (k := 2) rfl (by rw [ex2_6]; rfl) (by decide) rfl (fun ls hl => ?_)
      refine lv_goto (tgt := 4) hx hb dX2_countWaiting_37 (by decide) ?_
      exact hk4 x1_5 x2_6 _ (lv_sub hl [2, 1, 0] rfl) hp
    · have hp := ite_n hp c_4
      refine lv_aload_n hx hb dX2_countWaiting_19 rfl (lv_at hl 0 rfl) ?_
      refine lv_iload_n hx hb dX2_countWaiting_20 rfl (lv_at hl 2 rfl) ?_
      obtain ⟨r_8, hc_7, hp⟩ := bn1_s hp
      refine k_ROV (As := [.int x2]) (rest := [.int x1]) ⟨hx, hb, hml, hown, hts⟩ hK hP (cw_X2_211 hts ⟨Nat.le_of_ble_eq_true rfl, Nat.le_of_ble_eq_true rfl⟩) 0 (ci := 2) rfl rfl rfl (c_X2_waitOf l D cy qfo qro qra qvc qos qli fo ro ra vc os li x2 r_8 hc_7) rfl hl.1 (Nat.le_of_ble_eq_true rfl) ⟨Nat.le_refl _, Nat.le_refl _⟩ dX2_countWaiting_21 ?_
      refine lv_if_le (tgt := 31) hx hb dX2_countWaiting_24 (by decide) (fun c_9 => ?_) (fun c_9 => ?_)
      · have hp := ite_p hp c_9
        refine lv_iconst (v := 0) hx hb dX2_countWaiting_31 (by decide) ?_
        refine lv_iadd hx hb dX2_countWaiting_32 ?_
        refine lv_topi (fun x1_10 ex1_10 => ?_)
        have hp := stk_e hp ex1_10
        refine lv_istore_n (lv' := [(1, .int x1_10), (0, .ref (qfo 0)), (2, .int x2)]) hx hb dX2_countWaiting_33 rfl hl (by decide) rfl (fun ls hl => ?_)
        obtain ⟨x2_11, ex2_11⟩ : ∃ y : Int32, y = x2 + 1 := ⟨_, rfl⟩
        have hp := stk_e hp ex2_11
        refine lv_iinc (v := x2_11) (lv' := [(2, .int x2_11), (1, .int x1_10), (0, .ref (qfo 0))]) hx hb dX2_countWaiting_34 hl (k := 2) rfl (by rw [ex2_11]; rfl) (by decide) rfl (fun ls hl => ?_)
        refine lv_goto (tgt := 4) hx hb dX2_countWaiting_37 (by decide) ?_
        exact hk4 x1_10 x2_11 _ (lv_sub hl [2, 1, 0] rfl) hp
      · have hp := ite_n hp c_9
        refine lv_iconst (v := 1) hx hb dX2_countWaiting_27 (by decide) ?_
        refine lv_goto (tgt := 32) hx hb dX2_countWaiting_28 (by decide) ?_
        refine lv_iadd hx hb dX2_countWaiting_32 ?_
        refine lv_topi (fun x1_12 ex1_12 => ?_)
        have hp := stk_e hp ex1_12
        refine lv_istore_n (lv' := [(1, .int x1_12), (0, .ref (qfo 0)), (2, .int x2)]) hx hb dX2_countWaiting_33 rfl hl (by decide) rfl (fun ls hl => ?_)
        obtain ⟨x2_13, ex2_13⟩ : ∃ y : Int32, y = x2 + 1 := ⟨_, rfl⟩
        have hp := stk_e hp ex2_13
        refine lv_iinc (v := x2_13) (lv' := [(2, .int x2_13), (1, .int x1_12), (0, .ref (qfo 0))]) hx hb dX2_countWaiting_34 hl (k := 2) rfl (by rw [ex2_13]; rfl) (by decide) rfl (fun ls hl => ?_)
        refine lv_goto (tgt := 4) hx hb dX2_countWaiting_37 (by decide) ?_
        exact hk4 x1_12 x2_13 _ (lv_sub hl [2, 1, 0] rfl) hp
theorem Fi_countWaiting_b4_w (C0 : cX RX2 cX2_countWaiting (some .int) 3 p s m args meth c) (hK : kN D cy s) {qfo qro qra qvc qos qli : Nat → Nat} {fo ro ra vc os li : Mem} {r : Int32} (hP : va_P D vwCl (w_Fi cy qfo qro qra qvc qos qli fo ro ra vc os li) s.heap) : ∀ (n : Nat) (x1 x2 : Int32) (ls : Array Slot), lv_has ls 3 [(0, .ref (qfo 0)), (1, .int x1), (2, .int x2)] → Fi_countWaiting_b4 fo n x1 x2 = some r → W p l e (rmD 1) s m args below meth c s.heap [] 0 0 (qRO below args s r) (F0 m 4 ls []) := by
  intro n
  induction n with
  | zero =>
    intro x1 x2 ls hl hp
    cases hp
  | succ n ih =>
    intro x1 x2 ls hl hp
    exact Fi_countWaiting_b4B_w C0 hK hP  (fun x1 x2 ls hl hp => ih x1 x2 ls hl hp) hl hp
set_option maxHeartbeats 4000000 in
set_option maxRecDepth 100000 in
theorem c_X2_countWaiting (l : Launch) (D : va_G) (cy : Nat → ClassId) (qfo qro qra qvc qos qli : Nat → Nat) (fo ro ra vc os li : Mem) (r : Int32) (hp : Fi_countWaiting fo = some r) : RO l yX2_countWaiting cX2_countWaiting 3 (some .int) 1 D cy [.ref (qfo 0)] (w_Fi cy qfo qro qra qvc qos qli fo ro ra vc os li) r := by
  refine RO_of RX2 rfl (by decide) (Nat.le_of_ble_eq_true rfl) ?_
  intro p e s m below meth c C0 hK hP ls hl
  obtain ⟨hx, hb, hr, hml, hown, hts, hk⟩ := id C0
  unfold Fi_countWaiting at hp
  have hl : lv_has ls 3 [(0, .ref (qfo 0))] := hl
  refine lv_iconst (v := 0) hx hb dX2_countWaiting_0 (by decide) ?_
  refine lv_istore_n (lv' := [(1, .int 0), (0, .ref (qfo 0))]) hx hb dX2_countWaiting_1 rfl hl (by decide) rfl (fun ls hl => ?_)
  refine lv_iconst (v := 0) hx hb dX2_countWaiting_2 (by decide) ?_
  refine lv_istore_n (lv' := [(2, .int 0), (1, .int 0), (0, .ref (qfo 0))]) hx hb dX2_countWaiting_3 rfl hl (by decide) rfl (fun ls hl => ?_)
  exact Fi_countWaiting_b4_w C0 hK hP  fl 0 0 _ (lv_sub hl [2, 1, 0] rfl) hp
/-! StormSlots$Field.countCancelled()I -/
def Fi_countCancelled (fo : Mem) : Option (Int32) :=
  bn1 (Jd_bitCount_0f7a4 (fo 8 0)) (fun r_2 => some r_2)
set_option maxHeartbeats 4000000 in
set_option maxRecDepth 100000 in
theorem c_X2_countCancelled (l : Launch) (D : va_G) (cy : Nat → ClassId) (qfo qro qra qvc qos qli : Nat → Nat) (fo ro ra vc os li : Mem) (r : Int32) (hp : Fi_countCancelled fo = some r) : RO l yX2_countCancelled cX2_countCancelled 1 (some .int) 1 D cy [.ref (qfo 0)] (w_Fi cy qfo qro qra qvc qos qli fo ro ra vc os li) r := by
  refine RO_of RX2 rfl (by decide) (Nat.le_of_ble_eq_true rfl) ?_
  intro p e s m below meth c C0 hK hP ls hl
  obtain ⟨hx, hb, hr, hml, hown, hts, hk⟩ := id C0
  unfold Fi_countCancelled at hp
  have hl : lv_has ls 1 [(0, .ref (qfo 0))] := hl
  refine lv_aload_n hx hb dX2_countCancelled_0 rfl (lv_at hl 0 rfl) ?_
  refine gf_X2_78 hx hb hts hown hK hP 0 rfl rfl dX2_countCancelled_1 ?_
  obtain ⟨r_2, hc_1, hp⟩ := bn1_s hp
  refine k_ROS (As := [.int (fo 8 0)]) (rest := []) ⟨hx, hb, hml, hown, hts⟩ hK (show va_P D vwCl [] _ from fun k q h => by simp at h) (cw_X2_239 hts ⟨Nat.le_of_ble_eq_true rfl, Nat.le_of_ble_eq_true rfl⟩) (c_J6_bitCount_0f7a4 l D cy (fo 8 0) r_2 hc_1) rfl hl.1 (Nat.le_of_ble_eq_true rfl) ⟨Nat.le_refl _, Nat.le_refl _⟩ dX2_countCancelled_4 ?_
  exact e_ROi hx hb hr hk dX2_countCancelled_7 (Option.some.inj hp)
/-! StormSlots$Field.totalHold()I -/
def Fi_totalHold_b4B (fo : Mem) (k4 : Int32 → Int32 → Option (Int32)) (x1 : Int32) (x2 : Int32) : Option (Int32) :=
  if 20 ≤ x2 then some x1 else bn1 (Fi_isSeated fo x2) (fun r_3 => if r_3 = 0 then stk (x1 + 0) (fun x1_5 => stk (x2 + 1) (fun x2_6 => k4 x1_5 x2_6)) else ckI x2 20 (stk (x1 + (fo 6 x2.toNatClampNeg)) (fun x1_8 => stk (x2 + 1) (fun x2_9 => k4 x1_8 x2_9))))
def Fi_totalHold_b4 (fo : Mem) : Nat → Int32 → Int32 → Option (Int32)
  | 0 => fun _ _ => none
  | n + 1 => Fi_totalHold_b4B fo (Fi_totalHold_b4 fo n)
def Fi_totalHold (fo : Mem) : Option (Int32) :=
  Fi_totalHold_b4 fo fl 0 0
set_option maxHeartbeats 4000000 in
set_option maxRecDepth 100000 in
theorem Fi_totalHold_b4B_w (C0 : cX RX2 cX2_totalHold (some .int) 3 p s m args meth c) (hK : kN D cy s) {qfo qro qra qvc qos qli : Nat → Nat} {fo ro ra vc os li : Mem} {r : Int32} (hP : va_P D vwCl (w_Fi cy qfo qro qra qvc qos qli fo ro ra vc os li) s.heap) {k4 : Int32 → Int32 → Option (Int32)} (hk4 : ∀ (x1 x2 : Int32) (ls : Array Slot), lv_has ls 3 [(0, .ref (qfo 0)), (1, .int x1), (2, .int x2)] → k4 x1 x2 = some r → W p l e (rmD 1) s m args below meth c s.heap [] 0 0 (qRO below args s r) (F0 m 4 ls [])) {x1 : Int32} {x2 : Int32} {ls : Array Slot} (hl : lv_has ls 3 [(0, .ref (qfo 0)), (1, .int x1), (2, .int x2)]) (hp : Fi_totalHold_b4B fo k4 x1 x2 = some r) : W p l e (rmD 1) s m args below meth c s.heap [] 0 0 (qRO below args s r) (F0 m 4 ls []) := by
  obtain ⟨hx, hb, hr, hml, hown, hts, hk⟩ := id C0
  unfold Fi_totalHold_b4B at hp
  refine lv_iload_n hx hb dX2_totalHold_4 rfl (lv_at hl 2 rfl) ?_
  refine lv_bipush (v := 20) hx hb dX2_totalHold_5 (by decide) ?_
  refine lv_icmp_ge (tgt := 37) hx hb dX2_totalHold_7 (by decide) (fun c_1 => ?_) (fun c_1 => ?_)
  · have hp := ite_p hp c_1
    refine lv_iload_n hx hb dX2_totalHold_37 rfl (lv_at hl 1 rfl) ?_
    exact e_ROi hx hb hr hk dX2_totalHold_38 (Option.some.inj hp)
  · have hp := ite_n hp c_1
    refine lv_iload_n hx hb dX2_totalHold_10 rfl (lv_at hl 1 rfl) ?_
    refine lv_aload_n hx hb dX2_totalHold_11 rfl (lv_at hl 0 rfl) ?_
    refine lv_iload_n hx hb dX2_totalHold_12 rfl (lv_at hl 2 rfl) ?_
    obtain ⟨r_3, hc_2, hp⟩ := bn1_s hp
    refine k_ROV (As := [.int x2]) (rest := [.int x1]) ⟨hx, hb, hml, hown, hts⟩ hK hP (cw_X2_126 hts ⟨Nat.le_of_ble_eq_true rfl, Nat.le_of_ble_eq_true rfl⟩) 0 (ci := 2) rfl rfl rfl (c_X2_isSeated l D cy qfo qro qra qvc qos qli fo ro ra vc os li x2 r_3 hc_2) rfl hl.1 (Nat.le_of_ble_eq_true rfl) ⟨Nat.le_refl _, Nat.le_refl _⟩ dX2_totalHold_13 ?_
    refine lv_if_eq (tgt := 28) hx hb dX2_totalHold_16 (by decide) (fun c_4 => ?_) (fun c_4 => ?_)
    · have hp := ite_p hp c_4
      refine lv_iconst (v := 0) hx hb dX2_totalHold_28 (by decide) ?_
      refine lv_iadd hx hb dX2_totalHold_29 ?_
      refine lv_topi (fun x1_5 ex1_5 => ?_)
      have hp := stk_e hp ex1_5
      refine lv_istore_n (lv' := [(1, .int x1_5), (0, .ref (qfo 0)), (2, .int x2)]) hx hb dX2_totalHold_30 rfl hl (by decide) rfl (fun ls hl => ?_)
      obtain ⟨x2_6, ex2_6⟩ : ∃ y : Int32, y = x2 + 1 := ⟨_, rfl⟩
      have hp := stk_e hp ex2_6
      refine lv_iinc (v := x2_6) (lv' := [(2, .int x2_6), (1, .int x1_5), (0, .ref (qfo 0))]) hx hb dX2_totalHold_31 hl (k := 2) rfl (by rw [ex2_6]; rfl) (by decide) rfl (fun ls hl => ?_)
      refine lv_goto (tgt := 4) hx hb dX2_totalHold_34 (by decide) ?_
      exact hk4 x1_5 x2_6 _ (lv_sub hl [2, 1, 0] rfl) hp
    · have hp := ite_n hp c_4
      refine lv_aload_n hx hb dX2_totalHold_19 rfl (lv_at hl 0 rfl) ?_
      refine gf_X2_50 hx hb hts hown hK hP 0 rfl rfl dX2_totalHold_20 ?_
      refine lv_iload_n hx hb dX2_totalHold_23 rfl (lv_at hl 2 rfl) ?_
      obtain ⟨hi_7, hp⟩ := ckI_s hp
      refine r_ild hx hb hK hP 2 rfl hi_7 dX2_totalHold_24 ?_
      refine lv_goto (tgt := 29) hx hb dX2_totalHold_25 (by decide) ?_
      refine lv_iadd hx hb dX2_totalHold_29 ?_
      refine lv_topi (fun x1_8 ex1_8 => ?_)
      have hp := stk_e hp ex1_8
      refine lv_istore_n (lv' := [(1, .int x1_8), (0, .ref (qfo 0)), (2, .int x2)]) hx hb dX2_totalHold_30 rfl hl (by decide) rfl (fun ls hl => ?_)
      obtain ⟨x2_9, ex2_9⟩ : ∃ y : Int32, y = x2 + 1 := ⟨_, rfl⟩
      have hp := stk_e hp ex2_9
      refine lv_iinc (v := x2_9) (lv' := [(2, .int x2_9), (1, .int x1_8), (0, .ref (qfo 0))]) hx hb dX2_totalHold_31 hl (k := 2) rfl (by rw [ex2_9]; rfl) (by decide) rfl (fun ls hl => ?_)
      refine lv_goto (tgt := 4) hx hb dX2_totalHold_34 (by decide) ?_
      exact hk4 x1_8 x2_9 _ (lv_sub hl [2, 1, 0] rfl) hp
theorem Fi_totalHold_b4_w (C0 : cX RX2 cX2_totalHold (some .int) 3 p s m args meth c) (hK : kN D cy s) {qfo qro qra qvc qos qli : Nat → Nat} {fo ro ra vc os li : Mem} {r : Int32} (hP : va_P D vwCl (w_Fi cy qfo qro qra qvc qos qli fo ro ra vc os li) s.heap) : ∀ (n : Nat) (x1 x2 : Int32) (ls : Array Slot), lv_has ls 3 [(0, .ref (qfo 0)), (1, .int x1), (2, .int x2)] → Fi_totalHold_b4 fo n x1 x2 = some r → W p l e (rmD 1) s m args below meth c s.heap [] 0 0 (qRO below args s r) (F0 m 4 ls []) := by
  intro n
  induction n with
  | zero =>
    intro x1 x2 ls hl hp
    cases hp
  | succ n ih =>
    intro x1 x2 ls hl hp
    exact Fi_totalHold_b4B_w C0 hK hP  (fun x1 x2 ls hl hp => ih x1 x2 ls hl hp) hl hp
set_option maxHeartbeats 4000000 in
set_option maxRecDepth 100000 in
theorem c_X2_totalHold (l : Launch) (D : va_G) (cy : Nat → ClassId) (qfo qro qra qvc qos qli : Nat → Nat) (fo ro ra vc os li : Mem) (r : Int32) (hp : Fi_totalHold fo = some r) : RO l yX2_totalHold cX2_totalHold 3 (some .int) 1 D cy [.ref (qfo 0)] (w_Fi cy qfo qro qra qvc qos qli fo ro ra vc os li) r := by
  refine RO_of RX2 rfl (by decide) (Nat.le_of_ble_eq_true rfl) ?_
  intro p e s m below meth c C0 hK hP ls hl
  obtain ⟨hx, hb, hr, hml, hown, hts, hk⟩ := id C0
  unfold Fi_totalHold at hp
  have hl : lv_has ls 3 [(0, .ref (qfo 0))] := hl
  refine lv_iconst (v := 0) hx hb dX2_totalHold_0 (by decide) ?_
  refine lv_istore_n (lv' := [(1, .int 0), (0, .ref (qfo 0))]) hx hb dX2_totalHold_1 rfl hl (by decide) rfl (fun ls hl => ?_)
  refine lv_iconst (v := 0) hx hb dX2_totalHold_2 (by decide) ?_
  refine lv_istore_n (lv' := [(2, .int 0), (1, .int 0), (0, .ref (qfo 0))]) hx hb dX2_totalHold_3 rfl hl (by decide) rfl (fun ls hl => ?_)
  exact Fi_totalHold_b4_w C0 hK hP  fl 0 0 _ (lv_sub hl [2, 1, 0] rfl) hp
/-! StormSlots$Field.totalCircles()I -/
def Fi_totalCircles_b4B (fo : Mem) (k4 : Int32 → Int32 → Option (Int32)) (x1 : Int32) (x2 : Int32) : Option (Int32) :=
  if 20 ≤ x2 then some x1 else bn1 (Fi_isSeated fo x2) (fun r_3 => if r_3 = 0 then stk (x1 + 0) (fun x1_5 => stk (x2 + 1) (fun x2_6 => k4 x1_5 x2_6)) else ckI x2 20 (stk (x1 + (fo 7 x2.toNatClampNeg)) (fun x1_8 => stk (x2 + 1) (fun x2_9 => k4 x1_8 x2_9))))
def Fi_totalCircles_b4 (fo : Mem) : Nat → Int32 → Int32 → Option (Int32)
  | 0 => fun _ _ => none
  | n + 1 => Fi_totalCircles_b4B fo (Fi_totalCircles_b4 fo n)
def Fi_totalCircles (fo : Mem) : Option (Int32) :=
  Fi_totalCircles_b4 fo fl 0 0
set_option maxHeartbeats 4000000 in
set_option maxRecDepth 100000 in
theorem Fi_totalCircles_b4B_w (C0 : cX RX2 cX2_totalCircles (some .int) 3 p s m args meth c) (hK : kN D cy s) {qfo qro qra qvc qos qli : Nat → Nat} {fo ro ra vc os li : Mem} {r : Int32} (hP : va_P D vwCl (w_Fi cy qfo qro qra qvc qos qli fo ro ra vc os li) s.heap) {k4 : Int32 → Int32 → Option (Int32)} (hk4 : ∀ (x1 x2 : Int32) (ls : Array Slot), lv_has ls 3 [(0, .ref (qfo 0)), (1, .int x1), (2, .int x2)] → k4 x1 x2 = some r → W p l e (rmD 1) s m args below meth c s.heap [] 0 0 (qRO below args s r) (F0 m 4 ls [])) {x1 : Int32} {x2 : Int32} {ls : Array Slot} (hl : lv_has ls 3 [(0, .ref (qfo 0)), (1, .int x1), (2, .int x2)]) (hp : Fi_totalCircles_b4B fo k4 x1 x2 = some r) : W p l e (rmD 1) s m args below meth c s.heap [] 0 0 (qRO below args s r) (F0 m 4 ls []) := by
  obtain ⟨hx, hb, hr, hml, hown, hts, hk⟩ := id C0
  unfold Fi_totalCircles_b4B at hp
  refine lv_iload_n hx hb dX2_totalCircles_4 rfl (lv_at hl 2 rfl) ?_
  refine lv_bipush (v := 20) hx hb dX2_totalCircles_5 (by decide) ?_
  refine lv_icmp_ge (tgt := 37) hx hb dX2_totalCircles_7 (by decide) (fun c_1 => ?_) (fun c_1 => ?_)
  · have hp := ite_p hp c_1
    refine lv_iload_n hx hb dX2_totalCircles_37 rfl (lv_at hl 1 rfl) ?_
    exact e_ROi hx hb hr hk dX2_totalCircles_38 (Option.some.inj hp)
  · have hp := ite_n hp c_1
    refine lv_iload_n hx hb dX2_totalCircles_10 rfl (lv_at hl 1 rfl) ?_
    refine lv_aload_n hx hb dX2_totalCircles_11 rfl (lv_at hl 0 rfl) ?_
    refine lv_iload_n hx hb dX2_totalCircles_12 rfl (lv_at hl 2 rfl) ?_
    obtain ⟨r_3, hc_2, hp⟩ := bn1_s hp
    refine k_ROV (As := [.int x2]) (rest := [.int x1]) ⟨hx, hb, hml, hown, hts⟩ hK hP (cw_X2_126 hts ⟨Nat.le_of_ble_eq_true rfl, Nat.le_of_ble_eq_true rfl⟩) 0 (ci := 2) rfl rfl rfl (c_X2_isSeated l D cy qfo qro qra qvc qos qli fo ro ra vc os li x2 r_3 hc_2) rfl hl.1 (Nat.le_of_ble_eq_true rfl) ⟨Nat.le_refl _, Nat.le_refl _⟩ dX2_totalCircles_13 ?_
    refine lv_if_eq (tgt := 28) hx hb dX2_totalCircles_16 (by decide) (fun c_4 => ?_) (fun c_4 => ?_)
    · have hp := ite_p hp c_4
      refine lv_iconst (v := 0) hx hb dX2_totalCircles_28 (by decide) ?_
      refine lv_iadd hx hb dX2_totalCircles_29 ?_
      refine lv_topi (fun x1_5 ex1_5 => ?_)
      have hp := stk_e hp ex1_5
      refine lv_istore_n (lv' := [(1, .int x1_5), (0, .ref (qfo 0)), (2, .int x2)]) hx hb dX2_totalCircles_30 rfl hl (by decide) rfl (fun ls hl => ?_)
      obtain ⟨x2_6, ex2_6⟩ : ∃ y : Int32, y = x2 + 1 := ⟨_, rfl⟩
      have hp := stk_e hp ex2_6
      refine lv_iinc (v := x2_6) (lv' := [(2, .int x2_6), (1, .int x1_5), (0, .ref (qfo 0))]) hx hb dX2_totalCircles_31 hl (k := 2) rfl (by rw [ex2_6]; rfl) (by decide) rfl (fun ls hl => ?_)
      refine lv_goto (tgt := 4) hx hb dX2_totalCircles_34 (by decide) ?_
      exact hk4 x1_5 x2_6 _ (lv_sub hl [2, 1, 0] rfl) hp
    · have hp := ite_n hp c_4
      refine lv_aload_n hx hb dX2_totalCircles_19 rfl (lv_at hl 0 rfl) ?_
      refine gf_X2_53 hx hb hts hown hK hP 0 rfl rfl dX2_totalCircles_20 ?_
      refine lv_iload_n hx hb dX2_totalCircles_23 rfl (lv_at hl 2 rfl) ?_
      obtain ⟨hi_7, hp⟩ := ckI_s hp
      refine r_ild hx hb hK hP 3 rfl hi_7 dX2_totalCircles_24 ?_
      refine lv_goto (tgt := 29) hx hb dX2_totalCircles_25 (by decide) ?_
      refine lv_iadd hx hb dX2_totalCircles_29 ?_
      refine lv_topi (fun x1_8 ex1_8 => ?_)
      have hp := stk_e hp ex1_8
      refine lv_istore_n (lv' := [(1, .int x1_8), (0, .ref (qfo 0)), (2, .int x2)]) hx hb dX2_totalCircles_30 rfl hl (by decide) rfl (fun ls hl => ?_)
      obtain ⟨x2_9, ex2_9⟩ : ∃ y : Int32, y = x2 + 1 := ⟨_, rfl⟩
      have hp := stk_e hp ex2_9
      refine lv_iinc (v := x2_9) (lv' := [(2, .int x2_9), (1, .int x1_8), (0, .ref (qfo 0))]) hx hb dX2_totalCircles_31 hl (k := 2) rfl (by rw [ex2_9]; rfl) (by decide) rfl (fun ls hl => ?_)
      refine lv_goto (tgt := 4) hx hb dX2_totalCircles_34 (by decide) ?_
      exact hk4 x1_8 x2_9 _ (lv_sub hl [2, 1, 0] rfl) hp
theorem Fi_totalCircles_b4_w (C0 : cX RX2 cX2_totalCircles (some .int) 3 p s m args meth c) (hK : kN D cy s) {qfo qro qra qvc qos qli : Nat → Nat} {fo ro ra vc os li : Mem} {r : Int32} (hP : va_P D vwCl (w_Fi cy qfo qro qra qvc qos qli fo ro ra vc os li) s.heap) : ∀ (n : Nat) (x1 x2 : Int32) (ls : Array Slot), lv_has ls 3 [(0, .ref (qfo 0)), (1, .int x1), (2, .int x2)] → Fi_totalCircles_b4 fo n x1 x2 = some r → W p l e (rmD 1) s m args below meth c s.heap [] 0 0 (qRO below args s r) (F0 m 4 ls []) := by
  intro n
  induction n with
  | zero =>
    intro x1 x2 ls hl hp
    cases hp
  | succ n ih =>
    intro x1 x2 ls hl hp
    exact Fi_totalCircles_b4B_w C0 hK hP  (fun x1 x2 ls hl hp => ih x1 x2 ls hl hp) hl hp
set_option maxHeartbeats 4000000 in
set_option maxRecDepth 100000 in
theorem c_X2_totalCircles (l : Launch) (D : va_G) (cy : Nat → ClassId) (qfo qro qra qvc qos qli : Nat → Nat) (fo ro ra vc os li : Mem) (r : Int32) (hp : Fi_totalCircles fo = some r) : RO l yX2_totalCircles cX2_totalCircles 3 (some .int) 1 D cy [.ref (qfo 0)] (w_Fi cy qfo qro qra qvc qos qli fo ro ra vc os li) r := by
  refine RO_of RX2 rfl (by decide) (Nat.le_of_ble_eq_true rfl) ?_
  intro p e s m below meth c C0 hK hP ls hl
  obtain ⟨hx, hb, hr, hml, hown, hts, hk⟩ := id C0
  unfold Fi_totalCircles at hp
  have hl : lv_has ls 3 [(0, .ref (qfo 0))] := hl
  refine lv_iconst (v := 0) hx hb dX2_totalCircles_0 (by decide) ?_
  refine lv_istore_n (lv' := [(1, .int 0), (0, .ref (qfo 0))]) hx hb dX2_totalCircles_1 rfl hl (by decide) rfl (fun ls hl => ?_)
  refine lv_iconst (v := 0) hx hb dX2_totalCircles_2 (by decide) ?_
  refine lv_istore_n (lv' := [(2, .int 0), (1, .int 0), (0, .ref (qfo 0))]) hx hb dX2_totalCircles_3 rfl hl (by decide) rfl (fun ls hl => ?_)
  exact Fi_totalCircles_b4_w C0 hK hP  fl 0 0 _ (lv_sub hl [2, 1, 0] rfl) hp
/-! StormSlots$Field.totalCost()I -/
def Fi_totalCost_b4B (fo : Mem) (ro : Mem) (k4 : Int32 → Int32 → Option (Int32)) (x1 : Int32) (x2 : Int32) : Option (Int32) :=
  if 5 ≤ x2 then some x1 else bn1 (Fi_lineCost fo ro x2) (fun r_3 => stk (x1 + r_3) (fun x1_4 => stk (x2 + 1) (fun x2_5 => k4 x1_4 x2_5)))
def Fi_totalCost_b4 (fo : Mem) (ro : Mem) : Nat → Int32 → Int32 → Option (Int32)
  | 0 => fun _ _ => none
  | n + 1 => Fi_totalCost_b4B fo ro (Fi_totalCost_b4 fo ro n)
def Fi_totalCost (fo : Mem) (ro : Mem) : Option (Int32) :=
  Fi_totalCost_b4 fo ro fl 0 0
set_option maxHeartbeats 4000000 in
set_option maxRecDepth 100000 in
theorem Fi_totalCost_b4B_w (C0 : cX RX2 cX2_totalCost (some .int) 3 p s m args meth c) (hK : kN D cy s) {qfo qro qra qvc qos qli : Nat → Nat} {fo ro ra vc os li : Mem} {r : Int32} (hP : va_P D vwCl (w_Fi cy qfo qro qra qvc qos qli fo ro ra vc os li) s.heap) {k4 : Int32 → Int32 → Option (Int32)} (hk4 : ∀ (x1 x2 : Int32) (ls : Array Slot), lv_has ls 3 [(0, .ref (qfo 0)), (1, .int x1), (2, .int x2)] → k4 x1 x2 = some r → W p l e (rmD 3) s m args below meth c s.heap [] 0 0 (qRO below args s r) (F0 m 4 ls [])) {x1 : Int32} {x2 : Int32} {ls : Array Slot} (hl : lv_has ls 3 [(0, .ref (qfo 0)), (1, .int x1), (2, .int x2)]) (hp : Fi_totalCost_b4B fo ro k4 x1 x2 = some r) : W p l e (rmD 3) s m args below meth c s.heap [] 0 0 (qRO below args s r) (F0 m 4 ls []) := by
  obtain ⟨hx, hb, hr, hml, hown, hts, hk⟩ := id C0
  unfold Fi_totalCost_b4B at hp
  refine lv_iload_n hx hb dX2_totalCost_4 rfl (lv_at hl 2 rfl) ?_
  refine lv_iconst (v := 5) hx hb dX2_totalCost_5 (by decide) ?_
  refine lv_icmp_ge (tgt := 23) hx hb dX2_totalCost_6 (by decide) (fun c_1 => ?_) (fun c_1 => ?_)
  · have hp := ite_p hp c_1
    refine lv_iload_n hx hb dX2_totalCost_23 rfl (lv_at hl 1 rfl) ?_
    exact e_ROi hx hb hr hk dX2_totalCost_24 (Option.some.inj hp)
  · have hp := ite_n hp c_1
    refine lv_iload_n hx hb dX2_totalCost_9 rfl (lv_at hl 1 rfl) ?_
    refine lv_aload_n hx hb dX2_totalCost_10 rfl (lv_at hl 0 rfl) ?_
    refine lv_iload_n hx hb dX2_totalCost_11 rfl (lv_at hl 2 rfl) ?_
    obtain ⟨r_3, hc_2, hp⟩ := bn1_s hp
    refine k_ROV (As := [.int x2]) (rest := [.int x1]) ⟨hx, hb, hml, hown, hts⟩ hK hP (cw_X2_244 hts ⟨Nat.le_of_ble_eq_true rfl, Nat.le_of_ble_eq_true rfl⟩) 0 (ci := 2) rfl rfl rfl (c_X2_lineCost l D cy qfo qro qra qvc qos qli fo ro ra vc os li x2 r_3 hc_2) rfl hl.1 (Nat.le_of_ble_eq_true rfl) ⟨Nat.le_refl _, Nat.le_refl _⟩ dX2_totalCost_12 ?_
    refine lv_iadd hx hb dX2_totalCost_15 ?_
    refine lv_topi (fun x1_4 ex1_4 => ?_)
    have hp := stk_e hp ex1_4
    refine lv_istore_n (lv' := [(1, .int x1_4), (0, .ref (qfo 0)), (2, .int x2)]) hx hb dX2_totalCost_16 rfl hl (by decide) rfl (fun ls hl => ?_)
    obtain ⟨x2_5, ex2_5⟩ : ∃ y : Int32, y = x2 + 1 := ⟨_, rfl⟩
    have hp := stk_e hp ex2_5
    refine lv_iinc (v := x2_5) (lv' := [(2, .int x2_5), (1, .int x1_4), (0, .ref (qfo 0))]) hx hb dX2_totalCost_17 hl (k := 2) rfl (by rw [ex2_5]; rfl) (by decide) rfl (fun ls hl => ?_)
    refine lv_goto (tgt := 4) hx hb dX2_totalCost_20 (by decide) ?_
    exact hk4 x1_4 x2_5 _ (lv_sub hl [2, 1, 0] rfl) hp
theorem Fi_totalCost_b4_w (C0 : cX RX2 cX2_totalCost (some .int) 3 p s m args meth c) (hK : kN D cy s) {qfo qro qra qvc qos qli : Nat → Nat} {fo ro ra vc os li : Mem} {r : Int32} (hP : va_P D vwCl (w_Fi cy qfo qro qra qvc qos qli fo ro ra vc os li) s.heap) : ∀ (n : Nat) (x1 x2 : Int32) (ls : Array Slot), lv_has ls 3 [(0, .ref (qfo 0)), (1, .int x1), (2, .int x2)] → Fi_totalCost_b4 fo ro n x1 x2 = some r → W p l e (rmD 3) s m args below meth c s.heap [] 0 0 (qRO below args s r) (F0 m 4 ls []) := by
  intro n
  induction n with
  | zero =>
    intro x1 x2 ls hl hp
    cases hp
  | succ n ih =>
    intro x1 x2 ls hl hp
    exact Fi_totalCost_b4B_w C0 hK hP  (fun x1 x2 ls hl hp => ih x1 x2 ls hl hp) hl hp
set_option maxHeartbeats 4000000 in
set_option maxRecDepth 100000 in
theorem c_X2_totalCost (l : Launch) (D : va_G) (cy : Nat → ClassId) (qfo qro qra qvc qos qli : Nat → Nat) (fo ro ra vc os li : Mem) (r : Int32) (hp : Fi_totalCost fo ro = some r) : RO l yX2_totalCost cX2_totalCost 3 (some .int) 3 D cy [.ref (qfo 0)] (w_Fi cy qfo qro qra qvc qos qli fo ro ra vc os li) r := by
  refine RO_of RX2 rfl (by decide) (Nat.le_of_ble_eq_true rfl) ?_
  intro p e s m below meth c C0 hK hP ls hl
  obtain ⟨hx, hb, hr, hml, hown, hts, hk⟩ := id C0
  unfold Fi_totalCost at hp
  have hl : lv_has ls 3 [(0, .ref (qfo 0))] := hl
  refine lv_iconst (v := 0) hx hb dX2_totalCost_0 (by decide) ?_
  refine lv_istore_n (lv' := [(1, .int 0), (0, .ref (qfo 0))]) hx hb dX2_totalCost_1 rfl hl (by decide) rfl (fun ls hl => ?_)
  refine lv_iconst (v := 0) hx hb dX2_totalCost_2 (by decide) ?_
  refine lv_istore_n (lv' := [(2, .int 0), (1, .int 0), (0, .ref (qfo 0))]) hx hb dX2_totalCost_3 rfl hl (by decide) rfl (fun ls hl => ?_)
  exact Fi_totalCost_b4_w C0 hK hP  fl 0 0 _ (lv_sub hl [2, 1, 0] rfl) hp
/-! StormSlots$Field.longestWait()I -/
def Fi_longestWait_b4B (fo : Mem) (ro : Mem) (k4 : Int32 → Int32 → Option (Int32)) (x1 : Int32) (x2 : Int32) : Option (Int32) :=
  if 5 ≤ x2 then some x1 else bn1 (Fi_longestWaitOf fo ro x2) (fun r_3 => stk (if x1 < r_3 then r_3 else x1) (fun x1_4 => stk (x2 + 1) (fun x2_5 => k4 x1_4 x2_5)))
def Fi_longestWait_b4 (fo : Mem) (ro : Mem) : Nat → Int32 → Int32 → Option (Int32)
  | 0 => fun _ _ => none
  | n + 1 => Fi_longestWait_b4B fo ro (Fi_longestWait_b4 fo ro n)
def Fi_longestWait (fo : Mem) (ro : Mem) : Option (Int32) :=
  Fi_longestWait_b4 fo ro fl 0 0
set_option maxHeartbeats 4000000 in
set_option maxRecDepth 100000 in
theorem Fi_longestWait_b4B_w (C0 : cX RX2 cX2_longestWait (some .int) 3 p s m args meth c) (hK : kN D cy s) {qfo qro qra qvc qos qli : Nat → Nat} {fo ro ra vc os li : Mem} {r : Int32} (hP : va_P D vwCl (w_Fi cy qfo qro qra qvc qos qli fo ro ra vc os li) s.heap) {k4 : Int32 → Int32 → Option (Int32)} (hk4 : ∀ (x1 x2 : Int32) (ls : Array Slot), lv_has ls 3 [(0, .ref (qfo 0)), (1, .int x1), (2, .int x2)] → k4 x1 x2 = some r → W p l e (rmD 3) s m args below meth c s.heap [] 0 0 (qRO below args s r) (F0 m 4 ls [])) {x1 : Int32} {x2 : Int32} {ls : Array Slot} (hl : lv_has ls 3 [(0, .ref (qfo 0)), (1, .int x1), (2, .int x2)]) (hp : Fi_longestWait_b4B fo ro k4 x1 x2 = some r) : W p l e (rmD 3) s m args below meth c s.heap [] 0 0 (qRO below args s r) (F0 m 4 ls []) := by
  obtain ⟨hx, hb, hr, hml, hown, hts, hk⟩ := id C0
  unfold Fi_longestWait_b4B at hp
  refine lv_iload_n hx hb dX2_longestWait_4 rfl (lv_at hl 2 rfl) ?_
  refine lv_iconst (v := 5) hx hb dX2_longestWait_5 (by decide) ?_
  refine lv_icmp_ge (tgt := 25) hx hb dX2_longestWait_6 (by decide) (fun c_1 => ?_) (fun c_1 => ?_)
  · have hp := ite_p hp c_1
    refine lv_iload_n hx hb dX2_longestWait_25 rfl (lv_at hl 1 rfl) ?_
    exact e_ROi hx hb hr hk dX2_longestWait_26 (Option.some.inj hp)
  · have hp := ite_n hp c_1
    refine lv_iload_n hx hb dX2_longestWait_9 rfl (lv_at hl 1 rfl) ?_
    refine lv_aload_n hx hb dX2_longestWait_10 rfl (lv_at hl 0 rfl) ?_
    refine lv_iload_n hx hb dX2_longestWait_11 rfl (lv_at hl 2 rfl) ?_
    obtain ⟨r_3, hc_2, hp⟩ := bn1_s hp
    refine k_ROV (As := [.int x2]) (rest := [.int x1]) ⟨hx, hb, hml, hown, hts⟩ hK hP (cw_X2_247 hts ⟨Nat.le_of_ble_eq_true rfl, Nat.le_of_ble_eq_true rfl⟩) 0 (ci := 2) rfl rfl rfl (c_X2_longestWaitOf l D cy qfo qro qra qvc qos qli fo ro ra vc os li x2 r_3 hc_2) rfl hl.1 (Nat.le_of_ble_eq_true rfl) ⟨Nat.le_refl _, Nat.le_refl _⟩ dX2_longestWait_12 ?_
    refine mm_X2_120 hx hb (by rw [hml]; exact hl.1.symm) hts hown (Nat.le_of_ble_eq_true rfl) (Nat.le_of_ble_eq_true rfl) (Nat.le_refl _) (Nat.le_refl _) dX2_longestWait_15 ?_
    refine lv_topi (fun x1_4 ex1_4 => ?_)
    have hp := stk_e hp ex1_4
    refine lv_istore_n (lv' := [(1, .int x1_4), (0, .ref (qfo 0)), (2, .int x2)]) hx hb dX2_longestWait_18 rfl hl (by decide) rfl (fun ls hl => ?_)
    obtain ⟨x2_5, ex2_5⟩ : ∃ y : Int32, y = x2 + 1 := ⟨_, rfl⟩
    have hp := stk_e hp ex2_5
    refine lv_iinc (v := x2_5) (lv' := [(2, .int x2_5), (1, .int x1_4), (0, .ref (qfo 0))]) hx hb dX2_longestWait_19 hl (k := 2) rfl (by rw [ex2_5]; rfl) (by decide) rfl (fun ls hl => ?_)
    refine lv_goto (tgt := 4) hx hb dX2_longestWait_22 (by decide) ?_
    exact hk4 x1_4 x2_5 _ (lv_sub hl [2, 1, 0] rfl) hp
theorem Fi_longestWait_b4_w (C0 : cX RX2 cX2_longestWait (some .int) 3 p s m args meth c) (hK : kN D cy s) {qfo qro qra qvc qos qli : Nat → Nat} {fo ro ra vc os li : Mem} {r : Int32} (hP : va_P D vwCl (w_Fi cy qfo qro qra qvc qos qli fo ro ra vc os li) s.heap) : ∀ (n : Nat) (x1 x2 : Int32) (ls : Array Slot), lv_has ls 3 [(0, .ref (qfo 0)), (1, .int x1), (2, .int x2)] → Fi_longestWait_b4 fo ro n x1 x2 = some r → W p l e (rmD 3) s m args below meth c s.heap [] 0 0 (qRO below args s r) (F0 m 4 ls []) := by
  intro n
  induction n with
  | zero =>
    intro x1 x2 ls hl hp
    cases hp
  | succ n ih =>
    intro x1 x2 ls hl hp
    exact Fi_longestWait_b4B_w C0 hK hP  (fun x1 x2 ls hl hp => ih x1 x2 ls hl hp) hl hp
set_option maxHeartbeats 4000000 in
set_option maxRecDepth 100000 in
theorem c_X2_longestWait (l : Launch) (D : va_G) (cy : Nat → ClassId) (qfo qro qra qvc qos qli : Nat → Nat) (fo ro ra vc os li : Mem) (r : Int32) (hp : Fi_longestWait fo ro = some r) : RO l yX2_longestWait cX2_longestWait 3 (some .int) 3 D cy [.ref (qfo 0)] (w_Fi cy qfo qro qra qvc qos qli fo ro ra vc os li) r := by
  refine RO_of RX2 rfl (by decide) (Nat.le_of_ble_eq_true rfl) ?_
  intro p e s m below meth c C0 hK hP ls hl
  obtain ⟨hx, hb, hr, hml, hown, hts, hk⟩ := id C0
  unfold Fi_longestWait at hp
  have hl : lv_has ls 3 [(0, .ref (qfo 0))] := hl
  refine lv_iconst (v := 0) hx hb dX2_longestWait_0 (by decide) ?_
  refine lv_istore_n (lv' := [(1, .int 0), (0, .ref (qfo 0))]) hx hb dX2_longestWait_1 rfl hl (by decide) rfl (fun ls hl => ?_)
  refine lv_iconst (v := 0) hx hb dX2_longestWait_2 (by decide) ?_
  refine lv_istore_n (lv' := [(2, .int 0), (1, .int 0), (0, .ref (qfo 0))]) hx hb dX2_longestWait_3 rfl hl (by decide) rfl (fun ls hl => ?_)
  exact Fi_longestWait_b4_w C0 hK hP  fl 0 0 _ (lv_sub hl [2, 1, 0] rfl) hp
/-! StormSlots$Field.lastSlot()I -/
def Fi_lastSlot_b4B (fo : Mem) (k4 : Int32 → Int32 → Option (Int32)) (x1 : Int32) (x2 : Int32) : Option (Int32) :=
  if 20 ≤ x2 then some x1 else ckI x2 20 (stk (if x1 < (fo 5 x2.toNatClampNeg) then (fo 5 x2.toNatClampNeg) else x1) (fun x1_3 => stk (x2 + 1) (fun x2_4 => k4 x1_3 x2_4)))
def Fi_lastSlot_b4 (fo : Mem) : Nat → Int32 → Int32 → Option (Int32)
  | 0 => fun _ _ => none
  | n + 1 => Fi_lastSlot_b4B fo (Fi_lastSlot_b4 fo n)
def Fi_lastSlot (fo : Mem) : Option (Int32) :=
  Fi_lastSlot_b4 fo fl 0 0
set_option maxHeartbeats 4000000 in
set_option maxRecDepth 100000 in
theorem Fi_lastSlot_b4B_w (C0 : cX RX2 cX2_lastSlot (some .int) 3 p s m args meth c) (hK : kN D cy s) {qfo qro qra qvc qos qli : Nat → Nat} {fo ro ra vc os li : Mem} {r : Int32} (hP : va_P D vwCl (w_Fi cy qfo qro qra qvc qos qli fo ro ra vc os li) s.heap) {k4 : Int32 → Int32 → Option (Int32)} (hk4 : ∀ (x1 x2 : Int32) (ls : Array Slot), lv_has ls 3 [(0, .ref (qfo 0)), (1, .int x1), (2, .int x2)] → k4 x1 x2 = some r → W p l e (rmD 1) s m args below meth c s.heap [] 0 0 (qRO below args s r) (F0 m 4 ls [])) {x1 : Int32} {x2 : Int32} {ls : Array Slot} (hl : lv_has ls 3 [(0, .ref (qfo 0)), (1, .int x1), (2, .int x2)]) (hp : Fi_lastSlot_b4B fo k4 x1 x2 = some r) : W p l e (rmD 1) s m args below meth c s.heap [] 0 0 (qRO below args s r) (F0 m 4 ls []) := by
  obtain ⟨hx, hb, hr, hml, hown, hts, hk⟩ := id C0
  unfold Fi_lastSlot_b4B at hp
  refine lv_iload_n hx hb dX2_lastSlot_4 rfl (lv_at hl 2 rfl) ?_
  refine lv_bipush (v := 20) hx hb dX2_lastSlot_5 (by decide) ?_
  refine lv_icmp_ge (tgt := 27) hx hb dX2_lastSlot_7 (by decide) (fun c_1 => ?_) (fun c_1 => ?_)
  · have hp := ite_p hp c_1
    refine lv_iload_n hx hb dX2_lastSlot_27 rfl (lv_at hl 1 rfl) ?_
    exact e_ROi hx hb hr hk dX2_lastSlot_28 (Option.some.inj hp)
  · have hp := ite_n hp c_1
    refine lv_iload_n hx hb dX2_lastSlot_10 rfl (lv_at hl 1 rfl) ?_
    refine lv_aload_n hx hb dX2_lastSlot_11 rfl (lv_at hl 0 rfl) ?_
    refine gf_X2_46 hx hb hts hown hK hP 0 rfl rfl dX2_lastSlot_12 ?_
    refine lv_iload_n hx hb dX2_lastSlot_15 rfl (lv_at hl 2 rfl) ?_
    obtain ⟨hi_2, hp⟩ := ckI_s hp
    refine r_ild hx hb hK hP 1 rfl hi_2 dX2_lastSlot_16 ?_
    refine mm_X2_120 hx hb (by rw [hml]; exact hl.1.symm) hts hown (Nat.le_of_ble_eq_true rfl) (Nat.le_of_ble_eq_true rfl) (Nat.le_refl _) (Nat.le_refl _) dX2_lastSlot_17 ?_
    refine lv_topi (fun x1_3 ex1_3 => ?_)
    have hp := stk_e hp ex1_3
    refine lv_istore_n (lv' := [(1, .int x1_3), (0, .ref (qfo 0)), (2, .int x2)]) hx hb dX2_lastSlot_20 rfl hl (by decide) rfl (fun ls hl => ?_)
    obtain ⟨x2_4, ex2_4⟩ : ∃ y : Int32, y = x2 + 1 := ⟨_, rfl⟩
    have hp := stk_e hp ex2_4
    refine lv_iinc (v := x2_4) (lv' := [(2, .int x2_4), (1, .int x1_3), (0, .ref (qfo 0))]) hx hb dX2_lastSlot_21 hl (k := 2) rfl (by rw [ex2_4]; rfl) (by decide) rfl (fun ls hl => ?_)
    refine lv_goto (tgt := 4) hx hb dX2_lastSlot_24 (by decide) ?_
    exact hk4 x1_3 x2_4 _ (lv_sub hl [2, 1, 0] rfl) hp
theorem Fi_lastSlot_b4_w (C0 : cX RX2 cX2_lastSlot (some .int) 3 p s m args meth c) (hK : kN D cy s) {qfo qro qra qvc qos qli : Nat → Nat} {fo ro ra vc os li : Mem} {r : Int32} (hP : va_P D vwCl (w_Fi cy qfo qro qra qvc qos qli fo ro ra vc os li) s.heap) : ∀ (n : Nat) (x1 x2 : Int32) (ls : Array Slot), lv_has ls 3 [(0, .ref (qfo 0)), (1, .int x1), (2, .int x2)] → Fi_lastSlot_b4 fo n x1 x2 = some r → W p l e (rmD 1) s m args below meth c s.heap [] 0 0 (qRO below args s r) (F0 m 4 ls []) := by
  intro n
  induction n with
  | zero =>
    intro x1 x2 ls hl hp
    cases hp
  | succ n ih =>
    intro x1 x2 ls hl hp
    exact Fi_lastSlot_b4B_w C0 hK hP  (fun x1 x2 ls hl hp => ih x1 x2 ls hl hp) hl hp
set_option maxHeartbeats 4000000 in
set_option maxRecDepth 100000 in
theorem c_X2_lastSlot (l : Launch) (D : va_G) (cy : Nat → ClassId) (qfo qro qra qvc qos qli : Nat → Nat) (fo ro ra vc os li : Mem) (r : Int32) (hp : Fi_lastSlot fo = some r) : RO l yX2_lastSlot cX2_lastSlot 3 (some .int) 1 D cy [.ref (qfo 0)] (w_Fi cy qfo qro qra qvc qos qli fo ro ra vc os li) r := by
  refine RO_of RX2 rfl (by decide) (Nat.le_of_ble_eq_true rfl) ?_
  intro p e s m below meth c C0 hK hP ls hl
  obtain ⟨hx, hb, hr, hml, hown, hts, hk⟩ := id C0
  unfold Fi_lastSlot at hp
  have hl : lv_has ls 3 [(0, .ref (qfo 0))] := hl
  refine lv_iconst (v := 0) hx hb dX2_lastSlot_0 (by decide) ?_
  refine lv_istore_n (lv' := [(1, .int 0), (0, .ref (qfo 0))]) hx hb dX2_lastSlot_1 rfl hl (by decide) rfl (fun ls hl => ?_)
  refine lv_iconst (v := 0) hx hb dX2_lastSlot_2 (by decide) ?_
  refine lv_istore_n (lv' := [(2, .int 0), (1, .int 0), (0, .ref (qfo 0))]) hx hb dX2_lastSlot_3 rfl hl (by decide) rfl (fun ls hl => ?_)
  exact Fi_lastSlot_b4_w C0 hK hP  fl 0 0 _ (lv_sub hl [2, 1, 0] rfl) hp
/-! StormSlots$Field.dueIn(I)I -/
def Fi_dueIn_b4B (ro : Mem) (p1 : Int32) (k4 : Int32 → Int32 → Option (Int32)) (x2 : Int32) (x3 : Int32) : Option (Int32) :=
  if 20 ≤ x3 then some x2 else bn1 (Fi_isFlight ro x3) (fun r_3 => if r_3 = 0 then stk (x2 + 0) (fun x2_5 => stk (x3 + 1) (fun x3_6 => k4 x2_5 x3_6)) else ckI x3 20 (if ((ro 1 x3.toNatClampNeg) / 60) = p1 then stk (x2 + 1) (fun x2_11 => stk (x3 + 1) (fun x3_12 => k4 x2_11 x3_12)) else stk (x2 + 0) (fun x2_9 => stk (x3 + 1) (fun x3_10 => k4 x2_9 x3_10))))
def Fi_dueIn_b4 (ro : Mem) (p1 : Int32) : Nat → Int32 → Int32 → Option (Int32)
  | 0 => fun _ _ => none
  | n + 1 => Fi_dueIn_b4B ro p1 (Fi_dueIn_b4 ro p1 n)
def Fi_dueIn (ro : Mem) (p1 : Int32) : Option (Int32) :=
  Fi_dueIn_b4 ro p1 fl 0 0
set_option maxHeartbeats 4000000 in
set_option maxRecDepth 100000 in
theorem Fi_dueIn_b4B_w (C0 : cX RX2 cX2_dueIn (some .int) 4 p s m args meth c) (hK : kN D cy s) {qfo qro qra qvc qos qli : Nat → Nat} {fo ro ra vc os li : Mem} {p1 : Int32} {r : Int32} (hP : va_P D vwCl (w_Fi cy qfo qro qra qvc qos qli fo ro ra vc os li) s.heap) {k4 : Int32 → Int32 → Option (Int32)} (hk4 : ∀ (x2 x3 : Int32) (ls : Array Slot), lv_has ls 4 [(0, .ref (qfo 0)), (1, .int p1), (2, .int x2), (3, .int x3)] → k4 x2 x3 = some r → W p l e (rmD 1) s m args below meth c s.heap [] 0 0 (qRO below args s r) (F0 m 4 ls [])) {x2 : Int32} {x3 : Int32} {ls : Array Slot} (hl : lv_has ls 4 [(0, .ref (qfo 0)), (1, .int p1), (2, .int x2), (3, .int x3)]) (hp : Fi_dueIn_b4B ro p1 k4 x2 x3 = some r) : W p l e (rmD 1) s m args below meth c s.heap [] 0 0 (qRO below args s r) (F0 m 4 ls []) := by
  obtain ⟨hx, hb, hr, hml, hown, hts, hk⟩ := id C0
  unfold Fi_dueIn_b4B at hp
  refine lv_iload_n hx hb dX2_dueIn_4 rfl (lv_at hl 3 rfl) ?_
  refine lv_bipush (v := 20) hx hb dX2_dueIn_5 (by decide) ?_
  refine lv_icmp_ge (tgt := 48) hx hb dX2_dueIn_7 (by decide) (fun c_1 => ?_) (fun c_1 => ?_)
  · have hp := ite_p hp c_1
    refine lv_iload_n hx hb dX2_dueIn_48 rfl (lv_at hl 2 rfl) ?_
    exact e_ROi hx hb hr hk dX2_dueIn_49 (Option.some.inj hp)
  · have hp := ite_n hp c_1
    refine lv_iload_n hx hb dX2_dueIn_10 rfl (lv_at hl 2 rfl) ?_
    refine lv_aload_n hx hb dX2_dueIn_11 rfl (lv_at hl 0 rfl) ?_
    refine lv_iload_n hx hb dX2_dueIn_12 rfl (lv_at hl 3 rfl) ?_
    obtain ⟨r_3, hc_2, hp⟩ := bn1_s hp
    refine k_ROV (As := [.int x3]) (rest := [.int x2]) ⟨hx, hb, hml, hown, hts⟩ hK hP (cw_X2_107 hts ⟨Nat.le_of_ble_eq_true rfl, Nat.le_of_ble_eq_true rfl⟩) 0 (ci := 2) rfl rfl rfl (c_X2_isFlight l D cy qfo qro qra qvc qos qli fo ro ra vc os li x3 r_3 hc_2) rfl hl.1 (Nat.le_of_ble_eq_true rfl) ⟨Nat.le_refl _, Nat.le_refl _⟩ dX2_dueIn_13 ?_
    refine lv_if_eq (tgt := 39) hx hb dX2_dueIn_16 (by decide) (fun c_4 => ?_) (fun c_4 => ?_)
    · have hp := ite_p hp c_4
      refine lv_iconst (v := 0) hx hb dX2_dueIn_39 (by decide) ?_
      refine lv_iadd hx hb dX2_dueIn_40 ?_
      refine lv_topi (fun x2_5 ex2_5 => ?_)
      have hp := stk_e hp ex2_5
      refine lv_istore_n (lv' := [(2, .int x2_5), (0, .ref (qfo 0)), (1, .int p1), (3, .int x3)]) hx hb dX2_dueIn_41 rfl hl (by decide) rfl (fun ls hl => ?_)
      obtain ⟨x3_6, ex3_6⟩ : ∃ y : Int32, y = x3 + 1 := ⟨_, rfl⟩
      have hp := stk_e hp ex3_6
      refine lv_iinc (v := x3_6) (lv' := [(3, .int x3_6), (2, .int x2_5), (0, .ref (qfo 0)), (1, .int p1)]) hx hb dX2_dueIn_42 hl (k := 3) rfl (by rw [ex3_6]; rfl) (by decide) rfl (fun ls hl => ?_)
      refine lv_goto (tgt := 4) hx hb dX2_dueIn_45 (by decide) ?_
      exact hk4 x2_5 x3_6 _ (lv_sub hl [2, 3, 1, 0] rfl) hp
    · have hp := ite_n hp c_4
      refine lv_aload_n hx hb dX2_dueIn_19 rfl (lv_at hl 0 rfl) ?_
      refine gf_X2_12 hx hb hts hown hK hP 0 rfl rfl dX2_dueIn_20 ?_
      refine gf_X2_114 hx hb hts hown hK hP 4 rfl rfl dX2_dueIn_23 ?_
      refine lv_iload_n hx hb dX2_dueIn_26 rfl (lv_at hl 3 rfl) ?_
      obtain ⟨hi_7, hp⟩ := ckI_s hp
      refine r_ild hx hb hK hP 6 rfl hi_7 dX2_dueIn_27 ?_
      refine lv_bipush (v := 60) hx hb dX2_dueIn_28 (by decide) ?_
      refine lv_idiv hx hb dX2_dueIn_30 (by decide) ?_
      refine lv_iload_n hx hb dX2_dueIn_31 rfl (lv_at hl 1 rfl) ?_
      refine lv_icmp_ne (tgt := 39) hx hb dX2_dueIn_32 (by decide) (fun c_8 => ?_) (fun c_8 => ?_)
      · have hp := ite_n hp c_8
        refine lv_iconst (v := 0) hx hb dX2_dueIn_39 (by decide) ?_
        refine lv_iadd hx hb dX2_dueIn_40 ?_
        refine lv_topi (fun x2_9 ex2_9 => ?_)
        have hp := stk_e hp ex2_9
        refine lv_istore_n (lv' := [(2, .int x2_9), (0, .ref (qfo 0)), (1, .int p1), (3, .int x3)]) hx hb dX2_dueIn_41 rfl hl (by decide) rfl (fun ls hl => ?_)
        obtain ⟨x3_10, ex3_10⟩ : ∃ y : Int32, y = x3 + 1 := ⟨_, rfl⟩
        have hp := stk_e hp ex3_10
        refine lv_iinc (v := x3_10) (lv' := [(3, .int x3_10), (2, .int x2_9), (0, .ref (qfo 0)), (1, .int p1)]) hx hb dX2_dueIn_42 hl (k := 3) rfl (by rw [ex3_10]; rfl) (by decide) rfl (fun ls hl => ?_)
        refine lv_goto (tgt := 4) hx hb dX2_dueIn_45 (by decide) ?_
        exact hk4 x2_9 x3_10 _ (lv_sub hl [2, 3, 1, 0] rfl) hp
      · have hp := ite_p hp c_8
        refine lv_iconst (v := 1) hx hb dX2_dueIn_35 (by decide) ?_
        refine lv_goto (tgt := 40) hx hb dX2_dueIn_36 (by decide) ?_
        refine lv_iadd hx hb dX2_dueIn_40 ?_
        refine lv_topi (fun x2_11 ex2_11 => ?_)
        have hp := stk_e hp ex2_11
        refine lv_istore_n (lv' := [(2, .int x2_11), (0, .ref (qfo 0)), (1, .int p1), (3, .int x3)]) hx hb dX2_dueIn_41 rfl hl (by decide) rfl (fun ls hl => ?_)
        obtain ⟨x3_12, ex3_12⟩ : ∃ y : Int32, y = x3 + 1 := ⟨_, rfl⟩
        have hp := stk_e hp ex3_12
        refine lv_iinc (v := x3_12) (lv' := [(3, .int x3_12), (2, .int x2_11), (0, .ref (qfo 0)), (1, .int p1)]) hx hb dX2_dueIn_42 hl (k := 3) rfl (by rw [ex3_12]; rfl) (by decide) rfl (fun ls hl => ?_)
        refine lv_goto (tgt := 4) hx hb dX2_dueIn_45 (by decide) ?_
        exact hk4 x2_11 x3_12 _ (lv_sub hl [2, 3, 1, 0] rfl) hp
theorem Fi_dueIn_b4_w (C0 : cX RX2 cX2_dueIn (some .int) 4 p s m args meth c) (hK : kN D cy s) {qfo qro qra qvc qos qli : Nat → Nat} {fo ro ra vc os li : Mem} {p1 : Int32} {r : Int32} (hP : va_P D vwCl (w_Fi cy qfo qro qra qvc qos qli fo ro ra vc os li) s.heap) : ∀ (n : Nat) (x2 x3 : Int32) (ls : Array Slot), lv_has ls 4 [(0, .ref (qfo 0)), (1, .int p1), (2, .int x2), (3, .int x3)] → Fi_dueIn_b4 ro p1 n x2 x3 = some r → W p l e (rmD 1) s m args below meth c s.heap [] 0 0 (qRO below args s r) (F0 m 4 ls []) := by
  intro n
  induction n with
  | zero =>
    intro x2 x3 ls hl hp
    cases hp
  | succ n ih =>
    intro x2 x3 ls hl hp
    exact Fi_dueIn_b4B_w C0 hK hP  (fun x2 x3 ls hl hp => ih x2 x3 ls hl hp) hl hp
set_option maxHeartbeats 4000000 in
set_option maxRecDepth 100000 in
theorem c_X2_dueIn (l : Launch) (D : va_G) (cy : Nat → ClassId) (qfo qro qra qvc qos qli : Nat → Nat) (fo ro ra vc os li : Mem) (p1 : Int32) (r : Int32) (hp : Fi_dueIn ro p1 = some r) : RO l yX2_dueIn cX2_dueIn 4 (some .int) 1 D cy [.ref (qfo 0), .int p1] (w_Fi cy qfo qro qra qvc qos qli fo ro ra vc os li) r := by
  refine RO_of RX2 rfl (by decide) (Nat.le_of_ble_eq_true rfl) ?_
  intro p e s m below meth c C0 hK hP ls hl
  obtain ⟨hx, hb, hr, hml, hown, hts, hk⟩ := id C0
  unfold Fi_dueIn at hp
  have hl : lv_has ls 4 [(0, .ref (qfo 0)), (1, .int p1)] := hl
  refine lv_iconst (v := 0) hx hb dX2_dueIn_0 (by decide) ?_
  refine lv_istore_n (lv' := [(2, .int 0), (0, .ref (qfo 0)), (1, .int p1)]) hx hb dX2_dueIn_1 rfl hl (by decide) rfl (fun ls hl => ?_)
  refine lv_iconst (v := 0) hx hb dX2_dueIn_2 (by decide) ?_
  refine lv_istore_n (lv' := [(3, .int 0), (2, .int 0), (0, .ref (qfo 0)), (1, .int p1)]) hx hb dX2_dueIn_3 rfl hl (by decide) rfl (fun ls hl => ?_)
  exact Fi_dueIn_b4_w C0 hK hP  fl 0 0 _ (lv_sub hl [2, 3, 1, 0] rfl) hp
/-! StormSlots$Field.seatedIn(I)I -/
def Fi_seatedIn_b4B (fo : Mem) (p1 : Int32) (k4 : Int32 → Int32 → Option (Int32)) (x2 : Int32) (x3 : Int32) : Option (Int32) :=
  if 20 ≤ x3 then some x2 else bn1 (Fi_isSeated fo x3) (fun r_3 => if r_3 = 0 then stk (x2 + 0) (fun x2_5 => stk (x3 + 1) (fun x3_6 => k4 x2_5 x3_6)) else ckI x3 20 (if ((fo 5 x3.toNatClampNeg) / 60) = p1 then stk (x2 + 1) (fun x2_11 => stk (x3 + 1) (fun x3_12 => k4 x2_11 x3_12)) else stk (x2 + 0) (fun x2_9 => stk (x3 + 1) (fun x3_10 => k4 x2_9 x3_10))))
def Fi_seatedIn_b4 (fo : Mem) (p1 : Int32) : Nat → Int32 → Int32 → Option (Int32)
  | 0 => fun _ _ => none
  | n + 1 => Fi_seatedIn_b4B fo p1 (Fi_seatedIn_b4 fo p1 n)
def Fi_seatedIn (fo : Mem) (p1 : Int32) : Option (Int32) :=
  Fi_seatedIn_b4 fo p1 fl 0 0
set_option maxHeartbeats 4000000 in
set_option maxRecDepth 100000 in
theorem Fi_seatedIn_b4B_w (C0 : cX RX2 cX2_seatedIn (some .int) 4 p s m args meth c) (hK : kN D cy s) {qfo qro qra qvc qos qli : Nat → Nat} {fo ro ra vc os li : Mem} {p1 : Int32} {r : Int32} (hP : va_P D vwCl (w_Fi cy qfo qro qra qvc qos qli fo ro ra vc os li) s.heap) {k4 : Int32 → Int32 → Option (Int32)} (hk4 : ∀ (x2 x3 : Int32) (ls : Array Slot), lv_has ls 4 [(0, .ref (qfo 0)), (1, .int p1), (2, .int x2), (3, .int x3)] → k4 x2 x3 = some r → W p l e (rmD 1) s m args below meth c s.heap [] 0 0 (qRO below args s r) (F0 m 4 ls [])) {x2 : Int32} {x3 : Int32} {ls : Array Slot} (hl : lv_has ls 4 [(0, .ref (qfo 0)), (1, .int p1), (2, .int x2), (3, .int x3)]) (hp : Fi_seatedIn_b4B fo p1 k4 x2 x3 = some r) : W p l e (rmD 1) s m args below meth c s.heap [] 0 0 (qRO below args s r) (F0 m 4 ls []) := by
  obtain ⟨hx, hb, hr, hml, hown, hts, hk⟩ := id C0
  unfold Fi_seatedIn_b4B at hp
  refine lv_iload_n hx hb dX2_seatedIn_4 rfl (lv_at hl 3 rfl) ?_
  refine lv_bipush (v := 20) hx hb dX2_seatedIn_5 (by decide) ?_
  refine lv_icmp_ge (tgt := 45) hx hb dX2_seatedIn_7 (by decide) (fun c_1 => ?_) (fun c_1 => ?_)
  · have hp := ite_p hp c_1
    refine lv_iload_n hx hb dX2_seatedIn_45 rfl (lv_at hl 2 rfl) ?_
    exact e_ROi hx hb hr hk dX2_seatedIn_46 (Option.some.inj hp)
  · have hp := ite_n hp c_1
    refine lv_iload_n hx hb dX2_seatedIn_10 rfl (lv_at hl 2 rfl) ?_
    refine lv_aload_n hx hb dX2_seatedIn_11 rfl (lv_at hl 0 rfl) ?_
    refine lv_iload_n hx hb dX2_seatedIn_12 rfl (lv_at hl 3 rfl) ?_
    obtain ⟨r_3, hc_2, hp⟩ := bn1_s hp
    refine k_ROV (As := [.int x3]) (rest := [.int x2]) ⟨hx, hb, hml, hown, hts⟩ hK hP (cw_X2_126 hts ⟨Nat.le_of_ble_eq_true rfl, Nat.le_of_ble_eq_true rfl⟩) 0 (ci := 2) rfl rfl rfl (c_X2_isSeated l D cy qfo qro qra qvc qos qli fo ro ra vc os li x3 r_3 hc_2) rfl hl.1 (Nat.le_of_ble_eq_true rfl) ⟨Nat.le_refl _, Nat.le_refl _⟩ dX2_seatedIn_13 ?_
    refine lv_if_eq (tgt := 36) hx hb dX2_seatedIn_16 (by decide) (fun c_4 => ?_) (fun c_4 => ?_)
    · have hp := ite_p hp c_4
      refine lv_iconst (v := 0) hx hb dX2_seatedIn_36 (by decide) ?_
      refine lv_iadd hx hb dX2_seatedIn_37 ?_
      refine lv_topi (fun x2_5 ex2_5 => ?_)
      have hp := stk_e hp ex2_5
      refine lv_istore_n (lv' := [(2, .int x2_5), (0, .ref (qfo 0)), (1, .int p1), (3, .int x3)]) hx hb dX2_seatedIn_38 rfl hl (by decide) rfl (fun ls hl => ?_)
      obtain ⟨x3_6, ex3_6⟩ : ∃ y : Int32, y = x3 + 1 := ⟨_, rfl⟩
      have hp := stk_e hp ex3_6
      refine lv_iinc (v := x3_6) (lv' := [(3, .int x3_6), (2, .int x2_5), (0, .ref (qfo 0)), (1, .int p1)]) hx hb dX2_seatedIn_39 hl (k := 3) rfl (by rw [ex3_6]; rfl) (by decide) rfl (fun ls hl => ?_)
      refine lv_goto (tgt := 4) hx hb dX2_seatedIn_42 (by decide) ?_
      exact hk4 x2_5 x3_6 _ (lv_sub hl [2, 3, 1, 0] rfl) hp
    · have hp := ite_n hp c_4
      refine lv_aload_n hx hb dX2_seatedIn_19 rfl (lv_at hl 0 rfl) ?_
      refine gf_X2_46 hx hb hts hown hK hP 0 rfl rfl dX2_seatedIn_20 ?_
      refine lv_iload_n hx hb dX2_seatedIn_23 rfl (lv_at hl 3 rfl) ?_
      obtain ⟨hi_7, hp⟩ := ckI_s hp
      refine r_ild hx hb hK hP 1 rfl hi_7 dX2_seatedIn_24 ?_
      refine lv_bipush (v := 60) hx hb dX2_seatedIn_25 (by decide) ?_
      refine lv_idiv hx hb dX2_seatedIn_27 (by decide) ?_
      refine lv_iload_n hx hb dX2_seatedIn_28 rfl (lv_at hl 1 rfl) ?_
      refine lv_icmp_ne (tgt := 36) hx hb dX2_seatedIn_29 (by decide) (fun c_8 => ?_) (fun c_8 => ?_)
      · have hp := ite_n hp c_8
        refine lv_iconst (v := 0) hx hb dX2_seatedIn_36 (by decide) ?_
        refine lv_iadd hx hb dX2_seatedIn_37 ?_
        refine lv_topi (fun x2_9 ex2_9 => ?_)
        have hp := stk_e hp ex2_9
        refine lv_istore_n (lv' := [(2, .int x2_9), (0, .ref (qfo 0)), (1, .int p1), (3, .int x3)]) hx hb dX2_seatedIn_38 rfl hl (by decide) rfl (fun ls hl => ?_)
        obtain ⟨x3_10, ex3_10⟩ : ∃ y : Int32, y = x3 + 1 := ⟨_, rfl⟩
        have hp := stk_e hp ex3_10
        refine lv_iinc (v := x3_10) (lv' := [(3, .int x3_10), (2, .int x2_9), (0, .ref (qfo 0)), (1, .int p1)]) hx hb dX2_seatedIn_39 hl (k := 3) rfl (by rw [ex3_10]; rfl) (by decide) rfl (fun ls hl => ?_)
        refine lv_goto (tgt := 4) hx hb dX2_seatedIn_42 (by decide) ?_
        exact hk4 x2_9 x3_10 _ (lv_sub hl [2, 3, 1, 0] rfl) hp
      · have hp := ite_p hp c_8
        refine lv_iconst (v := 1) hx hb dX2_seatedIn_32 (by decide) ?_
        refine lv_goto (tgt := 37) hx hb dX2_seatedIn_33 (by decide) ?_
        refine lv_iadd hx hb dX2_seatedIn_37 ?_
        refine lv_topi (fun x2_11 ex2_11 => ?_)
        have hp := stk_e hp ex2_11
        refine lv_istore_n (lv' := [(2, .int x2_11), (0, .ref (qfo 0)), (1, .int p1), (3, .int x3)]) hx hb dX2_seatedIn_38 rfl hl (by decide) rfl (fun ls hl => ?_)
        obtain ⟨x3_12, ex3_12⟩ : ∃ y : Int32, y = x3 + 1 := ⟨_, rfl⟩
        have hp := stk_e hp ex3_12
        refine lv_iinc (v := x3_12) (lv' := [(3, .int x3_12), (2, .int x2_11), (0, .ref (qfo 0)), (1, .int p1)]) hx hb dX2_seatedIn_39 hl (k := 3) rfl (by rw [ex3_12]; rfl) (by decide) rfl (fun ls hl => ?_)
        refine lv_goto (tgt := 4) hx hb dX2_seatedIn_42 (by decide) ?_
        exact hk4 x2_11 x3_12 _ (lv_sub hl [2, 3, 1, 0] rfl) hp
theorem Fi_seatedIn_b4_w (C0 : cX RX2 cX2_seatedIn (some .int) 4 p s m args meth c) (hK : kN D cy s) {qfo qro qra qvc qos qli : Nat → Nat} {fo ro ra vc os li : Mem} {p1 : Int32} {r : Int32} (hP : va_P D vwCl (w_Fi cy qfo qro qra qvc qos qli fo ro ra vc os li) s.heap) : ∀ (n : Nat) (x2 x3 : Int32) (ls : Array Slot), lv_has ls 4 [(0, .ref (qfo 0)), (1, .int p1), (2, .int x2), (3, .int x3)] → Fi_seatedIn_b4 fo p1 n x2 x3 = some r → W p l e (rmD 1) s m args below meth c s.heap [] 0 0 (qRO below args s r) (F0 m 4 ls []) := by
  intro n
  induction n with
  | zero =>
    intro x2 x3 ls hl hp
    cases hp
  | succ n ih =>
    intro x2 x3 ls hl hp
    exact Fi_seatedIn_b4B_w C0 hK hP  (fun x2 x3 ls hl hp => ih x2 x3 ls hl hp) hl hp
set_option maxHeartbeats 4000000 in
set_option maxRecDepth 100000 in
theorem c_X2_seatedIn (l : Launch) (D : va_G) (cy : Nat → ClassId) (qfo qro qra qvc qos qli : Nat → Nat) (fo ro ra vc os li : Mem) (p1 : Int32) (r : Int32) (hp : Fi_seatedIn fo p1 = some r) : RO l yX2_seatedIn cX2_seatedIn 4 (some .int) 1 D cy [.ref (qfo 0), .int p1] (w_Fi cy qfo qro qra qvc qos qli fo ro ra vc os li) r := by
  refine RO_of RX2 rfl (by decide) (Nat.le_of_ble_eq_true rfl) ?_
  intro p e s m below meth c C0 hK hP ls hl
  obtain ⟨hx, hb, hr, hml, hown, hts, hk⟩ := id C0
  unfold Fi_seatedIn at hp
  have hl : lv_has ls 4 [(0, .ref (qfo 0)), (1, .int p1)] := hl
  refine lv_iconst (v := 0) hx hb dX2_seatedIn_0 (by decide) ?_
  refine lv_istore_n (lv' := [(2, .int 0), (0, .ref (qfo 0)), (1, .int p1)]) hx hb dX2_seatedIn_1 rfl hl (by decide) rfl (fun ls hl => ?_)
  refine lv_iconst (v := 0) hx hb dX2_seatedIn_2 (by decide) ?_
  refine lv_istore_n (lv' := [(3, .int 0), (2, .int 0), (0, .ref (qfo 0)), (1, .int p1)]) hx hb dX2_seatedIn_3 rfl hl (by decide) rfl (fun ls hl => ?_)
  exact Fi_seatedIn_b4_w C0 hK hP  fl 0 0 _ (lv_sub hl [2, 3, 1, 0] rfl) hp
/-! StormSlots$Field.underWay(I)I -/
def Fi_underWay_b4B (fo : Mem) (ro : Mem) (p1 : Int32) (k4 : Int32 → Int32 → Option (Int32)) (x2 : Int32) (x3 : Int32) : Option (Int32) :=
  if 20 ≤ x3 then some x2 else bn1 (Fi_isSeated fo x3) (fun r_3 => if r_3 = 0 then stk (x3 + 1) (fun x3_5 => k4 x2 x3_5) else bn1 (Fi_goesOff fo ro x3) (fun r_7 => if p1 < r_7 then stk (x3 + 1) (fun x3_9 => k4 x2 x3_9) else ckI x3 20 (if (fo 5 x3.toNatClampNeg) ≤ p1 then stk (x3 + 1) (fun x3_12 => k4 x2 x3_12) else stk (x2 ||| ((1 : Int32) <<< (x3 &&& 31))) (fun x2_13 => stk (x3 + 1) (fun x3_14 => k4 x2_13 x3_14)))))
def Fi_underWay_b4 (fo : Mem) (ro : Mem) (p1 : Int32) : Nat → Int32 → Int32 → Option (Int32)
  | 0 => fun _ _ => none
  | n + 1 => Fi_underWay_b4B fo ro p1 (Fi_underWay_b4 fo ro p1 n)
def Fi_underWay (fo : Mem) (ro : Mem) (p1 : Int32) : Option (Int32) :=
  Fi_underWay_b4 fo ro p1 fl 0 0
set_option maxHeartbeats 4000000 in
set_option maxRecDepth 100000 in
theorem Fi_underWay_b4B_w (C0 : cX RX2 cX2_underWay (some .int) 4 p s m args meth c) (hK : kN D cy s) {qfo qro qra qvc qos qli : Nat → Nat} {fo ro ra vc os li : Mem} {p1 : Int32} {r : Int32} (hP : va_P D vwCl (w_Fi cy qfo qro qra qvc qos qli fo ro ra vc os li) s.heap) {k4 : Int32 → Int32 → Option (Int32)} (hk4 : ∀ (x2 x3 : Int32) (ls : Array Slot), lv_has ls 4 [(0, .ref (qfo 0)), (1, .int p1), (2, .int x2), (3, .int x3)] → k4 x2 x3 = some r → W p l e (rmD 1) s m args below meth c s.heap [] 0 0 (qRO below args s r) (F0 m 4 ls [])) {x2 : Int32} {x3 : Int32} {ls : Array Slot} (hl : lv_has ls 4 [(0, .ref (qfo 0)), (1, .int p1), (2, .int x2), (3, .int x3)]) (hp : Fi_underWay_b4B fo ro p1 k4 x2 x3 = some r) : W p l e (rmD 1) s m args below meth c s.heap [] 0 0 (qRO below args s r) (F0 m 4 ls []) := by
  obtain ⟨hx, hb, hr, hml, hown, hts, hk⟩ := id C0
  unfold Fi_underWay_b4B at hp
  refine lv_iload_n hx hb dX2_underWay_4 rfl (lv_at hl 3 rfl) ?_
  refine lv_bipush (v := 20) hx hb dX2_underWay_5 (by decide) ?_
  refine lv_icmp_ge (tgt := 49) hx hb dX2_underWay_7 (by decide) (fun c_1 => ?_) (fun c_1 => ?_)
  · have hp := ite_p hp c_1
    refine lv_iload_n hx hb dX2_underWay_49 rfl (lv_at hl 2 rfl) ?_
    exact e_ROi hx hb hr hk dX2_underWay_50 (Option.some.inj hp)
  · have hp := ite_n hp c_1
    refine lv_aload_n hx hb dX2_underWay_10 rfl (lv_at hl 0 rfl) ?_
    refine lv_iload_n hx hb dX2_underWay_11 rfl (lv_at hl 3 rfl) ?_
    obtain ⟨r_3, hc_2, hp⟩ := bn1_s hp
    refine k_ROV (As := [.int x3]) (rest := []) ⟨hx, hb, hml, hown, hts⟩ hK hP (cw_X2_126 hts ⟨Nat.le_of_ble_eq_true rfl, Nat.le_of_ble_eq_true rfl⟩) 0 (ci := 2) rfl rfl rfl (c_X2_isSeated l D cy qfo qro qra qvc qos qli fo ro ra vc os li x3 r_3 hc_2) rfl hl.1 (Nat.le_of_ble_eq_true rfl) ⟨Nat.le_refl _, Nat.le_refl _⟩ dX2_underWay_12 ?_
    refine lv_if_eq (tgt := 43) hx hb dX2_underWay_15 (by decide) (fun c_4 => ?_) (fun c_4 => ?_)
    · have hp := ite_p hp c_4
      obtain ⟨x3_5, ex3_5⟩ : ∃ y : Int32, y = x3 + 1 := ⟨_, rfl⟩
      have hp := stk_e hp ex3_5
      refine lv_iinc (v := x3_5) (lv' := [(3, .int x3_5), (0, .ref (qfo 0)), (1, .int p1), (2, .int x2)]) hx hb dX2_underWay_43 hl (k := 3) rfl (by rw [ex3_5]; rfl) (by decide) rfl (fun ls hl => ?_)
      refine lv_goto (tgt := 4) hx hb dX2_underWay_46 (by decide) ?_
      exact hk4 x2 x3_5 _ (lv_sub hl [1, 2, 3, 0] rfl) hp
    · have hp := ite_n hp c_4
      refine lv_aload_n hx hb dX2_underWay_18 rfl (lv_at hl 0 rfl) ?_
      refine lv_iload_n hx hb dX2_underWay_19 rfl (lv_at hl 3 rfl) ?_
      obtain ⟨r_7, hc_6, hp⟩ := bn1_s hp
      refine k_ROV (As := [.int x3]) (rest := []) ⟨hx, hb, hml, hown, hts⟩ hK hP (cw_X2_129 hts ⟨Nat.le_of_ble_eq_true rfl, Nat.le_of_ble_eq_true rfl⟩) 0 (ci := 2) rfl rfl rfl (c_X2_goesOff l D cy qfo qro qra qvc qos qli fo ro ra vc os li x3 r_7 hc_6) rfl hl.1 (Nat.le_of_ble_eq_true rfl) ⟨Nat.le_refl _, Nat.le_refl _⟩ dX2_underWay_20 ?_
      refine lv_iload_n hx hb dX2_underWay_23 rfl (lv_at hl 1 rfl) ?_
      refine lv_icmp_gt (tgt := 43) hx hb dX2_underWay_24 (by decide) (fun c_8 => ?_) (fun c_8 => ?_)
      · have hp := ite_p hp c_8
        obtain ⟨x3_9, ex3_9⟩ : ∃ y : Int32, y = x3 + 1 := ⟨_, rfl⟩
        have hp := stk_e hp ex3_9
        refine lv_iinc (v := x3_9) (lv' := [(3, .int x3_9), (0, .ref (qfo 0)), (1, .int p1), (2, .int x2)]) hx hb dX2_underWay_43 hl (k := 3) rfl (by rw [ex3_9]; rfl) (by decide) rfl (fun ls hl => ?_)
        refine lv_goto (tgt := 4) hx hb dX2_underWay_46 (by decide) ?_
        exact hk4 x2 x3_9 _ (lv_sub hl [1, 2, 3, 0] rfl) hp
      · have hp := ite_n hp c_8
        refine lv_aload_n hx hb dX2_underWay_27 rfl (lv_at hl 0 rfl) ?_
        refine gf_X2_46 hx hb hts hown hK hP 0 rfl rfl dX2_underWay_28 ?_
        refine lv_iload_n hx hb dX2_underWay_31 rfl (lv_at hl 3 rfl) ?_
        obtain ⟨hi_10, hp⟩ := ckI_s hp
        refine r_ild hx hb hK hP 1 rfl hi_10 dX2_underWay_32 ?_
        refine lv_iload_n hx hb dX2_underWay_33 rfl (lv_at hl 1 rfl) ?_
        refine lv_icmp_le (tgt := 43) hx hb dX2_underWay_34 (by decide) (fun c_11 => ?_) (fun c_11 => ?_)
        · have hp := ite_p hp c_11
          obtain ⟨x3_12, ex3_12⟩ : ∃ y : Int32, y = x3 + 1 := ⟨_, rfl⟩
          have hp := stk_e hp ex3_12
          refine lv_iinc (v := x3_12) (lv' := [(3, .int x3_12), (0, .ref (qfo 0)), (1, .int p1), (2, .int x2)]) hx hb dX2_underWay_43 hl (k := 3) rfl (by rw [ex3_12]; rfl) (by decide) rfl (fun ls hl => ?_)
          refine lv_goto (tgt := 4) hx hb dX2_underWay_46 (by decide) ?_
          exact hk4 x2 x3_12 _ (lv_sub hl [1, 2, 3, 0] rfl) hp
        · have hp := ite_n hp c_11
          refine lv_iload_n hx hb dX2_underWay_37 rfl (lv_at hl 2 rfl) ?_
          refine lv_iconst (v := 1) hx hb dX2_underWay_38 (by decide) ?_
          refine lv_iload_n hx hb dX2_underWay_39 rfl (lv_at hl 3 rfl) ?_
          refine lv_ishl hx hb dX2_underWay_40 ?_
          refine lv_ior hx hb dX2_underWay_41 ?_
          refine lv_topi (fun x2_13 ex2_13 => ?_)
          have hp := stk_e hp ex2_13
          refine lv_istore_n (lv' := [(2, .int x2_13), (0, .ref (qfo 0)), (1, .int p1), (3, .int x3)]) hx hb dX2_underWay_42 rfl hl (by decide) rfl (fun ls hl => ?_)
          obtain ⟨x3_14, ex3_14⟩ : ∃ y : Int32, y = x3 + 1 := ⟨_, rfl⟩
          have hp := stk_e hp ex3_14
          refine lv_iinc (v := x3_14) (lv' := [(3, .int x3_14), (2, .int x2_13), (0, .ref (qfo 0)), (1, .int p1)]) hx hb dX2_underWay_43 hl (k := 3) rfl (by rw [ex3_14]; rfl) (by decide) rfl (fun ls hl => ?_)
          refine lv_goto (tgt := 4) hx hb dX2_underWay_46 (by decide) ?_
          exact hk4 x2_13 x3_14 _ (lv_sub hl [2, 3, 1, 0] rfl) hp
theorem Fi_underWay_b4_w (C0 : cX RX2 cX2_underWay (some .int) 4 p s m args meth c) (hK : kN D cy s) {qfo qro qra qvc qos qli : Nat → Nat} {fo ro ra vc os li : Mem} {p1 : Int32} {r : Int32} (hP : va_P D vwCl (w_Fi cy qfo qro qra qvc qos qli fo ro ra vc os li) s.heap) : ∀ (n : Nat) (x2 x3 : Int32) (ls : Array Slot), lv_has ls 4 [(0, .ref (qfo 0)), (1, .int p1), (2, .int x2), (3, .int x3)] → Fi_underWay_b4 fo ro p1 n x2 x3 = some r → W p l e (rmD 1) s m args below meth c s.heap [] 0 0 (qRO below args s r) (F0 m 4 ls []) := by
  intro n
  induction n with
  | zero =>
    intro x2 x3 ls hl hp
    cases hp
  | succ n ih =>
    intro x2 x3 ls hl hp
    exact Fi_underWay_b4B_w C0 hK hP  (fun x2 x3 ls hl hp => ih x2 x3 ls hl hp) hl hp
set_option maxHeartbeats 4000000 in
set_option maxRecDepth 100000 in
theorem c_X2_underWay (l : Launch) (D : va_G) (cy : Nat → ClassId) (qfo qro qra qvc qos qli : Nat → Nat) (fo ro ra vc os li : Mem) (p1 : Int32) (r : Int32) (hp : Fi_underWay fo ro p1 = some r) : RO l yX2_underWay cX2_underWay 4 (some .int) 1 D cy [.ref (qfo 0), .int p1] (w_Fi cy qfo qro qra qvc qos qli fo ro ra vc os li) r := by
  refine RO_of RX2 rfl (by decide) (Nat.le_of_ble_eq_true rfl) ?_
  intro p e s m below meth c C0 hK hP ls hl
  obtain ⟨hx, hb, hr, hml, hown, hts, hk⟩ := id C0
  unfold Fi_underWay at hp
  have hl : lv_has ls 4 [(0, .ref (qfo 0)), (1, .int p1)] := hl
  refine lv_iconst (v := 0) hx hb dX2_underWay_0 (by decide) ?_
  refine lv_istore_n (lv' := [(2, .int 0), (0, .ref (qfo 0)), (1, .int p1)]) hx hb dX2_underWay_1 rfl hl (by decide) rfl (fun ls hl => ?_)
  refine lv_iconst (v := 0) hx hb dX2_underWay_2 (by decide) ?_
  refine lv_istore_n (lv' := [(3, .int 0), (2, .int 0), (0, .ref (qfo 0)), (1, .int p1)]) hx hb dX2_underWay_3 rfl hl (by decide) rfl (fun ls hl => ?_)
  exact Fi_underWay_b4_w C0 hK hP  fl 0 0 _ (lv_sub hl [2, 3, 1, 0] rfl) hp
/-! StormSlots$Field.landsNext(I)I -/
def Fi_landsNext_b4B (fo : Mem) (p1 : Int32) (k4 : Int32 → Int32 → Option (Int32)) (x2 : Int32) (x3 : Int32) : Option (Int32) :=
  if 20 ≤ x3 then if x2 = (-1) then some (-2) else some x2 else bn1 (Fi_isSeated fo x3) (fun r_4 => if r_4 = 0 then stk (x3 + 1) (fun x3_6 => k4 x2 x3_6) else ckI x3 20 (if (fo 5 x3.toNatClampNeg) < p1 then stk (x3 + 1) (fun x3_9 => k4 x2 x3_9) else bn1 (Fi_earlierSeated fo x2 x3) (fun r_11 => stk (x3 + 1) (fun x3_12 => k4 r_11 x3_12))))
def Fi_landsNext_b4 (fo : Mem) (p1 : Int32) : Nat → Int32 → Int32 → Option (Int32)
  | 0 => fun _ _ => none
  | n + 1 => Fi_landsNext_b4B fo p1 (Fi_landsNext_b4 fo p1 n)
def Fi_landsNext (fo : Mem) (p1 : Int32) : Option (Int32) :=
  Fi_landsNext_b4 fo p1 fl (-1) 0
set_option maxHeartbeats 4000000 in
set_option maxRecDepth 100000 in
theorem Fi_landsNext_b4B_w (C0 : cX RX2 cX2_landsNext (some .int) 4 p s m args meth c) (hK : kN D cy s) {qfo qro qra qvc qos qli : Nat → Nat} {fo ro ra vc os li : Mem} {p1 : Int32} {r : Int32} (hP : va_P D vwCl (w_Fi cy qfo qro qra qvc qos qli fo ro ra vc os li) s.heap) {k4 : Int32 → Int32 → Option (Int32)} (hk4 : ∀ (x2 x3 : Int32) (ls : Array Slot), lv_has ls 4 [(0, .ref (qfo 0)), (1, .int p1), (2, .int x2), (3, .int x3)] → k4 x2 x3 = some r → W p l e (rmD 2) s m args below meth c s.heap [] 0 0 (qRO below args s r) (F0 m 4 ls [])) {x2 : Int32} {x3 : Int32} {ls : Array Slot} (hl : lv_has ls 4 [(0, .ref (qfo 0)), (1, .int p1), (2, .int x2), (3, .int x3)]) (hp : Fi_landsNext_b4B fo p1 k4 x2 x3 = some r) : W p l e (rmD 2) s m args below meth c s.heap [] 0 0 (qRO below args s r) (F0 m 4 ls []) := by
  obtain ⟨hx, hb, hr, hml, hown, hts, hk⟩ := id C0
  unfold Fi_landsNext_b4B at hp
  refine lv_iload_n hx hb dX2_landsNext_4 rfl (lv_at hl 3 rfl) ?_
  refine lv_bipush (v := 20) hx hb dX2_landsNext_5 (by decide) ?_
  refine lv_icmp_ge (tgt := 41) hx hb dX2_landsNext_7 (by decide) (fun c_1 => ?_) (fun c_1 => ?_)
  · have hp := ite_p hp c_1
    refine lv_iload_n hx hb dX2_landsNext_41 rfl (lv_at hl 2 rfl) ?_
    refine lv_iconst (v := (-1)) hx hb dX2_landsNext_42 (by decide) ?_
    refine lv_icmp_ne (tgt := 51) hx hb dX2_landsNext_43 (by decide) (fun c_2 => ?_) (fun c_2 => ?_)
    · have hp := ite_n hp c_2
      refine lv_iload_n hx hb dX2_landsNext_51 rfl (lv_at hl 2 rfl) ?_
      exact e_ROi hx hb hr hk dX2_landsNext_52 (Option.some.inj hp)
    · have hp := ite_p hp c_2
      refine lv_bipush (v := (-2)) hx hb dX2_landsNext_46 (by decide) ?_
      refine lv_goto (tgt := 52) hx hb dX2_landsNext_48 (by decide) ?_
      exact e_ROi hx hb hr hk dX2_landsNext_52 (Option.some.inj hp)
  · have hp := ite_n hp c_1
    refine lv_aload_n hx hb dX2_landsNext_10 rfl (lv_at hl 0 rfl) ?_
    refine lv_iload_n hx hb dX2_landsNext_11 rfl (lv_at hl 3 rfl) ?_
    obtain ⟨r_4, hc_3, hp⟩ := bn1_s hp
    refine k_ROV (As := [.int x3]) (rest := []) ⟨hx, hb, hml, hown, hts⟩ hK hP (cw_X2_126 hts ⟨Nat.le_of_ble_eq_true rfl, Nat.le_of_ble_eq_true rfl⟩) 0 (ci := 2) rfl rfl rfl (c_X2_isSeated l D cy qfo qro qra qvc qos qli fo ro ra vc os li x3 r_4 hc_3) rfl hl.1 (Nat.le_of_ble_eq_true rfl) ⟨Nat.le_refl _, Nat.le_refl _⟩ dX2_landsNext_12 ?_
    refine lv_if_eq (tgt := 35) hx hb dX2_landsNext_15 (by decide) (fun c_5 => ?_) (fun c_5 => ?_)
    · have hp := ite_p hp c_5
      obtain ⟨x3_6, ex3_6⟩ : ∃ y : Int32, y = x3 + 1 := ⟨_, rfl⟩
      have hp := stk_e hp ex3_6
      refine lv_iinc (v := x3_6) (lv' := [(3, .int x3_6), (0, .ref (qfo 0)), (1, .int p1), (2, .int x2)]) hx hb dX2_landsNext_35 hl (k := 3) rfl (by rw [ex3_6]; rfl) (by decide) rfl (fun ls hl => ?_)
      refine lv_goto (tgt := 4) hx hb dX2_landsNext_38 (by decide) ?_
      exact hk4 x2 x3_6 _ (lv_sub hl [1, 2, 3, 0] rfl) hp
    · have hp := ite_n hp c_5
      refine lv_aload_n hx hb dX2_landsNext_18 rfl (lv_at hl 0 rfl) ?_
      refine gf_X2_46 hx hb hts hown hK hP 0 rfl rfl dX2_landsNext_19 ?_
      refine lv_iload_n hx hb dX2_landsNext_22 rfl (lv_at hl 3 rfl) ?_
      obtain ⟨hi_7, hp⟩ := ckI_s hp
      refine r_ild hx hb hK hP 1 rfl hi_7 dX2_landsNext_23 ?_
      refine lv_iload_n hx hb dX2_landsNext_24 rfl (lv_at hl 1 rfl) ?_
      refine lv_icmp_lt (tgt := 35) hx hb dX2_landsNext_25 (by decide) (fun c_8 => ?_) (fun c_8 => ?_)
      · have hp := ite_p hp c_8
        obtain ⟨x3_9, ex3_9⟩ : ∃ y : Int32, y = x3 + 1 := ⟨_, rfl⟩
        have hp := stk_e hp ex3_9
        refine lv_iinc (v := x3_9) (lv' := [(3, .int x3_9), (0, .ref (qfo 0)), (1, .int p1), (2, .int x2)]) hx hb dX2_landsNext_35 hl (k := 3) rfl (by rw [ex3_9]; rfl) (by decide) rfl (fun ls hl => ?_)
        refine lv_goto (tgt := 4) hx hb dX2_landsNext_38 (by decide) ?_
        exact hk4 x2 x3_9 _ (lv_sub hl [1, 2, 3, 0] rfl) hp
      · have hp := ite_n hp c_8
        refine lv_aload_n hx hb dX2_landsNext_28 rfl (lv_at hl 0 rfl) ?_
        refine lv_iload_n hx hb dX2_landsNext_29 rfl (lv_at hl 2 rfl) ?_
        refine lv_iload_n hx hb dX2_landsNext_30 rfl (lv_at hl 3 rfl) ?_
        obtain ⟨r_11, hc_10, hp⟩ := bn1_s hp
        refine k_ROV (As := [.int x2, .int x3]) (rest := []) ⟨hx, hb, hml, hown, hts⟩ hK hP (cw_X2_172 hts ⟨Nat.le_of_ble_eq_true rfl, Nat.le_of_ble_eq_true rfl⟩) 0 (ci := 2) rfl rfl rfl (c_X2_earlierSeated l D cy qfo qro qra qvc qos qli fo ro ra vc os li x2 x3 r_11 hc_10) rfl hl.1 (Nat.le_of_ble_eq_true rfl) ⟨Nat.le_refl _, Nat.le_refl _⟩ dX2_landsNext_31 ?_
        refine lv_istore_n (lv' := [(2, .int r_11), (0, .ref (qfo 0)), (1, .int p1), (3, .int x3)]) hx hb dX2_landsNext_34 rfl hl (by decide) rfl (fun ls hl => ?_)
        obtain ⟨x3_12, ex3_12⟩ : ∃ y : Int32, y = x3 + 1 := ⟨_, rfl⟩
        have hp := stk_e hp ex3_12
        refine lv_iinc (v := x3_12) (lv' := [(3, .int x3_12), (2, .int r_11), (0, .ref (qfo 0)), (1, .int p1)]) hx hb dX2_landsNext_35 hl (k := 3) rfl (by rw [ex3_12]; rfl) (by decide) rfl (fun ls hl => ?_)
        refine lv_goto (tgt := 4) hx hb dX2_landsNext_38 (by decide) ?_
        exact hk4 r_11 x3_12 _ (lv_sub hl [2, 3, 1, 0] rfl) hp
theorem Fi_landsNext_b4_w (C0 : cX RX2 cX2_landsNext (some .int) 4 p s m args meth c) (hK : kN D cy s) {qfo qro qra qvc qos qli : Nat → Nat} {fo ro ra vc os li : Mem} {p1 : Int32} {r : Int32} (hP : va_P D vwCl (w_Fi cy qfo qro qra qvc qos qli fo ro ra vc os li) s.heap) : ∀ (n : Nat) (x2 x3 : Int32) (ls : Array Slot), lv_has ls 4 [(0, .ref (qfo 0)), (1, .int p1), (2, .int x2), (3, .int x3)] → Fi_landsNext_b4 fo p1 n x2 x3 = some r → W p l e (rmD 2) s m args below meth c s.heap [] 0 0 (qRO below args s r) (F0 m 4 ls []) := by
  intro n
  induction n with
  | zero =>
    intro x2 x3 ls hl hp
    cases hp
  | succ n ih =>
    intro x2 x3 ls hl hp
    exact Fi_landsNext_b4B_w C0 hK hP  (fun x2 x3 ls hl hp => ih x2 x3 ls hl hp) hl hp
set_option maxHeartbeats 4000000 in
set_option maxRecDepth 100000 in
theorem c_X2_landsNext (l : Launch) (D : va_G) (cy : Nat → ClassId) (qfo qro qra qvc qos qli : Nat → Nat) (fo ro ra vc os li : Mem) (p1 : Int32) (r : Int32) (hp : Fi_landsNext fo p1 = some r) : RO l yX2_landsNext cX2_landsNext 4 (some .int) 2 D cy [.ref (qfo 0), .int p1] (w_Fi cy qfo qro qra qvc qos qli fo ro ra vc os li) r := by
  refine RO_of RX2 rfl (by decide) (Nat.le_of_ble_eq_true rfl) ?_
  intro p e s m below meth c C0 hK hP ls hl
  obtain ⟨hx, hb, hr, hml, hown, hts, hk⟩ := id C0
  unfold Fi_landsNext at hp
  have hl : lv_has ls 4 [(0, .ref (qfo 0)), (1, .int p1)] := hl
  refine lv_iconst (v := (-1)) hx hb dX2_landsNext_0 (by decide) ?_
  refine lv_istore_n (lv' := [(2, .int (-1)), (0, .ref (qfo 0)), (1, .int p1)]) hx hb dX2_landsNext_1 rfl hl (by decide) rfl (fun ls hl => ?_)
  refine lv_iconst (v := 0) hx hb dX2_landsNext_2 (by decide) ?_
  refine lv_istore_n (lv' := [(3, .int 0), (2, .int (-1)), (0, .ref (qfo 0)), (1, .int p1)]) hx hb dX2_landsNext_3 rfl hl (by decide) rfl (fun ls hl => ?_)
  exact Fi_landsNext_b4_w C0 hK hP  fl (-1) 0 _ (lv_sub hl [2, 3, 1, 0] rfl) hp
end SG11field
